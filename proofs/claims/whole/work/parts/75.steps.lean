/-! ===== one call on both sides ===== -/
abbrev ow_2 (C : ow_C) (A L N : Int) (d : Nat) (y1 y2 : ow_Y) (vs : List ow_V) (M : ow_M) (K : Int → Int → ow_M → Prop) : Prop := ow_Sp C (EM A L N) d y1 (0, 0) ((3, 0) :: vs) M (fun r1 N1 => ow_Sp C (EM A L N) d y2 (0, 0) ((3, 83) :: vs) N1 (fun r2 N2 => K r1 r2 N2))
section STS
variable {C : ow_C} {A L N : Int} {d : Nat} {M M' T : ow_M} {K : Int → Int → ow_M → Prop} {c c' r r' : Int} {TT : Int → ow_M}
theorem gs_end (hG : gs A L N M) (gx1 : gx N M c c' r r' TT) (q : gq M M') (v : vw_R A L (gs_T TT r) M') (ct : ct_C M') (cc : cc_C M') : gs A L N M' := q.go hG ⟨c, c', r, r', TT, q.gx gx1, v⟩ ct cc
theorem gs_bk (hG : gs A L N M) (o : ∀ x i, ¬ (6 ≤ x ∧ x ≤ 9) → x ≠ 84 → M' x i = M x i) (o4 : ∀ i, ¬ (i = 2 ∨ (10 ≤ i ∧ i < 90)) → M' 84 i = M 84 i) (hb : gs_b N M') : gs A L N M' := by
  obtain ⟨⟨g1, g2⟩, ⟨g3, g4⟩, g5, g6, ⟨c, c', r, r', TT, gx1, gv⟩, g8, g9⟩ := hG
  refine ⟨⟨hb, g2.mv (o _ _ (by decide) (by decide)) (fun x i h0 h1 => o x i (by omega) (by omega)) (fun i => o 85 i (by decide) (by decide))⟩, ⟨g3.mv (fun i _ => o 14 i (by decide) (by decide)) (fun x i h0 h1 => o x i (by omega) (by omega)) (fun i hi => o4 i (by omega)), g4.mv (fun i => o 18 i (by decide) (by decide)) (fun x i h0 h1 => o x i (by omega) (by omega)) (fun i => o 85 i (by decide) (by decide))⟩, g5.mv (o 0 _ (by decide) (by decide)) (fun i => o 1 i (by decide) (by decide)) (o 83 _ (by decide) (by decide)) (fun i => o 87 i (by decide) (by decide)), g6.mv (o 0 _ (by decide) (by decide)) (o 0 _ (by decide) (by decide)) (o 83 _ (by decide) (by decide)) (o 83 _ (by decide) (by decide)), ⟨c, c', r, r', TT, gx1.mv (fun i _ _ => o 0 i (by decide) (by decide)) (fun i hi => o4 i (by omega)) (fun i _ => o 85 i (by decide) (by decide)) (fun x i h0 h1 => o x i (by omega) (by omega)) (fun i => o 86 i (by decide) (by decide)) (o 58 6 (by decide) (by decide)), gv.mv (o 58 5 (by decide) (by decide)) (fun i => o 62 i (by decide) (by decide)) (fun i => o 63 i (by decide) (by decide))⟩, g8.mv (o _ _ (by decide) (by decide)) (o _ _ (by decide) (by decide)), g9.mv (o _ _ (by decide) (by decide)) (o _ _ (by decide) (by decide))⟩
theorem gs_lg (hG : gs A L N M) (o : ∀ x i, ¬ (14 ≤ x ∧ x ≤ 17) → x ≠ 84 → M' x i = M x i) (o4 : ∀ i, ¬ (i = 3 ∨ i = 4 ∨ (90 ≤ i ∧ i < 210)) → M' 84 i = M 84 i) (hb : gs_l N M') : gs A L N M' := by
  obtain ⟨⟨g1, g2⟩, ⟨g3, g4⟩, g5, g6, ⟨c, c', r, r', TT, gx1, gv⟩, g8, g9⟩ := hG
  refine ⟨⟨g1.mv (o _ _ (by decide) (by decide)) (fun x i h0 h1 => o x i (by omega) (by omega)) (fun i hi => o4 i (by omega)), g2.mv (o _ _ (by decide) (by decide)) (fun x i h0 h1 => o x i (by omega) (by omega)) (fun i => o 85 i (by decide) (by decide))⟩, ⟨hb, g4.mv (fun i => o 18 i (by decide) (by decide)) (fun x i h0 h1 => o x i (by omega) (by omega)) (fun i => o 85 i (by decide) (by decide))⟩, g5.mv (o 0 _ (by decide) (by decide)) (fun i => o 1 i (by decide) (by decide)) (o 83 _ (by decide) (by decide)) (fun i => o 87 i (by decide) (by decide)), g6.mv (o 0 _ (by decide) (by decide)) (o 0 _ (by decide) (by decide)) (o 83 _ (by decide) (by decide)) (o 83 _ (by decide) (by decide)), ⟨c, c', r, r', TT, gx1.mv (fun i _ _ => o 0 i (by decide) (by decide)) (fun i hi => o4 i (by omega)) (fun i _ => o 85 i (by decide) (by decide)) (fun x i h0 h1 => o x i (by omega) (by omega)) (fun i => o 86 i (by decide) (by decide)) (o 58 6 (by decide) (by decide)), gv.mv (o 58 5 (by decide) (by decide)) (fun i => o 62 i (by decide) (by decide)) (fun i => o 63 i (by decide) (by decide))⟩, g8.mv (o _ _ (by decide) (by decide)) (o _ _ (by decide) (by decide)), g9.mv (o _ _ (by decide) (by decide)) (o _ _ (by decide) (by decide))⟩
theorem gs_tp (hG : gs A L N M) (o : ∀ x i, x ≠ 1 → x ≠ 87 → ¬ (x = 0 ∧ i = 6) → ¬ (x = 83 ∧ i = 7) → M' x i = M x i) (hb : gs_t M') : gs A L N M' := by
  obtain ⟨⟨g1, g2⟩, ⟨g3, g4⟩, g5, g6, ⟨c, c', r, r', TT, gx1, gv⟩, g8, g9⟩ := hG
  have p : ∀ x i, x ≠ 1 → x ≠ 87 → x ≠ 0 → x ≠ 83 → M' x i = M x i := fun x i h1 h2 h3 h4 => o x i h1 h2 (fun z => h3 z.1) (fun z => h4 z.1)
  refine ⟨⟨g1.mv (p _ _ (by decide) (by decide) (by decide) (by decide)) (fun x i h0 h1 => p x i (by omega) (by omega) (by omega) (by omega)) (fun i hi => p 84 i (by decide) (by decide) (by decide) (by decide)), g2.mv (p _ _ (by decide) (by decide) (by decide) (by decide)) (fun x i h0 h1 => p x i (by omega) (by omega) (by omega) (by omega)) (fun i => p 85 i (by decide) (by decide) (by decide) (by decide))⟩, ⟨g3.mv (fun i _ => p 14 i (by decide) (by decide) (by decide) (by decide)) (fun x i h0 h1 => p x i (by omega) (by omega) (by omega) (by omega)) (fun i hi => p 84 i (by decide) (by decide) (by decide) (by decide)), g4.mv (fun i => p 18 i (by decide) (by decide) (by decide) (by decide)) (fun x i h0 h1 => p x i (by omega) (by omega) (by omega) (by omega)) (fun i => p 85 i (by decide) (by decide) (by decide) (by decide))⟩, hb, g6.mv (o 0 12 (by decide) (by decide) (by decide) (by decide)) (o 0 13 (by decide) (by decide) (by decide) (by decide)) (o 83 8 (by decide) (by decide) (by decide) (by decide)) (o 83 9 (by decide) (by decide) (by decide) (by decide)), ⟨c, c', r, r', TT, gx1.mv (fun i h0 h1 => o 0 i (by decide) (by decide) (by omega) (by omega)) (fun i hi => p 84 i (by decide) (by decide) (by decide) (by decide)) (fun i _ => p 85 i (by decide) (by decide) (by decide) (by decide)) (fun x i h0 h1 => p x i (by omega) (by omega) (by omega) (by omega)) (fun i => p 86 i (by decide) (by decide) (by decide) (by decide)) (p 58 6 (by decide) (by decide) (by decide) (by decide)), gv.mv (p 58 5 (by decide) (by decide) (by decide) (by decide)) (fun i => p 62 i (by decide) (by decide) (by decide) (by decide)) (fun i => p 63 i (by decide) (by decide) (by decide) (by decide))⟩, g8.mv (p _ _ (by decide) (by decide) (by decide) (by decide)) (p _ _ (by decide) (by decide) (by decide) (by decide)), g9.mv (p _ _ (by decide) (by decide) (by decide) (by decide)) (p _ _ (by decide) (by decide) (by decide) (by decide))⟩
theorem s_put (h : em_ok A L N) (hG : gs A L N M) (hK : ∀ r N2, gs A L N N2 → K r r N2) {x q : Int} : ow_2 C A L N (d + 60) mX11_put mX12_put [(0, x), (0, q)] M K := by
  obtain ⟨n, w, p, h1, h2, h3⟩ := hG.1.1
  refine tX11_put h h1 h2 (fun z => tX12_put h h1 h3 (fun _ => hK _ _ hG) (fun z1 z2 z3 z4 => absurd ⟨z1, z2, z3, z4⟩ z)) (fun z1 z2 z3 z4 M1 o1 b1 => ?_)
  refine tX12_put h h1 (h3.mv (o1 84 (by decide))) (fun z => absurd ⟨z1, z2, z3, z4⟩ z) (fun _ _ _ _ M2 o2 p2 b2 => hK _ _ (gs_bk hG (fun x i hx h84 => ?_) (fun i hi => ?_) ⟨_, _, _, bk_ok_put h1 z1 z2 z3 z4, b1.mv (o2 _ (by decide) _) (o2 _ (by decide)) (o2 _ (by decide)) (o2 _ (by decide)), b2⟩))
  · rw [o2 x (by simpa using h84), o1 x (by simp; omega)]
  · rw [p2 i hi, o1 84 (by decide)]
theorem s_take (h : em_ok A L N) (hG : gs A L N M) (hK : ∀ r N2, gs A L N N2 → K r r N2) {x : Int} : ow_2 C A L N (d + 60) mX11_take mX12_take [(0, x)] M K := by
  obtain ⟨n, w, p, h1, h2, h3⟩ := hG.1.1
  refine tX11_take h h1 h2 (fun z => tX12_take h1 h3 (fun _ => hK _ _ hG) (fun j j0 j1 j2 => absurd j2 (z j j0 j1))) (fun j j0 j1 j2 M1 o1 b1 => ?_)
  refine tX12_take h1 (h3.mv (o1 84 (by decide))) (fun z => absurd j2 (z j j0 j1)) (fun k k0 k1 k2 M2 o2 p2 b2 => hK _ _ (gs_bk hG (fun x i hx h84 => ?_) (fun i hi => ?_) ⟨_, _, _, bk_ok_cut h1 ⟨j0, j1⟩, b1.mv (o2 _ (by decide) _) (o2 _ (by decide)) (o2 _ (by decide)) (o2 _ (by decide)), ?_⟩))
  · rw [o2 x (by simpa using h84), o1 x (by simp; omega)]
  · rw [p2 i hi, o1 84 (by decide)]
  · have : j = k := bk_ok_inj h1 ⟨j0, j1⟩ ⟨k0, k1⟩ (j2.trans k2.symm)
    rw [this]; exact b2
theorem s_book (h : em_ok A L N) (hG : gs A L N M) (hK : ∀ r N2, gs A L N N2 → K r r N2) {x : Int} : ow_2 C A L N (d + 60) mX11_book mX12_book [(0, x)] M K := by
  obtain ⟨n, w, p, h1, h2, h3⟩ := hG.1.1
  refine tX11_book h1 h2 (fun z => tX12_book h1 h3 (fun _ => hK _ _ hG) (fun z' => absurd z z') (fun z0 => by omega)) (fun z z2 => tX12_book h1 h3 (fun z' => absurd z' z) (fun _ _ => hK _ _ hG) (fun z0 z1 => absurd ⟨z0, z1⟩ z2)) (fun z0 z1 => tX12_book h1 h3 (fun z' => by omega) (fun _ z' => absurd ⟨z0, z1⟩ z') (fun _ _ => hK _ _ hG))
theorem s_feed (hG : gs A L N M) (hK : ∀ r N2, gs A L N N2 → K r r N2) {x1 x2 x3 x4 x5 : Int} : ow_2 C A L N (d + 60) mX11_feed mX12_feed [(0, x1), (0, x2), (0, x3), (0, x4), (0, x5)] M K := by
  obtain ⟨n, t, h1, h2, h3⟩ := hG.2.2.1
  refine tX11_feed h1 h2 (fun z => tX12_feed h1 h3 (fun _ => hK _ _ hG) (fun z' => by omega)) (fun z M1 o1 t1 => ?_)
  have h3' : tp_M M1 n t := ⟨by rw [o1.at (by decide) (by decide)]; exact h3.1, fun i i0 i1 => by rw [o1.at (by decide) (by decide)]; exact h3.2 i i0 i1⟩
  refine tX12_feed h1 h3' (fun z' => by omega) (fun _ M2 o2 t2 => hK _ _ (gs_tp hG (fun x i a b e f => ?_) ⟨_, _, tp_ok20 h1 z, ⟨by rw [o2.at (by decide) (by decide)]; exact t1.1, fun i i0 i1 => by rw [o2.at (by decide) (by decide)]; exact t1.2 i i0 i1⟩, t2⟩))
  rw [o2 x i (by simpa using b) (by simpa using f), o1 x i (by simpa using a) (by simpa using e)]
theorem tp_ok_le {n x : Int} {t : Int → Int} (h : tp_ok n t) (h0 : 0 ≤ x) (h1 : x ≤ n) : tp_ok x t := ⟨h0, by have := h.2.1; omega, fun i i0 i1 => h.2.2 i i0 (by omega)⟩
theorem s_end (hG : gs A L N M) (hK : ∀ r N2, gs A L N N2 → K r r N2) {x : Int} : ow_2 C A L N (d + 60) mX11_end mX12_end [(0, x)] M K := by
  obtain ⟨n, t, h1, h2, h3⟩ := hG.2.2.1
  refine tX11_end h2 (fun z => tX12_end h3 (fun _ => hK _ _ hG) (fun z0 z1 => absurd ⟨z0, z1⟩ z)) (fun z0 z1 M1 o1 t1 => ?_)
  have h3' : tp_M M1 n t := ⟨by rw [o1.at (by decide) (by decide)]; exact h3.1, fun i i0 i1 => by rw [o1.at (by decide) (by decide)]; exact h3.2 i i0 i1⟩
  refine tX12_end h3' (fun z' => absurd ⟨z0, z1⟩ z') (fun _ _ M2 o2 t2 => hK _ _ (gs_tp hG (fun x i a b e f => ?_) ⟨_, _, tp_ok_le h1 z0 z1, ⟨by rw [o2.at (by decide) (by decide)]; exact t1.1, fun i i0 i1 => by rw [o2.at (by decide) (by decide)]; exact t1.2 i i0 i1⟩, t2⟩))
  rw [o2 x i (by simp) (by simpa using f), o1 x i (by simp) (by simpa using e)]
theorem s_fault (hG : gs A L N M) (hK : ∀ r N2, gs A L N N2 → K r r N2) {x : Int} : ow_2 C A L N (d + 60) mX11_fault mX12_fault [(0, x)] M K := by
  obtain ⟨f1, f2⟩ := hG.2.2.2.1
  exact tX11_fault rfl rfl (tX12_fault f1.symm f2.symm (hK _ _ hG))
theorem s_near (h : em_ok A L N) (hG : gs A L N M) (hK : ∀ r N2, gs A L N N2 → K r r N2) {x y z : Int} : ow_2 C A L N (d + 60) mX11_near mX12_near [(0, x), (0, y), (0, z)] M K := by
  obtain ⟨n, w, p, h1, h2, h3⟩ := hG.1.1
  exact tX11_near h h1 h2 (tX12_near h h1 h3 (hK _ _ hG))
theorem gs_96 (hG : gs A L N M) (o : ow_off [96] M M') : gs A L N M' := by
  have hG0 := hG
  obtain ⟨⟨g1, g2⟩, ⟨g3, g4⟩, g5, g6, ⟨c, c', r, r', TT, gx1, gv⟩, g8, g9⟩ := hG
  exact gs_end hG0 gx1 (gq.of (ow_of.off o) (by decide) (by decide)) (gv.mv (o _ (by decide) _) (o _ (by decide)) (o _ (by decide))) (g8.mv (o _ (by decide) _) (o _ (by decide) _)) (g9.mv (o _ (by decide) _) (o _ (by decide) _))
theorem s_tree (h : em_ok A L N) (hG : gs A L N M) (hK : ∀ r N2, gs A L N N2 → K r r N2) {x : Int} : ow_2 C A L N (d + 60) mX11_tree mX12_tree [(0, x)] M K := by
  obtain ⟨n, w, p, h1, h2, h3⟩ := hG.1.1
  exact tX11_tree h h1 h2 (tX12_tree h h1 h3 (fun _ => hK _ _ hG) (fun M2 o2 => hK _ _ (gs_96 hG o2)))
theorem s_shares (h : em_ok A L N) (hG : gs A L N M) (hK : ∀ r N2, gs A L N N2 → K r r N2) {x y z : Int} : ow_2 C A L N (d + 60) mX11_shares mX12_shares [(0, x), (0, y), (0, z)] M K := by
  obtain ⟨n, w, p, h1, h2, h3⟩ := hG.1.1
  exact tX11_shares h h1 h2 (tX12_shares h h1 h3 (fun _ => hK _ _ hG) (fun M2 o2 => hK _ _ (gs_96 hG o2)))
theorem s_log (hG : gs A L N M) (hN : 0 ≤ N) (hK : ∀ r N2, gs A L N N2 → K r r N2) {x : Int} : ow_2 C A L N (d + 60) mX11_log mX12_log [(0, x)] M K := by
  obtain ⟨hs, n, hd, wd, tm, h1, h2, h3⟩ := hG.2.1.1
  refine tX11_log (hd := hd) (wd := wd) (tm := tm) (fun z => tX12_log (hd := hd) (wd := wd) (tm := tm) (fun _ => hK _ _ hG) (fun z0 z1 => absurd ⟨z0, z1⟩ z)) (fun z0 z1 M1 o1 t1 => ?_)
  refine tX12_log (hd := hd) (wd := wd) (tm := tm) (fun z' => absurd ⟨z0, z1⟩ z') (fun _ _ M2 o2 t2 => hK _ _ (gs_lg hG (fun y i a b => ?_) (fun i hi => ?_) ⟨x, 0, hd, wd, tm, ⟨z0, z1, by decide, by decide, fun k k0 k1 => by omega⟩, ⟨by rw [o2.at (by decide) (by decide)]; exact t1.1, by rw [o2.at (by decide) (by decide)]; exact t1.2.1, fun k k0 k1 => by omega⟩, t2⟩))
  · rw [o2 y i (by simp) (by simp; omega), o1 y i (by simp) (by simp; omega)]
  · rw [o2 84 i (by simp) (by simp; omega), o1 84 i (by simp) (by simp)]
theorem s_said (h : em_ok A L N) (hG : gs A L N M) (hK : ∀ r N2, gs A L N N2 → K r r N2) {x y z : Int} : ow_2 C A L N (d + 60) mX11_said mX12_said [(0, x), (0, y), (0, z)] M K := by
  obtain ⟨hs, n, hd, wd, tm, h1, h2, h3⟩ := hG.2.1.1
  have hN := em_Npos h
  refine tX11_said h h1 h2 (fun z' => tX12_said h h1 h3 (fun _ => hK _ _ hG) (fun z2 => absurd z2 z')) (fun z' M1 o1 t1 => ?_)
  have h3' : lg_M M1 84 hs n hd wd tm := ⟨by rw [o1.at (by decide) (by decide)]; exact h3.1, by rw [o1.at (by decide) (by decide)]; exact h3.2.1, fun k k0 k1 => by rw [o1.at (by decide) (by decide), o1.at (by decide) (by decide), o1.at (by decide) (by decide)]; exact h3.2.2 k k0 k1⟩
  refine tX12_said h h1 h3' (fun z2 => absurd z' z2) (fun _ M2 o2 p2 t2 => hK _ _ (gs_lg hG (fun y i a b => ?_) (fun i hi => ?_) ⟨_, _, _, _, _, lg_put_ok (by omega) h1 z', ⟨by rw [o2 14 (by decide)]; exact t1.1, by rw [o2 14 (by decide)]; exact t1.2.1, fun k k0 k1 => by rw [o2 _ (by decide), o2 _ (by decide), o2 _ (by decide)]; exact t1.2.2 k k0 k1⟩, t2⟩))
  · rw [o2 y (by simpa using b), o1 y i (by simp; omega) (by simp; omega)]
  · rw [p2 i (by omega), o1 84 i (by simp) (by simp)]
end STS
