/-! ===== one call on both sides: what rules, about, the image ===== -/
def ab_v (A L N c r bn hs ln tn rd : Int) (p : Int → Int) (x : Int) : Int := if x = 0 then A else if x = 1 then L else if x = 2 then N else if x = 3 then c else if x = 4 then r else if x = 5 then bn else if x = 6 then hs else if x = 7 then ln else if x = 8 then tn else if x = 9 then rd else if 10 ≤ x ∧ x - 10 < bn then p (x - 10) else -2
section ST3
variable {C : ow_C} {A L N : Int} {d : Nat} {M M' T : ow_M} {K : Int → Int → ow_M → Prop}
theorem vw_R0 (h : M 58 5 = 0) : vw_R A L T M := by
  unfold vw_R
  rw [h, vx_q, Int.zero_mul, Int.zero_mul, Int.zero_mul]
  exact ⟨by decide, fun x x0 x1 => by omega⟩
theorem tX11_about {bn hs ln tn c r : Int} {wd pr hd lw tm t : Int → Int} {K : Int → ow_M → Prop} (ht : tc_ok M c) (hr : M 0 10 = r) (hc : cu_C N M T) (hok : bk_ok N bn wd pr) (hB : bk_C N M 6 bn wd pr) (hl : lg_C M 14 hs ln hd lw tm) (hp : tp_C M tn t) {x : Int} (hK : K (ab_v A L N c r bn hs ln tn (T 0 3) pr x) M) : ow_Sp C (EM A L N) (d + 1) mX11_about (0, 0) [(3, 0), (0, x)] M K := by
  unfold ab_v at hK
  refine ow_enter (by decide +kernel) rfl rfl (ow_rng (fun hvv _ => ?_))
  have hxI : ow_I x := hvv (1, (0, x)) (List.Mem.tail _ (List.Mem.head _))
  clear hvv
  refine cX11_about_0 ⟨fun q => ?_, fun n0 => ⟨fun q => ?_, fun n1 => ⟨fun q => ?_, fun n2 => ⟨fun q => ?_, fun n3 => ⟨fun q => ?_, fun n4 => ⟨fun q => ?_, fun n5 => ⟨fun q => ?_, fun n6 => ⟨fun q => ?_, fun n7 => ⟨fun q => ?_, fun n8 => ⟨fun q => ?_, fun n9 => ⟨fun q => ?_, fun q => ⟨⟨by omega, ?_⟩, ?_⟩⟩⟩⟩⟩⟩⟩⟩⟩⟩⟩⟩
  · rw [if_pos q] at hK; exact hK
  · rw [if_neg n0, if_pos q] at hK; exact hK
  · rw [if_neg n0, if_neg n1, if_pos q] at hK; exact hK
  · rw [if_neg n0, if_neg n1, if_neg n2, if_pos q] at hK; rw [ht.1]; exact hK
  · rw [if_neg n0, if_neg n1, if_neg n2, if_neg n3, if_pos q] at hK; rw [hr]; exact hK
  · rw [if_neg n0, if_neg n1, if_neg n2, if_neg n3, if_neg n4, if_pos q] at hK; rw [hB.1]; exact hK
  · rw [if_neg n0, if_neg n1, if_neg n2, if_neg n3, if_neg n4, if_neg n5, if_pos q] at hK; rw [hl.1]; exact hK
  · rw [if_neg n0, if_neg n1, if_neg n2, if_neg n3, if_neg n4, if_neg n5, if_neg n6, if_pos q] at hK; rw [hl.2.1]; exact hK
  · rw [if_neg n0, if_neg n1, if_neg n2, if_neg n3, if_neg n4, if_neg n5, if_neg n6, if_neg n7, if_pos q] at hK; rw [hp.1]; exact hK
  · rw [if_neg n0, if_neg n1, if_neg n2, if_neg n3, if_neg n4, if_neg n5, if_neg n6, if_neg n7, if_neg n8, if_pos q] at hK
    obtain ⟨t1, t2, t3⟩ := ht
    obtain ⟨cf, cl, cr⟩ := hc
    have hr3 := tx_roads cl
    rcases cr with ⟨r1, r2, r3⟩ | ⟨r0, r1, r2, r3, r4⟩
    · refine tX11_isText t1 t2.2 (fun _ => ⟨fun _ => ?_, fun z => absurd rfl z⟩) (fun z => by omega)
      rw [← hr3.2.2 r3]; exact hK
    · obtain ⟨e1, e2, e3, e4, e5, e6, e7, e8, e9, e10, e11, e12⟩ := em_text (A := A) (L := L) (N := N) (M := M) r1
      refine tX11_isText t1 t2.2 (fun z => by omega) (fun z => ⟨fun y => absurd y (by decide), fun _ => ?_⟩)
      rw [r3, e11, r4.2.2.2.2.2.2.1]
      exact ⟨⟨by omega, by omega⟩, e1, hK⟩
  · rw [if_neg n0, if_neg n1, if_neg n2, if_neg n3, if_neg n4, if_neg n5, if_neg n6, if_neg n7, if_neg n8, if_neg n9, if_neg (by omega)] at hK; exact hK
  · have := hxI.2; omega
  · rw [if_neg n0, if_neg n1, if_neg n2, if_neg n3, if_neg n4, if_neg n5, if_neg n6, if_neg n7, if_neg n8, if_neg n9] at hK
    have o1 := hok.2.1
    refine tX0_has hok hB (fun z => ⟨fun _ => ?_, fun y => absurd rfl y⟩) (fun z0 z1 => ⟨fun y => absurd y (by decide), fun _ => ⟨⟨z0, by omega⟩, ?_⟩⟩)
    · rw [if_neg (by omega)] at hK; exact hK
    · rw [if_pos (by omega)] at hK
      have e8 : M 8 (x - 10) = pr (x - 10) := (hB.2.1 (x - 10) z0 z1).2
      rw [e8]; exact hK
theorem tX12_about {bn hs ln tn c r : Int} {wd pr hd lw tm t : Int → Int} {K : Int → ow_M → Prop} (ht : M 84 0 = c) (hr : M 84 1 = r) (hc : cu_M N M T) (hok : bk_ok N bn wd pr) (hB : bk_M M 84 bn wd pr) (hl : lg_M M 84 hs ln hd lw tm) (hp : tp_M M tn t) {x : Int} (hK : K (ab_v A L N c r bn hs ln tn (T 0 3) pr x) M) : ow_Sp C (EM A L N) (d + 1) mX12_about (0, 0) [(3, 83), (0, x)] M K := by
  unfold ab_v at hK
  have o0 := hok.1
  have o1 := hok.2.1
  refine fX12_about ?_
  rw [hB.1]
  refine ⟨⟨by omega, by omega⟩, tX12_isIn (fun z => ⟨fun _ => ⟨fun q => ?_, fun n0 => ⟨fun q => ?_, fun n1 => ⟨fun q => ?_, fun n2 => ⟨fun q => ?_, fun n3 => ⟨fun q => ?_, fun n4 => ⟨fun q => ?_, fun n5 => ⟨fun q => ?_, fun n6 => ⟨fun q => ?_, fun n7 => ⟨fun q => ?_, fun n8 => ⟨fun q => ?_, fun n9 => ?_⟩⟩⟩⟩⟩⟩⟩⟩⟩⟩, fun y => absurd rfl y⟩) (fun z => ⟨fun y => absurd y (by decide), fun _ => ?_⟩)⟩
  · rw [if_pos q] at hK; exact hK
  · rw [if_neg n0, if_pos q] at hK; exact hK
  · rw [if_neg n0, if_neg n1, if_pos q] at hK; exact hK
  · rw [if_neg n0, if_neg n1, if_neg n2, if_pos q] at hK; rw [ht]; exact hK
  · rw [if_neg n0, if_neg n1, if_neg n2, if_neg n3, if_pos q] at hK; rw [hr]; exact hK
  · rw [if_neg n0, if_neg n1, if_neg n2, if_neg n3, if_neg n4, if_pos q] at hK; first | exact hK | (rw [hB.1]; exact hK)
  · rw [if_neg n0, if_neg n1, if_neg n2, if_neg n3, if_neg n4, if_neg n5, if_pos q] at hK; rw [hl.1]; exact hK
  · rw [if_neg n0, if_neg n1, if_neg n2, if_neg n3, if_neg n4, if_neg n5, if_neg n6, if_pos q] at hK; rw [hl.2.1]; exact hK
  · rw [if_neg n0, if_neg n1, if_neg n2, if_neg n3, if_neg n4, if_neg n5, if_neg n6, if_neg n7, if_pos q] at hK; rw [hp.1]; exact hK
  · rw [if_neg n0, if_neg n1, if_neg n2, if_neg n3, if_neg n4, if_neg n5, if_neg n6, if_neg n7, if_neg n8, if_pos q] at hK
    exact tX12_roads hc hK
  · rw [if_neg n0, if_neg n1, if_neg n2, if_neg n3, if_neg n4, if_neg n5, if_neg n6, if_neg n7, if_neg n8, if_neg n9, if_neg (by omega)] at hK; exact hK
  · rw [if_neg (by omega), if_neg (by omega), if_neg (by omega), if_neg (by omega), if_neg (by omega), if_neg (by omega), if_neg (by omega), if_neg (by omega), if_neg (by omega), if_neg (by omega), if_pos (by omega)] at hK
    refine ⟨⟨by omega, by omega⟩, ⟨by omega, by omega⟩, ⟨by omega, by omega⟩, ⟨by omega, by omega⟩, ⟨by omega, by omega⟩, ?_⟩
    have e := (hB.2 (x - 10) (by omega) (by omega)).2
    rw [show 10 + 2 * (x - 10) + 1 = 11 + 2 * (x - 10) by omega, e]
    exact hK
theorem s_about (h : em_ok A L N) (hG : gs A L N M) (hK : ∀ r N2, gs A L N N2 → K r r N2) {x : Int} : ow_2 C A L N (d + 60) mX11_about mX12_about [(0, x)] M K := by
  have hG0 := hG
  obtain ⟨⟨⟨bn, wd, pr, b1, b2, b3⟩, g2⟩, ⟨⟨hs, ln, hd, lw, tm, l1, l2, l3⟩, g4⟩, ⟨tn, t, t1, t2, t3⟩, g6, ⟨c, c', r, r', TT, gx1, gv⟩, g8, g9⟩ := hG
  exact tX11_about gx1.tc gx1.1.2.2.1 gx1.cuC b1 b2 l2 t2 (tX12_about gx1.2.1.1 gx1.2.1.2.2.1 gx1.cuM b1 b3 l3 t3 (hK _ _ hG0))
theorem s_by (hG : gs A L N M) (hK : ∀ r N2, gs A L N N2 → K r r N2) {x : Int} : ow_2 C A L N (d + 60) mX11_by mX12_by [(0, x)] M K := by
  have hG0 := hG
  obtain ⟨⟨g1, g2⟩, ⟨g3, g4⟩, g5, g6, ⟨c, c', r, r', TT, gx1, gv⟩, g8, g9⟩ := hG
  have hx := gx1
  obtain ⟨a1, a2, a3, a4, a5, a6, a7⟩ := gx1
  have c4 : 0 ≤ c ∧ c ≤ 4 := by omega
  refine tX11_by a1.1 c4 a1.2.2.1 (fun q => tX12_by a2.1 c4 (fun _ => hK _ _ hG0) (fun z0 z1 => absurd ⟨z0, z1⟩ q)) (fun q => tX12_by a2.1 c4 (fun z => by omega) (fun z0 z1 M2 o2 e2 => hK _ _ ?_)) (fun z0 z1 z2 M1 o1 e1 e2 e3 => tX12_by (by rw [o1.at (by decide) (by decide)]; exact a2.1) c4 (fun z => absurd ⟨z0, z1⟩ z) (fun _ _ M2 o2 e4 => hK _ _ ?_))
  · have same : ∀ y i, M2 y i = M y i := by
      intro y i
      by_cases e : y = 84 ∧ i = 1
      · rw [e.1, e.2, e2, a2.2.2.1]; exact q
      · exact o2 y i (by simp) (by simpa using e)
    exact gs_end hG0 hx (fun y i _ => same y i) (gv.mv (same _ _) (same _) (same _)) (g8.mv (same _ _) (same _ _)) (g9.mv (same _ _) (same _ _))
  · have o : ∀ y i, ¬ (y = 0 ∧ i = 10) → ¬ (y = 58) → ¬ (y = 84 ∧ i = 1) → M2 y i = M y i := by
      intro y i h1 h2 h3
      rw [o2 y i (by simp) (by simpa using h3), o1 y i (by simp) (by simp; omega)]
    refine ⟨⟨g1.mv (o _ _ (by decide) (by decide) (by decide)) (fun y i h0 h1 => o y i (by omega) (by omega) (by omega)) (fun i hi => o 84 i (by omega) (by decide) (by omega)), g2.mv (o _ _ (by decide) (by decide) (by decide)) (fun y i h0 h1 => o y i (by omega) (by omega) (by omega)) (fun i => o 85 i (by omega) (by decide) (by omega))⟩, ⟨g3.mv (fun i hi => o 14 i (by omega) (by decide) (by omega)) (fun y i h0 h1 => o y i (by omega) (by omega) (by omega)) (fun i hi => o 84 i (by omega) (by decide) (by omega)), g4.mv (fun i => o 18 i (by omega) (by decide) (by omega)) (fun y i h0 h1 => o y i (by omega) (by omega) (by omega)) (fun i => o 85 i (by omega) (by decide) (by omega))⟩, g5.mv (o _ _ (by decide) (by decide) (by decide)) (fun i => o 1 i (by omega) (by decide) (by omega)) (o _ _ (by decide) (by decide) (by decide)) (fun i => o 87 i (by omega) (by decide) (by omega)), g6.mv (o _ _ (by decide) (by decide) (by decide)) (o _ _ (by decide) (by decide) (by decide)) (o _ _ (by decide) (by decide) (by decide)) (o _ _ (by decide) (by decide) (by decide)), ⟨c, c', x, r', TT, ⟨⟨?_, ?_, ?_, ?_⟩, ⟨?_, ?_, e4, ?_⟩, a3, ⟨z0, z1⟩, a5, fun i i0 i1 => ?_, ?_⟩, vw_R0 ?_⟩, g8.mv (o _ _ (by decide) (by decide) (by decide)) (o _ _ (by decide) (by decide) (by decide)), g9.mv (o _ _ (by decide) (by decide) (by decide)) (o _ _ (by decide) (by decide) (by decide))⟩
    · rw [o _ _ (by decide) (by decide) (by decide)]; exact a1.1
    · rw [o _ _ (by decide) (by decide) (by decide)]; exact a1.2.1
    · rw [o2.at (by decide) (by decide)]; exact e1
    · rw [o _ _ (by decide) (by decide) (by decide)]; exact a1.2.2.2
    · rw [o _ _ (by decide) (by decide) (by decide)]; exact a2.1
    · rw [o _ _ (by decide) (by decide) (by decide)]; exact a2.2.1
    · rw [o _ _ (by decide) (by decide) (by decide)]; exact a2.2.2.2
    · obtain ⟨b1, b2, b3, b4⟩ := a6 i i0 i1
      exact ⟨b1, b2, b3.fr (fun y j h0 h1 => o y j (by omega) (by omega) (by omega)), b4.mv (fun j => o 86 j (by omega) (by decide) (by omega))⟩
    · rw [o2.at (by decide) (by decide)]; exact e3
    · rw [o2.at (by decide) (by decide)]; exact e2
theorem s_image (h : em_ok A L N) (hG : gs A L N M) (hK : ∀ r N2, gs A L N N2 → K r r N2) : ow_2 C A L N (d + 60) mX11_image mX12_image [] M K := by
  have hG0 := hG
  obtain ⟨⟨⟨bn, wd, pr, b1, b2, b3⟩, g2⟩, ⟨⟨hs, ln, hd, lw, tm, l1, l2, l3⟩, g4⟩, g5, g6, ⟨c, c', r, r', TT, gx1, gv⟩, g8, g9⟩ := hG
  obtain ⟨a1, a2, a3, a4, a5, a6, a7⟩ := gx1
  refine fX11_image (tX0_become_b h b1 b2 (fun M1 o1 k1 => ?_))
  have l2' : lg_C M1 14 hs ln hd lw tm := ⟨by rw [o1 _ (by decide)]; exact l2.1, by rw [o1 _ (by decide)]; exact l2.2.1, fun k k0 k1 => by rw [o1 _ (by decide), o1 _ (by decide), o1 _ (by decide)]; exact l2.2.2 k k0 k1⟩
  refine tX4_become_b l1 l2' (fun M2 o2 k2 N3 e3 N4 e4 => ?_)
  have o4 : ∀ y i, ¬ (10 ≤ y ∧ y ≤ 13) → ¬ (18 ≤ y ∧ y ≤ 21) → ¬ (y = 0 ∧ (i = 9 ∨ i = 11)) → N4 y i = M y i := by
    intro y i h1 h2 h3
    rw [e4, ow_upN (by omega), e3, ow_upN (by omega), o2 y (by simp; omega), o1 y (by simp; omega)]
  have v6 : N4 6 4 = bn := by rw [o4 _ _ (by decide) (by decide) (by decide)]; exact b2.1
  rw [v6]
  refine fX12_image (tX12_copy85 (fun M5 o5 c5 => ?_))
  have v84 : M5 84 2 = bn := by rw [o5 84 (by decide), o4 _ _ (by decide) (by decide) (by decide)]; exact b3.1
  rw [v84]
  have o : ∀ y i, ¬ (10 ≤ y ∧ y ≤ 13) → ¬ (18 ≤ y ∧ y ≤ 21) → ¬ (y = 0 ∧ (i = 9 ∨ i = 11)) → y ≠ 85 → M5 y i = M y i := by
    intro y i h1 h2 h3 h5
    rw [o5 y (by simpa using h5), o4 y i h1 h2 h3]
  have i85 : ∀ i, 0 ≤ i → i < 215 → M5 85 i = M 84 i := by
    intro i i0 i1
    rw [c5 i i0 i1, o4 84 i (by omega) (by omega) (by omega)]
  have bn40 := b1.2.1
  have ln40 := l1.2.2.2.1
  refine hK _ _ ⟨⟨⟨bn, wd, pr, b1, b2.mv (o _ _ (by decide) (by decide) (by decide) (by decide)) (fun i => o _ i (by decide) (by decide) (by omega) (by decide)) (fun i => o _ i (by decide) (by decide) (by omega) (by decide)) (fun i => o _ i (by decide) (by decide) (by omega) (by decide)), b3.mv (fun i => o 84 i (by decide) (by decide) (by omega) (by decide))⟩, ⟨bn, wd, pr, b1, k1.mv ?_ (fun i => ?_) (fun i => ?_) (fun i => ?_), ⟨by rw [i85 2 (by decide) (by decide)]; exact b3.1, fun k k0 k1 => by rw [i85 _ (by omega) (by omega), i85 _ (by omega) (by omega)]; exact b3.2 k k0 k1⟩⟩⟩, ⟨⟨hs, ln, hd, lw, tm, l1, ⟨?_, ?_, fun k k0 k1 => ?_⟩, ⟨?_, ?_, fun k k0 k1 => ?_⟩⟩, ⟨hs, ln, hd, lw, tm, l1, ⟨?_, ?_, fun k k0 k1 => ?_⟩, ⟨by rw [i85 3 (by decide) (by decide)]; exact l3.1, by rw [i85 4 (by decide) (by decide)]; exact l3.2.1, fun k k0 k1 => by rw [i85 _ (by omega) (by omega), i85 _ (by omega) (by omega), i85 _ (by omega) (by omega)]; exact l3.2.2 k k0 k1⟩⟩⟩, g5.mv (o _ _ (by decide) (by decide) (by decide) (by decide)) (fun i => o 1 i (by decide) (by decide) (by omega) (by decide)) (o _ _ (by decide) (by decide) (by decide) (by decide)) (fun i => o 87 i (by decide) (by decide) (by omega) (by decide)), g6.mv (o _ _ (by decide) (by decide) (by decide) (by decide)) (o _ _ (by decide) (by decide) (by decide) (by decide)) (o _ _ (by decide) (by decide) (by decide) (by decide)) (o _ _ (by decide) (by decide) (by decide) (by decide)), ⟨c, c, r, r, TT, ⟨⟨?_, ?_, ?_, ?_⟩, ⟨?_, ?_, ?_, ?_⟩, ⟨by omega, Int.le_refl c, a3.2.2⟩, a4, a4, fun i i0 i1 => ?_, ?_⟩, gv.mv (o _ _ (by decide) (by decide) (by decide) (by decide)) (fun i => o 62 i (by decide) (by decide) (by omega) (by decide)) (fun i => o 63 i (by decide) (by decide) (by omega) (by decide))⟩, g8.mv (o _ _ (by decide) (by decide) (by decide) (by decide)) (o _ _ (by decide) (by decide) (by decide) (by decide)), g9.mv (o _ _ (by decide) (by decide) (by decide) (by decide)) (o _ _ (by decide) (by decide) (by decide) (by decide))⟩
  · rw [o5 _ (by decide), e4, ow_upN (Or.inl (by decide)), e3, ow_upN (Or.inl (by decide)), o2 _ (by decide)]
  · rw [o5 _ (by decide), e4, ow_upN (Or.inl (by decide)), e3, ow_upN (Or.inl (by decide)), o2 _ (by decide)]
  · rw [o5 _ (by decide), e4, ow_upN (Or.inl (by decide)), e3, ow_upN (Or.inl (by decide)), o2 _ (by decide)]
  · rw [o5 _ (by decide), e4, ow_upN (Or.inl (by decide)), e3, ow_upN (Or.inl (by decide)), o2 _ (by decide)]
  · rw [o _ _ (by decide) (by decide) (by decide) (by decide)]; exact l2.1
  · rw [o _ _ (by decide) (by decide) (by decide) (by decide)]; exact l2.2.1
  · rw [o _ _ (by decide) (by decide) (by omega) (by decide), o _ _ (by decide) (by decide) (by omega) (by decide), o _ _ (by decide) (by decide) (by omega) (by decide)]; exact l2.2.2 k k0 k1
  · rw [o _ _ (by decide) (by decide) (by decide) (by decide)]; exact l3.1
  · rw [o _ _ (by decide) (by decide) (by decide) (by decide)]; exact l3.2.1
  · rw [o _ _ (by decide) (by decide) (by omega) (by decide), o _ _ (by decide) (by decide) (by omega) (by decide), o _ _ (by decide) (by decide) (by omega) (by decide)]; exact l3.2.2 k k0 k1
  · rw [o5 _ (by decide), e4, ow_upN (Or.inl (by decide)), e3, ow_upN (Or.inl (by decide))]; exact k2.1
  · rw [o5 _ (by decide), e4, ow_upN (Or.inl (by decide)), e3, ow_upN (Or.inl (by decide))]; exact k2.2.1
  · rw [o5 _ (by decide), o5 _ (by decide), o5 _ (by decide), e4, ow_upN (Or.inl (by decide)), ow_upN (Or.inl (by decide)), ow_upN (Or.inl (by decide)), e3, ow_upN (Or.inl (by decide)), ow_upN (Or.inl (by decide)), ow_upN (Or.inl (by decide))]; exact k2.2.2 k k0 k1
  · rw [o _ _ (by decide) (by decide) (by decide) (by decide)]; exact a1.1
  · rw [o5 _ (by decide), e4, ow_upN (Or.inr (by decide)), e3, ow_upS, o2 _ (by decide), o1 _ (by decide)]; exact a1.1
  · rw [o _ _ (by decide) (by decide) (by decide) (by decide)]; exact a1.2.2.1
  · rw [o5 _ (by decide), e4, ow_upS, e3, ow_upN (Or.inr (by decide)), o2 _ (by decide), o1 _ (by decide)]; exact a1.2.2.1
  · rw [o _ _ (by decide) (by decide) (by decide) (by decide)]; exact a2.1
  · rw [i85 0 (by decide) (by decide)]; exact a2.1
  · rw [o _ _ (by decide) (by decide) (by decide) (by decide)]; exact a2.2.2.1
  · rw [i85 1 (by decide) (by decide)]; exact a2.2.2.1
  · obtain ⟨d1, d2, d3, d4⟩ := a6 i i0 i1
    exact ⟨d1, d2, d3.fr (fun y j h0 h1 => o y j (by omega) (by omega) (by omega) (by omega)), d4.mv (fun j => o 86 j (by decide) (by decide) (by omega) (by decide))⟩
  · rw [o _ _ (by decide) (by decide) (by decide) (by decide)]; exact a7
end ST3
