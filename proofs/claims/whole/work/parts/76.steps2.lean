/-! ===== one call on both sides: questions ===== -/
section ST2
variable {C : ow_C} {A L N : Int} {d : Nat} {M M' T : ow_M} {K : Int → Int → ow_M → Prop}
theorem s_bars (h : em_ok A L N) (hG : gs A L N M) (hK : ∀ r N2, gs A L N N2 → K r r N2) {x y z : Int} : ow_2 C A L N (d + 60) mX11_bars mX12_bars [(0, x), (0, y), (0, z)] M K := by
  have hG0 := hG
  obtain ⟨⟨g1, g2⟩, ⟨g3, g4⟩, g5, g6, ⟨c, c', r, r', TT, gx1, gv⟩, g8, g9⟩ := hG
  refine tX11_bars h gx1.cuC gv (fun q => tX12_bars h gx1.cuM (fun _ => hK _ _ hG0) (fun q' => absurd q' q)) (fun q M1 o1 v1 => ?_)
  have q1 := gq.of o1 (by decide) (by decide)
  refine tX12_bars h (q1.gx gx1).cuM (fun q' => absurd q q') (fun _ M2 o2 => hK _ _ (gs_end hG0 gx1 (q1.tr (gq.of o2 (by decide) (by decide))) (v1.mv (o2.at (by decide) (by decide) _) (o2.at (by decide) (by decide)) (o2.at (by decide) (by decide))) (g8.mv ?_ ?_) (g9.mv ?_ ?_))) <;> exact (o2.at (by decide) (by decide) _).trans (o1.at (by decide) (by decide) _)
theorem s_row (h : em_ok A L N) (hG : gs A L N M) (hK : ∀ r N2, gs A L N N2 → K r r N2) {x y z i : Int} : ow_2 C A L N (d + 60) mX11_row mX12_row [(0, x), (0, y), (0, z), (0, i)] M K := by
  have hG0 := hG
  obtain ⟨⟨g1, g2⟩, ⟨g3, g4⟩, g5, g6, ⟨c, c', r, r', TT, gx1, gv⟩, g8, g9⟩ := hG
  refine tX11_row h gx1.cuC gv (fun q => tX12_row h gx1.cuM (fun _ => hK _ _ hG0) (fun q' => absurd q' q)) (fun q M1 o1 v1 => ?_)
  have q1 := gq.of o1 (by decide) (by decide)
  refine tX12_row h (q1.gx gx1).cuM (fun q' => absurd q q') (fun _ M2 o2 => hK _ _ (gs_end hG0 gx1 (q1.tr (gq.of o2 (by decide) (by decide))) (v1.mv (o2.at (by decide) (by decide) _) (o2.at (by decide) (by decide)) (o2.at (by decide) (by decide))) (g8.mv ?_ ?_) (g9.mv ?_ ?_))) <;> exact (o2.at (by decide) (by decide) _).trans (o1.at (by decide) (by decide) _)
theorem s_heard (h : em_ok A L N) (hG : gs A L N M) (hK : ∀ r N2, gs A L N N2 → K r r N2) {x y z : Int} : ow_2 C A L N (d + 60) mX11_heard mX12_heard [(0, x), (0, y), (0, z)] M K := by
  have hG0 := hG
  obtain ⟨⟨g1, g2⟩, ⟨g3, g4⟩, g5, g6, ⟨c, c', r, r', TT, gx1, gv⟩, g8, g9⟩ := hG
  refine tX11_heard h gx1.cuC gv (fun q => tX12_heard h gx1.cuM (fun _ => hK _ _ hG0) (fun q' => absurd q' q)) (fun q M1 o1 v1 => ?_)
  have q1 := gq.of o1 (by decide) (by decide)
  refine tX12_heard h (q1.gx gx1).cuM (fun q' => absurd q q') (fun _ M2 o2 => hK _ _ (gs_end hG0 gx1 (q1.tr (gq.of o2 (by decide) (by decide))) (v1.mv (o2.at (by decide) (by decide) _) (o2.at (by decide) (by decide)) (o2.at (by decide) (by decide))) (g8.mv ?_ ?_) (g9.mv ?_ ?_))) <;> exact (o2.at (by decide) (by decide) _).trans (o1.at (by decide) (by decide) _)
theorem s_ways (h : em_ok A L N) (hG : gs A L N M) (hK : ∀ r N2, gs A L N N2 → K r r N2) {x y z : Int} : ow_2 C A L N (d + 60) mX11_ways mX12_ways [(0, x), (0, y), (0, z)] M K := by
  have hG0 := hG
  obtain ⟨⟨g1, g2⟩, ⟨g3, g4⟩, g5, g6, ⟨c, c', r, r', TT, gx1, gv⟩, g8, g9⟩ := hG
  refine tX11_ways h gx1.cuC gv g8 (fun q => tX12_ways h gx1.cuM (fun _ => hK _ _ hG0) (fun q' => absurd q' q)) (fun q M1 o1 v1 ct1 => ?_)
  have q1 := gq.of o1 (by decide) (by decide)
  refine tX12_ways h (q1.gx gx1).cuM (fun q' => absurd q q') (fun _ M2 o2 => hK _ _ (gs_end hG0 gx1 (q1.tr (gq.of o2 (by decide) (by decide))) (v1.mv (o2.at (by decide) (by decide) _) (o2.at (by decide) (by decide)) (o2.at (by decide) (by decide))) (ct1.mv (o2.at (by decide) (by decide) _) (o2.at (by decide) (by decide) _)) (g9.mv ?_ ?_))) <;> exact (o2.at (by decide) (by decide) _).trans (o1.at (by decide) (by decide) _)
theorem s_odds (h : em_ok A L N) (hG : gs A L N M) (hK : ∀ r N2, gs A L N N2 → K r r N2) {x y z i : Int} : ow_2 C A L N (d + 60) mX11_odds mX12_odds [(0, x), (0, y), (0, z), (0, i)] M K := by
  have hG0 := hG
  obtain ⟨⟨g1, g2⟩, ⟨g3, g4⟩, g5, g6, ⟨c, c', r, r', TT, gx1, gv⟩, g8, g9⟩ := hG
  obtain ⟨n, w, p, b1, b2, b3⟩ := g1
  refine tX11_odds h gx1.cuC gv g8 b1 b2 (fun q => tX12_odds h gx1.cuM b1 b3 (fun _ => hK _ _ hG0) (fun q' => absurd q' q)) (fun q M1 o1 v1 ct1 => ?_)
  have q1 := gq.of o1 (by decide) (by decide)
  refine tX12_odds h (q1.gx gx1).cuM b1 (b3.mv (o1.at (by decide) (by decide))) (fun q' => absurd q q') (fun _ M2 o2 => hK _ _ (gs_end hG0 gx1 (q1.tr (gq.of o2 (by decide) (by decide))) (v1.mv (o2.at (by decide) (by decide) _) (o2.at (by decide) (by decide)) (o2.at (by decide) (by decide))) (ct1.mv (o2.at (by decide) (by decide) _) (o2.at (by decide) (by decide) _)) (g9.mv ?_ ?_))) <;> exact (o2.at (by decide) (by decide) _).trans (o1.at (by decide) (by decide) _)
theorem s_road (h : em_ok A L N) (hG : gs A L N M) (hK : ∀ r N2, gs A L N N2 → K r r N2) {x y z : Int} : ow_2 C A L N (d + 60) mX11_road mX12_road [(0, x), (0, y), (0, z)] M K := by
  have hG0 := hG
  obtain ⟨⟨g1, g2⟩, ⟨g3, g4⟩, g5, g6, ⟨c, c', r, r', TT, gx1, gv⟩, g8, g9⟩ := hG
  refine tX11_road h gx1.tc gx1.cuC gv (fun q => tX12_road h gx1.cuM (fun _ => hK _ _ hG0) (fun q' => absurd q' q)) (fun q M1 o1 v1 => ?_)
  have q1 := gq.of o1 (by decide) (by decide)
  refine tX12_road h (q1.gx gx1).cuM (fun q' => absurd q q') (fun _ M2 o2 => hK _ _ (gs_end hG0 gx1 (q1.tr (gq.of o2 (by decide) (by decide))) (v1.mv (o2.at (by decide) (by decide) _) (o2.at (by decide) (by decide)) (o2.at (by decide) (by decide))) (g8.mv ?_ ?_) (g9.mv ?_ ?_))) <;> exact (o2.at (by decide) (by decide) _).trans (o1.at (by decide) (by decide) _)
theorem s_fits (h : em_ok A L N) (hG : gs A L N M) (hK : ∀ r N2, gs A L N N2 → K r r N2) {x y z i j : Int} : ow_2 C A L N (d + 60) mX11_fits mX12_fits [(0, x), (0, y), (0, z), (0, i), (0, j)] M K := by
  have hG0 := hG
  obtain ⟨⟨g1, g2⟩, ⟨g3, g4⟩, g5, g6, ⟨c, c', r, r', TT, gx1, gv⟩, g8, g9⟩ := hG
  obtain ⟨n, w, p, b1, b2, b3⟩ := g1
  refine tX11_fits h gx1.tc gx1.cuC gv b1 b2 (fun q => tX12_fits h gx1.cuM b1 b3 (fun _ => hK _ _ hG0) (fun q' => absurd q' q)) (fun q M1 o1 v1 => ?_)
  have q1 := gq.of o1 (by decide) (by decide)
  refine tX12_fits h (q1.gx gx1).cuM b1 (b3.mv (o1.at (by decide) (by decide))) (fun q' => absurd q q') (fun _ M2 o2 => hK _ _ (gs_end hG0 gx1 (q1.tr (gq.of o2 (by decide) (by decide))) (v1.mv (o2.at (by decide) (by decide) _) (o2.at (by decide) (by decide)) (o2.at (by decide) (by decide))) (g8.mv ?_ ?_) (g9.mv ?_ ?_))) <;> exact (o2.at (by decide) (by decide) _).trans (o1.at (by decide) (by decide) _)
theorem s_apart (h : em_ok A L N) (hG : gs A L N M) (hK : ∀ r N2, gs A L N N2 → K r r N2) {x : Int} : ow_2 C A L N (d + 60) mX11_apart mX12_apart [(0, x)] M K := by
  have hG0 := hG
  obtain ⟨⟨g1, g2⟩, ⟨g3, g4⟩, g5, g6, ⟨c, c', r, r', TT, gx1, gv⟩, g8, g9⟩ := hG
  obtain ⟨n, w, p, b1, b2, b3⟩ := g1
  refine tX11_apart h gx1.cuC gv b1 b2 (fun q => tX12_apart h gx1.cuM b1 b3 (fun _ => hK _ _ hG0) (fun q' => absurd q' q)) (fun q M1 o1 v1 => ?_)
  have q1 := gq.of o1 (by decide) (by decide)
  refine tX12_apart h (q1.gx gx1).cuM b1 (b3.mv (o1.at (by decide) (by decide))) (fun q' => absurd q q') (fun _ M2 o2 => hK _ _ (gs_end hG0 gx1 (q1.tr (gq.of o2 (by decide) (by decide))) (v1.mv (o2.at (by decide) (by decide) _) (o2.at (by decide) (by decide)) (o2.at (by decide) (by decide))) (g8.mv ?_ ?_) (g9.mv ?_ ?_))) <;> exact (o2.at (by decide) (by decide) _).trans (o1.at (by decide) (by decide) _)
theorem s_broke (h : em_ok A L N) (hG : gs A L N M) (hK : ∀ r N2, gs A L N N2 → K r r N2) {x y : Int} : ow_2 C A L N (d + 60) mX11_broke mX12_broke [(0, x), (0, y)] M K := by
  have hG0 := hG
  obtain ⟨⟨g1, g2⟩, ⟨g3, g4⟩, g5, g6, ⟨c, c', r, r', TT, gx1, gv⟩, g8, g9⟩ := hG
  obtain ⟨hs, n, hd, wd, tm, b1, b2, b3⟩ := g3
  refine tX11_broke h gx1.cuC gv g9 b1 b2 (fun q => tX12_broke h gx1.cuM b1 b3 (fun _ => hK _ _ hG0) (fun q' => absurd q' q)) (fun q M1 o1 v1 cc1 => ?_)
  have q1 := gq.of o1 (by decide) (by decide)
  have b3' : lg_M M1 84 hs n hd wd tm := ⟨by rw [o1.at (by decide) (by decide)]; exact b3.1, by rw [o1.at (by decide) (by decide)]; exact b3.2.1, fun k k0 k1 => by rw [o1.at (by decide) (by decide), o1.at (by decide) (by decide), o1.at (by decide) (by decide)]; exact b3.2.2 k k0 k1⟩
  refine tX12_broke h (q1.gx gx1).cuM b1 b3' (fun q' => absurd q q') (fun _ M2 o2 => hK _ _ (gs_end hG0 gx1 (q1.tr (gq.of o2 (by decide) (by decide))) (v1.mv (o2.at (by decide) (by decide) _) (o2.at (by decide) (by decide)) (o2.at (by decide) (by decide))) (g8.mv ?_ ?_) (cc1.mv (o2.at (by decide) (by decide) _) (o2.at (by decide) (by decide) _)))) <;> exact (o2.at (by decide) (by decide) _).trans (o1.at (by decide) (by decide) _)
theorem s_message (h : em_ok A L N) (hG : gs A L N M) (hK : ∀ r N2, gs A L N N2 → K r r N2) {x y z : Int} : ow_2 C A L N (d + 60) mX11_message mX12_message [(0, x), (0, y), (0, z)] M K := by
  have hG0 := hG
  obtain ⟨⟨g1, g2⟩, ⟨g3, g4⟩, g5, g6, ⟨c, c', r, r', TT, gx1, gv⟩, g8, g9⟩ := hG
  have fin : ∀ M1, ow_of [60, 61, 62, 63] [(59, 2), (58, 5)] M M1 → vw_R A L (gs_T TT r) M1 → ∀ M2, ow_of [89, 90, 91, 92] [(83, 27), (83, 28), (83, 39)] M1 M2 → gs A L N M2 := by
    intro M1 o1 v1 M2 o2
    refine gs_end hG0 gx1 ((gq.of o1 (by decide) (by decide)).tr (gq.of o2 (by decide) (by decide))) (v1.mv (o2.at (by decide) (by decide) _) (o2.at (by decide) (by decide)) (o2.at (by decide) (by decide))) (g8.mv ?_ ?_) (g9.mv ?_ ?_) <;> exact (o2.at (by decide) (by decide) _).trans (o1.at (by decide) (by decide) _)
  refine tX11_message h gx1.cuC gv (fun q => tX12_message h gx1.cuM (fun _ => hK _ _ hG0) (fun M2 o2 => hK _ _ (fin M ow_of.rf gv M2 o2))) (fun M1 o1 v1 => ?_)
  have q1 := gq.of o1 (by decide) (by decide)
  exact tX12_message h (q1.gx gx1).cuM (fun _ => hK _ _ (fin M1 o1 v1 M1 ow_of.rf)) (fun M2 o2 => hK _ _ (fin M1 o1 v1 M2 o2))
theorem s_filled (h : em_ok A L N) (hG : gs A L N M) (hK : ∀ r N2, gs A L N N2 → K r r N2) {x : Int} : ow_2 C A L N (d + 60) mX11_filled mX12_filled [(0, x)] M K := by
  have hG0 := hG
  obtain ⟨⟨g1, g2⟩, ⟨g3, g4⟩, g5, g6, ⟨c, c', r, r', TT, gx1, gv⟩, g8, g9⟩ := hG
  obtain ⟨n, w, p, b1, b2, b3⟩ := g1
  obtain ⟨a1, a2, a3, a4, a5, a6, a7⟩ := gx1
  refine tX11_filled (T := TT x) h a1.1 a3.2.2 b1 b2 (fun z0 z1 => ⟨(a6 x z0 z1).2.1, (a6 x z0 z1).2.2.1⟩) (fun q => tX12_filled (T := TT x) h a2.1 ⟨by omega, a3.2.2⟩ b1 b3 (fun z0 z1 => ⟨(a6 x z0 z1).2.1, (a6 x z0 z1).2.2.2⟩) (fun _ => hK _ _ hG0) (fun z0 z1 => absurd ⟨z0, z1⟩ q)) (fun z0 z1 M1 o1 k1 => ?_)
  have te := tx_ents (a6 x z0 z1).2.1
  have fo := (fl_all (T := TT x) b1 (a6 x z0 z1).2.1 (TT x 0 2).toNat (by omega)).1
  refine tX12_filled (T := TT x) h (by rw [o1 84 (by decide)]; exact a2.1) ⟨by omega, a3.2.2⟩ b1 (b3.mv (o1 84 (by decide))) (fun z0 z1 => ⟨(a6 x z0 z1).2.1, (a6 x z0 z1).2.2.2.mv (o1 86 (by decide))⟩) (fun q => absurd ⟨z0, z1⟩ q) (fun _ _ M2 o2 p2 k2 => hK _ _ (gs_bk hG0 (fun y i hy h84 => ?_) (fun i hi => ?_) ⟨_, _, _, fo, k1.mv (o2 _ (by decide) _) (o2 _ (by decide)) (o2 _ (by decide)) (o2 _ (by decide)), k2⟩))
  · rw [o2 y (by simpa using h84), o1 y (by simp; omega)]
  · rw [p2 i hi, o1 84 (by decide)]
end ST2
