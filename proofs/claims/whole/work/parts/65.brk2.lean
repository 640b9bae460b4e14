/-! ===== the hands one by one, by the class ===== -/
section BC2
variable {C : ow_C} {A L N : Int} {d : Nat} {M T : ow_M} {K : Int → ow_M → Prop}
theorem tX1_passHand (h : em_ok A L N) {n : Int} (hn : n ≤ 8) (hT : vw_T A L T M (vx A L n 0 0 0)) {k : Nat} (hh : (k : Int) < n) {f : Int → Int → Int} (hc : cc_C M) (hf : cb L N M (M 80 3) f) (hr : 0 ≤ bs_lt L N f ∧ bs_lt L N f ≤ 2303) (hK : ∀ M', ow_of [81, 82] [(80, 3), (80, 4)] M M' → cc_C M' → cb L N M' (M' 80 3) (fun w b => if b = 0 then bs_lt L N f + 256 + 2 ^ k else bs_st A L N T f k w b) → K 0 M') : ow_Sp C (EM A L N) (d + 3) mX1_passHand (0, 0) [(3, 80), (0, k)] M K := by
  have hL := h.2.2.2.1
  have hL3 := h.2.2.1
  have hN := em_Npos h
  have hN2 := h.2.2.2.2.2
  have hNL := em_NL h
  have p2 := pw2 (k := k) (by omega)
  have esh : ow_shl 1 (k : Int) = 2 ^ k := by rw [ow_shl1 ⟨by omega, by omega⟩, Int.toNat_natCast]
  obtain ⟨u, hu⟩ : ∃ u, u = M 80 3 := ⟨_, rfl⟩
  obtain ⟨v, hv⟩ : ∃ v, v = M 80 4 := ⟨_, rfl⟩
  have huv : (v = 81 ∧ u = 82) ∨ (v = 82 ∧ u = 81) := by
    unfold cc_C at hc
    rw [← hu, ← hv] at hc
    rcases hc with e | e
    · exact Or.inr ⟨e.2, e.1⟩
    · exact Or.inl ⟨e.2, e.1⟩
  have hu0 : u = 81 ∨ u = 82 := by rcases huv with e | e <;> simp [e.2]
  have hv0 : v = 81 ∨ v = 82 := by rcases huv with e | e <;> simp [e.1]
  have v80 : (80 : Int) ∉ [v] := by rcases hv0 with e | e <;> subst e <;> decide
  have v62 : (62 : Int) ∉ [v] := by rcases hv0 with e | e <;> subst e <;> decide
  have v63 : (63 : Int) ∉ [v] := by rcases hv0 with e | e <;> subst e <;> decide
  have vu : u ∉ [v] := by rcases huv with e | e <;> rw [e.1, e.2] <;> decide
  have u80 : u ≠ 80 := by rcases hu0 with e | e <;> rw [e] <;> decide
  have vS : ∀ c, c ∈ [v] → c ∈ [(81 : Int), 82] := by
    intro c hc
    simp only [List.mem_singleton] at hc
    rw [hc]
    rcases hv0 with e | e <;> rw [e] <;> decide
  rw [← hu] at hf
  refine fX1_passHand (tX1_leastCost h hu0 hu.symm ?_)
  rw [cb_lt h hf, esh, ← hu, ← hv]
  refine ⟨⟨by omega, by omega⟩, ⟨by omega, by omega⟩, fun N2 e2 N3 e3 => ?_⟩
  have n33 : N3 80 3 = v := by rw [e3, ow_upN (Or.inr (by decide)), e2, ow_upS]
  have n34 : N3 80 4 = u := by rw [e3, ow_upS]
  have o3 : ow_of [81, 82] [(80, 3), (80, 4)] M N3 := by rw [e3, e2]; exact (ow_of.rf.uf (by decide)).uf (by decide)
  have n3u : ∀ y, N3 u y = M u y := fun y => by rw [e3, ow_upN (Or.inl u80), e2, ow_upN (Or.inl u80)]
  rw [n33]
  refine tJ7_fillI (n := N * (L + 1)) ⟨by omega, by omega⟩ (fun M' => ⟨(em_ci (A := A) (L := L) (N := N) (M := M') hv0).1, (em_ci (A := A) (L := L) (N := N) (M := M') hv0).2.1, (em_ci (A := A) (L := L) (N := N) (M := M') hv0).2.2.2⟩) (fun M4 o4 z4 => ?_)
  -- all words, one by one
  have words : ∀ s0, ow_off [v] N3 s0 → (∀ w b, 0 ≤ w → w < N → 0 ≤ b → b ≤ L → s0 v (w * (L + 1) + b) = if b = 0 then bs_lt L N f + 256 + 2 ^ k else 1048576) → ow_At C (EM A L N) (d + 3) mX1_passHand 77 [(0, (3, 80)), (1, (0, k)), (4, (0, 0))] [] (0, 0) s0 K := by
    intro s0 os0 b0s
    refine ow_upto (S := ow_M) (P := fun j s => ow_At C (EM A L N) (d + 3) mX1_passHand 77 [(0, (3, 80)), (1, (0, k)), (4, (0, j))] [] (0, 0) s K) (I := fun j s => 0 ≤ j ∧ ow_off [v] N3 s ∧ (∀ y, 0 ≤ y → y < N * (L + 1) → s v y ≤ 1048576) ∧ ∀ w' b', 0 ≤ w' → w' < N → 0 ≤ b' → b' ≤ L → ∀ t, s v (w' * (L + 1) + b') ≤ t ↔ (if b' = 0 then bs_lt L N f + 256 + 2 ^ k else 1048576) ≤ t ∨ ∃ w, 0 ≤ w ∧ w < j ∧ pw_e A L T f k w (L * A) w' b' t) N (fun s hI => ?_) (fun j s j1 hI ih => ?_) 0 s0 (by omega) ⟨by omega, os0, fun y y0 y1 => ?_, fun w' b' w0 w1 b0 b1 t => ?_⟩
    · obtain ⟨_, i2, i3, i4⟩ := hI
      have s3 : s 80 3 = v := by rw [i2 80 v80]; exact n33
      have s4 : s 80 4 = u := by rw [i2 80 v80]; exact n34
      refine cX1_passHand_77 ⟨fun _ => hK s (o3.tr ((ow_of.off i2).mono vS (fun x hx => by simp at hx))) ?_ ?_, fun q => by omega⟩
      · unfold cc_C; rw [s3, s4]; exact (by rcases huv with e | e; exact Or.inl e; exact Or.inr e)
      · rw [s3]
        intro w' b' w0 w1 b0 b1
        show s v (w' * (L + 1) + b') = if b' = 0 then bs_lt L N f + 256 + 2 ^ k else bs_st A L N T f k w' b'
        refine ow_le_eq (fun t => ?_)
        rw [i4 w' b' w0 w1 b0 b1 t]
        by_cases eb : b' = 0
        · rw [if_pos eb, if_pos eb]
          refine ⟨fun y => ?_, fun y => Or.inl y⟩
          rcases y with y | ⟨w, _, _, b, z, y1, y2, y3, y4, y5, y6⟩
          · exact y
          · have := (ow_zA h y2.1 y2.2).1.1
            omega
        · rw [if_neg eb, if_neg eb, bs_st_le h]
          refine ⟨fun y => ?_, fun y => ?_⟩
          · rcases y with y | ⟨w, x0, x1, b, z, y1, y2, y3, y4, y5, y6⟩
            · exact Or.inl y
            · exact Or.inr ⟨w, b, z, ⟨x0, x1⟩, y1, y2, y3, y4, y5, y6⟩
          · rcases y with y | ⟨w, b, z, x0, y1, y2, y3, y4, y5, y6⟩
            · exact Or.inl y
            · exact Or.inr ⟨w, x0.1, x0.2, b, z, y1, y2, y3, y4, y5, y6⟩
    · obtain ⟨j0, i2, i3, i4⟩ := hI
      have s3 : s 80 3 = v := by rw [i2 80 v80]; exact n33
      have s4 : s 80 4 = u := by rw [i2 80 v80]; exact n34
      have oM : ow_of [81, 82] [(80, 3), (80, 4)] M s := o3.tr ((ow_of.off i2).mono vS (fun x hx => by simp at hx))
      have sT : vw_T A L T s (vx A L n 0 0 0) := hT.cg (oM.at (by decide) (by decide)) (oM.at (by decide) (by decide))
      have sf : cb L N s u f := fun w b w0 w1 b0 b1 => by rw [i2 u vu, n3u]; exact hf w b w0 w1 b0 b1
      refine cX1_passHand_77 ⟨fun q => by omega, fun _ => tX1_passWord h hn sT huv s3 s4 ⟨by omega, hh⟩ ⟨j0, j1⟩ sf i3 (fun M5 o5 l5 t5 => ⟨⟨by omega, by omega⟩, ih M5 ⟨by omega, i2.tr o5, l5, fun w' b' w0 w1 b0 b1 t => ?_⟩⟩)⟩
      rw [t5 w' b' w0 w1 b0 b1 t, i4 w' b' w0 w1 b0 b1 t]
      refine ⟨fun y => ?_, fun y => ?_⟩
      · rcases y with (y | ⟨w, x0, x1, y⟩) | y
        · exact Or.inl y
        · exact Or.inr ⟨w, x0, by omega, y⟩
        · exact Or.inr ⟨j, j0, by omega, y⟩
      · rcases y with y | ⟨w, x0, x1, y⟩
        · exact Or.inl (Or.inl y)
        · by_cases e : w = j
          · rw [e] at y; exact Or.inr y
          · exact Or.inl (Or.inr ⟨w, x0, by omega, y⟩)
    · obtain ⟨a1, a2, a3⟩ := cb_ix h y0 y1
      rw [← a3, b0s _ _ a1.1 a1.2 a2.1 a2.2]
      split <;> omega
    · rw [b0s w' b' w0 w1 b0 b1]
      exact ⟨fun y => Or.inl y, fun y => by rcases y with y | ⟨w, x0, x1, _⟩; exact y; omega⟩
  refine ow_upto (S := ow_M) (P := fun j s => ow_At C (EM A L N) (d + 3) mX1_passHand 43 [(0, (3, 80)), (1, (0, k)), (2, (0, bs_lt L N f + 256 + 2 ^ k)), (4, (0, j))] [] (0, 0) s K) (I := fun j s => 0 ≤ j ∧ ow_off [v] N3 s ∧ ∀ w b, 0 ≤ w → w < N → 0 ≤ b → b ≤ L → s v (w * (L + 1) + b) = if b = 0 ∧ w < j then bs_lt L N f + 256 + 2 ^ k else 1048576) N (fun s hI => ?_) (fun j s j1 hI ih => ?_) 0 M4 (by omega) ⟨by omega, o4, fun w b w0 w1 b0 b1 => ?_⟩
  · obtain ⟨_, i2, i3⟩ := hI
    refine cX1_passHand_43 ⟨fun _ => words s i2 (fun w b w0 w1 b0 b1 => ?_), fun q => by omega⟩
    rw [i3 w b w0 w1 b0 b1]
    have e : (b = 0 ∧ w < N) = (b = 0) := propext ⟨fun z => z.1, fun z => ⟨z, w1⟩⟩
    simp only [e]
  · obtain ⟨j0, i2, i3⟩ := hI
    have s3 : s 80 3 = v := by rw [i2 80 v80]; exact n33
    have r := vx_b (a := j) (X := N) (b := 0) (Y := L + 1) ⟨j0, j1⟩ ⟨by omega, by omega⟩
    rw [Int.add_zero] at r
    obtain ⟨k1, k2, k3, k4⟩ := em_ci (A := A) (L := L) (N := N) (M := s) hv0
    refine cX1_passHand_43 ⟨fun q => by omega, fun _ => ?_⟩
    rw [s3]
    refine ⟨⟨by omega, by omega⟩, ⟨k1.1, k1.2.1, k1.2.2, r.1, by rw [k2]; exact r.2.1⟩, k4 _, fun N5 e5 => ⟨⟨by omega, by omega⟩, ih N5 ⟨by omega, by rw [e5]; exact i2.up (List.mem_singleton.2 rfl), fun w b w0 w1 b0 b1 => ?_⟩⟩⟩
    have r' := vx_b (a := w) (X := N) (b := b) (Y := L + 1) ⟨w0, w1⟩ ⟨b0, by omega⟩
    by_cases e : w * (L + 1) + b = j * (L + 1)
    · have ew : w = j := by rw [← r'.2.2.2, e]; exact r.2.2.2
      have eb : b = 0 := by rw [← r'.2.2.1, e]; exact r.2.2.1
      rw [e, e5, ow_upS, if_pos ⟨eb, by omega⟩]
    · rw [e5, ow_upN (Or.inr e), i3 w b w0 w1 b0 b1]
      have e2 : (b = 0 ∧ w < j) = (b = 0 ∧ w < j + 1) := propext ⟨fun z => ⟨z.1, by omega⟩, fun z => ⟨z.1, by
        have : w ≠ j := fun y => e (by rw [y, z.1, Int.add_zero])
        omega⟩⟩
      simp only [e2]
  · have r' := vx_b (a := w) (X := N) (b := b) (Y := L + 1) ⟨w0, w1⟩ ⟨b0, by omega⟩
    rw [z4 _ r'.1 r'.2.1, if_neg (fun z => by omega)]
theorem lg_as_rg (h : em_ok A L N) {hs n : Int} {hd wd tm : Int → Int} (hok : lg_ok N hs n hd wd tm) {x z : Int} : -1 ≤ lg_as hd wd tm x z n.toNat ∧ lg_as hd wd tm x z n.toNat < N := by
  have hN := em_Npos h
  have key : ∀ m : Nat, (m : Int) ≤ n → -1 ≤ lg_as hd wd tm x z m ∧ lg_as hd wd tm x z m < N := by
    intro m
    induction m with
    | zero => intro _; exact ⟨by show (-1 : Int) ≤ -1; omega, by show (-1 : Int) < N; omega⟩
    | succ m ih =>
      intro hm
      simp only [lg_as]
      split
      · exact (hok.2.2.2.2 m (by omega) (by omega)).2.1
      · exact ih (by omega)
  exact key n.toNat (by have := hok.2.2.1; omega)
theorem tX1_least (h : em_ok A L N) {hs n time : Int} {hd wd tm : Int → Int} (hok : lg_ok N hs n hd wd tm) (hL : lg_C M 14 hs n hd wd tm) (hT : vw_T A L T M (vx A L hs 0 0 0)) (hc : cc_C M) (hK : ∀ M', ow_of [81, 82] [(80, 3), (80, 4)] M M' → cc_C M' → K (bs_lt L N (bf A L N T (fun i => lg_as hd wd tm i time n.toNat) hs.toNat)) M') : ow_Sp C (EM A L N) (d + 4) mX1_least (0, 0) [(3, 80), (3, 14), (0, time)] M K := by
  have hLL := h.2.2.2.1
  have hL3 := h.2.2.1
  have hN := em_Npos h
  have hN2 := h.2.2.2.2.2
  have hNL := em_NL h
  have o1 := hok.1
  have o2 := hok.2.1
  have bd := bf_dm (T := T) h (kn := fun i => lg_as hd wd tm i time n.toNat) (fun i => lg_as_rg h hok)
  have cu : ∀ {s}, cc_C s → (s 80 3 = 81 ∨ s 80 3 = 82) := fun {s} q => by rcases q with e | e; exact Or.inl e.1; exact Or.inr e.1
  have one : ∀ {u}, (u = 81 ∨ u = 82) → ∀ c, c ∈ [u] → c ∈ [(81 : Int), 82] := fun {u} hu c hc => by
    simp only [List.mem_singleton] at hc
    rw [hc]
    rcases hu with e | e <;> rw [e] <;> decide
  have lgf : ∀ {s}, ow_of [81, 82] [(80, 3), (80, 4)] M s → lg_C s 14 hs n hd wd tm := fun {s} o => by
    refine ⟨by rw [o.at (by decide) (by decide)]; exact hL.1, by rw [o.at (by decide) (by decide)]; exact hL.2.1, fun k k0 k1 => ?_⟩
    rw [o.at (by decide) (by decide), o.at (by decide) (by decide), o.at (by decide) (by decide)]
    exact hL.2.2 k k0 k1
  have hu0 := cu hc
  -- the hands
  have hands : ∀ s0, ow_of [81, 82] [(80, 3), (80, 4)] M s0 → cc_C s0 → cb L N s0 (s0 80 3) (bf A L N T (fun i => lg_as hd wd tm i time n.toNat) 0) → ow_At C (EM A L N) (d + 4) mX1_least 52 [(0, (3, 80)), (1, (3, 14)), (2, (0, time)), (3, (0, 0))] [] (0, 0) s0 K := by
    intro s0 os0 cs0 bs0
    refine ow_upto (S := ow_M) (P := fun j s => ow_At C (EM A L N) (d + 4) mX1_least 52 [(0, (3, 80)), (1, (3, 14)), (2, (0, time)), (3, (0, j))] [] (0, 0) s K) (I := fun j s => 0 ≤ j ∧ ow_of [81, 82] [(80, 3), (80, 4)] M s ∧ cc_C s ∧ cb L N s (s 80 3) (bf A L N T (fun i => lg_as hd wd tm i time n.toNat) j.toNat)) hs (fun s hI => ?_) (fun j s j1 hI ih => ?_) 0 s0 o1 ⟨by omega, os0, cs0, bs0⟩
    · obtain ⟨_, i2, i3, i4⟩ := hI
      refine cX1_least_52 ⟨fun _ => cX1_least_89 (tX1_leastCost h (cu i3) rfl ?_), fun q => ?_⟩
      · rw [cb_lt h i4]; exact hK s i2 i3
      · rw [(lgf i2).1] at q; omega
    · obtain ⟨j0, i2, i3, i4⟩ := hI
      have ej : ((j.toNat : Nat) : Int) = j := by omega
      obtain ⟨b1, b2, b3⟩ := bd j.toNat (by omega)
      have rg := b2.rg (by omega)
      refine cX1_least_52 ⟨fun q => by rw [(lgf i2).1] at q; omega, fun _ => ⟨fun q => by omega, fun _ => ?_⟩⟩
      have sT : vw_T A L T s (vx A L hs 0 0 0) := hT.cg (i2.at (by decide) (by decide)) (i2.at (by decide) (by decide))
      have key := tX1_passHand (C := C) (d := d) (K := fun r1 N1 => ow_I (j + 1) ∧ ow_Sp C (EM A L N) (d + 3) mX4_known (0, 0) [(3, 14), (0, j + 1), (0, time)] N1 (fun r2 N2 => ow_Sp C (EM A L N) (d + 3) mX1_keepOnly (0, 0) [(3, 80), (0, r2)] N2 (fun r3 N3 => ow_At C (EM A L N) (d + 4) mX1_least 52 [(0, (3, 80)), (1, (3, 14)), (2, (0, time)), (3, (0, j + 1))] [] (0, 0) N3 K))) h o2 sT (k := j.toNat) (by omega) i3 i4 ⟨rg.1, by omega⟩ (fun M2 p2 c2 q2 => ?_)
      · rw [ej] at key; exact key
      · have o2' := i2.tr p2
        refine ⟨⟨by omega, by omega⟩, tX4_known hok (lgf o2') (tX1_keepOnly h (cu c2) rfl (lg_as_rg h hok) q2 (fun M3 p3 q3 => ?_))⟩
        have n80 : (80 : Int) ∉ [M2 80 3] := by rcases cu c2 with e | e <;> rw [e] <;> decide
        have e3 : M3 80 3 = M2 80 3 := p3 80 n80 3
        have e4 : M3 80 4 = M2 80 4 := p3 80 n80 4
        refine ih M3 ⟨by omega, o2'.tr ((ow_of.off p3).mono (one (cu c2)) (fun x hx => by simp at hx)), by unfold cc_C; rw [e3, e4]; exact c2, ?_⟩
        rw [e3, show (j + 1).toNat = j.toNat + 1 by omega]
        intro w b w0 w1 b0 b1
        rw [q3 w b w0 w1 b0 b1]
        show _ = (if lg_as hd wd tm (((j.toNat : Nat) : Int) + 1) time n.toNat = -1 ∨ w = lg_as hd wd tm (((j.toNat : Nat) : Int) + 1) time n.toNat then (if b = 0 then bs_lt L N (bf A L N T (fun i => lg_as hd wd tm i time n.toNat) j.toNat) + 256 + 2 ^ j.toNat else bs_st A L N T (bf A L N T (fun i => lg_as hd wd tm i time n.toNat) j.toNat) ((j.toNat : Nat) : Int) w b) else 1048576)
        rw [ej]
  refine fX1_least (tJ7_fillI (n := N * (L + 1)) ⟨by omega, by omega⟩ (fun M' => ⟨(em_ci (A := A) (L := L) (N := N) (M := M') hu0).1, (em_ci (A := A) (L := L) (N := N) (M := M') hu0).2.1, (em_ci (A := A) (L := L) (N := N) (M := M') hu0).2.2.2⟩) (fun M1 q1 z1 => ?_))
  obtain ⟨u, hu⟩ : ∃ u, u = M 80 3 := ⟨_, rfl⟩
  rw [← hu] at q1 z1 hu0
  have u80 : (80 : Int) ∉ [u] := by rcases hu0 with e | e <;> subst e <;> decide
  have cc : ∀ {s}, ow_off [u] M s → cc_C s := fun {s} o => by unfold cc_C; rw [o 80 u80, o 80 u80]; exact hc
  refine ow_upto (S := ow_M) (P := fun j s => ow_At C (EM A L N) (d + 4) mX1_least 11 [(0, (3, 80)), (1, (3, 14)), (2, (0, time)), (3, (0, j))] [] (0, 0) s K) (I := fun j s => 0 ≤ j ∧ ow_off [u] M s ∧ ∀ w b, 0 ≤ w → w < N → 0 ≤ b → b ≤ L → s u (w * (L + 1) + b) = if b = 0 ∧ w < j then 0 else 1048576) N (fun s hI => ?_) (fun j s j1 hI ih => ?_) 0 M1 (by omega) ⟨by omega, q1, fun w b w0 w1 b0 b1 => ?_⟩
  · obtain ⟨_, i2, i3⟩ := hI
    have s3 : s 80 3 = u := by rw [i2 80 u80]; exact hu.symm
    have os := (ow_of.off i2).mono (S' := [81, 82]) (F' := [(80, 3), (80, 4)]) (one hu0) (fun x hx => by simp at hx)
    refine cX1_least_11 ⟨fun _ => tX4_known hok (lgf os) (tX1_keepOnly (f := fun w b => if b = 0 then 0 else 1048576) h hu0 s3 (lg_as_rg h hok) (fun w b w0 w1 b0 b1 => ?_) (fun M3 p3 q3 => hands M3 (os.tr ((ow_of.off p3).mono (one hu0) (fun x hx => by simp at hx))) (cc (i2.tr p3)) ?_)), fun q => by omega⟩
    · rw [i3 w b w0 w1 b0 b1]
      have e : (b = 0 ∧ w < N) = (b = 0) := propext ⟨fun z => z.1, fun z => ⟨z, w1⟩⟩
      simp only [e]
    · rw [show M3 80 3 = u by rw [p3 80 u80]; exact s3]
      exact q3
  · obtain ⟨j0, i2, i3⟩ := hI
    have s3 : s 80 3 = u := by rw [i2 80 u80]; exact hu.symm
    have r := vx_b (a := j) (X := N) (b := 0) (Y := L + 1) ⟨j0, j1⟩ ⟨by omega, by omega⟩
    rw [Int.add_zero] at r
    obtain ⟨k1, k2, k3, k4⟩ := em_ci (A := A) (L := L) (N := N) (M := s) hu0
    refine cX1_least_11 ⟨fun q => by omega, fun _ => ?_⟩
    rw [s3]
    refine ⟨⟨by omega, by omega⟩, ⟨k1.1, k1.2.1, k1.2.2, r.1, by rw [k2]; exact r.2.1⟩, k4 _, fun N5 e5 => ⟨⟨by omega, by omega⟩, ih N5 ⟨by omega, by rw [e5]; exact i2.up (List.mem_singleton.2 rfl), fun w b w0 w1 b0 b1 => ?_⟩⟩⟩
    have r' := vx_b (a := w) (X := N) (b := b) (Y := L + 1) ⟨w0, w1⟩ ⟨b0, by omega⟩
    by_cases e : w * (L + 1) + b = j * (L + 1)
    · have ew : w = j := by rw [← r'.2.2.2, e]; exact r.2.2.2
      have eb : b = 0 := by rw [← r'.2.2.1, e]; exact r.2.2.1
      rw [e, e5, ow_upS, if_pos ⟨eb, by omega⟩]
    · rw [e5, ow_upN (Or.inr e), i3 w b w0 w1 b0 b1]
      have e2 : (b = 0 ∧ w < j) = (b = 0 ∧ w < j + 1) := propext ⟨fun z => ⟨z.1, by omega⟩, fun z => ⟨z.1, by
        have : w ≠ j := fun y => e (by rw [y, z.1, Int.add_zero])
        omega⟩⟩
      simp only [e2]
  · have r' := vx_b (a := w) (X := N) (b := b) (Y := L + 1) ⟨w0, w1⟩ ⟨b0, by omega⟩
    rw [z1 _ r'.1 r'.2.1, if_neg (fun z => by omega)]
def bk_v (A L N : Int) (T : ow_M) (hs n : Int) (hd wd tm : Int → Int) (time what : Int) : Int := if what = 0 then bs_lt L N (bf A L N T (fun i => lg_as hd wd tm i time n.toNat) hs.toNat) / 256 else bs_lt L N (bf A L N T (fun i => lg_as hd wd tm i time n.toNat) hs.toNat) % 256
theorem tX11_broke (h : em_ok A L N) (hcu : cu_C N M T) (hv : vw_R A L T M) (hc : cc_C M) {hs n : Int} {hd wd tm : Int → Int} (hok : lg_ok N hs n hd wd tm) (hL : lg_C M 14 hs n hd wd tm) {time what : Int} (h0 : ¬ ((0 ≤ time ∧ time ≤ 99) ∧ 0 ≤ what ∧ what ≤ 1) → K (-1) M) (hK : (0 ≤ time ∧ time ≤ 99) ∧ 0 ≤ what ∧ what ≤ 1 → ∀ M', ow_of [60, 61, 62, 63, 81, 82] [(59, 2), (58, 5), (80, 3), (80, 4)] M M' → vw_R A L T M' → cc_C M' → K (bk_v A L N T hs n hd wd tm time what) M') : ow_Sp C (EM A L N) (d + 6) mX11_broke (0, 0) [(3, 0), (0, time), (0, what)] M K := by
  have o1 := hok.1
  have o2 := hok.2.1
  refine fX11_broke (tX11_isTime (fun q => ⟨fun _ => h0 (fun z => q z.1), fun z => absurd rfl z⟩) (fun q1 => ⟨fun z => absurd z (by decide), fun _ => ⟨fun q => h0 (fun z => by have := z.2.1; omega), fun w0 => ⟨fun w1 => ?_, fun q => h0 (fun z => by have := z.2.2; omega)⟩⟩⟩))
  rw [hL.1]
  refine tX9_prepare h hcu hv ⟨o1, o2⟩ (fun M1 p1 v1 t1 => ?_)
  have l1 : lg_C M1 14 hs n hd wd tm := by
    refine ⟨by rw [p1.at (by decide) (by decide)]; exact hL.1, by rw [p1.at (by decide) (by decide)]; exact hL.2.1, fun k k0 k1 => ?_⟩
    rw [p1.at (by decide) (by decide), p1.at (by decide) (by decide), p1.at (by decide) (by decide)]
    exact hL.2.2 k k0 k1
  have c1 : cc_C M1 := by unfold cc_C; rw [p1.at (by decide) (by decide), p1.at (by decide) (by decide)]; exact hc
  refine tX1_least (T := T) h hok l1 t1 c1 (fun M2 p2 c2 => ?_)
  have oo : ow_of [60, 61, 62, 63, 81, 82] [(59, 2), (58, 5), (80, 3), (80, 4)] M M2 := (p1.mono (fun c hc => by simp at hc; rcases hc with e | e | e | e <;> subst e <;> decide) (fun x hx => by simp at hx; rcases hx with e | e <;> subst e <;> exact Or.inr (by decide))).tr (p2.mono (fun c hc => by simp at hc; rcases hc with e | e <;> subst e <;> decide) (fun x hx => by simp at hx; rcases hx with e | e <;> subst e <;> exact Or.inr (by decide)))
  have hk := hK ⟨q1, w0, w1⟩ M2 oo (vw_Rb v1 p2 (by decide) (by decide) (by decide) (by decide) (by decide) (by decide)) c2
  have rg := (bf_dm (T := T) h (kn := fun i => lg_as hd wd tm i time n.toNat) (fun i => lg_as_rg h hok) hs.toNat (by omega)).2.1.rg (by omega)
  unfold bk_v at hk
  refine ⟨fun z => ?_, fun z => ?_⟩
  · rw [if_neg z] at hk
    rw [ow_and255]; exact hk
  · rw [if_pos z] at hk
    rw [ow_shr_d ⟨by omega, by omega⟩ ⟨by decide, by decide⟩]; exact hk
end BC2
