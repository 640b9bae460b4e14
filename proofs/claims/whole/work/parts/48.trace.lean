/-! ===== the class's rows of bits ===== -/
section TCS
variable {C : ow_C} {A L N : Int} {d : Nat} {M T : ow_M} {K : Int → ow_M → Prop}
theorem em_row {j : Int} (hj : 0 ≤ j ∧ j < 9) : (0 ≤ 67 + j ∧ 67 + j < ow_nb (EM A L N) M ∧ ((EM A L N).2.1 (67 + j)).1 = 100) ∧ ((EM A L N).2.1 (67 + j)).2 = N ∧ (∀ i, ow_gv (EM A L N) M (67 + j) i = M (67 + j) i) ∧ ∀ i, (EM A L N).1 (67 + j) i = none := by
  have e : j = 0 ∨ j = 1 ∨ j = 2 ∨ j = 3 ∨ j = 4 ∨ j = 5 ∨ j = 6 ∨ j = 7 ∨ j = 8 := by omega
  have nb : ow_nb (EM A L N) M = 102 := rfl
  rcases e with e | e | e | e | e | e | e | e | e <;> subst e <;> exact ⟨⟨by decide, by rw [nb]; decide, rfl⟩, rfl, fun i => rfl, fun i => rfl⟩
theorem tX5_openBehind (h : em_ok A L N) {n : Int} (hn : n ≤ 8) (hT : vw_T A L T M (vx A L n 0 0 0)) {hand w : Int} {Q : Int → Int → Prop} (hh : 0 ≤ hand ∧ hand < n) (hw : 0 ≤ w ∧ w < N) (hQ : ∀ t b, 0 ≤ t → t < N → 1 ≤ b → b ≤ L → (ow_bt (M (67 + (hand + 1)) t) b = true ↔ Q t b)) (hK : ∀ r, ow_I r → (∀ b, 0 ≤ b → b < 32 → (ow_bt r b = true ↔ b ≤ L ∧ ∃ z, 0 ≤ z ∧ z < L * A ∧ 0 < cw A L T hand w b z ∧ Q (em_ch A L w (z / A) (z % A)) (z / A + 1))) → K r M) : ow_Sp C (EM A L N) (d + 1) mX5_openBehind (0, 0) [(3, 64), (0, hand), (0, w)] M K := by
  have hL := h.2.2.2.1
  have hL3 := h.2.2.1
  have hA := h.2.1
  have hA1 := h.1
  have hN2 := h.2.2.2.2.2
  have hD := vx_D h
  obtain ⟨rw1, rw2, rw3, rw4⟩ := em_row (A := A) (L := L) (N := N) (M := M) (j := hand + 1) ⟨by omega, by omega⟩
  refine fX5_openBehind ⟨⟨by omega, by omega⟩, ⟨by omega, by omega⟩, ?_⟩
  refine ow_upto (S := Int) (P := fun p s => ow_At C (EM A L N) (d + 1) mX5_openBehind 15 [(0, (3, 64)), (1, (0, hand)), (2, (0, w)), (3, (3, 67 + (hand + 1))), (4, (0, s)), (5, (0, p))] [] (0, 0) M K) (I := fun p s => 0 ≤ p ∧ ow_I s ∧ ∀ b, 0 ≤ b → b < 32 → (ow_bt s b = true ↔ b ≤ L ∧ ∃ z, 0 ≤ z ∧ z < p * A ∧ 0 < cw A L T hand w b z ∧ Q (em_ch A L w (z / A) (z % A)) (z / A + 1))) L (fun s hI => ?_) (fun p s p1 hI ih => ?_) 0 0 (by omega) ⟨by omega, ow_I0, fun b b0 b1 => ?_⟩
  · obtain ⟨_, i2, i3⟩ := hI
    exact cX5_openBehind_15 ⟨fun _ => hK s i2 i3, fun q => by omega⟩
  · obtain ⟨p0, i2, i3⟩ := hI
    have hdg := em_dg_rg h w p
    have hP := em_pw_le128 h p0 p1
    have cl := em_ch_rg h hw ⟨p0, p1⟩ (c := 0) ⟨by omega, by omega⟩
    refine cX5_openBehind_15 ⟨fun q => by omega, fun _ => tX10_letter h hw ⟨p0, p1⟩ (tX9_changesOf h ⟨hh.1, by omega⟩ ⟨p0, p1⟩ hdg (tX10_cleared h hw ⟨p0, p1⟩ ⟨⟨by omega, by omega⟩, ?_⟩))⟩
    have e00 : em_ch A L w p 0 = em_ch A L w p 0 + 0 * em_pw A (L - 1 - p) := by omega
    rw [e00]
    refine ow_upto (S := Int) (P := fun c s => ow_At C (EM A L N) (d + 1) mX5_openBehind 76 [(0, (3, 64)), (1, (0, hand)), (2, (0, w)), (3, (3, 67 + (hand + 1))), (4, (0, s)), (5, (0, p)), (6, (0, em_dg A L w p)), (7, (0, vx A L hand p (em_dg A L w p) 0)), (8, (0, em_ch A L w p 0 + c * em_pw A (L - 1 - p))), (9, (0, ow_shl 1 (p + 1))), (10, (0, c))] [] (0, 0) M K) (I := fun c s => 0 ≤ c ∧ ow_I s ∧ ∀ b, 0 ≤ b → b < 32 → (ow_bt s b = true ↔ b ≤ L ∧ ∃ z, 0 ≤ z ∧ z < p * A + c ∧ 0 < cw A L T hand w b z ∧ Q (em_ch A L w (z / A) (z % A)) (z / A + 1))) A (fun s hI => ?_) (fun c s c1 hI ih2 => ?_) 0 s (by omega) ⟨by omega, i2, by rw [Int.add_zero]; exact i3⟩
    · obtain ⟨_, j2, j3⟩ := hI
      have e : p * A + A = (p + 1) * A := by rw [Int.add_mul, Int.one_mul]
      rw [e] at j3
      exact cX5_openBehind_76 ⟨fun _ => ⟨⟨by omega, by omega⟩, ih s ⟨by omega, j2, j3⟩⟩, fun q => by omega⟩
    · obtain ⟨c0, j2, j3⟩ := hI
      have hr := em_ch_rg h hw ⟨p0, p1⟩ ⟨c0, c1⟩
      have e6 : em_ch A L w p 0 + c * em_pw A (L - 1 - p) = em_ch A L w p c := (em_ch0 h).symm
      have e7 : em_ch A L w p 0 + c * em_pw A (L - 1 - p) + em_pw A (L - 1 - p) = em_ch A L w p 0 + (c + 1) * em_pw A (L - 1 - p) := by rw [Int.add_mul, Int.one_mul]; omega
      obtain ⟨v2, v3, v4⟩ := (cw_v (T := T) h (hand := hand) (w := w) (bh := 0) ⟨p0, p1⟩ ⟨c0, c1⟩).2
      have cwv : ∀ b, cw A L T hand w b (p * A + c) = (if em_dg A L w p = c then 0 else ch_v T hand b p (em_dg A L w p) c) := fun b => (cw_v (T := T) h ⟨p0, p1⟩ ⟨c0, c1⟩).1
      have I8 : ow_I (em_ch A L w p 0 + c * em_pw A (L - 1 - p) + em_pw A (L - 1 - p)) := by rw [e6]; exact ⟨by omega, by omega⟩
      have nx : ∀ s', ow_I s' → (∀ b, 0 ≤ b → b < 32 → (ow_bt s' b = true ↔ ow_bt s b = true ∨ (b ≤ L ∧ 0 < cw A L T hand w b (p * A + c) ∧ Q (em_ch A L w p c) (p + 1)))) → ow_At C (EM A L N) (d + 1) mX5_openBehind 76 [(0, (3, 64)), (1, (0, hand)), (2, (0, w)), (3, (3, 67 + (hand + 1))), (4, (0, s')), (5, (0, p)), (6, (0, em_dg A L w p)), (7, (0, vx A L hand p (em_dg A L w p) 0)), (8, (0, em_ch A L w p 0 + c * em_pw A (L - 1 - p) + em_pw A (L - 1 - p))), (9, (0, ow_shl 1 (p + 1))), (10, (0, c + 1))] [] (0, 0) M K := by
        intro s' hI' ht
        rw [e7]
        refine ih2 s' ⟨by omega, hI', fun b b0 b1 => ?_⟩
        rw [ht b b0 b1, j3 b b0 b1]
        refine ⟨fun z => ?_, fun ⟨y1, z, z0, z1, z2, z3⟩ => ?_⟩
        · rcases z with ⟨y1, z, z0, z1, z2, z3⟩ | ⟨y1, y2, y3⟩
          · exact ⟨y1, z, z0, by omega, z2, z3⟩
          · exact ⟨y1, p * A + c, v2.1, by omega, y2, by rw [v3, v4]; exact y3⟩
        · by_cases e : z = p * A + c
          · subst e
            rw [v3, v4] at z3
            exact Or.inr ⟨y1, z2, z3⟩
          · exact Or.inl ⟨y1, z, z0, by omega, z2, z3⟩
      refine cX5_openBehind_76 ⟨fun q => by omega, fun _ => ⟨fun q => ⟨⟨p0, p1⟩, I8, ⟨by omega, by omega⟩, nx s j2 (fun b b0 b1 => ?_)⟩, fun q => ?_⟩⟩
      · rw [cwv, if_pos q.symm]
        exact ⟨fun z => Or.inl z, fun z => by rcases z with z | z; exact z; omega⟩
      · have R1 : ow_R (EM A L N) M (67 + (hand + 1)) 100 (em_ch A L w p c) := ⟨rw1.1, rw1.2.1, rw1.2.2, hr.1, by rw [rw2]; exact hr.2⟩
        have e0 : vx A L hand p (em_dg A L w p) 0 + c = vx A L hand p (em_dg A L w p) c := by unfold vx; omega
        have hxr := vx_rg (H := 8) ⟨hh.1, by omega⟩ ⟨p0, p1⟩ hdg ⟨c0, c1⟩
        have hq := hQ (em_ch A L w p c) (p + 1) hr.1 hr.2 (by omega) (by omega)
        have hsh := ow_and_shl (x := M (67 + (hand + 1)) (em_ch A L w p c)) (k := p + 1) ⟨by omega, by omega⟩
        have ho := (vw_open h hT (k := 0) hh ⟨p0, p1⟩ hdg ⟨c0, c1⟩ q).1
        rw [e6, rw3, e0]
        rw [e6] at I8 nx
        refine ⟨R1, fun z => ⟨⟨p0, p1⟩, I8, ⟨by omega, by omega⟩, nx s j2 (fun b b0 b1 => ?_)⟩, fun z => ⟨⟨by omega, by omega⟩, hxr, ⟨p0, p1⟩, I8, ⟨by omega, by omega⟩, nx _ ow_or_I (fun b b0 b1 => ?_)⟩⟩
        · refine ⟨fun y => Or.inl y, fun y => ?_⟩
          rcases y with y | y
          · exact y
          · exact absurd z (hsh.2 (hq.2 y.2.2))
        · have qq := hq.1 (hsh.1 z)
          rw [ow_bt_or, Bool.or_eq_true, ho b b0 b1, decide_eq_true_iff, cwv, if_neg (fun y => q y.symm)]
          exact ⟨fun y => by rcases y with y | y; exact Or.inl y; exact Or.inr ⟨y.1, y.2, qq⟩, fun y => by rcases y with y | y; exact Or.inl y; exact Or.inr ⟨y.1, y.2.1⟩⟩
  · rw [ow_bt_0]
    refine ⟨fun z => absurd z (by decide), fun ⟨_, z, z0, z1, _⟩ => ?_⟩
    rw [Int.zero_mul] at z1
    omega
end TCS
