/-! ===== the class's ways, a word ===== -/
section CN2
variable {C : ow_C} {A L N : Int} {d : Nat} {M T : ow_M} {K : Int → ow_M → Prop}
theorem cn_rg {L hand : Int} (hL : 1 ≤ L) : 0 ≤ cn_lo hand ∧ cn_lo hand ≤ cn_hi L hand ∧ cn_hi L hand ≤ L := by
  unfold cn_lo cn_hi
  split <;> omega
theorem tX2_countWord (h : em_ok A L N) {n : Int} (hn : n ≤ 8) (hT : vw_T A L T M (vx A L n 0 0 0)) {u v hand w into : Int} {k : Nat} (hk : k ≤ 7) (hu : (u = 78 ∧ v = 79) ∨ (u = 79 ∧ v = 78)) (hu2 : M 77 3 = u) (hv2 : M 77 4 = v) (hh : 0 ≤ hand ∧ hand < n) (hw : 0 ≤ w ∧ w < N) (hz : ∀ b, 0 ≤ b → b ≤ L → M u (w * (L + 1) + b) = 0) (hv : ∀ t b, 0 ≤ t → t < N → 1 ≤ b → b ≤ L → M v (t * (L + 1) + b) = bw A L T into k (hand + 1) t b) (hK : ∀ M', ow_off [u] M M' → (∀ b, cn_lo hand ≤ b → b ≤ cn_hi L hand → M' u (w * (L + 1) + b) = bw A L T into (k + 1) hand w b) → (∀ y, ¬ (w * (L + 1) ≤ y ∧ y ≤ w * (L + 1) + L) → M' u y = M u y) → K 0 M') : ow_Sp C (EM A L N) (d + 1) mX2_countWord (0, 0) [(3, 77), (0, hand), (0, w)] M K := by
  have hL := h.2.2.2.1
  have hL3 := h.2.2.1
  have hA := h.2.1
  have hA1 := h.1
  have hN2 := h.2.2.2.2.2
  have hNL := em_NL h
  have hD := vx_D h
  have lr := cn_rg (L := L) (hand := hand) (by omega)
  have hu0 : u = 78 ∨ u = 79 := by rcases hu with e | e <;> simp [e.1]
  have hv0 : v = 78 ∨ v = 79 := by rcases hu with e | e <;> simp [e.2]
  have u77 : (77 : Int) ∉ [u] := by rcases hu0 with e | e <;> subst e <;> decide
  have u63 : (63 : Int) ∉ [u] := by rcases hu0 with e | e <;> subst e <;> decide
  have u62 : (62 : Int) ∉ [u] := by rcases hu0 with e | e <;> subst e <;> decide
  have uv : v ∉ [u] := by rcases hu with e | e <;> rw [e.1, e.2] <;> decide
  -- the terms of the sum
  have tm : ∀ b z, 0 ≤ cw A L T hand w b z * bw A L T into k (hand + 1) (em_ch A L w (z / A) (z % A)) (z / A + 1) := fun b z => Int.mul_nonneg cw_rg.1 (bw_rg h k _ _ _).1
  have big := em_108 (k + 1) (by omega)
  refine fX2_countWord ?_
  refine ow_upto (S := ow_M) (P := fun p s => ow_At C (EM A L N) (d + 1) mX2_countWord 2 [(0, (3, 77)), (1, (0, hand)), (2, (0, w)), (3, (0, p))] [] (0, 0) s K) (I := fun p s => 0 ≤ p ∧ ow_off [u] M s ∧ (∀ b, cn_lo hand ≤ b → b ≤ cn_hi L hand → s u (w * (L + 1) + b) = ow_sm (fun z => cw A L T hand w b z * bw A L T into k (hand + 1) (em_ch A L w (z / A) (z % A)) (z / A + 1)) (p * A)) ∧ ∀ y, ¬ (w * (L + 1) ≤ y ∧ y ≤ w * (L + 1) + L) → s u y = M u y) L (fun s hI => ?_) (fun p s p1 hI ih => ?_) 0 M (by omega) ⟨by omega, ow_off.rf, fun b b0 b1 => by rw [hz b (by omega) (by omega), Int.zero_mul]; rfl, fun y _ => rfl⟩
  · obtain ⟨_, i2, i3, i4⟩ := hI
    exact cX2_countWord_2 ⟨fun _ => hK s i2 i3 i4, fun q => by omega⟩
  · obtain ⟨p0, i2, i3, i4⟩ := hI
    have hdg := em_dg_rg h w p
    have hP := em_pw_le128 h p0 p1
    have cl := em_ch_rg h hw ⟨p0, p1⟩ (c := 0) ⟨by omega, by omega⟩
    have a6 := em_bd (a := em_ch A L w p 0) (x := 256) (b := L + 1) (y := 9) cl.1 (by omega) (by omega) (by omega)
    have a7 := em_bd (a := em_pw A (L - 1 - p)) (x := 128) (b := L + 1) (y := 9) (by omega) hP.2 (by omega) (by omega)
    refine cX2_countWord_2 ⟨fun q => by omega, fun _ => tX10_letter h hw ⟨p0, p1⟩ (tX9_changesOf h ⟨hh.1, by omega⟩ ⟨p0, p1⟩ hdg (tX10_cleared h hw ⟨p0, p1⟩ ⟨⟨by omega, by omega⟩, ⟨by omega, by omega⟩, ⟨by omega, by omega⟩, ?_⟩))⟩
    have e00 : em_ch A L w p 0 * (L + 1) + p + 1 = em_ch A L w p 0 * (L + 1) + p + 1 + 0 * (em_pw A (L - 1 - p) * (L + 1)) := by omega
    rw [e00]
    refine ow_upto (S := ow_M) (P := fun c s => ow_At C (EM A L N) (d + 1) mX2_countWord 60 [(0, (3, 77)), (1, (0, hand)), (2, (0, w)), (3, (0, p)), (4, (0, em_dg A L w p)), (5, (0, vx A L hand p (em_dg A L w p) 0)), (6, (0, em_ch A L w p 0 * (L + 1) + p + 1 + c * (em_pw A (L - 1 - p) * (L + 1)))), (7, (0, c))] [] (0, 0) s K) (I := fun c s => 0 ≤ c ∧ ow_off [u] M s ∧ (∀ b, cn_lo hand ≤ b → b ≤ cn_hi L hand → s u (w * (L + 1) + b) = ow_sm (fun z => cw A L T hand w b z * bw A L T into k (hand + 1) (em_ch A L w (z / A) (z % A)) (z / A + 1)) (p * A + c)) ∧ ∀ y, ¬ (w * (L + 1) ≤ y ∧ y ≤ w * (L + 1) + L) → s u y = M u y) A (fun s hI => ?_) (fun c s c1 hI ih2 => ?_) 0 s (by omega) ⟨by omega, i2, fun b b0 b1 => by rw [Int.add_zero]; exact i3 b b0 b1, i4⟩
    · obtain ⟨_, j2, j3, j4⟩ := hI
      refine cX2_countWord_60 ⟨fun _ => ⟨⟨by omega, by omega⟩, ih s ⟨by omega, j2, fun b b0 b1 => ?_, j4⟩⟩, fun q => by omega⟩
      rw [Int.add_mul, Int.one_mul]; exact j3 b b0 b1
    · obtain ⟨c0, j2, j3, j4⟩ := hI
      have hr := em_ch_rg h hw ⟨p0, p1⟩ ⟨c0, c1⟩
      have a8 := em_bd (a := c) (x := 5) (b := em_pw A (L - 1 - p) * (L + 1)) (y := 1152) c0 (by omega) (by omega) (by omega)
      have e6 : em_ch A L w p 0 * (L + 1) + p + 1 + c * (em_pw A (L - 1 - p) * (L + 1)) = em_ch A L w p c * (L + 1) + (p + 1) := by
        rw [em_ch0 h (c := c), Int.add_mul, Int.mul_assoc]; omega
      have e6' : em_ch A L w p 0 * (L + 1) + p + 1 + c * (em_pw A (L - 1 - p) * (L + 1)) + em_pw A (L - 1 - p) * (L + 1) = em_ch A L w p 0 * (L + 1) + p + 1 + (c + 1) * (em_pw A (L - 1 - p) * (L + 1)) := by
        rw [Int.add_mul, Int.one_mul]; omega
      obtain ⟨v2, v3, v4⟩ := (cw_v (T := T) h (hand := hand) (w := w) (bh := 0) ⟨p0, p1⟩ ⟨c0, c1⟩).2
      have cwv : ∀ b, cw A L T hand w b (p * A + c) = (if em_dg A L w p = c then 0 else ch_v T hand b p (em_dg A L w p) c) := fun b => (cw_v (T := T) h ⟨p0, p1⟩ ⟨c0, c1⟩).1
      have stp : ∀ b, ow_sm (fun z => cw A L T hand w b z * bw A L T into k (hand + 1) (em_ch A L w (z / A) (z % A)) (z / A + 1)) (p * A + (c + 1)) = ow_sm (fun z => cw A L T hand w b z * bw A L T into k (hand + 1) (em_ch A L w (z / A) (z % A)) (z / A + 1)) (p * A + c) + cw A L T hand w b (p * A + c) * bw A L T into k (hand + 1) (em_ch A L w p c) (p + 1) := by
        intro b
        rw [← Int.add_assoc, ow_smS v2.1, v3, v4]
      -- on to the next letter
      have nx : ∀ M2, ow_off [u] M M2 → (∀ b, cn_lo hand ≤ b → b ≤ cn_hi L hand → M2 u (w * (L + 1) + b) = ow_sm (fun z => cw A L T hand w b z * bw A L T into k (hand + 1) (em_ch A L w (z / A) (z % A)) (z / A + 1)) (p * A + (c + 1))) → (∀ y, ¬ (w * (L + 1) ≤ y ∧ y ≤ w * (L + 1) + L) → M2 u y = M u y) → ow_At C (EM A L N) (d + 1) mX2_countWord 109 [(0, (3, 77)), (1, (0, hand)), (2, (0, w)), (3, (0, p)), (4, (0, em_dg A L w p)), (5, (0, vx A L hand p (em_dg A L w p) 0)), (6, (0, em_ch A L w p 0 * (L + 1) + p + 1 + c * (em_pw A (L - 1 - p) * (L + 1)))), (7, (0, c))] [] (0, 0) M2 K := by
        intro M2 o2 t2 y2
        refine cX2_countWord_109 ⟨⟨p0, p1⟩, ⟨by omega, by omega⟩, ⟨by omega, by omega⟩, ⟨by omega, by omega⟩, ?_⟩
        rw [e6']
        exact ih2 M2 ⟨by omega, o2, t2, y2⟩
      have same : (∀ b, cn_lo hand ≤ b → b ≤ cn_hi L hand → cw A L T hand w b (p * A + c) * bw A L T into k (hand + 1) (em_ch A L w p c) (p + 1) = 0) → ow_At C (EM A L N) (d + 1) mX2_countWord 109 [(0, (3, 77)), (1, (0, hand)), (2, (0, w)), (3, (0, p)), (4, (0, em_dg A L w p)), (5, (0, vx A L hand p (em_dg A L w p) 0)), (6, (0, em_ch A L w p 0 * (L + 1) + p + 1 + c * (em_pw A (L - 1 - p) * (L + 1)))), (7, (0, c))] [] (0, 0) s K := by
        intro h0
        exact nx s j2 (fun b b0 b1 => by rw [stp b, h0 b b0 b1, Int.add_zero]; exact j3 b b0 b1) j4
      refine cX2_countWord_60 ⟨fun q => by omega, fun _ => ⟨fun q => same (fun b b0 b1 => ?_), fun q => ?_⟩⟩
      · rw [cwv, if_pos q.symm, Int.zero_mul]
      · have e77 : s 77 4 = v := by rw [j2 77 u77]; exact hv2
        have ev : s v (em_ch A L w p c * (L + 1) + (p + 1)) = bw A L T into k (hand + 1) (em_ch A L w p c) (p + 1) := by
          rw [j2 v uv]; exact hv _ _ hr.1 hr.2 (by omega) (by omega)
        obtain ⟨cs1, cs2, cs3, cs4⟩ := em_lg (A := A) (L := L) (N := N) (M := s) hv0
        obtain ⟨a1, a2, _, _⟩ := vx_b (a := em_ch A L w p c) (X := N) (b := p + 1) (Y := L + 1) hr ⟨by omega, by omega⟩
        have R1 : ow_R (EM A L N) s v 101 (em_ch A L w p c * (L + 1) + (p + 1)) := ⟨cs1.1, cs1.2.1, cs1.2.2, a1, by rw [cs2]; exact a2⟩
        have hlc := ow_lcq (a := bw A L T into k (hand + 1) (em_ch A L w p c) (p + 1)) (b := 0)
        have hb8 := bw_rg (T := T) h (into := into) k (hand + 1) (em_ch A L w p c) (p + 1)
        have hxr := vx_rg (H := 8) ⟨hh.1, by omega⟩ ⟨p0, p1⟩ hdg ⟨c0, c1⟩
        have hx0 := vx_rg (H := 8) (i := 0) ⟨hh.1, by omega⟩ ⟨p0, p1⟩ hdg ⟨by omega, by omega⟩
        have e0 : vx A L hand p (em_dg A L w p) 0 + c = vx A L hand p (em_dg A L w p) c := by unfold vx; omega
        rw [e77, e6, cs3, ev, e0]
        rw [e6] at same nx
        refine ⟨R1, fun z => same (fun b b0 b1 => ?_), fun z => ⟨⟨by omega, by omega⟩, R1, ?_⟩⟩
        · rw [show bw A L T into k (hand + 1) (em_ch A L w p c) (p + 1) = 0 by omega, Int.mul_zero]
        · have e63 : ∀ b, 0 ≤ b → b ≤ L → s 63 (vx A L hand p (em_dg A L w p) c * (L + 1) + b) = cw A L T hand w b (p * A + c) := by
            intro b b0 b1
            rw [j2 63 u63, (vw_open h hT (k := 0) hh ⟨p0, p1⟩ hdg ⟨c0, c1⟩ q).2 b b0 b1, cwv, if_neg (fun z => q z.symm)]
          refine tX2_addChange h hu0 (by rw [j2 77 u77]; exact hu2) hw hxr (fun b b0 b1 => ?_) (fun M2 o2 t2 y2 => nx M2 (j2.tr o2) (fun b b0 b1 => ?_) (fun y hy => ?_))
          · rw [e63 b (by omega) (by omega), j3 b b0 b1, ← stp b]
            have t0 := tm b (p * A + c)
            rw [v3, v4] at t0
            have s0 := ow_sm_nn (g := fun z => cw A L T hand w b z * bw A L T into k (hand + 1) (em_ch A L w (z / A) (z % A)) (z / A + 1)) v2.1 (fun z _ _ => tm b z)
            have s1 := ow_sm_up (g := fun z => cw A L T hand w b z * bw A L T into k (hand + 1) (em_ch A L w (z / A) (z % A)) (z / A + 1)) (i := p * A + (c + 1)) (j := L * A) (by omega) (by omega) (fun z _ _ => tm b z)
            have s2 : ow_sm (fun z => cw A L T hand w b z * bw A L T into k (hand + 1) (em_ch A L w (z / A) (z % A)) (z / A + 1)) (L * A) ≤ 108 ^ (k + 1) := (bw_rg (T := T) h (into := into) (k + 1) hand w b).2
            have s3 := stp b
            exact ⟨⟨by omega, by omega⟩, ⟨by omega, by omega⟩⟩
          · rw [t2 b b0 b1, j3 b b0 b1, e63 b (by omega) (by omega), stp b]
          · rw [y2 y (by omega)]; exact j4 y hy
end CN2
