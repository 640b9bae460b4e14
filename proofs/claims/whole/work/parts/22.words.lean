/-! ===== words: the class's and the reference's ===== -/
section WDS
variable {C : ow_C} {A L N : Int} {d : Nat} {M : ow_M} {K : Int → ow_M → Prop}
theorem tX10_letter (h : em_ok A L N) {w p : Int} (hw : 0 ≤ w ∧ w < N) (hp : 0 ≤ p ∧ p < L) (hk : K (em_dg A L w p) M) : ow_Sp C (EM A L N) d mX10_letter (0, 0) [(3, 3), (0, w), (0, p)] M K := by
  obtain ⟨g1, g2, g3, g4, g5⟩ := em_wL h hw hp
  refine eX10_letter ?_
  have h8 := h.2.2.2.1
  simp only [em_nb, eo3, eg3_0, eg3_1, eg3_2, eg3_3, eg3_4, er5, el5, ek5, ea5, true_and, g4, g5]
  exact ⟨⟨by omega, by omega⟩, ⟨by omega, by omega⟩, ⟨by omega, g3⟩, hk⟩
theorem tX10_cleared (h : em_ok A L N) {w p : Int} (hw : 0 ≤ w ∧ w < N) (hp : 0 ≤ p ∧ p < L) (hk : K (em_ch A L w p 0) M) : ow_Sp C (EM A L N) d mX10_cleared (0, 0) [(3, 3), (0, w), (0, p)] M K := by
  obtain ⟨g1, g2, g3, g4, g5⟩ := em_wL h hw hp
  obtain ⟨c1, c2, c3⟩ := em_cl_rg h hw hp
  have hN := h.2.2.2.2.2
  refine eX10_cleared ?_
  have h8 := h.2.2.2.1
  rw [c3] at hk
  simp only [em_nb, eo3, eg3_0, eg3_1, eg3_2, eg3_3, eg3_4, er4, el4, ek4, ea4, er5, el5, ek5, ea5, true_and, g4, g5]
  exact ⟨⟨by omega, by omega⟩, ⟨by omega, by omega⟩, ⟨by omega, g3⟩, hp, ⟨by omega, by omega⟩, ⟨by omega, by omega⟩, hk⟩
theorem tX10_changed (h : em_ok A L N) {w p c : Int} (hw : 0 ≤ w ∧ w < N) (hp : 0 ≤ p ∧ p < L) (hc : 0 ≤ c ∧ c < A) (hk : K (em_ch A L w p c) M) : ow_Sp C (EM A L N) (d + 1) mX10_changed (0, 0) [(3, 3), (0, w), (0, p), (0, c)] M K := by
  have hP := em_pw_le128 h hp.1 hp.2
  have hA := h.2.1
  have hN := h.2.2.2.2.2
  have g := em_bd (a := c) (x := 5) (b := em_pw A (L - 1 - p)) (y := 128) hc.1 (by omega) (by omega) hP.2
  have g2 := em_ch_rg h hw hp hc
  rw [em_ch0 h] at g2 hk
  refine eX10_changed ?_
  simp only [em_nb, eo3, eg3_0, eg3_1, eg3_2, eg3_3, eg3_4, er4, el4, ek4, ea4, er5, el5, ek5, ea5, true_and]
  refine tX10_cleared h hw hp ?_
  exact ⟨hp, ⟨by omega, by omega⟩, ⟨by omega, by omega⟩, hk⟩
theorem tX10_isWord {w : Int} (h1 : ¬ (0 ≤ w ∧ w < N) → K 0 M) (h2 : (0 ≤ w ∧ w < N) → K 1 M) : ow_Sp C (EM A L N) d mX10_isWord (0, 0) [(3, 3), (0, w)] M K := by
  refine eX10_isWord ?_
  simp only [em_nb, eo3, eg3_0, eg3_1, eg3_2, eg3_3, eg3_4, true_and]
  exact ⟨fun q => h1 (by omega), fun q => ⟨fun q2 => h1 (by omega), fun q2 => h2 ⟨q, q2⟩⟩⟩
/-- powers by multiplying: both sides' loops -/
theorem tX10_raised_l {E : ow_E} {a n : Int} (ha : 1 ≤ a) (hn : 0 ≤ n) (hmx : em_pw a n ≤ 1000000) (hk : K (em_pw a n) M) : ∀ i : Int, 0 ≤ i → i ≤ n → ow_At C E d mX10_raised 4 [(0, (0, a)), (1, (0, n)), (2, (0, em_pw a i)), (3, (0, i))] [] (0, 0) M K := by
  intro i h0 hi
  refine ow_rng (fun hv _ => ?_)
  have hnI : ow_I n := hv (1, (0, n)) (by simp)
  clear hv
  refine ow_upto (P := fun i (_ : Unit) => ow_At C E d mX10_raised 4 [(0, (0, a)), (1, (0, n)), (2, (0, em_pw a i)), (3, (0, i))] [] (0, 0) M K) (I := fun i _ => 0 ≤ i) n (fun _ _ => ?_) (fun i _ hlt h0 ih => ?_) i () hi h0
  · exact bX10_raised_4 ⟨fun _ => hk, fun q => by omega⟩
  · refine bX10_raised_4 ⟨fun q => by omega, fun _ => ?_⟩
    have e := em_pw_s a h0
    have g1 := em_pw_le ha (show 0 ≤ i + 1 by omega) (show i + 1 ≤ n by omega)
    have g2 := em_pw_pos (show 0 < a by omega) (i + 1)
    rw [← e]
    exact ⟨⟨by omega, by omega⟩, ⟨by omega, by have := hnI.2; omega⟩, ih () (by omega)⟩
theorem tX10_raised {E : ow_E} {a n : Int} (ha : 1 ≤ a) (hn : 0 ≤ n) (hmx : em_pw a n ≤ 1000000) (hk : K (em_pw a n) M) : ow_Sp C E d mX10_raised (0, 0) [(0, a), (0, n)] M K := by
  refine eX10_raised ?_
  have := tX10_raised_l (C := C) (E := E) (d := d) ha hn hmx hk 0 (by omega) hn
  rw [em_pw0] at this
  exact this
theorem tX12_powerOf {E : ow_E} {a n : Int} (ha : 1 ≤ a) (hn : 0 ≤ n) (hmx : em_pw a n ≤ 1000000) (hk : K (em_pw a n) M) : ow_Sp C E d mX12_powerOf (0, 0) [(0, a), (0, n)] M K := by
  refine eX12_powerOf ?_
  have key : ∀ i : Int, 0 ≤ i → i ≤ n → ow_At C E d mX12_powerOf 4 [(0, (0, a)), (1, (0, n)), (2, (0, em_pw a i)), (3, (0, i))] [] (0, 0) M K := by
    intro i h0 hi
    refine ow_rng (fun hv _ => ?_)
    have hnI : ow_I n := hv (1, (0, n)) (by simp)
    clear hv
    refine ow_upto (P := fun i (_ : Unit) => ow_At C E d mX12_powerOf 4 [(0, (0, a)), (1, (0, n)), (2, (0, em_pw a i)), (3, (0, i))] [] (0, 0) M K) (I := fun i _ => 0 ≤ i) n (fun _ _ => ?_) (fun i _ hlt h0 ih => ?_) i () hi h0
    · exact bX12_powerOf_4 ⟨fun _ => hk, fun q => by omega⟩
    · refine bX12_powerOf_4 ⟨fun q => by omega, fun _ => ?_⟩
      have e := em_pw_s a h0
      have g1 := em_pw_le ha (show 0 ≤ i + 1 by omega) (show i + 1 ≤ n by omega)
      have g2 := em_pw_pos (show 0 < a by omega) (i + 1)
      rw [← e]
      exact ⟨⟨by omega, by omega⟩, ⟨by omega, by have := hnI.2; omega⟩, ih () (by omega)⟩
  have := key 0 (by omega) hn
  rw [em_pw0] at this
  exact this
theorem tX12_isIn {E : ow_E} {v lo hi : Int} (h1 : ¬ (lo ≤ v ∧ v ≤ hi) → K 0 M) (h2 : (lo ≤ v ∧ v ≤ hi) → K 1 M) : ow_Sp C E d mX12_isIn (0, 0) [(0, v), (0, lo), (0, hi)] M K := by
  refine eX12_isIn ⟨fun q => h1 (by omega), fun q => ⟨fun q2 => h1 (by omega), fun q2 => h2 ⟨q, q2⟩⟩⟩
theorem tX12_isWord0 (h : em_ok A L N) {w : Int} (h1 : ¬ (0 ≤ w ∧ w < N) → K 0 M) (h2 : (0 ≤ w ∧ w < N) → K 1 M) : ow_Sp C (EM A L N) (d + 1) mX12_isWord0 (0, 0) [(3, 83), (0, w)] M K := by
  have hN := em_Npos h
  have hN2 := h.2.2.2.2.2
  refine eX12_isWord0 ?_
  simp only [em_nb, eo83, eg83_0, eg83_1, eg83_2, eg83_3, eg83_4, eg83_5, eg83_6, en83_7, eg83_7, en83_8, eg83_8, en83_9, eg83_9, en83_10, eg83_10, en83_11, eg83_11, en83_12, eg83_12, en83_13, eg83_13, en83_14, eg83_14, en83_15, eg83_15, en83_16, eg83_16, en83_17, eg83_17, en83_18, eg83_18, eg83_19, en83_20, eg83_20, en83_21, eg83_21, en83_22, eg83_22, en83_23, eg83_23, eg83_24, eg83_25, eg83_26, en83_27, eg83_27, en83_28, eg83_28, eg83_29, eg83_30, eg83_31, eg83_32, eg83_33, eg83_34, eg83_35, eg83_36, eg83_37, eg83_38, en83_39, eg83_39, true_and]
  refine ⟨⟨by omega, by omega⟩, tX12_isIn (fun q => ⟨Or.inl rfl, h1 (by omega)⟩) (fun q => ⟨Or.inr rfl, h2 (by omega)⟩)⟩
theorem em_pw1M (h : em_ok A L N) {p : Int} (h0 : 0 ≤ p) (h1 : p < L) : em_pw A (L - 1 - p) ≤ 1000000 := by
  have := em_pw_le128 h h0 h1; omega
theorem tX12_letterAt (h : em_ok A L N) {w p : Int} (hw : 0 ≤ w ∧ w < N) (hp : 0 ≤ p ∧ p < L) (hk : K (em_dg A L w p) M) : ow_Sp C (EM A L N) (d + 1) mX12_letterAt (0, 0) [(3, 83), (0, w), (0, p)] M K := by
  have h1 := h.1
  have h4 := h.2.2.2.1
  have hN2 := h.2.2.2.2.2
  refine eX12_letterAt ?_
  simp only [em_nb, eo83, eg83_0, eg83_1, eg83_2, eg83_3, eg83_4, eg83_5, eg83_6, en83_7, eg83_7, en83_8, eg83_8, en83_9, eg83_9, en83_10, eg83_10, en83_11, eg83_11, en83_12, eg83_12, en83_13, eg83_13, en83_14, eg83_14, en83_15, eg83_15, en83_16, eg83_16, en83_17, eg83_17, en83_18, eg83_18, eg83_19, en83_20, eg83_20, en83_21, eg83_21, en83_22, eg83_22, en83_23, eg83_23, eg83_24, eg83_25, eg83_26, en83_27, eg83_27, en83_28, eg83_28, eg83_29, eg83_30, eg83_31, eg83_32, eg83_33, eg83_34, eg83_35, eg83_36, eg83_37, eg83_38, en83_39, eg83_39, true_and]
  refine ⟨⟨by omega, by omega⟩, ⟨by omega, by omega⟩, tX12_powerOf (by omega) (by omega) (em_pw1M h hp.1 hp.2) ?_⟩
  have hP := em_pwp h (L - 1 - p)
  have e1 : Int.tdiv w (em_pw A (L - 1 - p)) = w / em_pw A (L - 1 - p) := em_tdiv hw.1
  have g1 : 0 ≤ w / em_pw A (L - 1 - p) := Int.ediv_nonneg hw.1 (by omega)
  have g2 : w / em_pw A (L - 1 - p) ≤ w := Int.ediv_le_self _ hw.1
  have g3 : w / em_pw A (L - 1 - p) / A ≤ w / em_pw A (L - 1 - p) := Int.ediv_le_self _ g1
  have g4 : 0 ≤ w / em_pw A (L - 1 - p) / A := Int.ediv_nonneg g1 (by omega)
  have hd := em_dg_rg h w p
  have h5 := h.2.1
  simp only [em_nb, eo83, eg83_0, eg83_1, eg83_2, eg83_3, eg83_4, eg83_5, eg83_6, en83_7, eg83_7, en83_8, eg83_8, en83_9, eg83_9, en83_10, eg83_10, en83_11, eg83_11, en83_12, eg83_12, en83_13, eg83_13, en83_14, eg83_14, en83_15, eg83_15, en83_16, eg83_16, en83_17, eg83_17, en83_18, eg83_18, eg83_19, en83_20, eg83_20, en83_21, eg83_21, en83_22, eg83_22, en83_23, eg83_23, eg83_24, eg83_25, eg83_26, en83_27, eg83_27, en83_28, eg83_28, eg83_29, eg83_30, eg83_31, eg83_32, eg83_33, eg83_34, eg83_35, eg83_36, eg83_37, eg83_38, en83_39, eg83_39, true_and, e1, em_tdiv g1, em_tmod g1]
  refine ⟨by omega, ⟨by omega, by omega⟩, by omega, ⟨by omega, by omega⟩, ?_, hk⟩
  show ow_I (em_dg A L w p)
  exact ⟨by omega, by omega⟩
theorem tX12_changed (h : em_ok A L N) {w p c : Int} (hw : 0 ≤ w ∧ w < N) (hp : 0 ≤ p ∧ p < L) (hc : 0 ≤ c ∧ c < A) (hk : K (em_ch A L w p c) M) : ow_Sp C (EM A L N) (d + 2) mX12_changed (0, 0) [(3, 83), (0, w), (0, p), (0, c)] M K := by
  have h1 := h.1
  have h2 := h.2.1
  have h4 := h.2.2.2.1
  have hN2 := h.2.2.2.2.2
  have hd := em_dg_rg h w p
  have hP := em_pw_le128 h hp.1 hp.2
  have hcr := em_ch_rg h hw hp hc
  refine eX12_changed ?_
  simp only [em_nb, eo83, eg83_0, eg83_1, eg83_2, eg83_3, eg83_4, eg83_5, eg83_6, en83_7, eg83_7, en83_8, eg83_8, en83_9, eg83_9, en83_10, eg83_10, en83_11, eg83_11, en83_12, eg83_12, en83_13, eg83_13, en83_14, eg83_14, en83_15, eg83_15, en83_16, eg83_16, en83_17, eg83_17, en83_18, eg83_18, eg83_19, en83_20, eg83_20, en83_21, eg83_21, en83_22, eg83_22, en83_23, eg83_23, eg83_24, eg83_25, eg83_26, en83_27, eg83_27, en83_28, eg83_28, eg83_29, eg83_30, eg83_31, eg83_32, eg83_33, eg83_34, eg83_35, eg83_36, eg83_37, eg83_38, en83_39, eg83_39, true_and]
  refine tX12_letterAt h hw hp ?_
  refine ⟨⟨by omega, by omega⟩, ⟨by omega, by omega⟩, ⟨by omega, by omega⟩, tX12_powerOf (by omega) (by omega) (em_pw1M h hp.1 hp.2) ?_⟩
  have e : em_ch A L w p c = w + (c - em_dg A L w p) * em_pw A (L - 1 - p) := rfl
  rw [← e]
  exact ⟨⟨by omega, by omega⟩, ⟨by omega, by omega⟩, hk⟩
end WDS
