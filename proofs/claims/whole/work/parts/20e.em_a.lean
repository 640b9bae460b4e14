set_option maxRecDepth 20000 in
theorem cX10_lengthFor_0 {C : ow_C} {A L N : Int} {d : Nat} {M : ow_M} {K : Int → ow_M → Prop} {l0 l1 : Int} (h : ow_At C (EM A L N) (d + 1) mX10_lengthFor 13 [(0, (0, l0)), (2, (0, max 2 (min 8 l1))), (3, (0, 0))] [] (0, 0) M K) : ow_At C (EM A L N) (d + 1) mX10_lengthFor 0 [(0, (0, l0)), (1, (0, l1))] [] (0, 0) M K := by
  refine ow_iconst (pc' := 1) (n := 2) dX10_lengthFor_0 rfl rfl ?_
  refine ow_bipush (pc' := 3) (n := 8) dX10_lengthFor_1 rfl rfl ?_
  refine ow_iload_n (pc' := 4) (x := l1) dX10_lengthFor_3 rfl rfl ?_
  refine ow_mmin (pc' := 7) dX10_lengthFor_4 lRX10_7 ow_mN1 ow_mi0 ow_mN2 rfl rfl ?_
  refine ow_mmax (pc' := 10) dX10_lengthFor_7 lRX10_13 ow_mM1 ow_mi0 ow_mM2 rfl rfl ?_
  refine ow_istore_n (pc' := 11) (lv' := [(0, (0, l0)), (1, (0, l1)), (2, (0, max 2 (min 8 l1)))]) dX10_lengthFor_10 rfl rfl rfl ?_
  refine ow_iconst (pc' := 12) (n := 0) dX10_lengthFor_11 rfl rfl ?_
  refine ow_istore_n (pc' := 13) (lv' := [(0, (0, l0)), (1, (0, l1)), (2, (0, max 2 (min 8 l1))), (3, (0, 0))]) dX10_lengthFor_12 rfl rfl rfl ?_
  refine ow_sub (lv' := [(0, (0, l0)), (2, (0, max 2 (min 8 l1))), (3, (0, 0))]) [0, 2, 3] rfl ?_
  exact h
set_option maxRecDepth 20000 in
theorem cX10_lengthFor_13 {C : ow_C} {A L N : Int} {d : Nat} {M : ow_M} {K : Int → ow_M → Prop} {l0 l2 l3 : Int} (h : (8 ≤ l3 → K l2 M) ∧ (l3 < 8 → ow_Sp C (EM A L N) d mX10_raised (0, 0) [(0, l0), (0, l2)] M (fun r1 N1 => (r1 ≤ 256 → K l2 N1) ∧ (256 < r1 → ow_I (l2 + (-1)) ∧ ow_I (l3 + 1) ∧ ow_At C (EM A L N) (d + 1) mX10_lengthFor 13 [(0, (0, l0)), (2, (0, l2 + (-1))), (3, (0, l3 + 1))] [] (0, 0) N1 K)))) : ow_At C (EM A L N) (d + 1) mX10_lengthFor 13 [(0, (0, l0)), (2, (0, l2)), (3, (0, l3))] [] (0, 0) M K := by
  refine ow_iload_n (pc' := 14) (x := l3) dX10_lengthFor_13 rfl rfl ?_
  refine ow_bipush (pc' := 16) (n := 8) dX10_lengthFor_14 rfl rfl ?_
  refine ow_icmpge (pc' := 19) (tg := 39) dX10_lengthFor_16 rfl rfl (fun hc => ?_) (fun hc => ?_)
  · have h := h.1 hc
    refine ow_iload_n (pc' := 40) (x := l2) dX10_lengthFor_39 rfl rfl ?_
    exact ow_iret dX10_lengthFor_40 rfl rfl h
  · have h := h.2 hc
    refine ow_iload_n (pc' := 20) (x := l0) dX10_lengthFor_19 rfl rfl ?_
    refine ow_iload_n (pc' := 21) (x := l2) dX10_lengthFor_20 rfl rfl ?_
    refine ow_callSp (z := mX10_raised) (n := 2) (vs := [(0, l0), (0, l2)]) (st := []) (pc' := 24) (b1 := (0, 0)) (b2 := (0, 0)) dX10_lengthFor_21 lRX10_28 kX10_raised zX10_raised rfl rfl rfl rfl rfl rfl (ow_Sp.mono h (fun r1 N1 h => ?_))
    refine ow_sipush (pc' := 27) (n := 256) dX10_lengthFor_24 rfl rfl ?_
    refine ow_icmple (pc' := 30) (tg := 39) dX10_lengthFor_27 rfl rfl (fun hc => ?_) (fun hc => ?_)
    · have h := h.1 hc
      refine ow_iload_n (pc' := 40) (x := l2) dX10_lengthFor_39 rfl rfl ?_
      exact ow_iret dX10_lengthFor_40 rfl rfl h
    · have h := h.2 hc
      obtain ⟨vv1, h⟩ := h
      refine ow_iinc (pc' := 33) (lv' := [(0, (0, l0)), (2, (0, l2 + (-1))), (3, (0, l3))]) dX10_lengthFor_30 rfl vv1 rfl rfl rfl ?_
      obtain ⟨vv2, h⟩ := h
      refine ow_iinc (pc' := 36) (lv' := [(0, (0, l0)), (2, (0, l2 + (-1))), (3, (0, l3 + 1))]) dX10_lengthFor_33 rfl vv2 rfl rfl rfl ?_
      refine ow_goto (tg := 13) dX10_lengthFor_36 rfl ?_
      exact h
theorem fX10_lengthFor {C : ow_C} {A L N : Int} {d : Nat} {M : ow_M} {K : Int → ow_M → Prop} {l0 l1 : Int} (h : ow_At C (EM A L N) (d + 1) mX10_lengthFor 13 [(0, (0, l0)), (2, (0, max 2 (min 8 l1))), (3, (0, 0))] [] (0, 0) M K) : ow_Sp C (EM A L N) (d + 1) mX10_lengthFor (0, 0) [(0, l0), (0, l1)] M K := ow_enter (by decide +kernel) rfl rfl (cX10_lengthFor_0 h)
set_option maxRecDepth 20000 in
theorem cX10_raised_0 {C : ow_C} {A L N : Int} {d : Nat} {M : ow_M} {K : Int → ow_M → Prop} {l0 l1 : Int} (h : ow_At C (EM A L N) d mX10_raised 4 [(0, (0, l0)), (1, (0, l1)), (2, (0, 1)), (3, (0, 0))] [] (0, 0) M K) : ow_At C (EM A L N) d mX10_raised 0 [(0, (0, l0)), (1, (0, l1))] [] (0, 0) M K := by
  refine ow_iconst (pc' := 1) (n := 1) dX10_raised_0 rfl rfl ?_
  refine ow_istore_n (pc' := 2) (lv' := [(0, (0, l0)), (1, (0, l1)), (2, (0, 1))]) dX10_raised_1 rfl rfl rfl ?_
  refine ow_iconst (pc' := 3) (n := 0) dX10_raised_2 rfl rfl ?_
  refine ow_istore_n (pc' := 4) (lv' := [(0, (0, l0)), (1, (0, l1)), (2, (0, 1)), (3, (0, 0))]) dX10_raised_3 rfl rfl rfl ?_
  exact h
set_option maxRecDepth 20000 in
theorem cX10_raised_4 {C : ow_C} {A L N : Int} {d : Nat} {M : ow_M} {K : Int → ow_M → Prop} {l0 l1 l2 l3 : Int} (h : (l1 ≤ l3 → K l2 M) ∧ (l3 < l1 → ow_I (l2 * l0) ∧ ow_I (l3 + 1) ∧ ow_At C (EM A L N) d mX10_raised 4 [(0, (0, l0)), (1, (0, l1)), (2, (0, l2 * l0)), (3, (0, l3 + 1))] [] (0, 0) M K)) : ow_At C (EM A L N) d mX10_raised 4 [(0, (0, l0)), (1, (0, l1)), (2, (0, l2)), (3, (0, l3))] [] (0, 0) M K := by
  refine ow_iload_n (pc' := 5) (x := l3) dX10_raised_4 rfl rfl ?_
  refine ow_iload_n (pc' := 6) (x := l1) dX10_raised_5 rfl rfl ?_
  refine ow_icmpge (pc' := 9) (tg := 19) dX10_raised_6 rfl rfl (fun hc => ?_) (fun hc => ?_)
  · have h := h.1 hc
    refine ow_iload_n (pc' := 20) (x := l2) dX10_raised_19 rfl rfl ?_
    exact ow_iret dX10_raised_20 rfl rfl h
  · have h := h.2 hc
    refine ow_iload_n (pc' := 10) (x := l2) dX10_raised_9 rfl rfl ?_
    refine ow_iload_n (pc' := 11) (x := l0) dX10_raised_10 rfl rfl ?_
    obtain ⟨vv1, h⟩ := h
    refine ow_imul (pc' := 12) dX10_raised_11 vv1 rfl ?_
    refine ow_istore_n (pc' := 13) (lv' := [(0, (0, l0)), (1, (0, l1)), (2, (0, l2 * l0)), (3, (0, l3))]) dX10_raised_12 rfl rfl rfl ?_
    obtain ⟨vv2, h⟩ := h
    refine ow_iinc (pc' := 16) (lv' := [(0, (0, l0)), (1, (0, l1)), (2, (0, l2 * l0)), (3, (0, l3 + 1))]) dX10_raised_13 rfl vv2 rfl rfl rfl ?_
    refine ow_goto (tg := 4) dX10_raised_16 rfl ?_
    exact h
theorem fX10_raised {C : ow_C} {A L N : Int} {d : Nat} {M : ow_M} {K : Int → ow_M → Prop} {l0 l1 : Int} (h : ow_At C (EM A L N) d mX10_raised 4 [(0, (0, l0)), (1, (0, l1)), (2, (0, 1)), (3, (0, 0))] [] (0, 0) M K) : ow_Sp C (EM A L N) d mX10_raised (0, 0) [(0, l0), (0, l1)] M K := ow_enter (by decide +kernel) rfl rfl (cX10_raised_0 h)
set_option maxRecDepth 20000 in
theorem cX10_isWord_0 {C : ow_C} {A L N : Int} {d : Nat} {M : ow_M} {K : Int → ow_M → Prop} {l1 : Int} (h : (l1 < 0 → K 0 M) ∧ (0 ≤ l1 → (N ≤ l1 → K 0 M) ∧ (l1 < N → K 1 M))) : ow_At C (EM A L N) d mX10_isWord 0 [(0, (3, 3)), (1, (0, l1))] [] (0, 0) M K := by
  refine ow_iload_n (pc' := 1) (x := l1) dX10_isWord_0 rfl rfl ?_
  refine ow_iflt (pc' := 4) (tg := 16) dX10_isWord_1 rfl rfl (fun hc => ?_) (fun hc => ?_)
  · have h := h.1 hc
    refine ow_iconst (pc' := 17) (n := 0) dX10_isWord_16 rfl rfl ?_
    exact ow_zret dX10_isWord_17 rfl rfl (Or.inl rfl) h
  · have h := h.2 hc
    refine ow_iload_n (pc' := 5) (x := l1) dX10_isWord_4 rfl rfl ?_
    refine ow_aload_n (pc' := 6) (x := 3) dX10_isWord_5 rfl rfl ?_
    refine ow_getf3 (pc' := 9) (t := 0) (ji := 2) (val := N) dX10_isWord_6 fRX10_31 rfl rfl rfl (of_eq_true eo3) eg3_2 ?_
    refine ow_icmpge (pc' := 12) (tg := 16) dX10_isWord_9 rfl rfl (fun hc => ?_) (fun hc => ?_)
    · have h := h.1 hc
      refine ow_iconst (pc' := 17) (n := 0) dX10_isWord_16 rfl rfl ?_
      exact ow_zret dX10_isWord_17 rfl rfl (Or.inl rfl) h
    · have h := h.2 hc
      refine ow_iconst (pc' := 13) (n := 1) dX10_isWord_12 rfl rfl ?_
      refine ow_goto (tg := 17) dX10_isWord_13 rfl ?_
      exact ow_zret dX10_isWord_17 rfl rfl (Or.inr rfl) h
theorem fX10_isWord {C : ow_C} {A L N : Int} {d : Nat} {M : ow_M} {K : Int → ow_M → Prop} {l1 : Int} (h : (l1 < 0 → K 0 M) ∧ (0 ≤ l1 → (N ≤ l1 → K 0 M) ∧ (l1 < N → K 1 M))) : ow_Sp C (EM A L N) d mX10_isWord (0, 0) [(3, 3), (0, l1)] M K := ow_enter (by decide +kernel) rfl rfl (cX10_isWord_0 h)
set_option maxRecDepth 20000 in
theorem cX10_letter_0 {C : ow_C} {A L N : Int} {d : Nat} {M : ow_M} {K : Int → ow_M → Prop} {l1 l2 : Int} (h : ow_I (l1 * L) ∧ ow_I ((l1 * L) + l2) ∧ (0 ≤ ((l1 * L) + l2) ∧ ((l1 * L) + l2) < (N * L)) ∧ K (em_dg A L (((l1 * L) + l2) / L) (((l1 * L) + l2) % L)) M) : ow_At C (EM A L N) d mX10_letter 0 [(0, (3, 3)), (1, (0, l1)), (2, (0, l2))] [] (0, 0) M K := by
  refine ow_aload_n (pc' := 1) (x := 3) dX10_letter_0 rfl rfl ?_
  refine ow_getf3 (pc' := 4) (t := 3) (ji := 4) (val := 5) dX10_letter_1 fRX10_38 rfl rfl rfl (of_eq_true eo3) eg3_4 ?_
  refine ow_iload_n (pc' := 5) (x := l1) dX10_letter_4 rfl rfl ?_
  refine ow_aload_n (pc' := 6) (x := 3) dX10_letter_5 rfl rfl ?_
  refine ow_getf3 (pc' := 9) (t := 0) (ji := 1) (val := L) dX10_letter_6 fRX10_25 rfl rfl rfl (of_eq_true eo3) eg3_1 ?_
  obtain ⟨vv1, h⟩ := h
  refine ow_imul (pc' := 10) dX10_letter_9 vv1 rfl ?_
  refine ow_iload_n (pc' := 11) (x := l2) dX10_letter_10 rfl rfl ?_
  obtain ⟨vv2, h⟩ := h
  refine ow_iadd (pc' := 12) dX10_letter_11 vv2 rfl ?_
  obtain ⟨vv3, h⟩ := h
  refine ow_iaload3 (pc' := 13) (val := em_dg A L (((l1 * L) + l2) / L) (((l1 * L) + l2) % L)) dX10_letter_12 rfl (Eq.mpr (er5 _) vv3) (ea5 _) ?_
  exact ow_iret dX10_letter_13 rfl rfl h
theorem fX10_letter {C : ow_C} {A L N : Int} {d : Nat} {M : ow_M} {K : Int → ow_M → Prop} {l1 l2 : Int} (h : ow_I (l1 * L) ∧ ow_I ((l1 * L) + l2) ∧ (0 ≤ ((l1 * L) + l2) ∧ ((l1 * L) + l2) < (N * L)) ∧ K (em_dg A L (((l1 * L) + l2) / L) (((l1 * L) + l2) % L)) M) : ow_Sp C (EM A L N) d mX10_letter (0, 0) [(3, 3), (0, l1), (0, l2)] M K := ow_enter (by decide +kernel) rfl rfl (cX10_letter_0 h)
set_option maxRecDepth 20000 in
theorem cX10_cleared_0 {C : ow_C} {A L N : Int} {d : Nat} {M : ow_M} {K : Int → ow_M → Prop} {l1 l2 : Int} (h : ow_I (l1 * L) ∧ ow_I ((l1 * L) + l2) ∧ (0 ≤ ((l1 * L) + l2) ∧ ((l1 * L) + l2) < (N * L)) ∧ (0 ≤ l2 ∧ l2 < L) ∧ ow_I ((em_dg A L (((l1 * L) + l2) / L) (((l1 * L) + l2) % L)) * (em_pw A (L - 1 - l2))) ∧ ow_I (l1 - ((em_dg A L (((l1 * L) + l2) / L) (((l1 * L) + l2) % L)) * (em_pw A (L - 1 - l2)))) ∧ K (l1 - ((em_dg A L (((l1 * L) + l2) / L) (((l1 * L) + l2) % L)) * (em_pw A (L - 1 - l2)))) M) : ow_At C (EM A L N) d mX10_cleared 0 [(0, (3, 3)), (1, (0, l1)), (2, (0, l2))] [] (0, 0) M K := by
  refine ow_iload_n (pc' := 1) (x := l1) dX10_cleared_0 rfl rfl ?_
  refine ow_aload_n (pc' := 2) (x := 3) dX10_cleared_1 rfl rfl ?_
  refine ow_getf3 (pc' := 5) (t := 3) (ji := 4) (val := 5) dX10_cleared_2 fRX10_38 rfl rfl rfl (of_eq_true eo3) eg3_4 ?_
  refine ow_iload_n (pc' := 6) (x := l1) dX10_cleared_5 rfl rfl ?_
  refine ow_aload_n (pc' := 7) (x := 3) dX10_cleared_6 rfl rfl ?_
  refine ow_getf3 (pc' := 10) (t := 0) (ji := 1) (val := L) dX10_cleared_7 fRX10_25 rfl rfl rfl (of_eq_true eo3) eg3_1 ?_
  obtain ⟨vv1, h⟩ := h
  refine ow_imul (pc' := 11) dX10_cleared_10 vv1 rfl ?_
  refine ow_iload_n (pc' := 12) (x := l2) dX10_cleared_11 rfl rfl ?_
  obtain ⟨vv2, h⟩ := h
  refine ow_iadd (pc' := 13) dX10_cleared_12 vv2 rfl ?_
  obtain ⟨vv3, h⟩ := h
  refine ow_iaload3 (pc' := 14) (val := em_dg A L (((l1 * L) + l2) / L) (((l1 * L) + l2) % L)) dX10_cleared_13 rfl (Eq.mpr (er5 _) vv3) (ea5 _) ?_
  refine ow_aload_n (pc' := 15) (x := 3) dX10_cleared_14 rfl rfl ?_
  refine ow_getf3 (pc' := 18) (t := 3) (ji := 3) (val := 4) dX10_cleared_15 fRX10_34 rfl rfl rfl (of_eq_true eo3) eg3_3 ?_
  refine ow_iload_n (pc' := 19) (x := l2) dX10_cleared_18 rfl rfl ?_
  obtain ⟨vv4, h⟩ := h
  refine ow_iaload3 (pc' := 20) (val := em_pw A (L - 1 - l2)) dX10_cleared_19 rfl (Eq.mpr (er4 _) vv4) (ea4 _) ?_
  obtain ⟨vv5, h⟩ := h
  refine ow_imul (pc' := 21) dX10_cleared_20 vv5 rfl ?_
  obtain ⟨vv6, h⟩ := h
  refine ow_isub (pc' := 22) dX10_cleared_21 vv6 rfl ?_
  exact ow_iret dX10_cleared_22 rfl rfl h
theorem fX10_cleared {C : ow_C} {A L N : Int} {d : Nat} {M : ow_M} {K : Int → ow_M → Prop} {l1 l2 : Int} (h : ow_I (l1 * L) ∧ ow_I ((l1 * L) + l2) ∧ (0 ≤ ((l1 * L) + l2) ∧ ((l1 * L) + l2) < (N * L)) ∧ (0 ≤ l2 ∧ l2 < L) ∧ ow_I ((em_dg A L (((l1 * L) + l2) / L) (((l1 * L) + l2) % L)) * (em_pw A (L - 1 - l2))) ∧ ow_I (l1 - ((em_dg A L (((l1 * L) + l2) / L) (((l1 * L) + l2) % L)) * (em_pw A (L - 1 - l2)))) ∧ K (l1 - ((em_dg A L (((l1 * L) + l2) / L) (((l1 * L) + l2) % L)) * (em_pw A (L - 1 - l2)))) M) : ow_Sp C (EM A L N) d mX10_cleared (0, 0) [(3, 3), (0, l1), (0, l2)] M K := ow_enter (by decide +kernel) rfl rfl (cX10_cleared_0 h)
set_option maxRecDepth 20000 in
theorem cX10_changed_0 {C : ow_C} {A L N : Int} {d : Nat} {M : ow_M} {K : Int → ow_M → Prop} {l1 l2 l3 : Int} (h : ow_Sp C (EM A L N) d mX10_cleared (0, 0) [(3, 3), (0, l1), (0, l2)] M (fun r1 N1 => (0 ≤ l2 ∧ l2 < L) ∧ ow_I (l3 * (em_pw A (L - 1 - l2))) ∧ ow_I (r1 + (l3 * (em_pw A (L - 1 - l2)))) ∧ K (r1 + (l3 * (em_pw A (L - 1 - l2)))) N1)) : ow_At C (EM A L N) (d + 1) mX10_changed 0 [(0, (3, 3)), (1, (0, l1)), (2, (0, l2)), (3, (0, l3))] [] (0, 0) M K := by
  refine ow_aload_n (pc' := 1) (x := 3) dX10_changed_0 rfl rfl ?_
  refine ow_iload_n (pc' := 2) (x := l1) dX10_changed_1 rfl rfl ?_
  refine ow_iload_n (pc' := 3) (x := l2) dX10_changed_2 rfl rfl ?_
  refine ow_callVp (z := mX10_cleared) (n := 2) (k := 10) (vs := [(0, l1), (0, l2)]) (x := 3) (st := []) (pc' := 6) (b1 := (0, 0)) (b2 := (0, 0)) dX10_changed_3 lRX10_41 kX10_cleared iX10_cleared rfl rfl rfl rfl rfl rfl (of_eq_true eo3) (ow_Sp.mono h (fun r1 N1 h => ?_))
  refine ow_iload_n (pc' := 7) (x := l3) dX10_changed_6 rfl rfl ?_
  refine ow_aload_n (pc' := 8) (x := 3) dX10_changed_7 rfl rfl ?_
  refine ow_getf3 (pc' := 11) (t := 3) (ji := 3) (val := 4) dX10_changed_8 fRX10_34 rfl rfl rfl (of_eq_true eo3) eg3_3 ?_
  refine ow_iload_n (pc' := 12) (x := l2) dX10_changed_11 rfl rfl ?_
  obtain ⟨vv1, h⟩ := h
  refine ow_iaload3 (pc' := 13) (val := em_pw A (L - 1 - l2)) dX10_changed_12 rfl (Eq.mpr (er4 _) vv1) (ea4 _) ?_
  obtain ⟨vv2, h⟩ := h
  refine ow_imul (pc' := 14) dX10_changed_13 vv2 rfl ?_
  obtain ⟨vv3, h⟩ := h
  refine ow_iadd (pc' := 15) dX10_changed_14 vv3 rfl ?_
  exact ow_iret dX10_changed_15 rfl rfl h
theorem fX10_changed {C : ow_C} {A L N : Int} {d : Nat} {M : ow_M} {K : Int → ow_M → Prop} {l1 l2 l3 : Int} (h : ow_Sp C (EM A L N) d mX10_cleared (0, 0) [(3, 3), (0, l1), (0, l2)] M (fun r1 N1 => (0 ≤ l2 ∧ l2 < L) ∧ ow_I (l3 * (em_pw A (L - 1 - l2))) ∧ ow_I (r1 + (l3 * (em_pw A (L - 1 - l2)))) ∧ K (r1 + (l3 * (em_pw A (L - 1 - l2)))) N1)) : ow_Sp C (EM A L N) (d + 1) mX10_changed (0, 0) [(3, 3), (0, l1), (0, l2), (0, l3)] M K := ow_enter (by decide +kernel) rfl rfl (cX10_changed_0 h)
set_option maxRecDepth 20000 in
theorem cX10_unlike_0 {C : ow_C} {A L N : Int} {d : Nat} {M : ow_M} {K : Int → ow_M → Prop} {l1 l2 : Int} (h : ow_At C (EM A L N) (d + 1) mX10_unlike 5 [(0, (3, 3)), (1, (0, l1)), (2, (0, l2)), (3, (0, 0)), (4, (0, 0))] [] (0, 0) M K) : ow_At C (EM A L N) (d + 1) mX10_unlike 0 [(0, (3, 3)), (1, (0, l1)), (2, (0, l2))] [] (0, 0) M K := by
  refine ow_iconst (pc' := 1) (n := 0) dX10_unlike_0 rfl rfl ?_
  refine ow_istore_n (pc' := 2) (lv' := [(0, (3, 3)), (1, (0, l1)), (2, (0, l2)), (3, (0, 0))]) dX10_unlike_1 rfl rfl rfl ?_
  refine ow_iconst (pc' := 3) (n := 0) dX10_unlike_2 rfl rfl ?_
  refine ow_istore (pc' := 5) (lv' := [(0, (3, 3)), (1, (0, l1)), (2, (0, l2)), (3, (0, 0)), (4, (0, 0))]) dX10_unlike_3 rfl rfl rfl ?_
  exact h
set_option maxRecDepth 20000 in
theorem cX10_unlike_5 {C : ow_C} {A L N : Int} {d : Nat} {M : ow_M} {K : Int → ow_M → Prop} {l1 l2 l3 l4 : Int} (h : (L ≤ l4 → K l3 M) ∧ (l4 < L → ow_Sp C (EM A L N) d mX10_letter (0, 0) [(3, 3), (0, l1), (0, l4)] M (fun r1 N1 => ow_Sp C (EM A L N) d mX10_letter (0, 0) [(3, 3), (0, l2), (0, l4)] N1 (fun r2 N2 => (r1 = r2 → ow_I (l4 + 1) ∧ ow_At C (EM A L N) (d + 1) mX10_unlike 5 [(0, (3, 3)), (1, (0, l1)), (2, (0, l2)), (3, (0, l3)), (4, (0, l4 + 1))] [] (0, 0) N2 K) ∧ (r1 ≠ r2 → ow_I (l3 + 1) ∧ ow_I (l4 + 1) ∧ ow_At C (EM A L N) (d + 1) mX10_unlike 5 [(0, (3, 3)), (1, (0, l1)), (2, (0, l2)), (3, (0, l3 + 1)), (4, (0, l4 + 1))] [] (0, 0) N2 K))))) : ow_At C (EM A L N) (d + 1) mX10_unlike 5 [(0, (3, 3)), (1, (0, l1)), (2, (0, l2)), (3, (0, l3)), (4, (0, l4))] [] (0, 0) M K := by
  refine ow_iload (pc' := 7) (x := l4) dX10_unlike_5 rfl rfl ?_
  refine ow_aload_n (pc' := 8) (x := 3) dX10_unlike_7 rfl rfl ?_
  refine ow_getf3 (pc' := 11) (t := 0) (ji := 1) (val := L) dX10_unlike_8 fRX10_25 rfl rfl rfl (of_eq_true eo3) eg3_1 ?_
  refine ow_icmpge (pc' := 14) (tg := 40) dX10_unlike_11 rfl rfl (fun hc => ?_) (fun hc => ?_)
  · have h := h.1 hc
    refine ow_iload_n (pc' := 41) (x := l3) dX10_unlike_40 rfl rfl ?_
    exact ow_iret dX10_unlike_41 rfl rfl h
  · have h := h.2 hc
    refine ow_aload_n (pc' := 15) (x := 3) dX10_unlike_14 rfl rfl ?_
    refine ow_iload_n (pc' := 16) (x := l1) dX10_unlike_15 rfl rfl ?_
    refine ow_iload (pc' := 18) (x := l4) dX10_unlike_16 rfl rfl ?_
    refine ow_callVp (z := mX10_letter) (n := 2) (k := 10) (vs := [(0, l1), (0, l4)]) (x := 3) (st := []) (pc' := 21) (b1 := (0, 0)) (b2 := (0, 0)) dX10_unlike_18 lRX10_44 kX10_letter iX10_letter rfl rfl rfl rfl rfl rfl (of_eq_true eo3) (ow_Sp.mono h (fun r1 N1 h => ?_))
    refine ow_aload_n (pc' := 22) (x := 3) dX10_unlike_21 rfl rfl ?_
    refine ow_iload_n (pc' := 23) (x := l2) dX10_unlike_22 rfl rfl ?_
    refine ow_iload (pc' := 25) (x := l4) dX10_unlike_23 rfl rfl ?_
    refine ow_callVp (z := mX10_letter) (n := 2) (k := 10) (vs := [(0, l2), (0, l4)]) (x := 3) (st := [(0, r1)]) (pc' := 28) (b1 := (0, 0)) (b2 := (0, 0)) dX10_unlike_25 lRX10_44 kX10_letter iX10_letter rfl rfl rfl rfl rfl rfl (of_eq_true eo3) (ow_Sp.mono h (fun r2 N2 h => ?_))
    refine ow_icmpeq (pc' := 31) (tg := 34) dX10_unlike_28 rfl rfl (fun hc => ?_) (fun hc => ?_)
    · have h := h.1 hc
      obtain ⟨vv1, h⟩ := h
      refine ow_iinc (pc' := 37) (lv' := [(0, (3, 3)), (1, (0, l1)), (2, (0, l2)), (3, (0, l3)), (4, (0, l4 + 1))]) dX10_unlike_34 rfl vv1 rfl rfl rfl ?_
      refine ow_goto (tg := 5) dX10_unlike_37 rfl ?_
      exact h
    · have h := h.2 hc
      obtain ⟨vv2, h⟩ := h
      refine ow_iinc (pc' := 34) (lv' := [(0, (3, 3)), (1, (0, l1)), (2, (0, l2)), (3, (0, l3 + 1)), (4, (0, l4))]) dX10_unlike_31 rfl vv2 rfl rfl rfl ?_
      obtain ⟨vv3, h⟩ := h
      refine ow_iinc (pc' := 37) (lv' := [(0, (3, 3)), (1, (0, l1)), (2, (0, l2)), (3, (0, l3 + 1)), (4, (0, l4 + 1))]) dX10_unlike_34 rfl vv3 rfl rfl rfl ?_
      refine ow_goto (tg := 5) dX10_unlike_37 rfl ?_
      exact h
theorem fX10_unlike {C : ow_C} {A L N : Int} {d : Nat} {M : ow_M} {K : Int → ow_M → Prop} {l1 l2 : Int} (h : ow_At C (EM A L N) (d + 1) mX10_unlike 5 [(0, (3, 3)), (1, (0, l1)), (2, (0, l2)), (3, (0, 0)), (4, (0, 0))] [] (0, 0) M K) : ow_Sp C (EM A L N) (d + 1) mX10_unlike (0, 0) [(3, 3), (0, l1), (0, l2)] M K := ow_enter (by decide +kernel) rfl rfl (cX10_unlike_0 h)
set_option maxRecDepth 20000 in
theorem cX10_canTurn_0 {C : ow_C} {A L N : Int} {d : Nat} {M : ow_M} {K : Int → ow_M → Prop} {l1 l2 : Int} (h : (l1 ≤ l2 → (A ≠ 2 → (0 < l1 → K 1 M) ∧ (l1 ≤ 0 → (l2 = 1 → K 0 M) ∧ (l2 ≠ 1 → K 1 M))) ∧ (A = 2 → ow_I (l2 - l1) ∧ (2 : Int) ≠ 0 ∧ ow_I (Int.tdiv (l2 - l1) 2) ∧ ow_I (Int.tmod (l2 - l1) 2) ∧ ((Int.tmod (l2 - l1) 2) ≠ 0 → K 0 M) ∧ ((Int.tmod (l2 - l1) 2) = 0 → K 1 M))) ∧ (l2 < l1 → K 0 M)) : ow_At C (EM A L N) d mX10_canTurn 0 [(0, (3, 3)), (1, (0, l1)), (2, (0, l2))] [] (0, 0) M K := by
  refine ow_iload_n (pc' := 1) (x := l2) dX10_canTurn_0 rfl rfl ?_
  refine ow_iload_n (pc' := 2) (x := l1) dX10_canTurn_1 rfl rfl ?_
  refine ow_icmpge (pc' := 5) (tg := 7) dX10_canTurn_2 rfl rfl (fun hc => ?_) (fun hc => ?_)
  · have h := h.1 hc
    refine ow_aload_n (pc' := 8) (x := 3) dX10_canTurn_7 rfl rfl ?_
    refine ow_getf3 (pc' := 11) (t := 0) (ji := 0) (val := A) dX10_canTurn_8 fRX10_16 rfl rfl rfl (of_eq_true eo3) eg3_0 ?_
    refine ow_iconst (pc' := 12) (n := 2) dX10_canTurn_11 rfl rfl ?_
    refine ow_icmpne (pc' := 15) (tg := 29) dX10_canTurn_12 rfl rfl (fun hc => ?_) (fun hc => ?_)
    · have h := h.1 hc
      refine ow_iload_n (pc' := 30) (x := l1) dX10_canTurn_29 rfl rfl ?_
      refine ow_ifgt (pc' := 33) (tg := 38) dX10_canTurn_30 rfl rfl (fun hc => ?_) (fun hc => ?_)
      · have h := h.1 hc
        refine ow_iconst (pc' := 39) (n := 1) dX10_canTurn_38 rfl rfl ?_
        refine ow_goto (tg := 43) dX10_canTurn_39 rfl ?_
        exact ow_zret dX10_canTurn_43 rfl rfl (Or.inr rfl) h
      · have h := h.2 hc
        refine ow_iload_n (pc' := 34) (x := l2) dX10_canTurn_33 rfl rfl ?_
        refine ow_iconst (pc' := 35) (n := 1) dX10_canTurn_34 rfl rfl ?_
        refine ow_icmpeq (pc' := 38) (tg := 42) dX10_canTurn_35 rfl rfl (fun hc => ?_) (fun hc => ?_)
        · have h := h.1 hc
          refine ow_iconst (pc' := 43) (n := 0) dX10_canTurn_42 rfl rfl ?_
          exact ow_zret dX10_canTurn_43 rfl rfl (Or.inl rfl) h
        · have h := h.2 hc
          refine ow_iconst (pc' := 39) (n := 1) dX10_canTurn_38 rfl rfl ?_
          refine ow_goto (tg := 43) dX10_canTurn_39 rfl ?_
          exact ow_zret dX10_canTurn_43 rfl rfl (Or.inr rfl) h
    · have h := h.2 hc
      refine ow_iload_n (pc' := 16) (x := l2) dX10_canTurn_15 rfl rfl ?_
      refine ow_iload_n (pc' := 17) (x := l1) dX10_canTurn_16 rfl rfl ?_
      obtain ⟨vv1, h⟩ := h
      refine ow_isub (pc' := 18) dX10_canTurn_17 vv1 rfl ?_
      refine ow_iconst (pc' := 19) (n := 2) dX10_canTurn_18 rfl rfl ?_
      obtain ⟨w0, w, w1, h⟩ := h
      refine ow_irem (pc' := 20) dX10_canTurn_19 w0 w w1 rfl ?_
      refine ow_ifne (pc' := 23) (tg := 27) dX10_canTurn_20 rfl rfl (fun hc => ?_) (fun hc => ?_)
      · have h := h.1 hc
        refine ow_iconst (pc' := 28) (n := 0) dX10_canTurn_27 rfl rfl ?_
        exact ow_zret dX10_canTurn_28 rfl rfl (Or.inl rfl) h
      · have h := h.2 hc
        refine ow_iconst (pc' := 24) (n := 1) dX10_canTurn_23 rfl rfl ?_
        refine ow_goto (tg := 28) dX10_canTurn_24 rfl ?_
        exact ow_zret dX10_canTurn_28 rfl rfl (Or.inr rfl) h
  · have h := h.2 hc
    refine ow_iconst (pc' := 6) (n := 0) dX10_canTurn_5 rfl rfl ?_
    exact ow_zret dX10_canTurn_6 rfl rfl (Or.inl rfl) h
theorem fX10_canTurn {C : ow_C} {A L N : Int} {d : Nat} {M : ow_M} {K : Int → ow_M → Prop} {l1 l2 : Int} (h : (l1 ≤ l2 → (A ≠ 2 → (0 < l1 → K 1 M) ∧ (l1 ≤ 0 → (l2 = 1 → K 0 M) ∧ (l2 ≠ 1 → K 1 M))) ∧ (A = 2 → ow_I (l2 - l1) ∧ (2 : Int) ≠ 0 ∧ ow_I (Int.tdiv (l2 - l1) 2) ∧ ow_I (Int.tmod (l2 - l1) 2) ∧ ((Int.tmod (l2 - l1) 2) ≠ 0 → K 0 M) ∧ ((Int.tmod (l2 - l1) 2) = 0 → K 1 M))) ∧ (l2 < l1 → K 0 M)) : ow_Sp C (EM A L N) d mX10_canTurn (0, 0) [(3, 3), (0, l1), (0, l2)] M K := ow_enter (by decide +kernel) rfl rfl (cX10_canTurn_0 h)
set_option maxRecDepth 20000 in
theorem cX0_has_0 {C : ow_C} {A L N : Int} {d : Nat} {M : ow_M} {K : Int → ow_M → Prop} {l1 : Int} (h : (l1 < 0 → K 0 M) ∧ (0 ≤ l1 → ((M 6 4) ≤ l1 → K 0 M) ∧ (l1 < (M 6 4) → (40 ≤ l1 → K 0 M) ∧ (l1 < 40 → K 1 M)))) : ow_At C (EM A L N) d mX0_has 0 [(0, (3, 6)), (1, (0, l1))] [] (0, 0) M K := by
  refine ow_iload_n (pc' := 1) (x := l1) dX0_has_0 rfl rfl ?_
  refine ow_iflt (pc' := 4) (tg := 22) dX0_has_1 rfl rfl (fun hc => ?_) (fun hc => ?_)
  · have h := h.1 hc
    refine ow_iconst (pc' := 23) (n := 0) dX0_has_22 rfl rfl ?_
    exact ow_zret dX0_has_23 rfl rfl (Or.inl rfl) h
  · have h := h.2 hc
    refine ow_iload_n (pc' := 5) (x := l1) dX0_has_4 rfl rfl ?_
    refine ow_aload_n (pc' := 6) (x := 6) dX0_has_5 rfl rfl ?_
    refine ow_getf3 (pc' := 9) (t := 0) (ji := 4) (val := M 6 4) dX0_has_6 fRX0_18 rfl rfl rfl (of_eq_true eo6) eg6_4 ?_
    refine ow_icmpge (pc' := 12) (tg := 22) dX0_has_9 rfl rfl (fun hc => ?_) (fun hc => ?_)
    · have h := h.1 hc
      refine ow_iconst (pc' := 23) (n := 0) dX0_has_22 rfl rfl ?_
      exact ow_zret dX0_has_23 rfl rfl (Or.inl rfl) h
    · have h := h.2 hc
      refine ow_iload_n (pc' := 13) (x := l1) dX0_has_12 rfl rfl ?_
      refine ow_bipush (pc' := 15) (n := 40) dX0_has_13 rfl rfl ?_
      refine ow_icmpge (pc' := 18) (tg := 22) dX0_has_15 rfl rfl (fun hc => ?_) (fun hc => ?_)
      · have h := h.1 hc
        refine ow_iconst (pc' := 23) (n := 0) dX0_has_22 rfl rfl ?_
        exact ow_zret dX0_has_23 rfl rfl (Or.inl rfl) h
      · have h := h.2 hc
        refine ow_iconst (pc' := 19) (n := 1) dX0_has_18 rfl rfl ?_
        refine ow_goto (tg := 23) dX0_has_19 rfl ?_
        exact ow_zret dX0_has_23 rfl rfl (Or.inr rfl) h
theorem fX0_has {C : ow_C} {A L N : Int} {d : Nat} {M : ow_M} {K : Int → ow_M → Prop} {l1 : Int} (h : (l1 < 0 → K 0 M) ∧ (0 ≤ l1 → ((M 6 4) ≤ l1 → K 0 M) ∧ (l1 < (M 6 4) → (40 ≤ l1 → K 0 M) ∧ (l1 < 40 → K 1 M)))) : ow_Sp C (EM A L N) d mX0_has (0, 0) [(3, 6), (0, l1)] M K := ow_enter (by decide +kernel) rfl rfl (cX0_has_0 h)
set_option maxRecDepth 20000 in
theorem cX0_add_0 {C : ow_C} {A L N : Int} {d : Nat} {M : ow_M} {K : Int → ow_M → Prop} {l1 l2 : Int} (h : ow_Sp C (EM A L N) d mX10_isWord (0, 0) [(3, 3), (0, l1)] M (fun r1 N1 => (r1 = 0 → K 0 N1) ∧ (r1 ≠ 0 → (l2 < 1 → K 0 N1) ∧ (1 ≤ l2 → (l2 ≤ 9 → (0 ≤ l1 ∧ l1 < N) ∧ ((N1 9 l1) ≠ 0 → K 0 N1) ∧ ((N1 9 l1) = 0 → ((N1 6 4) < 40 → (0 ≤ (N1 6 4) ∧ (N1 6 4) < 40) ∧ ∀ N2, N2 = ow_up N1 7 (N1 6 4) l1 → (0 ≤ (N2 6 4) ∧ (N2 6 4) < 40) ∧ ∀ N3, N3 = ow_up N2 8 (N2 6 4) l2 → ∀ N4, N4 = ow_up N3 9 l1 1 → ow_I ((N4 6 4) + 1) ∧ ∀ N5, N5 = ow_up N4 6 4 ((N4 6 4) + 1) → K 1 N5) ∧ (40 ≤ (N1 6 4) → K 0 N1))) ∧ (9 < l2 → K 0 N1))))) : ow_At C (EM A L N) (d + 1) mX0_add 0 [(0, (3, 6)), (1, (0, l1)), (2, (0, l2))] [] (0, 0) M K := by
  refine ow_aload_n (pc' := 1) (x := 6) dX0_add_0 rfl rfl ?_
  refine ow_getf3 (pc' := 4) (t := 3) (ji := 0) (val := 3) dX0_add_1 fRX0_22 rfl rfl rfl (of_eq_true eo6) eg6_0 ?_
  refine ow_iload_n (pc' := 5) (x := l1) dX0_add_4 rfl rfl ?_
  refine ow_callVp (z := mX10_isWord) (n := 1) (k := 10) (vs := [(0, l1)]) (x := 3) (st := []) (pc' := 8) (b1 := (0, 0)) (b2 := (0, 0)) dX0_add_5 lRX0_35 kX10_isWord iX10_isWord rfl rfl rfl rfl rfl rfl (of_eq_true eo3) (ow_Sp.mono h (fun r1 N1 h => ?_))
  refine ow_ifeq (pc' := 11) (tg := 22) dX0_add_8 rfl rfl (fun hc => ?_) (fun hc => ?_)
  · have h := h.1 hc
    refine ow_iconst (pc' := 23) (n := 0) dX0_add_22 rfl rfl ?_
    exact ow_zret dX0_add_23 rfl rfl (Or.inl rfl) h
  · have h := h.2 hc
    refine ow_iload_n (pc' := 12) (x := l2) dX0_add_11 rfl rfl ?_
    refine ow_iconst (pc' := 13) (n := 1) dX0_add_12 rfl rfl ?_
    refine ow_icmplt (pc' := 16) (tg := 22) dX0_add_13 rfl rfl (fun hc => ?_) (fun hc => ?_)
    · have h := h.1 hc
      refine ow_iconst (pc' := 23) (n := 0) dX0_add_22 rfl rfl ?_
      exact ow_zret dX0_add_23 rfl rfl (Or.inl rfl) h
    · have h := h.2 hc
      refine ow_iload_n (pc' := 17) (x := l2) dX0_add_16 rfl rfl ?_
      refine ow_bipush (pc' := 19) (n := 9) dX0_add_17 rfl rfl ?_
      refine ow_icmple (pc' := 22) (tg := 24) dX0_add_19 rfl rfl (fun hc => ?_) (fun hc => ?_)
      · have h := h.1 hc
        refine ow_aload_n (pc' := 25) (x := 6) dX0_add_24 rfl rfl ?_
        refine ow_getf3 (pc' := 28) (t := 3) (ji := 3) (val := 9) dX0_add_25 fRX0_31 rfl rfl rfl (of_eq_true eo6) eg6_3 ?_
        refine ow_iload_n (pc' := 29) (x := l1) dX0_add_28 rfl rfl ?_
        obtain ⟨vv1, h⟩ := h
        refine ow_baload3 (pc' := 30) (val := N1 9 l1) dX0_add_29 rfl (Eq.mpr (er9 _) vv1) (ea9 _) ?_
        refine ow_ifne (pc' := 33) (tg := 42) dX0_add_30 rfl rfl (fun hc => ?_) (fun hc => ?_)
        · have h := h.1 hc
          refine ow_iconst (pc' := 43) (n := 0) dX0_add_42 rfl rfl ?_
          exact ow_zret dX0_add_43 rfl rfl (Or.inl rfl) h
        · have h := h.2 hc
          refine ow_aload_n (pc' := 34) (x := 6) dX0_add_33 rfl rfl ?_
          refine ow_getf3 (pc' := 37) (t := 0) (ji := 4) (val := N1 6 4) dX0_add_34 fRX0_18 rfl rfl rfl (of_eq_true eo6) eg6_4 ?_
          refine ow_bipush (pc' := 39) (n := 40) dX0_add_37 rfl rfl ?_
          refine ow_icmplt (pc' := 42) (tg := 44) dX0_add_39 rfl rfl (fun hc => ?_) (fun hc => ?_)
          · have h := h.1 hc
            refine ow_aload_n (pc' := 45) (x := 6) dX0_add_44 rfl rfl ?_
            refine ow_getf3 (pc' := 48) (t := 3) (ji := 1) (val := 7) dX0_add_45 fRX0_9 rfl rfl rfl (of_eq_true eo6) eg6_1 ?_
            refine ow_aload_n (pc' := 49) (x := 6) dX0_add_48 rfl rfl ?_
            refine ow_getf3 (pc' := 52) (t := 0) (ji := 4) (val := N1 6 4) dX0_add_49 fRX0_18 rfl rfl rfl (of_eq_true eo6) eg6_4 ?_
            refine ow_iload_n (pc' := 53) (x := l1) dX0_add_52 rfl rfl ?_
            obtain ⟨vv2, h⟩ := h
            refine ow_iastore2 (pc' := 54) dX0_add_53 rfl (Eq.mpr (er7 _) vv2) (of_eq_true (en7 _)) (fun N2 eN2 => ?_)
            have h := h N2 eN2
            refine ow_aload_n (pc' := 55) (x := 6) dX0_add_54 rfl rfl ?_
            refine ow_getf3 (pc' := 58) (t := 3) (ji := 2) (val := 8) dX0_add_55 fRX0_15 rfl rfl rfl (of_eq_true eo6) eg6_2 ?_
            refine ow_aload_n (pc' := 59) (x := 6) dX0_add_58 rfl rfl ?_
            refine ow_getf3 (pc' := 62) (t := 0) (ji := 4) (val := N2 6 4) dX0_add_59 fRX0_18 rfl rfl rfl (of_eq_true eo6) eg6_4 ?_
            refine ow_iload_n (pc' := 63) (x := l2) dX0_add_62 rfl rfl ?_
            obtain ⟨vv3, h⟩ := h
            refine ow_iastore2 (pc' := 64) dX0_add_63 rfl (Eq.mpr (er8 _) vv3) (of_eq_true (en8 _)) (fun N3 eN3 => ?_)
            have h := h N3 eN3
            refine ow_aload_n (pc' := 65) (x := 6) dX0_add_64 rfl rfl ?_
            refine ow_getf3 (pc' := 68) (t := 3) (ji := 3) (val := 9) dX0_add_65 fRX0_31 rfl rfl rfl (of_eq_true eo6) eg6_3 ?_
            refine ow_iload_n (pc' := 69) (x := l1) dX0_add_68 rfl rfl ?_
            refine ow_iconst (pc' := 70) (n := 1) dX0_add_69 rfl rfl ?_
            refine ow_bastore2 (pc' := 71) dX0_add_70 rfl (Eq.mpr (er9 _) vv1) (of_eq_true (en9 _)) (Or.inr rfl) (fun N4 eN4 => ?_)
            have h := h N4 eN4
            refine ow_aload_n (pc' := 72) (x := 6) dX0_add_71 rfl rfl ?_
            refine ow_dup (pc' := 73) dX0_add_72 rfl rfl ?_
            refine ow_getf3 (pc' := 76) (t := 0) (ji := 4) (val := N4 6 4) dX0_add_73 fRX0_18 rfl rfl rfl (of_eq_true eo6) eg6_4 ?_
            refine ow_iconst (pc' := 77) (n := 1) dX0_add_76 rfl rfl ?_
            obtain ⟨vv4, h⟩ := h
            refine ow_iadd (pc' := 78) dX0_add_77 vv4 rfl ?_
            refine ow_putf2 (pc' := 81) (t := 0) (ji := 4) dX0_add_78 fRX0_18 rfl rfl rfl rfl (of_eq_true eo6) (of_eq_true en6_4) (fun hz => absurd hz (by decide)) (fun N5 eN5 => ?_)
            have h := h N5 eN5
            refine ow_iconst (pc' := 82) (n := 1) dX0_add_81 rfl rfl ?_
            exact ow_zret dX0_add_82 rfl rfl (Or.inr rfl) h
          · have h := h.2 hc
            refine ow_iconst (pc' := 43) (n := 0) dX0_add_42 rfl rfl ?_
            exact ow_zret dX0_add_43 rfl rfl (Or.inl rfl) h
      · have h := h.2 hc
        refine ow_iconst (pc' := 23) (n := 0) dX0_add_22 rfl rfl ?_
        exact ow_zret dX0_add_23 rfl rfl (Or.inl rfl) h
theorem fX0_add {C : ow_C} {A L N : Int} {d : Nat} {M : ow_M} {K : Int → ow_M → Prop} {l1 l2 : Int} (h : ow_Sp C (EM A L N) d mX10_isWord (0, 0) [(3, 3), (0, l1)] M (fun r1 N1 => (r1 = 0 → K 0 N1) ∧ (r1 ≠ 0 → (l2 < 1 → K 0 N1) ∧ (1 ≤ l2 → (l2 ≤ 9 → (0 ≤ l1 ∧ l1 < N) ∧ ((N1 9 l1) ≠ 0 → K 0 N1) ∧ ((N1 9 l1) = 0 → ((N1 6 4) < 40 → (0 ≤ (N1 6 4) ∧ (N1 6 4) < 40) ∧ ∀ N2, N2 = ow_up N1 7 (N1 6 4) l1 → (0 ≤ (N2 6 4) ∧ (N2 6 4) < 40) ∧ ∀ N3, N3 = ow_up N2 8 (N2 6 4) l2 → ∀ N4, N4 = ow_up N3 9 l1 1 → ow_I ((N4 6 4) + 1) ∧ ∀ N5, N5 = ow_up N4 6 4 ((N4 6 4) + 1) → K 1 N5) ∧ (40 ≤ (N1 6 4) → K 0 N1))) ∧ (9 < l2 → K 0 N1))))) : ow_Sp C (EM A L N) (d + 1) mX0_add (0, 0) [(3, 6), (0, l1), (0, l2)] M K := ow_enter (by decide +kernel) rfl rfl (cX0_add_0 h)
set_option maxRecDepth 20000 in
theorem cX0_drop_0 {C : ow_C} {A L N : Int} {d : Nat} {M : ow_M} {K : Int → ow_M → Prop} {l1 : Int} (h : ow_Sp C (EM A L N) d mX10_isWord (0, 0) [(3, 3), (0, l1)] M (fun r1 N1 => (r1 = 0 → K 0 N1) ∧ (r1 ≠ 0 → (0 ≤ l1 ∧ l1 < N) ∧ ((N1 9 l1) ≠ 0 → ∀ N2, N2 = ow_up N1 9 l1 0 → ow_At C (EM A L N) (d + 1) mX0_drop 33 [(0, (3, 6)), (1, (0, l1)), (2, (0, 0)), (3, (0, 0))] [] (0, 0) N2 K) ∧ ((N1 9 l1) = 0 → K 0 N1)))) : ow_At C (EM A L N) (d + 1) mX0_drop 0 [(0, (3, 6)), (1, (0, l1))] [] (0, 0) M K := by
  refine ow_aload_n (pc' := 1) (x := 6) dX0_drop_0 rfl rfl ?_
  refine ow_getf3 (pc' := 4) (t := 3) (ji := 0) (val := 3) dX0_drop_1 fRX0_22 rfl rfl rfl (of_eq_true eo6) eg6_0 ?_
  refine ow_iload_n (pc' := 5) (x := l1) dX0_drop_4 rfl rfl ?_
  refine ow_callVp (z := mX10_isWord) (n := 1) (k := 10) (vs := [(0, l1)]) (x := 3) (st := []) (pc' := 8) (b1 := (0, 0)) (b2 := (0, 0)) dX0_drop_5 lRX0_35 kX10_isWord iX10_isWord rfl rfl rfl rfl rfl rfl (of_eq_true eo3) (ow_Sp.mono h (fun r1 N1 h => ?_))
  refine ow_ifeq (pc' := 11) (tg := 20) dX0_drop_8 rfl rfl (fun hc => ?_) (fun hc => ?_)
  · have h := h.1 hc
    refine ow_iconst (pc' := 21) (n := 0) dX0_drop_20 rfl rfl ?_
    exact ow_zret dX0_drop_21 rfl rfl (Or.inl rfl) h
  · have h := h.2 hc
    refine ow_aload_n (pc' := 12) (x := 6) dX0_drop_11 rfl rfl ?_
    refine ow_getf3 (pc' := 15) (t := 3) (ji := 3) (val := 9) dX0_drop_12 fRX0_31 rfl rfl rfl (of_eq_true eo6) eg6_3 ?_
    refine ow_iload_n (pc' := 16) (x := l1) dX0_drop_15 rfl rfl ?_
    obtain ⟨vv1, h⟩ := h
    refine ow_baload3 (pc' := 17) (val := N1 9 l1) dX0_drop_16 rfl (Eq.mpr (er9 _) vv1) (ea9 _) ?_
    refine ow_ifne (pc' := 20) (tg := 22) dX0_drop_17 rfl rfl (fun hc => ?_) (fun hc => ?_)
    · have h := h.1 hc
      refine ow_aload_n (pc' := 23) (x := 6) dX0_drop_22 rfl rfl ?_
      refine ow_getf3 (pc' := 26) (t := 3) (ji := 3) (val := 9) dX0_drop_23 fRX0_31 rfl rfl rfl (of_eq_true eo6) eg6_3 ?_
      refine ow_iload_n (pc' := 27) (x := l1) dX0_drop_26 rfl rfl ?_
      refine ow_iconst (pc' := 28) (n := 0) dX0_drop_27 rfl rfl ?_
      refine ow_bastore2 (pc' := 29) dX0_drop_28 rfl (Eq.mpr (er9 _) vv1) (of_eq_true (en9 _)) (Or.inl rfl) (fun N2 eN2 => ?_)
      have h := h N2 eN2
      refine ow_iconst (pc' := 30) (n := 0) dX0_drop_29 rfl rfl ?_
      refine ow_istore_n (pc' := 31) (lv' := [(0, (3, 6)), (1, (0, l1)), (2, (0, 0))]) dX0_drop_30 rfl rfl rfl ?_
      refine ow_iconst (pc' := 32) (n := 0) dX0_drop_31 rfl rfl ?_
      refine ow_istore_n (pc' := 33) (lv' := [(0, (3, 6)), (1, (0, l1)), (2, (0, 0)), (3, (0, 0))]) dX0_drop_32 rfl rfl rfl ?_
      exact h
    · have h := h.2 hc
      refine ow_iconst (pc' := 21) (n := 0) dX0_drop_20 rfl rfl ?_
      exact ow_zret dX0_drop_21 rfl rfl (Or.inl rfl) h
set_option maxRecDepth 20000 in
theorem cX0_drop_33 {C : ow_C} {A L N : Int} {d : Nat} {M : ow_M} {K : Int → ow_M → Prop} {l1 l2 l3 : Int} (h : ((M 6 4) ≤ l3 → ∀ N1, N1 = ow_up M 6 4 l2 → K 1 N1) ∧ (l3 < (M 6 4) → (0 ≤ l3 ∧ l3 < 40) ∧ ((M 7 l3) = l1 → ow_I (l3 + 1) ∧ ow_At C (EM A L N) (d + 1) mX0_drop 33 [(0, (3, 6)), (1, (0, l1)), (2, (0, l2)), (3, (0, l3 + 1))] [] (0, 0) M K) ∧ ((M 7 l3) ≠ l1 → (0 ≤ l2 ∧ l2 < 40) ∧ ∀ N2, N2 = ow_up M 7 l2 (M 7 l3) → ∀ N3, N3 = ow_up N2 8 l2 (N2 8 l3) → ow_I (l2 + 1) ∧ ow_I (l3 + 1) ∧ ow_At C (EM A L N) (d + 1) mX0_drop 33 [(0, (3, 6)), (1, (0, l1)), (2, (0, l2 + 1)), (3, (0, l3 + 1))] [] (0, 0) N3 K))) : ow_At C (EM A L N) (d + 1) mX0_drop 33 [(0, (3, 6)), (1, (0, l1)), (2, (0, l2)), (3, (0, l3))] [] (0, 0) M K := by
  refine ow_iload_n (pc' := 34) (x := l3) dX0_drop_33 rfl rfl ?_
  refine ow_aload_n (pc' := 35) (x := 6) dX0_drop_34 rfl rfl ?_
  refine ow_getf3 (pc' := 38) (t := 0) (ji := 4) (val := M 6 4) dX0_drop_35 fRX0_18 rfl rfl rfl (of_eq_true eo6) eg6_4 ?_
  refine ow_icmpge (pc' := 41) (tg := 84) dX0_drop_38 rfl rfl (fun hc => ?_) (fun hc => ?_)
  · have h := h.1 hc
    refine ow_aload_n (pc' := 85) (x := 6) dX0_drop_84 rfl rfl ?_
    refine ow_iload_n (pc' := 86) (x := l2) dX0_drop_85 rfl rfl ?_
    refine ow_putf2 (pc' := 89) (t := 0) (ji := 4) dX0_drop_86 fRX0_18 rfl rfl rfl rfl (of_eq_true eo6) (of_eq_true en6_4) (fun hz => absurd hz (by decide)) (fun N1 eN1 => ?_)
    have h := h N1 eN1
    refine ow_iconst (pc' := 90) (n := 1) dX0_drop_89 rfl rfl ?_
    exact ow_zret dX0_drop_90 rfl rfl (Or.inr rfl) h
  · have h := h.2 hc
    refine ow_aload_n (pc' := 42) (x := 6) dX0_drop_41 rfl rfl ?_
    refine ow_getf3 (pc' := 45) (t := 3) (ji := 1) (val := 7) dX0_drop_42 fRX0_9 rfl rfl rfl (of_eq_true eo6) eg6_1 ?_
    refine ow_iload_n (pc' := 46) (x := l3) dX0_drop_45 rfl rfl ?_
    obtain ⟨vv1, h⟩ := h
    refine ow_iaload3 (pc' := 47) (val := M 7 l3) dX0_drop_46 rfl (Eq.mpr (er7 _) vv1) (ea7 _) ?_
    refine ow_iload_n (pc' := 48) (x := l1) dX0_drop_47 rfl rfl ?_
    refine ow_icmpeq (pc' := 51) (tg := 78) dX0_drop_48 rfl rfl (fun hc => ?_) (fun hc => ?_)
    · have h := h.1 hc
      obtain ⟨vv2, h⟩ := h
      refine ow_iinc (pc' := 81) (lv' := [(0, (3, 6)), (1, (0, l1)), (2, (0, l2)), (3, (0, l3 + 1))]) dX0_drop_78 rfl vv2 rfl rfl rfl ?_
      refine ow_goto (tg := 33) dX0_drop_81 rfl ?_
      exact h
    · have h := h.2 hc
      refine ow_aload_n (pc' := 52) (x := 6) dX0_drop_51 rfl rfl ?_
      refine ow_getf3 (pc' := 55) (t := 3) (ji := 1) (val := 7) dX0_drop_52 fRX0_9 rfl rfl rfl (of_eq_true eo6) eg6_1 ?_
      refine ow_iload_n (pc' := 56) (x := l2) dX0_drop_55 rfl rfl ?_
      refine ow_aload_n (pc' := 57) (x := 6) dX0_drop_56 rfl rfl ?_
      refine ow_getf3 (pc' := 60) (t := 3) (ji := 1) (val := 7) dX0_drop_57 fRX0_9 rfl rfl rfl (of_eq_true eo6) eg6_1 ?_
      refine ow_iload_n (pc' := 61) (x := l3) dX0_drop_60 rfl rfl ?_
      refine ow_iaload3 (pc' := 62) (val := M 7 l3) dX0_drop_61 rfl (Eq.mpr (er7 _) vv1) (ea7 _) ?_
      obtain ⟨vv3, h⟩ := h
      refine ow_iastore2 (pc' := 63) dX0_drop_62 rfl (Eq.mpr (er7 _) vv3) (of_eq_true (en7 _)) (fun N2 eN2 => ?_)
      have h := h N2 eN2
      refine ow_aload_n (pc' := 64) (x := 6) dX0_drop_63 rfl rfl ?_
      refine ow_getf3 (pc' := 67) (t := 3) (ji := 2) (val := 8) dX0_drop_64 fRX0_15 rfl rfl rfl (of_eq_true eo6) eg6_2 ?_
      refine ow_iload_n (pc' := 68) (x := l2) dX0_drop_67 rfl rfl ?_
      refine ow_aload_n (pc' := 69) (x := 6) dX0_drop_68 rfl rfl ?_
      refine ow_getf3 (pc' := 72) (t := 3) (ji := 2) (val := 8) dX0_drop_69 fRX0_15 rfl rfl rfl (of_eq_true eo6) eg6_2 ?_
      refine ow_iload_n (pc' := 73) (x := l3) dX0_drop_72 rfl rfl ?_
      refine ow_iaload3 (pc' := 74) (val := N2 8 l3) dX0_drop_73 rfl (Eq.mpr (er8 _) vv1) (ea8 _) ?_
      refine ow_iastore2 (pc' := 75) dX0_drop_74 rfl (Eq.mpr (er8 _) vv3) (of_eq_true (en8 _)) (fun N3 eN3 => ?_)
      have h := h N3 eN3
      obtain ⟨vv4, h⟩ := h
      refine ow_iinc (pc' := 78) (lv' := [(0, (3, 6)), (1, (0, l1)), (2, (0, l2 + 1)), (3, (0, l3))]) dX0_drop_75 rfl vv4 rfl rfl rfl ?_
      obtain ⟨vv5, h⟩ := h
      refine ow_iinc (pc' := 81) (lv' := [(0, (3, 6)), (1, (0, l1)), (2, (0, l2 + 1)), (3, (0, l3 + 1))]) dX0_drop_78 rfl vv5 rfl rfl rfl ?_
      refine ow_goto (tg := 33) dX0_drop_81 rfl ?_
      exact h
theorem fX0_drop {C : ow_C} {A L N : Int} {d : Nat} {M : ow_M} {K : Int → ow_M → Prop} {l1 : Int} (h : ow_Sp C (EM A L N) d mX10_isWord (0, 0) [(3, 3), (0, l1)] M (fun r1 N1 => (r1 = 0 → K 0 N1) ∧ (r1 ≠ 0 → (0 ≤ l1 ∧ l1 < N) ∧ ((N1 9 l1) ≠ 0 → ∀ N2, N2 = ow_up N1 9 l1 0 → ow_At C (EM A L N) (d + 1) mX0_drop 33 [(0, (3, 6)), (1, (0, l1)), (2, (0, 0)), (3, (0, 0))] [] (0, 0) N2 K) ∧ ((N1 9 l1) = 0 → K 0 N1)))) : ow_Sp C (EM A L N) (d + 1) mX0_drop (0, 0) [(3, 6), (0, l1)] M K := ow_enter (by decide +kernel) rfl rfl (cX0_drop_0 h)
set_option maxRecDepth 20000 in
theorem cX0_become_0 {C : ow_C} {A L N : Int} {d : Nat} {M : ow_M} {K : Int → ow_M → Prop} (h : ((0 : Int) ≤ 0 ∧ (0 : Int) ≤ 40 ∧ (0 : Int) + 40 ≤ 40) ∧ ((0 : Int) ≤ 0 ∧ (0 : Int) + 40 ≤ 40) ∧ ∀ N1, N1 = ow_cp (EM A L N) M 11 0 7 0 40 → ((0 : Int) ≤ 0 ∧ (0 : Int) ≤ 40 ∧ (0 : Int) + 40 ≤ 40) ∧ ((0 : Int) ≤ 0 ∧ (0 : Int) + 40 ≤ 40) ∧ ∀ N2, N2 = ow_cp (EM A L N) N1 12 0 8 0 40 → ow_At C (EM A L N) (d + 1) mX0_become 32 [(0, (3, 6)), (1, (3, 10)), (2, (0, 0))] [] (0, 0) N2 K) : ow_At C (EM A L N) (d + 1) mX0_become 0 [(0, (3, 6)), (1, (3, 10))] [] (0, 0) M K := by
  refine ow_aload_n (pc' := 1) (x := 10) dX0_become_0 rfl rfl ?_
  refine ow_getf3 (pc' := 4) (t := 3) (ji := 1) (val := 11) dX0_become_1 fRX0_9 rfl rfl rfl (of_eq_true eo10) eg10_1 ?_
  refine ow_iconst (pc' := 5) (n := 0) dX0_become_4 rfl rfl ?_
  refine ow_aload_n (pc' := 6) (x := 6) dX0_become_5 rfl rfl ?_
  refine ow_getf3 (pc' := 9) (t := 3) (ji := 1) (val := 7) dX0_become_6 fRX0_9 rfl rfl rfl (of_eq_true eo6) eg6_1 ?_
  refine ow_iconst (pc' := 10) (n := 0) dX0_become_9 rfl rfl ?_
  refine ow_bipush (pc' := 12) (n := 40) dX0_become_10 rfl rfl ?_
  obtain ⟨⟨w, w1, w2⟩, ⟨w3, w4⟩, h⟩ := h
  have u0 : 0 ≤ (11 : Int) ∧ (11 : Int) < ow_nb (EM A L N) M ∧ ((EM A L N).2.1 11).1 = 100 ∧ (0 : Int) ≤ 0 ∧ (0 : Int) ≤ 40 ∧ (0 : Int) + 40 ≤ ((EM A L N).2.1 11).2 := ⟨by decide, (show (11 : Int) < 102 by decide), rfl, w, w1, w2⟩
  have u1 : 0 ≤ (7 : Int) ∧ (7 : Int) < ow_nb (EM A L N) M ∧ ((EM A L N).2.1 7).1 = 100 ∧ (0 : Int) ≤ 0 ∧ (0 : Int) + 40 ≤ ((EM A L N).2.1 7).2 := ⟨by decide, (show (7 : Int) < 102 by decide), rfl, w3, w4⟩
  refine ow_copy2 (pc' := 15) dX0_become_12 lRX0_39 ow_ac1 ow_ac2 ow_ac3 rfl rfl em_22 u0 u1 (fun i => of_eq_true (en7 i)) (fun N1 eN1 => ?_)
  have h := h N1 eN1
  refine ow_aload_n (pc' := 16) (x := 10) dX0_become_15 rfl rfl ?_
  refine ow_getf3 (pc' := 19) (t := 3) (ji := 2) (val := 12) dX0_become_16 fRX0_15 rfl rfl rfl (of_eq_true eo10) eg10_2 ?_
  refine ow_iconst (pc' := 20) (n := 0) dX0_become_19 rfl rfl ?_
  refine ow_aload_n (pc' := 21) (x := 6) dX0_become_20 rfl rfl ?_
  refine ow_getf3 (pc' := 24) (t := 3) (ji := 2) (val := 8) dX0_become_21 fRX0_15 rfl rfl rfl (of_eq_true eo6) eg6_2 ?_
  refine ow_iconst (pc' := 25) (n := 0) dX0_become_24 rfl rfl ?_
  refine ow_bipush (pc' := 27) (n := 40) dX0_become_25 rfl rfl ?_
  obtain ⟨⟨w, w1, w2⟩, ⟨w3, w4⟩, h⟩ := h
  have u0 : 0 ≤ (12 : Int) ∧ (12 : Int) < ow_nb (EM A L N) N1 ∧ ((EM A L N).2.1 12).1 = 100 ∧ (0 : Int) ≤ 0 ∧ (0 : Int) ≤ 40 ∧ (0 : Int) + 40 ≤ ((EM A L N).2.1 12).2 := ⟨by decide, (show (12 : Int) < 102 by decide), rfl, w, w1, w2⟩
  have u1 : 0 ≤ (8 : Int) ∧ (8 : Int) < ow_nb (EM A L N) N1 ∧ ((EM A L N).2.1 8).1 = 100 ∧ (0 : Int) ≤ 0 ∧ (0 : Int) + 40 ≤ ((EM A L N).2.1 8).2 := ⟨by decide, (show (8 : Int) < 102 by decide), rfl, w3, w4⟩
  refine ow_copy2 (pc' := 30) dX0_become_27 lRX0_39 ow_ac1 ow_ac2 ow_ac3 rfl rfl em_22 u0 u1 (fun i => of_eq_true (en8 i)) (fun N2 eN2 => ?_)
  have h := h N2 eN2
  refine ow_iconst (pc' := 31) (n := 0) dX0_become_30 rfl rfl ?_
  refine ow_istore_n (pc' := 32) (lv' := [(0, (3, 6)), (1, (3, 10)), (2, (0, 0))]) dX0_become_31 rfl rfl rfl ?_
  exact h
set_option maxRecDepth 20000 in
theorem cX0_become_32 {C : ow_C} {A L N : Int} {d : Nat} {M : ow_M} {K : Int → ow_M → Prop} {l2 : Int} (h : (0 ≤ N ∧ N ≤ 2147483647) ∧ (N ≤ l2 → ∀ N1, N1 = ow_up M 6 4 (M 10 4) → K 0 N1) ∧ (l2 < N → (N ≤ l2 → ∀ N2, N2 = ow_up M 6 4 (M 10 4) → K 0 N2) ∧ (l2 < N → (0 ≤ l2 ∧ l2 < N) ∧ ((M 13 l2) = 0 ∨ (M 13 l2) = 1) ∧ ∀ N3, N3 = ow_up M 9 l2 (M 13 l2) → ow_I (l2 + 1) ∧ ow_At C (EM A L N) (d + 1) mX0_become 32 [(0, (3, 6)), (1, (3, 10)), (2, (0, l2 + 1))] [] (0, 0) N3 K))) : ow_At C (EM A L N) (d + 1) mX0_become 32 [(0, (3, 6)), (1, (3, 10)), (2, (0, l2))] [] (0, 0) M K := by
  refine ow_iload_n (pc' := 33) (x := l2) dX0_become_32 rfl rfl ?_
  refine ow_aload_n (pc' := 34) (x := 6) dX0_become_33 rfl rfl ?_
  refine ow_getf3 (pc' := 37) (t := 3) (ji := 3) (val := 9) dX0_become_34 fRX0_31 rfl rfl rfl (of_eq_true eo6) eg6_3 ?_
  obtain ⟨vv1, h⟩ := h
  refine ow_alen3 (pc' := 38) (t := 102) (val := N) dX0_become_37 rfl rfl (by decide) (show (9 : Int) < 102 by decide) rfl el9 vv1.1 vv1.2 ?_
  refine ow_icmpge (pc' := 41) (tg := 68) dX0_become_38 rfl rfl (fun hc => ?_) (fun hc => ?_)
  · have h := h.1 hc
    refine ow_aload_n (pc' := 69) (x := 6) dX0_become_68 rfl rfl ?_
    refine ow_aload_n (pc' := 70) (x := 10) dX0_become_69 rfl rfl ?_
    refine ow_getf3 (pc' := 73) (t := 0) (ji := 4) (val := M 10 4) dX0_become_70 fRX0_18 rfl rfl rfl (of_eq_true eo10) eg10_4 ?_
    refine ow_putf2 (pc' := 76) (t := 0) (ji := 4) dX0_become_73 fRX0_18 rfl rfl rfl rfl (of_eq_true eo6) (of_eq_true en6_4) (fun hz => absurd hz (by decide)) (fun N1 eN1 => ?_)
    have h := h N1 eN1
    exact ow_vret dX0_become_76 rfl rfl h
  · have h := h.2 hc
    refine ow_iload_n (pc' := 42) (x := l2) dX0_become_41 rfl rfl ?_
    refine ow_aload_n (pc' := 43) (x := 10) dX0_become_42 rfl rfl ?_
    refine ow_getf3 (pc' := 46) (t := 3) (ji := 3) (val := 13) dX0_become_43 fRX0_31 rfl rfl rfl (of_eq_true eo10) eg10_3 ?_
    refine ow_alen3 (pc' := 47) (t := 102) (val := N) dX0_become_46 rfl rfl (by decide) (show (13 : Int) < 102 by decide) rfl el13 vv1.1 vv1.2 ?_
    refine ow_icmpge (pc' := 50) (tg := 68) dX0_become_47 rfl rfl (fun hc => ?_) (fun hc => ?_)
    · have h := h.1 hc
      refine ow_aload_n (pc' := 69) (x := 6) dX0_become_68 rfl rfl ?_
      refine ow_aload_n (pc' := 70) (x := 10) dX0_become_69 rfl rfl ?_
      refine ow_getf3 (pc' := 73) (t := 0) (ji := 4) (val := M 10 4) dX0_become_70 fRX0_18 rfl rfl rfl (of_eq_true eo10) eg10_4 ?_
      refine ow_putf2 (pc' := 76) (t := 0) (ji := 4) dX0_become_73 fRX0_18 rfl rfl rfl rfl (of_eq_true eo6) (of_eq_true en6_4) (fun hz => absurd hz (by decide)) (fun N2 eN2 => ?_)
      have h := h N2 eN2
      exact ow_vret dX0_become_76 rfl rfl h
    · have h := h.2 hc
      refine ow_aload_n (pc' := 51) (x := 6) dX0_become_50 rfl rfl ?_
      refine ow_getf3 (pc' := 54) (t := 3) (ji := 3) (val := 9) dX0_become_51 fRX0_31 rfl rfl rfl (of_eq_true eo6) eg6_3 ?_
      refine ow_iload_n (pc' := 55) (x := l2) dX0_become_54 rfl rfl ?_
      refine ow_aload_n (pc' := 56) (x := 10) dX0_become_55 rfl rfl ?_
      refine ow_getf3 (pc' := 59) (t := 3) (ji := 3) (val := 13) dX0_become_56 fRX0_31 rfl rfl rfl (of_eq_true eo10) eg10_3 ?_
      refine ow_iload_n (pc' := 60) (x := l2) dX0_become_59 rfl rfl ?_
      obtain ⟨vv2, h⟩ := h
      refine ow_baload3 (pc' := 61) (val := M 13 l2) dX0_become_60 rfl (Eq.mpr (er13 _) vv2) (ea13 _) ?_
      obtain ⟨w2, h⟩ := h
      refine ow_bastore2 (pc' := 62) dX0_become_61 rfl (Eq.mpr (er9 _) vv2) (of_eq_true (en9 _)) w2 (fun N3 eN3 => ?_)
      have h := h N3 eN3
      obtain ⟨vv3, h⟩ := h
      refine ow_iinc (pc' := 65) (lv' := [(0, (3, 6)), (1, (3, 10)), (2, (0, l2 + 1))]) dX0_become_62 rfl vv3 rfl rfl rfl ?_
      refine ow_goto (tg := 32) dX0_become_65 rfl ?_
      exact h
theorem fX0_become {C : ow_C} {A L N : Int} {d : Nat} {M : ow_M} {K : Int → ow_M → Prop} (h : ((0 : Int) ≤ 0 ∧ (0 : Int) ≤ 40 ∧ (0 : Int) + 40 ≤ 40) ∧ ((0 : Int) ≤ 0 ∧ (0 : Int) + 40 ≤ 40) ∧ ∀ N1, N1 = ow_cp (EM A L N) M 11 0 7 0 40 → ((0 : Int) ≤ 0 ∧ (0 : Int) ≤ 40 ∧ (0 : Int) + 40 ≤ 40) ∧ ((0 : Int) ≤ 0 ∧ (0 : Int) + 40 ≤ 40) ∧ ∀ N2, N2 = ow_cp (EM A L N) N1 12 0 8 0 40 → ow_At C (EM A L N) (d + 1) mX0_become 32 [(0, (3, 6)), (1, (3, 10)), (2, (0, 0))] [] (0, 0) N2 K) : ow_Sp C (EM A L N) (d + 1) mX0_become (0, 0) [(3, 6), (3, 10)] M K := ow_enter (by decide +kernel) rfl rfl (cX0_become_0 h)
set_option maxRecDepth 20000 in
theorem cX0_become_b_0 {C : ow_C} {A L N : Int} {d : Nat} {M : ow_M} {K : Int → ow_M → Prop} (h : ((0 : Int) ≤ 0 ∧ (0 : Int) ≤ 40 ∧ (0 : Int) + 40 ≤ 40) ∧ ((0 : Int) ≤ 0 ∧ (0 : Int) + 40 ≤ 40) ∧ ∀ N1, N1 = ow_cp (EM A L N) M 7 0 11 0 40 → ((0 : Int) ≤ 0 ∧ (0 : Int) ≤ 40 ∧ (0 : Int) + 40 ≤ 40) ∧ ((0 : Int) ≤ 0 ∧ (0 : Int) + 40 ≤ 40) ∧ ∀ N2, N2 = ow_cp (EM A L N) N1 8 0 12 0 40 → ow_At C (EM A L N) (d + 1) mX0_become 32 [(0, (3, 10)), (1, (3, 6)), (2, (0, 0))] [] (0, 0) N2 K) : ow_At C (EM A L N) (d + 1) mX0_become 0 [(0, (3, 10)), (1, (3, 6))] [] (0, 0) M K := by
  refine ow_aload_n (pc' := 1) (x := 6) dX0_become_0 rfl rfl ?_
  refine ow_getf3 (pc' := 4) (t := 3) (ji := 1) (val := 7) dX0_become_1 fRX0_9 rfl rfl rfl (of_eq_true eo6) eg6_1 ?_
  refine ow_iconst (pc' := 5) (n := 0) dX0_become_4 rfl rfl ?_
  refine ow_aload_n (pc' := 6) (x := 10) dX0_become_5 rfl rfl ?_
  refine ow_getf3 (pc' := 9) (t := 3) (ji := 1) (val := 11) dX0_become_6 fRX0_9 rfl rfl rfl (of_eq_true eo10) eg10_1 ?_
  refine ow_iconst (pc' := 10) (n := 0) dX0_become_9 rfl rfl ?_
  refine ow_bipush (pc' := 12) (n := 40) dX0_become_10 rfl rfl ?_
  obtain ⟨⟨w, w1, w2⟩, ⟨w3, w4⟩, h⟩ := h
  have u0 : 0 ≤ (7 : Int) ∧ (7 : Int) < ow_nb (EM A L N) M ∧ ((EM A L N).2.1 7).1 = 100 ∧ (0 : Int) ≤ 0 ∧ (0 : Int) ≤ 40 ∧ (0 : Int) + 40 ≤ ((EM A L N).2.1 7).2 := ⟨by decide, (show (7 : Int) < 102 by decide), rfl, w, w1, w2⟩
  have u1 : 0 ≤ (11 : Int) ∧ (11 : Int) < ow_nb (EM A L N) M ∧ ((EM A L N).2.1 11).1 = 100 ∧ (0 : Int) ≤ 0 ∧ (0 : Int) + 40 ≤ ((EM A L N).2.1 11).2 := ⟨by decide, (show (11 : Int) < 102 by decide), rfl, w3, w4⟩
  refine ow_copy2 (pc' := 15) dX0_become_12 lRX0_39 ow_ac1 ow_ac2 ow_ac3 rfl rfl em_22 u0 u1 (fun i => of_eq_true (en11 i)) (fun N1 eN1 => ?_)
  have h := h N1 eN1
  refine ow_aload_n (pc' := 16) (x := 6) dX0_become_15 rfl rfl ?_
  refine ow_getf3 (pc' := 19) (t := 3) (ji := 2) (val := 8) dX0_become_16 fRX0_15 rfl rfl rfl (of_eq_true eo6) eg6_2 ?_
  refine ow_iconst (pc' := 20) (n := 0) dX0_become_19 rfl rfl ?_
  refine ow_aload_n (pc' := 21) (x := 10) dX0_become_20 rfl rfl ?_
  refine ow_getf3 (pc' := 24) (t := 3) (ji := 2) (val := 12) dX0_become_21 fRX0_15 rfl rfl rfl (of_eq_true eo10) eg10_2 ?_
  refine ow_iconst (pc' := 25) (n := 0) dX0_become_24 rfl rfl ?_
  refine ow_bipush (pc' := 27) (n := 40) dX0_become_25 rfl rfl ?_
  obtain ⟨⟨w, w1, w2⟩, ⟨w3, w4⟩, h⟩ := h
  have u0 : 0 ≤ (8 : Int) ∧ (8 : Int) < ow_nb (EM A L N) N1 ∧ ((EM A L N).2.1 8).1 = 100 ∧ (0 : Int) ≤ 0 ∧ (0 : Int) ≤ 40 ∧ (0 : Int) + 40 ≤ ((EM A L N).2.1 8).2 := ⟨by decide, (show (8 : Int) < 102 by decide), rfl, w, w1, w2⟩
  have u1 : 0 ≤ (12 : Int) ∧ (12 : Int) < ow_nb (EM A L N) N1 ∧ ((EM A L N).2.1 12).1 = 100 ∧ (0 : Int) ≤ 0 ∧ (0 : Int) + 40 ≤ ((EM A L N).2.1 12).2 := ⟨by decide, (show (12 : Int) < 102 by decide), rfl, w3, w4⟩
  refine ow_copy2 (pc' := 30) dX0_become_27 lRX0_39 ow_ac1 ow_ac2 ow_ac3 rfl rfl em_22 u0 u1 (fun i => of_eq_true (en12 i)) (fun N2 eN2 => ?_)
  have h := h N2 eN2
  refine ow_iconst (pc' := 31) (n := 0) dX0_become_30 rfl rfl ?_
  refine ow_istore_n (pc' := 32) (lv' := [(0, (3, 10)), (1, (3, 6)), (2, (0, 0))]) dX0_become_31 rfl rfl rfl ?_
  exact h
set_option maxRecDepth 20000 in
theorem cX0_become_b_32 {C : ow_C} {A L N : Int} {d : Nat} {M : ow_M} {K : Int → ow_M → Prop} {l2 : Int} (h : (0 ≤ N ∧ N ≤ 2147483647) ∧ (N ≤ l2 → ∀ N1, N1 = ow_up M 10 4 (M 6 4) → K 0 N1) ∧ (l2 < N → (N ≤ l2 → ∀ N2, N2 = ow_up M 10 4 (M 6 4) → K 0 N2) ∧ (l2 < N → (0 ≤ l2 ∧ l2 < N) ∧ ((M 9 l2) = 0 ∨ (M 9 l2) = 1) ∧ ∀ N3, N3 = ow_up M 13 l2 (M 9 l2) → ow_I (l2 + 1) ∧ ow_At C (EM A L N) (d + 1) mX0_become 32 [(0, (3, 10)), (1, (3, 6)), (2, (0, l2 + 1))] [] (0, 0) N3 K))) : ow_At C (EM A L N) (d + 1) mX0_become 32 [(0, (3, 10)), (1, (3, 6)), (2, (0, l2))] [] (0, 0) M K := by
  refine ow_iload_n (pc' := 33) (x := l2) dX0_become_32 rfl rfl ?_
  refine ow_aload_n (pc' := 34) (x := 10) dX0_become_33 rfl rfl ?_
  refine ow_getf3 (pc' := 37) (t := 3) (ji := 3) (val := 13) dX0_become_34 fRX0_31 rfl rfl rfl (of_eq_true eo10) eg10_3 ?_
  obtain ⟨vv1, h⟩ := h
  refine ow_alen3 (pc' := 38) (t := 102) (val := N) dX0_become_37 rfl rfl (by decide) (show (13 : Int) < 102 by decide) rfl el13 vv1.1 vv1.2 ?_
  refine ow_icmpge (pc' := 41) (tg := 68) dX0_become_38 rfl rfl (fun hc => ?_) (fun hc => ?_)
  · have h := h.1 hc
    refine ow_aload_n (pc' := 69) (x := 10) dX0_become_68 rfl rfl ?_
    refine ow_aload_n (pc' := 70) (x := 6) dX0_become_69 rfl rfl ?_
    refine ow_getf3 (pc' := 73) (t := 0) (ji := 4) (val := M 6 4) dX0_become_70 fRX0_18 rfl rfl rfl (of_eq_true eo6) eg6_4 ?_
    refine ow_putf2 (pc' := 76) (t := 0) (ji := 4) dX0_become_73 fRX0_18 rfl rfl rfl rfl (of_eq_true eo10) (of_eq_true en10_4) (fun hz => absurd hz (by decide)) (fun N1 eN1 => ?_)
    have h := h N1 eN1
    exact ow_vret dX0_become_76 rfl rfl h
  · have h := h.2 hc
    refine ow_iload_n (pc' := 42) (x := l2) dX0_become_41 rfl rfl ?_
    refine ow_aload_n (pc' := 43) (x := 6) dX0_become_42 rfl rfl ?_
    refine ow_getf3 (pc' := 46) (t := 3) (ji := 3) (val := 9) dX0_become_43 fRX0_31 rfl rfl rfl (of_eq_true eo6) eg6_3 ?_
    refine ow_alen3 (pc' := 47) (t := 102) (val := N) dX0_become_46 rfl rfl (by decide) (show (9 : Int) < 102 by decide) rfl el9 vv1.1 vv1.2 ?_
    refine ow_icmpge (pc' := 50) (tg := 68) dX0_become_47 rfl rfl (fun hc => ?_) (fun hc => ?_)
    · have h := h.1 hc
      refine ow_aload_n (pc' := 69) (x := 10) dX0_become_68 rfl rfl ?_
      refine ow_aload_n (pc' := 70) (x := 6) dX0_become_69 rfl rfl ?_
      refine ow_getf3 (pc' := 73) (t := 0) (ji := 4) (val := M 6 4) dX0_become_70 fRX0_18 rfl rfl rfl (of_eq_true eo6) eg6_4 ?_
      refine ow_putf2 (pc' := 76) (t := 0) (ji := 4) dX0_become_73 fRX0_18 rfl rfl rfl rfl (of_eq_true eo10) (of_eq_true en10_4) (fun hz => absurd hz (by decide)) (fun N2 eN2 => ?_)
      have h := h N2 eN2
      exact ow_vret dX0_become_76 rfl rfl h
    · have h := h.2 hc
      refine ow_aload_n (pc' := 51) (x := 10) dX0_become_50 rfl rfl ?_
      refine ow_getf3 (pc' := 54) (t := 3) (ji := 3) (val := 13) dX0_become_51 fRX0_31 rfl rfl rfl (of_eq_true eo10) eg10_3 ?_
      refine ow_iload_n (pc' := 55) (x := l2) dX0_become_54 rfl rfl ?_
      refine ow_aload_n (pc' := 56) (x := 6) dX0_become_55 rfl rfl ?_
      refine ow_getf3 (pc' := 59) (t := 3) (ji := 3) (val := 9) dX0_become_56 fRX0_31 rfl rfl rfl (of_eq_true eo6) eg6_3 ?_
      refine ow_iload_n (pc' := 60) (x := l2) dX0_become_59 rfl rfl ?_
      obtain ⟨vv2, h⟩ := h
      refine ow_baload3 (pc' := 61) (val := M 9 l2) dX0_become_60 rfl (Eq.mpr (er9 _) vv2) (ea9 _) ?_
      obtain ⟨w2, h⟩ := h
      refine ow_bastore2 (pc' := 62) dX0_become_61 rfl (Eq.mpr (er13 _) vv2) (of_eq_true (en13 _)) w2 (fun N3 eN3 => ?_)
      have h := h N3 eN3
      obtain ⟨vv3, h⟩ := h
      refine ow_iinc (pc' := 65) (lv' := [(0, (3, 10)), (1, (3, 6)), (2, (0, l2 + 1))]) dX0_become_62 rfl vv3 rfl rfl rfl ?_
      refine ow_goto (tg := 32) dX0_become_65 rfl ?_
      exact h
theorem fX0_become_b {C : ow_C} {A L N : Int} {d : Nat} {M : ow_M} {K : Int → ow_M → Prop} (h : ((0 : Int) ≤ 0 ∧ (0 : Int) ≤ 40 ∧ (0 : Int) + 40 ≤ 40) ∧ ((0 : Int) ≤ 0 ∧ (0 : Int) + 40 ≤ 40) ∧ ∀ N1, N1 = ow_cp (EM A L N) M 7 0 11 0 40 → ((0 : Int) ≤ 0 ∧ (0 : Int) ≤ 40 ∧ (0 : Int) + 40 ≤ 40) ∧ ((0 : Int) ≤ 0 ∧ (0 : Int) + 40 ≤ 40) ∧ ∀ N2, N2 = ow_cp (EM A L N) N1 8 0 12 0 40 → ow_At C (EM A L N) (d + 1) mX0_become 32 [(0, (3, 10)), (1, (3, 6)), (2, (0, 0))] [] (0, 0) N2 K) : ow_Sp C (EM A L N) (d + 1) mX0_become (0, 0) [(3, 10), (3, 6)] M K := ow_enter (by decide +kernel) rfl rfl (cX0_become_b_0 h)
set_option maxRecDepth 20000 in
theorem cX0_sameEnds_0 {C : ow_C} {A L N : Int} {d : Nat} {M : ow_M} {K : Int → ow_M → Prop} {l1 l2 l3 : Int} (h : ow_I (L - l3) ∧ ow_Sp C (EM A L N) d mX10_raised (0, 0) [(0, A), (0, L - l3)] M (fun r1 N1 => (0 < r1 → r1 ≠ 0 ∧ ow_I (Int.tdiv l1 r1) ∧ ow_I (Int.tmod l1 r1) ∧ ow_I (l1 - (Int.tmod l1 r1)) ∧ r1 ≠ 0 ∧ ow_I (Int.tdiv l2 r1) ∧ ow_I (Int.tmod l2 r1) ∧ ow_I (l2 - (Int.tmod l2 r1)) ∧ ((l1 - (Int.tmod l1 r1)) ≠ (l2 - (Int.tmod l2 r1)) → ow_At C (EM A L N) (d + 1) mX0_sameEnds 56 [(0, (3, 6)), (4, (0, r1)), (5, (0, l1 - (Int.tmod l1 r1))), (6, (0, l2 - (Int.tmod l2 r1))), (7, (0, 0))] [] (0, 0) N1 K) ∧ ((l1 - (Int.tmod l1 r1)) = (l2 - (Int.tmod l2 r1)) → K 1 N1)) ∧ (r1 ≤ 0 → K 0 N1))) : ow_At C (EM A L N) (d + 1) mX0_sameEnds 0 [(0, (3, 6)), (1, (0, l1)), (2, (0, l2)), (3, (0, l3))] [] (0, 0) M K := by
  refine ow_aload_n (pc' := 1) (x := 6) dX0_sameEnds_0 rfl rfl ?_
  refine ow_getf3 (pc' := 4) (t := 3) (ji := 0) (val := 3) dX0_sameEnds_1 fRX0_22 rfl rfl rfl (of_eq_true eo6) eg6_0 ?_
  refine ow_getf3 (pc' := 7) (t := 0) (ji := 0) (val := A) dX0_sameEnds_4 fRX0_45 rfl rfl rfl (of_eq_true eo3) eg3_0 ?_
  refine ow_aload_n (pc' := 8) (x := 6) dX0_sameEnds_7 rfl rfl ?_
  refine ow_getf3 (pc' := 11) (t := 3) (ji := 0) (val := 3) dX0_sameEnds_8 fRX0_22 rfl rfl rfl (of_eq_true eo6) eg6_0 ?_
  refine ow_getf3 (pc' := 14) (t := 0) (ji := 1) (val := L) dX0_sameEnds_11 fRX0_48 rfl rfl rfl (of_eq_true eo3) eg3_1 ?_
  refine ow_iload_n (pc' := 15) (x := l3) dX0_sameEnds_14 rfl rfl ?_
  obtain ⟨vv1, h⟩ := h
  refine ow_isub (pc' := 16) dX0_sameEnds_15 vv1 rfl ?_
  refine ow_callSp (z := mX10_raised) (n := 2) (vs := [(0, A), (0, L - l3)]) (st := []) (pc' := 19) (b1 := (0, 0)) (b2 := (0, 0)) dX0_sameEnds_16 lRX0_51 kX10_raised zX10_raised rfl rfl rfl rfl rfl rfl (ow_Sp.mono h (fun r1 N1 h => ?_))
  refine ow_istore (pc' := 21) (lv' := [(0, (3, 6)), (1, (0, l1)), (2, (0, l2)), (3, (0, l3)), (4, (0, r1))]) dX0_sameEnds_19 rfl rfl rfl ?_
  refine ow_iload (pc' := 23) (x := r1) dX0_sameEnds_21 rfl rfl ?_
  refine ow_ifgt (pc' := 26) (tg := 28) dX0_sameEnds_23 rfl rfl (fun hc => ?_) (fun hc => ?_)
  · have h := h.1 hc
    refine ow_iload_n (pc' := 29) (x := l1) dX0_sameEnds_28 rfl rfl ?_
    refine ow_iload_n (pc' := 30) (x := l1) dX0_sameEnds_29 rfl rfl ?_
    refine ow_iload (pc' := 32) (x := r1) dX0_sameEnds_30 rfl rfl ?_
    obtain ⟨w0, w, w1, h⟩ := h
    refine ow_irem (pc' := 33) dX0_sameEnds_32 w0 w w1 rfl ?_
    obtain ⟨vv2, h⟩ := h
    refine ow_isub (pc' := 34) dX0_sameEnds_33 vv2 rfl ?_
    refine ow_istore (pc' := 36) (lv' := [(0, (3, 6)), (1, (0, l1)), (2, (0, l2)), (3, (0, l3)), (4, (0, r1)), (5, (0, l1 - (Int.tmod l1 r1)))]) dX0_sameEnds_34 rfl rfl rfl ?_
    refine ow_iload_n (pc' := 37) (x := l2) dX0_sameEnds_36 rfl rfl ?_
    refine ow_iload_n (pc' := 38) (x := l2) dX0_sameEnds_37 rfl rfl ?_
    refine ow_iload (pc' := 40) (x := r1) dX0_sameEnds_38 rfl rfl ?_
    obtain ⟨w0, w, w1, h⟩ := h
    refine ow_irem (pc' := 41) dX0_sameEnds_40 w0 w w1 rfl ?_
    obtain ⟨vv3, h⟩ := h
    refine ow_isub (pc' := 42) dX0_sameEnds_41 vv3 rfl ?_
    refine ow_istore (pc' := 44) (lv' := [(0, (3, 6)), (1, (0, l1)), (2, (0, l2)), (3, (0, l3)), (4, (0, r1)), (5, (0, l1 - (Int.tmod l1 r1))), (6, (0, l2 - (Int.tmod l2 r1)))]) dX0_sameEnds_42 rfl rfl rfl ?_
    refine ow_iload (pc' := 46) (x := l1 - (Int.tmod l1 r1)) dX0_sameEnds_44 rfl rfl ?_
    refine ow_iload (pc' := 48) (x := l2 - (Int.tmod l2 r1)) dX0_sameEnds_46 rfl rfl ?_
    refine ow_icmpne (pc' := 51) (tg := 53) dX0_sameEnds_48 rfl rfl (fun hc => ?_) (fun hc => ?_)
    · have h := h.1 hc
      refine ow_iconst (pc' := 54) (n := 0) dX0_sameEnds_53 rfl rfl ?_
      refine ow_istore (pc' := 56) (lv' := [(0, (3, 6)), (1, (0, l1)), (2, (0, l2)), (3, (0, l3)), (4, (0, r1)), (5, (0, l1 - (Int.tmod l1 r1))), (6, (0, l2 - (Int.tmod l2 r1))), (7, (0, 0))]) dX0_sameEnds_54 rfl rfl rfl ?_
      refine ow_sub (lv' := [(0, (3, 6)), (4, (0, r1)), (5, (0, l1 - (Int.tmod l1 r1))), (6, (0, l2 - (Int.tmod l2 r1))), (7, (0, 0))]) [0, 4, 5, 6, 7] rfl ?_
      exact h
    · have h := h.2 hc
      refine ow_iconst (pc' := 52) (n := 1) dX0_sameEnds_51 rfl rfl ?_
      exact ow_zret dX0_sameEnds_52 rfl rfl (Or.inr rfl) h
  · have h := h.2 hc
    refine ow_iconst (pc' := 27) (n := 0) dX0_sameEnds_26 rfl rfl ?_
    exact ow_zret dX0_sameEnds_27 rfl rfl (Or.inl rfl) h
set_option maxRecDepth 20000 in
theorem cX0_sameEnds_56 {C : ow_C} {A L N : Int} {d : Nat} {M : ow_M} {K : Int → ow_M → Prop} {l4 l5 l6 l7 : Int} (h : (l4 ≤ l7 → K 1 M) ∧ (l7 < l4 → ow_I (l5 + l7) ∧ (0 ≤ (l5 + l7) ∧ (l5 + l7) < N) ∧ ow_I (l6 + l7) ∧ (0 ≤ (l6 + l7) ∧ (l6 + l7) < N) ∧ ((M 9 (l5 + l7)) = (M 9 (l6 + l7)) → ow_I (l7 + 1) ∧ ow_At C (EM A L N) (d + 1) mX0_sameEnds 56 [(0, (3, 6)), (4, (0, l4)), (5, (0, l5)), (6, (0, l6)), (7, (0, l7 + 1))] [] (0, 0) M K) ∧ ((M 9 (l5 + l7)) ≠ (M 9 (l6 + l7)) → K 0 M))) : ow_At C (EM A L N) (d + 1) mX0_sameEnds 56 [(0, (3, 6)), (4, (0, l4)), (5, (0, l5)), (6, (0, l6)), (7, (0, l7))] [] (0, 0) M K := by
  refine ow_iload (pc' := 58) (x := l7) dX0_sameEnds_56 rfl rfl ?_
  refine ow_iload (pc' := 60) (x := l4) dX0_sameEnds_58 rfl rfl ?_
  refine ow_icmpge (pc' := 63) (tg := 94) dX0_sameEnds_60 rfl rfl (fun hc => ?_) (fun hc => ?_)
  · have h := h.1 hc
    refine ow_iconst (pc' := 95) (n := 1) dX0_sameEnds_94 rfl rfl ?_
    exact ow_zret dX0_sameEnds_95 rfl rfl (Or.inr rfl) h
  · have h := h.2 hc
    refine ow_aload_n (pc' := 64) (x := 6) dX0_sameEnds_63 rfl rfl ?_
    refine ow_getf3 (pc' := 67) (t := 3) (ji := 3) (val := 9) dX0_sameEnds_64 fRX0_31 rfl rfl rfl (of_eq_true eo6) eg6_3 ?_
    refine ow_iload (pc' := 69) (x := l5) dX0_sameEnds_67 rfl rfl ?_
    refine ow_iload (pc' := 71) (x := l7) dX0_sameEnds_69 rfl rfl ?_
    obtain ⟨vv1, h⟩ := h
    refine ow_iadd (pc' := 72) dX0_sameEnds_71 vv1 rfl ?_
    obtain ⟨vv2, h⟩ := h
    refine ow_baload3 (pc' := 73) (val := M 9 (l5 + l7)) dX0_sameEnds_72 rfl (Eq.mpr (er9 _) vv2) (ea9 _) ?_
    refine ow_aload_n (pc' := 74) (x := 6) dX0_sameEnds_73 rfl rfl ?_
    refine ow_getf3 (pc' := 77) (t := 3) (ji := 3) (val := 9) dX0_sameEnds_74 fRX0_31 rfl rfl rfl (of_eq_true eo6) eg6_3 ?_
    refine ow_iload (pc' := 79) (x := l6) dX0_sameEnds_77 rfl rfl ?_
    refine ow_iload (pc' := 81) (x := l7) dX0_sameEnds_79 rfl rfl ?_
    obtain ⟨vv3, h⟩ := h
    refine ow_iadd (pc' := 82) dX0_sameEnds_81 vv3 rfl ?_
    obtain ⟨vv4, h⟩ := h
    refine ow_baload3 (pc' := 83) (val := M 9 (l6 + l7)) dX0_sameEnds_82 rfl (Eq.mpr (er9 _) vv4) (ea9 _) ?_
    refine ow_icmpeq (pc' := 86) (tg := 88) dX0_sameEnds_83 rfl rfl (fun hc => ?_) (fun hc => ?_)
    · have h := h.1 hc
      obtain ⟨vv5, h⟩ := h
      refine ow_iinc (pc' := 91) (lv' := [(0, (3, 6)), (4, (0, l4)), (5, (0, l5)), (6, (0, l6)), (7, (0, l7 + 1))]) dX0_sameEnds_88 rfl vv5 rfl rfl rfl ?_
      refine ow_goto (tg := 56) dX0_sameEnds_91 rfl ?_
      exact h
    · have h := h.2 hc
      refine ow_iconst (pc' := 87) (n := 0) dX0_sameEnds_86 rfl rfl ?_
      exact ow_zret dX0_sameEnds_87 rfl rfl (Or.inl rfl) h
theorem fX0_sameEnds {C : ow_C} {A L N : Int} {d : Nat} {M : ow_M} {K : Int → ow_M → Prop} {l1 l2 l3 : Int} (h : ow_I (L - l3) ∧ ow_Sp C (EM A L N) d mX10_raised (0, 0) [(0, A), (0, L - l3)] M (fun r1 N1 => (0 < r1 → r1 ≠ 0 ∧ ow_I (Int.tdiv l1 r1) ∧ ow_I (Int.tmod l1 r1) ∧ ow_I (l1 - (Int.tmod l1 r1)) ∧ r1 ≠ 0 ∧ ow_I (Int.tdiv l2 r1) ∧ ow_I (Int.tmod l2 r1) ∧ ow_I (l2 - (Int.tmod l2 r1)) ∧ ((l1 - (Int.tmod l1 r1)) ≠ (l2 - (Int.tmod l2 r1)) → ow_At C (EM A L N) (d + 1) mX0_sameEnds 56 [(0, (3, 6)), (4, (0, r1)), (5, (0, l1 - (Int.tmod l1 r1))), (6, (0, l2 - (Int.tmod l2 r1))), (7, (0, 0))] [] (0, 0) N1 K) ∧ ((l1 - (Int.tmod l1 r1)) = (l2 - (Int.tmod l2 r1)) → K 1 N1)) ∧ (r1 ≤ 0 → K 0 N1))) : ow_Sp C (EM A L N) (d + 1) mX0_sameEnds (0, 0) [(3, 6), (0, l1), (0, l2), (0, l3)] M K := ow_enter (by decide +kernel) rfl rfl (cX0_sameEnds_0 h)
set_option maxRecDepth 20000 in
theorem cX0_treeAt_0 {C : ow_C} {A L N : Int} {d : Nat} {M : ow_M} {K : Int → ow_M → Prop} {l1 l2 : Int} (h : ow_At C (EM A L N) (d + 1) mX0_treeAt 5 [(0, (3, 6)), (1, (0, l1)), (2, (0, l2)), (3, (0, 0)), (4, (0, 0))] [] (0, 0) M K) : ow_At C (EM A L N) (d + 1) mX0_treeAt 0 [(0, (3, 6)), (1, (0, l1)), (2, (0, l2))] [] (0, 0) M K := by
  refine ow_iconst (pc' := 1) (n := 0) dX0_treeAt_0 rfl rfl ?_
  refine ow_istore_n (pc' := 2) (lv' := [(0, (3, 6)), (1, (0, l1)), (2, (0, l2)), (3, (0, 0))]) dX0_treeAt_1 rfl rfl rfl ?_
  refine ow_iconst (pc' := 3) (n := 0) dX0_treeAt_2 rfl rfl ?_
  refine ow_istore (pc' := 5) (lv' := [(0, (3, 6)), (1, (0, l1)), (2, (0, l2)), (3, (0, 0)), (4, (0, 0))]) dX0_treeAt_3 rfl rfl rfl ?_
  exact h
set_option maxRecDepth 20000 in
theorem cX0_treeAt_5 {C : ow_C} {A L N : Int} {d : Nat} {M : ow_M} {K : Int → ow_M → Prop} {l1 l2 l3 l4 : Int} (h : ((M 6 4) ≤ l4 → K l3 M) ∧ (l4 < (M 6 4) → ow_Sp C (EM A L N) d mX0_isFirstOfNode (0, 0) [(3, 6), (0, l4), (0, l1)] M (fun r1 N1 => (r1 = 0 → ow_I (l4 + 1) ∧ ow_At C (EM A L N) (d + 1) mX0_treeAt 5 [(0, (3, 6)), (1, (0, l1)), (2, (0, l2)), (3, (0, l3)), (4, (0, l4 + 1))] [] (0, 0) N1 K) ∧ (r1 ≠ 0 → (l2 = 0 → ow_At C (EM A L N) (d + 1) mX0_treeAt 45 [(0, (3, 6)), (1, (0, l1)), (2, (0, l2)), (4, (0, l4))] [(0, 1), (0, l3)] (0, 0) N1 K) ∧ (l2 ≠ 0 → (0 ≤ l4 ∧ l4 < 40) ∧ ow_Sp C (EM A L N) d mX0_arcsOf (0, 0) [(3, 6), (0, N1 7 l4), (0, l1)] N1 (fun r2 N2 => ow_At C (EM A L N) (d + 1) mX0_treeAt 45 [(0, (3, 6)), (1, (0, l1)), (2, (0, l2)), (4, (0, l4))] [(0, r2), (0, l3)] (0, 0) N2 K)))))) : ow_At C (EM A L N) (d + 1) mX0_treeAt 5 [(0, (3, 6)), (1, (0, l1)), (2, (0, l2)), (3, (0, l3)), (4, (0, l4))] [] (0, 0) M K := by
  refine ow_iload (pc' := 7) (x := l4) dX0_treeAt_5 rfl rfl ?_
  refine ow_aload_n (pc' := 8) (x := 6) dX0_treeAt_7 rfl rfl ?_
  refine ow_getf3 (pc' := 11) (t := 0) (ji := 4) (val := M 6 4) dX0_treeAt_8 fRX0_18 rfl rfl rfl (of_eq_true eo6) eg6_4 ?_
  refine ow_icmpge (pc' := 14) (tg := 53) dX0_treeAt_11 rfl rfl (fun hc => ?_) (fun hc => ?_)
  · have h := h.1 hc
    refine ow_iload_n (pc' := 54) (x := l3) dX0_treeAt_53 rfl rfl ?_
    exact ow_iret dX0_treeAt_54 rfl rfl h
  · have h := h.2 hc
    refine ow_aload_n (pc' := 15) (x := 6) dX0_treeAt_14 rfl rfl ?_
    refine ow_iload (pc' := 17) (x := l4) dX0_treeAt_15 rfl rfl ?_
    refine ow_iload_n (pc' := 18) (x := l1) dX0_treeAt_17 rfl rfl ?_
    refine ow_callVp (z := mX0_isFirstOfNode) (n := 2) (k := 0) (vs := [(0, l4), (0, l1)]) (x := 6) (st := []) (pc' := 21) (b1 := (0, 0)) (b2 := (0, 0)) dX0_treeAt_18 lRX0_55 kX0_isFirstOfNode iX0_isFirstOfNode rfl rfl rfl rfl rfl rfl (of_eq_true eo6) (ow_Sp.mono h (fun r1 N1 h => ?_))
    refine ow_ifeq (pc' := 24) (tg := 47) dX0_treeAt_21 rfl rfl (fun hc => ?_) (fun hc => ?_)
    · have h := h.1 hc
      obtain ⟨vv1, h⟩ := h
      refine ow_iinc (pc' := 50) (lv' := [(0, (3, 6)), (1, (0, l1)), (2, (0, l2)), (3, (0, l3)), (4, (0, l4 + 1))]) dX0_treeAt_47 rfl vv1 rfl rfl rfl ?_
      refine ow_goto (tg := 5) dX0_treeAt_50 rfl ?_
      exact h
    · have h := h.2 hc
      refine ow_iload_n (pc' := 25) (x := l3) dX0_treeAt_24 rfl rfl ?_
      refine ow_iload_n (pc' := 26) (x := l2) dX0_treeAt_25 rfl rfl ?_
      refine ow_ifeq (pc' := 29) (tg := 44) dX0_treeAt_26 rfl rfl (fun hc => ?_) (fun hc => ?_)
      · have h := h.1 hc
        refine ow_iconst (pc' := 45) (n := 1) dX0_treeAt_44 rfl rfl ?_
        refine ow_sub (lv' := [(0, (3, 6)), (1, (0, l1)), (2, (0, l2)), (4, (0, l4))]) [0, 1, 2, 4] rfl ?_
        exact h
      · have h := h.2 hc
        refine ow_aload_n (pc' := 30) (x := 6) dX0_treeAt_29 rfl rfl ?_
        refine ow_aload_n (pc' := 31) (x := 6) dX0_treeAt_30 rfl rfl ?_
        refine ow_getf3 (pc' := 34) (t := 3) (ji := 1) (val := 7) dX0_treeAt_31 fRX0_9 rfl rfl rfl (of_eq_true eo6) eg6_1 ?_
        refine ow_iload (pc' := 36) (x := l4) dX0_treeAt_34 rfl rfl ?_
        obtain ⟨vv2, h⟩ := h
        refine ow_iaload3 (pc' := 37) (val := N1 7 l4) dX0_treeAt_36 rfl (Eq.mpr (er7 _) vv2) (ea7 _) ?_
        refine ow_iload_n (pc' := 38) (x := l1) dX0_treeAt_37 rfl rfl ?_
        refine ow_callVp (z := mX0_arcsOf) (n := 2) (k := 0) (vs := [(0, N1 7 l4), (0, l1)]) (x := 6) (st := [(0, l3)]) (pc' := 41) (b1 := (0, 0)) (b2 := (0, 0)) dX0_treeAt_38 lRX0_59 kX0_arcsOf iX0_arcsOf rfl rfl rfl rfl rfl rfl (of_eq_true eo6) (ow_Sp.mono h (fun r2 N2 h => ?_))
        refine ow_goto (tg := 45) dX0_treeAt_41 rfl ?_
        refine ow_sub (lv' := [(0, (3, 6)), (1, (0, l1)), (2, (0, l2)), (4, (0, l4))]) [0, 1, 2, 4] rfl ?_
        exact h
set_option maxRecDepth 20000 in
theorem cX0_treeAt_45 {C : ow_C} {A L N : Int} {d : Nat} {M : ow_M} {K : Int → ow_M → Prop} {l1 l2 l4 s0 s1 : Int} (h : ow_I (s1 + s0) ∧ ow_I (l4 + 1) ∧ ow_At C (EM A L N) (d + 1) mX0_treeAt 5 [(0, (3, 6)), (1, (0, l1)), (2, (0, l2)), (3, (0, s1 + s0)), (4, (0, l4 + 1))] [] (0, 0) M K) : ow_At C (EM A L N) (d + 1) mX0_treeAt 45 [(0, (3, 6)), (1, (0, l1)), (2, (0, l2)), (4, (0, l4))] [(0, s0), (0, s1)] (0, 0) M K := by
  obtain ⟨vv1, h⟩ := h
  refine ow_iadd (pc' := 46) dX0_treeAt_45 vv1 rfl ?_
  refine ow_istore_n (pc' := 47) (lv' := [(0, (3, 6)), (1, (0, l1)), (2, (0, l2)), (3, (0, s1 + s0)), (4, (0, l4))]) dX0_treeAt_46 rfl rfl rfl ?_
  obtain ⟨vv2, h⟩ := h
  refine ow_iinc (pc' := 50) (lv' := [(0, (3, 6)), (1, (0, l1)), (2, (0, l2)), (3, (0, s1 + s0)), (4, (0, l4 + 1))]) dX0_treeAt_47 rfl vv2 rfl rfl rfl ?_
  refine ow_goto (tg := 5) dX0_treeAt_50 rfl ?_
  exact h
theorem fX0_treeAt {C : ow_C} {A L N : Int} {d : Nat} {M : ow_M} {K : Int → ow_M → Prop} {l1 l2 : Int} (h : ow_At C (EM A L N) (d + 1) mX0_treeAt 5 [(0, (3, 6)), (1, (0, l1)), (2, (0, l2)), (3, (0, 0)), (4, (0, 0))] [] (0, 0) M K) : ow_Sp C (EM A L N) (d + 1) mX0_treeAt (0, 0) [(3, 6), (0, l1), (0, l2)] M K := ow_enter (by decide +kernel) rfl rfl (cX0_treeAt_0 h)
set_option maxRecDepth 20000 in
theorem cX0_isFirstOfNode_0 {C : ow_C} {A L N : Int} {d : Nat} {M : ow_M} {K : Int → ow_M → Prop} {l1 l2 : Int} (h : ow_At C (EM A L N) (d + 1) mX0_isFirstOfNode 2 [(0, (3, 6)), (1, (0, l1)), (2, (0, l2)), (3, (0, 0))] [] (0, 0) M K) : ow_At C (EM A L N) (d + 1) mX0_isFirstOfNode 0 [(0, (3, 6)), (1, (0, l1)), (2, (0, l2))] [] (0, 0) M K := by
  refine ow_iconst (pc' := 1) (n := 0) dX0_isFirstOfNode_0 rfl rfl ?_
  refine ow_istore_n (pc' := 2) (lv' := [(0, (3, 6)), (1, (0, l1)), (2, (0, l2)), (3, (0, 0))]) dX0_isFirstOfNode_1 rfl rfl rfl ?_
  exact h
set_option maxRecDepth 20000 in
theorem cX0_isFirstOfNode_2 {C : ow_C} {A L N : Int} {d : Nat} {M : ow_M} {K : Int → ow_M → Prop} {l1 l2 l3 : Int} (h : (l1 ≤ l3 → K 1 M) ∧ (l3 < l1 → (0 ≤ l3 ∧ l3 < 40) ∧ (0 ≤ l1 ∧ l1 < 40) ∧ ow_Sp C (EM A L N) d mX0_sameEnds (0, 0) [(3, 6), (0, M 7 l3), (0, M 7 l1), (0, l2)] M (fun r1 N1 => (r1 = 0 → ow_I (l3 + 1) ∧ ow_At C (EM A L N) (d + 1) mX0_isFirstOfNode 2 [(0, (3, 6)), (1, (0, l1)), (2, (0, l2)), (3, (0, l3 + 1))] [] (0, 0) N1 K) ∧ (r1 ≠ 0 → K 0 N1)))) : ow_At C (EM A L N) (d + 1) mX0_isFirstOfNode 2 [(0, (3, 6)), (1, (0, l1)), (2, (0, l2)), (3, (0, l3))] [] (0, 0) M K := by
  refine ow_iload_n (pc' := 3) (x := l3) dX0_isFirstOfNode_2 rfl rfl ?_
  refine ow_iload_n (pc' := 4) (x := l1) dX0_isFirstOfNode_3 rfl rfl ?_
  refine ow_icmpge (pc' := 7) (tg := 35) dX0_isFirstOfNode_4 rfl rfl (fun hc => ?_) (fun hc => ?_)
  · have h := h.1 hc
    refine ow_iconst (pc' := 36) (n := 1) dX0_isFirstOfNode_35 rfl rfl ?_
    exact ow_zret dX0_isFirstOfNode_36 rfl rfl (Or.inr rfl) h
  · have h := h.2 hc
    refine ow_aload_n (pc' := 8) (x := 6) dX0_isFirstOfNode_7 rfl rfl ?_
    refine ow_aload_n (pc' := 9) (x := 6) dX0_isFirstOfNode_8 rfl rfl ?_
    refine ow_getf3 (pc' := 12) (t := 3) (ji := 1) (val := 7) dX0_isFirstOfNode_9 fRX0_9 rfl rfl rfl (of_eq_true eo6) eg6_1 ?_
    refine ow_iload_n (pc' := 13) (x := l3) dX0_isFirstOfNode_12 rfl rfl ?_
    obtain ⟨vv1, h⟩ := h
    refine ow_iaload3 (pc' := 14) (val := M 7 l3) dX0_isFirstOfNode_13 rfl (Eq.mpr (er7 _) vv1) (ea7 _) ?_
    refine ow_aload_n (pc' := 15) (x := 6) dX0_isFirstOfNode_14 rfl rfl ?_
    refine ow_getf3 (pc' := 18) (t := 3) (ji := 1) (val := 7) dX0_isFirstOfNode_15 fRX0_9 rfl rfl rfl (of_eq_true eo6) eg6_1 ?_
    refine ow_iload_n (pc' := 19) (x := l1) dX0_isFirstOfNode_18 rfl rfl ?_
    obtain ⟨vv2, h⟩ := h
    refine ow_iaload3 (pc' := 20) (val := M 7 l1) dX0_isFirstOfNode_19 rfl (Eq.mpr (er7 _) vv2) (ea7 _) ?_
    refine ow_iload_n (pc' := 21) (x := l2) dX0_isFirstOfNode_20 rfl rfl ?_
    refine ow_callVp (z := mX0_sameEnds) (n := 3) (k := 0) (vs := [(0, M 7 l3), (0, M 7 l1), (0, l2)]) (x := 6) (st := []) (pc' := 24) (b1 := (0, 0)) (b2 := (0, 0)) dX0_isFirstOfNode_21 lRX0_62 kX0_sameEnds iX0_sameEnds rfl rfl rfl rfl rfl rfl (of_eq_true eo6) (ow_Sp.mono h (fun r1 N1 h => ?_))
    refine ow_ifeq (pc' := 27) (tg := 29) dX0_isFirstOfNode_24 rfl rfl (fun hc => ?_) (fun hc => ?_)
    · have h := h.1 hc
      obtain ⟨vv3, h⟩ := h
      refine ow_iinc (pc' := 32) (lv' := [(0, (3, 6)), (1, (0, l1)), (2, (0, l2)), (3, (0, l3 + 1))]) dX0_isFirstOfNode_29 rfl vv3 rfl rfl rfl ?_
      refine ow_goto (tg := 2) dX0_isFirstOfNode_32 rfl ?_
      exact h
    · have h := h.2 hc
      refine ow_iconst (pc' := 28) (n := 0) dX0_isFirstOfNode_27 rfl rfl ?_
      exact ow_zret dX0_isFirstOfNode_28 rfl rfl (Or.inl rfl) h
theorem fX0_isFirstOfNode {C : ow_C} {A L N : Int} {d : Nat} {M : ow_M} {K : Int → ow_M → Prop} {l1 l2 : Int} (h : ow_At C (EM A L N) (d + 1) mX0_isFirstOfNode 2 [(0, (3, 6)), (1, (0, l1)), (2, (0, l2)), (3, (0, 0))] [] (0, 0) M K) : ow_Sp C (EM A L N) (d + 1) mX0_isFirstOfNode (0, 0) [(3, 6), (0, l1), (0, l2)] M K := ow_enter (by decide +kernel) rfl rfl (cX0_isFirstOfNode_0 h)
set_option maxRecDepth 20000 in
theorem cX0_arcsOf_0 {C : ow_C} {A L N : Int} {d : Nat} {M : ow_M} {K : Int → ow_M → Prop} {l1 l2 : Int} (h : (l2 < L → ow_I (L - l2) ∧ ow_I ((L - l2) - 1) ∧ ow_Sp C (EM A L N) d mX10_raised (0, 0) [(0, A), (0, (L - l2) - 1)] M (fun r1 N1 => ow_I (r1 * A) ∧ ((r1 * A) ≤ 0 → ow_At C (EM A L N) (d + 1) mX0_arcsOf 69 [(0, (3, 6)), (3, (0, r1)), (5, (0, 0)), (6, (0, 0)), (7, (0, 0))] [] (0, 0) N1 K) ∧ (0 < (r1 * A) → (r1 * A) ≠ 0 ∧ ow_I (Int.tdiv l1 (r1 * A)) ∧ ow_I (Int.tmod l1 (r1 * A)) ∧ ow_I (l1 - (Int.tmod l1 (r1 * A))) ∧ ow_At C (EM A L N) (d + 1) mX0_arcsOf 69 [(0, (3, 6)), (3, (0, r1)), (5, (0, l1 - (Int.tmod l1 (r1 * A)))), (6, (0, 0)), (7, (0, 0))] [] (0, 0) N1 K))) ∧ (L ≤ l2 → K 0 M)) : ow_At C (EM A L N) (d + 1) mX0_arcsOf 0 [(0, (3, 6)), (1, (0, l1)), (2, (0, l2))] [] (0, 0) M K := by
  refine ow_iload_n (pc' := 1) (x := l2) dX0_arcsOf_0 rfl rfl ?_
  refine ow_aload_n (pc' := 2) (x := 6) dX0_arcsOf_1 rfl rfl ?_
  refine ow_getf3 (pc' := 5) (t := 3) (ji := 0) (val := 3) dX0_arcsOf_2 fRX0_22 rfl rfl rfl (of_eq_true eo6) eg6_0 ?_
  refine ow_getf3 (pc' := 8) (t := 0) (ji := 1) (val := L) dX0_arcsOf_5 fRX0_48 rfl rfl rfl (of_eq_true eo3) eg3_1 ?_
  refine ow_icmplt (pc' := 11) (tg := 13) dX0_arcsOf_8 rfl rfl (fun hc => ?_) (fun hc => ?_)
  · have h := h.1 hc
    refine ow_aload_n (pc' := 14) (x := 6) dX0_arcsOf_13 rfl rfl ?_
    refine ow_getf3 (pc' := 17) (t := 3) (ji := 0) (val := 3) dX0_arcsOf_14 fRX0_22 rfl rfl rfl (of_eq_true eo6) eg6_0 ?_
    refine ow_getf3 (pc' := 20) (t := 0) (ji := 0) (val := A) dX0_arcsOf_17 fRX0_45 rfl rfl rfl (of_eq_true eo3) eg3_0 ?_
    refine ow_aload_n (pc' := 21) (x := 6) dX0_arcsOf_20 rfl rfl ?_
    refine ow_getf3 (pc' := 24) (t := 3) (ji := 0) (val := 3) dX0_arcsOf_21 fRX0_22 rfl rfl rfl (of_eq_true eo6) eg6_0 ?_
    refine ow_getf3 (pc' := 27) (t := 0) (ji := 1) (val := L) dX0_arcsOf_24 fRX0_48 rfl rfl rfl (of_eq_true eo3) eg3_1 ?_
    refine ow_iload_n (pc' := 28) (x := l2) dX0_arcsOf_27 rfl rfl ?_
    obtain ⟨vv1, h⟩ := h
    refine ow_isub (pc' := 29) dX0_arcsOf_28 vv1 rfl ?_
    refine ow_iconst (pc' := 30) (n := 1) dX0_arcsOf_29 rfl rfl ?_
    obtain ⟨vv2, h⟩ := h
    refine ow_isub (pc' := 31) dX0_arcsOf_30 vv2 rfl ?_
    refine ow_callSp (z := mX10_raised) (n := 2) (vs := [(0, A), (0, (L - l2) - 1)]) (st := []) (pc' := 34) (b1 := (0, 0)) (b2 := (0, 0)) dX0_arcsOf_31 lRX0_51 kX10_raised zX10_raised rfl rfl rfl rfl rfl rfl (ow_Sp.mono h (fun r1 N1 h => ?_))
    refine ow_istore_n (pc' := 35) (lv' := [(0, (3, 6)), (1, (0, l1)), (2, (0, l2)), (3, (0, r1))]) dX0_arcsOf_34 rfl rfl rfl ?_
    refine ow_iload_n (pc' := 36) (x := r1) dX0_arcsOf_35 rfl rfl ?_
    refine ow_aload_n (pc' := 37) (x := 6) dX0_arcsOf_36 rfl rfl ?_
    refine ow_getf3 (pc' := 40) (t := 3) (ji := 0) (val := 3) dX0_arcsOf_37 fRX0_22 rfl rfl rfl (of_eq_true eo6) eg6_0 ?_
    refine ow_getf3 (pc' := 43) (t := 0) (ji := 0) (val := A) dX0_arcsOf_40 fRX0_45 rfl rfl rfl (of_eq_true eo3) eg3_0 ?_
    obtain ⟨vv3, h⟩ := h
    refine ow_imul (pc' := 44) dX0_arcsOf_43 vv3 rfl ?_
    refine ow_istore (pc' := 46) (lv' := [(0, (3, 6)), (1, (0, l1)), (2, (0, l2)), (3, (0, r1)), (4, (0, r1 * A))]) dX0_arcsOf_44 rfl rfl rfl ?_
    refine ow_iload (pc' := 48) (x := r1 * A) dX0_arcsOf_46 rfl rfl ?_
    refine ow_ifle (pc' := 51) (tg := 60) dX0_arcsOf_48 rfl rfl (fun hc => ?_) (fun hc => ?_)
    · have h := h.1 hc
      refine ow_iconst (pc' := 61) (n := 0) dX0_arcsOf_60 rfl rfl ?_
      refine ow_istore (pc' := 63) (lv' := [(0, (3, 6)), (1, (0, l1)), (2, (0, l2)), (3, (0, r1)), (4, (0, r1 * A)), (5, (0, 0))]) dX0_arcsOf_61 rfl rfl rfl ?_
      refine ow_iconst (pc' := 64) (n := 0) dX0_arcsOf_63 rfl rfl ?_
      refine ow_istore (pc' := 66) (lv' := [(0, (3, 6)), (1, (0, l1)), (2, (0, l2)), (3, (0, r1)), (4, (0, r1 * A)), (5, (0, 0)), (6, (0, 0))]) dX0_arcsOf_64 rfl rfl rfl ?_
      refine ow_iconst (pc' := 67) (n := 0) dX0_arcsOf_66 rfl rfl ?_
      refine ow_istore (pc' := 69) (lv' := [(0, (3, 6)), (1, (0, l1)), (2, (0, l2)), (3, (0, r1)), (4, (0, r1 * A)), (5, (0, 0)), (6, (0, 0)), (7, (0, 0))]) dX0_arcsOf_67 rfl rfl rfl ?_
      refine ow_sub (lv' := [(0, (3, 6)), (3, (0, r1)), (5, (0, 0)), (6, (0, 0)), (7, (0, 0))]) [0, 3, 5, 6, 7] rfl ?_
      exact h
    · have h := h.2 hc
      refine ow_iload_n (pc' := 52) (x := l1) dX0_arcsOf_51 rfl rfl ?_
      refine ow_iload_n (pc' := 53) (x := l1) dX0_arcsOf_52 rfl rfl ?_
      refine ow_iload (pc' := 55) (x := r1 * A) dX0_arcsOf_53 rfl rfl ?_
      obtain ⟨w0, w, w1, h⟩ := h
      refine ow_irem (pc' := 56) dX0_arcsOf_55 w0 w w1 rfl ?_
      obtain ⟨vv4, h⟩ := h
      refine ow_isub (pc' := 57) dX0_arcsOf_56 vv4 rfl ?_
      refine ow_goto (tg := 61) dX0_arcsOf_57 rfl ?_
      refine ow_istore (pc' := 63) (lv' := [(0, (3, 6)), (1, (0, l1)), (2, (0, l2)), (3, (0, r1)), (4, (0, r1 * A)), (5, (0, l1 - (Int.tmod l1 (r1 * A))))]) dX0_arcsOf_61 rfl rfl rfl ?_
      refine ow_iconst (pc' := 64) (n := 0) dX0_arcsOf_63 rfl rfl ?_
      refine ow_istore (pc' := 66) (lv' := [(0, (3, 6)), (1, (0, l1)), (2, (0, l2)), (3, (0, r1)), (4, (0, r1 * A)), (5, (0, l1 - (Int.tmod l1 (r1 * A)))), (6, (0, 0))]) dX0_arcsOf_64 rfl rfl rfl ?_
      refine ow_iconst (pc' := 67) (n := 0) dX0_arcsOf_66 rfl rfl ?_
      refine ow_istore (pc' := 69) (lv' := [(0, (3, 6)), (1, (0, l1)), (2, (0, l2)), (3, (0, r1)), (4, (0, r1 * A)), (5, (0, l1 - (Int.tmod l1 (r1 * A)))), (6, (0, 0)), (7, (0, 0))]) dX0_arcsOf_67 rfl rfl rfl ?_
      refine ow_sub (lv' := [(0, (3, 6)), (3, (0, r1)), (5, (0, l1 - (Int.tmod l1 (r1 * A)))), (6, (0, 0)), (7, (0, 0))]) [0, 3, 5, 6, 7] rfl ?_
      exact h
  · have h := h.2 hc
    refine ow_iconst (pc' := 12) (n := 0) dX0_arcsOf_11 rfl rfl ?_
    exact ow_iret dX0_arcsOf_12 rfl rfl h
set_option maxRecDepth 20000 in
theorem cX0_arcsOf_69 {C : ow_C} {A L N : Int} {d : Nat} {M : ow_M} {K : Int → ow_M → Prop} {l3 l5 l6 l7 : Int} (h : (A ≤ l7 → K l6 M) ∧ (l7 < A → ow_I (l7 * l3) ∧ ow_I (l5 + (l7 * l3)) ∧ ow_Sp C (EM A L N) d mX0_holdsAny (0, 0) [(3, 6), (0, l5 + (l7 * l3)), (0, l3)] M (fun r1 N1 => (r1 = 0 → ow_I (l7 + 1) ∧ ow_At C (EM A L N) (d + 1) mX0_arcsOf 69 [(0, (3, 6)), (3, (0, l3)), (5, (0, l5)), (6, (0, l6)), (7, (0, l7 + 1))] [] (0, 0) N1 K) ∧ (r1 ≠ 0 → ow_I (l6 + 1) ∧ ow_I (l7 + 1) ∧ ow_At C (EM A L N) (d + 1) mX0_arcsOf 69 [(0, (3, 6)), (3, (0, l3)), (5, (0, l5)), (6, (0, l6 + 1)), (7, (0, l7 + 1))] [] (0, 0) N1 K)))) : ow_At C (EM A L N) (d + 1) mX0_arcsOf 69 [(0, (3, 6)), (3, (0, l3)), (5, (0, l5)), (6, (0, l6)), (7, (0, l7))] [] (0, 0) M K := by
  refine ow_iload (pc' := 71) (x := l7) dX0_arcsOf_69 rfl rfl ?_
  refine ow_aload_n (pc' := 72) (x := 6) dX0_arcsOf_71 rfl rfl ?_
  refine ow_getf3 (pc' := 75) (t := 3) (ji := 0) (val := 3) dX0_arcsOf_72 fRX0_22 rfl rfl rfl (of_eq_true eo6) eg6_0 ?_
  refine ow_getf3 (pc' := 78) (t := 0) (ji := 0) (val := A) dX0_arcsOf_75 fRX0_45 rfl rfl rfl (of_eq_true eo3) eg3_0 ?_
  refine ow_icmpge (pc' := 81) (tg := 105) dX0_arcsOf_78 rfl rfl (fun hc => ?_) (fun hc => ?_)
  · have h := h.1 hc
    refine ow_iload (pc' := 107) (x := l6) dX0_arcsOf_105 rfl rfl ?_
    exact ow_iret dX0_arcsOf_107 rfl rfl h
  · have h := h.2 hc
    refine ow_aload_n (pc' := 82) (x := 6) dX0_arcsOf_81 rfl rfl ?_
    refine ow_iload (pc' := 84) (x := l5) dX0_arcsOf_82 rfl rfl ?_
    refine ow_iload (pc' := 86) (x := l7) dX0_arcsOf_84 rfl rfl ?_
    refine ow_iload_n (pc' := 87) (x := l3) dX0_arcsOf_86 rfl rfl ?_
    obtain ⟨vv1, h⟩ := h
    refine ow_imul (pc' := 88) dX0_arcsOf_87 vv1 rfl ?_
    obtain ⟨vv2, h⟩ := h
    refine ow_iadd (pc' := 89) dX0_arcsOf_88 vv2 rfl ?_
    refine ow_iload_n (pc' := 90) (x := l3) dX0_arcsOf_89 rfl rfl ?_
    refine ow_callVp (z := mX0_holdsAny) (n := 2) (k := 0) (vs := [(0, l5 + (l7 * l3)), (0, l3)]) (x := 6) (st := []) (pc' := 93) (b1 := (0, 0)) (b2 := (0, 0)) dX0_arcsOf_90 lRX0_66 kX0_holdsAny iX0_holdsAny rfl rfl rfl rfl rfl rfl (of_eq_true eo6) (ow_Sp.mono h (fun r1 N1 h => ?_))
    refine ow_ifeq (pc' := 96) (tg := 99) dX0_arcsOf_93 rfl rfl (fun hc => ?_) (fun hc => ?_)
    · have h := h.1 hc
      obtain ⟨vv3, h⟩ := h
      refine ow_iinc (pc' := 102) (lv' := [(0, (3, 6)), (3, (0, l3)), (5, (0, l5)), (6, (0, l6)), (7, (0, l7 + 1))]) dX0_arcsOf_99 rfl vv3 rfl rfl rfl ?_
      refine ow_goto (tg := 69) dX0_arcsOf_102 rfl ?_
      exact h
    · have h := h.2 hc
      obtain ⟨vv4, h⟩ := h
      refine ow_iinc (pc' := 99) (lv' := [(0, (3, 6)), (3, (0, l3)), (5, (0, l5)), (6, (0, l6 + 1)), (7, (0, l7))]) dX0_arcsOf_96 rfl vv4 rfl rfl rfl ?_
      obtain ⟨vv5, h⟩ := h
      refine ow_iinc (pc' := 102) (lv' := [(0, (3, 6)), (3, (0, l3)), (5, (0, l5)), (6, (0, l6 + 1)), (7, (0, l7 + 1))]) dX0_arcsOf_99 rfl vv5 rfl rfl rfl ?_
      refine ow_goto (tg := 69) dX0_arcsOf_102 rfl ?_
      exact h
theorem fX0_arcsOf {C : ow_C} {A L N : Int} {d : Nat} {M : ow_M} {K : Int → ow_M → Prop} {l1 l2 : Int} (h : (l2 < L → ow_I (L - l2) ∧ ow_I ((L - l2) - 1) ∧ ow_Sp C (EM A L N) d mX10_raised (0, 0) [(0, A), (0, (L - l2) - 1)] M (fun r1 N1 => ow_I (r1 * A) ∧ ((r1 * A) ≤ 0 → ow_At C (EM A L N) (d + 1) mX0_arcsOf 69 [(0, (3, 6)), (3, (0, r1)), (5, (0, 0)), (6, (0, 0)), (7, (0, 0))] [] (0, 0) N1 K) ∧ (0 < (r1 * A) → (r1 * A) ≠ 0 ∧ ow_I (Int.tdiv l1 (r1 * A)) ∧ ow_I (Int.tmod l1 (r1 * A)) ∧ ow_I (l1 - (Int.tmod l1 (r1 * A))) ∧ ow_At C (EM A L N) (d + 1) mX0_arcsOf 69 [(0, (3, 6)), (3, (0, r1)), (5, (0, l1 - (Int.tmod l1 (r1 * A)))), (6, (0, 0)), (7, (0, 0))] [] (0, 0) N1 K))) ∧ (L ≤ l2 → K 0 M)) : ow_Sp C (EM A L N) (d + 1) mX0_arcsOf (0, 0) [(3, 6), (0, l1), (0, l2)] M K := ow_enter (by decide +kernel) rfl rfl (cX0_arcsOf_0 h)
set_option maxRecDepth 20000 in
theorem cX0_holdsAny_0 {C : ow_C} {A L N : Int} {d : Nat} {M : ow_M} {K : Int → ow_M → Prop} {l1 l2 : Int} (h : ow_At C (EM A L N) d mX0_holdsAny 2 [(0, (3, 6)), (1, (0, l1)), (2, (0, l2)), (3, (0, l1))] [] (0, 0) M K) : ow_At C (EM A L N) d mX0_holdsAny 0 [(0, (3, 6)), (1, (0, l1)), (2, (0, l2))] [] (0, 0) M K := by
  refine ow_iload_n (pc' := 1) (x := l1) dX0_holdsAny_0 rfl rfl ?_
  refine ow_istore_n (pc' := 2) (lv' := [(0, (3, 6)), (1, (0, l1)), (2, (0, l2)), (3, (0, l1))]) dX0_holdsAny_1 rfl rfl rfl ?_
  exact h
set_option maxRecDepth 20000 in
theorem cX0_holdsAny_2 {C : ow_C} {A L N : Int} {d : Nat} {M : ow_M} {K : Int → ow_M → Prop} {l1 l2 l3 : Int} (h : ow_I (l1 + l2) ∧ ((l1 + l2) ≤ l3 → K 0 M) ∧ (l3 < (l1 + l2) → (0 ≤ N ∧ N ≤ 2147483647) ∧ (N ≤ l3 → K 0 M) ∧ (l3 < N → (0 ≤ l3 ∧ l3 < N) ∧ ((M 9 l3) = 0 → ow_I (l3 + 1) ∧ ow_At C (EM A L N) d mX0_holdsAny 2 [(0, (3, 6)), (1, (0, l1)), (2, (0, l2)), (3, (0, l3 + 1))] [] (0, 0) M K) ∧ ((M 9 l3) ≠ 0 → K 1 M)))) : ow_At C (EM A L N) d mX0_holdsAny 2 [(0, (3, 6)), (1, (0, l1)), (2, (0, l2)), (3, (0, l3))] [] (0, 0) M K := by
  refine ow_iload_n (pc' := 3) (x := l3) dX0_holdsAny_2 rfl rfl ?_
  refine ow_iload_n (pc' := 4) (x := l1) dX0_holdsAny_3 rfl rfl ?_
  refine ow_iload_n (pc' := 5) (x := l2) dX0_holdsAny_4 rfl rfl ?_
  obtain ⟨vv1, h⟩ := h
  refine ow_iadd (pc' := 6) dX0_holdsAny_5 vv1 rfl ?_
  refine ow_icmpge (pc' := 9) (tg := 35) dX0_holdsAny_6 rfl rfl (fun hc => ?_) (fun hc => ?_)
  · have h := h.1 hc
    refine ow_iconst (pc' := 36) (n := 0) dX0_holdsAny_35 rfl rfl ?_
    exact ow_zret dX0_holdsAny_36 rfl rfl (Or.inl rfl) h
  · have h := h.2 hc
    refine ow_iload_n (pc' := 10) (x := l3) dX0_holdsAny_9 rfl rfl ?_
    refine ow_aload_n (pc' := 11) (x := 6) dX0_holdsAny_10 rfl rfl ?_
    refine ow_getf3 (pc' := 14) (t := 3) (ji := 3) (val := 9) dX0_holdsAny_11 fRX0_31 rfl rfl rfl (of_eq_true eo6) eg6_3 ?_
    obtain ⟨vv2, h⟩ := h
    refine ow_alen3 (pc' := 15) (t := 102) (val := N) dX0_holdsAny_14 rfl rfl (by decide) (show (9 : Int) < 102 by decide) rfl el9 vv2.1 vv2.2 ?_
    refine ow_icmpge (pc' := 18) (tg := 35) dX0_holdsAny_15 rfl rfl (fun hc => ?_) (fun hc => ?_)
    · have h := h.1 hc
      refine ow_iconst (pc' := 36) (n := 0) dX0_holdsAny_35 rfl rfl ?_
      exact ow_zret dX0_holdsAny_36 rfl rfl (Or.inl rfl) h
    · have h := h.2 hc
      refine ow_aload_n (pc' := 19) (x := 6) dX0_holdsAny_18 rfl rfl ?_
      refine ow_getf3 (pc' := 22) (t := 3) (ji := 3) (val := 9) dX0_holdsAny_19 fRX0_31 rfl rfl rfl (of_eq_true eo6) eg6_3 ?_
      refine ow_iload_n (pc' := 23) (x := l3) dX0_holdsAny_22 rfl rfl ?_
      obtain ⟨vv3, h⟩ := h
      refine ow_baload3 (pc' := 24) (val := M 9 l3) dX0_holdsAny_23 rfl (Eq.mpr (er9 _) vv3) (ea9 _) ?_
      refine ow_ifeq (pc' := 27) (tg := 29) dX0_holdsAny_24 rfl rfl (fun hc => ?_) (fun hc => ?_)
      · have h := h.1 hc
        obtain ⟨vv4, h⟩ := h
        refine ow_iinc (pc' := 32) (lv' := [(0, (3, 6)), (1, (0, l1)), (2, (0, l2)), (3, (0, l3 + 1))]) dX0_holdsAny_29 rfl vv4 rfl rfl rfl ?_
        refine ow_goto (tg := 2) dX0_holdsAny_32 rfl ?_
        exact h
      · have h := h.2 hc
        refine ow_iconst (pc' := 28) (n := 1) dX0_holdsAny_27 rfl rfl ?_
        exact ow_zret dX0_holdsAny_28 rfl rfl (Or.inr rfl) h
theorem fX0_holdsAny {C : ow_C} {A L N : Int} {d : Nat} {M : ow_M} {K : Int → ow_M → Prop} {l1 l2 : Int} (h : ow_At C (EM A L N) d mX0_holdsAny 2 [(0, (3, 6)), (1, (0, l1)), (2, (0, l2)), (3, (0, l1))] [] (0, 0) M K) : ow_Sp C (EM A L N) d mX0_holdsAny (0, 0) [(3, 6), (0, l1), (0, l2)] M K := ow_enter (by decide +kernel) rfl rfl (cX0_holdsAny_0 h)
set_option maxRecDepth 20000 in
theorem cX4_begin_0 {C : ow_C} {A L N : Int} {d : Nat} {M : ow_M} {K : Int → ow_M → Prop} {l1 : Int} (h : ∀ N1, N1 = ow_up M 14 0 l1 → ∀ N2, N2 = ow_up N1 14 1 0 → K 0 N2) : ow_At C (EM A L N) d mX4_begin 0 [(0, (3, 14)), (1, (0, l1))] [] (0, 0) M K := by
  refine ow_aload_n (pc' := 1) (x := 14) dX4_begin_0 rfl rfl ?_
  refine ow_iload_n (pc' := 2) (x := l1) dX4_begin_1 rfl rfl ?_
  refine ow_putf2 (pc' := 5) (t := 0) (ji := 0) dX4_begin_2 fRX4_9 rfl rfl rfl rfl (of_eq_true eo14) (of_eq_true en14_0) (fun hz => absurd hz (by decide)) (fun N1 eN1 => ?_)
  have h := h N1 eN1
  refine ow_aload_n (pc' := 6) (x := 14) dX4_begin_5 rfl rfl ?_
  refine ow_iconst (pc' := 7) (n := 0) dX4_begin_6 rfl rfl ?_
  refine ow_putf2 (pc' := 10) (t := 0) (ji := 1) dX4_begin_7 fRX4_15 rfl rfl rfl rfl (of_eq_true eo14) (of_eq_true en14_1) (fun hz => absurd hz (by decide)) (fun N2 eN2 => ?_)
  have h := h N2 eN2
  exact ow_vret dX4_begin_10 rfl rfl h
theorem fX4_begin {C : ow_C} {A L N : Int} {d : Nat} {M : ow_M} {K : Int → ow_M → Prop} {l1 : Int} (h : ∀ N1, N1 = ow_up M 14 0 l1 → ∀ N2, N2 = ow_up N1 14 1 0 → K 0 N2) : ow_Sp C (EM A L N) d mX4_begin (0, 0) [(3, 14), (0, l1)] M K := ow_enter (by decide +kernel) rfl rfl (cX4_begin_0 h)
set_option maxRecDepth 20000 in
theorem cX4_add_0 {C : ow_C} {A L N : Int} {d : Nat} {M : ow_M} {K : Int → ow_M → Prop} {l1 l2 l3 : Int} (h : ((M 14 1) < 40 → (0 ≤ (M 14 1) ∧ (M 14 1) < 40) ∧ ∀ N1, N1 = ow_up M 15 (M 14 1) l1 → (0 ≤ (N1 14 1) ∧ (N1 14 1) < 40) ∧ ∀ N2, N2 = ow_up N1 16 (N1 14 1) l2 → (0 ≤ (N2 14 1) ∧ (N2 14 1) < 40) ∧ ∀ N3, N3 = ow_up N2 17 (N2 14 1) l3 → ow_I ((N3 14 1) + 1) ∧ ∀ N4, N4 = ow_up N3 14 1 ((N3 14 1) + 1) → K 1 N4) ∧ (40 ≤ (M 14 1) → K 0 M)) : ow_At C (EM A L N) d mX4_add 0 [(0, (3, 14)), (1, (0, l1)), (2, (0, l2)), (3, (0, l3))] [] (0, 0) M K := by
  refine ow_aload_n (pc' := 1) (x := 14) dX4_add_0 rfl rfl ?_
  refine ow_getf3 (pc' := 4) (t := 0) (ji := 1) (val := M 14 1) dX4_add_1 fRX4_15 rfl rfl rfl (of_eq_true eo14) eg14_1 ?_
  refine ow_bipush (pc' := 6) (n := 40) dX4_add_4 rfl rfl ?_
  refine ow_icmplt (pc' := 9) (tg := 11) dX4_add_6 rfl rfl (fun hc => ?_) (fun hc => ?_)
  · have h := h.1 hc
    refine ow_aload_n (pc' := 12) (x := 14) dX4_add_11 rfl rfl ?_
    refine ow_getf3 (pc' := 15) (t := 3) (ji := 2) (val := 15) dX4_add_12 fRX4_18 rfl rfl rfl (of_eq_true eo14) eg14_2 ?_
    refine ow_aload_n (pc' := 16) (x := 14) dX4_add_15 rfl rfl ?_
    refine ow_getf3 (pc' := 19) (t := 0) (ji := 1) (val := M 14 1) dX4_add_16 fRX4_15 rfl rfl rfl (of_eq_true eo14) eg14_1 ?_
    refine ow_iload_n (pc' := 20) (x := l1) dX4_add_19 rfl rfl ?_
    obtain ⟨vv1, h⟩ := h
    refine ow_iastore2 (pc' := 21) dX4_add_20 rfl (Eq.mpr (er15 _) vv1) (of_eq_true (en15 _)) (fun N1 eN1 => ?_)
    have h := h N1 eN1
    refine ow_aload_n (pc' := 22) (x := 14) dX4_add_21 rfl rfl ?_
    refine ow_getf3 (pc' := 25) (t := 3) (ji := 3) (val := 16) dX4_add_22 fRX4_22 rfl rfl rfl (of_eq_true eo14) eg14_3 ?_
    refine ow_aload_n (pc' := 26) (x := 14) dX4_add_25 rfl rfl ?_
    refine ow_getf3 (pc' := 29) (t := 0) (ji := 1) (val := N1 14 1) dX4_add_26 fRX4_15 rfl rfl rfl (of_eq_true eo14) eg14_1 ?_
    refine ow_iload_n (pc' := 30) (x := l2) dX4_add_29 rfl rfl ?_
    obtain ⟨vv2, h⟩ := h
    refine ow_iastore2 (pc' := 31) dX4_add_30 rfl (Eq.mpr (er16 _) vv2) (of_eq_true (en16 _)) (fun N2 eN2 => ?_)
    have h := h N2 eN2
    refine ow_aload_n (pc' := 32) (x := 14) dX4_add_31 rfl rfl ?_
    refine ow_getf3 (pc' := 35) (t := 3) (ji := 4) (val := 17) dX4_add_32 fRX4_25 rfl rfl rfl (of_eq_true eo14) eg14_4 ?_
    refine ow_aload_n (pc' := 36) (x := 14) dX4_add_35 rfl rfl ?_
    refine ow_getf3 (pc' := 39) (t := 0) (ji := 1) (val := N2 14 1) dX4_add_36 fRX4_15 rfl rfl rfl (of_eq_true eo14) eg14_1 ?_
    refine ow_iload_n (pc' := 40) (x := l3) dX4_add_39 rfl rfl ?_
    obtain ⟨vv3, h⟩ := h
    refine ow_iastore2 (pc' := 41) dX4_add_40 rfl (Eq.mpr (er17 _) vv3) (of_eq_true (en17 _)) (fun N3 eN3 => ?_)
    have h := h N3 eN3
    refine ow_aload_n (pc' := 42) (x := 14) dX4_add_41 rfl rfl ?_
    refine ow_dup (pc' := 43) dX4_add_42 rfl rfl ?_
    refine ow_getf3 (pc' := 46) (t := 0) (ji := 1) (val := N3 14 1) dX4_add_43 fRX4_15 rfl rfl rfl (of_eq_true eo14) eg14_1 ?_
    refine ow_iconst (pc' := 47) (n := 1) dX4_add_46 rfl rfl ?_
    obtain ⟨vv4, h⟩ := h
    refine ow_iadd (pc' := 48) dX4_add_47 vv4 rfl ?_
    refine ow_putf2 (pc' := 51) (t := 0) (ji := 1) dX4_add_48 fRX4_15 rfl rfl rfl rfl (of_eq_true eo14) (of_eq_true en14_1) (fun hz => absurd hz (by decide)) (fun N4 eN4 => ?_)
    have h := h N4 eN4
    refine ow_iconst (pc' := 52) (n := 1) dX4_add_51 rfl rfl ?_
    exact ow_zret dX4_add_52 rfl rfl (Or.inr rfl) h
  · have h := h.2 hc
    refine ow_iconst (pc' := 10) (n := 0) dX4_add_9 rfl rfl ?_
    exact ow_zret dX4_add_10 rfl rfl (Or.inl rfl) h
theorem fX4_add {C : ow_C} {A L N : Int} {d : Nat} {M : ow_M} {K : Int → ow_M → Prop} {l1 l2 l3 : Int} (h : ((M 14 1) < 40 → (0 ≤ (M 14 1) ∧ (M 14 1) < 40) ∧ ∀ N1, N1 = ow_up M 15 (M 14 1) l1 → (0 ≤ (N1 14 1) ∧ (N1 14 1) < 40) ∧ ∀ N2, N2 = ow_up N1 16 (N1 14 1) l2 → (0 ≤ (N2 14 1) ∧ (N2 14 1) < 40) ∧ ∀ N3, N3 = ow_up N2 17 (N2 14 1) l3 → ow_I ((N3 14 1) + 1) ∧ ∀ N4, N4 = ow_up N3 14 1 ((N3 14 1) + 1) → K 1 N4) ∧ (40 ≤ (M 14 1) → K 0 M)) : ow_Sp C (EM A L N) d mX4_add (0, 0) [(3, 14), (0, l1), (0, l2), (0, l3)] M K := ow_enter (by decide +kernel) rfl rfl (cX4_add_0 h)
set_option maxRecDepth 20000 in
theorem cX4_known_0 {C : ow_C} {A L N : Int} {d : Nat} {M : ow_M} {K : Int → ow_M → Prop} {l1 l2 : Int} (h : ow_I ((M 14 1) - 1) ∧ ow_At C (EM A L N) d mX4_known 7 [(0, (3, 14)), (1, (0, l1)), (2, (0, l2)), (3, (0, (M 14 1) - 1))] [] (0, 0) M K) : ow_At C (EM A L N) d mX4_known 0 [(0, (3, 14)), (1, (0, l1)), (2, (0, l2))] [] (0, 0) M K := by
  refine ow_aload_n (pc' := 1) (x := 14) dX4_known_0 rfl rfl ?_
  refine ow_getf3 (pc' := 4) (t := 0) (ji := 1) (val := M 14 1) dX4_known_1 fRX4_15 rfl rfl rfl (of_eq_true eo14) eg14_1 ?_
  refine ow_iconst (pc' := 5) (n := 1) dX4_known_4 rfl rfl ?_
  obtain ⟨vv1, h⟩ := h
  refine ow_isub (pc' := 6) dX4_known_5 vv1 rfl ?_
  refine ow_istore_n (pc' := 7) (lv' := [(0, (3, 14)), (1, (0, l1)), (2, (0, l2)), (3, (0, (M 14 1) - 1))]) dX4_known_6 rfl rfl rfl ?_
  exact h
set_option maxRecDepth 20000 in
theorem cX4_known_7 {C : ow_C} {A L N : Int} {d : Nat} {M : ow_M} {K : Int → ow_M → Prop} {l1 l2 l3 : Int} (h : (l3 < 0 → K ((-1)) M) ∧ (0 ≤ l3 → (0 ≤ l3 ∧ l3 < 40) ∧ ((M 15 l3) ≠ l1 → ow_I (l3 + (-1)) ∧ ow_At C (EM A L N) d mX4_known 7 [(0, (3, 14)), (1, (0, l1)), (2, (0, l2)), (3, (0, l3 + (-1)))] [] (0, 0) M K) ∧ ((M 15 l3) = l1 → (l2 < (M 17 l3) → ow_I (l3 + (-1)) ∧ ow_At C (EM A L N) d mX4_known 7 [(0, (3, 14)), (1, (0, l1)), (2, (0, l2)), (3, (0, l3 + (-1)))] [] (0, 0) M K) ∧ ((M 17 l3) ≤ l2 → K (M 16 l3) M)))) : ow_At C (EM A L N) d mX4_known 7 [(0, (3, 14)), (1, (0, l1)), (2, (0, l2)), (3, (0, l3))] [] (0, 0) M K := by
  refine ow_iload_n (pc' := 8) (x := l3) dX4_known_7 rfl rfl ?_
  refine ow_iflt (pc' := 11) (tg := 44) dX4_known_8 rfl rfl (fun hc => ?_) (fun hc => ?_)
  · have h := h.1 hc
    refine ow_iconst (pc' := 45) (n := (-1)) dX4_known_44 rfl rfl ?_
    exact ow_iret dX4_known_45 rfl rfl h
  · have h := h.2 hc
    refine ow_aload_n (pc' := 12) (x := 14) dX4_known_11 rfl rfl ?_
    refine ow_getf3 (pc' := 15) (t := 3) (ji := 2) (val := 15) dX4_known_12 fRX4_18 rfl rfl rfl (of_eq_true eo14) eg14_2 ?_
    refine ow_iload_n (pc' := 16) (x := l3) dX4_known_15 rfl rfl ?_
    obtain ⟨vv1, h⟩ := h
    refine ow_iaload3 (pc' := 17) (val := M 15 l3) dX4_known_16 rfl (Eq.mpr (er15 _) vv1) (ea15 _) ?_
    refine ow_iload_n (pc' := 18) (x := l1) dX4_known_17 rfl rfl ?_
    refine ow_icmpne (pc' := 21) (tg := 38) dX4_known_18 rfl rfl (fun hc => ?_) (fun hc => ?_)
    · have h := h.1 hc
      obtain ⟨vv2, h⟩ := h
      refine ow_iinc (pc' := 41) (lv' := [(0, (3, 14)), (1, (0, l1)), (2, (0, l2)), (3, (0, l3 + (-1)))]) dX4_known_38 rfl vv2 rfl rfl rfl ?_
      refine ow_goto (tg := 7) dX4_known_41 rfl ?_
      exact h
    · have h := h.2 hc
      refine ow_aload_n (pc' := 22) (x := 14) dX4_known_21 rfl rfl ?_
      refine ow_getf3 (pc' := 25) (t := 3) (ji := 4) (val := 17) dX4_known_22 fRX4_25 rfl rfl rfl (of_eq_true eo14) eg14_4 ?_
      refine ow_iload_n (pc' := 26) (x := l3) dX4_known_25 rfl rfl ?_
      refine ow_iaload3 (pc' := 27) (val := M 17 l3) dX4_known_26 rfl (Eq.mpr (er17 _) vv1) (ea17 _) ?_
      refine ow_iload_n (pc' := 28) (x := l2) dX4_known_27 rfl rfl ?_
      refine ow_icmpgt (pc' := 31) (tg := 38) dX4_known_28 rfl rfl (fun hc => ?_) (fun hc => ?_)
      · have h := h.1 hc
        obtain ⟨vv3, h⟩ := h
        refine ow_iinc (pc' := 41) (lv' := [(0, (3, 14)), (1, (0, l1)), (2, (0, l2)), (3, (0, l3 + (-1)))]) dX4_known_38 rfl vv3 rfl rfl rfl ?_
        refine ow_goto (tg := 7) dX4_known_41 rfl ?_
        exact h
      · have h := h.2 hc
        refine ow_aload_n (pc' := 32) (x := 14) dX4_known_31 rfl rfl ?_
        refine ow_getf3 (pc' := 35) (t := 3) (ji := 3) (val := 16) dX4_known_32 fRX4_22 rfl rfl rfl (of_eq_true eo14) eg14_3 ?_
        refine ow_iload_n (pc' := 36) (x := l3) dX4_known_35 rfl rfl ?_
        refine ow_iaload3 (pc' := 37) (val := M 16 l3) dX4_known_36 rfl (Eq.mpr (er16 _) vv1) (ea16 _) ?_
        exact ow_iret dX4_known_37 rfl rfl h
theorem fX4_known {C : ow_C} {A L N : Int} {d : Nat} {M : ow_M} {K : Int → ow_M → Prop} {l1 l2 : Int} (h : ow_I ((M 14 1) - 1) ∧ ow_At C (EM A L N) d mX4_known 7 [(0, (3, 14)), (1, (0, l1)), (2, (0, l2)), (3, (0, (M 14 1) - 1))] [] (0, 0) M K) : ow_Sp C (EM A L N) d mX4_known (0, 0) [(3, 14), (0, l1), (0, l2)] M K := ow_enter (by decide +kernel) rfl rfl (cX4_known_0 h)
set_option maxRecDepth 20000 in
theorem cX4_become_0 {C : ow_C} {A L N : Int} {d : Nat} {M : ow_M} {K : Int → ow_M → Prop} (h : ∀ N1, N1 = ow_up M 14 0 (M 18 0) → ∀ N2, N2 = ow_up N1 14 1 (N1 18 1) → ((0 : Int) ≤ 0 ∧ (0 : Int) ≤ 40 ∧ (0 : Int) + 40 ≤ 40) ∧ ((0 : Int) ≤ 0 ∧ (0 : Int) + 40 ≤ 40) ∧ ∀ N3, N3 = ow_cp (EM A L N) N2 19 0 15 0 40 → ((0 : Int) ≤ 0 ∧ (0 : Int) ≤ 40 ∧ (0 : Int) + 40 ≤ 40) ∧ ((0 : Int) ≤ 0 ∧ (0 : Int) + 40 ≤ 40) ∧ ∀ N4, N4 = ow_cp (EM A L N) N3 20 0 16 0 40 → ((0 : Int) ≤ 0 ∧ (0 : Int) ≤ 40 ∧ (0 : Int) + 40 ≤ 40) ∧ ((0 : Int) ≤ 0 ∧ (0 : Int) + 40 ≤ 40) ∧ ∀ N5, N5 = ow_cp (EM A L N) N4 21 0 17 0 40 → K 0 N5) : ow_At C (EM A L N) (d + 1) mX4_become 0 [(0, (3, 14)), (1, (3, 18))] [] (0, 0) M K := by
  refine ow_aload_n (pc' := 1) (x := 14) dX4_become_0 rfl rfl ?_
  refine ow_aload_n (pc' := 2) (x := 18) dX4_become_1 rfl rfl ?_
  refine ow_getf3 (pc' := 5) (t := 0) (ji := 0) (val := M 18 0) dX4_become_2 fRX4_9 rfl rfl rfl (of_eq_true eo18) eg18_0 ?_
  refine ow_putf2 (pc' := 8) (t := 0) (ji := 0) dX4_become_5 fRX4_9 rfl rfl rfl rfl (of_eq_true eo14) (of_eq_true en14_0) (fun hz => absurd hz (by decide)) (fun N1 eN1 => ?_)
  have h := h N1 eN1
  refine ow_aload_n (pc' := 9) (x := 14) dX4_become_8 rfl rfl ?_
  refine ow_aload_n (pc' := 10) (x := 18) dX4_become_9 rfl rfl ?_
  refine ow_getf3 (pc' := 13) (t := 0) (ji := 1) (val := N1 18 1) dX4_become_10 fRX4_15 rfl rfl rfl (of_eq_true eo18) eg18_1 ?_
  refine ow_putf2 (pc' := 16) (t := 0) (ji := 1) dX4_become_13 fRX4_15 rfl rfl rfl rfl (of_eq_true eo14) (of_eq_true en14_1) (fun hz => absurd hz (by decide)) (fun N2 eN2 => ?_)
  have h := h N2 eN2
  refine ow_aload_n (pc' := 17) (x := 18) dX4_become_16 rfl rfl ?_
  refine ow_getf3 (pc' := 20) (t := 3) (ji := 2) (val := 19) dX4_become_17 fRX4_18 rfl rfl rfl (of_eq_true eo18) eg18_2 ?_
  refine ow_iconst (pc' := 21) (n := 0) dX4_become_20 rfl rfl ?_
  refine ow_aload_n (pc' := 22) (x := 14) dX4_become_21 rfl rfl ?_
  refine ow_getf3 (pc' := 25) (t := 3) (ji := 2) (val := 15) dX4_become_22 fRX4_18 rfl rfl rfl (of_eq_true eo14) eg14_2 ?_
  refine ow_iconst (pc' := 26) (n := 0) dX4_become_25 rfl rfl ?_
  refine ow_bipush (pc' := 28) (n := 40) dX4_become_26 rfl rfl ?_
  obtain ⟨⟨w, w1, w2⟩, ⟨w3, w4⟩, h⟩ := h
  have u0 : 0 ≤ (19 : Int) ∧ (19 : Int) < ow_nb (EM A L N) N2 ∧ ((EM A L N).2.1 19).1 = 100 ∧ (0 : Int) ≤ 0 ∧ (0 : Int) ≤ 40 ∧ (0 : Int) + 40 ≤ ((EM A L N).2.1 19).2 := ⟨by decide, (show (19 : Int) < 102 by decide), rfl, w, w1, w2⟩
  have u1 : 0 ≤ (15 : Int) ∧ (15 : Int) < ow_nb (EM A L N) N2 ∧ ((EM A L N).2.1 15).1 = 100 ∧ (0 : Int) ≤ 0 ∧ (0 : Int) + 40 ≤ ((EM A L N).2.1 15).2 := ⟨by decide, (show (15 : Int) < 102 by decide), rfl, w3, w4⟩
  refine ow_copy2 (pc' := 31) dX4_become_28 lRX4_28 ow_ac1 ow_ac2 ow_ac3 rfl rfl em_22 u0 u1 (fun i => of_eq_true (en15 i)) (fun N3 eN3 => ?_)
  have h := h N3 eN3
  refine ow_aload_n (pc' := 32) (x := 18) dX4_become_31 rfl rfl ?_
  refine ow_getf3 (pc' := 35) (t := 3) (ji := 3) (val := 20) dX4_become_32 fRX4_22 rfl rfl rfl (of_eq_true eo18) eg18_3 ?_
  refine ow_iconst (pc' := 36) (n := 0) dX4_become_35 rfl rfl ?_
  refine ow_aload_n (pc' := 37) (x := 14) dX4_become_36 rfl rfl ?_
  refine ow_getf3 (pc' := 40) (t := 3) (ji := 3) (val := 16) dX4_become_37 fRX4_22 rfl rfl rfl (of_eq_true eo14) eg14_3 ?_
  refine ow_iconst (pc' := 41) (n := 0) dX4_become_40 rfl rfl ?_
  refine ow_bipush (pc' := 43) (n := 40) dX4_become_41 rfl rfl ?_
  obtain ⟨⟨w, w1, w2⟩, ⟨w3, w4⟩, h⟩ := h
  have u0 : 0 ≤ (20 : Int) ∧ (20 : Int) < ow_nb (EM A L N) N3 ∧ ((EM A L N).2.1 20).1 = 100 ∧ (0 : Int) ≤ 0 ∧ (0 : Int) ≤ 40 ∧ (0 : Int) + 40 ≤ ((EM A L N).2.1 20).2 := ⟨by decide, (show (20 : Int) < 102 by decide), rfl, w, w1, w2⟩
  have u1 : 0 ≤ (16 : Int) ∧ (16 : Int) < ow_nb (EM A L N) N3 ∧ ((EM A L N).2.1 16).1 = 100 ∧ (0 : Int) ≤ 0 ∧ (0 : Int) + 40 ≤ ((EM A L N).2.1 16).2 := ⟨by decide, (show (16 : Int) < 102 by decide), rfl, w3, w4⟩
  refine ow_copy2 (pc' := 46) dX4_become_43 lRX4_28 ow_ac1 ow_ac2 ow_ac3 rfl rfl em_22 u0 u1 (fun i => of_eq_true (en16 i)) (fun N4 eN4 => ?_)
  have h := h N4 eN4
  refine ow_aload_n (pc' := 47) (x := 18) dX4_become_46 rfl rfl ?_
  refine ow_getf3 (pc' := 50) (t := 3) (ji := 4) (val := 21) dX4_become_47 fRX4_25 rfl rfl rfl (of_eq_true eo18) eg18_4 ?_
  refine ow_iconst (pc' := 51) (n := 0) dX4_become_50 rfl rfl ?_
  refine ow_aload_n (pc' := 52) (x := 14) dX4_become_51 rfl rfl ?_
  refine ow_getf3 (pc' := 55) (t := 3) (ji := 4) (val := 17) dX4_become_52 fRX4_25 rfl rfl rfl (of_eq_true eo14) eg14_4 ?_
  refine ow_iconst (pc' := 56) (n := 0) dX4_become_55 rfl rfl ?_
  refine ow_bipush (pc' := 58) (n := 40) dX4_become_56 rfl rfl ?_
  obtain ⟨⟨w, w1, w2⟩, ⟨w3, w4⟩, h⟩ := h
  have u0 : 0 ≤ (21 : Int) ∧ (21 : Int) < ow_nb (EM A L N) N4 ∧ ((EM A L N).2.1 21).1 = 100 ∧ (0 : Int) ≤ 0 ∧ (0 : Int) ≤ 40 ∧ (0 : Int) + 40 ≤ ((EM A L N).2.1 21).2 := ⟨by decide, (show (21 : Int) < 102 by decide), rfl, w, w1, w2⟩
  have u1 : 0 ≤ (17 : Int) ∧ (17 : Int) < ow_nb (EM A L N) N4 ∧ ((EM A L N).2.1 17).1 = 100 ∧ (0 : Int) ≤ 0 ∧ (0 : Int) + 40 ≤ ((EM A L N).2.1 17).2 := ⟨by decide, (show (17 : Int) < 102 by decide), rfl, w3, w4⟩
  refine ow_copy2 (pc' := 61) dX4_become_58 lRX4_28 ow_ac1 ow_ac2 ow_ac3 rfl rfl em_22 u0 u1 (fun i => of_eq_true (en17 i)) (fun N5 eN5 => ?_)
  have h := h N5 eN5
  exact ow_vret dX4_become_61 rfl rfl h
theorem fX4_become {C : ow_C} {A L N : Int} {d : Nat} {M : ow_M} {K : Int → ow_M → Prop} (h : ∀ N1, N1 = ow_up M 14 0 (M 18 0) → ∀ N2, N2 = ow_up N1 14 1 (N1 18 1) → ((0 : Int) ≤ 0 ∧ (0 : Int) ≤ 40 ∧ (0 : Int) + 40 ≤ 40) ∧ ((0 : Int) ≤ 0 ∧ (0 : Int) + 40 ≤ 40) ∧ ∀ N3, N3 = ow_cp (EM A L N) N2 19 0 15 0 40 → ((0 : Int) ≤ 0 ∧ (0 : Int) ≤ 40 ∧ (0 : Int) + 40 ≤ 40) ∧ ((0 : Int) ≤ 0 ∧ (0 : Int) + 40 ≤ 40) ∧ ∀ N4, N4 = ow_cp (EM A L N) N3 20 0 16 0 40 → ((0 : Int) ≤ 0 ∧ (0 : Int) ≤ 40 ∧ (0 : Int) + 40 ≤ 40) ∧ ((0 : Int) ≤ 0 ∧ (0 : Int) + 40 ≤ 40) ∧ ∀ N5, N5 = ow_cp (EM A L N) N4 21 0 17 0 40 → K 0 N5) : ow_Sp C (EM A L N) (d + 1) mX4_become (0, 0) [(3, 14), (3, 18)] M K := ow_enter (by decide +kernel) rfl rfl (cX4_become_0 h)
set_option maxRecDepth 20000 in
theorem cX4_become_b_0 {C : ow_C} {A L N : Int} {d : Nat} {M : ow_M} {K : Int → ow_M → Prop} (h : ∀ N1, N1 = ow_up M 18 0 (M 14 0) → ∀ N2, N2 = ow_up N1 18 1 (N1 14 1) → ((0 : Int) ≤ 0 ∧ (0 : Int) ≤ 40 ∧ (0 : Int) + 40 ≤ 40) ∧ ((0 : Int) ≤ 0 ∧ (0 : Int) + 40 ≤ 40) ∧ ∀ N3, N3 = ow_cp (EM A L N) N2 15 0 19 0 40 → ((0 : Int) ≤ 0 ∧ (0 : Int) ≤ 40 ∧ (0 : Int) + 40 ≤ 40) ∧ ((0 : Int) ≤ 0 ∧ (0 : Int) + 40 ≤ 40) ∧ ∀ N4, N4 = ow_cp (EM A L N) N3 16 0 20 0 40 → ((0 : Int) ≤ 0 ∧ (0 : Int) ≤ 40 ∧ (0 : Int) + 40 ≤ 40) ∧ ((0 : Int) ≤ 0 ∧ (0 : Int) + 40 ≤ 40) ∧ ∀ N5, N5 = ow_cp (EM A L N) N4 17 0 21 0 40 → K 0 N5) : ow_At C (EM A L N) (d + 1) mX4_become 0 [(0, (3, 18)), (1, (3, 14))] [] (0, 0) M K := by
  refine ow_aload_n (pc' := 1) (x := 18) dX4_become_0 rfl rfl ?_
  refine ow_aload_n (pc' := 2) (x := 14) dX4_become_1 rfl rfl ?_
  refine ow_getf3 (pc' := 5) (t := 0) (ji := 0) (val := M 14 0) dX4_become_2 fRX4_9 rfl rfl rfl (of_eq_true eo14) eg14_0 ?_
  refine ow_putf2 (pc' := 8) (t := 0) (ji := 0) dX4_become_5 fRX4_9 rfl rfl rfl rfl (of_eq_true eo18) (of_eq_true en18_0) (fun hz => absurd hz (by decide)) (fun N1 eN1 => ?_)
  have h := h N1 eN1
  refine ow_aload_n (pc' := 9) (x := 18) dX4_become_8 rfl rfl ?_
  refine ow_aload_n (pc' := 10) (x := 14) dX4_become_9 rfl rfl ?_
  refine ow_getf3 (pc' := 13) (t := 0) (ji := 1) (val := N1 14 1) dX4_become_10 fRX4_15 rfl rfl rfl (of_eq_true eo14) eg14_1 ?_
  refine ow_putf2 (pc' := 16) (t := 0) (ji := 1) dX4_become_13 fRX4_15 rfl rfl rfl rfl (of_eq_true eo18) (of_eq_true en18_1) (fun hz => absurd hz (by decide)) (fun N2 eN2 => ?_)
  have h := h N2 eN2
  refine ow_aload_n (pc' := 17) (x := 14) dX4_become_16 rfl rfl ?_
  refine ow_getf3 (pc' := 20) (t := 3) (ji := 2) (val := 15) dX4_become_17 fRX4_18 rfl rfl rfl (of_eq_true eo14) eg14_2 ?_
  refine ow_iconst (pc' := 21) (n := 0) dX4_become_20 rfl rfl ?_
  refine ow_aload_n (pc' := 22) (x := 18) dX4_become_21 rfl rfl ?_
  refine ow_getf3 (pc' := 25) (t := 3) (ji := 2) (val := 19) dX4_become_22 fRX4_18 rfl rfl rfl (of_eq_true eo18) eg18_2 ?_
  refine ow_iconst (pc' := 26) (n := 0) dX4_become_25 rfl rfl ?_
  refine ow_bipush (pc' := 28) (n := 40) dX4_become_26 rfl rfl ?_
  obtain ⟨⟨w, w1, w2⟩, ⟨w3, w4⟩, h⟩ := h
  have u0 : 0 ≤ (15 : Int) ∧ (15 : Int) < ow_nb (EM A L N) N2 ∧ ((EM A L N).2.1 15).1 = 100 ∧ (0 : Int) ≤ 0 ∧ (0 : Int) ≤ 40 ∧ (0 : Int) + 40 ≤ ((EM A L N).2.1 15).2 := ⟨by decide, (show (15 : Int) < 102 by decide), rfl, w, w1, w2⟩
  have u1 : 0 ≤ (19 : Int) ∧ (19 : Int) < ow_nb (EM A L N) N2 ∧ ((EM A L N).2.1 19).1 = 100 ∧ (0 : Int) ≤ 0 ∧ (0 : Int) + 40 ≤ ((EM A L N).2.1 19).2 := ⟨by decide, (show (19 : Int) < 102 by decide), rfl, w3, w4⟩
  refine ow_copy2 (pc' := 31) dX4_become_28 lRX4_28 ow_ac1 ow_ac2 ow_ac3 rfl rfl em_22 u0 u1 (fun i => of_eq_true (en19 i)) (fun N3 eN3 => ?_)
  have h := h N3 eN3
  refine ow_aload_n (pc' := 32) (x := 14) dX4_become_31 rfl rfl ?_
  refine ow_getf3 (pc' := 35) (t := 3) (ji := 3) (val := 16) dX4_become_32 fRX4_22 rfl rfl rfl (of_eq_true eo14) eg14_3 ?_
  refine ow_iconst (pc' := 36) (n := 0) dX4_become_35 rfl rfl ?_
  refine ow_aload_n (pc' := 37) (x := 18) dX4_become_36 rfl rfl ?_
  refine ow_getf3 (pc' := 40) (t := 3) (ji := 3) (val := 20) dX4_become_37 fRX4_22 rfl rfl rfl (of_eq_true eo18) eg18_3 ?_
  refine ow_iconst (pc' := 41) (n := 0) dX4_become_40 rfl rfl ?_
  refine ow_bipush (pc' := 43) (n := 40) dX4_become_41 rfl rfl ?_
  obtain ⟨⟨w, w1, w2⟩, ⟨w3, w4⟩, h⟩ := h
  have u0 : 0 ≤ (16 : Int) ∧ (16 : Int) < ow_nb (EM A L N) N3 ∧ ((EM A L N).2.1 16).1 = 100 ∧ (0 : Int) ≤ 0 ∧ (0 : Int) ≤ 40 ∧ (0 : Int) + 40 ≤ ((EM A L N).2.1 16).2 := ⟨by decide, (show (16 : Int) < 102 by decide), rfl, w, w1, w2⟩
  have u1 : 0 ≤ (20 : Int) ∧ (20 : Int) < ow_nb (EM A L N) N3 ∧ ((EM A L N).2.1 20).1 = 100 ∧ (0 : Int) ≤ 0 ∧ (0 : Int) + 40 ≤ ((EM A L N).2.1 20).2 := ⟨by decide, (show (20 : Int) < 102 by decide), rfl, w3, w4⟩
  refine ow_copy2 (pc' := 46) dX4_become_43 lRX4_28 ow_ac1 ow_ac2 ow_ac3 rfl rfl em_22 u0 u1 (fun i => of_eq_true (en20 i)) (fun N4 eN4 => ?_)
  have h := h N4 eN4
  refine ow_aload_n (pc' := 47) (x := 14) dX4_become_46 rfl rfl ?_
  refine ow_getf3 (pc' := 50) (t := 3) (ji := 4) (val := 17) dX4_become_47 fRX4_25 rfl rfl rfl (of_eq_true eo14) eg14_4 ?_
  refine ow_iconst (pc' := 51) (n := 0) dX4_become_50 rfl rfl ?_
  refine ow_aload_n (pc' := 52) (x := 18) dX4_become_51 rfl rfl ?_
  refine ow_getf3 (pc' := 55) (t := 3) (ji := 4) (val := 21) dX4_become_52 fRX4_25 rfl rfl rfl (of_eq_true eo18) eg18_4 ?_
  refine ow_iconst (pc' := 56) (n := 0) dX4_become_55 rfl rfl ?_
  refine ow_bipush (pc' := 58) (n := 40) dX4_become_56 rfl rfl ?_
  obtain ⟨⟨w, w1, w2⟩, ⟨w3, w4⟩, h⟩ := h
  have u0 : 0 ≤ (17 : Int) ∧ (17 : Int) < ow_nb (EM A L N) N4 ∧ ((EM A L N).2.1 17).1 = 100 ∧ (0 : Int) ≤ 0 ∧ (0 : Int) ≤ 40 ∧ (0 : Int) + 40 ≤ ((EM A L N).2.1 17).2 := ⟨by decide, (show (17 : Int) < 102 by decide), rfl, w, w1, w2⟩
  have u1 : 0 ≤ (21 : Int) ∧ (21 : Int) < ow_nb (EM A L N) N4 ∧ ((EM A L N).2.1 21).1 = 100 ∧ (0 : Int) ≤ 0 ∧ (0 : Int) + 40 ≤ ((EM A L N).2.1 21).2 := ⟨by decide, (show (21 : Int) < 102 by decide), rfl, w3, w4⟩
  refine ow_copy2 (pc' := 61) dX4_become_58 lRX4_28 ow_ac1 ow_ac2 ow_ac3 rfl rfl em_22 u0 u1 (fun i => of_eq_true (en21 i)) (fun N5 eN5 => ?_)
  have h := h N5 eN5
  exact ow_vret dX4_become_61 rfl rfl h
theorem fX4_become_b {C : ow_C} {A L N : Int} {d : Nat} {M : ow_M} {K : Int → ow_M → Prop} (h : ∀ N1, N1 = ow_up M 18 0 (M 14 0) → ∀ N2, N2 = ow_up N1 18 1 (N1 14 1) → ((0 : Int) ≤ 0 ∧ (0 : Int) ≤ 40 ∧ (0 : Int) + 40 ≤ 40) ∧ ((0 : Int) ≤ 0 ∧ (0 : Int) + 40 ≤ 40) ∧ ∀ N3, N3 = ow_cp (EM A L N) N2 15 0 19 0 40 → ((0 : Int) ≤ 0 ∧ (0 : Int) ≤ 40 ∧ (0 : Int) + 40 ≤ 40) ∧ ((0 : Int) ≤ 0 ∧ (0 : Int) + 40 ≤ 40) ∧ ∀ N4, N4 = ow_cp (EM A L N) N3 16 0 20 0 40 → ((0 : Int) ≤ 0 ∧ (0 : Int) ≤ 40 ∧ (0 : Int) + 40 ≤ 40) ∧ ((0 : Int) ≤ 0 ∧ (0 : Int) + 40 ≤ 40) ∧ ∀ N5, N5 = ow_cp (EM A L N) N4 17 0 21 0 40 → K 0 N5) : ow_Sp C (EM A L N) (d + 1) mX4_become (0, 0) [(3, 18), (3, 14)] M K := ow_enter (by decide +kernel) rfl rfl (cX4_become_b_0 h)
