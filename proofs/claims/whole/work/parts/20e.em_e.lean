set_option maxRecDepth 20000 in
theorem cX12_copy_0 {C : ow_C} {A L N : Int} {d : Nat} {M : ow_M} {K : Int → ow_M → Prop} {l0 l1 : Int} (h : ow_At C (EM A L N) d mX12_copy 2 [(0, (3, l0)), (1, (3, l1)), (2, (0, 0))] [] (0, 0) M K) : ow_At C (EM A L N) d mX12_copy 0 [(0, (3, l0)), (1, (3, l1))] [] (0, 0) M K := by
  refine ow_iconst (pc' := 1) (n := 0) dX12_copy_0 rfl rfl ?_
  refine ow_istore_n (pc' := 2) (lv' := [(0, (3, l0)), (1, (3, l1)), (2, (0, 0))]) dX12_copy_1 rfl rfl rfl ?_
  exact h
set_option maxRecDepth 20000 in
theorem cX12_copy_2 {C : ow_C} {A L N : Int} {d : Nat} {M : ow_M} {K : Int → ow_M → Prop} {l0 l1 l2 : Int} (h : (215 ≤ l2 → K 0 M) ∧ (l2 < 215 → ow_R (EM A L N) M l0 100 l2 ∧ ow_R (EM A L N) M l1 100 l2 ∧ (EM A L N).1 l1 l2 = none ∧ ∀ N1, N1 = ow_up M l1 l2 (ow_gv (EM A L N) M l0 l2) → ow_I (l2 + 1) ∧ ow_At C (EM A L N) d mX12_copy 2 [(0, (3, l0)), (1, (3, l1)), (2, (0, l2 + 1))] [] (0, 0) N1 K)) : ow_At C (EM A L N) d mX12_copy 2 [(0, (3, l0)), (1, (3, l1)), (2, (0, l2))] [] (0, 0) M K := by
  refine ow_iload_n (pc' := 3) (x := l2) dX12_copy_2 rfl rfl ?_
  refine ow_sipush (pc' := 6) (n := 215) dX12_copy_3 rfl rfl ?_
  refine ow_icmpge (pc' := 9) (tg := 21) dX12_copy_6 rfl rfl (fun hc => ?_) (fun hc => ?_)
  · have h := h.1 hc
    exact ow_vret dX12_copy_21 rfl rfl h
  · have h := h.2 hc
    refine ow_aload_n (pc' := 10) (x := l1) dX12_copy_9 rfl rfl ?_
    refine ow_iload_n (pc' := 11) (x := l2) dX12_copy_10 rfl rfl ?_
    refine ow_aload_n (pc' := 12) (x := l0) dX12_copy_11 rfl rfl ?_
    refine ow_iload_n (pc' := 13) (x := l2) dX12_copy_12 rfl rfl ?_
    obtain ⟨w, h⟩ := h
    refine ow_iaload (pc' := 14) dX12_copy_13 rfl w ?_
    obtain ⟨w, w1, h⟩ := h
    refine ow_iastore2 (pc' := 15) dX12_copy_14 rfl w w1 (fun N1 eN1 => ?_)
    have h := h N1 eN1
    obtain ⟨vv1, h⟩ := h
    refine ow_iinc (pc' := 18) (lv' := [(0, (3, l0)), (1, (3, l1)), (2, (0, l2 + 1))]) dX12_copy_15 rfl vv1 rfl rfl rfl ?_
    refine ow_goto (tg := 2) dX12_copy_18 rfl ?_
    exact h
theorem fX12_copy {C : ow_C} {A L N : Int} {d : Nat} {M : ow_M} {K : Int → ow_M → Prop} {l0 l1 : Int} (h : ow_At C (EM A L N) d mX12_copy 2 [(0, (3, l0)), (1, (3, l1)), (2, (0, 0))] [] (0, 0) M K) : ow_Sp C (EM A L N) d mX12_copy (0, 0) [(3, l0), (3, l1)] M K := ow_enter (by decide +kernel) rfl rfl (cX12_copy_0 h)
set_option maxRecDepth 20000 in
theorem cX12_powerOf_0 {C : ow_C} {A L N : Int} {d : Nat} {M : ow_M} {K : Int → ow_M → Prop} {l0 l1 : Int} (h : ow_At C (EM A L N) d mX12_powerOf 4 [(0, (0, l0)), (1, (0, l1)), (2, (0, 1)), (3, (0, 0))] [] (0, 0) M K) : ow_At C (EM A L N) d mX12_powerOf 0 [(0, (0, l0)), (1, (0, l1))] [] (0, 0) M K := by
  refine ow_iconst (pc' := 1) (n := 1) dX12_powerOf_0 rfl rfl ?_
  refine ow_istore_n (pc' := 2) (lv' := [(0, (0, l0)), (1, (0, l1)), (2, (0, 1))]) dX12_powerOf_1 rfl rfl rfl ?_
  refine ow_iconst (pc' := 3) (n := 0) dX12_powerOf_2 rfl rfl ?_
  refine ow_istore_n (pc' := 4) (lv' := [(0, (0, l0)), (1, (0, l1)), (2, (0, 1)), (3, (0, 0))]) dX12_powerOf_3 rfl rfl rfl ?_
  exact h
set_option maxRecDepth 20000 in
theorem cX12_powerOf_4 {C : ow_C} {A L N : Int} {d : Nat} {M : ow_M} {K : Int → ow_M → Prop} {l0 l1 l2 l3 : Int} (h : (l1 ≤ l3 → K l2 M) ∧ (l3 < l1 → ow_I (l2 * l0) ∧ ow_I (l3 + 1) ∧ ow_At C (EM A L N) d mX12_powerOf 4 [(0, (0, l0)), (1, (0, l1)), (2, (0, l2 * l0)), (3, (0, l3 + 1))] [] (0, 0) M K)) : ow_At C (EM A L N) d mX12_powerOf 4 [(0, (0, l0)), (1, (0, l1)), (2, (0, l2)), (3, (0, l3))] [] (0, 0) M K := by
  refine ow_iload_n (pc' := 5) (x := l3) dX12_powerOf_4 rfl rfl ?_
  refine ow_iload_n (pc' := 6) (x := l1) dX12_powerOf_5 rfl rfl ?_
  refine ow_icmpge (pc' := 9) (tg := 19) dX12_powerOf_6 rfl rfl (fun hc => ?_) (fun hc => ?_)
  · have h := h.1 hc
    refine ow_iload_n (pc' := 20) (x := l2) dX12_powerOf_19 rfl rfl ?_
    exact ow_iret dX12_powerOf_20 rfl rfl h
  · have h := h.2 hc
    refine ow_iload_n (pc' := 10) (x := l2) dX12_powerOf_9 rfl rfl ?_
    refine ow_iload_n (pc' := 11) (x := l0) dX12_powerOf_10 rfl rfl ?_
    obtain ⟨vv1, h⟩ := h
    refine ow_imul (pc' := 12) dX12_powerOf_11 vv1 rfl ?_
    refine ow_istore_n (pc' := 13) (lv' := [(0, (0, l0)), (1, (0, l1)), (2, (0, l2 * l0)), (3, (0, l3))]) dX12_powerOf_12 rfl rfl rfl ?_
    obtain ⟨vv2, h⟩ := h
    refine ow_iinc (pc' := 16) (lv' := [(0, (0, l0)), (1, (0, l1)), (2, (0, l2 * l0)), (3, (0, l3 + 1))]) dX12_powerOf_13 rfl vv2 rfl rfl rfl ?_
    refine ow_goto (tg := 4) dX12_powerOf_16 rfl ?_
    exact h
theorem fX12_powerOf {C : ow_C} {A L N : Int} {d : Nat} {M : ow_M} {K : Int → ow_M → Prop} {l0 l1 : Int} (h : ow_At C (EM A L N) d mX12_powerOf 4 [(0, (0, l0)), (1, (0, l1)), (2, (0, 1)), (3, (0, 0))] [] (0, 0) M K) : ow_Sp C (EM A L N) d mX12_powerOf (0, 0) [(0, l0), (0, l1)] M K := ow_enter (by decide +kernel) rfl rfl (cX12_powerOf_0 h)
set_option maxRecDepth 20000 in
theorem cX12_isIn_0 {C : ow_C} {A L N : Int} {d : Nat} {M : ow_M} {K : Int → ow_M → Prop} {l0 l1 l2 : Int} (h : (l0 < l1 → K 0 M) ∧ (l1 ≤ l0 → (l2 < l0 → K 0 M) ∧ (l0 ≤ l2 → K 1 M))) : ow_At C (EM A L N) d mX12_isIn 0 [(0, (0, l0)), (1, (0, l1)), (2, (0, l2))] [] (0, 0) M K := by
  refine ow_iload_n (pc' := 1) (x := l0) dX12_isIn_0 rfl rfl ?_
  refine ow_iload_n (pc' := 2) (x := l1) dX12_isIn_1 rfl rfl ?_
  refine ow_icmplt (pc' := 5) (tg := 14) dX12_isIn_2 rfl rfl (fun hc => ?_) (fun hc => ?_)
  · have h := h.1 hc
    refine ow_iconst (pc' := 15) (n := 0) dX12_isIn_14 rfl rfl ?_
    exact ow_zret dX12_isIn_15 rfl rfl (Or.inl rfl) h
  · have h := h.2 hc
    refine ow_iload_n (pc' := 6) (x := l0) dX12_isIn_5 rfl rfl ?_
    refine ow_iload_n (pc' := 7) (x := l2) dX12_isIn_6 rfl rfl ?_
    refine ow_icmpgt (pc' := 10) (tg := 14) dX12_isIn_7 rfl rfl (fun hc => ?_) (fun hc => ?_)
    · have h := h.1 hc
      refine ow_iconst (pc' := 15) (n := 0) dX12_isIn_14 rfl rfl ?_
      exact ow_zret dX12_isIn_15 rfl rfl (Or.inl rfl) h
    · have h := h.2 hc
      refine ow_iconst (pc' := 11) (n := 1) dX12_isIn_10 rfl rfl ?_
      refine ow_goto (tg := 15) dX12_isIn_11 rfl ?_
      exact ow_zret dX12_isIn_15 rfl rfl (Or.inr rfl) h
theorem fX12_isIn {C : ow_C} {A L N : Int} {d : Nat} {M : ow_M} {K : Int → ow_M → Prop} {l0 l1 l2 : Int} (h : (l0 < l1 → K 0 M) ∧ (l1 ≤ l0 → (l2 < l0 → K 0 M) ∧ (l0 ≤ l2 → K 1 M))) : ow_Sp C (EM A L N) d mX12_isIn (0, 0) [(0, l0), (0, l1), (0, l2)] M K := ow_enter (by decide +kernel) rfl rfl (cX12_isIn_0 h)
set_option maxRecDepth 20000 in
theorem cX12_held_0 {C : ow_C} {A L N : Int} {d : Nat} {M : ow_M} {K : Int → ow_M → Prop} {l0 l2 l3 : Int} (h : (0 ≤ (ow_lcmp l0 l2) → ((ow_lcmp l0 l3) ≤ 0 → ow_I l0 ∧ K l0 M) ∧ (0 < (ow_lcmp l0 l3) → K l3 M)) ∧ ((ow_lcmp l0 l2) < 0 → K l2 M)) : ow_At C (EM A L N) d mX12_held 0 [(0, (1, l0)), (2, (0, l2)), (3, (0, l3))] [] (0, 0) M K := by
  refine ow_lload_n (pc' := 1) (x := l0) dX12_held_0 rfl rfl ?_
  refine ow_iload_n (pc' := 2) (x := l2) dX12_held_1 rfl rfl ?_
  refine ow_i2L (pc' := 3) dX12_held_2 rfl ?_
  refine ow_Lcmp (pc' := 4) dX12_held_3 rfl ?_
  refine ow_ifge (pc' := 7) (tg := 11) dX12_held_4 rfl rfl (fun hc => ?_) (fun hc => ?_)
  · have h := h.1 hc
    refine ow_lload_n (pc' := 12) (x := l0) dX12_held_11 rfl rfl ?_
    refine ow_iload_n (pc' := 13) (x := l3) dX12_held_12 rfl rfl ?_
    refine ow_i2L (pc' := 14) dX12_held_13 rfl ?_
    refine ow_Lcmp (pc' := 15) dX12_held_14 rfl ?_
    refine ow_ifle (pc' := 18) (tg := 22) dX12_held_15 rfl rfl (fun hc => ?_) (fun hc => ?_)
    · have h := h.1 hc
      refine ow_lload_n (pc' := 23) (x := l0) dX12_held_22 rfl rfl ?_
      obtain ⟨w, h⟩ := h
      refine ow_L2i (pc' := 24) dX12_held_23 w rfl ?_
      exact ow_iret dX12_held_24 rfl rfl h
    · have h := h.2 hc
      refine ow_iload_n (pc' := 19) (x := l3) dX12_held_18 rfl rfl ?_
      refine ow_goto (tg := 24) dX12_held_19 rfl ?_
      exact ow_iret dX12_held_24 rfl rfl h
  · have h := h.2 hc
    refine ow_iload_n (pc' := 8) (x := l2) dX12_held_7 rfl rfl ?_
    refine ow_goto (tg := 24) dX12_held_8 rfl ?_
    exact ow_iret dX12_held_24 rfl rfl h
theorem fX12_held {C : ow_C} {A L N : Int} {d : Nat} {M : ow_M} {K : Int → ow_M → Prop} {l0 l2 l3 : Int} (h : (0 ≤ (ow_lcmp l0 l2) → ((ow_lcmp l0 l3) ≤ 0 → ow_I l0 ∧ K l0 M) ∧ (0 < (ow_lcmp l0 l3) → K l3 M)) ∧ ((ow_lcmp l0 l2) < 0 → K l2 M)) : ow_Sp C (EM A L N) d mX12_held (0, 0) [(1, l0), (0, l2), (0, l3)] M K := ow_enter (by decide +kernel) rfl rfl (cX12_held_0 h)
set_option maxRecDepth 20000 in
theorem cX12_isWord0_0 {C : ow_C} {A L N : Int} {d : Nat} {M : ow_M} {K : Int → ow_M → Prop} {l1 : Int} (h : ow_I (N - 1) ∧ ow_Sp C (EM A L N) d mX12_isIn (0, 0) [(0, l1), (0, 0), (0, N - 1)] M (fun r1 N1 => (r1 = 0 ∨ r1 = 1) ∧ K r1 N1)) : ow_At C (EM A L N) (d + 1) mX12_isWord0 0 [(0, (3, 83)), (1, (0, l1))] [] (0, 0) M K := by
  refine ow_iload_n (pc' := 1) (x := l1) dX12_isWord0_0 rfl rfl ?_
  refine ow_iconst (pc' := 2) (n := 0) dX12_isWord0_1 rfl rfl ?_
  refine ow_aload_n (pc' := 3) (x := 83) dX12_isWord0_2 rfl rfl ?_
  refine ow_getf3 (pc' := 6) (t := 0) (ji := 4) (val := N) dX12_isWord0_3 fRX12_84 rfl rfl rfl (of_eq_true eo83) eg83_4 ?_
  refine ow_iconst (pc' := 7) (n := 1) dX12_isWord0_6 rfl rfl ?_
  obtain ⟨vv1, h⟩ := h
  refine ow_isub (pc' := 8) dX12_isWord0_7 vv1 rfl ?_
  refine ow_callSp (z := mX12_isIn) (n := 3) (vs := [(0, l1), (0, 0), (0, N - 1)]) (st := []) (pc' := 11) (b1 := (0, 0)) (b2 := (0, 0)) dX12_isWord0_8 lRX12_91 kX12_isIn zX12_isIn rfl rfl rfl rfl rfl rfl (ow_Sp.mono h (fun r1 N1 h => ?_))
  exact ow_zret dX12_isWord0_11 rfl rfl h.1 h.2
theorem fX12_isWord0 {C : ow_C} {A L N : Int} {d : Nat} {M : ow_M} {K : Int → ow_M → Prop} {l1 : Int} (h : ow_I (N - 1) ∧ ow_Sp C (EM A L N) d mX12_isIn (0, 0) [(0, l1), (0, 0), (0, N - 1)] M (fun r1 N1 => (r1 = 0 ∨ r1 = 1) ∧ K r1 N1)) : ow_Sp C (EM A L N) (d + 1) mX12_isWord0 (0, 0) [(3, 83), (0, l1)] M K := ow_enter (by decide +kernel) rfl rfl (cX12_isWord0_0 h)
set_option maxRecDepth 20000 in
theorem cX12_letterAt_0 {C : ow_C} {A L N : Int} {d : Nat} {M : ow_M} {K : Int → ow_M → Prop} {l1 l2 : Int} (h : ow_I (L - 1) ∧ ow_I ((L - 1) - l2) ∧ ow_Sp C (EM A L N) d mX12_powerOf (0, 0) [(0, A), (0, (L - 1) - l2)] M (fun r1 N1 => r1 ≠ 0 ∧ ow_I (Int.tdiv l1 r1) ∧ A ≠ 0 ∧ ow_I (Int.tdiv (Int.tdiv l1 r1) A) ∧ ow_I (Int.tmod (Int.tdiv l1 r1) A) ∧ K (Int.tmod (Int.tdiv l1 r1) A) N1)) : ow_At C (EM A L N) (d + 1) mX12_letterAt 0 [(0, (3, 83)), (1, (0, l1)), (2, (0, l2))] [] (0, 0) M K := by
  refine ow_iload_n (pc' := 1) (x := l1) dX12_letterAt_0 rfl rfl ?_
  refine ow_aload_n (pc' := 2) (x := 83) dX12_letterAt_1 rfl rfl ?_
  refine ow_getf3 (pc' := 5) (t := 0) (ji := 2) (val := A) dX12_letterAt_2 fRX12_74 rfl rfl rfl (of_eq_true eo83) eg83_2 ?_
  refine ow_aload_n (pc' := 6) (x := 83) dX12_letterAt_5 rfl rfl ?_
  refine ow_getf3 (pc' := 9) (t := 0) (ji := 3) (val := L) dX12_letterAt_6 fRX12_81 rfl rfl rfl (of_eq_true eo83) eg83_3 ?_
  refine ow_iconst (pc' := 10) (n := 1) dX12_letterAt_9 rfl rfl ?_
  obtain ⟨vv1, h⟩ := h
  refine ow_isub (pc' := 11) dX12_letterAt_10 vv1 rfl ?_
  refine ow_iload_n (pc' := 12) (x := l2) dX12_letterAt_11 rfl rfl ?_
  obtain ⟨vv2, h⟩ := h
  refine ow_isub (pc' := 13) dX12_letterAt_12 vv2 rfl ?_
  refine ow_callSp (z := mX12_powerOf) (n := 2) (vs := [(0, A), (0, (L - 1) - l2)]) (st := [(0, l1)]) (pc' := 16) (b1 := (0, 0)) (b2 := (0, 0)) dX12_letterAt_13 lRX12_77 kX12_powerOf zX12_powerOf rfl rfl rfl rfl rfl rfl (ow_Sp.mono h (fun r1 N1 h => ?_))
  obtain ⟨w0, w, h⟩ := h
  refine ow_idiv (pc' := 17) dX12_letterAt_16 w0 w rfl ?_
  refine ow_aload_n (pc' := 18) (x := 83) dX12_letterAt_17 rfl rfl ?_
  refine ow_getf3 (pc' := 21) (t := 0) (ji := 2) (val := A) dX12_letterAt_18 fRX12_74 rfl rfl rfl (of_eq_true eo83) eg83_2 ?_
  obtain ⟨w0, w, w1, h⟩ := h
  refine ow_irem (pc' := 22) dX12_letterAt_21 w0 w w1 rfl ?_
  exact ow_iret dX12_letterAt_22 rfl rfl h
theorem fX12_letterAt {C : ow_C} {A L N : Int} {d : Nat} {M : ow_M} {K : Int → ow_M → Prop} {l1 l2 : Int} (h : ow_I (L - 1) ∧ ow_I ((L - 1) - l2) ∧ ow_Sp C (EM A L N) d mX12_powerOf (0, 0) [(0, A), (0, (L - 1) - l2)] M (fun r1 N1 => r1 ≠ 0 ∧ ow_I (Int.tdiv l1 r1) ∧ A ≠ 0 ∧ ow_I (Int.tdiv (Int.tdiv l1 r1) A) ∧ ow_I (Int.tmod (Int.tdiv l1 r1) A) ∧ K (Int.tmod (Int.tdiv l1 r1) A) N1)) : ow_Sp C (EM A L N) (d + 1) mX12_letterAt (0, 0) [(3, 83), (0, l1), (0, l2)] M K := ow_enter (by decide +kernel) rfl rfl (cX12_letterAt_0 h)
set_option maxRecDepth 20000 in
theorem cX12_changed_0 {C : ow_C} {A L N : Int} {d : Nat} {M : ow_M} {K : Int → ow_M → Prop} {l1 l2 l3 : Int} (h : ow_Sp C (EM A L N) d mX12_letterAt (0, 0) [(3, 83), (0, l1), (0, l2)] M (fun r1 N1 => ow_I (l3 - r1) ∧ ow_I (L - 1) ∧ ow_I ((L - 1) - l2) ∧ ow_Sp C (EM A L N) d mX12_powerOf (0, 0) [(0, A), (0, (L - 1) - l2)] N1 (fun r2 N2 => ow_I ((l3 - r1) * r2) ∧ ow_I (l1 + ((l3 - r1) * r2)) ∧ K (l1 + ((l3 - r1) * r2)) N2))) : ow_At C (EM A L N) (d + 1) mX12_changed 0 [(0, (3, 83)), (1, (0, l1)), (2, (0, l2)), (3, (0, l3))] [] (0, 0) M K := by
  refine ow_iload_n (pc' := 1) (x := l1) dX12_changed_0 rfl rfl ?_
  refine ow_iload_n (pc' := 2) (x := l3) dX12_changed_1 rfl rfl ?_
  refine ow_aload_n (pc' := 3) (x := 83) dX12_changed_2 rfl rfl ?_
  refine ow_iload_n (pc' := 4) (x := l1) dX12_changed_3 rfl rfl ?_
  refine ow_iload_n (pc' := 5) (x := l2) dX12_changed_4 rfl rfl ?_
  refine ow_callVp (z := mX12_letterAt) (n := 2) (k := 12) (vs := [(0, l1), (0, l2)]) (x := 83) (st := [(0, l3), (0, l1)]) (pc' := 8) (b1 := (0, 0)) (b2 := (0, 0)) dX12_changed_5 lRX12_95 kX12_letterAt iX12_letterAt rfl rfl rfl rfl rfl rfl (of_eq_true eo83) (ow_Sp.mono h (fun r1 N1 h => ?_))
  obtain ⟨vv1, h⟩ := h
  refine ow_isub (pc' := 9) dX12_changed_8 vv1 rfl ?_
  refine ow_aload_n (pc' := 10) (x := 83) dX12_changed_9 rfl rfl ?_
  refine ow_getf3 (pc' := 13) (t := 0) (ji := 2) (val := A) dX12_changed_10 fRX12_74 rfl rfl rfl (of_eq_true eo83) eg83_2 ?_
  refine ow_aload_n (pc' := 14) (x := 83) dX12_changed_13 rfl rfl ?_
  refine ow_getf3 (pc' := 17) (t := 0) (ji := 3) (val := L) dX12_changed_14 fRX12_81 rfl rfl rfl (of_eq_true eo83) eg83_3 ?_
  refine ow_iconst (pc' := 18) (n := 1) dX12_changed_17 rfl rfl ?_
  obtain ⟨vv2, h⟩ := h
  refine ow_isub (pc' := 19) dX12_changed_18 vv2 rfl ?_
  refine ow_iload_n (pc' := 20) (x := l2) dX12_changed_19 rfl rfl ?_
  obtain ⟨vv3, h⟩ := h
  refine ow_isub (pc' := 21) dX12_changed_20 vv3 rfl ?_
  refine ow_callSp (z := mX12_powerOf) (n := 2) (vs := [(0, A), (0, (L - 1) - l2)]) (st := [(0, l3 - r1), (0, l1)]) (pc' := 24) (b1 := (0, 0)) (b2 := (0, 0)) dX12_changed_21 lRX12_77 kX12_powerOf zX12_powerOf rfl rfl rfl rfl rfl rfl (ow_Sp.mono h (fun r2 N2 h => ?_))
  obtain ⟨vv4, h⟩ := h
  refine ow_imul (pc' := 25) dX12_changed_24 vv4 rfl ?_
  obtain ⟨vv5, h⟩ := h
  refine ow_iadd (pc' := 26) dX12_changed_25 vv5 rfl ?_
  exact ow_iret dX12_changed_26 rfl rfl h
theorem fX12_changed {C : ow_C} {A L N : Int} {d : Nat} {M : ow_M} {K : Int → ow_M → Prop} {l1 l2 l3 : Int} (h : ow_Sp C (EM A L N) d mX12_letterAt (0, 0) [(3, 83), (0, l1), (0, l2)] M (fun r1 N1 => ow_I (l3 - r1) ∧ ow_I (L - 1) ∧ ow_I ((L - 1) - l2) ∧ ow_Sp C (EM A L N) d mX12_powerOf (0, 0) [(0, A), (0, (L - 1) - l2)] N1 (fun r2 N2 => ow_I ((l3 - r1) * r2) ∧ ow_I (l1 + ((l3 - r1) * r2)) ∧ K (l1 + ((l3 - r1) * r2)) N2))) : ow_Sp C (EM A L N) (d + 1) mX12_changed (0, 0) [(3, 83), (0, l1), (0, l2), (0, l3)] M K := ow_enter (by decide +kernel) rfl rfl (cX12_changed_0 h)
set_option maxRecDepth 20000 in
theorem cX12_wordOf_0 {C : ow_C} {A L N : Int} {d : Nat} {M : ow_M} {K : Int → ow_M → Prop} {l1 : Int} (h : ow_I (2 * l1) ∧ ow_I (10 + (2 * l1)) ∧ (0 ≤ (10 + (2 * l1)) ∧ (10 + (2 * l1)) < 215) ∧ K (M 84 (10 + (2 * l1))) M) : ow_At C (EM A L N) d mX12_wordOf 0 [(0, (3, 83)), (1, (0, l1))] [] (0, 0) M K := by
  refine ow_aload_n (pc' := 1) (x := 83) dX12_wordOf_0 rfl rfl ?_
  refine ow_getf3 (pc' := 4) (t := 3) (ji := 0) (val := 84) dX12_wordOf_1 fRX12_7 rfl rfl rfl (of_eq_true eo83) eg83_0 ?_
  refine ow_bipush (pc' := 6) (n := 10) dX12_wordOf_4 rfl rfl ?_
  refine ow_iconst (pc' := 7) (n := 2) dX12_wordOf_6 rfl rfl ?_
  refine ow_iload_n (pc' := 8) (x := l1) dX12_wordOf_7 rfl rfl ?_
  obtain ⟨vv1, h⟩ := h
  refine ow_imul (pc' := 9) dX12_wordOf_8 vv1 rfl ?_
  obtain ⟨vv2, h⟩ := h
  refine ow_iadd (pc' := 10) dX12_wordOf_9 vv2 rfl ?_
  obtain ⟨vv3, h⟩ := h
  refine ow_iaload3 (pc' := 11) (val := M 84 (10 + (2 * l1))) dX12_wordOf_10 rfl (Eq.mpr (er84 _) vv3) (ea84 _) ?_
  exact ow_iret dX12_wordOf_11 rfl rfl h
theorem fX12_wordOf {C : ow_C} {A L N : Int} {d : Nat} {M : ow_M} {K : Int → ow_M → Prop} {l1 : Int} (h : ow_I (2 * l1) ∧ ow_I (10 + (2 * l1)) ∧ (0 ≤ (10 + (2 * l1)) ∧ (10 + (2 * l1)) < 215) ∧ K (M 84 (10 + (2 * l1))) M) : ow_Sp C (EM A L N) d mX12_wordOf (0, 0) [(3, 83), (0, l1)] M K := ow_enter (by decide +kernel) rfl rfl (cX12_wordOf_0 h)
set_option maxRecDepth 20000 in
theorem cX12_placeIn_0 {C : ow_C} {A L N : Int} {d : Nat} {M : ow_M} {K : Int → ow_M → Prop} {l1 : Int} (h : ow_At C (EM A L N) (d + 1) mX12_placeIn 2 [(0, (3, 83)), (1, (0, l1)), (2, (0, 0))] [] (0, 0) M K) : ow_At C (EM A L N) (d + 1) mX12_placeIn 0 [(0, (3, 83)), (1, (0, l1))] [] (0, 0) M K := by
  refine ow_iconst (pc' := 1) (n := 0) dX12_placeIn_0 rfl rfl ?_
  refine ow_istore_n (pc' := 2) (lv' := [(0, (3, 83)), (1, (0, l1)), (2, (0, 0))]) dX12_placeIn_1 rfl rfl rfl ?_
  exact h
set_option maxRecDepth 20000 in
theorem cX12_placeIn_2 {C : ow_C} {A L N : Int} {d : Nat} {M : ow_M} {K : Int → ow_M → Prop} {l1 l2 : Int} (h : ((M 84 2) ≤ l2 → K ((-1)) M) ∧ (l2 < (M 84 2) → ow_Sp C (EM A L N) d mX12_wordOf (0, 0) [(3, 83), (0, l2)] M (fun r1 N1 => (r1 ≠ l1 → ow_I (l2 + 1) ∧ ow_At C (EM A L N) (d + 1) mX12_placeIn 2 [(0, (3, 83)), (1, (0, l1)), (2, (0, l2 + 1))] [] (0, 0) N1 K) ∧ (r1 = l1 → K l2 N1)))) : ow_At C (EM A L N) (d + 1) mX12_placeIn 2 [(0, (3, 83)), (1, (0, l1)), (2, (0, l2))] [] (0, 0) M K := by
  refine ow_iload_n (pc' := 3) (x := l2) dX12_placeIn_2 rfl rfl ?_
  refine ow_aload_n (pc' := 4) (x := 83) dX12_placeIn_3 rfl rfl ?_
  refine ow_getf3 (pc' := 7) (t := 3) (ji := 0) (val := 84) dX12_placeIn_4 fRX12_7 rfl rfl rfl (of_eq_true eo83) eg83_0 ?_
  refine ow_iconst (pc' := 8) (n := 2) dX12_placeIn_7 rfl rfl ?_
  refine ow_iaload3 (pc' := 9) (val := M 84 2) dX12_placeIn_8 rfl (Eq.mpr (er84 _) ⟨by decide, by decide⟩) (ea84 _) ?_
  refine ow_icmpge (pc' := 12) (tg := 29) dX12_placeIn_9 rfl rfl (fun hc => ?_) (fun hc => ?_)
  · have h := h.1 hc
    refine ow_iconst (pc' := 30) (n := (-1)) dX12_placeIn_29 rfl rfl ?_
    exact ow_iret dX12_placeIn_30 rfl rfl h
  · have h := h.2 hc
    refine ow_aload_n (pc' := 13) (x := 83) dX12_placeIn_12 rfl rfl ?_
    refine ow_iload_n (pc' := 14) (x := l2) dX12_placeIn_13 rfl rfl ?_
    refine ow_callVp (z := mX12_wordOf) (n := 1) (k := 12) (vs := [(0, l2)]) (x := 83) (st := []) (pc' := 17) (b1 := (0, 0)) (b2 := (0, 0)) dX12_placeIn_14 lRX12_98 kX12_wordOf iX12_wordOf rfl rfl rfl rfl rfl rfl (of_eq_true eo83) (ow_Sp.mono h (fun r1 N1 h => ?_))
    refine ow_iload_n (pc' := 18) (x := l1) dX12_placeIn_17 rfl rfl ?_
    refine ow_icmpne (pc' := 21) (tg := 23) dX12_placeIn_18 rfl rfl (fun hc => ?_) (fun hc => ?_)
    · have h := h.1 hc
      obtain ⟨vv1, h⟩ := h
      refine ow_iinc (pc' := 26) (lv' := [(0, (3, 83)), (1, (0, l1)), (2, (0, l2 + 1))]) dX12_placeIn_23 rfl vv1 rfl rfl rfl ?_
      refine ow_goto (tg := 2) dX12_placeIn_26 rfl ?_
      exact h
    · have h := h.2 hc
      refine ow_iload_n (pc' := 22) (x := l2) dX12_placeIn_21 rfl rfl ?_
      exact ow_iret dX12_placeIn_22 rfl rfl h
theorem fX12_placeIn {C : ow_C} {A L N : Int} {d : Nat} {M : ow_M} {K : Int → ow_M → Prop} {l1 : Int} (h : ow_At C (EM A L N) (d + 1) mX12_placeIn 2 [(0, (3, 83)), (1, (0, l1)), (2, (0, 0))] [] (0, 0) M K) : ow_Sp C (EM A L N) (d + 1) mX12_placeIn (0, 0) [(3, 83), (0, l1)] M K := ow_enter (by decide +kernel) rfl rfl (cX12_placeIn_0 h)
set_option maxRecDepth 20000 in
theorem cX12_put_0 {C : ow_C} {A L N : Int} {d : Nat} {M : ow_M} {K : Int → ow_M → Prop} {l1 l2 : Int} (h : ow_Sp C (EM A L N) d mX12_isWord0 (0, 0) [(3, 83), (0, l1)] M (fun r1 N1 => (r1 = 0 → K ((-1)) N1) ∧ (r1 ≠ 0 → ow_Sp C (EM A L N) d mX12_isIn (0, 0) [(0, l2), (0, 1), (0, 9)] N1 (fun r2 N2 => (r2 = 0 → K ((-1)) N2) ∧ (r2 ≠ 0 → ow_Sp C (EM A L N) d mX12_placeIn (0, 0) [(3, 83), (0, l1)] N2 (fun r3 N3 => (0 ≤ r3 → K ((-1)) N3) ∧ (r3 < 0 → ((N3 84 2) ≠ 40 → ow_I (2 * (N3 84 2)) ∧ ow_I (10 + (2 * (N3 84 2))) ∧ (0 ≤ (10 + (2 * (N3 84 2))) ∧ (10 + (2 * (N3 84 2))) < 215) ∧ ∀ N4, N4 = ow_up N3 84 (10 + (2 * (N3 84 2))) l1 → ow_I (2 * (N4 84 2)) ∧ ow_I (10 + (2 * (N4 84 2))) ∧ ow_I ((10 + (2 * (N4 84 2))) + 1) ∧ (0 ≤ ((10 + (2 * (N4 84 2))) + 1) ∧ ((10 + (2 * (N4 84 2))) + 1) < 215) ∧ ∀ N5, N5 = ow_up N4 84 ((10 + (2 * (N4 84 2))) + 1) l2 → ow_I ((N5 84 2) + 1) ∧ ∀ N6, N6 = ow_up N5 84 2 ((N5 84 2) + 1) → K (N6 84 2) N6) ∧ ((N3 84 2) = 40 → K ((-1)) N3)))))))) : ow_At C (EM A L N) (d + 1) mX12_put 0 [(0, (3, 83)), (1, (0, l1)), (2, (0, l2))] [] (0, 0) M K := by
  refine ow_aload_n (pc' := 1) (x := 83) dX12_put_0 rfl rfl ?_
  refine ow_iload_n (pc' := 2) (x := l1) dX12_put_1 rfl rfl ?_
  refine ow_callVp (z := mX12_isWord0) (n := 1) (k := 12) (vs := [(0, l1)]) (x := 83) (st := []) (pc' := 5) (b1 := (0, 0)) (b2 := (0, 0)) dX12_put_2 lRX12_102 kX12_isWord0 iX12_isWord0 rfl rfl rfl rfl rfl rfl (of_eq_true eo83) (ow_Sp.mono h (fun r1 N1 h => ?_))
  refine ow_ifeq (pc' := 8) (tg := 37) dX12_put_5 rfl rfl (fun hc => ?_) (fun hc => ?_)
  · have h := h.1 hc
    refine ow_iconst (pc' := 38) (n := (-1)) dX12_put_37 rfl rfl ?_
    exact ow_iret dX12_put_38 rfl rfl h
  · have h := h.2 hc
    refine ow_iload_n (pc' := 9) (x := l2) dX12_put_8 rfl rfl ?_
    refine ow_iconst (pc' := 10) (n := 1) dX12_put_9 rfl rfl ?_
    refine ow_bipush (pc' := 12) (n := 9) dX12_put_10 rfl rfl ?_
    refine ow_callSp (z := mX12_isIn) (n := 3) (vs := [(0, l2), (0, 1), (0, 9)]) (st := []) (pc' := 15) (b1 := (0, 0)) (b2 := (0, 0)) dX12_put_12 lRX12_91 kX12_isIn zX12_isIn rfl rfl rfl rfl rfl rfl (ow_Sp.mono h (fun r2 N2 h => ?_))
    refine ow_ifeq (pc' := 18) (tg := 37) dX12_put_15 rfl rfl (fun hc => ?_) (fun hc => ?_)
    · have h := h.1 hc
      refine ow_iconst (pc' := 38) (n := (-1)) dX12_put_37 rfl rfl ?_
      exact ow_iret dX12_put_38 rfl rfl h
    · have h := h.2 hc
      refine ow_aload_n (pc' := 19) (x := 83) dX12_put_18 rfl rfl ?_
      refine ow_iload_n (pc' := 20) (x := l1) dX12_put_19 rfl rfl ?_
      refine ow_callVp (z := mX12_placeIn) (n := 1) (k := 12) (vs := [(0, l1)]) (x := 83) (st := []) (pc' := 23) (b1 := (0, 0)) (b2 := (0, 0)) dX12_put_20 lRX12_106 kX12_placeIn iX12_placeIn rfl rfl rfl rfl rfl rfl (of_eq_true eo83) (ow_Sp.mono h (fun r3 N3 h => ?_))
      refine ow_ifge (pc' := 26) (tg := 37) dX12_put_23 rfl rfl (fun hc => ?_) (fun hc => ?_)
      · have h := h.1 hc
        refine ow_iconst (pc' := 38) (n := (-1)) dX12_put_37 rfl rfl ?_
        exact ow_iret dX12_put_38 rfl rfl h
      · have h := h.2 hc
        refine ow_aload_n (pc' := 27) (x := 83) dX12_put_26 rfl rfl ?_
        refine ow_getf3 (pc' := 30) (t := 3) (ji := 0) (val := 84) dX12_put_27 fRX12_7 rfl rfl rfl (of_eq_true eo83) eg83_0 ?_
        refine ow_iconst (pc' := 31) (n := 2) dX12_put_30 rfl rfl ?_
        refine ow_iaload3 (pc' := 32) (val := N3 84 2) dX12_put_31 rfl (Eq.mpr (er84 _) ⟨by decide, by decide⟩) (ea84 _) ?_
        refine ow_bipush (pc' := 34) (n := 40) dX12_put_32 rfl rfl ?_
        refine ow_icmpne (pc' := 37) (tg := 39) dX12_put_34 rfl rfl (fun hc => ?_) (fun hc => ?_)
        · have h := h.1 hc
          refine ow_aload_n (pc' := 40) (x := 83) dX12_put_39 rfl rfl ?_
          refine ow_getf3 (pc' := 43) (t := 3) (ji := 0) (val := 84) dX12_put_40 fRX12_7 rfl rfl rfl (of_eq_true eo83) eg83_0 ?_
          refine ow_bipush (pc' := 45) (n := 10) dX12_put_43 rfl rfl ?_
          refine ow_iconst (pc' := 46) (n := 2) dX12_put_45 rfl rfl ?_
          refine ow_aload_n (pc' := 47) (x := 83) dX12_put_46 rfl rfl ?_
          refine ow_getf3 (pc' := 50) (t := 3) (ji := 0) (val := 84) dX12_put_47 fRX12_7 rfl rfl rfl (of_eq_true eo83) eg83_0 ?_
          refine ow_iconst (pc' := 51) (n := 2) dX12_put_50 rfl rfl ?_
          refine ow_iaload3 (pc' := 52) (val := N3 84 2) dX12_put_51 rfl (Eq.mpr (er84 _) ⟨by decide, by decide⟩) (ea84 _) ?_
          obtain ⟨vv1, h⟩ := h
          refine ow_imul (pc' := 53) dX12_put_52 vv1 rfl ?_
          obtain ⟨vv2, h⟩ := h
          refine ow_iadd (pc' := 54) dX12_put_53 vv2 rfl ?_
          refine ow_iload_n (pc' := 55) (x := l1) dX12_put_54 rfl rfl ?_
          obtain ⟨vv3, h⟩ := h
          refine ow_iastore2 (pc' := 56) dX12_put_55 rfl (Eq.mpr (er84 _) vv3) (of_eq_true (en84 _)) (fun N4 eN4 => ?_)
          have h := h N4 eN4
          refine ow_aload_n (pc' := 57) (x := 83) dX12_put_56 rfl rfl ?_
          refine ow_getf3 (pc' := 60) (t := 3) (ji := 0) (val := 84) dX12_put_57 fRX12_7 rfl rfl rfl (of_eq_true eo83) eg83_0 ?_
          refine ow_bipush (pc' := 62) (n := 10) dX12_put_60 rfl rfl ?_
          refine ow_iconst (pc' := 63) (n := 2) dX12_put_62 rfl rfl ?_
          refine ow_aload_n (pc' := 64) (x := 83) dX12_put_63 rfl rfl ?_
          refine ow_getf3 (pc' := 67) (t := 3) (ji := 0) (val := 84) dX12_put_64 fRX12_7 rfl rfl rfl (of_eq_true eo83) eg83_0 ?_
          refine ow_iconst (pc' := 68) (n := 2) dX12_put_67 rfl rfl ?_
          refine ow_iaload3 (pc' := 69) (val := N4 84 2) dX12_put_68 rfl (Eq.mpr (er84 _) ⟨by decide, by decide⟩) (ea84 _) ?_
          obtain ⟨vv4, h⟩ := h
          refine ow_imul (pc' := 70) dX12_put_69 vv4 rfl ?_
          obtain ⟨vv5, h⟩ := h
          refine ow_iadd (pc' := 71) dX12_put_70 vv5 rfl ?_
          refine ow_iconst (pc' := 72) (n := 1) dX12_put_71 rfl rfl ?_
          obtain ⟨vv6, h⟩ := h
          refine ow_iadd (pc' := 73) dX12_put_72 vv6 rfl ?_
          refine ow_iload_n (pc' := 74) (x := l2) dX12_put_73 rfl rfl ?_
          obtain ⟨vv7, h⟩ := h
          refine ow_iastore2 (pc' := 75) dX12_put_74 rfl (Eq.mpr (er84 _) vv7) (of_eq_true (en84 _)) (fun N5 eN5 => ?_)
          have h := h N5 eN5
          refine ow_aload_n (pc' := 76) (x := 83) dX12_put_75 rfl rfl ?_
          refine ow_getf3 (pc' := 79) (t := 3) (ji := 0) (val := 84) dX12_put_76 fRX12_7 rfl rfl rfl (of_eq_true eo83) eg83_0 ?_
          refine ow_iconst (pc' := 80) (n := 2) dX12_put_79 rfl rfl ?_
          refine ow_dup2 (pc' := 81) dX12_put_80 rfl rfl rfl ?_
          refine ow_iaload3 (pc' := 82) (val := N5 84 2) dX12_put_81 rfl (Eq.mpr (er84 _) ⟨by decide, by decide⟩) (ea84 _) ?_
          refine ow_iconst (pc' := 83) (n := 1) dX12_put_82 rfl rfl ?_
          obtain ⟨vv8, h⟩ := h
          refine ow_iadd (pc' := 84) dX12_put_83 vv8 rfl ?_
          refine ow_iastore2 (pc' := 85) dX12_put_84 rfl (Eq.mpr (er84 _) ⟨by decide, by decide⟩) (of_eq_true (en84 _)) (fun N6 eN6 => ?_)
          have h := h N6 eN6
          refine ow_aload_n (pc' := 86) (x := 83) dX12_put_85 rfl rfl ?_
          refine ow_getf3 (pc' := 89) (t := 3) (ji := 0) (val := 84) dX12_put_86 fRX12_7 rfl rfl rfl (of_eq_true eo83) eg83_0 ?_
          refine ow_iconst (pc' := 90) (n := 2) dX12_put_89 rfl rfl ?_
          refine ow_iaload3 (pc' := 91) (val := N6 84 2) dX12_put_90 rfl (Eq.mpr (er84 _) ⟨by decide, by decide⟩) (ea84 _) ?_
          exact ow_iret dX12_put_91 rfl rfl h
        · have h := h.2 hc
          refine ow_iconst (pc' := 38) (n := (-1)) dX12_put_37 rfl rfl ?_
          exact ow_iret dX12_put_38 rfl rfl h
theorem fX12_put {C : ow_C} {A L N : Int} {d : Nat} {M : ow_M} {K : Int → ow_M → Prop} {l1 l2 : Int} (h : ow_Sp C (EM A L N) d mX12_isWord0 (0, 0) [(3, 83), (0, l1)] M (fun r1 N1 => (r1 = 0 → K ((-1)) N1) ∧ (r1 ≠ 0 → ow_Sp C (EM A L N) d mX12_isIn (0, 0) [(0, l2), (0, 1), (0, 9)] N1 (fun r2 N2 => (r2 = 0 → K ((-1)) N2) ∧ (r2 ≠ 0 → ow_Sp C (EM A L N) d mX12_placeIn (0, 0) [(3, 83), (0, l1)] N2 (fun r3 N3 => (0 ≤ r3 → K ((-1)) N3) ∧ (r3 < 0 → ((N3 84 2) ≠ 40 → ow_I (2 * (N3 84 2)) ∧ ow_I (10 + (2 * (N3 84 2))) ∧ (0 ≤ (10 + (2 * (N3 84 2))) ∧ (10 + (2 * (N3 84 2))) < 215) ∧ ∀ N4, N4 = ow_up N3 84 (10 + (2 * (N3 84 2))) l1 → ow_I (2 * (N4 84 2)) ∧ ow_I (10 + (2 * (N4 84 2))) ∧ ow_I ((10 + (2 * (N4 84 2))) + 1) ∧ (0 ≤ ((10 + (2 * (N4 84 2))) + 1) ∧ ((10 + (2 * (N4 84 2))) + 1) < 215) ∧ ∀ N5, N5 = ow_up N4 84 ((10 + (2 * (N4 84 2))) + 1) l2 → ow_I ((N5 84 2) + 1) ∧ ∀ N6, N6 = ow_up N5 84 2 ((N5 84 2) + 1) → K (N6 84 2) N6) ∧ ((N3 84 2) = 40 → K ((-1)) N3)))))))) : ow_Sp C (EM A L N) (d + 1) mX12_put (0, 0) [(3, 83), (0, l1), (0, l2)] M K := ow_enter (by decide +kernel) rfl rfl (cX12_put_0 h)
set_option maxRecDepth 20000 in
theorem cX12_take_0 {C : ow_C} {A L N : Int} {d : Nat} {M : ow_M} {K : Int → ow_M → Prop} {l1 : Int} (h : ow_Sp C (EM A L N) d mX12_placeIn (0, 0) [(3, 83), (0, l1)] M (fun r1 N1 => (0 ≤ r1 → ow_I ((N1 84 2) - 1) ∧ ∀ N2, N2 = ow_up N1 84 2 ((N1 84 2) - 1) → ow_At C (EM A L N) (d + 1) mX12_take 22 [(0, (3, 83)), (2, (0, r1))] [] (0, 0) N2 K) ∧ (r1 < 0 → K ((-1)) N1))) : ow_At C (EM A L N) (d + 1) mX12_take 0 [(0, (3, 83)), (1, (0, l1))] [] (0, 0) M K := by
  refine ow_aload_n (pc' := 1) (x := 83) dX12_take_0 rfl rfl ?_
  refine ow_iload_n (pc' := 2) (x := l1) dX12_take_1 rfl rfl ?_
  refine ow_callVp (z := mX12_placeIn) (n := 1) (k := 12) (vs := [(0, l1)]) (x := 83) (st := []) (pc' := 5) (b1 := (0, 0)) (b2 := (0, 0)) dX12_take_2 lRX12_106 kX12_placeIn iX12_placeIn rfl rfl rfl rfl rfl rfl (of_eq_true eo83) (ow_Sp.mono h (fun r1 N1 h => ?_))
  refine ow_istore_n (pc' := 6) (lv' := [(0, (3, 83)), (1, (0, l1)), (2, (0, r1))]) dX12_take_5 rfl rfl rfl ?_
  refine ow_iload_n (pc' := 7) (x := r1) dX12_take_6 rfl rfl ?_
  refine ow_ifge (pc' := 10) (tg := 12) dX12_take_7 rfl rfl (fun hc => ?_) (fun hc => ?_)
  · have h := h.1 hc
    refine ow_aload_n (pc' := 13) (x := 83) dX12_take_12 rfl rfl ?_
    refine ow_getf3 (pc' := 16) (t := 3) (ji := 0) (val := 84) dX12_take_13 fRX12_7 rfl rfl rfl (of_eq_true eo83) eg83_0 ?_
    refine ow_iconst (pc' := 17) (n := 2) dX12_take_16 rfl rfl ?_
    refine ow_dup2 (pc' := 18) dX12_take_17 rfl rfl rfl ?_
    refine ow_iaload3 (pc' := 19) (val := N1 84 2) dX12_take_18 rfl (Eq.mpr (er84 _) ⟨by decide, by decide⟩) (ea84 _) ?_
    refine ow_iconst (pc' := 20) (n := 1) dX12_take_19 rfl rfl ?_
    obtain ⟨vv1, h⟩ := h
    refine ow_isub (pc' := 21) dX12_take_20 vv1 rfl ?_
    refine ow_iastore2 (pc' := 22) dX12_take_21 rfl (Eq.mpr (er84 _) ⟨by decide, by decide⟩) (of_eq_true (en84 _)) (fun N2 eN2 => ?_)
    have h := h N2 eN2
    refine ow_sub (lv' := [(0, (3, 83)), (2, (0, r1))]) [0, 2] rfl ?_
    exact h
  · have h := h.2 hc
    refine ow_iconst (pc' := 11) (n := (-1)) dX12_take_10 rfl rfl ?_
    exact ow_iret dX12_take_11 rfl rfl h
set_option maxRecDepth 20000 in
theorem cX12_take_22 {C : ow_C} {A L N : Int} {d : Nat} {M : ow_M} {K : Int → ow_M → Prop} {l2 : Int} (h : ((M 84 2) ≤ l2 → K (M 84 2) M) ∧ (l2 < (M 84 2) → ow_I (2 * l2) ∧ ow_I (10 + (2 * l2)) ∧ ow_I ((10 + (2 * l2)) + 2) ∧ (0 ≤ ((10 + (2 * l2)) + 2) ∧ ((10 + (2 * l2)) + 2) < 215) ∧ (0 ≤ (10 + (2 * l2)) ∧ (10 + (2 * l2)) < 215) ∧ ∀ N1, N1 = ow_up M 84 (10 + (2 * l2)) (M 84 ((10 + (2 * l2)) + 2)) → ow_I ((10 + (2 * l2)) + 1) ∧ ow_I ((10 + (2 * l2)) + 3) ∧ (0 ≤ ((10 + (2 * l2)) + 3) ∧ ((10 + (2 * l2)) + 3) < 215) ∧ (0 ≤ ((10 + (2 * l2)) + 1) ∧ ((10 + (2 * l2)) + 1) < 215) ∧ ∀ N2, N2 = ow_up N1 84 ((10 + (2 * l2)) + 1) (N1 84 ((10 + (2 * l2)) + 3)) → ow_I (l2 + 1) ∧ ow_At C (EM A L N) (d + 1) mX12_take 22 [(0, (3, 83)), (2, (0, l2 + 1))] [] (0, 0) N2 K)) : ow_At C (EM A L N) (d + 1) mX12_take 22 [(0, (3, 83)), (2, (0, l2))] [] (0, 0) M K := by
  refine ow_iload_n (pc' := 23) (x := l2) dX12_take_22 rfl rfl ?_
  refine ow_aload_n (pc' := 24) (x := 83) dX12_take_23 rfl rfl ?_
  refine ow_getf3 (pc' := 27) (t := 3) (ji := 0) (val := 84) dX12_take_24 fRX12_7 rfl rfl rfl (of_eq_true eo83) eg83_0 ?_
  refine ow_iconst (pc' := 28) (n := 2) dX12_take_27 rfl rfl ?_
  refine ow_iaload3 (pc' := 29) (val := M 84 2) dX12_take_28 rfl (Eq.mpr (er84 _) ⟨by decide, by decide⟩) (ea84 _) ?_
  refine ow_icmpge (pc' := 32) (tg := 88) dX12_take_29 rfl rfl (fun hc => ?_) (fun hc => ?_)
  · have h := h.1 hc
    refine ow_aload_n (pc' := 89) (x := 83) dX12_take_88 rfl rfl ?_
    refine ow_getf3 (pc' := 92) (t := 3) (ji := 0) (val := 84) dX12_take_89 fRX12_7 rfl rfl rfl (of_eq_true eo83) eg83_0 ?_
    refine ow_iconst (pc' := 93) (n := 2) dX12_take_92 rfl rfl ?_
    refine ow_iaload3 (pc' := 94) (val := M 84 2) dX12_take_93 rfl (Eq.mpr (er84 _) ⟨by decide, by decide⟩) (ea84 _) ?_
    exact ow_iret dX12_take_94 rfl rfl h
  · have h := h.2 hc
    refine ow_aload_n (pc' := 33) (x := 83) dX12_take_32 rfl rfl ?_
    refine ow_getf3 (pc' := 36) (t := 3) (ji := 0) (val := 84) dX12_take_33 fRX12_7 rfl rfl rfl (of_eq_true eo83) eg83_0 ?_
    refine ow_bipush (pc' := 38) (n := 10) dX12_take_36 rfl rfl ?_
    refine ow_iconst (pc' := 39) (n := 2) dX12_take_38 rfl rfl ?_
    refine ow_iload_n (pc' := 40) (x := l2) dX12_take_39 rfl rfl ?_
    obtain ⟨vv1, h⟩ := h
    refine ow_imul (pc' := 41) dX12_take_40 vv1 rfl ?_
    obtain ⟨vv2, h⟩ := h
    refine ow_iadd (pc' := 42) dX12_take_41 vv2 rfl ?_
    refine ow_aload_n (pc' := 43) (x := 83) dX12_take_42 rfl rfl ?_
    refine ow_getf3 (pc' := 46) (t := 3) (ji := 0) (val := 84) dX12_take_43 fRX12_7 rfl rfl rfl (of_eq_true eo83) eg83_0 ?_
    refine ow_bipush (pc' := 48) (n := 10) dX12_take_46 rfl rfl ?_
    refine ow_iconst (pc' := 49) (n := 2) dX12_take_48 rfl rfl ?_
    refine ow_iload_n (pc' := 50) (x := l2) dX12_take_49 rfl rfl ?_
    refine ow_imul (pc' := 51) dX12_take_50 vv1 rfl ?_
    refine ow_iadd (pc' := 52) dX12_take_51 vv2 rfl ?_
    refine ow_iconst (pc' := 53) (n := 2) dX12_take_52 rfl rfl ?_
    obtain ⟨vv3, h⟩ := h
    refine ow_iadd (pc' := 54) dX12_take_53 vv3 rfl ?_
    obtain ⟨vv4, h⟩ := h
    refine ow_iaload3 (pc' := 55) (val := M 84 ((10 + (2 * l2)) + 2)) dX12_take_54 rfl (Eq.mpr (er84 _) vv4) (ea84 _) ?_
    obtain ⟨vv5, h⟩ := h
    refine ow_iastore2 (pc' := 56) dX12_take_55 rfl (Eq.mpr (er84 _) vv5) (of_eq_true (en84 _)) (fun N1 eN1 => ?_)
    have h := h N1 eN1
    refine ow_aload_n (pc' := 57) (x := 83) dX12_take_56 rfl rfl ?_
    refine ow_getf3 (pc' := 60) (t := 3) (ji := 0) (val := 84) dX12_take_57 fRX12_7 rfl rfl rfl (of_eq_true eo83) eg83_0 ?_
    refine ow_bipush (pc' := 62) (n := 10) dX12_take_60 rfl rfl ?_
    refine ow_iconst (pc' := 63) (n := 2) dX12_take_62 rfl rfl ?_
    refine ow_iload_n (pc' := 64) (x := l2) dX12_take_63 rfl rfl ?_
    refine ow_imul (pc' := 65) dX12_take_64 vv1 rfl ?_
    refine ow_iadd (pc' := 66) dX12_take_65 vv2 rfl ?_
    refine ow_iconst (pc' := 67) (n := 1) dX12_take_66 rfl rfl ?_
    obtain ⟨vv6, h⟩ := h
    refine ow_iadd (pc' := 68) dX12_take_67 vv6 rfl ?_
    refine ow_aload_n (pc' := 69) (x := 83) dX12_take_68 rfl rfl ?_
    refine ow_getf3 (pc' := 72) (t := 3) (ji := 0) (val := 84) dX12_take_69 fRX12_7 rfl rfl rfl (of_eq_true eo83) eg83_0 ?_
    refine ow_bipush (pc' := 74) (n := 10) dX12_take_72 rfl rfl ?_
    refine ow_iconst (pc' := 75) (n := 2) dX12_take_74 rfl rfl ?_
    refine ow_iload_n (pc' := 76) (x := l2) dX12_take_75 rfl rfl ?_
    refine ow_imul (pc' := 77) dX12_take_76 vv1 rfl ?_
    refine ow_iadd (pc' := 78) dX12_take_77 vv2 rfl ?_
    refine ow_iconst (pc' := 79) (n := 3) dX12_take_78 rfl rfl ?_
    obtain ⟨vv7, h⟩ := h
    refine ow_iadd (pc' := 80) dX12_take_79 vv7 rfl ?_
    obtain ⟨vv8, h⟩ := h
    refine ow_iaload3 (pc' := 81) (val := N1 84 ((10 + (2 * l2)) + 3)) dX12_take_80 rfl (Eq.mpr (er84 _) vv8) (ea84 _) ?_
    obtain ⟨vv9, h⟩ := h
    refine ow_iastore2 (pc' := 82) dX12_take_81 rfl (Eq.mpr (er84 _) vv9) (of_eq_true (en84 _)) (fun N2 eN2 => ?_)
    have h := h N2 eN2
    obtain ⟨vv10, h⟩ := h
    refine ow_iinc (pc' := 85) (lv' := [(0, (3, 83)), (2, (0, l2 + 1))]) dX12_take_82 rfl vv10 rfl rfl rfl ?_
    refine ow_goto (tg := 22) dX12_take_85 rfl ?_
    exact h
theorem fX12_take {C : ow_C} {A L N : Int} {d : Nat} {M : ow_M} {K : Int → ow_M → Prop} {l1 : Int} (h : ow_Sp C (EM A L N) d mX12_placeIn (0, 0) [(3, 83), (0, l1)] M (fun r1 N1 => (0 ≤ r1 → ow_I ((N1 84 2) - 1) ∧ ∀ N2, N2 = ow_up N1 84 2 ((N1 84 2) - 1) → ow_At C (EM A L N) (d + 1) mX12_take 22 [(0, (3, 83)), (2, (0, r1))] [] (0, 0) N2 K) ∧ (r1 < 0 → K ((-1)) N1))) : ow_Sp C (EM A L N) (d + 1) mX12_take (0, 0) [(3, 83), (0, l1)] M K := ow_enter (by decide +kernel) rfl rfl (cX12_take_0 h)
set_option maxRecDepth 20000 in
theorem cX12_book_0 {C : ow_C} {A L N : Int} {d : Nat} {M : ow_M} {K : Int → ow_M → Prop} {l1 : Int} (h : (l1 ≠ ((-1)) → ow_I ((M 84 2) - 1) ∧ ow_Sp C (EM A L N) d mX12_isIn (0, 0) [(0, l1), (0, 0), (0, (M 84 2) - 1)] M (fun r1 N1 => (r1 = 0 → K ((-1)) N1) ∧ (r1 ≠ 0 → ow_Sp C (EM A L N) d mX12_wordOf (0, 0) [(3, 83), (0, l1)] N1 (fun r2 N2 => K r2 N2)))) ∧ (l1 = ((-1)) → K (M 84 2) M)) : ow_At C (EM A L N) (d + 1) mX12_book 0 [(0, (3, 83)), (1, (0, l1))] [] (0, 0) M K := by
  refine ow_iload_n (pc' := 1) (x := l1) dX12_book_0 rfl rfl ?_
  refine ow_iconst (pc' := 2) (n := (-1)) dX12_book_1 rfl rfl ?_
  refine ow_icmpne (pc' := 5) (tg := 14) dX12_book_2 rfl rfl (fun hc => ?_) (fun hc => ?_)
  · have h := h.1 hc
    refine ow_iload_n (pc' := 15) (x := l1) dX12_book_14 rfl rfl ?_
    refine ow_iconst (pc' := 16) (n := 0) dX12_book_15 rfl rfl ?_
    refine ow_aload_n (pc' := 17) (x := 83) dX12_book_16 rfl rfl ?_
    refine ow_getf3 (pc' := 20) (t := 3) (ji := 0) (val := 84) dX12_book_17 fRX12_7 rfl rfl rfl (of_eq_true eo83) eg83_0 ?_
    refine ow_iconst (pc' := 21) (n := 2) dX12_book_20 rfl rfl ?_
    refine ow_iaload3 (pc' := 22) (val := M 84 2) dX12_book_21 rfl (Eq.mpr (er84 _) ⟨by decide, by decide⟩) (ea84 _) ?_
    refine ow_iconst (pc' := 23) (n := 1) dX12_book_22 rfl rfl ?_
    obtain ⟨vv1, h⟩ := h
    refine ow_isub (pc' := 24) dX12_book_23 vv1 rfl ?_
    refine ow_callSp (z := mX12_isIn) (n := 3) (vs := [(0, l1), (0, 0), (0, (M 84 2) - 1)]) (st := []) (pc' := 27) (b1 := (0, 0)) (b2 := (0, 0)) dX12_book_24 lRX12_91 kX12_isIn zX12_isIn rfl rfl rfl rfl rfl rfl (ow_Sp.mono h (fun r1 N1 h => ?_))
    refine ow_ifeq (pc' := 30) (tg := 38) dX12_book_27 rfl rfl (fun hc => ?_) (fun hc => ?_)
    · have h := h.1 hc
      refine ow_iconst (pc' := 39) (n := (-1)) dX12_book_38 rfl rfl ?_
      exact ow_iret dX12_book_39 rfl rfl h
    · have h := h.2 hc
      refine ow_aload_n (pc' := 31) (x := 83) dX12_book_30 rfl rfl ?_
      refine ow_iload_n (pc' := 32) (x := l1) dX12_book_31 rfl rfl ?_
      refine ow_callVp (z := mX12_wordOf) (n := 1) (k := 12) (vs := [(0, l1)]) (x := 83) (st := []) (pc' := 35) (b1 := (0, 0)) (b2 := (0, 0)) dX12_book_32 lRX12_98 kX12_wordOf iX12_wordOf rfl rfl rfl rfl rfl rfl (of_eq_true eo83) (ow_Sp.mono h (fun r2 N2 h => ?_))
      refine ow_goto (tg := 39) dX12_book_35 rfl ?_
      exact ow_iret dX12_book_39 rfl rfl h
  · have h := h.2 hc
    refine ow_aload_n (pc' := 6) (x := 83) dX12_book_5 rfl rfl ?_
    refine ow_getf3 (pc' := 9) (t := 3) (ji := 0) (val := 84) dX12_book_6 fRX12_7 rfl rfl rfl (of_eq_true eo83) eg83_0 ?_
    refine ow_iconst (pc' := 10) (n := 2) dX12_book_9 rfl rfl ?_
    refine ow_iaload3 (pc' := 11) (val := M 84 2) dX12_book_10 rfl (Eq.mpr (er84 _) ⟨by decide, by decide⟩) (ea84 _) ?_
    refine ow_goto (tg := 39) dX12_book_11 rfl ?_
    exact ow_iret dX12_book_39 rfl rfl h
theorem fX12_book {C : ow_C} {A L N : Int} {d : Nat} {M : ow_M} {K : Int → ow_M → Prop} {l1 : Int} (h : (l1 ≠ ((-1)) → ow_I ((M 84 2) - 1) ∧ ow_Sp C (EM A L N) d mX12_isIn (0, 0) [(0, l1), (0, 0), (0, (M 84 2) - 1)] M (fun r1 N1 => (r1 = 0 → K ((-1)) N1) ∧ (r1 ≠ 0 → ow_Sp C (EM A L N) d mX12_wordOf (0, 0) [(3, 83), (0, l1)] N1 (fun r2 N2 => K r2 N2)))) ∧ (l1 = ((-1)) → K (M 84 2) M)) : ow_Sp C (EM A L N) (d + 1) mX12_book (0, 0) [(3, 83), (0, l1)] M K := ow_enter (by decide +kernel) rfl rfl (cX12_book_0 h)
set_option maxRecDepth 20000 in
theorem cX12_four_0 {C : ow_C} {A L N : Int} {d : Nat} {M : ow_M} {K : Int → ow_M → Prop} {l1 : Int} (h : ow_At C (EM A L N) d mX12_four 3 [(0, (3, 83)), (1, (0, l1)), (2, (0, 24))] [] (0, 0) M K) : ow_At C (EM A L N) d mX12_four 0 [(0, (3, 83)), (1, (0, l1))] [] (0, 0) M K := by
  refine ow_bipush (pc' := 2) (n := 24) dX12_four_0 rfl rfl ?_
  refine ow_istore_n (pc' := 3) (lv' := [(0, (3, 83)), (1, (0, l1)), (2, (0, 24))]) dX12_four_2 rfl rfl rfl ?_
  exact h
set_option maxRecDepth 20000 in
theorem cX12_four_3 {C : ow_C} {A L N : Int} {d : Nat} {M : ow_M} {K : Int → ow_M → Prop} {l1 l2 : Int} (h : (l2 < 0 → K 0 M) ∧ (0 ≤ l2 → (0 ≤ (M 83 7) ∧ (M 83 7) < 300) ∧ ∀ N1, N1 = ow_up M 87 (M 83 7) (ow_and (ow_shr l1 l2) 255) → ow_I ((N1 83 7) + 1) ∧ ∀ N2, N2 = ow_up N1 83 7 ((N1 83 7) + 1) → ow_I (l2 + (-8)) ∧ ow_At C (EM A L N) d mX12_four 3 [(0, (3, 83)), (1, (0, l1)), (2, (0, l2 + (-8)))] [] (0, 0) N2 K)) : ow_At C (EM A L N) d mX12_four 3 [(0, (3, 83)), (1, (0, l1)), (2, (0, l2))] [] (0, 0) M K := by
  refine ow_iload_n (pc' := 4) (x := l2) dX12_four_3 rfl rfl ?_
  refine ow_iflt (pc' := 7) (tg := 39) dX12_four_4 rfl rfl (fun hc => ?_) (fun hc => ?_)
  · have h := h.1 hc
    exact ow_vret dX12_four_39 rfl rfl h
  · have h := h.2 hc
    refine ow_aload_n (pc' := 8) (x := 83) dX12_four_7 rfl rfl ?_
    refine ow_getf3 (pc' := 11) (t := 3) (ji := 6) (val := 87) dX12_four_8 fRX12_19 rfl rfl rfl (of_eq_true eo83) eg83_6 ?_
    refine ow_aload_n (pc' := 12) (x := 83) dX12_four_11 rfl rfl ?_
    refine ow_getf3 (pc' := 15) (t := 0) (ji := 7) (val := M 83 7) dX12_four_12 fRX12_109 rfl rfl rfl (of_eq_true eo83) eg83_7 ?_
    refine ow_iload_n (pc' := 16) (x := l1) dX12_four_15 rfl rfl ?_
    refine ow_iload_n (pc' := 17) (x := l2) dX12_four_16 rfl rfl ?_
    refine ow_ishr (pc' := 18) dX12_four_17 rfl ?_
    refine ow_sipush (pc' := 21) (n := 255) dX12_four_18 rfl rfl ?_
    refine ow_iand (pc' := 22) dX12_four_21 rfl ?_
    obtain ⟨vv1, h⟩ := h
    refine ow_iastore2 (pc' := 23) dX12_four_22 rfl (Eq.mpr (er87 _) vv1) (of_eq_true (en87 _)) (fun N1 eN1 => ?_)
    have h := h N1 eN1
    refine ow_aload_n (pc' := 24) (x := 83) dX12_four_23 rfl rfl ?_
    refine ow_dup (pc' := 25) dX12_four_24 rfl rfl ?_
    refine ow_getf3 (pc' := 28) (t := 0) (ji := 7) (val := N1 83 7) dX12_four_25 fRX12_109 rfl rfl rfl (of_eq_true eo83) eg83_7 ?_
    refine ow_iconst (pc' := 29) (n := 1) dX12_four_28 rfl rfl ?_
    obtain ⟨vv2, h⟩ := h
    refine ow_iadd (pc' := 30) dX12_four_29 vv2 rfl ?_
    refine ow_putf2 (pc' := 33) (t := 0) (ji := 7) dX12_four_30 fRX12_109 rfl rfl rfl rfl (of_eq_true eo83) (of_eq_true en83_7) (fun hz => absurd hz (by decide)) (fun N2 eN2 => ?_)
    have h := h N2 eN2
    obtain ⟨vv3, h⟩ := h
    refine ow_iinc (pc' := 36) (lv' := [(0, (3, 83)), (1, (0, l1)), (2, (0, l2 + (-8)))]) dX12_four_33 rfl vv3 rfl rfl rfl ?_
    refine ow_goto (tg := 3) dX12_four_36 rfl ?_
    exact h
theorem fX12_four {C : ow_C} {A L N : Int} {d : Nat} {M : ow_M} {K : Int → ow_M → Prop} {l1 : Int} (h : ow_At C (EM A L N) d mX12_four 3 [(0, (3, 83)), (1, (0, l1)), (2, (0, 24))] [] (0, 0) M K) : ow_Sp C (EM A L N) d mX12_four (0, 0) [(3, 83), (0, l1)] M K := ow_enter (by decide +kernel) rfl rfl (cX12_four_0 h)
set_option maxRecDepth 20000 in
theorem cX12_feed_0 {C : ow_C} {A L N : Int} {d : Nat} {M : ow_M} {K : Int → ow_M → Prop} {l1 l2 l3 l4 l5 : Int} (h : ow_I ((M 83 7) + 20) ∧ (((M 83 7) + 20) ≤ 300 → ow_Sp C (EM A L N) d mX12_four (0, 0) [(3, 83), (0, l1)] M (fun r1 N1 => ow_Sp C (EM A L N) d mX12_four (0, 0) [(3, 83), (0, l2)] N1 (fun r2 N2 => ow_Sp C (EM A L N) d mX12_four (0, 0) [(3, 83), (0, l3)] N2 (fun r3 N3 => ow_Sp C (EM A L N) d mX12_four (0, 0) [(3, 83), (0, l4)] N3 (fun r4 N4 => ow_Sp C (EM A L N) d mX12_four (0, 0) [(3, 83), (0, l5)] N4 (fun r5 N5 => K (N5 83 7) N5)))))) ∧ (300 < ((M 83 7) + 20) → K ((-1)) M)) : ow_At C (EM A L N) (d + 1) mX12_feed 0 [(0, (3, 83)), (1, (0, l1)), (2, (0, l2)), (3, (0, l3)), (4, (0, l4)), (5, (0, l5))] [] (0, 0) M K := by
  refine ow_aload_n (pc' := 1) (x := 83) dX12_feed_0 rfl rfl ?_
  refine ow_getf3 (pc' := 4) (t := 0) (ji := 7) (val := M 83 7) dX12_feed_1 fRX12_109 rfl rfl rfl (of_eq_true eo83) eg83_7 ?_
  refine ow_bipush (pc' := 6) (n := 20) dX12_feed_4 rfl rfl ?_
  obtain ⟨vv1, h⟩ := h
  refine ow_iadd (pc' := 7) dX12_feed_6 vv1 rfl ?_
  refine ow_sipush (pc' := 10) (n := 300) dX12_feed_7 rfl rfl ?_
  refine ow_icmple (pc' := 13) (tg := 15) dX12_feed_10 rfl rfl (fun hc => ?_) (fun hc => ?_)
  · have h := h.1 hc
    refine ow_aload_n (pc' := 16) (x := 83) dX12_feed_15 rfl rfl ?_
    refine ow_iload_n (pc' := 17) (x := l1) dX12_feed_16 rfl rfl ?_
    refine ow_callVv (z := mX12_four) (n := 1) (k := 12) (vs := [(0, l1)]) (x := 83) (st := []) (pc' := 20) (b1 := (0, 0)) (b2 := (0, 0)) dX12_feed_17 lRX12_112 kX12_four iX12_four rfl rfl rfl rfl rfl rfl (of_eq_true eo83) (ow_Sp.mono h (fun r1 N1 h => ?_))
    refine ow_aload_n (pc' := 21) (x := 83) dX12_feed_20 rfl rfl ?_
    refine ow_iload_n (pc' := 22) (x := l2) dX12_feed_21 rfl rfl ?_
    refine ow_callVv (z := mX12_four) (n := 1) (k := 12) (vs := [(0, l2)]) (x := 83) (st := []) (pc' := 25) (b1 := (0, 0)) (b2 := (0, 0)) dX12_feed_22 lRX12_112 kX12_four iX12_four rfl rfl rfl rfl rfl rfl (of_eq_true eo83) (ow_Sp.mono h (fun r2 N2 h => ?_))
    refine ow_aload_n (pc' := 26) (x := 83) dX12_feed_25 rfl rfl ?_
    refine ow_iload_n (pc' := 27) (x := l3) dX12_feed_26 rfl rfl ?_
    refine ow_callVv (z := mX12_four) (n := 1) (k := 12) (vs := [(0, l3)]) (x := 83) (st := []) (pc' := 30) (b1 := (0, 0)) (b2 := (0, 0)) dX12_feed_27 lRX12_112 kX12_four iX12_four rfl rfl rfl rfl rfl rfl (of_eq_true eo83) (ow_Sp.mono h (fun r3 N3 h => ?_))
    refine ow_aload_n (pc' := 31) (x := 83) dX12_feed_30 rfl rfl ?_
    refine ow_iload (pc' := 33) (x := l4) dX12_feed_31 rfl rfl ?_
    refine ow_callVv (z := mX12_four) (n := 1) (k := 12) (vs := [(0, l4)]) (x := 83) (st := []) (pc' := 36) (b1 := (0, 0)) (b2 := (0, 0)) dX12_feed_33 lRX12_112 kX12_four iX12_four rfl rfl rfl rfl rfl rfl (of_eq_true eo83) (ow_Sp.mono h (fun r4 N4 h => ?_))
    refine ow_aload_n (pc' := 37) (x := 83) dX12_feed_36 rfl rfl ?_
    refine ow_iload (pc' := 39) (x := l5) dX12_feed_37 rfl rfl ?_
    refine ow_callVv (z := mX12_four) (n := 1) (k := 12) (vs := [(0, l5)]) (x := 83) (st := []) (pc' := 42) (b1 := (0, 0)) (b2 := (0, 0)) dX12_feed_39 lRX12_112 kX12_four iX12_four rfl rfl rfl rfl rfl rfl (of_eq_true eo83) (ow_Sp.mono h (fun r5 N5 h => ?_))
    refine ow_aload_n (pc' := 43) (x := 83) dX12_feed_42 rfl rfl ?_
    refine ow_getf3 (pc' := 46) (t := 0) (ji := 7) (val := N5 83 7) dX12_feed_43 fRX12_109 rfl rfl rfl (of_eq_true eo83) eg83_7 ?_
    exact ow_iret dX12_feed_46 rfl rfl h
  · have h := h.2 hc
    refine ow_iconst (pc' := 14) (n := (-1)) dX12_feed_13 rfl rfl ?_
    exact ow_iret dX12_feed_14 rfl rfl h
theorem fX12_feed {C : ow_C} {A L N : Int} {d : Nat} {M : ow_M} {K : Int → ow_M → Prop} {l1 l2 l3 l4 l5 : Int} (h : ow_I ((M 83 7) + 20) ∧ (((M 83 7) + 20) ≤ 300 → ow_Sp C (EM A L N) d mX12_four (0, 0) [(3, 83), (0, l1)] M (fun r1 N1 => ow_Sp C (EM A L N) d mX12_four (0, 0) [(3, 83), (0, l2)] N1 (fun r2 N2 => ow_Sp C (EM A L N) d mX12_four (0, 0) [(3, 83), (0, l3)] N2 (fun r3 N3 => ow_Sp C (EM A L N) d mX12_four (0, 0) [(3, 83), (0, l4)] N3 (fun r4 N4 => ow_Sp C (EM A L N) d mX12_four (0, 0) [(3, 83), (0, l5)] N4 (fun r5 N5 => K (N5 83 7) N5)))))) ∧ (300 < ((M 83 7) + 20) → K ((-1)) M)) : ow_Sp C (EM A L N) (d + 1) mX12_feed (0, 0) [(3, 83), (0, l1), (0, l2), (0, l3), (0, l4), (0, l5)] M K := ow_enter (by decide +kernel) rfl rfl (cX12_feed_0 h)
set_option maxRecDepth 20000 in
theorem cX12_end_0 {C : ow_C} {A L N : Int} {d : Nat} {M : ow_M} {K : Int → ow_M → Prop} {l1 : Int} (h : ow_Sp C (EM A L N) d mX12_isIn (0, 0) [(0, l1), (0, 0), (0, M 83 7)] M (fun r1 N1 => (r1 ≠ 0 → ∀ N2, N2 = ow_up N1 83 7 l1 → K l1 N2) ∧ (r1 = 0 → K ((-1)) N1))) : ow_At C (EM A L N) (d + 1) mX12_end 0 [(0, (3, 83)), (1, (0, l1))] [] (0, 0) M K := by
  refine ow_iload_n (pc' := 1) (x := l1) dX12_end_0 rfl rfl ?_
  refine ow_iconst (pc' := 2) (n := 0) dX12_end_1 rfl rfl ?_
  refine ow_aload_n (pc' := 3) (x := 83) dX12_end_2 rfl rfl ?_
  refine ow_getf3 (pc' := 6) (t := 0) (ji := 7) (val := M 83 7) dX12_end_3 fRX12_109 rfl rfl rfl (of_eq_true eo83) eg83_7 ?_
  refine ow_callSp (z := mX12_isIn) (n := 3) (vs := [(0, l1), (0, 0), (0, M 83 7)]) (st := []) (pc' := 9) (b1 := (0, 0)) (b2 := (0, 0)) dX12_end_6 lRX12_91 kX12_isIn zX12_isIn rfl rfl rfl rfl rfl rfl (ow_Sp.mono h (fun r1 N1 h => ?_))
  refine ow_ifne (pc' := 12) (tg := 14) dX12_end_9 rfl rfl (fun hc => ?_) (fun hc => ?_)
  · have h := h.1 hc
    refine ow_aload_n (pc' := 15) (x := 83) dX12_end_14 rfl rfl ?_
    refine ow_iload_n (pc' := 16) (x := l1) dX12_end_15 rfl rfl ?_
    refine ow_putf2 (pc' := 19) (t := 0) (ji := 7) dX12_end_16 fRX12_109 rfl rfl rfl rfl (of_eq_true eo83) (of_eq_true en83_7) (fun hz => absurd hz (by decide)) (fun N2 eN2 => ?_)
    have h := h N2 eN2
    refine ow_iload_n (pc' := 20) (x := l1) dX12_end_19 rfl rfl ?_
    exact ow_iret dX12_end_20 rfl rfl h
  · have h := h.2 hc
    refine ow_iconst (pc' := 13) (n := (-1)) dX12_end_12 rfl rfl ?_
    exact ow_iret dX12_end_13 rfl rfl h
theorem fX12_end {C : ow_C} {A L N : Int} {d : Nat} {M : ow_M} {K : Int → ow_M → Prop} {l1 : Int} (h : ow_Sp C (EM A L N) d mX12_isIn (0, 0) [(0, l1), (0, 0), (0, M 83 7)] M (fun r1 N1 => (r1 ≠ 0 → ∀ N2, N2 = ow_up N1 83 7 l1 → K l1 N2) ∧ (r1 = 0 → K ((-1)) N1))) : ow_Sp C (EM A L N) (d + 1) mX12_end (0, 0) [(3, 83), (0, l1)] M K := ow_enter (by decide +kernel) rfl rfl (cX12_end_0 h)
set_option maxRecDepth 20000 in
theorem cX12_byteAt_0 {C : ow_C} {A L N : Int} {d : Nat} {M : ow_M} {K : Int → ow_M → Prop} {l1 : Int} (h : ((M 83 7) ≤ l1 → K ((-1)) M) ∧ (l1 < (M 83 7) → (0 ≤ l1 ∧ l1 < 300) ∧ K (M 87 l1) M)) : ow_At C (EM A L N) d mX12_byteAt 0 [(0, (3, 83)), (1, (0, l1))] [] (0, 0) M K := by
  refine ow_iload_n (pc' := 1) (x := l1) dX12_byteAt_0 rfl rfl ?_
  refine ow_aload_n (pc' := 2) (x := 83) dX12_byteAt_1 rfl rfl ?_
  refine ow_getf3 (pc' := 5) (t := 0) (ji := 7) (val := M 83 7) dX12_byteAt_2 fRX12_109 rfl rfl rfl (of_eq_true eo83) eg83_7 ?_
  refine ow_icmpge (pc' := 8) (tg := 17) dX12_byteAt_5 rfl rfl (fun hc => ?_) (fun hc => ?_)
  · have h := h.1 hc
    refine ow_iconst (pc' := 18) (n := (-1)) dX12_byteAt_17 rfl rfl ?_
    exact ow_iret dX12_byteAt_18 rfl rfl h
  · have h := h.2 hc
    refine ow_aload_n (pc' := 9) (x := 83) dX12_byteAt_8 rfl rfl ?_
    refine ow_getf3 (pc' := 12) (t := 3) (ji := 6) (val := 87) dX12_byteAt_9 fRX12_19 rfl rfl rfl (of_eq_true eo83) eg83_6 ?_
    refine ow_iload_n (pc' := 13) (x := l1) dX12_byteAt_12 rfl rfl ?_
    obtain ⟨vv1, h⟩ := h
    refine ow_iaload3 (pc' := 14) (val := M 87 l1) dX12_byteAt_13 rfl (Eq.mpr (er87 _) vv1) (ea87 _) ?_
    refine ow_goto (tg := 18) dX12_byteAt_14 rfl ?_
    exact ow_iret dX12_byteAt_18 rfl rfl h
theorem fX12_byteAt {C : ow_C} {A L N : Int} {d : Nat} {M : ow_M} {K : Int → ow_M → Prop} {l1 : Int} (h : ((M 83 7) ≤ l1 → K ((-1)) M) ∧ (l1 < (M 83 7) → (0 ≤ l1 ∧ l1 < 300) ∧ K (M 87 l1) M)) : ow_Sp C (EM A L N) d mX12_byteAt (0, 0) [(3, 83), (0, l1)] M K := ow_enter (by decide +kernel) rfl rfl (cX12_byteAt_0 h)
set_option maxRecDepth 20000 in
theorem cX12_isLetter_0 {C : ow_C} {A L N : Int} {d : Nat} {M : ow_M} {K : Int → ow_M → Prop} {l0 : Int} (h : ow_Sp C (EM A L N) d mX12_isIn (0, 0) [(0, l0), (0, 97), (0, 122)] M (fun r1 N1 => (r1 ≠ 0 → K 1 N1) ∧ (r1 = 0 → ow_Sp C (EM A L N) d mX12_isIn (0, 0) [(0, l0), (0, 65), (0, 90)] N1 (fun r2 N2 => (r2 = 0 → K 0 N2) ∧ (r2 ≠ 0 → K 1 N2))))) : ow_At C (EM A L N) (d + 1) mX12_isLetter 0 [(0, (0, l0))] [] (0, 0) M K := by
  refine ow_iload_n (pc' := 1) (x := l0) dX12_isLetter_0 rfl rfl ?_
  refine ow_bipush (pc' := 3) (n := 97) dX12_isLetter_1 rfl rfl ?_
  refine ow_bipush (pc' := 5) (n := 122) dX12_isLetter_3 rfl rfl ?_
  refine ow_callSp (z := mX12_isIn) (n := 3) (vs := [(0, l0), (0, 97), (0, 122)]) (st := []) (pc' := 8) (b1 := (0, 0)) (b2 := (0, 0)) dX12_isLetter_5 lRX12_91 kX12_isIn zX12_isIn rfl rfl rfl rfl rfl rfl (ow_Sp.mono h (fun r1 N1 h => ?_))
  refine ow_ifne (pc' := 11) (tg := 22) dX12_isLetter_8 rfl rfl (fun hc => ?_) (fun hc => ?_)
  · have h := h.1 hc
    refine ow_iconst (pc' := 23) (n := 1) dX12_isLetter_22 rfl rfl ?_
    refine ow_goto (tg := 27) dX12_isLetter_23 rfl ?_
    exact ow_zret dX12_isLetter_27 rfl rfl (Or.inr rfl) h
  · have h := h.2 hc
    refine ow_iload_n (pc' := 12) (x := l0) dX12_isLetter_11 rfl rfl ?_
    refine ow_bipush (pc' := 14) (n := 65) dX12_isLetter_12 rfl rfl ?_
    refine ow_bipush (pc' := 16) (n := 90) dX12_isLetter_14 rfl rfl ?_
    refine ow_callSp (z := mX12_isIn) (n := 3) (vs := [(0, l0), (0, 65), (0, 90)]) (st := []) (pc' := 19) (b1 := (0, 0)) (b2 := (0, 0)) dX12_isLetter_16 lRX12_91 kX12_isIn zX12_isIn rfl rfl rfl rfl rfl rfl (ow_Sp.mono h (fun r2 N2 h => ?_))
    refine ow_ifeq (pc' := 22) (tg := 26) dX12_isLetter_19 rfl rfl (fun hc => ?_) (fun hc => ?_)
    · have h := h.1 hc
      refine ow_iconst (pc' := 27) (n := 0) dX12_isLetter_26 rfl rfl ?_
      exact ow_zret dX12_isLetter_27 rfl rfl (Or.inl rfl) h
    · have h := h.2 hc
      refine ow_iconst (pc' := 23) (n := 1) dX12_isLetter_22 rfl rfl ?_
      refine ow_goto (tg := 27) dX12_isLetter_23 rfl ?_
      exact ow_zret dX12_isLetter_27 rfl rfl (Or.inr rfl) h
theorem fX12_isLetter {C : ow_C} {A L N : Int} {d : Nat} {M : ow_M} {K : Int → ow_M → Prop} {l0 : Int} (h : ow_Sp C (EM A L N) d mX12_isIn (0, 0) [(0, l0), (0, 97), (0, 122)] M (fun r1 N1 => (r1 ≠ 0 → K 1 N1) ∧ (r1 = 0 → ow_Sp C (EM A L N) d mX12_isIn (0, 0) [(0, l0), (0, 65), (0, 90)] N1 (fun r2 N2 => (r2 = 0 → K 0 N2) ∧ (r2 ≠ 0 → K 1 N2))))) : ow_Sp C (EM A L N) (d + 1) mX12_isLetter (0, 0) [(0, l0)] M K := ow_enter (by decide +kernel) rfl rfl (cX12_isLetter_0 h)
set_option maxRecDepth 20000 in
theorem cX12_isDigit_0 {C : ow_C} {A L N : Int} {d : Nat} {M : ow_M} {K : Int → ow_M → Prop} {l0 : Int} (h : ow_Sp C (EM A L N) d mX12_isIn (0, 0) [(0, l0), (0, 48), (0, 57)] M (fun r1 N1 => (r1 = 0 ∨ r1 = 1) ∧ K r1 N1)) : ow_At C (EM A L N) (d + 1) mX12_isDigit 0 [(0, (0, l0))] [] (0, 0) M K := by
  refine ow_iload_n (pc' := 1) (x := l0) dX12_isDigit_0 rfl rfl ?_
  refine ow_bipush (pc' := 3) (n := 48) dX12_isDigit_1 rfl rfl ?_
  refine ow_bipush (pc' := 5) (n := 57) dX12_isDigit_3 rfl rfl ?_
  refine ow_callSp (z := mX12_isIn) (n := 3) (vs := [(0, l0), (0, 48), (0, 57)]) (st := []) (pc' := 8) (b1 := (0, 0)) (b2 := (0, 0)) dX12_isDigit_5 lRX12_91 kX12_isIn zX12_isIn rfl rfl rfl rfl rfl rfl (ow_Sp.mono h (fun r1 N1 h => ?_))
  exact ow_zret dX12_isDigit_8 rfl rfl h.1 h.2
theorem fX12_isDigit {C : ow_C} {A L N : Int} {d : Nat} {M : ow_M} {K : Int → ow_M → Prop} {l0 : Int} (h : ow_Sp C (EM A L N) d mX12_isIn (0, 0) [(0, l0), (0, 48), (0, 57)] M (fun r1 N1 => (r1 = 0 ∨ r1 = 1) ∧ K r1 N1)) : ow_Sp C (EM A L N) (d + 1) mX12_isDigit (0, 0) [(0, l0)] M K := ow_enter (by decide +kernel) rfl rfl (cX12_isDigit_0 h)
set_option maxRecDepth 20000 in
theorem cX12_nextToken_0 {C : ow_C} {A L N : Int} {d : Nat} {M : ow_M} {K : Int → ow_M → Prop} (h : ow_Sp C (EM A L N) d mX12_byteAt (0, 0) [(3, 83), (0, M 83 10)] M (fun r1 N1 => (r1 = 32 → ow_I ((N1 83 10) + 1) ∧ ∀ N2, N2 = ow_up N1 83 10 ((N1 83 10) + 1) → ow_At C (EM A L N) (d + 1) mX12_nextToken 0 [(0, (3, 83))] [] (0, 0) N2 K) ∧ (r1 ≠ 32 → ow_Sp C (EM A L N) d mX12_byteAt (0, 0) [(3, 83), (0, N1 83 10)] N1 (fun r3 N3 => (r3 ≠ 10 → ∀ N4, N4 = ow_up N3 83 11 (N3 83 10) → ow_Sp C (EM A L N) d mX12_byteAt (0, 0) [(3, 83), (0, N4 83 10)] N4 (fun r5 N5 => (0 ≤ r5 → ow_Sp C (EM A L N) d mX12_isDigit (0, 0) [(0, r5)] N5 (fun r6 N6 => (r6 = 0 → ow_Sp C (EM A L N) d mX12_isLetter (0, 0) [(0, r5)] N6 (fun r7 N7 => (r7 = 0 → ow_I ((N7 83 10) + 1) ∧ ∀ N8, N8 = ow_up N7 83 10 ((N7 83 10) + 1) → (r5 = 60 → ow_At C (EM A L N) (d + 1) mX12_nextToken 326 [(0, (3, 83)), (1, (0, r5))] [(0, 1)] (0, 0) N8 K) ∧ (r5 ≠ 60 → (r5 = 62 → ow_At C (EM A L N) (d + 1) mX12_nextToken 326 [(0, (3, 83)), (1, (0, r5))] [(0, 1)] (0, 0) N8 K) ∧ (r5 ≠ 62 → (r5 = 61 → ow_At C (EM A L N) (d + 1) mX12_nextToken 326 [(0, (3, 83)), (1, (0, r5))] [(0, 1)] (0, 0) N8 K) ∧ (r5 ≠ 61 → (r5 = 35 → ow_At C (EM A L N) (d + 1) mX12_nextToken 326 [(0, (3, 83)), (1, (0, r5))] [(0, 1)] (0, 0) N8 K) ∧ (r5 ≠ 35 → (r5 = 43 → ow_At C (EM A L N) (d + 1) mX12_nextToken 326 [(0, (3, 83)), (1, (0, r5))] [(0, 1)] (0, 0) N8 K) ∧ (r5 ≠ 43 → (r5 = 45 → ow_At C (EM A L N) (d + 1) mX12_nextToken 326 [(0, (3, 83)), (1, (0, r5))] [(0, 1)] (0, 0) N8 K) ∧ (r5 ≠ 45 → (r5 = 42 → ow_At C (EM A L N) (d + 1) mX12_nextToken 326 [(0, (3, 83)), (1, (0, r5))] [(0, 1)] (0, 0) N8 K) ∧ (r5 ≠ 42 → (r5 = 47 → ow_At C (EM A L N) (d + 1) mX12_nextToken 326 [(0, (3, 83)), (1, (0, r5))] [(0, 1)] (0, 0) N8 K) ∧ (r5 ≠ 47 → (r5 = 40 → ow_At C (EM A L N) (d + 1) mX12_nextToken 326 [(0, (3, 83)), (1, (0, r5))] [(0, 1)] (0, 0) N8 K) ∧ (r5 ≠ 40 → (r5 = 41 → ow_At C (EM A L N) (d + 1) mX12_nextToken 326 [(0, (3, 83)), (1, (0, r5))] [(0, 1)] (0, 0) N8 K) ∧ (r5 ≠ 41 → (r5 ≠ 59 → ow_At C (EM A L N) (d + 1) mX12_nextToken 326 [(0, (3, 83)), (1, (0, r5))] [(0, 0)] (0, 0) N8 K) ∧ (r5 = 59 → ow_At C (EM A L N) (d + 1) mX12_nextToken 326 [(0, (3, 83)), (1, (0, r5))] [(0, 1)] (0, 0) N8 K)))))))))))) ∧ (r7 ≠ 0 → ∀ N9, N9 = ow_up N7 83 12 2 → ∀ N10, N10 = ow_up N9 83 14 0 → ow_At C (EM A L N) (d + 1) mX12_nextToken 161 [(0, (3, 83))] [] (0, 0) N10 K))) ∧ (r6 ≠ 0 → ∀ N11, N11 = ow_up N6 83 12 1 → ∀ N12, N12 = ow_up N11 83 13 0 → ow_At C (EM A L N) (d + 1) mX12_nextToken 85 [(0, (3, 83))] [] (0, 0) N12 K))) ∧ (r5 < 0 → ∀ N13, N13 = ow_up N5 83 12 0 → K 0 N13))) ∧ (r3 = 10 → ow_I ((N3 83 10) + 1) ∧ ∀ N14, N14 = ow_up N3 83 10 ((N3 83 10) + 1) → ow_At C (EM A L N) (d + 1) mX12_nextToken 0 [(0, (3, 83))] [] (0, 0) N14 K))))) : ow_At C (EM A L N) (d + 1) mX12_nextToken 0 [(0, (3, 83))] [] (0, 0) M K := by
  refine ow_aload_n (pc' := 1) (x := 83) dX12_nextToken_0 rfl rfl ?_
  refine ow_aload_n (pc' := 2) (x := 83) dX12_nextToken_1 rfl rfl ?_
  refine ow_getf3 (pc' := 5) (t := 0) (ji := 10) (val := M 83 10) dX12_nextToken_2 fRX12_116 rfl rfl rfl (of_eq_true eo83) eg83_10 ?_
  refine ow_callVp (z := mX12_byteAt) (n := 1) (k := 12) (vs := [(0, M 83 10)]) (x := 83) (st := []) (pc' := 8) (b1 := (0, 0)) (b2 := (0, 0)) dX12_nextToken_5 lRX12_119 kX12_byteAt iX12_byteAt rfl rfl rfl rfl rfl rfl (of_eq_true eo83) (ow_Sp.mono h (fun r1 N1 h => ?_))
  refine ow_bipush (pc' := 10) (n := 32) dX12_nextToken_8 rfl rfl ?_
  refine ow_icmpeq (pc' := 13) (tg := 26) dX12_nextToken_10 rfl rfl (fun hc => ?_) (fun hc => ?_)
  · have h := h.1 hc
    refine ow_aload_n (pc' := 27) (x := 83) dX12_nextToken_26 rfl rfl ?_
    refine ow_dup (pc' := 28) dX12_nextToken_27 rfl rfl ?_
    refine ow_getf3 (pc' := 31) (t := 0) (ji := 10) (val := N1 83 10) dX12_nextToken_28 fRX12_116 rfl rfl rfl (of_eq_true eo83) eg83_10 ?_
    refine ow_iconst (pc' := 32) (n := 1) dX12_nextToken_31 rfl rfl ?_
    obtain ⟨vv1, h⟩ := h
    refine ow_iadd (pc' := 33) dX12_nextToken_32 vv1 rfl ?_
    refine ow_putf2 (pc' := 36) (t := 0) (ji := 10) dX12_nextToken_33 fRX12_116 rfl rfl rfl rfl (of_eq_true eo83) (of_eq_true en83_10) (fun hz => absurd hz (by decide)) (fun N2 eN2 => ?_)
    have h := h N2 eN2
    refine ow_goto (tg := 0) dX12_nextToken_36 rfl ?_
    exact h
  · have h := h.2 hc
    refine ow_aload_n (pc' := 14) (x := 83) dX12_nextToken_13 rfl rfl ?_
    refine ow_aload_n (pc' := 15) (x := 83) dX12_nextToken_14 rfl rfl ?_
    refine ow_getf3 (pc' := 18) (t := 0) (ji := 10) (val := N1 83 10) dX12_nextToken_15 fRX12_116 rfl rfl rfl (of_eq_true eo83) eg83_10 ?_
    refine ow_callVp (z := mX12_byteAt) (n := 1) (k := 12) (vs := [(0, N1 83 10)]) (x := 83) (st := []) (pc' := 21) (b1 := (0, 0)) (b2 := (0, 0)) dX12_nextToken_18 lRX12_119 kX12_byteAt iX12_byteAt rfl rfl rfl rfl rfl rfl (of_eq_true eo83) (ow_Sp.mono h (fun r3 N3 h => ?_))
    refine ow_bipush (pc' := 23) (n := 10) dX12_nextToken_21 rfl rfl ?_
    refine ow_icmpne (pc' := 26) (tg := 39) dX12_nextToken_23 rfl rfl (fun hc => ?_) (fun hc => ?_)
    · have h := h.1 hc
      refine ow_aload_n (pc' := 40) (x := 83) dX12_nextToken_39 rfl rfl ?_
      refine ow_aload_n (pc' := 41) (x := 83) dX12_nextToken_40 rfl rfl ?_
      refine ow_getf3 (pc' := 44) (t := 0) (ji := 10) (val := N3 83 10) dX12_nextToken_41 fRX12_116 rfl rfl rfl (of_eq_true eo83) eg83_10 ?_
      refine ow_putf2 (pc' := 47) (t := 0) (ji := 11) dX12_nextToken_44 fRX12_122 rfl rfl rfl rfl (of_eq_true eo83) (of_eq_true en83_11) (fun hz => absurd hz (by decide)) (fun N4 eN4 => ?_)
      have h := h N4 eN4
      refine ow_aload_n (pc' := 48) (x := 83) dX12_nextToken_47 rfl rfl ?_
      refine ow_aload_n (pc' := 49) (x := 83) dX12_nextToken_48 rfl rfl ?_
      refine ow_getf3 (pc' := 52) (t := 0) (ji := 10) (val := N4 83 10) dX12_nextToken_49 fRX12_116 rfl rfl rfl (of_eq_true eo83) eg83_10 ?_
      refine ow_callVp (z := mX12_byteAt) (n := 1) (k := 12) (vs := [(0, N4 83 10)]) (x := 83) (st := []) (pc' := 55) (b1 := (0, 0)) (b2 := (0, 0)) dX12_nextToken_52 lRX12_119 kX12_byteAt iX12_byteAt rfl rfl rfl rfl rfl rfl (of_eq_true eo83) (ow_Sp.mono h (fun r5 N5 h => ?_))
      refine ow_istore_n (pc' := 56) (lv' := [(0, (3, 83)), (1, (0, r5))]) dX12_nextToken_55 rfl rfl rfl ?_
      refine ow_iload_n (pc' := 57) (x := r5) dX12_nextToken_56 rfl rfl ?_
      refine ow_ifge (pc' := 60) (tg := 68) dX12_nextToken_57 rfl rfl (fun hc => ?_) (fun hc => ?_)
      · have h := h.1 hc
        refine ow_iload_n (pc' := 69) (x := r5) dX12_nextToken_68 rfl rfl ?_
        refine ow_callSp (z := mX12_isDigit) (n := 1) (vs := [(0, r5)]) (st := []) (pc' := 72) (b1 := (0, 0)) (b2 := (0, 0)) dX12_nextToken_69 lRX12_128 kX12_isDigit zX12_isDigit rfl rfl rfl rfl rfl rfl (ow_Sp.mono h (fun r6 N6 h => ?_))
        refine ow_ifeq (pc' := 75) (tg := 144) dX12_nextToken_72 rfl rfl (fun hc => ?_) (fun hc => ?_)
        · have h := h.1 hc
          refine ow_iload_n (pc' := 145) (x := r5) dX12_nextToken_144 rfl rfl ?_
          refine ow_callSp (z := mX12_isLetter) (n := 1) (vs := [(0, r5)]) (st := []) (pc' := 148) (b1 := (0, 0)) (b2 := (0, 0)) dX12_nextToken_145 lRX12_135 kX12_isLetter zX12_isLetter rfl rfl rfl rfl rfl rfl (ow_Sp.mono h (fun r7 N7 h => ?_))
          refine ow_ifeq (pc' := 151) (tg := 245) dX12_nextToken_148 rfl rfl (fun hc => ?_) (fun hc => ?_)
          · have h := h.1 hc
            refine ow_aload_n (pc' := 246) (x := 83) dX12_nextToken_245 rfl rfl ?_
            refine ow_dup (pc' := 247) dX12_nextToken_246 rfl rfl ?_
            refine ow_getf3 (pc' := 250) (t := 0) (ji := 10) (val := N7 83 10) dX12_nextToken_247 fRX12_116 rfl rfl rfl (of_eq_true eo83) eg83_10 ?_
            refine ow_iconst (pc' := 251) (n := 1) dX12_nextToken_250 rfl rfl ?_
            obtain ⟨vv2, h⟩ := h
            refine ow_iadd (pc' := 252) dX12_nextToken_251 vv2 rfl ?_
            refine ow_putf2 (pc' := 255) (t := 0) (ji := 10) dX12_nextToken_252 fRX12_116 rfl rfl rfl rfl (of_eq_true eo83) (of_eq_true en83_10) (fun hz => absurd hz (by decide)) (fun N8 eN8 => ?_)
            have h := h N8 eN8
            refine ow_iload_n (pc' := 256) (x := r5) dX12_nextToken_255 rfl rfl ?_
            refine ow_bipush (pc' := 258) (n := 60) dX12_nextToken_256 rfl rfl ?_
            refine ow_icmpeq (pc' := 261) (tg := 321) dX12_nextToken_258 rfl rfl (fun hc => ?_) (fun hc => ?_)
            · have h := h.1 hc
              refine ow_iconst (pc' := 322) (n := 1) dX12_nextToken_321 rfl rfl ?_
              refine ow_goto (tg := 326) dX12_nextToken_322 rfl ?_
              exact h
            · have h := h.2 hc
              refine ow_iload_n (pc' := 262) (x := r5) dX12_nextToken_261 rfl rfl ?_
              refine ow_bipush (pc' := 264) (n := 62) dX12_nextToken_262 rfl rfl ?_
              refine ow_icmpeq (pc' := 267) (tg := 321) dX12_nextToken_264 rfl rfl (fun hc => ?_) (fun hc => ?_)
              · have h := h.1 hc
                refine ow_iconst (pc' := 322) (n := 1) dX12_nextToken_321 rfl rfl ?_
                refine ow_goto (tg := 326) dX12_nextToken_322 rfl ?_
                exact h
              · have h := h.2 hc
                refine ow_iload_n (pc' := 268) (x := r5) dX12_nextToken_267 rfl rfl ?_
                refine ow_bipush (pc' := 270) (n := 61) dX12_nextToken_268 rfl rfl ?_
                refine ow_icmpeq (pc' := 273) (tg := 321) dX12_nextToken_270 rfl rfl (fun hc => ?_) (fun hc => ?_)
                · have h := h.1 hc
                  refine ow_iconst (pc' := 322) (n := 1) dX12_nextToken_321 rfl rfl ?_
                  refine ow_goto (tg := 326) dX12_nextToken_322 rfl ?_
                  exact h
                · have h := h.2 hc
                  refine ow_iload_n (pc' := 274) (x := r5) dX12_nextToken_273 rfl rfl ?_
                  refine ow_bipush (pc' := 276) (n := 35) dX12_nextToken_274 rfl rfl ?_
                  refine ow_icmpeq (pc' := 279) (tg := 321) dX12_nextToken_276 rfl rfl (fun hc => ?_) (fun hc => ?_)
                  · have h := h.1 hc
                    refine ow_iconst (pc' := 322) (n := 1) dX12_nextToken_321 rfl rfl ?_
                    refine ow_goto (tg := 326) dX12_nextToken_322 rfl ?_
                    exact h
                  · have h := h.2 hc
                    refine ow_iload_n (pc' := 280) (x := r5) dX12_nextToken_279 rfl rfl ?_
                    refine ow_bipush (pc' := 282) (n := 43) dX12_nextToken_280 rfl rfl ?_
                    refine ow_icmpeq (pc' := 285) (tg := 321) dX12_nextToken_282 rfl rfl (fun hc => ?_) (fun hc => ?_)
                    · have h := h.1 hc
                      refine ow_iconst (pc' := 322) (n := 1) dX12_nextToken_321 rfl rfl ?_
                      refine ow_goto (tg := 326) dX12_nextToken_322 rfl ?_
                      exact h
                    · have h := h.2 hc
                      refine ow_iload_n (pc' := 286) (x := r5) dX12_nextToken_285 rfl rfl ?_
                      refine ow_bipush (pc' := 288) (n := 45) dX12_nextToken_286 rfl rfl ?_
                      refine ow_icmpeq (pc' := 291) (tg := 321) dX12_nextToken_288 rfl rfl (fun hc => ?_) (fun hc => ?_)
                      · have h := h.1 hc
                        refine ow_iconst (pc' := 322) (n := 1) dX12_nextToken_321 rfl rfl ?_
                        refine ow_goto (tg := 326) dX12_nextToken_322 rfl ?_
                        exact h
                      · have h := h.2 hc
                        refine ow_iload_n (pc' := 292) (x := r5) dX12_nextToken_291 rfl rfl ?_
                        refine ow_bipush (pc' := 294) (n := 42) dX12_nextToken_292 rfl rfl ?_
                        refine ow_icmpeq (pc' := 297) (tg := 321) dX12_nextToken_294 rfl rfl (fun hc => ?_) (fun hc => ?_)
                        · have h := h.1 hc
                          refine ow_iconst (pc' := 322) (n := 1) dX12_nextToken_321 rfl rfl ?_
                          refine ow_goto (tg := 326) dX12_nextToken_322 rfl ?_
                          exact h
                        · have h := h.2 hc
                          refine ow_iload_n (pc' := 298) (x := r5) dX12_nextToken_297 rfl rfl ?_
                          refine ow_bipush (pc' := 300) (n := 47) dX12_nextToken_298 rfl rfl ?_
                          refine ow_icmpeq (pc' := 303) (tg := 321) dX12_nextToken_300 rfl rfl (fun hc => ?_) (fun hc => ?_)
                          · have h := h.1 hc
                            refine ow_iconst (pc' := 322) (n := 1) dX12_nextToken_321 rfl rfl ?_
                            refine ow_goto (tg := 326) dX12_nextToken_322 rfl ?_
                            exact h
                          · have h := h.2 hc
                            refine ow_iload_n (pc' := 304) (x := r5) dX12_nextToken_303 rfl rfl ?_
                            refine ow_bipush (pc' := 306) (n := 40) dX12_nextToken_304 rfl rfl ?_
                            refine ow_icmpeq (pc' := 309) (tg := 321) dX12_nextToken_306 rfl rfl (fun hc => ?_) (fun hc => ?_)
                            · have h := h.1 hc
                              refine ow_iconst (pc' := 322) (n := 1) dX12_nextToken_321 rfl rfl ?_
                              refine ow_goto (tg := 326) dX12_nextToken_322 rfl ?_
                              exact h
                            · have h := h.2 hc
                              refine ow_iload_n (pc' := 310) (x := r5) dX12_nextToken_309 rfl rfl ?_
                              refine ow_bipush (pc' := 312) (n := 41) dX12_nextToken_310 rfl rfl ?_
                              refine ow_icmpeq (pc' := 315) (tg := 321) dX12_nextToken_312 rfl rfl (fun hc => ?_) (fun hc => ?_)
                              · have h := h.1 hc
                                refine ow_iconst (pc' := 322) (n := 1) dX12_nextToken_321 rfl rfl ?_
                                refine ow_goto (tg := 326) dX12_nextToken_322 rfl ?_
                                exact h
                              · have h := h.2 hc
                                refine ow_iload_n (pc' := 316) (x := r5) dX12_nextToken_315 rfl rfl ?_
                                refine ow_bipush (pc' := 318) (n := 59) dX12_nextToken_316 rfl rfl ?_
                                refine ow_icmpne (pc' := 321) (tg := 325) dX12_nextToken_318 rfl rfl (fun hc => ?_) (fun hc => ?_)
                                · have h := h.1 hc
                                  refine ow_iconst (pc' := 326) (n := 0) dX12_nextToken_325 rfl rfl ?_
                                  exact h
                                · have h := h.2 hc
                                  refine ow_iconst (pc' := 322) (n := 1) dX12_nextToken_321 rfl rfl ?_
                                  refine ow_goto (tg := 326) dX12_nextToken_322 rfl ?_
                                  exact h
          · have h := h.2 hc
            refine ow_aload_n (pc' := 152) (x := 83) dX12_nextToken_151 rfl rfl ?_
            refine ow_iconst (pc' := 153) (n := 2) dX12_nextToken_152 rfl rfl ?_
            refine ow_putf2 (pc' := 156) (t := 0) (ji := 12) dX12_nextToken_153 fRX12_125 rfl rfl rfl rfl (of_eq_true eo83) (of_eq_true en83_12) (fun hz => absurd hz (by decide)) (fun N9 eN9 => ?_)
            have h := h N9 eN9
            refine ow_aload_n (pc' := 157) (x := 83) dX12_nextToken_156 rfl rfl ?_
            refine ow_lconst (pc' := 158) (i := 0) dX12_nextToken_157 rfl rfl ?_
            refine ow_putf2 (pc' := 161) (t := 1) (ji := 14) dX12_nextToken_158 fRX12_138 rfl rfl rfl rfl (of_eq_true eo83) (of_eq_true en83_14) (fun hz => absurd hz (by decide)) (fun N10 eN10 => ?_)
            have h := h N10 eN10
            refine ow_sub (lv' := [(0, (3, 83))]) [0] rfl ?_
            exact h
        · have h := h.2 hc
          refine ow_aload_n (pc' := 76) (x := 83) dX12_nextToken_75 rfl rfl ?_
          refine ow_iconst (pc' := 77) (n := 1) dX12_nextToken_76 rfl rfl ?_
          refine ow_putf2 (pc' := 80) (t := 0) (ji := 12) dX12_nextToken_77 fRX12_125 rfl rfl rfl rfl (of_eq_true eo83) (of_eq_true en83_12) (fun hz => absurd hz (by decide)) (fun N11 eN11 => ?_)
          have h := h N11 eN11
          refine ow_aload_n (pc' := 81) (x := 83) dX12_nextToken_80 rfl rfl ?_
          refine ow_iconst (pc' := 82) (n := 0) dX12_nextToken_81 rfl rfl ?_
          refine ow_putf2 (pc' := 85) (t := 0) (ji := 13) dX12_nextToken_82 fRX12_131 rfl rfl rfl rfl (of_eq_true eo83) (of_eq_true en83_13) (fun hz => absurd hz (by decide)) (fun N12 eN12 => ?_)
          have h := h N12 eN12
          refine ow_sub (lv' := [(0, (3, 83))]) [0] rfl ?_
          exact h
      · have h := h.2 hc
        refine ow_aload_n (pc' := 61) (x := 83) dX12_nextToken_60 rfl rfl ?_
        refine ow_iconst (pc' := 62) (n := 0) dX12_nextToken_61 rfl rfl ?_
        refine ow_putf2 (pc' := 65) (t := 0) (ji := 12) dX12_nextToken_62 fRX12_125 rfl rfl rfl rfl (of_eq_true eo83) (of_eq_true en83_12) (fun hz => absurd hz (by decide)) (fun N13 eN13 => ?_)
        have h := h N13 eN13
        refine ow_goto (tg := 390) dX12_nextToken_65 rfl ?_
        exact ow_vret dX12_nextToken_390 rfl rfl h
    · have h := h.2 hc
      refine ow_aload_n (pc' := 27) (x := 83) dX12_nextToken_26 rfl rfl ?_
      refine ow_dup (pc' := 28) dX12_nextToken_27 rfl rfl ?_
      refine ow_getf3 (pc' := 31) (t := 0) (ji := 10) (val := N3 83 10) dX12_nextToken_28 fRX12_116 rfl rfl rfl (of_eq_true eo83) eg83_10 ?_
      refine ow_iconst (pc' := 32) (n := 1) dX12_nextToken_31 rfl rfl ?_
      obtain ⟨vv3, h⟩ := h
      refine ow_iadd (pc' := 33) dX12_nextToken_32 vv3 rfl ?_
      refine ow_putf2 (pc' := 36) (t := 0) (ji := 10) dX12_nextToken_33 fRX12_116 rfl rfl rfl rfl (of_eq_true eo83) (of_eq_true en83_10) (fun hz => absurd hz (by decide)) (fun N14 eN14 => ?_)
      have h := h N14 eN14
      refine ow_goto (tg := 0) dX12_nextToken_36 rfl ?_
      exact h
set_option maxRecDepth 20000 in
theorem cX12_nextToken_326 {C : ow_C} {A L N : Int} {d : Nat} {M : ow_M} {K : Int → ow_M → Prop} {l1 s0 : Int} (h : (s0 = 0 → ow_At C (EM A L N) (d + 1) mX12_nextToken 337 [(0, (3, 83)), (1, (0, l1))] [(0, 3), (3, 83)] (0, 0) M K) ∧ (s0 ≠ 0 → ow_At C (EM A L N) (d + 1) mX12_nextToken 337 [(0, (3, 83)), (1, (0, l1))] [(0, l1), (3, 83)] (0, 0) M K)) : ow_At C (EM A L N) (d + 1) mX12_nextToken 326 [(0, (3, 83)), (1, (0, l1))] [(0, s0)] (0, 0) M K := by
  refine ow_istore_n (pc' := 327) (lv' := [(0, (3, 83)), (1, (0, l1)), (2, (0, s0))]) dX12_nextToken_326 rfl rfl rfl ?_
  refine ow_aload_n (pc' := 328) (x := 83) dX12_nextToken_327 rfl rfl ?_
  refine ow_iload_n (pc' := 329) (x := s0) dX12_nextToken_328 rfl rfl ?_
  refine ow_ifeq (pc' := 332) (tg := 336) dX12_nextToken_329 rfl rfl (fun hc => ?_) (fun hc => ?_)
  · have h := h.1 hc
    refine ow_iconst (pc' := 337) (n := 3) dX12_nextToken_336 rfl rfl ?_
    refine ow_sub (lv' := [(0, (3, 83)), (1, (0, l1))]) [0, 1] rfl ?_
    exact h
  · have h := h.2 hc
    refine ow_iload_n (pc' := 333) (x := l1) dX12_nextToken_332 rfl rfl ?_
    refine ow_goto (tg := 337) dX12_nextToken_333 rfl ?_
    refine ow_sub (lv' := [(0, (3, 83)), (1, (0, l1))]) [0, 1] rfl ?_
    exact h
set_option maxRecDepth 20000 in
theorem cX12_nextToken_161 {C : ow_C} {A L N : Int} {d : Nat} {M : ow_M} {K : Int → ow_M → Prop} (h : ow_Sp C (EM A L N) d mX12_byteAt (0, 0) [(3, 83), (0, M 83 10)] M (fun r1 N1 => ow_Sp C (EM A L N) d mX12_isLetter (0, 0) [(0, r1)] N1 (fun r2 N2 => (r2 = 0 → ow_I ((N2 83 10) - (N2 83 11)) ∧ (((N2 83 10) - (N2 83 11)) ≤ 7 → K 0 N2) ∧ (7 < ((N2 83 10) - (N2 83 11)) → ∀ N3, N3 = ow_up N2 83 14 0 → K 0 N3)) ∧ (r2 ≠ 0 → ow_I ((N2 83 10) - (N2 83 11)) ∧ (7 ≤ ((N2 83 10) - (N2 83 11)) → ow_I ((N2 83 10) + 1) ∧ ∀ N4, N4 = ow_up N2 83 10 ((N2 83 10) + 1) → ow_At C (EM A L N) (d + 1) mX12_nextToken 161 [(0, (3, 83))] [] (0, 0) N4 K) ∧ (((N2 83 10) - (N2 83 11)) < 7 → ow_Sp C (EM A L N) d mX12_byteAt (0, 0) [(3, 83), (0, N2 83 10)] N2 (fun r5 N5 => ∀ N6, N6 = ow_up N5 83 14 (ow_lor (ow_lshl (N2 83 14) 8) r5) → ow_I ((N6 83 10) + 1) ∧ ∀ N7, N7 = ow_up N6 83 10 ((N6 83 10) + 1) → ow_At C (EM A L N) (d + 1) mX12_nextToken 161 [(0, (3, 83))] [] (0, 0) N7 K)))))) : ow_At C (EM A L N) (d + 1) mX12_nextToken 161 [(0, (3, 83))] [] (0, 0) M K := by
  refine ow_aload_n (pc' := 162) (x := 83) dX12_nextToken_161 rfl rfl ?_
  refine ow_aload_n (pc' := 163) (x := 83) dX12_nextToken_162 rfl rfl ?_
  refine ow_getf3 (pc' := 166) (t := 0) (ji := 10) (val := M 83 10) dX12_nextToken_163 fRX12_116 rfl rfl rfl (of_eq_true eo83) eg83_10 ?_
  refine ow_callVp (z := mX12_byteAt) (n := 1) (k := 12) (vs := [(0, M 83 10)]) (x := 83) (st := []) (pc' := 169) (b1 := (0, 0)) (b2 := (0, 0)) dX12_nextToken_166 lRX12_119 kX12_byteAt iX12_byteAt rfl rfl rfl rfl rfl rfl (of_eq_true eo83) (ow_Sp.mono h (fun r1 N1 h => ?_))
  refine ow_callSp (z := mX12_isLetter) (n := 1) (vs := [(0, r1)]) (st := []) (pc' := 172) (b1 := (0, 0)) (b2 := (0, 0)) dX12_nextToken_169 lRX12_135 kX12_isLetter zX12_isLetter rfl rfl rfl rfl rfl rfl (ow_Sp.mono h (fun r2 N2 h => ?_))
  refine ow_ifeq (pc' := 175) (tg := 223) dX12_nextToken_172 rfl rfl (fun hc => ?_) (fun hc => ?_)
  · have h := h.1 hc
    refine ow_aload_n (pc' := 224) (x := 83) dX12_nextToken_223 rfl rfl ?_
    refine ow_getf3 (pc' := 227) (t := 0) (ji := 10) (val := N2 83 10) dX12_nextToken_224 fRX12_116 rfl rfl rfl (of_eq_true eo83) eg83_10 ?_
    refine ow_aload_n (pc' := 228) (x := 83) dX12_nextToken_227 rfl rfl ?_
    refine ow_getf3 (pc' := 231) (t := 0) (ji := 11) (val := N2 83 11) dX12_nextToken_228 fRX12_122 rfl rfl rfl (of_eq_true eo83) eg83_11 ?_
    obtain ⟨vv1, h⟩ := h
    refine ow_isub (pc' := 232) dX12_nextToken_231 vv1 rfl ?_
    refine ow_bipush (pc' := 234) (n := 7) dX12_nextToken_232 rfl rfl ?_
    refine ow_icmple (pc' := 237) (tg := 390) dX12_nextToken_234 rfl rfl (fun hc => ?_) (fun hc => ?_)
    · have h := h.1 hc
      exact ow_vret dX12_nextToken_390 rfl rfl h
    · have h := h.2 hc
      refine ow_aload_n (pc' := 238) (x := 83) dX12_nextToken_237 rfl rfl ?_
      refine ow_lconst (pc' := 239) (i := 0) dX12_nextToken_238 rfl rfl ?_
      refine ow_putf2 (pc' := 242) (t := 1) (ji := 14) dX12_nextToken_239 fRX12_138 rfl rfl rfl rfl (of_eq_true eo83) (of_eq_true en83_14) (fun hz => absurd hz (by decide)) (fun N3 eN3 => ?_)
      have h := h N3 eN3
      refine ow_goto (tg := 390) dX12_nextToken_242 rfl ?_
      exact ow_vret dX12_nextToken_390 rfl rfl h
  · have h := h.2 hc
    refine ow_aload_n (pc' := 176) (x := 83) dX12_nextToken_175 rfl rfl ?_
    refine ow_getf3 (pc' := 179) (t := 0) (ji := 10) (val := N2 83 10) dX12_nextToken_176 fRX12_116 rfl rfl rfl (of_eq_true eo83) eg83_10 ?_
    refine ow_aload_n (pc' := 180) (x := 83) dX12_nextToken_179 rfl rfl ?_
    refine ow_getf3 (pc' := 183) (t := 0) (ji := 11) (val := N2 83 11) dX12_nextToken_180 fRX12_122 rfl rfl rfl (of_eq_true eo83) eg83_11 ?_
    obtain ⟨vv2, h⟩ := h
    refine ow_isub (pc' := 184) dX12_nextToken_183 vv2 rfl ?_
    refine ow_bipush (pc' := 186) (n := 7) dX12_nextToken_184 rfl rfl ?_
    refine ow_icmpge (pc' := 189) (tg := 210) dX12_nextToken_186 rfl rfl (fun hc => ?_) (fun hc => ?_)
    · have h := h.1 hc
      refine ow_aload_n (pc' := 211) (x := 83) dX12_nextToken_210 rfl rfl ?_
      refine ow_dup (pc' := 212) dX12_nextToken_211 rfl rfl ?_
      refine ow_getf3 (pc' := 215) (t := 0) (ji := 10) (val := N2 83 10) dX12_nextToken_212 fRX12_116 rfl rfl rfl (of_eq_true eo83) eg83_10 ?_
      refine ow_iconst (pc' := 216) (n := 1) dX12_nextToken_215 rfl rfl ?_
      obtain ⟨vv3, h⟩ := h
      refine ow_iadd (pc' := 217) dX12_nextToken_216 vv3 rfl ?_
      refine ow_putf2 (pc' := 220) (t := 0) (ji := 10) dX12_nextToken_217 fRX12_116 rfl rfl rfl rfl (of_eq_true eo83) (of_eq_true en83_10) (fun hz => absurd hz (by decide)) (fun N4 eN4 => ?_)
      have h := h N4 eN4
      refine ow_goto (tg := 161) dX12_nextToken_220 rfl ?_
      exact h
    · have h := h.2 hc
      refine ow_aload_n (pc' := 190) (x := 83) dX12_nextToken_189 rfl rfl ?_
      refine ow_aload_n (pc' := 191) (x := 83) dX12_nextToken_190 rfl rfl ?_
      refine ow_getf3 (pc' := 194) (t := 1) (ji := 14) (val := N2 83 14) dX12_nextToken_191 fRX12_138 rfl rfl rfl (of_eq_true eo83) eg83_14 ?_
      refine ow_bipush (pc' := 196) (n := 8) dX12_nextToken_194 rfl rfl ?_
      refine ow_jshl (pc' := 197) dX12_nextToken_196 rfl ?_
      refine ow_aload_n (pc' := 198) (x := 83) dX12_nextToken_197 rfl rfl ?_
      refine ow_aload_n (pc' := 199) (x := 83) dX12_nextToken_198 rfl rfl ?_
      refine ow_getf3 (pc' := 202) (t := 0) (ji := 10) (val := N2 83 10) dX12_nextToken_199 fRX12_116 rfl rfl rfl (of_eq_true eo83) eg83_10 ?_
      refine ow_callVp (z := mX12_byteAt) (n := 1) (k := 12) (vs := [(0, N2 83 10)]) (x := 83) (st := [(1, ow_lshl (N2 83 14) 8), (3, 83)]) (pc' := 205) (b1 := (0, 0)) (b2 := (0, 0)) dX12_nextToken_202 lRX12_119 kX12_byteAt iX12_byteAt rfl rfl rfl rfl rfl rfl (of_eq_true eo83) (ow_Sp.mono h (fun r5 N5 h => ?_))
      refine ow_i2L (pc' := 206) dX12_nextToken_205 rfl ?_
      refine ow_jor (pc' := 207) dX12_nextToken_206 rfl ?_
      refine ow_putf2 (pc' := 210) (t := 1) (ji := 14) dX12_nextToken_207 fRX12_138 rfl rfl rfl rfl (of_eq_true eo83) (of_eq_true en83_14) (fun hz => absurd hz (by decide)) (fun N6 eN6 => ?_)
      have h := h N6 eN6
      refine ow_aload_n (pc' := 211) (x := 83) dX12_nextToken_210 rfl rfl ?_
      refine ow_dup (pc' := 212) dX12_nextToken_211 rfl rfl ?_
      refine ow_getf3 (pc' := 215) (t := 0) (ji := 10) (val := N6 83 10) dX12_nextToken_212 fRX12_116 rfl rfl rfl (of_eq_true eo83) eg83_10 ?_
      refine ow_iconst (pc' := 216) (n := 1) dX12_nextToken_215 rfl rfl ?_
      obtain ⟨vv4, h⟩ := h
      refine ow_iadd (pc' := 217) dX12_nextToken_216 vv4 rfl ?_
      refine ow_putf2 (pc' := 220) (t := 0) (ji := 10) dX12_nextToken_217 fRX12_116 rfl rfl rfl rfl (of_eq_true eo83) (of_eq_true en83_10) (fun hz => absurd hz (by decide)) (fun N7 eN7 => ?_)
      have h := h N7 eN7
      refine ow_goto (tg := 161) dX12_nextToken_220 rfl ?_
      exact h
set_option maxRecDepth 20000 in
theorem cX12_nextToken_85 {C : ow_C} {A L N : Int} {d : Nat} {M : ow_M} {K : Int → ow_M → Prop} (h : ow_Sp C (EM A L N) d mX12_byteAt (0, 0) [(3, 83), (0, M 83 10)] M (fun r1 N1 => ow_Sp C (EM A L N) d mX12_isDigit (0, 0) [(0, r1)] N1 (fun r2 N2 => (r2 = 0 → K 0 N2) ∧ (r2 ≠ 0 → (100000 ≤ (N2 83 13) → ow_I ((N2 83 10) + 1) ∧ ∀ N3, N3 = ow_up N2 83 10 ((N2 83 10) + 1) → ow_At C (EM A L N) (d + 1) mX12_nextToken 85 [(0, (3, 83))] [] (0, 0) N3 K) ∧ ((N2 83 13) < 100000 → ow_I (10 * (N2 83 13)) ∧ ow_Sp C (EM A L N) d mX12_byteAt (0, 0) [(3, 83), (0, N2 83 10)] N2 (fun r4 N4 => ow_I ((10 * (N2 83 13)) + r4) ∧ ow_I (((10 * (N2 83 13)) + r4) - 48) ∧ ∀ N5, N5 = ow_up N4 83 13 (((10 * (N2 83 13)) + r4) - 48) → ow_I ((N5 83 10) + 1) ∧ ∀ N6, N6 = ow_up N5 83 10 ((N5 83 10) + 1) → ow_At C (EM A L N) (d + 1) mX12_nextToken 85 [(0, (3, 83))] [] (0, 0) N6 K)))))) : ow_At C (EM A L N) (d + 1) mX12_nextToken 85 [(0, (3, 83))] [] (0, 0) M K := by
  refine ow_aload_n (pc' := 86) (x := 83) dX12_nextToken_85 rfl rfl ?_
  refine ow_aload_n (pc' := 87) (x := 83) dX12_nextToken_86 rfl rfl ?_
  refine ow_getf3 (pc' := 90) (t := 0) (ji := 10) (val := M 83 10) dX12_nextToken_87 fRX12_116 rfl rfl rfl (of_eq_true eo83) eg83_10 ?_
  refine ow_callVp (z := mX12_byteAt) (n := 1) (k := 12) (vs := [(0, M 83 10)]) (x := 83) (st := []) (pc' := 93) (b1 := (0, 0)) (b2 := (0, 0)) dX12_nextToken_90 lRX12_119 kX12_byteAt iX12_byteAt rfl rfl rfl rfl rfl rfl (of_eq_true eo83) (ow_Sp.mono h (fun r1 N1 h => ?_))
  refine ow_callSp (z := mX12_isDigit) (n := 1) (vs := [(0, r1)]) (st := []) (pc' := 96) (b1 := (0, 0)) (b2 := (0, 0)) dX12_nextToken_93 lRX12_128 kX12_isDigit zX12_isDigit rfl rfl rfl rfl rfl rfl (ow_Sp.mono h (fun r2 N2 h => ?_))
  refine ow_ifeq (pc' := 99) (tg := 390) dX12_nextToken_96 rfl rfl (fun hc => ?_) (fun hc => ?_)
  · have h := h.1 hc
    exact ow_vret dX12_nextToken_390 rfl rfl h
  · have h := h.2 hc
    refine ow_aload_n (pc' := 100) (x := 83) dX12_nextToken_99 rfl rfl ?_
    refine ow_getf3 (pc' := 103) (t := 0) (ji := 13) (val := N2 83 13) dX12_nextToken_100 fRX12_131 rfl rfl rfl (of_eq_true eo83) eg83_13 ?_
    refine ow_ldc (pc' := 105) (n := 100000) dX12_nextToken_103 cRX12_134 rfl rfl ?_
    refine ow_icmpge (pc' := 108) (tg := 131) dX12_nextToken_105 rfl rfl (fun hc => ?_) (fun hc => ?_)
    · have h := h.1 hc
      refine ow_aload_n (pc' := 132) (x := 83) dX12_nextToken_131 rfl rfl ?_
      refine ow_dup (pc' := 133) dX12_nextToken_132 rfl rfl ?_
      refine ow_getf3 (pc' := 136) (t := 0) (ji := 10) (val := N2 83 10) dX12_nextToken_133 fRX12_116 rfl rfl rfl (of_eq_true eo83) eg83_10 ?_
      refine ow_iconst (pc' := 137) (n := 1) dX12_nextToken_136 rfl rfl ?_
      obtain ⟨vv1, h⟩ := h
      refine ow_iadd (pc' := 138) dX12_nextToken_137 vv1 rfl ?_
      refine ow_putf2 (pc' := 141) (t := 0) (ji := 10) dX12_nextToken_138 fRX12_116 rfl rfl rfl rfl (of_eq_true eo83) (of_eq_true en83_10) (fun hz => absurd hz (by decide)) (fun N3 eN3 => ?_)
      have h := h N3 eN3
      refine ow_goto (tg := 85) dX12_nextToken_141 rfl ?_
      exact h
    · have h := h.2 hc
      refine ow_aload_n (pc' := 109) (x := 83) dX12_nextToken_108 rfl rfl ?_
      refine ow_bipush (pc' := 111) (n := 10) dX12_nextToken_109 rfl rfl ?_
      refine ow_aload_n (pc' := 112) (x := 83) dX12_nextToken_111 rfl rfl ?_
      refine ow_getf3 (pc' := 115) (t := 0) (ji := 13) (val := N2 83 13) dX12_nextToken_112 fRX12_131 rfl rfl rfl (of_eq_true eo83) eg83_13 ?_
      obtain ⟨vv2, h⟩ := h
      refine ow_imul (pc' := 116) dX12_nextToken_115 vv2 rfl ?_
      refine ow_aload_n (pc' := 117) (x := 83) dX12_nextToken_116 rfl rfl ?_
      refine ow_aload_n (pc' := 118) (x := 83) dX12_nextToken_117 rfl rfl ?_
      refine ow_getf3 (pc' := 121) (t := 0) (ji := 10) (val := N2 83 10) dX12_nextToken_118 fRX12_116 rfl rfl rfl (of_eq_true eo83) eg83_10 ?_
      refine ow_callVp (z := mX12_byteAt) (n := 1) (k := 12) (vs := [(0, N2 83 10)]) (x := 83) (st := [(0, 10 * (N2 83 13)), (3, 83)]) (pc' := 124) (b1 := (0, 0)) (b2 := (0, 0)) dX12_nextToken_121 lRX12_119 kX12_byteAt iX12_byteAt rfl rfl rfl rfl rfl rfl (of_eq_true eo83) (ow_Sp.mono h (fun r4 N4 h => ?_))
      obtain ⟨vv3, h⟩ := h
      refine ow_iadd (pc' := 125) dX12_nextToken_124 vv3 rfl ?_
      refine ow_bipush (pc' := 127) (n := 48) dX12_nextToken_125 rfl rfl ?_
      obtain ⟨vv4, h⟩ := h
      refine ow_isub (pc' := 128) dX12_nextToken_127 vv4 rfl ?_
      refine ow_putf2 (pc' := 131) (t := 0) (ji := 13) dX12_nextToken_128 fRX12_131 rfl rfl rfl rfl (of_eq_true eo83) (of_eq_true en83_13) (fun hz => absurd hz (by decide)) (fun N5 eN5 => ?_)
      have h := h N5 eN5
      refine ow_aload_n (pc' := 132) (x := 83) dX12_nextToken_131 rfl rfl ?_
      refine ow_dup (pc' := 133) dX12_nextToken_132 rfl rfl ?_
      refine ow_getf3 (pc' := 136) (t := 0) (ji := 10) (val := N5 83 10) dX12_nextToken_133 fRX12_116 rfl rfl rfl (of_eq_true eo83) eg83_10 ?_
      refine ow_iconst (pc' := 137) (n := 1) dX12_nextToken_136 rfl rfl ?_
      obtain ⟨vv5, h⟩ := h
      refine ow_iadd (pc' := 138) dX12_nextToken_137 vv5 rfl ?_
      refine ow_putf2 (pc' := 141) (t := 0) (ji := 10) dX12_nextToken_138 fRX12_116 rfl rfl rfl rfl (of_eq_true eo83) (of_eq_true en83_10) (fun hz => absurd hz (by decide)) (fun N6 eN6 => ?_)
      have h := h N6 eN6
      refine ow_goto (tg := 85) dX12_nextToken_141 rfl ?_
      exact h
set_option maxRecDepth 20000 in
theorem cX12_nextToken_337 {C : ow_C} {A L N : Int} {d : Nat} {M : ow_M} {K : Int → ow_M → Prop} {l1 s0 : Int} (h : ∀ N1, N1 = ow_up M 83 12 s0 → (l1 = 60 → ow_At C (EM A L N) (d + 1) mX12_nextToken 352 [(0, (3, 83)), (1, (0, l1))] [] (0, 0) N1 K) ∧ (l1 ≠ 60 → (l1 ≠ 62 → K 0 N1) ∧ (l1 = 62 → ow_At C (EM A L N) (d + 1) mX12_nextToken 352 [(0, (3, 83)), (1, (0, l1))] [] (0, 0) N1 K))) : ow_At C (EM A L N) (d + 1) mX12_nextToken 337 [(0, (3, 83)), (1, (0, l1))] [(0, s0), (3, 83)] (0, 0) M K := by
  refine ow_putf2 (pc' := 340) (t := 0) (ji := 12) dX12_nextToken_337 fRX12_125 rfl rfl rfl rfl (of_eq_true eo83) (of_eq_true en83_12) (fun hz => absurd hz (by decide)) (fun N1 eN1 => ?_)
  have h := h N1 eN1
  refine ow_iload_n (pc' := 341) (x := l1) dX12_nextToken_340 rfl rfl ?_
  refine ow_bipush (pc' := 343) (n := 60) dX12_nextToken_341 rfl rfl ?_
  refine ow_icmpeq (pc' := 346) (tg := 352) dX12_nextToken_343 rfl rfl (fun hc => ?_) (fun hc => ?_)
  · have h := h.1 hc
    exact h
  · have h := h.2 hc
    refine ow_iload_n (pc' := 347) (x := l1) dX12_nextToken_346 rfl rfl ?_
    refine ow_bipush (pc' := 349) (n := 62) dX12_nextToken_347 rfl rfl ?_
    refine ow_icmpne (pc' := 352) (tg := 390) dX12_nextToken_349 rfl rfl (fun hc => ?_) (fun hc => ?_)
    · have h := h.1 hc
      exact ow_vret dX12_nextToken_390 rfl rfl h
    · have h := h.2 hc
      exact h
set_option maxRecDepth 20000 in
theorem cX12_nextToken_352 {C : ow_C} {A L N : Int} {d : Nat} {M : ow_M} {K : Int → ow_M → Prop} {l1 : Int} (h : ow_Sp C (EM A L N) d mX12_byteAt (0, 0) [(3, 83), (0, M 83 10)] M (fun r1 N1 => (r1 ≠ 61 → K 0 N1) ∧ (r1 = 61 → ow_I ((N1 83 10) + 1) ∧ ∀ N2, N2 = ow_up N1 83 10 ((N1 83 10) + 1) → (l1 ≠ 60 → ∀ N3, N3 = ow_up N2 83 12 5 → K 0 N3) ∧ (l1 = 60 → ∀ N4, N4 = ow_up N2 83 12 4 → K 0 N4)))) : ow_At C (EM A L N) (d + 1) mX12_nextToken 352 [(0, (3, 83)), (1, (0, l1))] [] (0, 0) M K := by
  refine ow_aload_n (pc' := 353) (x := 83) dX12_nextToken_352 rfl rfl ?_
  refine ow_aload_n (pc' := 354) (x := 83) dX12_nextToken_353 rfl rfl ?_
  refine ow_getf3 (pc' := 357) (t := 0) (ji := 10) (val := M 83 10) dX12_nextToken_354 fRX12_116 rfl rfl rfl (of_eq_true eo83) eg83_10 ?_
  refine ow_callVp (z := mX12_byteAt) (n := 1) (k := 12) (vs := [(0, M 83 10)]) (x := 83) (st := []) (pc' := 360) (b1 := (0, 0)) (b2 := (0, 0)) dX12_nextToken_357 lRX12_119 kX12_byteAt iX12_byteAt rfl rfl rfl rfl rfl rfl (of_eq_true eo83) (ow_Sp.mono h (fun r1 N1 h => ?_))
  refine ow_bipush (pc' := 362) (n := 61) dX12_nextToken_360 rfl rfl ?_
  refine ow_icmpne (pc' := 365) (tg := 390) dX12_nextToken_362 rfl rfl (fun hc => ?_) (fun hc => ?_)
  · have h := h.1 hc
    exact ow_vret dX12_nextToken_390 rfl rfl h
  · have h := h.2 hc
    refine ow_aload_n (pc' := 366) (x := 83) dX12_nextToken_365 rfl rfl ?_
    refine ow_dup (pc' := 367) dX12_nextToken_366 rfl rfl ?_
    refine ow_getf3 (pc' := 370) (t := 0) (ji := 10) (val := N1 83 10) dX12_nextToken_367 fRX12_116 rfl rfl rfl (of_eq_true eo83) eg83_10 ?_
    refine ow_iconst (pc' := 371) (n := 1) dX12_nextToken_370 rfl rfl ?_
    obtain ⟨vv1, h⟩ := h
    refine ow_iadd (pc' := 372) dX12_nextToken_371 vv1 rfl ?_
    refine ow_putf2 (pc' := 375) (t := 0) (ji := 10) dX12_nextToken_372 fRX12_116 rfl rfl rfl rfl (of_eq_true eo83) (of_eq_true en83_10) (fun hz => absurd hz (by decide)) (fun N2 eN2 => ?_)
    have h := h N2 eN2
    refine ow_aload_n (pc' := 376) (x := 83) dX12_nextToken_375 rfl rfl ?_
    refine ow_iload_n (pc' := 377) (x := l1) dX12_nextToken_376 rfl rfl ?_
    refine ow_bipush (pc' := 379) (n := 60) dX12_nextToken_377 rfl rfl ?_
    refine ow_icmpne (pc' := 382) (tg := 386) dX12_nextToken_379 rfl rfl (fun hc => ?_) (fun hc => ?_)
    · have h := h.1 hc
      refine ow_iconst (pc' := 387) (n := 5) dX12_nextToken_386 rfl rfl ?_
      refine ow_putf2 (pc' := 390) (t := 0) (ji := 12) dX12_nextToken_387 fRX12_125 rfl rfl rfl rfl (of_eq_true eo83) (of_eq_true en83_12) (fun hz => absurd hz (by decide)) (fun N3 eN3 => ?_)
      have h := h N3 eN3
      exact ow_vret dX12_nextToken_390 rfl rfl h
    · have h := h.2 hc
      refine ow_iconst (pc' := 383) (n := 4) dX12_nextToken_382 rfl rfl ?_
      refine ow_goto (tg := 387) dX12_nextToken_383 rfl ?_
      refine ow_putf2 (pc' := 390) (t := 0) (ji := 12) dX12_nextToken_387 fRX12_125 rfl rfl rfl rfl (of_eq_true eo83) (of_eq_true en83_12) (fun hz => absurd hz (by decide)) (fun N4 eN4 => ?_)
      have h := h N4 eN4
      exact ow_vret dX12_nextToken_390 rfl rfl h
theorem fX12_nextToken {C : ow_C} {A L N : Int} {d : Nat} {M : ow_M} {K : Int → ow_M → Prop} (h : ow_Sp C (EM A L N) d mX12_byteAt (0, 0) [(3, 83), (0, M 83 10)] M (fun r1 N1 => (r1 = 32 → ow_I ((N1 83 10) + 1) ∧ ∀ N2, N2 = ow_up N1 83 10 ((N1 83 10) + 1) → ow_At C (EM A L N) (d + 1) mX12_nextToken 0 [(0, (3, 83))] [] (0, 0) N2 K) ∧ (r1 ≠ 32 → ow_Sp C (EM A L N) d mX12_byteAt (0, 0) [(3, 83), (0, N1 83 10)] N1 (fun r3 N3 => (r3 ≠ 10 → ∀ N4, N4 = ow_up N3 83 11 (N3 83 10) → ow_Sp C (EM A L N) d mX12_byteAt (0, 0) [(3, 83), (0, N4 83 10)] N4 (fun r5 N5 => (0 ≤ r5 → ow_Sp C (EM A L N) d mX12_isDigit (0, 0) [(0, r5)] N5 (fun r6 N6 => (r6 = 0 → ow_Sp C (EM A L N) d mX12_isLetter (0, 0) [(0, r5)] N6 (fun r7 N7 => (r7 = 0 → ow_I ((N7 83 10) + 1) ∧ ∀ N8, N8 = ow_up N7 83 10 ((N7 83 10) + 1) → (r5 = 60 → ow_At C (EM A L N) (d + 1) mX12_nextToken 326 [(0, (3, 83)), (1, (0, r5))] [(0, 1)] (0, 0) N8 K) ∧ (r5 ≠ 60 → (r5 = 62 → ow_At C (EM A L N) (d + 1) mX12_nextToken 326 [(0, (3, 83)), (1, (0, r5))] [(0, 1)] (0, 0) N8 K) ∧ (r5 ≠ 62 → (r5 = 61 → ow_At C (EM A L N) (d + 1) mX12_nextToken 326 [(0, (3, 83)), (1, (0, r5))] [(0, 1)] (0, 0) N8 K) ∧ (r5 ≠ 61 → (r5 = 35 → ow_At C (EM A L N) (d + 1) mX12_nextToken 326 [(0, (3, 83)), (1, (0, r5))] [(0, 1)] (0, 0) N8 K) ∧ (r5 ≠ 35 → (r5 = 43 → ow_At C (EM A L N) (d + 1) mX12_nextToken 326 [(0, (3, 83)), (1, (0, r5))] [(0, 1)] (0, 0) N8 K) ∧ (r5 ≠ 43 → (r5 = 45 → ow_At C (EM A L N) (d + 1) mX12_nextToken 326 [(0, (3, 83)), (1, (0, r5))] [(0, 1)] (0, 0) N8 K) ∧ (r5 ≠ 45 → (r5 = 42 → ow_At C (EM A L N) (d + 1) mX12_nextToken 326 [(0, (3, 83)), (1, (0, r5))] [(0, 1)] (0, 0) N8 K) ∧ (r5 ≠ 42 → (r5 = 47 → ow_At C (EM A L N) (d + 1) mX12_nextToken 326 [(0, (3, 83)), (1, (0, r5))] [(0, 1)] (0, 0) N8 K) ∧ (r5 ≠ 47 → (r5 = 40 → ow_At C (EM A L N) (d + 1) mX12_nextToken 326 [(0, (3, 83)), (1, (0, r5))] [(0, 1)] (0, 0) N8 K) ∧ (r5 ≠ 40 → (r5 = 41 → ow_At C (EM A L N) (d + 1) mX12_nextToken 326 [(0, (3, 83)), (1, (0, r5))] [(0, 1)] (0, 0) N8 K) ∧ (r5 ≠ 41 → (r5 ≠ 59 → ow_At C (EM A L N) (d + 1) mX12_nextToken 326 [(0, (3, 83)), (1, (0, r5))] [(0, 0)] (0, 0) N8 K) ∧ (r5 = 59 → ow_At C (EM A L N) (d + 1) mX12_nextToken 326 [(0, (3, 83)), (1, (0, r5))] [(0, 1)] (0, 0) N8 K)))))))))))) ∧ (r7 ≠ 0 → ∀ N9, N9 = ow_up N7 83 12 2 → ∀ N10, N10 = ow_up N9 83 14 0 → ow_At C (EM A L N) (d + 1) mX12_nextToken 161 [(0, (3, 83))] [] (0, 0) N10 K))) ∧ (r6 ≠ 0 → ∀ N11, N11 = ow_up N6 83 12 1 → ∀ N12, N12 = ow_up N11 83 13 0 → ow_At C (EM A L N) (d + 1) mX12_nextToken 85 [(0, (3, 83))] [] (0, 0) N12 K))) ∧ (r5 < 0 → ∀ N13, N13 = ow_up N5 83 12 0 → K 0 N13))) ∧ (r3 = 10 → ow_I ((N3 83 10) + 1) ∧ ∀ N14, N14 = ow_up N3 83 10 ((N3 83 10) + 1) → ow_At C (EM A L N) (d + 1) mX12_nextToken 0 [(0, (3, 83))] [] (0, 0) N14 K))))) : ow_Sp C (EM A L N) (d + 1) mX12_nextToken (0, 0) [(3, 83)] M K := ow_enter (by decide +kernel) rfl rfl (cX12_nextToken_0 h)
set_option maxRecDepth 20000 in
theorem cX12_w3_0 {C : ow_C} {A L N : Int} {d : Nat} {M : ow_M} {K : Int → ow_M → Prop} {l0 l1 l2 : Int} (h : K (ow_lor (ow_lshl (ow_lor (ow_lshl l0 8) l1) 8) l2) M) : ow_At C (EM A L N) d mX12_w3 0 [(0, (0, l0)), (1, (0, l1)), (2, (0, l2))] [] (0, 0) M K := by
  refine ow_iload_n (pc' := 1) (x := l0) dX12_w3_0 rfl rfl ?_
  refine ow_i2L (pc' := 2) dX12_w3_1 rfl ?_
  refine ow_bipush (pc' := 4) (n := 8) dX12_w3_2 rfl rfl ?_
  refine ow_jshl (pc' := 5) dX12_w3_4 rfl ?_
  refine ow_iload_n (pc' := 6) (x := l1) dX12_w3_5 rfl rfl ?_
  refine ow_i2L (pc' := 7) dX12_w3_6 rfl ?_
  refine ow_jor (pc' := 8) dX12_w3_7 rfl ?_
  refine ow_bipush (pc' := 10) (n := 8) dX12_w3_8 rfl rfl ?_
  refine ow_jshl (pc' := 11) dX12_w3_10 rfl ?_
  refine ow_iload_n (pc' := 12) (x := l2) dX12_w3_11 rfl rfl ?_
  refine ow_i2L (pc' := 13) dX12_w3_12 rfl ?_
  refine ow_jor (pc' := 14) dX12_w3_13 rfl ?_
  exact ow_lret dX12_w3_14 rfl rfl h
theorem fX12_w3 {C : ow_C} {A L N : Int} {d : Nat} {M : ow_M} {K : Int → ow_M → Prop} {l0 l1 l2 : Int} (h : K (ow_lor (ow_lshl (ow_lor (ow_lshl l0 8) l1) 8) l2) M) : ow_Sp C (EM A L N) d mX12_w3 (0, 0) [(0, l0), (0, l1), (0, l2)] M K := ow_enter (by decide +kernel) rfl rfl (cX12_w3_0 h)
set_option maxRecDepth 20000 in
theorem cX12_w5_0 {C : ow_C} {A L N : Int} {d : Nat} {M : ow_M} {K : Int → ow_M → Prop} {l0 l1 l2 l3 l4 : Int} (h : ow_Sp C (EM A L N) d mX12_w3 (0, 0) [(0, l0), (0, l1), (0, l2)] M (fun r1 N1 => K (ow_lor (ow_lshl (ow_lor (ow_lshl r1 8) l3) 8) l4) N1)) : ow_At C (EM A L N) (d + 1) mX12_w5 0 [(0, (0, l0)), (1, (0, l1)), (2, (0, l2)), (3, (0, l3)), (4, (0, l4))] [] (0, 0) M K := by
  refine ow_iload_n (pc' := 1) (x := l0) dX12_w5_0 rfl rfl ?_
  refine ow_iload_n (pc' := 2) (x := l1) dX12_w5_1 rfl rfl ?_
  refine ow_iload_n (pc' := 3) (x := l2) dX12_w5_2 rfl rfl ?_
  refine ow_callSp (z := mX12_w3) (n := 3) (vs := [(0, l0), (0, l1), (0, l2)]) (st := []) (pc' := 6) (b1 := (0, 0)) (b2 := (0, 0)) dX12_w5_3 lRX12_142 kX12_w3 zX12_w3 rfl rfl rfl rfl rfl rfl (ow_Sp.mono h (fun r1 N1 h => ?_))
  refine ow_bipush (pc' := 8) (n := 8) dX12_w5_6 rfl rfl ?_
  refine ow_jshl (pc' := 9) dX12_w5_8 rfl ?_
  refine ow_iload_n (pc' := 10) (x := l3) dX12_w5_9 rfl rfl ?_
  refine ow_i2L (pc' := 11) dX12_w5_10 rfl ?_
  refine ow_jor (pc' := 12) dX12_w5_11 rfl ?_
  refine ow_bipush (pc' := 14) (n := 8) dX12_w5_12 rfl rfl ?_
  refine ow_jshl (pc' := 15) dX12_w5_14 rfl ?_
  refine ow_iload (pc' := 17) (x := l4) dX12_w5_15 rfl rfl ?_
  refine ow_i2L (pc' := 18) dX12_w5_17 rfl ?_
  refine ow_jor (pc' := 19) dX12_w5_18 rfl ?_
  exact ow_lret dX12_w5_19 rfl rfl h
theorem fX12_w5 {C : ow_C} {A L N : Int} {d : Nat} {M : ow_M} {K : Int → ow_M → Prop} {l0 l1 l2 l3 l4 : Int} (h : ow_Sp C (EM A L N) d mX12_w3 (0, 0) [(0, l0), (0, l1), (0, l2)] M (fun r1 N1 => K (ow_lor (ow_lshl (ow_lor (ow_lshl r1 8) l3) 8) l4) N1)) : ow_Sp C (EM A L N) (d + 1) mX12_w5 (0, 0) [(0, l0), (0, l1), (0, l2), (0, l3), (0, l4)] M K := ow_enter (by decide +kernel) rfl rfl (cX12_w5_0 h)
set_option maxRecDepth 20000 in
theorem cX12_w4_0 {C : ow_C} {A L N : Int} {d : Nat} {M : ow_M} {K : Int → ow_M → Prop} {l0 l1 l2 l3 : Int} (h : ow_Sp C (EM A L N) d mX12_w3 (0, 0) [(0, l0), (0, l1), (0, l2)] M (fun r1 N1 => K (ow_lor (ow_lshl r1 8) l3) N1)) : ow_At C (EM A L N) (d + 1) mX12_w4 0 [(0, (0, l0)), (1, (0, l1)), (2, (0, l2)), (3, (0, l3))] [] (0, 0) M K := by
  refine ow_iload_n (pc' := 1) (x := l0) dX12_w4_0 rfl rfl ?_
  refine ow_iload_n (pc' := 2) (x := l1) dX12_w4_1 rfl rfl ?_
  refine ow_iload_n (pc' := 3) (x := l2) dX12_w4_2 rfl rfl ?_
  refine ow_callSp (z := mX12_w3) (n := 3) (vs := [(0, l0), (0, l1), (0, l2)]) (st := []) (pc' := 6) (b1 := (0, 0)) (b2 := (0, 0)) dX12_w4_3 lRX12_142 kX12_w3 zX12_w3 rfl rfl rfl rfl rfl rfl (ow_Sp.mono h (fun r1 N1 h => ?_))
  refine ow_bipush (pc' := 8) (n := 8) dX12_w4_6 rfl rfl ?_
  refine ow_jshl (pc' := 9) dX12_w4_8 rfl ?_
  refine ow_iload_n (pc' := 10) (x := l3) dX12_w4_9 rfl rfl ?_
  refine ow_i2L (pc' := 11) dX12_w4_10 rfl ?_
  refine ow_jor (pc' := 12) dX12_w4_11 rfl ?_
  exact ow_lret dX12_w4_12 rfl rfl h
theorem fX12_w4 {C : ow_C} {A L N : Int} {d : Nat} {M : ow_M} {K : Int → ow_M → Prop} {l0 l1 l2 l3 : Int} (h : ow_Sp C (EM A L N) d mX12_w3 (0, 0) [(0, l0), (0, l1), (0, l2)] M (fun r1 N1 => K (ow_lor (ow_lshl r1 8) l3) N1)) : ow_Sp C (EM A L N) (d + 1) mX12_w4 (0, 0) [(0, l0), (0, l1), (0, l2), (0, l3)] M K := ow_enter (by decide +kernel) rfl rfl (cX12_w4_0 h)
set_option maxRecDepth 20000 in
theorem cX12_w6_0 {C : ow_C} {A L N : Int} {d : Nat} {M : ow_M} {K : Int → ow_M → Prop} {l0 l1 l2 l3 l4 l5 : Int} (h : ow_Sp C (EM A L N) d mX12_w5 (0, 0) [(0, l0), (0, l1), (0, l2), (0, l3), (0, l4)] M (fun r1 N1 => K (ow_lor (ow_lshl r1 8) l5) N1)) : ow_At C (EM A L N) (d + 1) mX12_w6 0 [(0, (0, l0)), (1, (0, l1)), (2, (0, l2)), (3, (0, l3)), (4, (0, l4)), (5, (0, l5))] [] (0, 0) M K := by
  refine ow_iload_n (pc' := 1) (x := l0) dX12_w6_0 rfl rfl ?_
  refine ow_iload_n (pc' := 2) (x := l1) dX12_w6_1 rfl rfl ?_
  refine ow_iload_n (pc' := 3) (x := l2) dX12_w6_2 rfl rfl ?_
  refine ow_iload_n (pc' := 4) (x := l3) dX12_w6_3 rfl rfl ?_
  refine ow_iload (pc' := 6) (x := l4) dX12_w6_4 rfl rfl ?_
  refine ow_callSp (z := mX12_w5) (n := 5) (vs := [(0, l0), (0, l1), (0, l2), (0, l3), (0, l4)]) (st := []) (pc' := 9) (b1 := (0, 0)) (b2 := (0, 0)) dX12_w6_6 lRX12_146 kX12_w5 zX12_w5 rfl rfl rfl rfl rfl rfl (ow_Sp.mono h (fun r1 N1 h => ?_))
  refine ow_bipush (pc' := 11) (n := 8) dX12_w6_9 rfl rfl ?_
  refine ow_jshl (pc' := 12) dX12_w6_11 rfl ?_
  refine ow_iload (pc' := 14) (x := l5) dX12_w6_12 rfl rfl ?_
  refine ow_i2L (pc' := 15) dX12_w6_14 rfl ?_
  refine ow_jor (pc' := 16) dX12_w6_15 rfl ?_
  exact ow_lret dX12_w6_16 rfl rfl h
theorem fX12_w6 {C : ow_C} {A L N : Int} {d : Nat} {M : ow_M} {K : Int → ow_M → Prop} {l0 l1 l2 l3 l4 l5 : Int} (h : ow_Sp C (EM A L N) d mX12_w5 (0, 0) [(0, l0), (0, l1), (0, l2), (0, l3), (0, l4)] M (fun r1 N1 => K (ow_lor (ow_lshl r1 8) l5) N1)) : ow_Sp C (EM A L N) (d + 1) mX12_w6 (0, 0) [(0, l0), (0, l1), (0, l2), (0, l3), (0, l4), (0, l5)] M K := ow_enter (by decide +kernel) rfl rfl (cX12_w6_0 h)
set_option maxRecDepth 20000 in
theorem cX12_isWord_0 {C : ow_C} {A L N : Int} {d : Nat} {M : ow_M} {K : Int → ow_M → Prop} {l1 : Int} (h : ((M 83 12) ≠ 2 → K 0 M) ∧ ((M 83 12) = 2 → ((ow_lcmp (M 83 14) l1) ≠ 0 → K 0 M) ∧ ((ow_lcmp (M 83 14) l1) = 0 → K 1 M))) : ow_At C (EM A L N) d mX12_isWord 0 [(0, (3, 83)), (1, (1, l1))] [] (0, 0) M K := by
  refine ow_aload_n (pc' := 1) (x := 83) dX12_isWord_0 rfl rfl ?_
  refine ow_getf3 (pc' := 4) (t := 0) (ji := 12) (val := M 83 12) dX12_isWord_1 fRX12_125 rfl rfl rfl (of_eq_true eo83) eg83_12 ?_
  refine ow_iconst (pc' := 5) (n := 2) dX12_isWord_4 rfl rfl ?_
  refine ow_icmpne (pc' := 8) (tg := 21) dX12_isWord_5 rfl rfl (fun hc => ?_) (fun hc => ?_)
  · have h := h.1 hc
    refine ow_iconst (pc' := 22) (n := 0) dX12_isWord_21 rfl rfl ?_
    exact ow_zret dX12_isWord_22 rfl rfl (Or.inl rfl) h
  · have h := h.2 hc
    refine ow_aload_n (pc' := 9) (x := 83) dX12_isWord_8 rfl rfl ?_
    refine ow_getf3 (pc' := 12) (t := 1) (ji := 14) (val := M 83 14) dX12_isWord_9 fRX12_138 rfl rfl rfl (of_eq_true eo83) eg83_14 ?_
    refine ow_lload_n (pc' := 13) (x := l1) dX12_isWord_12 rfl rfl ?_
    refine ow_Lcmp (pc' := 14) dX12_isWord_13 rfl ?_
    refine ow_ifne (pc' := 17) (tg := 21) dX12_isWord_14 rfl rfl (fun hc => ?_) (fun hc => ?_)
    · have h := h.1 hc
      refine ow_iconst (pc' := 22) (n := 0) dX12_isWord_21 rfl rfl ?_
      exact ow_zret dX12_isWord_22 rfl rfl (Or.inl rfl) h
    · have h := h.2 hc
      refine ow_iconst (pc' := 18) (n := 1) dX12_isWord_17 rfl rfl ?_
      refine ow_goto (tg := 22) dX12_isWord_18 rfl ?_
      exact ow_zret dX12_isWord_22 rfl rfl (Or.inr rfl) h
theorem fX12_isWord {C : ow_C} {A L N : Int} {d : Nat} {M : ow_M} {K : Int → ow_M → Prop} {l1 : Int} (h : ((M 83 12) ≠ 2 → K 0 M) ∧ ((M 83 12) = 2 → ((ow_lcmp (M 83 14) l1) ≠ 0 → K 0 M) ∧ ((ow_lcmp (M 83 14) l1) = 0 → K 1 M))) : ow_Sp C (EM A L N) d mX12_isWord (0, 0) [(3, 83), (1, l1)] M K := ow_enter (by decide +kernel) rfl rfl (cX12_isWord_0 h)
set_option maxRecDepth 20000 in
theorem cX12_emit_0 {C : ow_C} {A L N : Int} {d : Nat} {M : ow_M} {K : Int → ow_M → Prop} {l1 l2 : Int} (h : ow_I ((M 83 15) + 75) ∧ ow_I (2 * (M 83 17)) ∧ ow_I (((M 83 15) + 75) + (2 * (M 83 17))) ∧ (0 ≤ (((M 83 15) + 75) + (2 * (M 83 17))) ∧ (((M 83 15) + 75) + (2 * (M 83 17))) < 2720) ∧ ∀ N1, N1 = ow_up M 86 (((M 83 15) + 75) + (2 * (M 83 17))) l1 → ow_I ((N1 83 15) + 75) ∧ ow_I (2 * (N1 83 17)) ∧ ow_I (((N1 83 15) + 75) + (2 * (N1 83 17))) ∧ ow_I ((((N1 83 15) + 75) + (2 * (N1 83 17))) + 1) ∧ (0 ≤ ((((N1 83 15) + 75) + (2 * (N1 83 17))) + 1) ∧ ((((N1 83 15) + 75) + (2 * (N1 83 17))) + 1) < 2720) ∧ ∀ N2, N2 = ow_up N1 86 ((((N1 83 15) + 75) + (2 * (N1 83 17))) + 1) l2 → ow_I ((N2 83 17) + 1) ∧ ∀ N3, N3 = ow_up N2 83 17 ((N2 83 17) + 1) → K 0 N3) : ow_At C (EM A L N) d mX12_emit 0 [(0, (3, 83)), (1, (0, l1)), (2, (0, l2))] [] (0, 0) M K := by
  refine ow_aload_n (pc' := 1) (x := 83) dX12_emit_0 rfl rfl ?_
  refine ow_getf3 (pc' := 4) (t := 3) (ji := 5) (val := 86) dX12_emit_1 fRX12_16 rfl rfl rfl (of_eq_true eo83) eg83_5 ?_
  refine ow_aload_n (pc' := 5) (x := 83) dX12_emit_4 rfl rfl ?_
  refine ow_getf3 (pc' := 8) (t := 0) (ji := 15) (val := M 83 15) dX12_emit_5 fRX12_150 rfl rfl rfl (of_eq_true eo83) eg83_15 ?_
  refine ow_bipush (pc' := 10) (n := 75) dX12_emit_8 rfl rfl ?_
  obtain ⟨vv1, h⟩ := h
  refine ow_iadd (pc' := 11) dX12_emit_10 vv1 rfl ?_
  refine ow_iconst (pc' := 12) (n := 2) dX12_emit_11 rfl rfl ?_
  refine ow_aload_n (pc' := 13) (x := 83) dX12_emit_12 rfl rfl ?_
  refine ow_getf3 (pc' := 16) (t := 0) (ji := 17) (val := M 83 17) dX12_emit_13 fRX12_153 rfl rfl rfl (of_eq_true eo83) eg83_17 ?_
  obtain ⟨vv2, h⟩ := h
  refine ow_imul (pc' := 17) dX12_emit_16 vv2 rfl ?_
  obtain ⟨vv3, h⟩ := h
  refine ow_iadd (pc' := 18) dX12_emit_17 vv3 rfl ?_
  refine ow_iload_n (pc' := 19) (x := l1) dX12_emit_18 rfl rfl ?_
  obtain ⟨vv4, h⟩ := h
  refine ow_iastore2 (pc' := 20) dX12_emit_19 rfl (Eq.mpr (er86 _) vv4) (of_eq_true (en86 _)) (fun N1 eN1 => ?_)
  have h := h N1 eN1
  refine ow_aload_n (pc' := 21) (x := 83) dX12_emit_20 rfl rfl ?_
  refine ow_getf3 (pc' := 24) (t := 3) (ji := 5) (val := 86) dX12_emit_21 fRX12_16 rfl rfl rfl (of_eq_true eo83) eg83_5 ?_
  refine ow_aload_n (pc' := 25) (x := 83) dX12_emit_24 rfl rfl ?_
  refine ow_getf3 (pc' := 28) (t := 0) (ji := 15) (val := N1 83 15) dX12_emit_25 fRX12_150 rfl rfl rfl (of_eq_true eo83) eg83_15 ?_
  refine ow_bipush (pc' := 30) (n := 75) dX12_emit_28 rfl rfl ?_
  obtain ⟨vv5, h⟩ := h
  refine ow_iadd (pc' := 31) dX12_emit_30 vv5 rfl ?_
  refine ow_iconst (pc' := 32) (n := 2) dX12_emit_31 rfl rfl ?_
  refine ow_aload_n (pc' := 33) (x := 83) dX12_emit_32 rfl rfl ?_
  refine ow_getf3 (pc' := 36) (t := 0) (ji := 17) (val := N1 83 17) dX12_emit_33 fRX12_153 rfl rfl rfl (of_eq_true eo83) eg83_17 ?_
  obtain ⟨vv6, h⟩ := h
  refine ow_imul (pc' := 37) dX12_emit_36 vv6 rfl ?_
  obtain ⟨vv7, h⟩ := h
  refine ow_iadd (pc' := 38) dX12_emit_37 vv7 rfl ?_
  refine ow_iconst (pc' := 39) (n := 1) dX12_emit_38 rfl rfl ?_
  obtain ⟨vv8, h⟩ := h
  refine ow_iadd (pc' := 40) dX12_emit_39 vv8 rfl ?_
  refine ow_iload_n (pc' := 41) (x := l2) dX12_emit_40 rfl rfl ?_
  obtain ⟨vv9, h⟩ := h
  refine ow_iastore2 (pc' := 42) dX12_emit_41 rfl (Eq.mpr (er86 _) vv9) (of_eq_true (en86 _)) (fun N2 eN2 => ?_)
  have h := h N2 eN2
  refine ow_aload_n (pc' := 43) (x := 83) dX12_emit_42 rfl rfl ?_
  refine ow_dup (pc' := 44) dX12_emit_43 rfl rfl ?_
  refine ow_getf3 (pc' := 47) (t := 0) (ji := 17) (val := N2 83 17) dX12_emit_44 fRX12_153 rfl rfl rfl (of_eq_true eo83) eg83_17 ?_
  refine ow_iconst (pc' := 48) (n := 1) dX12_emit_47 rfl rfl ?_
  obtain ⟨vv10, h⟩ := h
  refine ow_iadd (pc' := 49) dX12_emit_48 vv10 rfl ?_
  refine ow_putf2 (pc' := 52) (t := 0) (ji := 17) dX12_emit_49 fRX12_153 rfl rfl rfl rfl (of_eq_true eo83) (of_eq_true en83_17) (fun hz => absurd hz (by decide)) (fun N3 eN3 => ?_)
  have h := h N3 eN3
  exact ow_vret dX12_emit_52 rfl rfl h
theorem fX12_emit {C : ow_C} {A L N : Int} {d : Nat} {M : ow_M} {K : Int → ow_M → Prop} {l1 l2 : Int} (h : ow_I ((M 83 15) + 75) ∧ ow_I (2 * (M 83 17)) ∧ ow_I (((M 83 15) + 75) + (2 * (M 83 17))) ∧ (0 ≤ (((M 83 15) + 75) + (2 * (M 83 17))) ∧ (((M 83 15) + 75) + (2 * (M 83 17))) < 2720) ∧ ∀ N1, N1 = ow_up M 86 (((M 83 15) + 75) + (2 * (M 83 17))) l1 → ow_I ((N1 83 15) + 75) ∧ ow_I (2 * (N1 83 17)) ∧ ow_I (((N1 83 15) + 75) + (2 * (N1 83 17))) ∧ ow_I ((((N1 83 15) + 75) + (2 * (N1 83 17))) + 1) ∧ (0 ≤ ((((N1 83 15) + 75) + (2 * (N1 83 17))) + 1) ∧ ((((N1 83 15) + 75) + (2 * (N1 83 17))) + 1) < 2720) ∧ ∀ N2, N2 = ow_up N1 86 ((((N1 83 15) + 75) + (2 * (N1 83 17))) + 1) l2 → ow_I ((N2 83 17) + 1) ∧ ∀ N3, N3 = ow_up N2 83 17 ((N2 83 17) + 1) → K 0 N3) : ow_Sp C (EM A L N) d mX12_emit (0, 0) [(3, 83), (0, l1), (0, l2)] M K := ow_enter (by decide +kernel) rfl rfl (cX12_emit_0 h)
set_option maxRecDepth 20000 in
theorem cX12_push_0 {C : ow_C} {A L N : Int} {d : Nat} {M : ow_M} {K : Int → ow_M → Prop} {l1 : Int} (h : (0 ≤ (M 83 20) ∧ (M 83 20) < 160) ∧ ∀ N1, N1 = ow_up M 88 (M 83 20) l1 → ow_I ((N1 83 20) + 1) ∧ ∀ N2, N2 = ow_up N1 83 20 ((N1 83 20) + 1) → K 0 N2) : ow_At C (EM A L N) d mX12_push 0 [(0, (3, 83)), (1, (0, l1))] [] (0, 0) M K := by
  refine ow_aload_n (pc' := 1) (x := 83) dX12_push_0 rfl rfl ?_
  refine ow_getf3 (pc' := 4) (t := 3) (ji := 19) (val := 88) dX12_push_1 fRX12_29 rfl rfl rfl (of_eq_true eo83) eg83_19 ?_
  refine ow_aload_n (pc' := 5) (x := 83) dX12_push_4 rfl rfl ?_
  refine ow_getf3 (pc' := 8) (t := 0) (ji := 20) (val := M 83 20) dX12_push_5 fRX12_156 rfl rfl rfl (of_eq_true eo83) eg83_20 ?_
  refine ow_iload_n (pc' := 9) (x := l1) dX12_push_8 rfl rfl ?_
  obtain ⟨vv1, h⟩ := h
  refine ow_iastore2 (pc' := 10) dX12_push_9 rfl (Eq.mpr (er88 _) vv1) (of_eq_true (en88 _)) (fun N1 eN1 => ?_)
  have h := h N1 eN1
  refine ow_aload_n (pc' := 11) (x := 83) dX12_push_10 rfl rfl ?_
  refine ow_dup (pc' := 12) dX12_push_11 rfl rfl ?_
  refine ow_getf3 (pc' := 15) (t := 0) (ji := 20) (val := N1 83 20) dX12_push_12 fRX12_156 rfl rfl rfl (of_eq_true eo83) eg83_20 ?_
  refine ow_iconst (pc' := 16) (n := 1) dX12_push_15 rfl rfl ?_
  obtain ⟨vv2, h⟩ := h
  refine ow_iadd (pc' := 17) dX12_push_16 vv2 rfl ?_
  refine ow_putf2 (pc' := 20) (t := 0) (ji := 20) dX12_push_17 fRX12_156 rfl rfl rfl rfl (of_eq_true eo83) (of_eq_true en83_20) (fun hz => absurd hz (by decide)) (fun N2 eN2 => ?_)
  have h := h N2 eN2
  exact ow_vret dX12_push_20 rfl rfl h
theorem fX12_push {C : ow_C} {A L N : Int} {d : Nat} {M : ow_M} {K : Int → ow_M → Prop} {l1 : Int} (h : (0 ≤ (M 83 20) ∧ (M 83 20) < 160) ∧ ∀ N1, N1 = ow_up M 88 (M 83 20) l1 → ow_I ((N1 83 20) + 1) ∧ ∀ N2, N2 = ow_up N1 83 20 ((N1 83 20) + 1) → K 0 N2) : ow_Sp C (EM A L N) d mX12_push (0, 0) [(3, 83), (0, l1)] M K := ow_enter (by decide +kernel) rfl rfl (cX12_push_0 h)
set_option maxRecDepth 20000 in
theorem cX12_whole_0 {C : ow_C} {A L N : Int} {d : Nat} {M : ow_M} {K : Int → ow_M → Prop} (h : ∀ N1, N1 = ow_up M 83 22 1 → ow_At C (EM A L N) (d + 1) mX12_whole 5 [(0, (3, 83))] [] (0, 0) N1 K) : ow_At C (EM A L N) (d + 1) mX12_whole 0 [(0, (3, 83))] [] (0, 0) M K := by
  refine ow_aload_n (pc' := 1) (x := 83) dX12_whole_0 rfl rfl ?_
  refine ow_iconst (pc' := 2) (n := 1) dX12_whole_1 rfl rfl ?_
  have w2 : (1 : Int) = 0 ∨ (1 : Int) = 1 := by decide
  refine ow_putf2 (pc' := 5) (t := 0) (ji := 22) dX12_whole_2 fRX12_159 rfl rfl rfl rfl (of_eq_true eo83) (of_eq_true en83_22) (fun _ => w2) (fun N1 eN1 => ?_)
  have h := h N1 eN1
  exact h
set_option maxRecDepth 20000 in
theorem cX12_whole_5 {C : ow_C} {A L N : Int} {d : Nat} {M : ow_M} {K : Int → ow_M → Prop} (h : ((M 83 20) ≤ 0 → K 0 M) ∧ (0 < (M 83 20) → ow_I ((M 83 20) - 1) ∧ (0 ≤ ((M 83 20) - 1) ∧ ((M 83 20) - 1) < 160) ∧ ((M 88 ((M 83 20) - 1)) ≠ 2 → K 0 M) ∧ ((M 88 ((M 83 20) - 1)) = 2 → ∀ N1, N1 = ow_up M 83 20 ((M 83 20) - 1) → ow_I ((N1 83 21) - 1) ∧ ∀ N2, N2 = ow_up N1 83 21 ((N1 83 21) - 1) → ow_Sp C (EM A L N) d mX12_emit (0, 0) [(3, 83), (0, 2), (0, 0)] N2 (fun r3 N3 => ow_At C (EM A L N) (d + 1) mX12_whole 5 [(0, (3, 83))] [] (0, 0) N3 K)))) : ow_At C (EM A L N) (d + 1) mX12_whole 5 [(0, (3, 83))] [] (0, 0) M K := by
  refine ow_aload_n (pc' := 6) (x := 83) dX12_whole_5 rfl rfl ?_
  refine ow_getf3 (pc' := 9) (t := 0) (ji := 20) (val := M 83 20) dX12_whole_6 fRX12_156 rfl rfl rfl (of_eq_true eo83) eg83_20 ?_
  refine ow_ifle (pc' := 12) (tg := 56) dX12_whole_9 rfl rfl (fun hc => ?_) (fun hc => ?_)
  · have h := h.1 hc
    exact ow_vret dX12_whole_56 rfl rfl h
  · have h := h.2 hc
    refine ow_aload_n (pc' := 13) (x := 83) dX12_whole_12 rfl rfl ?_
    refine ow_getf3 (pc' := 16) (t := 3) (ji := 19) (val := 88) dX12_whole_13 fRX12_29 rfl rfl rfl (of_eq_true eo83) eg83_19 ?_
    refine ow_aload_n (pc' := 17) (x := 83) dX12_whole_16 rfl rfl ?_
    refine ow_getf3 (pc' := 20) (t := 0) (ji := 20) (val := M 83 20) dX12_whole_17 fRX12_156 rfl rfl rfl (of_eq_true eo83) eg83_20 ?_
    refine ow_iconst (pc' := 21) (n := 1) dX12_whole_20 rfl rfl ?_
    obtain ⟨vv1, h⟩ := h
    refine ow_isub (pc' := 22) dX12_whole_21 vv1 rfl ?_
    obtain ⟨vv2, h⟩ := h
    refine ow_iaload3 (pc' := 23) (val := M 88 ((M 83 20) - 1)) dX12_whole_22 rfl (Eq.mpr (er88 _) vv2) (ea88 _) ?_
    refine ow_iconst (pc' := 24) (n := 2) dX12_whole_23 rfl rfl ?_
    refine ow_icmpne (pc' := 27) (tg := 56) dX12_whole_24 rfl rfl (fun hc => ?_) (fun hc => ?_)
    · have h := h.1 hc
      exact ow_vret dX12_whole_56 rfl rfl h
    · have h := h.2 hc
      refine ow_aload_n (pc' := 28) (x := 83) dX12_whole_27 rfl rfl ?_
      refine ow_dup (pc' := 29) dX12_whole_28 rfl rfl ?_
      refine ow_getf3 (pc' := 32) (t := 0) (ji := 20) (val := M 83 20) dX12_whole_29 fRX12_156 rfl rfl rfl (of_eq_true eo83) eg83_20 ?_
      refine ow_iconst (pc' := 33) (n := 1) dX12_whole_32 rfl rfl ?_
      refine ow_isub (pc' := 34) dX12_whole_33 vv1 rfl ?_
      refine ow_putf2 (pc' := 37) (t := 0) (ji := 20) dX12_whole_34 fRX12_156 rfl rfl rfl rfl (of_eq_true eo83) (of_eq_true en83_20) (fun hz => absurd hz (by decide)) (fun N1 eN1 => ?_)
      have h := h N1 eN1
      refine ow_aload_n (pc' := 38) (x := 83) dX12_whole_37 rfl rfl ?_
      refine ow_dup (pc' := 39) dX12_whole_38 rfl rfl ?_
      refine ow_getf3 (pc' := 42) (t := 0) (ji := 21) (val := N1 83 21) dX12_whole_39 fRX12_163 rfl rfl rfl (of_eq_true eo83) eg83_21 ?_
      refine ow_iconst (pc' := 43) (n := 1) dX12_whole_42 rfl rfl ?_
      obtain ⟨vv3, h⟩ := h
      refine ow_isub (pc' := 44) dX12_whole_43 vv3 rfl ?_
      refine ow_putf2 (pc' := 47) (t := 0) (ji := 21) dX12_whole_44 fRX12_163 rfl rfl rfl rfl (of_eq_true eo83) (of_eq_true en83_21) (fun hz => absurd hz (by decide)) (fun N2 eN2 => ?_)
      have h := h N2 eN2
      refine ow_aload_n (pc' := 48) (x := 83) dX12_whole_47 rfl rfl ?_
      refine ow_iconst (pc' := 49) (n := 2) dX12_whole_48 rfl rfl ?_
      refine ow_iconst (pc' := 50) (n := 0) dX12_whole_49 rfl rfl ?_
      refine ow_callVv (z := mX12_emit) (n := 2) (k := 12) (vs := [(0, 2), (0, 0)]) (x := 83) (st := []) (pc' := 53) (b1 := (0, 0)) (b2 := (0, 0)) dX12_whole_50 lRX12_166 kX12_emit iX12_emit rfl rfl rfl rfl rfl rfl (of_eq_true eo83) (ow_Sp.mono h (fun r3 N3 h => ?_))
      refine ow_goto (tg := 5) dX12_whole_53 rfl ?_
      exact h
theorem fX12_whole {C : ow_C} {A L N : Int} {d : Nat} {M : ow_M} {K : Int → ow_M → Prop} (h : ∀ N1, N1 = ow_up M 83 22 1 → ow_At C (EM A L N) (d + 1) mX12_whole 5 [(0, (3, 83))] [] (0, 0) N1 K) : ow_Sp C (EM A L N) (d + 1) mX12_whole (0, 0) [(3, 83)] M K := ow_enter (by decide +kernel) rfl rfl (cX12_whole_0 h)
set_option maxRecDepth 20000 in
theorem cX12_settle_0 {C : ow_C} {A L N : Int} {d : Nat} {M : ow_M} {K : Int → ow_M → Prop} {l1 : Int} (h : ((M 83 20) ≤ 0 → K 0 M) ∧ (0 < (M 83 20) → ow_I ((M 83 20) - 1) ∧ (0 ≤ ((M 83 20) - 1) ∧ ((M 83 20) - 1) < 160) ∧ (40 ≤ (M 88 ((M 83 20) - 1)) → K 0 M) ∧ ((M 88 ((M 83 20) - 1)) < 40 → ((M 88 ((M 83 20) - 1)) < l1 → K 0 M) ∧ (l1 ≤ (M 88 ((M 83 20) - 1)) → ∀ N1, N1 = ow_up M 83 20 ((M 83 20) - 1) → (0 ≤ (N1 83 20) ∧ (N1 83 20) < 160) ∧ ow_Sp C (EM A L N) d mX12_emit (0, 0) [(3, 83), (0, N1 88 (N1 83 20)), (0, 0)] N1 (fun r2 N2 => ow_At C (EM A L N) (d + 1) mX12_settle 0 [(0, (3, 83)), (1, (0, l1))] [] (0, 0) N2 K))))) : ow_At C (EM A L N) (d + 1) mX12_settle 0 [(0, (3, 83)), (1, (0, l1))] [] (0, 0) M K := by
  refine ow_aload_n (pc' := 1) (x := 83) dX12_settle_0 rfl rfl ?_
  refine ow_getf3 (pc' := 4) (t := 0) (ji := 20) (val := M 83 20) dX12_settle_1 fRX12_156 rfl rfl rfl (of_eq_true eo83) eg83_20 ?_
  refine ow_ifle (pc' := 7) (tg := 65) dX12_settle_4 rfl rfl (fun hc => ?_) (fun hc => ?_)
  · have h := h.1 hc
    exact ow_vret dX12_settle_65 rfl rfl h
  · have h := h.2 hc
    refine ow_aload_n (pc' := 8) (x := 83) dX12_settle_7 rfl rfl ?_
    refine ow_getf3 (pc' := 11) (t := 3) (ji := 19) (val := 88) dX12_settle_8 fRX12_29 rfl rfl rfl (of_eq_true eo83) eg83_19 ?_
    refine ow_aload_n (pc' := 12) (x := 83) dX12_settle_11 rfl rfl ?_
    refine ow_getf3 (pc' := 15) (t := 0) (ji := 20) (val := M 83 20) dX12_settle_12 fRX12_156 rfl rfl rfl (of_eq_true eo83) eg83_20 ?_
    refine ow_iconst (pc' := 16) (n := 1) dX12_settle_15 rfl rfl ?_
    obtain ⟨vv1, h⟩ := h
    refine ow_isub (pc' := 17) dX12_settle_16 vv1 rfl ?_
    obtain ⟨vv2, h⟩ := h
    refine ow_iaload3 (pc' := 18) (val := M 88 ((M 83 20) - 1)) dX12_settle_17 rfl (Eq.mpr (er88 _) vv2) (ea88 _) ?_
    refine ow_bipush (pc' := 20) (n := 40) dX12_settle_18 rfl rfl ?_
    refine ow_icmpge (pc' := 23) (tg := 65) dX12_settle_20 rfl rfl (fun hc => ?_) (fun hc => ?_)
    · have h := h.1 hc
      exact ow_vret dX12_settle_65 rfl rfl h
    · have h := h.2 hc
      refine ow_aload_n (pc' := 24) (x := 83) dX12_settle_23 rfl rfl ?_
      refine ow_getf3 (pc' := 27) (t := 3) (ji := 19) (val := 88) dX12_settle_24 fRX12_29 rfl rfl rfl (of_eq_true eo83) eg83_19 ?_
      refine ow_aload_n (pc' := 28) (x := 83) dX12_settle_27 rfl rfl ?_
      refine ow_getf3 (pc' := 31) (t := 0) (ji := 20) (val := M 83 20) dX12_settle_28 fRX12_156 rfl rfl rfl (of_eq_true eo83) eg83_20 ?_
      refine ow_iconst (pc' := 32) (n := 1) dX12_settle_31 rfl rfl ?_
      refine ow_isub (pc' := 33) dX12_settle_32 vv1 rfl ?_
      refine ow_iaload3 (pc' := 34) (val := M 88 ((M 83 20) - 1)) dX12_settle_33 rfl (Eq.mpr (er88 _) vv2) (ea88 _) ?_
      refine ow_iload_n (pc' := 35) (x := l1) dX12_settle_34 rfl rfl ?_
      refine ow_icmplt (pc' := 38) (tg := 65) dX12_settle_35 rfl rfl (fun hc => ?_) (fun hc => ?_)
      · have h := h.1 hc
        exact ow_vret dX12_settle_65 rfl rfl h
      · have h := h.2 hc
        refine ow_aload_n (pc' := 39) (x := 83) dX12_settle_38 rfl rfl ?_
        refine ow_dup (pc' := 40) dX12_settle_39 rfl rfl ?_
        refine ow_getf3 (pc' := 43) (t := 0) (ji := 20) (val := M 83 20) dX12_settle_40 fRX12_156 rfl rfl rfl (of_eq_true eo83) eg83_20 ?_
        refine ow_iconst (pc' := 44) (n := 1) dX12_settle_43 rfl rfl ?_
        refine ow_isub (pc' := 45) dX12_settle_44 vv1 rfl ?_
        refine ow_putf2 (pc' := 48) (t := 0) (ji := 20) dX12_settle_45 fRX12_156 rfl rfl rfl rfl (of_eq_true eo83) (of_eq_true en83_20) (fun hz => absurd hz (by decide)) (fun N1 eN1 => ?_)
        have h := h N1 eN1
        refine ow_aload_n (pc' := 49) (x := 83) dX12_settle_48 rfl rfl ?_
        refine ow_aload_n (pc' := 50) (x := 83) dX12_settle_49 rfl rfl ?_
        refine ow_getf3 (pc' := 53) (t := 3) (ji := 19) (val := 88) dX12_settle_50 fRX12_29 rfl rfl rfl (of_eq_true eo83) eg83_19 ?_
        refine ow_aload_n (pc' := 54) (x := 83) dX12_settle_53 rfl rfl ?_
        refine ow_getf3 (pc' := 57) (t := 0) (ji := 20) (val := N1 83 20) dX12_settle_54 fRX12_156 rfl rfl rfl (of_eq_true eo83) eg83_20 ?_
        obtain ⟨vv3, h⟩ := h
        refine ow_iaload3 (pc' := 58) (val := N1 88 (N1 83 20)) dX12_settle_57 rfl (Eq.mpr (er88 _) vv3) (ea88 _) ?_
        refine ow_iconst (pc' := 59) (n := 0) dX12_settle_58 rfl rfl ?_
        refine ow_callVv (z := mX12_emit) (n := 2) (k := 12) (vs := [(0, N1 88 (N1 83 20)), (0, 0)]) (x := 83) (st := []) (pc' := 62) (b1 := (0, 0)) (b2 := (0, 0)) dX12_settle_59 lRX12_166 kX12_emit iX12_emit rfl rfl rfl rfl rfl rfl (of_eq_true eo83) (ow_Sp.mono h (fun r2 N2 h => ?_))
        refine ow_goto (tg := 0) dX12_settle_62 rfl ?_
        exact h
theorem fX12_settle {C : ow_C} {A L N : Int} {d : Nat} {M : ow_M} {K : Int → ow_M → Prop} {l1 : Int} (h : ((M 83 20) ≤ 0 → K 0 M) ∧ (0 < (M 83 20) → ow_I ((M 83 20) - 1) ∧ (0 ≤ ((M 83 20) - 1) ∧ ((M 83 20) - 1) < 160) ∧ (40 ≤ (M 88 ((M 83 20) - 1)) → K 0 M) ∧ ((M 88 ((M 83 20) - 1)) < 40 → ((M 88 ((M 83 20) - 1)) < l1 → K 0 M) ∧ (l1 ≤ (M 88 ((M 83 20) - 1)) → ∀ N1, N1 = ow_up M 83 20 ((M 83 20) - 1) → (0 ≤ (N1 83 20) ∧ (N1 83 20) < 160) ∧ ow_Sp C (EM A L N) d mX12_emit (0, 0) [(3, 83), (0, N1 88 (N1 83 20)), (0, 0)] N1 (fun r2 N2 => ow_At C (EM A L N) (d + 1) mX12_settle 0 [(0, (3, 83)), (1, (0, l1))] [] (0, 0) N2 K))))) : ow_Sp C (EM A L N) (d + 1) mX12_settle (0, 0) [(3, 83), (0, l1)] M K := ow_enter (by decide +kernel) rfl rfl (cX12_settle_0 h)
set_option maxRecDepth 20000 in
theorem cX12_nameOf_0 {C : ow_C} {A L N : Int} {d : Nat} {M : ow_M} {K : Int → ow_M → Prop} (h : ((M 83 12) = 2 → ow_Sp C (EM A L N) d mX12_w5 (0, 0) [(0, 112), (0, 108), (0, 97), (0, 99), (0, 101)] M (fun r1 N1 => ((ow_lcmp (M 83 14) r1) ≠ 0 → ow_Sp C (EM A L N) d mX12_w4 (0, 0) [(0, 102), (0, 114), (0, 111), (0, 109)] N1 (fun r2 N2 => ((ow_lcmp (N1 83 14) r2) ≠ 0 → ow_Sp C (EM A L N) d mX12_w4 (0, 0) [(0, 105), (0, 110), (0, 116), (0, 111)] N2 (fun r3 N3 => ((ow_lcmp (N2 83 14) r3) ≠ 0 → ow_Sp C (EM A L N) d mX12_w4 (0, 0) [(0, 104), (0, 97), (0, 110), (0, 100)] N3 (fun r4 N4 => ((ow_lcmp (N3 83 14) r4) ≠ 0 → ow_Sp C (EM A L N) d mX12_w4 (0, 0) [(0, 108), (0, 97), (0, 115), (0, 116)] N4 (fun r5 N5 => ((ow_lcmp (N4 83 14) r5) ≠ 0 → ow_Sp C (EM A L N) d mX12_w3 (0, 0) [(0, 102), (0, 97), (0, 114)] N5 (fun r6 N6 => ((ow_lcmp (N5 83 14) r6) ≠ 0 → K ((-1)) N6) ∧ ((ow_lcmp (N5 83 14) r6) = 0 → K 5 N6))) ∧ ((ow_lcmp (N4 83 14) r5) = 0 → K 4 N5))) ∧ ((ow_lcmp (N3 83 14) r4) = 0 → K 3 N4))) ∧ ((ow_lcmp (N2 83 14) r3) = 0 → K 2 N3))) ∧ ((ow_lcmp (N1 83 14) r2) = 0 → K 1 N2))) ∧ ((ow_lcmp (M 83 14) r1) = 0 → K 0 N1))) ∧ ((M 83 12) ≠ 2 → K ((-1)) M)) : ow_At C (EM A L N) (d + 1) mX12_nameOf 0 [(0, (3, 83))] [] (0, 0) M K := by
  refine ow_aload_n (pc' := 1) (x := 83) dX12_nameOf_0 rfl rfl ?_
  refine ow_getf3 (pc' := 4) (t := 0) (ji := 12) (val := M 83 12) dX12_nameOf_1 fRX12_125 rfl rfl rfl (of_eq_true eo83) eg83_12 ?_
  refine ow_iconst (pc' := 5) (n := 2) dX12_nameOf_4 rfl rfl ?_
  refine ow_icmpeq (pc' := 8) (tg := 10) dX12_nameOf_5 rfl rfl (fun hc => ?_) (fun hc => ?_)
  · have h := h.1 hc
    refine ow_aload_n (pc' := 11) (x := 83) dX12_nameOf_10 rfl rfl ?_
    refine ow_getf3 (pc' := 14) (t := 1) (ji := 14) (val := M 83 14) dX12_nameOf_11 fRX12_138 rfl rfl rfl (of_eq_true eo83) eg83_14 ?_
    refine ow_bipush (pc' := 16) (n := 112) dX12_nameOf_14 rfl rfl ?_
    refine ow_bipush (pc' := 18) (n := 108) dX12_nameOf_16 rfl rfl ?_
    refine ow_bipush (pc' := 20) (n := 97) dX12_nameOf_18 rfl rfl ?_
    refine ow_bipush (pc' := 22) (n := 99) dX12_nameOf_20 rfl rfl ?_
    refine ow_bipush (pc' := 24) (n := 101) dX12_nameOf_22 rfl rfl ?_
    refine ow_callSp (z := mX12_w5) (n := 5) (vs := [(0, 112), (0, 108), (0, 97), (0, 99), (0, 101)]) (st := [(1, M 83 14)]) (pc' := 27) (b1 := (0, 0)) (b2 := (0, 0)) dX12_nameOf_24 lRX12_146 kX12_w5 zX12_w5 rfl rfl rfl rfl rfl rfl (ow_Sp.mono h (fun r1 N1 h => ?_))
    refine ow_Lcmp (pc' := 28) dX12_nameOf_27 rfl ?_
    refine ow_ifne (pc' := 31) (tg := 33) dX12_nameOf_28 rfl rfl (fun hc => ?_) (fun hc => ?_)
    · have h := h.1 hc
      refine ow_aload_n (pc' := 34) (x := 83) dX12_nameOf_33 rfl rfl ?_
      refine ow_getf3 (pc' := 37) (t := 1) (ji := 14) (val := N1 83 14) dX12_nameOf_34 fRX12_138 rfl rfl rfl (of_eq_true eo83) eg83_14 ?_
      refine ow_bipush (pc' := 39) (n := 102) dX12_nameOf_37 rfl rfl ?_
      refine ow_bipush (pc' := 41) (n := 114) dX12_nameOf_39 rfl rfl ?_
      refine ow_bipush (pc' := 43) (n := 111) dX12_nameOf_41 rfl rfl ?_
      refine ow_bipush (pc' := 45) (n := 109) dX12_nameOf_43 rfl rfl ?_
      refine ow_callSp (z := mX12_w4) (n := 4) (vs := [(0, 102), (0, 114), (0, 111), (0, 109)]) (st := [(1, N1 83 14)]) (pc' := 48) (b1 := (0, 0)) (b2 := (0, 0)) dX12_nameOf_45 lRX12_170 kX12_w4 zX12_w4 rfl rfl rfl rfl rfl rfl (ow_Sp.mono h (fun r2 N2 h => ?_))
      refine ow_Lcmp (pc' := 49) dX12_nameOf_48 rfl ?_
      refine ow_ifne (pc' := 52) (tg := 54) dX12_nameOf_49 rfl rfl (fun hc => ?_) (fun hc => ?_)
      · have h := h.1 hc
        refine ow_aload_n (pc' := 55) (x := 83) dX12_nameOf_54 rfl rfl ?_
        refine ow_getf3 (pc' := 58) (t := 1) (ji := 14) (val := N2 83 14) dX12_nameOf_55 fRX12_138 rfl rfl rfl (of_eq_true eo83) eg83_14 ?_
        refine ow_bipush (pc' := 60) (n := 105) dX12_nameOf_58 rfl rfl ?_
        refine ow_bipush (pc' := 62) (n := 110) dX12_nameOf_60 rfl rfl ?_
        refine ow_bipush (pc' := 64) (n := 116) dX12_nameOf_62 rfl rfl ?_
        refine ow_bipush (pc' := 66) (n := 111) dX12_nameOf_64 rfl rfl ?_
        refine ow_callSp (z := mX12_w4) (n := 4) (vs := [(0, 105), (0, 110), (0, 116), (0, 111)]) (st := [(1, N2 83 14)]) (pc' := 69) (b1 := (0, 0)) (b2 := (0, 0)) dX12_nameOf_66 lRX12_170 kX12_w4 zX12_w4 rfl rfl rfl rfl rfl rfl (ow_Sp.mono h (fun r3 N3 h => ?_))
        refine ow_Lcmp (pc' := 70) dX12_nameOf_69 rfl ?_
        refine ow_ifne (pc' := 73) (tg := 75) dX12_nameOf_70 rfl rfl (fun hc => ?_) (fun hc => ?_)
        · have h := h.1 hc
          refine ow_aload_n (pc' := 76) (x := 83) dX12_nameOf_75 rfl rfl ?_
          refine ow_getf3 (pc' := 79) (t := 1) (ji := 14) (val := N3 83 14) dX12_nameOf_76 fRX12_138 rfl rfl rfl (of_eq_true eo83) eg83_14 ?_
          refine ow_bipush (pc' := 81) (n := 104) dX12_nameOf_79 rfl rfl ?_
          refine ow_bipush (pc' := 83) (n := 97) dX12_nameOf_81 rfl rfl ?_
          refine ow_bipush (pc' := 85) (n := 110) dX12_nameOf_83 rfl rfl ?_
          refine ow_bipush (pc' := 87) (n := 100) dX12_nameOf_85 rfl rfl ?_
          refine ow_callSp (z := mX12_w4) (n := 4) (vs := [(0, 104), (0, 97), (0, 110), (0, 100)]) (st := [(1, N3 83 14)]) (pc' := 90) (b1 := (0, 0)) (b2 := (0, 0)) dX12_nameOf_87 lRX12_170 kX12_w4 zX12_w4 rfl rfl rfl rfl rfl rfl (ow_Sp.mono h (fun r4 N4 h => ?_))
          refine ow_Lcmp (pc' := 91) dX12_nameOf_90 rfl ?_
          refine ow_ifne (pc' := 94) (tg := 96) dX12_nameOf_91 rfl rfl (fun hc => ?_) (fun hc => ?_)
          · have h := h.1 hc
            refine ow_aload_n (pc' := 97) (x := 83) dX12_nameOf_96 rfl rfl ?_
            refine ow_getf3 (pc' := 100) (t := 1) (ji := 14) (val := N4 83 14) dX12_nameOf_97 fRX12_138 rfl rfl rfl (of_eq_true eo83) eg83_14 ?_
            refine ow_bipush (pc' := 102) (n := 108) dX12_nameOf_100 rfl rfl ?_
            refine ow_bipush (pc' := 104) (n := 97) dX12_nameOf_102 rfl rfl ?_
            refine ow_bipush (pc' := 106) (n := 115) dX12_nameOf_104 rfl rfl ?_
            refine ow_bipush (pc' := 108) (n := 116) dX12_nameOf_106 rfl rfl ?_
            refine ow_callSp (z := mX12_w4) (n := 4) (vs := [(0, 108), (0, 97), (0, 115), (0, 116)]) (st := [(1, N4 83 14)]) (pc' := 111) (b1 := (0, 0)) (b2 := (0, 0)) dX12_nameOf_108 lRX12_170 kX12_w4 zX12_w4 rfl rfl rfl rfl rfl rfl (ow_Sp.mono h (fun r5 N5 h => ?_))
            refine ow_Lcmp (pc' := 112) dX12_nameOf_111 rfl ?_
            refine ow_ifne (pc' := 115) (tg := 119) dX12_nameOf_112 rfl rfl (fun hc => ?_) (fun hc => ?_)
            · have h := h.1 hc
              refine ow_aload_n (pc' := 120) (x := 83) dX12_nameOf_119 rfl rfl ?_
              refine ow_getf3 (pc' := 123) (t := 1) (ji := 14) (val := N5 83 14) dX12_nameOf_120 fRX12_138 rfl rfl rfl (of_eq_true eo83) eg83_14 ?_
              refine ow_bipush (pc' := 125) (n := 102) dX12_nameOf_123 rfl rfl ?_
              refine ow_bipush (pc' := 127) (n := 97) dX12_nameOf_125 rfl rfl ?_
              refine ow_bipush (pc' := 129) (n := 114) dX12_nameOf_127 rfl rfl ?_
              refine ow_callSp (z := mX12_w3) (n := 3) (vs := [(0, 102), (0, 97), (0, 114)]) (st := [(1, N5 83 14)]) (pc' := 132) (b1 := (0, 0)) (b2 := (0, 0)) dX12_nameOf_129 lRX12_142 kX12_w3 zX12_w3 rfl rfl rfl rfl rfl rfl (ow_Sp.mono h (fun r6 N6 h => ?_))
              refine ow_Lcmp (pc' := 133) dX12_nameOf_132 rfl ?_
              refine ow_ifne (pc' := 136) (tg := 140) dX12_nameOf_133 rfl rfl (fun hc => ?_) (fun hc => ?_)
              · have h := h.1 hc
                refine ow_iconst (pc' := 141) (n := (-1)) dX12_nameOf_140 rfl rfl ?_
                exact ow_iret dX12_nameOf_141 rfl rfl h
              · have h := h.2 hc
                refine ow_iconst (pc' := 137) (n := 5) dX12_nameOf_136 rfl rfl ?_
                refine ow_goto (tg := 141) dX12_nameOf_137 rfl ?_
                exact ow_iret dX12_nameOf_141 rfl rfl h
            · have h := h.2 hc
              refine ow_iconst (pc' := 116) (n := 4) dX12_nameOf_115 rfl rfl ?_
              refine ow_goto (tg := 141) dX12_nameOf_116 rfl ?_
              exact ow_iret dX12_nameOf_141 rfl rfl h
          · have h := h.2 hc
            refine ow_iconst (pc' := 95) (n := 3) dX12_nameOf_94 rfl rfl ?_
            exact ow_iret dX12_nameOf_95 rfl rfl h
        · have h := h.2 hc
          refine ow_iconst (pc' := 74) (n := 2) dX12_nameOf_73 rfl rfl ?_
          exact ow_iret dX12_nameOf_74 rfl rfl h
      · have h := h.2 hc
        refine ow_iconst (pc' := 53) (n := 1) dX12_nameOf_52 rfl rfl ?_
        exact ow_iret dX12_nameOf_53 rfl rfl h
    · have h := h.2 hc
      refine ow_iconst (pc' := 32) (n := 0) dX12_nameOf_31 rfl rfl ?_
      exact ow_iret dX12_nameOf_32 rfl rfl h
  · have h := h.2 hc
    refine ow_iconst (pc' := 9) (n := (-1)) dX12_nameOf_8 rfl rfl ?_
    exact ow_iret dX12_nameOf_9 rfl rfl h
theorem fX12_nameOf {C : ow_C} {A L N : Int} {d : Nat} {M : ow_M} {K : Int → ow_M → Prop} (h : ((M 83 12) = 2 → ow_Sp C (EM A L N) d mX12_w5 (0, 0) [(0, 112), (0, 108), (0, 97), (0, 99), (0, 101)] M (fun r1 N1 => ((ow_lcmp (M 83 14) r1) ≠ 0 → ow_Sp C (EM A L N) d mX12_w4 (0, 0) [(0, 102), (0, 114), (0, 111), (0, 109)] N1 (fun r2 N2 => ((ow_lcmp (N1 83 14) r2) ≠ 0 → ow_Sp C (EM A L N) d mX12_w4 (0, 0) [(0, 105), (0, 110), (0, 116), (0, 111)] N2 (fun r3 N3 => ((ow_lcmp (N2 83 14) r3) ≠ 0 → ow_Sp C (EM A L N) d mX12_w4 (0, 0) [(0, 104), (0, 97), (0, 110), (0, 100)] N3 (fun r4 N4 => ((ow_lcmp (N3 83 14) r4) ≠ 0 → ow_Sp C (EM A L N) d mX12_w4 (0, 0) [(0, 108), (0, 97), (0, 115), (0, 116)] N4 (fun r5 N5 => ((ow_lcmp (N4 83 14) r5) ≠ 0 → ow_Sp C (EM A L N) d mX12_w3 (0, 0) [(0, 102), (0, 97), (0, 114)] N5 (fun r6 N6 => ((ow_lcmp (N5 83 14) r6) ≠ 0 → K ((-1)) N6) ∧ ((ow_lcmp (N5 83 14) r6) = 0 → K 5 N6))) ∧ ((ow_lcmp (N4 83 14) r5) = 0 → K 4 N5))) ∧ ((ow_lcmp (N3 83 14) r4) = 0 → K 3 N4))) ∧ ((ow_lcmp (N2 83 14) r3) = 0 → K 2 N3))) ∧ ((ow_lcmp (N1 83 14) r2) = 0 → K 1 N2))) ∧ ((ow_lcmp (M 83 14) r1) = 0 → K 0 N1))) ∧ ((M 83 12) ≠ 2 → K ((-1)) M)) : ow_Sp C (EM A L N) (d + 1) mX12_nameOf (0, 0) [(3, 83)] M K := ow_enter (by decide +kernel) rfl rfl (cX12_nameOf_0 h)
set_option maxRecDepth 20000 in
theorem cX12_beginOne_0 {C : ow_C} {A L N : Int} {d : Nat} {M : ow_M} {K : Int → ow_M → Prop} (h : ((M 83 12) ≠ 1 → ow_Sp C (EM A L N) d mX12_nameOf (0, 0) [(3, 83)] M (fun r1 N1 => (r1 < 0 → ((N1 83 12) ≠ 40 → ((N1 83 12) ≠ 45 → ow_At C (EM A L N) (d + 1) mX12_beginOne 93 [(0, (3, 83))] [(0, 0)] (0, 0) N1 K) ∧ ((N1 83 12) = 45 → ow_At C (EM A L N) (d + 1) mX12_beginOne 93 [(0, (3, 83))] [(0, 2)] (0, 0) N1 K)) ∧ ((N1 83 12) = 40 → ow_At C (EM A L N) (d + 1) mX12_beginOne 93 [(0, (3, 83))] [(0, 40)] (0, 0) N1 K)) ∧ (0 ≤ r1 → ow_Sp C (EM A L N) d mX12_nameOf (0, 0) [(3, 83)] N1 (fun r2 N2 => ow_Sp C (EM A L N) d mX12_emit (0, 0) [(3, 83), (0, 1), (0, r2)] N2 (fun r3 N3 => ow_Sp C (EM A L N) d mX12_nextToken (0, 0) [(3, 83)] N3 (fun r4 N4 => ow_Sp C (EM A L N) d mX12_whole (0, 0) [(3, 83)] N4 (fun r5 N5 => K 0 N5))))))) ∧ ((M 83 12) = 1 → ((M 83 13) ≤ 9999 → ow_Sp C (EM A L N) d mX12_emit (0, 0) [(3, 83), (0, 0), (0, M 83 13)] M (fun r6 N6 => ow_Sp C (EM A L N) d mX12_nextToken (0, 0) [(3, 83)] N6 (fun r7 N7 => ow_Sp C (EM A L N) d mX12_whole (0, 0) [(3, 83)] N7 (fun r8 N8 => K 0 N8)))) ∧ (9999 < (M 83 13) → K 2 M))) : ow_At C (EM A L N) (d + 1) mX12_beginOne 0 [(0, (3, 83))] [] (0, 0) M K := by
  refine ow_aload_n (pc' := 1) (x := 83) dX12_beginOne_0 rfl rfl ?_
  refine ow_getf3 (pc' := 4) (t := 0) (ji := 12) (val := M 83 12) dX12_beginOne_1 fRX12_125 rfl rfl rfl (of_eq_true eo83) eg83_12 ?_
  refine ow_iconst (pc' := 5) (n := 1) dX12_beginOne_4 rfl rfl ?_
  refine ow_icmpne (pc' := 8) (tg := 39) dX12_beginOne_5 rfl rfl (fun hc => ?_) (fun hc => ?_)
  · have h := h.1 hc
    refine ow_aload_n (pc' := 40) (x := 83) dX12_beginOne_39 rfl rfl ?_
    refine ow_callVp (z := mX12_nameOf) (n := 0) (k := 12) (vs := []) (x := 83) (st := []) (pc' := 43) (b1 := (0, 0)) (b2 := (0, 0)) dX12_beginOne_40 lRX12_180 kX12_nameOf iX12_nameOf rfl rfl rfl rfl rfl rfl (of_eq_true eo83) (ow_Sp.mono h (fun r1 N1 h => ?_))
    refine ow_iflt (pc' := 46) (tg := 65) dX12_beginOne_43 rfl rfl (fun hc => ?_) (fun hc => ?_)
    · have h := h.1 hc
      refine ow_aload_n (pc' := 66) (x := 83) dX12_beginOne_65 rfl rfl ?_
      refine ow_getf3 (pc' := 69) (t := 0) (ji := 12) (val := N1 83 12) dX12_beginOne_66 fRX12_125 rfl rfl rfl (of_eq_true eo83) eg83_12 ?_
      refine ow_bipush (pc' := 71) (n := 40) dX12_beginOne_69 rfl rfl ?_
      refine ow_icmpne (pc' := 74) (tg := 79) dX12_beginOne_71 rfl rfl (fun hc => ?_) (fun hc => ?_)
      · have h := h.1 hc
        refine ow_aload_n (pc' := 80) (x := 83) dX12_beginOne_79 rfl rfl ?_
        refine ow_getf3 (pc' := 83) (t := 0) (ji := 12) (val := N1 83 12) dX12_beginOne_80 fRX12_125 rfl rfl rfl (of_eq_true eo83) eg83_12 ?_
        refine ow_bipush (pc' := 85) (n := 45) dX12_beginOne_83 rfl rfl ?_
        refine ow_icmpne (pc' := 88) (tg := 92) dX12_beginOne_85 rfl rfl (fun hc => ?_) (fun hc => ?_)
        · have h := h.1 hc
          refine ow_iconst (pc' := 93) (n := 0) dX12_beginOne_92 rfl rfl ?_
          exact h
        · have h := h.2 hc
          refine ow_iconst (pc' := 89) (n := 2) dX12_beginOne_88 rfl rfl ?_
          refine ow_goto (tg := 93) dX12_beginOne_89 rfl ?_
          exact h
      · have h := h.2 hc
        refine ow_bipush (pc' := 76) (n := 40) dX12_beginOne_74 rfl rfl ?_
        refine ow_goto (tg := 93) dX12_beginOne_76 rfl ?_
        exact h
    · have h := h.2 hc
      refine ow_aload_n (pc' := 47) (x := 83) dX12_beginOne_46 rfl rfl ?_
      refine ow_iconst (pc' := 48) (n := 1) dX12_beginOne_47 rfl rfl ?_
      refine ow_aload_n (pc' := 49) (x := 83) dX12_beginOne_48 rfl rfl ?_
      refine ow_callVp (z := mX12_nameOf) (n := 0) (k := 12) (vs := []) (x := 83) (st := [(0, 1), (3, 83)]) (pc' := 52) (b1 := (0, 0)) (b2 := (0, 0)) dX12_beginOne_49 lRX12_180 kX12_nameOf iX12_nameOf rfl rfl rfl rfl rfl rfl (of_eq_true eo83) (ow_Sp.mono h (fun r2 N2 h => ?_))
      refine ow_callVv (z := mX12_emit) (n := 2) (k := 12) (vs := [(0, 1), (0, r2)]) (x := 83) (st := []) (pc' := 55) (b1 := (0, 0)) (b2 := (0, 0)) dX12_beginOne_52 lRX12_166 kX12_emit iX12_emit rfl rfl rfl rfl rfl rfl (of_eq_true eo83) (ow_Sp.mono h (fun r3 N3 h => ?_))
      refine ow_aload_n (pc' := 56) (x := 83) dX12_beginOne_55 rfl rfl ?_
      refine ow_callVv (z := mX12_nextToken) (n := 0) (k := 12) (vs := []) (x := 83) (st := []) (pc' := 59) (b1 := (0, 0)) (b2 := (0, 0)) dX12_beginOne_56 lRX12_174 kX12_nextToken iX12_nextToken rfl rfl rfl rfl rfl rfl (of_eq_true eo83) (ow_Sp.mono h (fun r4 N4 h => ?_))
      refine ow_aload_n (pc' := 60) (x := 83) dX12_beginOne_59 rfl rfl ?_
      refine ow_callVv (z := mX12_whole) (n := 0) (k := 12) (vs := []) (x := 83) (st := []) (pc' := 63) (b1 := (0, 0)) (b2 := (0, 0)) dX12_beginOne_60 lRX12_177 kX12_whole iX12_whole rfl rfl rfl rfl rfl rfl (of_eq_true eo83) (ow_Sp.mono h (fun r5 N5 h => ?_))
      refine ow_iconst (pc' := 64) (n := 0) dX12_beginOne_63 rfl rfl ?_
      exact ow_iret dX12_beginOne_64 rfl rfl h
  · have h := h.2 hc
    refine ow_aload_n (pc' := 9) (x := 83) dX12_beginOne_8 rfl rfl ?_
    refine ow_getf3 (pc' := 12) (t := 0) (ji := 13) (val := M 83 13) dX12_beginOne_9 fRX12_131 rfl rfl rfl (of_eq_true eo83) eg83_13 ?_
    refine ow_sipush (pc' := 15) (n := 9999) dX12_beginOne_12 rfl rfl ?_
    refine ow_icmple (pc' := 18) (tg := 20) dX12_beginOne_15 rfl rfl (fun hc => ?_) (fun hc => ?_)
    · have h := h.1 hc
      refine ow_aload_n (pc' := 21) (x := 83) dX12_beginOne_20 rfl rfl ?_
      refine ow_iconst (pc' := 22) (n := 0) dX12_beginOne_21 rfl rfl ?_
      refine ow_aload_n (pc' := 23) (x := 83) dX12_beginOne_22 rfl rfl ?_
      refine ow_getf3 (pc' := 26) (t := 0) (ji := 13) (val := M 83 13) dX12_beginOne_23 fRX12_131 rfl rfl rfl (of_eq_true eo83) eg83_13 ?_
      refine ow_callVv (z := mX12_emit) (n := 2) (k := 12) (vs := [(0, 0), (0, M 83 13)]) (x := 83) (st := []) (pc' := 29) (b1 := (0, 0)) (b2 := (0, 0)) dX12_beginOne_26 lRX12_166 kX12_emit iX12_emit rfl rfl rfl rfl rfl rfl (of_eq_true eo83) (ow_Sp.mono h (fun r6 N6 h => ?_))
      refine ow_aload_n (pc' := 30) (x := 83) dX12_beginOne_29 rfl rfl ?_
      refine ow_callVv (z := mX12_nextToken) (n := 0) (k := 12) (vs := []) (x := 83) (st := []) (pc' := 33) (b1 := (0, 0)) (b2 := (0, 0)) dX12_beginOne_30 lRX12_174 kX12_nextToken iX12_nextToken rfl rfl rfl rfl rfl rfl (of_eq_true eo83) (ow_Sp.mono h (fun r7 N7 h => ?_))
      refine ow_aload_n (pc' := 34) (x := 83) dX12_beginOne_33 rfl rfl ?_
      refine ow_callVv (z := mX12_whole) (n := 0) (k := 12) (vs := []) (x := 83) (st := []) (pc' := 37) (b1 := (0, 0)) (b2 := (0, 0)) dX12_beginOne_34 lRX12_177 kX12_whole iX12_whole rfl rfl rfl rfl rfl rfl (of_eq_true eo83) (ow_Sp.mono h (fun r8 N8 h => ?_))
      refine ow_iconst (pc' := 38) (n := 0) dX12_beginOne_37 rfl rfl ?_
      exact ow_iret dX12_beginOne_38 rfl rfl h
    · have h := h.2 hc
      refine ow_iconst (pc' := 19) (n := 2) dX12_beginOne_18 rfl rfl ?_
      exact ow_iret dX12_beginOne_19 rfl rfl h
set_option maxRecDepth 20000 in
theorem cX12_beginOne_93 {C : ow_C} {A L N : Int} {d : Nat} {M : ow_M} {K : Int → ow_M → Prop} {s0 : Int} (h : (s0 ≠ 0 → ((M 83 21) ≠ 8 → ow_I ((M 83 21) + 1) ∧ ∀ N1, N1 = ow_up M 83 21 ((M 83 21) + 1) → ow_Sp C (EM A L N) d mX12_push (0, 0) [(3, 83), (0, s0)] N1 (fun r2 N2 => ow_Sp C (EM A L N) d mX12_nextToken (0, 0) [(3, 83)] N2 (fun r3 N3 => K 0 N3))) ∧ ((M 83 21) = 8 → K 3 M)) ∧ (s0 = 0 → K 1 M)) : ow_At C (EM A L N) (d + 1) mX12_beginOne 93 [(0, (3, 83))] [(0, s0)] (0, 0) M K := by
  refine ow_istore_n (pc' := 94) (lv' := [(0, (3, 83)), (1, (0, s0))]) dX12_beginOne_93 rfl rfl rfl ?_
  refine ow_iload_n (pc' := 95) (x := s0) dX12_beginOne_94 rfl rfl ?_
  refine ow_ifne (pc' := 98) (tg := 100) dX12_beginOne_95 rfl rfl (fun hc => ?_) (fun hc => ?_)
  · have h := h.1 hc
    refine ow_aload_n (pc' := 101) (x := 83) dX12_beginOne_100 rfl rfl ?_
    refine ow_getf3 (pc' := 104) (t := 0) (ji := 21) (val := M 83 21) dX12_beginOne_101 fRX12_163 rfl rfl rfl (of_eq_true eo83) eg83_21 ?_
    refine ow_bipush (pc' := 106) (n := 8) dX12_beginOne_104 rfl rfl ?_
    refine ow_icmpne (pc' := 109) (tg := 111) dX12_beginOne_106 rfl rfl (fun hc => ?_) (fun hc => ?_)
    · have h := h.1 hc
      refine ow_aload_n (pc' := 112) (x := 83) dX12_beginOne_111 rfl rfl ?_
      refine ow_dup (pc' := 113) dX12_beginOne_112 rfl rfl ?_
      refine ow_getf3 (pc' := 116) (t := 0) (ji := 21) (val := M 83 21) dX12_beginOne_113 fRX12_163 rfl rfl rfl (of_eq_true eo83) eg83_21 ?_
      refine ow_iconst (pc' := 117) (n := 1) dX12_beginOne_116 rfl rfl ?_
      obtain ⟨vv1, h⟩ := h
      refine ow_iadd (pc' := 118) dX12_beginOne_117 vv1 rfl ?_
      refine ow_putf2 (pc' := 121) (t := 0) (ji := 21) dX12_beginOne_118 fRX12_163 rfl rfl rfl rfl (of_eq_true eo83) (of_eq_true en83_21) (fun hz => absurd hz (by decide)) (fun N1 eN1 => ?_)
      have h := h N1 eN1
      refine ow_aload_n (pc' := 122) (x := 83) dX12_beginOne_121 rfl rfl ?_
      refine ow_iload_n (pc' := 123) (x := s0) dX12_beginOne_122 rfl rfl ?_
      refine ow_callVv (z := mX12_push) (n := 1) (k := 12) (vs := [(0, s0)]) (x := 83) (st := []) (pc' := 126) (b1 := (0, 0)) (b2 := (0, 0)) dX12_beginOne_123 lRX12_184 kX12_push iX12_push rfl rfl rfl rfl rfl rfl (of_eq_true eo83) (ow_Sp.mono h (fun r2 N2 h => ?_))
      refine ow_aload_n (pc' := 127) (x := 83) dX12_beginOne_126 rfl rfl ?_
      refine ow_callVv (z := mX12_nextToken) (n := 0) (k := 12) (vs := []) (x := 83) (st := []) (pc' := 130) (b1 := (0, 0)) (b2 := (0, 0)) dX12_beginOne_127 lRX12_174 kX12_nextToken iX12_nextToken rfl rfl rfl rfl rfl rfl (of_eq_true eo83) (ow_Sp.mono h (fun r3 N3 h => ?_))
      refine ow_iconst (pc' := 131) (n := 0) dX12_beginOne_130 rfl rfl ?_
      exact ow_iret dX12_beginOne_131 rfl rfl h
    · have h := h.2 hc
      refine ow_iconst (pc' := 110) (n := 3) dX12_beginOne_109 rfl rfl ?_
      exact ow_iret dX12_beginOne_110 rfl rfl h
  · have h := h.2 hc
    refine ow_iconst (pc' := 99) (n := 1) dX12_beginOne_98 rfl rfl ?_
    exact ow_iret dX12_beginOne_99 rfl rfl h
theorem fX12_beginOne {C : ow_C} {A L N : Int} {d : Nat} {M : ow_M} {K : Int → ow_M → Prop} (h : ((M 83 12) ≠ 1 → ow_Sp C (EM A L N) d mX12_nameOf (0, 0) [(3, 83)] M (fun r1 N1 => (r1 < 0 → ((N1 83 12) ≠ 40 → ((N1 83 12) ≠ 45 → ow_At C (EM A L N) (d + 1) mX12_beginOne 93 [(0, (3, 83))] [(0, 0)] (0, 0) N1 K) ∧ ((N1 83 12) = 45 → ow_At C (EM A L N) (d + 1) mX12_beginOne 93 [(0, (3, 83))] [(0, 2)] (0, 0) N1 K)) ∧ ((N1 83 12) = 40 → ow_At C (EM A L N) (d + 1) mX12_beginOne 93 [(0, (3, 83))] [(0, 40)] (0, 0) N1 K)) ∧ (0 ≤ r1 → ow_Sp C (EM A L N) d mX12_nameOf (0, 0) [(3, 83)] N1 (fun r2 N2 => ow_Sp C (EM A L N) d mX12_emit (0, 0) [(3, 83), (0, 1), (0, r2)] N2 (fun r3 N3 => ow_Sp C (EM A L N) d mX12_nextToken (0, 0) [(3, 83)] N3 (fun r4 N4 => ow_Sp C (EM A L N) d mX12_whole (0, 0) [(3, 83)] N4 (fun r5 N5 => K 0 N5))))))) ∧ ((M 83 12) = 1 → ((M 83 13) ≤ 9999 → ow_Sp C (EM A L N) d mX12_emit (0, 0) [(3, 83), (0, 0), (0, M 83 13)] M (fun r6 N6 => ow_Sp C (EM A L N) d mX12_nextToken (0, 0) [(3, 83)] N6 (fun r7 N7 => ow_Sp C (EM A L N) d mX12_whole (0, 0) [(3, 83)] N7 (fun r8 N8 => K 0 N8)))) ∧ (9999 < (M 83 13) → K 2 M))) : ow_Sp C (EM A L N) (d + 1) mX12_beginOne (0, 0) [(3, 83)] M K := ow_enter (by decide +kernel) rfl rfl (cX12_beginOne_0 h)
set_option maxRecDepth 20000 in
theorem cX12_hasParen_0 {C : ow_C} {A L N : Int} {d : Nat} {M : ow_M} {K : Int → ow_M → Prop} (h : ow_At C (EM A L N) d mX12_hasParen 2 [(0, (3, 83)), (1, (0, 0))] [] (0, 0) M K) : ow_At C (EM A L N) d mX12_hasParen 0 [(0, (3, 83))] [] (0, 0) M K := by
  refine ow_iconst (pc' := 1) (n := 0) dX12_hasParen_0 rfl rfl ?_
  refine ow_istore_n (pc' := 2) (lv' := [(0, (3, 83)), (1, (0, 0))]) dX12_hasParen_1 rfl rfl rfl ?_
  exact h
set_option maxRecDepth 20000 in
theorem cX12_hasParen_2 {C : ow_C} {A L N : Int} {d : Nat} {M : ow_M} {K : Int → ow_M → Prop} {l1 : Int} (h : ((M 83 20) ≤ l1 → K 0 M) ∧ (l1 < (M 83 20) → (0 ≤ l1 ∧ l1 < 160) ∧ ((M 88 l1) ≠ 40 → ow_I (l1 + 1) ∧ ow_At C (EM A L N) d mX12_hasParen 2 [(0, (3, 83)), (1, (0, l1 + 1))] [] (0, 0) M K) ∧ ((M 88 l1) = 40 → K 1 M))) : ow_At C (EM A L N) d mX12_hasParen 2 [(0, (3, 83)), (1, (0, l1))] [] (0, 0) M K := by
  refine ow_iload_n (pc' := 3) (x := l1) dX12_hasParen_2 rfl rfl ?_
  refine ow_aload_n (pc' := 4) (x := 83) dX12_hasParen_3 rfl rfl ?_
  refine ow_getf3 (pc' := 7) (t := 0) (ji := 20) (val := M 83 20) dX12_hasParen_4 fRX12_156 rfl rfl rfl (of_eq_true eo83) eg83_20 ?_
  refine ow_icmpge (pc' := 10) (tg := 29) dX12_hasParen_7 rfl rfl (fun hc => ?_) (fun hc => ?_)
  · have h := h.1 hc
    refine ow_iconst (pc' := 30) (n := 0) dX12_hasParen_29 rfl rfl ?_
    exact ow_zret dX12_hasParen_30 rfl rfl (Or.inl rfl) h
  · have h := h.2 hc
    refine ow_aload_n (pc' := 11) (x := 83) dX12_hasParen_10 rfl rfl ?_
    refine ow_getf3 (pc' := 14) (t := 3) (ji := 19) (val := 88) dX12_hasParen_11 fRX12_29 rfl rfl rfl (of_eq_true eo83) eg83_19 ?_
    refine ow_iload_n (pc' := 15) (x := l1) dX12_hasParen_14 rfl rfl ?_
    obtain ⟨vv1, h⟩ := h
    refine ow_iaload3 (pc' := 16) (val := M 88 l1) dX12_hasParen_15 rfl (Eq.mpr (er88 _) vv1) (ea88 _) ?_
    refine ow_bipush (pc' := 18) (n := 40) dX12_hasParen_16 rfl rfl ?_
    refine ow_icmpne (pc' := 21) (tg := 23) dX12_hasParen_18 rfl rfl (fun hc => ?_) (fun hc => ?_)
    · have h := h.1 hc
      obtain ⟨vv2, h⟩ := h
      refine ow_iinc (pc' := 26) (lv' := [(0, (3, 83)), (1, (0, l1 + 1))]) dX12_hasParen_23 rfl vv2 rfl rfl rfl ?_
      refine ow_goto (tg := 2) dX12_hasParen_26 rfl ?_
      exact h
    · have h := h.2 hc
      refine ow_iconst (pc' := 22) (n := 1) dX12_hasParen_21 rfl rfl ?_
      exact ow_zret dX12_hasParen_22 rfl rfl (Or.inr rfl) h
theorem fX12_hasParen {C : ow_C} {A L N : Int} {d : Nat} {M : ow_M} {K : Int → ow_M → Prop} (h : ow_At C (EM A L N) d mX12_hasParen 2 [(0, (3, 83)), (1, (0, 0))] [] (0, 0) M K) : ow_Sp C (EM A L N) d mX12_hasParen (0, 0) [(3, 83)] M K := ow_enter (by decide +kernel) rfl rfl (cX12_hasParen_0 h)
set_option maxRecDepth 20000 in
theorem cX12_goesOn_0 {C : ow_C} {A L N : Int} {d : Nat} {M : ow_M} {K : Int → ow_M → Prop} (h : ((M 83 12) = 43 → K 1 M) ∧ ((M 83 12) ≠ 43 → ((M 83 12) = 45 → K 1 M) ∧ ((M 83 12) ≠ 45 → ((M 83 12) = 42 → K 1 M) ∧ ((M 83 12) ≠ 42 → ((M 83 12) = 47 → K 1 M) ∧ ((M 83 12) ≠ 47 → ((M 83 12) ≠ 41 → K 0 M) ∧ ((M 83 12) = 41 → ow_Sp C (EM A L N) d mX12_hasParen (0, 0) [(3, 83)] M (fun r1 N1 => (r1 = 0 → K 0 N1) ∧ (r1 ≠ 0 → K 1 N1)))))))) : ow_At C (EM A L N) (d + 1) mX12_goesOn 0 [(0, (3, 83))] [] (0, 0) M K := by
  refine ow_aload_n (pc' := 1) (x := 83) dX12_goesOn_0 rfl rfl ?_
  refine ow_getf3 (pc' := 4) (t := 0) (ji := 12) (val := M 83 12) dX12_goesOn_1 fRX12_125 rfl rfl rfl (of_eq_true eo83) eg83_12 ?_
  refine ow_bipush (pc' := 6) (n := 43) dX12_goesOn_4 rfl rfl ?_
  refine ow_icmpeq (pc' := 9) (tg := 52) dX12_goesOn_6 rfl rfl (fun hc => ?_) (fun hc => ?_)
  · have h := h.1 hc
    refine ow_iconst (pc' := 53) (n := 1) dX12_goesOn_52 rfl rfl ?_
    refine ow_goto (tg := 57) dX12_goesOn_53 rfl ?_
    exact ow_zret dX12_goesOn_57 rfl rfl (Or.inr rfl) h
  · have h := h.2 hc
    refine ow_aload_n (pc' := 10) (x := 83) dX12_goesOn_9 rfl rfl ?_
    refine ow_getf3 (pc' := 13) (t := 0) (ji := 12) (val := M 83 12) dX12_goesOn_10 fRX12_125 rfl rfl rfl (of_eq_true eo83) eg83_12 ?_
    refine ow_bipush (pc' := 15) (n := 45) dX12_goesOn_13 rfl rfl ?_
    refine ow_icmpeq (pc' := 18) (tg := 52) dX12_goesOn_15 rfl rfl (fun hc => ?_) (fun hc => ?_)
    · have h := h.1 hc
      refine ow_iconst (pc' := 53) (n := 1) dX12_goesOn_52 rfl rfl ?_
      refine ow_goto (tg := 57) dX12_goesOn_53 rfl ?_
      exact ow_zret dX12_goesOn_57 rfl rfl (Or.inr rfl) h
    · have h := h.2 hc
      refine ow_aload_n (pc' := 19) (x := 83) dX12_goesOn_18 rfl rfl ?_
      refine ow_getf3 (pc' := 22) (t := 0) (ji := 12) (val := M 83 12) dX12_goesOn_19 fRX12_125 rfl rfl rfl (of_eq_true eo83) eg83_12 ?_
      refine ow_bipush (pc' := 24) (n := 42) dX12_goesOn_22 rfl rfl ?_
      refine ow_icmpeq (pc' := 27) (tg := 52) dX12_goesOn_24 rfl rfl (fun hc => ?_) (fun hc => ?_)
      · have h := h.1 hc
        refine ow_iconst (pc' := 53) (n := 1) dX12_goesOn_52 rfl rfl ?_
        refine ow_goto (tg := 57) dX12_goesOn_53 rfl ?_
        exact ow_zret dX12_goesOn_57 rfl rfl (Or.inr rfl) h
      · have h := h.2 hc
        refine ow_aload_n (pc' := 28) (x := 83) dX12_goesOn_27 rfl rfl ?_
        refine ow_getf3 (pc' := 31) (t := 0) (ji := 12) (val := M 83 12) dX12_goesOn_28 fRX12_125 rfl rfl rfl (of_eq_true eo83) eg83_12 ?_
        refine ow_bipush (pc' := 33) (n := 47) dX12_goesOn_31 rfl rfl ?_
        refine ow_icmpeq (pc' := 36) (tg := 52) dX12_goesOn_33 rfl rfl (fun hc => ?_) (fun hc => ?_)
        · have h := h.1 hc
          refine ow_iconst (pc' := 53) (n := 1) dX12_goesOn_52 rfl rfl ?_
          refine ow_goto (tg := 57) dX12_goesOn_53 rfl ?_
          exact ow_zret dX12_goesOn_57 rfl rfl (Or.inr rfl) h
        · have h := h.2 hc
          refine ow_aload_n (pc' := 37) (x := 83) dX12_goesOn_36 rfl rfl ?_
          refine ow_getf3 (pc' := 40) (t := 0) (ji := 12) (val := M 83 12) dX12_goesOn_37 fRX12_125 rfl rfl rfl (of_eq_true eo83) eg83_12 ?_
          refine ow_bipush (pc' := 42) (n := 41) dX12_goesOn_40 rfl rfl ?_
          refine ow_icmpne (pc' := 45) (tg := 56) dX12_goesOn_42 rfl rfl (fun hc => ?_) (fun hc => ?_)
          · have h := h.1 hc
            refine ow_iconst (pc' := 57) (n := 0) dX12_goesOn_56 rfl rfl ?_
            exact ow_zret dX12_goesOn_57 rfl rfl (Or.inl rfl) h
          · have h := h.2 hc
            refine ow_aload_n (pc' := 46) (x := 83) dX12_goesOn_45 rfl rfl ?_
            refine ow_callVp (z := mX12_hasParen) (n := 0) (k := 12) (vs := []) (x := 83) (st := []) (pc' := 49) (b1 := (0, 0)) (b2 := (0, 0)) dX12_goesOn_46 lRX12_187 kX12_hasParen iX12_hasParen rfl rfl rfl rfl rfl rfl (of_eq_true eo83) (ow_Sp.mono h (fun r1 N1 h => ?_))
            refine ow_ifeq (pc' := 52) (tg := 56) dX12_goesOn_49 rfl rfl (fun hc => ?_) (fun hc => ?_)
            · have h := h.1 hc
              refine ow_iconst (pc' := 57) (n := 0) dX12_goesOn_56 rfl rfl ?_
              exact ow_zret dX12_goesOn_57 rfl rfl (Or.inl rfl) h
            · have h := h.2 hc
              refine ow_iconst (pc' := 53) (n := 1) dX12_goesOn_52 rfl rfl ?_
              refine ow_goto (tg := 57) dX12_goesOn_53 rfl ?_
              exact ow_zret dX12_goesOn_57 rfl rfl (Or.inr rfl) h
theorem fX12_goesOn {C : ow_C} {A L N : Int} {d : Nat} {M : ow_M} {K : Int → ow_M → Prop} (h : ((M 83 12) = 43 → K 1 M) ∧ ((M 83 12) ≠ 43 → ((M 83 12) = 45 → K 1 M) ∧ ((M 83 12) ≠ 45 → ((M 83 12) = 42 → K 1 M) ∧ ((M 83 12) ≠ 42 → ((M 83 12) = 47 → K 1 M) ∧ ((M 83 12) ≠ 47 → ((M 83 12) ≠ 41 → K 0 M) ∧ ((M 83 12) = 41 → ow_Sp C (EM A L N) d mX12_hasParen (0, 0) [(3, 83)] M (fun r1 N1 => (r1 = 0 → K 0 N1) ∧ (r1 ≠ 0 → K 1 N1)))))))) : ow_Sp C (EM A L N) (d + 1) mX12_goesOn (0, 0) [(3, 83)] M K := ow_enter (by decide +kernel) rfl rfl (cX12_goesOn_0 h)
set_option maxRecDepth 20000 in
theorem cX12_behindOne_0 {C : ow_C} {A L N : Int} {d : Nat} {M : ow_M} {K : Int → ow_M → Prop} (h : ((M 83 12) = 43 → ow_At C (EM A L N) (d + 1) mX12_behindOne 17 [(0, (3, 83)), (1, (0, M 83 12))] [] (0, 0) M K) ∧ ((M 83 12) ≠ 43 → ((M 83 12) ≠ 45 → ((M 83 12) = 42 → ow_At C (EM A L N) (d + 1) mX12_behindOne 57 [(0, (3, 83)), (1, (0, M 83 12))] [] (0, 0) M K) ∧ ((M 83 12) ≠ 42 → ((M 83 12) ≠ 47 → ow_Sp C (EM A L N) d mX12_settle (0, 0) [(3, 83), (0, 3)] M (fun r1 N1 => ow_I ((N1 83 20) - 1) ∧ ∀ N2, N2 = ow_up N1 83 20 ((N1 83 20) - 1) → ow_I ((N2 83 21) - 1) ∧ ∀ N3, N3 = ow_up N2 83 21 ((N2 83 21) - 1) → ow_Sp C (EM A L N) d mX12_whole (0, 0) [(3, 83)] N3 (fun r4 N4 => ow_At C (EM A L N) (d + 1) mX12_behindOne 115 [(0, (3, 83))] [] (0, 0) N4 K))) ∧ ((M 83 12) = 47 → ow_At C (EM A L N) (d + 1) mX12_behindOne 57 [(0, (3, 83)), (1, (0, M 83 12))] [] (0, 0) M K))) ∧ ((M 83 12) = 45 → ow_At C (EM A L N) (d + 1) mX12_behindOne 17 [(0, (3, 83)), (1, (0, M 83 12))] [] (0, 0) M K))) : ow_At C (EM A L N) (d + 1) mX12_behindOne 0 [(0, (3, 83))] [] (0, 0) M K := by
  refine ow_aload_n (pc' := 1) (x := 83) dX12_behindOne_0 rfl rfl ?_
  refine ow_getf3 (pc' := 4) (t := 0) (ji := 12) (val := M 83 12) dX12_behindOne_1 fRX12_125 rfl rfl rfl (of_eq_true eo83) eg83_12 ?_
  refine ow_istore_n (pc' := 5) (lv' := [(0, (3, 83)), (1, (0, M 83 12))]) dX12_behindOne_4 rfl rfl rfl ?_
  refine ow_iload_n (pc' := 6) (x := M 83 12) dX12_behindOne_5 rfl rfl ?_
  refine ow_bipush (pc' := 8) (n := 43) dX12_behindOne_6 rfl rfl ?_
  refine ow_icmpeq (pc' := 11) (tg := 17) dX12_behindOne_8 rfl rfl (fun hc => ?_) (fun hc => ?_)
  · have h := h.1 hc
    exact h
  · have h := h.2 hc
    refine ow_iload_n (pc' := 12) (x := M 83 12) dX12_behindOne_11 rfl rfl ?_
    refine ow_bipush (pc' := 14) (n := 45) dX12_behindOne_12 rfl rfl ?_
    refine ow_icmpne (pc' := 17) (tg := 45) dX12_behindOne_14 rfl rfl (fun hc => ?_) (fun hc => ?_)
    · have h := h.1 hc
      refine ow_iload_n (pc' := 46) (x := M 83 12) dX12_behindOne_45 rfl rfl ?_
      refine ow_bipush (pc' := 48) (n := 42) dX12_behindOne_46 rfl rfl ?_
      refine ow_icmpeq (pc' := 51) (tg := 57) dX12_behindOne_48 rfl rfl (fun hc => ?_) (fun hc => ?_)
      · have h := h.1 hc
        exact h
      · have h := h.2 hc
        refine ow_iload_n (pc' := 52) (x := M 83 12) dX12_behindOne_51 rfl rfl ?_
        refine ow_bipush (pc' := 54) (n := 47) dX12_behindOne_52 rfl rfl ?_
        refine ow_icmpne (pc' := 57) (tg := 86) dX12_behindOne_54 rfl rfl (fun hc => ?_) (fun hc => ?_)
        · have h := h.1 hc
          refine ow_aload_n (pc' := 87) (x := 83) dX12_behindOne_86 rfl rfl ?_
          refine ow_iconst (pc' := 88) (n := 3) dX12_behindOne_87 rfl rfl ?_
          refine ow_callVv (z := mX12_settle) (n := 1) (k := 12) (vs := [(0, 3)]) (x := 83) (st := []) (pc' := 91) (b1 := (0, 0)) (b2 := (0, 0)) dX12_behindOne_88 lRX12_191 kX12_settle iX12_settle rfl rfl rfl rfl rfl rfl (of_eq_true eo83) (ow_Sp.mono h (fun r1 N1 h => ?_))
          refine ow_aload_n (pc' := 92) (x := 83) dX12_behindOne_91 rfl rfl ?_
          refine ow_dup (pc' := 93) dX12_behindOne_92 rfl rfl ?_
          refine ow_getf3 (pc' := 96) (t := 0) (ji := 20) (val := N1 83 20) dX12_behindOne_93 fRX12_156 rfl rfl rfl (of_eq_true eo83) eg83_20 ?_
          refine ow_iconst (pc' := 97) (n := 1) dX12_behindOne_96 rfl rfl ?_
          obtain ⟨vv1, h⟩ := h
          refine ow_isub (pc' := 98) dX12_behindOne_97 vv1 rfl ?_
          refine ow_putf2 (pc' := 101) (t := 0) (ji := 20) dX12_behindOne_98 fRX12_156 rfl rfl rfl rfl (of_eq_true eo83) (of_eq_true en83_20) (fun hz => absurd hz (by decide)) (fun N2 eN2 => ?_)
          have h := h N2 eN2
          refine ow_aload_n (pc' := 102) (x := 83) dX12_behindOne_101 rfl rfl ?_
          refine ow_dup (pc' := 103) dX12_behindOne_102 rfl rfl ?_
          refine ow_getf3 (pc' := 106) (t := 0) (ji := 21) (val := N2 83 21) dX12_behindOne_103 fRX12_163 rfl rfl rfl (of_eq_true eo83) eg83_21 ?_
          refine ow_iconst (pc' := 107) (n := 1) dX12_behindOne_106 rfl rfl ?_
          obtain ⟨vv2, h⟩ := h
          refine ow_isub (pc' := 108) dX12_behindOne_107 vv2 rfl ?_
          refine ow_putf2 (pc' := 111) (t := 0) (ji := 21) dX12_behindOne_108 fRX12_163 rfl rfl rfl rfl (of_eq_true eo83) (of_eq_true en83_21) (fun hz => absurd hz (by decide)) (fun N3 eN3 => ?_)
          have h := h N3 eN3
          refine ow_aload_n (pc' := 112) (x := 83) dX12_behindOne_111 rfl rfl ?_
          refine ow_callVv (z := mX12_whole) (n := 0) (k := 12) (vs := []) (x := 83) (st := []) (pc' := 115) (b1 := (0, 0)) (b2 := (0, 0)) dX12_behindOne_112 lRX12_177 kX12_whole iX12_whole rfl rfl rfl rfl rfl rfl (of_eq_true eo83) (ow_Sp.mono h (fun r4 N4 h => ?_))
          refine ow_sub (lv' := [(0, (3, 83))]) [0] rfl ?_
          exact h
        · have h := h.2 hc
          exact h
    · have h := h.2 hc
      exact h
set_option maxRecDepth 20000 in
theorem cX12_behindOne_17 {C : ow_C} {A L N : Int} {d : Nat} {M : ow_M} {K : Int → ow_M → Prop} {l1 : Int} (h : ow_Sp C (EM A L N) d mX12_settle (0, 0) [(3, 83), (0, 3)] M (fun r1 N1 => (l1 ≠ 43 → ow_At C (EM A L N) (d + 1) mX12_behindOne 34 [(0, (3, 83))] [(0, 4), (3, 83)] (0, 0) N1 K) ∧ (l1 = 43 → ow_At C (EM A L N) (d + 1) mX12_behindOne 34 [(0, (3, 83))] [(0, 3), (3, 83)] (0, 0) N1 K))) : ow_At C (EM A L N) (d + 1) mX12_behindOne 17 [(0, (3, 83)), (1, (0, l1))] [] (0, 0) M K := by
  refine ow_aload_n (pc' := 18) (x := 83) dX12_behindOne_17 rfl rfl ?_
  refine ow_iconst (pc' := 19) (n := 3) dX12_behindOne_18 rfl rfl ?_
  refine ow_callVv (z := mX12_settle) (n := 1) (k := 12) (vs := [(0, 3)]) (x := 83) (st := []) (pc' := 22) (b1 := (0, 0)) (b2 := (0, 0)) dX12_behindOne_19 lRX12_191 kX12_settle iX12_settle rfl rfl rfl rfl rfl rfl (of_eq_true eo83) (ow_Sp.mono h (fun r1 N1 h => ?_))
  refine ow_aload_n (pc' := 23) (x := 83) dX12_behindOne_22 rfl rfl ?_
  refine ow_iload_n (pc' := 24) (x := l1) dX12_behindOne_23 rfl rfl ?_
  refine ow_bipush (pc' := 26) (n := 43) dX12_behindOne_24 rfl rfl ?_
  refine ow_icmpne (pc' := 29) (tg := 33) dX12_behindOne_26 rfl rfl (fun hc => ?_) (fun hc => ?_)
  · have h := h.1 hc
    refine ow_iconst (pc' := 34) (n := 4) dX12_behindOne_33 rfl rfl ?_
    refine ow_sub (lv' := [(0, (3, 83))]) [0] rfl ?_
    exact h
  · have h := h.2 hc
    refine ow_iconst (pc' := 30) (n := 3) dX12_behindOne_29 rfl rfl ?_
    refine ow_goto (tg := 34) dX12_behindOne_30 rfl ?_
    refine ow_sub (lv' := [(0, (3, 83))]) [0] rfl ?_
    exact h
set_option maxRecDepth 20000 in
theorem cX12_behindOne_57 {C : ow_C} {A L N : Int} {d : Nat} {M : ow_M} {K : Int → ow_M → Prop} {l1 : Int} (h : ow_Sp C (EM A L N) d mX12_settle (0, 0) [(3, 83), (0, 5)] M (fun r1 N1 => (l1 ≠ 42 → ow_At C (EM A L N) (d + 1) mX12_behindOne 75 [(0, (3, 83))] [(0, 6), (3, 83)] (0, 0) N1 K) ∧ (l1 = 42 → ow_At C (EM A L N) (d + 1) mX12_behindOne 75 [(0, (3, 83))] [(0, 5), (3, 83)] (0, 0) N1 K))) : ow_At C (EM A L N) (d + 1) mX12_behindOne 57 [(0, (3, 83)), (1, (0, l1))] [] (0, 0) M K := by
  refine ow_aload_n (pc' := 58) (x := 83) dX12_behindOne_57 rfl rfl ?_
  refine ow_iconst (pc' := 59) (n := 5) dX12_behindOne_58 rfl rfl ?_
  refine ow_callVv (z := mX12_settle) (n := 1) (k := 12) (vs := [(0, 5)]) (x := 83) (st := []) (pc' := 62) (b1 := (0, 0)) (b2 := (0, 0)) dX12_behindOne_59 lRX12_191 kX12_settle iX12_settle rfl rfl rfl rfl rfl rfl (of_eq_true eo83) (ow_Sp.mono h (fun r1 N1 h => ?_))
  refine ow_aload_n (pc' := 63) (x := 83) dX12_behindOne_62 rfl rfl ?_
  refine ow_iload_n (pc' := 64) (x := l1) dX12_behindOne_63 rfl rfl ?_
  refine ow_bipush (pc' := 66) (n := 42) dX12_behindOne_64 rfl rfl ?_
  refine ow_icmpne (pc' := 69) (tg := 73) dX12_behindOne_66 rfl rfl (fun hc => ?_) (fun hc => ?_)
  · have h := h.1 hc
    refine ow_bipush (pc' := 75) (n := 6) dX12_behindOne_73 rfl rfl ?_
    refine ow_sub (lv' := [(0, (3, 83))]) [0] rfl ?_
    exact h
  · have h := h.2 hc
    refine ow_iconst (pc' := 70) (n := 5) dX12_behindOne_69 rfl rfl ?_
    refine ow_goto (tg := 75) dX12_behindOne_70 rfl ?_
    refine ow_sub (lv' := [(0, (3, 83))]) [0] rfl ?_
    exact h
set_option maxRecDepth 20000 in
theorem cX12_behindOne_115 {C : ow_C} {A L N : Int} {d : Nat} {M : ow_M} {K : Int → ow_M → Prop} (h : ow_Sp C (EM A L N) d mX12_nextToken (0, 0) [(3, 83)] M (fun r1 N1 => K 0 N1)) : ow_At C (EM A L N) (d + 1) mX12_behindOne 115 [(0, (3, 83))] [] (0, 0) M K := by
  refine ow_aload_n (pc' := 116) (x := 83) dX12_behindOne_115 rfl rfl ?_
  refine ow_callVv (z := mX12_nextToken) (n := 0) (k := 12) (vs := []) (x := 83) (st := []) (pc' := 119) (b1 := (0, 0)) (b2 := (0, 0)) dX12_behindOne_116 lRX12_174 kX12_nextToken iX12_nextToken rfl rfl rfl rfl rfl rfl (of_eq_true eo83) (ow_Sp.mono h (fun r1 N1 h => ?_))
  refine ow_iconst (pc' := 120) (n := 0) dX12_behindOne_119 rfl rfl ?_
  exact ow_iret dX12_behindOne_120 rfl rfl h
set_option maxRecDepth 20000 in
theorem cX12_behindOne_34 {C : ow_C} {A L N : Int} {d : Nat} {M : ow_M} {K : Int → ow_M → Prop} {s0 : Int} (h : ow_Sp C (EM A L N) d mX12_push (0, 0) [(3, 83), (0, s0)] M (fun r1 N1 => ∀ N2, N2 = ow_up N1 83 22 0 → ow_At C (EM A L N) (d + 1) mX12_behindOne 115 [(0, (3, 83))] [] (0, 0) N2 K)) : ow_At C (EM A L N) (d + 1) mX12_behindOne 34 [(0, (3, 83))] [(0, s0), (3, 83)] (0, 0) M K := by
  refine ow_callVv (z := mX12_push) (n := 1) (k := 12) (vs := [(0, s0)]) (x := 83) (st := []) (pc' := 37) (b1 := (0, 0)) (b2 := (0, 0)) dX12_behindOne_34 lRX12_184 kX12_push iX12_push rfl rfl rfl rfl rfl rfl (of_eq_true eo83) (ow_Sp.mono h (fun r1 N1 h => ?_))
  refine ow_aload_n (pc' := 38) (x := 83) dX12_behindOne_37 rfl rfl ?_
  refine ow_iconst (pc' := 39) (n := 0) dX12_behindOne_38 rfl rfl ?_
  have w2 : (0 : Int) = 0 ∨ (0 : Int) = 1 := by decide
  refine ow_putf2 (pc' := 42) (t := 0) (ji := 22) dX12_behindOne_39 fRX12_159 rfl rfl rfl rfl (of_eq_true eo83) (of_eq_true en83_22) (fun _ => w2) (fun N2 eN2 => ?_)
  have h := h N2 eN2
  refine ow_goto (tg := 115) dX12_behindOne_42 rfl ?_
  exact h
set_option maxRecDepth 20000 in
theorem cX12_behindOne_75 {C : ow_C} {A L N : Int} {d : Nat} {M : ow_M} {K : Int → ow_M → Prop} {s0 : Int} (h : ow_Sp C (EM A L N) d mX12_push (0, 0) [(3, 83), (0, s0)] M (fun r1 N1 => ∀ N2, N2 = ow_up N1 83 22 0 → ow_At C (EM A L N) (d + 1) mX12_behindOne 115 [(0, (3, 83))] [] (0, 0) N2 K)) : ow_At C (EM A L N) (d + 1) mX12_behindOne 75 [(0, (3, 83))] [(0, s0), (3, 83)] (0, 0) M K := by
  refine ow_callVv (z := mX12_push) (n := 1) (k := 12) (vs := [(0, s0)]) (x := 83) (st := []) (pc' := 78) (b1 := (0, 0)) (b2 := (0, 0)) dX12_behindOne_75 lRX12_184 kX12_push iX12_push rfl rfl rfl rfl rfl rfl (of_eq_true eo83) (ow_Sp.mono h (fun r1 N1 h => ?_))
  refine ow_aload_n (pc' := 79) (x := 83) dX12_behindOne_78 rfl rfl ?_
  refine ow_iconst (pc' := 80) (n := 0) dX12_behindOne_79 rfl rfl ?_
  have w2 : (0 : Int) = 0 ∨ (0 : Int) = 1 := by decide
  refine ow_putf2 (pc' := 83) (t := 0) (ji := 22) dX12_behindOne_80 fRX12_159 rfl rfl rfl rfl (of_eq_true eo83) (of_eq_true en83_22) (fun _ => w2) (fun N2 eN2 => ?_)
  have h := h N2 eN2
  refine ow_goto (tg := 115) dX12_behindOne_83 rfl ?_
  exact h
theorem fX12_behindOne {C : ow_C} {A L N : Int} {d : Nat} {M : ow_M} {K : Int → ow_M → Prop} (h : ((M 83 12) = 43 → ow_At C (EM A L N) (d + 1) mX12_behindOne 17 [(0, (3, 83)), (1, (0, M 83 12))] [] (0, 0) M K) ∧ ((M 83 12) ≠ 43 → ((M 83 12) ≠ 45 → ((M 83 12) = 42 → ow_At C (EM A L N) (d + 1) mX12_behindOne 57 [(0, (3, 83)), (1, (0, M 83 12))] [] (0, 0) M K) ∧ ((M 83 12) ≠ 42 → ((M 83 12) ≠ 47 → ow_Sp C (EM A L N) d mX12_settle (0, 0) [(3, 83), (0, 3)] M (fun r1 N1 => ow_I ((N1 83 20) - 1) ∧ ∀ N2, N2 = ow_up N1 83 20 ((N1 83 20) - 1) → ow_I ((N2 83 21) - 1) ∧ ∀ N3, N3 = ow_up N2 83 21 ((N2 83 21) - 1) → ow_Sp C (EM A L N) d mX12_whole (0, 0) [(3, 83)] N3 (fun r4 N4 => ow_At C (EM A L N) (d + 1) mX12_behindOne 115 [(0, (3, 83))] [] (0, 0) N4 K))) ∧ ((M 83 12) = 47 → ow_At C (EM A L N) (d + 1) mX12_behindOne 57 [(0, (3, 83)), (1, (0, M 83 12))] [] (0, 0) M K))) ∧ ((M 83 12) = 45 → ow_At C (EM A L N) (d + 1) mX12_behindOne 17 [(0, (3, 83)), (1, (0, M 83 12))] [] (0, 0) M K))) : ow_Sp C (EM A L N) (d + 1) mX12_behindOne (0, 0) [(3, 83)] M K := ow_enter (by decide +kernel) rfl rfl (cX12_behindOne_0 h)
set_option maxRecDepth 20000 in
theorem cX12_summed_0 {C : ow_C} {A L N : Int} {d : Nat} {M : ow_M} {K : Int → ow_M → Prop} (h : ∀ N1, N1 = ow_up M 83 20 0 → ∀ N2, N2 = ow_up N1 83 22 0 → ow_At C (EM A L N) (d + 1) mX12_summed 10 [(0, (3, 83))] [] (0, 0) N2 K) : ow_At C (EM A L N) (d + 1) mX12_summed 0 [(0, (3, 83))] [] (0, 0) M K := by
  refine ow_aload_n (pc' := 1) (x := 83) dX12_summed_0 rfl rfl ?_
  refine ow_iconst (pc' := 2) (n := 0) dX12_summed_1 rfl rfl ?_
  refine ow_putf2 (pc' := 5) (t := 0) (ji := 20) dX12_summed_2 fRX12_156 rfl rfl rfl rfl (of_eq_true eo83) (of_eq_true en83_20) (fun hz => absurd hz (by decide)) (fun N1 eN1 => ?_)
  have h := h N1 eN1
  refine ow_aload_n (pc' := 6) (x := 83) dX12_summed_5 rfl rfl ?_
  refine ow_iconst (pc' := 7) (n := 0) dX12_summed_6 rfl rfl ?_
  have w2 : (0 : Int) = 0 ∨ (0 : Int) = 1 := by decide
  refine ow_putf2 (pc' := 10) (t := 0) (ji := 22) dX12_summed_7 fRX12_159 rfl rfl rfl rfl (of_eq_true eo83) (of_eq_true en83_22) (fun _ => w2) (fun N2 eN2 => ?_)
  have h := h N2 eN2
  exact h
set_option maxRecDepth 20000 in
theorem cX12_summed_10 {C : ow_C} {A L N : Int} {d : Nat} {M : ow_M} {K : Int → ow_M → Prop} (h : ((M 83 22) = 0 → ow_At C (EM A L N) (d + 1) mX12_summed 24 [(0, (3, 83))] [] (0, 0) M K) ∧ ((M 83 22) ≠ 0 → ow_Sp C (EM A L N) d mX12_goesOn (0, 0) [(3, 83)] M (fun r1 N1 => (r1 = 0 → ow_Sp C (EM A L N) d mX12_settle (0, 0) [(3, 83), (0, 3)] N1 (fun r2 N2 => ((N2 83 20) ≤ 0 → K 0 N2) ∧ (0 < (N2 83 20) → K 1 N2))) ∧ (r1 ≠ 0 → ow_At C (EM A L N) (d + 1) mX12_summed 24 [(0, (3, 83))] [] (0, 0) N1 K)))) : ow_At C (EM A L N) (d + 1) mX12_summed 10 [(0, (3, 83))] [] (0, 0) M K := by
  refine ow_aload_n (pc' := 11) (x := 83) dX12_summed_10 rfl rfl ?_
  refine ow_getf3 (pc' := 14) (t := 0) (ji := 22) (val := M 83 22) dX12_summed_11 fRX12_159 rfl rfl rfl (of_eq_true eo83) eg83_22 ?_
  refine ow_ifeq (pc' := 17) (tg := 24) dX12_summed_14 rfl rfl (fun hc => ?_) (fun hc => ?_)
  · have h := h.1 hc
    exact h
  · have h := h.2 hc
    refine ow_aload_n (pc' := 18) (x := 83) dX12_summed_17 rfl rfl ?_
    refine ow_callVp (z := mX12_goesOn) (n := 0) (k := 12) (vs := []) (x := 83) (st := []) (pc' := 21) (b1 := (0, 0)) (b2 := (0, 0)) dX12_summed_18 lRX12_194 kX12_goesOn iX12_goesOn rfl rfl rfl rfl rfl rfl (of_eq_true eo83) (ow_Sp.mono h (fun r1 N1 h => ?_))
    refine ow_ifeq (pc' := 24) (tg := 52) dX12_summed_21 rfl rfl (fun hc => ?_) (fun hc => ?_)
    · have h := h.1 hc
      refine ow_aload_n (pc' := 53) (x := 83) dX12_summed_52 rfl rfl ?_
      refine ow_iconst (pc' := 54) (n := 3) dX12_summed_53 rfl rfl ?_
      refine ow_callVv (z := mX12_settle) (n := 1) (k := 12) (vs := [(0, 3)]) (x := 83) (st := []) (pc' := 57) (b1 := (0, 0)) (b2 := (0, 0)) dX12_summed_54 lRX12_191 kX12_settle iX12_settle rfl rfl rfl rfl rfl rfl (of_eq_true eo83) (ow_Sp.mono h (fun r2 N2 h => ?_))
      refine ow_aload_n (pc' := 58) (x := 83) dX12_summed_57 rfl rfl ?_
      refine ow_getf3 (pc' := 61) (t := 0) (ji := 20) (val := N2 83 20) dX12_summed_58 fRX12_156 rfl rfl rfl (of_eq_true eo83) eg83_20 ?_
      refine ow_ifle (pc' := 64) (tg := 68) dX12_summed_61 rfl rfl (fun hc => ?_) (fun hc => ?_)
      · have h := h.1 hc
        refine ow_iconst (pc' := 69) (n := 0) dX12_summed_68 rfl rfl ?_
        exact ow_iret dX12_summed_69 rfl rfl h
      · have h := h.2 hc
        refine ow_iconst (pc' := 65) (n := 1) dX12_summed_64 rfl rfl ?_
        refine ow_goto (tg := 69) dX12_summed_65 rfl ?_
        exact ow_iret dX12_summed_69 rfl rfl h
    · have h := h.2 hc
      exact h
set_option maxRecDepth 20000 in
theorem cX12_summed_24 {C : ow_C} {A L N : Int} {d : Nat} {M : ow_M} {K : Int → ow_M → Prop} (h : ((M 83 22) = 0 → ow_Sp C (EM A L N) d mX12_beginOne (0, 0) [(3, 83)] M (fun r1 N1 => ow_At C (EM A L N) (d + 1) mX12_summed 42 [(0, (3, 83))] [(0, r1)] (0, 0) N1 K)) ∧ ((M 83 22) ≠ 0 → ow_Sp C (EM A L N) d mX12_behindOne (0, 0) [(3, 83)] M (fun r2 N2 => ow_At C (EM A L N) (d + 1) mX12_summed 42 [(0, (3, 83))] [(0, r2)] (0, 0) N2 K))) : ow_At C (EM A L N) (d + 1) mX12_summed 24 [(0, (3, 83))] [] (0, 0) M K := by
  refine ow_aload_n (pc' := 25) (x := 83) dX12_summed_24 rfl rfl ?_
  refine ow_getf3 (pc' := 28) (t := 0) (ji := 22) (val := M 83 22) dX12_summed_25 fRX12_159 rfl rfl rfl (of_eq_true eo83) eg83_22 ?_
  refine ow_ifeq (pc' := 31) (tg := 38) dX12_summed_28 rfl rfl (fun hc => ?_) (fun hc => ?_)
  · have h := h.1 hc
    refine ow_aload_n (pc' := 39) (x := 83) dX12_summed_38 rfl rfl ?_
    refine ow_callVp (z := mX12_beginOne) (n := 0) (k := 12) (vs := []) (x := 83) (st := []) (pc' := 42) (b1 := (0, 0)) (b2 := (0, 0)) dX12_summed_39 lRX12_200 kX12_beginOne iX12_beginOne rfl rfl rfl rfl rfl rfl (of_eq_true eo83) (ow_Sp.mono h (fun r1 N1 h => ?_))
    exact h
  · have h := h.2 hc
    refine ow_aload_n (pc' := 32) (x := 83) dX12_summed_31 rfl rfl ?_
    refine ow_callVp (z := mX12_behindOne) (n := 0) (k := 12) (vs := []) (x := 83) (st := []) (pc' := 35) (b1 := (0, 0)) (b2 := (0, 0)) dX12_summed_32 lRX12_197 kX12_behindOne iX12_behindOne rfl rfl rfl rfl rfl rfl (of_eq_true eo83) (ow_Sp.mono h (fun r2 N2 h => ?_))
    refine ow_goto (tg := 42) dX12_summed_35 rfl ?_
    exact h
set_option maxRecDepth 20000 in
theorem cX12_summed_42 {C : ow_C} {A L N : Int} {d : Nat} {M : ow_M} {K : Int → ow_M → Prop} {s0 : Int} (h : (s0 = 0 → ow_At C (EM A L N) (d + 1) mX12_summed 10 [(0, (3, 83))] [] (0, 0) M K) ∧ (s0 ≠ 0 → K s0 M)) : ow_At C (EM A L N) (d + 1) mX12_summed 42 [(0, (3, 83))] [(0, s0)] (0, 0) M K := by
  refine ow_istore_n (pc' := 43) (lv' := [(0, (3, 83)), (1, (0, s0))]) dX12_summed_42 rfl rfl rfl ?_
  refine ow_iload_n (pc' := 44) (x := s0) dX12_summed_43 rfl rfl ?_
  refine ow_ifeq (pc' := 47) (tg := 49) dX12_summed_44 rfl rfl (fun hc => ?_) (fun hc => ?_)
  · have h := h.1 hc
    refine ow_goto (tg := 10) dX12_summed_49 rfl ?_
    refine ow_sub (lv' := [(0, (3, 83))]) [0] rfl ?_
    exact h
  · have h := h.2 hc
    refine ow_iload_n (pc' := 48) (x := s0) dX12_summed_47 rfl rfl ?_
    exact ow_iret dX12_summed_48 rfl rfl h
theorem fX12_summed {C : ow_C} {A L N : Int} {d : Nat} {M : ow_M} {K : Int → ow_M → Prop} (h : ∀ N1, N1 = ow_up M 83 20 0 → ∀ N2, N2 = ow_up N1 83 22 0 → ow_At C (EM A L N) (d + 1) mX12_summed 10 [(0, (3, 83))] [] (0, 0) N2 K) : ow_Sp C (EM A L N) (d + 1) mX12_summed (0, 0) [(3, 83)] M K := ow_enter (by decide +kernel) rfl rfl (cX12_summed_0 h)
set_option maxRecDepth 20000 in
theorem cX12_compareOf_0 {C : ow_C} {A L N : Int} {d : Nat} {M : ow_M} {K : Int → ow_M → Prop} (h : ((M 83 12) ≠ 60 → ((M 83 12) ≠ 4 → ((M 83 12) ≠ 62 → ((M 83 12) ≠ 5 → ((M 83 12) ≠ 61 → ((M 83 12) ≠ 35 → K ((-1)) M) ∧ ((M 83 12) = 35 → K 15 M)) ∧ ((M 83 12) = 61 → K 14 M)) ∧ ((M 83 12) = 5 → K 13 M)) ∧ ((M 83 12) = 62 → K 12 M)) ∧ ((M 83 12) = 4 → K 11 M)) ∧ ((M 83 12) = 60 → K 10 M)) : ow_At C (EM A L N) d mX12_compareOf 0 [(0, (3, 83))] [] (0, 0) M K := by
  refine ow_aload_n (pc' := 1) (x := 83) dX12_compareOf_0 rfl rfl ?_
  refine ow_getf3 (pc' := 4) (t := 0) (ji := 12) (val := M 83 12) dX12_compareOf_1 fRX12_125 rfl rfl rfl (of_eq_true eo83) eg83_12 ?_
  refine ow_bipush (pc' := 6) (n := 60) dX12_compareOf_4 rfl rfl ?_
  refine ow_icmpne (pc' := 9) (tg := 14) dX12_compareOf_6 rfl rfl (fun hc => ?_) (fun hc => ?_)
  · have h := h.1 hc
    refine ow_aload_n (pc' := 15) (x := 83) dX12_compareOf_14 rfl rfl ?_
    refine ow_getf3 (pc' := 18) (t := 0) (ji := 12) (val := M 83 12) dX12_compareOf_15 fRX12_125 rfl rfl rfl (of_eq_true eo83) eg83_12 ?_
    refine ow_iconst (pc' := 19) (n := 4) dX12_compareOf_18 rfl rfl ?_
    refine ow_icmpne (pc' := 22) (tg := 27) dX12_compareOf_19 rfl rfl (fun hc => ?_) (fun hc => ?_)
    · have h := h.1 hc
      refine ow_aload_n (pc' := 28) (x := 83) dX12_compareOf_27 rfl rfl ?_
      refine ow_getf3 (pc' := 31) (t := 0) (ji := 12) (val := M 83 12) dX12_compareOf_28 fRX12_125 rfl rfl rfl (of_eq_true eo83) eg83_12 ?_
      refine ow_bipush (pc' := 33) (n := 62) dX12_compareOf_31 rfl rfl ?_
      refine ow_icmpne (pc' := 36) (tg := 41) dX12_compareOf_33 rfl rfl (fun hc => ?_) (fun hc => ?_)
      · have h := h.1 hc
        refine ow_aload_n (pc' := 42) (x := 83) dX12_compareOf_41 rfl rfl ?_
        refine ow_getf3 (pc' := 45) (t := 0) (ji := 12) (val := M 83 12) dX12_compareOf_42 fRX12_125 rfl rfl rfl (of_eq_true eo83) eg83_12 ?_
        refine ow_iconst (pc' := 46) (n := 5) dX12_compareOf_45 rfl rfl ?_
        refine ow_icmpne (pc' := 49) (tg := 54) dX12_compareOf_46 rfl rfl (fun hc => ?_) (fun hc => ?_)
        · have h := h.1 hc
          refine ow_aload_n (pc' := 55) (x := 83) dX12_compareOf_54 rfl rfl ?_
          refine ow_getf3 (pc' := 58) (t := 0) (ji := 12) (val := M 83 12) dX12_compareOf_55 fRX12_125 rfl rfl rfl (of_eq_true eo83) eg83_12 ?_
          refine ow_bipush (pc' := 60) (n := 61) dX12_compareOf_58 rfl rfl ?_
          refine ow_icmpne (pc' := 63) (tg := 68) dX12_compareOf_60 rfl rfl (fun hc => ?_) (fun hc => ?_)
          · have h := h.1 hc
            refine ow_aload_n (pc' := 69) (x := 83) dX12_compareOf_68 rfl rfl ?_
            refine ow_getf3 (pc' := 72) (t := 0) (ji := 12) (val := M 83 12) dX12_compareOf_69 fRX12_125 rfl rfl rfl (of_eq_true eo83) eg83_12 ?_
            refine ow_bipush (pc' := 74) (n := 35) dX12_compareOf_72 rfl rfl ?_
            refine ow_icmpne (pc' := 77) (tg := 82) dX12_compareOf_74 rfl rfl (fun hc => ?_) (fun hc => ?_)
            · have h := h.1 hc
              refine ow_iconst (pc' := 83) (n := (-1)) dX12_compareOf_82 rfl rfl ?_
              exact ow_iret dX12_compareOf_83 rfl rfl h
            · have h := h.2 hc
              refine ow_bipush (pc' := 79) (n := 15) dX12_compareOf_77 rfl rfl ?_
              refine ow_goto (tg := 83) dX12_compareOf_79 rfl ?_
              exact ow_iret dX12_compareOf_83 rfl rfl h
          · have h := h.2 hc
            refine ow_bipush (pc' := 65) (n := 14) dX12_compareOf_63 rfl rfl ?_
            refine ow_goto (tg := 83) dX12_compareOf_65 rfl ?_
            exact ow_iret dX12_compareOf_83 rfl rfl h
        · have h := h.2 hc
          refine ow_bipush (pc' := 51) (n := 13) dX12_compareOf_49 rfl rfl ?_
          refine ow_goto (tg := 83) dX12_compareOf_51 rfl ?_
          exact ow_iret dX12_compareOf_83 rfl rfl h
      · have h := h.2 hc
        refine ow_bipush (pc' := 38) (n := 12) dX12_compareOf_36 rfl rfl ?_
        refine ow_goto (tg := 83) dX12_compareOf_38 rfl ?_
        exact ow_iret dX12_compareOf_83 rfl rfl h
    · have h := h.2 hc
      refine ow_bipush (pc' := 24) (n := 11) dX12_compareOf_22 rfl rfl ?_
      refine ow_goto (tg := 83) dX12_compareOf_24 rfl ?_
      exact ow_iret dX12_compareOf_83 rfl rfl h
  · have h := h.2 hc
    refine ow_bipush (pc' := 11) (n := 10) dX12_compareOf_9 rfl rfl ?_
    refine ow_goto (tg := 83) dX12_compareOf_11 rfl ?_
    exact ow_iret dX12_compareOf_83 rfl rfl h
theorem fX12_compareOf {C : ow_C} {A L N : Int} {d : Nat} {M : ow_M} {K : Int → ow_M → Prop} (h : ((M 83 12) ≠ 60 → ((M 83 12) ≠ 4 → ((M 83 12) ≠ 62 → ((M 83 12) ≠ 5 → ((M 83 12) ≠ 61 → ((M 83 12) ≠ 35 → K ((-1)) M) ∧ ((M 83 12) = 35 → K 15 M)) ∧ ((M 83 12) = 61 → K 14 M)) ∧ ((M 83 12) = 5 → K 13 M)) ∧ ((M 83 12) = 62 → K 12 M)) ∧ ((M 83 12) = 4 → K 11 M)) ∧ ((M 83 12) = 60 → K 10 M)) : ow_Sp C (EM A L N) d mX12_compareOf (0, 0) [(3, 83)] M K := ow_enter (by decide +kernel) rfl rfl (cX12_compareOf_0 h)
set_option maxRecDepth 20000 in
theorem cX12_asks_0 {C : ow_C} {A L N : Int} {d : Nat} {M : ow_M} {K : Int → ow_M → Prop} (h : ow_At C (EM A L N) (d + 1) mX12_asks 2 [(0, (3, 83)), (1, (0, 0))] [] (0, 0) M K) : ow_At C (EM A L N) (d + 1) mX12_asks 0 [(0, (3, 83))] [] (0, 0) M K := by
  refine ow_iconst (pc' := 1) (n := 0) dX12_asks_0 rfl rfl ?_
  refine ow_istore_n (pc' := 2) (lv' := [(0, (3, 83)), (1, (0, 0))]) dX12_asks_1 rfl rfl rfl ?_
  exact h
set_option maxRecDepth 20000 in
theorem cX12_asks_2 {C : ow_C} {A L N : Int} {d : Nat} {M : ow_M} {K : Int → ow_M → Prop} {l1 : Int} (h : ow_Sp C (EM A L N) d mX12_w3 (0, 0) [(0, 110), (0, 111), (0, 116)] M (fun r1 N1 => ow_Sp C (EM A L N) d mX12_isWord (0, 0) [(3, 83), (1, r1)] N1 (fun r2 N2 => (r2 = 0 → ow_Sp C (EM A L N) d mX12_summed (0, 0) [(3, 83)] N2 (fun r3 N3 => (r3 = 0 → ow_Sp C (EM A L N) d mX12_compareOf (0, 0) [(3, 83)] N3 (fun r4 N4 => (0 ≤ r4 → ow_Sp C (EM A L N) d mX12_nextToken (0, 0) [(3, 83)] N4 (fun r5 N5 => ow_Sp C (EM A L N) d mX12_summed (0, 0) [(3, 83)] N5 (fun r6 N6 => (r6 = 0 → ow_Sp C (EM A L N) d mX12_emit (0, 0) [(3, 83), (0, r4), (0, 0)] N6 (fun r7 N7 => ow_I ((N7 83 21) - l1) ∧ ∀ N8, N8 = ow_up N7 83 21 ((N7 83 21) - l1) → ow_At C (EM A L N) (d + 1) mX12_asks 105 [(0, (3, 83)), (1, (0, l1)), (4, (0, 0))] [] (0, 0) N8 K)) ∧ (r6 ≠ 0 → K r6 N6)))) ∧ (r4 < 0 → K 1 N4))) ∧ (r3 ≠ 0 → K r3 N3))) ∧ (r2 ≠ 0 → ((N2 83 21) ≠ 8 → ow_I ((N2 83 21) + 1) ∧ ∀ N9, N9 = ow_up N2 83 21 ((N2 83 21) + 1) → ow_I (l1 + 1) ∧ ow_Sp C (EM A L N) d mX12_nextToken (0, 0) [(3, 83)] N9 (fun r10 N10 => ow_At C (EM A L N) (d + 1) mX12_asks 2 [(0, (3, 83)), (1, (0, l1 + 1))] [] (0, 0) N10 K)) ∧ ((N2 83 21) = 8 → K 3 N2))))) : ow_At C (EM A L N) (d + 1) mX12_asks 2 [(0, (3, 83)), (1, (0, l1))] [] (0, 0) M K := by
  refine ow_aload_n (pc' := 3) (x := 83) dX12_asks_2 rfl rfl ?_
  refine ow_bipush (pc' := 5) (n := 110) dX12_asks_3 rfl rfl ?_
  refine ow_bipush (pc' := 7) (n := 111) dX12_asks_5 rfl rfl ?_
  refine ow_bipush (pc' := 9) (n := 116) dX12_asks_7 rfl rfl ?_
  refine ow_callSp (z := mX12_w3) (n := 3) (vs := [(0, 110), (0, 111), (0, 116)]) (st := [(3, 83)]) (pc' := 12) (b1 := (0, 0)) (b2 := (0, 0)) dX12_asks_9 lRX12_142 kX12_w3 zX12_w3 rfl rfl rfl rfl rfl rfl (ow_Sp.mono h (fun r1 N1 h => ?_))
  refine ow_callVp (z := mX12_isWord) (n := 1) (k := 12) (vs := [(1, r1)]) (x := 83) (st := []) (pc' := 15) (b1 := (0, 0)) (b2 := (0, 0)) dX12_asks_12 lRX12_203 kX12_isWord iX12_isWord rfl rfl rfl rfl rfl rfl (of_eq_true eo83) (ow_Sp.mono h (fun r2 N2 h => ?_))
  refine ow_ifeq (pc' := 18) (tg := 49) dX12_asks_15 rfl rfl (fun hc => ?_) (fun hc => ?_)
  · have h := h.1 hc
    refine ow_aload_n (pc' := 50) (x := 83) dX12_asks_49 rfl rfl ?_
    refine ow_callVp (z := mX12_summed) (n := 0) (k := 12) (vs := []) (x := 83) (st := []) (pc' := 53) (b1 := (0, 0)) (b2 := (0, 0)) dX12_asks_50 lRX12_207 kX12_summed iX12_summed rfl rfl rfl rfl rfl rfl (of_eq_true eo83) (ow_Sp.mono h (fun r3 N3 h => ?_))
    refine ow_istore_n (pc' := 54) (lv' := [(0, (3, 83)), (1, (0, l1)), (2, (0, r3))]) dX12_asks_53 rfl rfl rfl ?_
    refine ow_iload_n (pc' := 55) (x := r3) dX12_asks_54 rfl rfl ?_
    refine ow_ifeq (pc' := 58) (tg := 60) dX12_asks_55 rfl rfl (fun hc => ?_) (fun hc => ?_)
    · have h := h.1 hc
      refine ow_aload_n (pc' := 61) (x := 83) dX12_asks_60 rfl rfl ?_
      refine ow_callVp (z := mX12_compareOf) (n := 0) (k := 12) (vs := []) (x := 83) (st := []) (pc' := 64) (b1 := (0, 0)) (b2 := (0, 0)) dX12_asks_61 lRX12_210 kX12_compareOf iX12_compareOf rfl rfl rfl rfl rfl rfl (of_eq_true eo83) (ow_Sp.mono h (fun r4 N4 h => ?_))
      refine ow_istore_n (pc' := 65) (lv' := [(0, (3, 83)), (1, (0, l1)), (2, (0, r3)), (3, (0, r4))]) dX12_asks_64 rfl rfl rfl ?_
      refine ow_iload_n (pc' := 66) (x := r4) dX12_asks_65 rfl rfl ?_
      refine ow_ifge (pc' := 69) (tg := 71) dX12_asks_66 rfl rfl (fun hc => ?_) (fun hc => ?_)
      · have h := h.1 hc
        refine ow_aload_n (pc' := 72) (x := 83) dX12_asks_71 rfl rfl ?_
        refine ow_callVv (z := mX12_nextToken) (n := 0) (k := 12) (vs := []) (x := 83) (st := []) (pc' := 75) (b1 := (0, 0)) (b2 := (0, 0)) dX12_asks_72 lRX12_174 kX12_nextToken iX12_nextToken rfl rfl rfl rfl rfl rfl (of_eq_true eo83) (ow_Sp.mono h (fun r5 N5 h => ?_))
        refine ow_aload_n (pc' := 76) (x := 83) dX12_asks_75 rfl rfl ?_
        refine ow_callVp (z := mX12_summed) (n := 0) (k := 12) (vs := []) (x := 83) (st := []) (pc' := 79) (b1 := (0, 0)) (b2 := (0, 0)) dX12_asks_76 lRX12_207 kX12_summed iX12_summed rfl rfl rfl rfl rfl rfl (of_eq_true eo83) (ow_Sp.mono h (fun r6 N6 h => ?_))
        refine ow_istore_n (pc' := 80) (lv' := [(0, (3, 83)), (1, (0, l1)), (2, (0, r6)), (3, (0, r4))]) dX12_asks_79 rfl rfl rfl ?_
        refine ow_iload_n (pc' := 81) (x := r6) dX12_asks_80 rfl rfl ?_
        refine ow_ifeq (pc' := 84) (tg := 86) dX12_asks_81 rfl rfl (fun hc => ?_) (fun hc => ?_)
        · have h := h.1 hc
          refine ow_aload_n (pc' := 87) (x := 83) dX12_asks_86 rfl rfl ?_
          refine ow_iload_n (pc' := 88) (x := r4) dX12_asks_87 rfl rfl ?_
          refine ow_iconst (pc' := 89) (n := 0) dX12_asks_88 rfl rfl ?_
          refine ow_callVv (z := mX12_emit) (n := 2) (k := 12) (vs := [(0, r4), (0, 0)]) (x := 83) (st := []) (pc' := 92) (b1 := (0, 0)) (b2 := (0, 0)) dX12_asks_89 lRX12_166 kX12_emit iX12_emit rfl rfl rfl rfl rfl rfl (of_eq_true eo83) (ow_Sp.mono h (fun r7 N7 h => ?_))
          refine ow_aload_n (pc' := 93) (x := 83) dX12_asks_92 rfl rfl ?_
          refine ow_dup (pc' := 94) dX12_asks_93 rfl rfl ?_
          refine ow_getf3 (pc' := 97) (t := 0) (ji := 21) (val := N7 83 21) dX12_asks_94 fRX12_163 rfl rfl rfl (of_eq_true eo83) eg83_21 ?_
          refine ow_iload_n (pc' := 98) (x := l1) dX12_asks_97 rfl rfl ?_
          obtain ⟨vv1, h⟩ := h
          refine ow_isub (pc' := 99) dX12_asks_98 vv1 rfl ?_
          refine ow_putf2 (pc' := 102) (t := 0) (ji := 21) dX12_asks_99 fRX12_163 rfl rfl rfl rfl (of_eq_true eo83) (of_eq_true en83_21) (fun hz => absurd hz (by decide)) (fun N8 eN8 => ?_)
          have h := h N8 eN8
          refine ow_iconst (pc' := 103) (n := 0) dX12_asks_102 rfl rfl ?_
          refine ow_istore (pc' := 105) (lv' := [(0, (3, 83)), (1, (0, l1)), (2, (0, r6)), (3, (0, r4)), (4, (0, 0))]) dX12_asks_103 rfl rfl rfl ?_
          refine ow_sub (lv' := [(0, (3, 83)), (1, (0, l1)), (4, (0, 0))]) [0, 1, 4] rfl ?_
          exact h
        · have h := h.2 hc
          refine ow_iload_n (pc' := 85) (x := r6) dX12_asks_84 rfl rfl ?_
          exact ow_iret dX12_asks_85 rfl rfl h
      · have h := h.2 hc
        refine ow_iconst (pc' := 70) (n := 1) dX12_asks_69 rfl rfl ?_
        exact ow_iret dX12_asks_70 rfl rfl h
    · have h := h.2 hc
      refine ow_iload_n (pc' := 59) (x := r3) dX12_asks_58 rfl rfl ?_
      exact ow_iret dX12_asks_59 rfl rfl h
  · have h := h.2 hc
    refine ow_aload_n (pc' := 19) (x := 83) dX12_asks_18 rfl rfl ?_
    refine ow_getf3 (pc' := 22) (t := 0) (ji := 21) (val := N2 83 21) dX12_asks_19 fRX12_163 rfl rfl rfl (of_eq_true eo83) eg83_21 ?_
    refine ow_bipush (pc' := 24) (n := 8) dX12_asks_22 rfl rfl ?_
    refine ow_icmpne (pc' := 27) (tg := 29) dX12_asks_24 rfl rfl (fun hc => ?_) (fun hc => ?_)
    · have h := h.1 hc
      refine ow_aload_n (pc' := 30) (x := 83) dX12_asks_29 rfl rfl ?_
      refine ow_dup (pc' := 31) dX12_asks_30 rfl rfl ?_
      refine ow_getf3 (pc' := 34) (t := 0) (ji := 21) (val := N2 83 21) dX12_asks_31 fRX12_163 rfl rfl rfl (of_eq_true eo83) eg83_21 ?_
      refine ow_iconst (pc' := 35) (n := 1) dX12_asks_34 rfl rfl ?_
      obtain ⟨vv2, h⟩ := h
      refine ow_iadd (pc' := 36) dX12_asks_35 vv2 rfl ?_
      refine ow_putf2 (pc' := 39) (t := 0) (ji := 21) dX12_asks_36 fRX12_163 rfl rfl rfl rfl (of_eq_true eo83) (of_eq_true en83_21) (fun hz => absurd hz (by decide)) (fun N9 eN9 => ?_)
      have h := h N9 eN9
      obtain ⟨vv3, h⟩ := h
      refine ow_iinc (pc' := 42) (lv' := [(0, (3, 83)), (1, (0, l1 + 1))]) dX12_asks_39 rfl vv3 rfl rfl rfl ?_
      refine ow_aload_n (pc' := 43) (x := 83) dX12_asks_42 rfl rfl ?_
      refine ow_callVv (z := mX12_nextToken) (n := 0) (k := 12) (vs := []) (x := 83) (st := []) (pc' := 46) (b1 := (0, 0)) (b2 := (0, 0)) dX12_asks_43 lRX12_174 kX12_nextToken iX12_nextToken rfl rfl rfl rfl rfl rfl (of_eq_true eo83) (ow_Sp.mono h (fun r10 N10 h => ?_))
      refine ow_goto (tg := 2) dX12_asks_46 rfl ?_
      exact h
    · have h := h.2 hc
      refine ow_iconst (pc' := 28) (n := 3) dX12_asks_27 rfl rfl ?_
      exact ow_iret dX12_asks_28 rfl rfl h
set_option maxRecDepth 20000 in
theorem cX12_asks_105 {C : ow_C} {A L N : Int} {d : Nat} {M : ow_M} {K : Int → ow_M → Prop} {l1 l4 : Int} (h : (l1 ≤ l4 → K 0 M) ∧ (l4 < l1 → ow_Sp C (EM A L N) d mX12_emit (0, 0) [(3, 83), (0, 20), (0, 0)] M (fun r1 N1 => ow_I (l4 + 1) ∧ ow_At C (EM A L N) (d + 1) mX12_asks 105 [(0, (3, 83)), (1, (0, l1)), (4, (0, l4 + 1))] [] (0, 0) N1 K))) : ow_At C (EM A L N) (d + 1) mX12_asks 105 [(0, (3, 83)), (1, (0, l1)), (4, (0, l4))] [] (0, 0) M K := by
  refine ow_iload (pc' := 107) (x := l4) dX12_asks_105 rfl rfl ?_
  refine ow_iload_n (pc' := 108) (x := l1) dX12_asks_107 rfl rfl ?_
  refine ow_icmpge (pc' := 111) (tg := 124) dX12_asks_108 rfl rfl (fun hc => ?_) (fun hc => ?_)
  · have h := h.1 hc
    refine ow_iconst (pc' := 125) (n := 0) dX12_asks_124 rfl rfl ?_
    exact ow_iret dX12_asks_125 rfl rfl h
  · have h := h.2 hc
    refine ow_aload_n (pc' := 112) (x := 83) dX12_asks_111 rfl rfl ?_
    refine ow_bipush (pc' := 114) (n := 20) dX12_asks_112 rfl rfl ?_
    refine ow_iconst (pc' := 115) (n := 0) dX12_asks_114 rfl rfl ?_
    refine ow_callVv (z := mX12_emit) (n := 2) (k := 12) (vs := [(0, 20), (0, 0)]) (x := 83) (st := []) (pc' := 118) (b1 := (0, 0)) (b2 := (0, 0)) dX12_asks_115 lRX12_166 kX12_emit iX12_emit rfl rfl rfl rfl rfl rfl (of_eq_true eo83) (ow_Sp.mono h (fun r1 N1 h => ?_))
    obtain ⟨vv1, h⟩ := h
    refine ow_iinc (pc' := 121) (lv' := [(0, (3, 83)), (1, (0, l1)), (4, (0, l4 + 1))]) dX12_asks_118 rfl vv1 rfl rfl rfl ?_
    refine ow_goto (tg := 105) dX12_asks_121 rfl ?_
    exact h
theorem fX12_asks {C : ow_C} {A L N : Int} {d : Nat} {M : ow_M} {K : Int → ow_M → Prop} (h : ow_At C (EM A L N) (d + 1) mX12_asks 2 [(0, (3, 83)), (1, (0, 0))] [] (0, 0) M K) : ow_Sp C (EM A L N) (d + 1) mX12_asks (0, 0) [(3, 83)] M K := ow_enter (by decide +kernel) rfl rfl (cX12_asks_0 h)
set_option maxRecDepth 20000 in
theorem cX12_either_0 {C : ow_C} {A L N : Int} {d : Nat} {M : ow_M} {K : Int → ow_M → Prop} (h : ow_At C (EM A L N) (d + 1) mX12_either 6 [(0, (3, 83)), (1, (0, 0)), (2, (0, 0)), (3, (0, 1))] [] (0, 0) M K) : ow_At C (EM A L N) (d + 1) mX12_either 0 [(0, (3, 83))] [] (0, 0) M K := by
  refine ow_iconst (pc' := 1) (n := 0) dX12_either_0 rfl rfl ?_
  refine ow_istore_n (pc' := 2) (lv' := [(0, (3, 83)), (1, (0, 0))]) dX12_either_1 rfl rfl rfl ?_
  refine ow_iconst (pc' := 3) (n := 0) dX12_either_2 rfl rfl ?_
  refine ow_istore_n (pc' := 4) (lv' := [(0, (3, 83)), (1, (0, 0)), (2, (0, 0))]) dX12_either_3 rfl rfl rfl ?_
  refine ow_iconst (pc' := 5) (n := 1) dX12_either_4 rfl rfl ?_
  refine ow_istore_n (pc' := 6) (lv' := [(0, (3, 83)), (1, (0, 0)), (2, (0, 0)), (3, (0, 1))]) dX12_either_5 rfl rfl rfl ?_
  exact h
set_option maxRecDepth 20000 in
theorem cX12_either_6 {C : ow_C} {A L N : Int} {d : Nat} {M : ow_M} {K : Int → ow_M → Prop} {l1 l2 l3 : Int} (h : (l3 = 0 → K 0 M) ∧ (l3 ≠ 0 → ow_Sp C (EM A L N) d mX12_asks (0, 0) [(3, 83)] M (fun r1 N1 => (r1 = 0 → (l1 = 0 → ow_At C (EM A L N) (d + 1) mX12_either 35 [(0, (3, 83)), (2, (0, l2))] [] (0, 0) N1 K) ∧ (l1 ≠ 0 → ow_Sp C (EM A L N) d mX12_emit (0, 0) [(3, 83), (0, 21), (0, 0)] N1 (fun r2 N2 => ow_At C (EM A L N) (d + 1) mX12_either 35 [(0, (3, 83)), (2, (0, l2))] [] (0, 0) N2 K))) ∧ (r1 ≠ 0 → K r1 N1)))) : ow_At C (EM A L N) (d + 1) mX12_either 6 [(0, (3, 83)), (1, (0, l1)), (2, (0, l2)), (3, (0, l3))] [] (0, 0) M K := by
  refine ow_iload_n (pc' := 7) (x := l3) dX12_either_6 rfl rfl ?_
  refine ow_ifeq (pc' := 10) (tg := 119) dX12_either_7 rfl rfl (fun hc => ?_) (fun hc => ?_)
  · have h := h.1 hc
    refine ow_iconst (pc' := 120) (n := 0) dX12_either_119 rfl rfl ?_
    exact ow_iret dX12_either_120 rfl rfl h
  · have h := h.2 hc
    refine ow_aload_n (pc' := 11) (x := 83) dX12_either_10 rfl rfl ?_
    refine ow_callVp (z := mX12_asks) (n := 0) (k := 12) (vs := []) (x := 83) (st := []) (pc' := 14) (b1 := (0, 0)) (b2 := (0, 0)) dX12_either_11 lRX12_213 kX12_asks iX12_asks rfl rfl rfl rfl rfl rfl (of_eq_true eo83) (ow_Sp.mono h (fun r1 N1 h => ?_))
    refine ow_istore (pc' := 16) (lv' := [(0, (3, 83)), (1, (0, l1)), (2, (0, l2)), (3, (0, l3)), (4, (0, r1))]) dX12_either_14 rfl rfl rfl ?_
    refine ow_iload (pc' := 18) (x := r1) dX12_either_16 rfl rfl ?_
    refine ow_ifeq (pc' := 21) (tg := 24) dX12_either_18 rfl rfl (fun hc => ?_) (fun hc => ?_)
    · have h := h.1 hc
      refine ow_iload_n (pc' := 25) (x := l1) dX12_either_24 rfl rfl ?_
      refine ow_ifeq (pc' := 28) (tg := 35) dX12_either_25 rfl rfl (fun hc => ?_) (fun hc => ?_)
      · have h := h.1 hc
        refine ow_sub (lv' := [(0, (3, 83)), (2, (0, l2))]) [0, 2] rfl ?_
        exact h
      · have h := h.2 hc
        refine ow_aload_n (pc' := 29) (x := 83) dX12_either_28 rfl rfl ?_
        refine ow_bipush (pc' := 31) (n := 21) dX12_either_29 rfl rfl ?_
        refine ow_iconst (pc' := 32) (n := 0) dX12_either_31 rfl rfl ?_
        refine ow_callVv (z := mX12_emit) (n := 2) (k := 12) (vs := [(0, 21), (0, 0)]) (x := 83) (st := []) (pc' := 35) (b1 := (0, 0)) (b2 := (0, 0)) dX12_either_32 lRX12_166 kX12_emit iX12_emit rfl rfl rfl rfl rfl rfl (of_eq_true eo83) (ow_Sp.mono h (fun r2 N2 h => ?_))
        refine ow_sub (lv' := [(0, (3, 83)), (2, (0, l2))]) [0, 2] rfl ?_
        exact h
    · have h := h.2 hc
      refine ow_iload (pc' := 23) (x := r1) dX12_either_21 rfl rfl ?_
      exact ow_iret dX12_either_23 rfl rfl h
set_option maxRecDepth 20000 in
theorem cX12_either_35 {C : ow_C} {A L N : Int} {d : Nat} {M : ow_M} {K : Int → ow_M → Prop} {l2 : Int} (h : ow_Sp C (EM A L N) d mX12_w3 (0, 0) [(0, 97), (0, 110), (0, 100)] M (fun r1 N1 => ow_Sp C (EM A L N) d mX12_isWord (0, 0) [(3, 83), (1, r1)] N1 (fun r2 N2 => ((N2 83 12) ≠ 2 → ow_At C (EM A L N) (d + 1) mX12_either 73 [(0, (3, 83)), (1, (0, r2)), (2, (0, l2))] [(0, 0)] (0, 0) N2 K) ∧ ((N2 83 12) = 2 → ((ow_lcmp (N2 83 14) 28530) ≠ 0 → ow_At C (EM A L N) (d + 1) mX12_either 73 [(0, (3, 83)), (1, (0, r2)), (2, (0, l2))] [(0, 0)] (0, 0) N2 K) ∧ ((ow_lcmp (N2 83 14) 28530) = 0 → ow_At C (EM A L N) (d + 1) mX12_either 73 [(0, (3, 83)), (1, (0, r2)), (2, (0, l2))] [(0, 1)] (0, 0) N2 K))))) : ow_At C (EM A L N) (d + 1) mX12_either 35 [(0, (3, 83)), (2, (0, l2))] [] (0, 0) M K := by
  refine ow_aload_n (pc' := 36) (x := 83) dX12_either_35 rfl rfl ?_
  refine ow_bipush (pc' := 38) (n := 97) dX12_either_36 rfl rfl ?_
  refine ow_bipush (pc' := 40) (n := 110) dX12_either_38 rfl rfl ?_
  refine ow_bipush (pc' := 42) (n := 100) dX12_either_40 rfl rfl ?_
  refine ow_callSp (z := mX12_w3) (n := 3) (vs := [(0, 97), (0, 110), (0, 100)]) (st := [(3, 83)]) (pc' := 45) (b1 := (0, 0)) (b2 := (0, 0)) dX12_either_42 lRX12_142 kX12_w3 zX12_w3 rfl rfl rfl rfl rfl rfl (ow_Sp.mono h (fun r1 N1 h => ?_))
  refine ow_callVp (z := mX12_isWord) (n := 1) (k := 12) (vs := [(1, r1)]) (x := 83) (st := []) (pc' := 48) (b1 := (0, 0)) (b2 := (0, 0)) dX12_either_45 lRX12_203 kX12_isWord iX12_isWord rfl rfl rfl rfl rfl rfl (of_eq_true eo83) (ow_Sp.mono h (fun r2 N2 h => ?_))
  refine ow_istore_n (pc' := 49) (lv' := [(0, (3, 83)), (1, (0, r2)), (2, (0, l2))]) dX12_either_48 rfl rfl rfl ?_
  refine ow_aload_n (pc' := 50) (x := 83) dX12_either_49 rfl rfl ?_
  refine ow_getf3 (pc' := 53) (t := 0) (ji := 12) (val := N2 83 12) dX12_either_50 fRX12_125 rfl rfl rfl (of_eq_true eo83) eg83_12 ?_
  refine ow_iconst (pc' := 54) (n := 2) dX12_either_53 rfl rfl ?_
  refine ow_icmpne (pc' := 57) (tg := 72) dX12_either_54 rfl rfl (fun hc => ?_) (fun hc => ?_)
  · have h := h.1 hc
    refine ow_iconst (pc' := 73) (n := 0) dX12_either_72 rfl rfl ?_
    exact h
  · have h := h.2 hc
    refine ow_aload_n (pc' := 58) (x := 83) dX12_either_57 rfl rfl ?_
    refine ow_getf3 (pc' := 61) (t := 1) (ji := 14) (val := N2 83 14) dX12_either_58 fRX12_138 rfl rfl rfl (of_eq_true eo83) eg83_14 ?_
    refine ow_ldc2 (pc' := 64) (n := 28530) dX12_either_61 cRX12_216 rfl rfl ?_
    refine ow_Lcmp (pc' := 65) dX12_either_64 rfl ?_
    refine ow_ifne (pc' := 68) (tg := 72) dX12_either_65 rfl rfl (fun hc => ?_) (fun hc => ?_)
    · have h := h.1 hc
      refine ow_iconst (pc' := 73) (n := 0) dX12_either_72 rfl rfl ?_
      exact h
    · have h := h.2 hc
      refine ow_iconst (pc' := 69) (n := 1) dX12_either_68 rfl rfl ?_
      refine ow_goto (tg := 73) dX12_either_69 rfl ?_
      exact h
set_option maxRecDepth 20000 in
theorem cX12_either_73 {C : ow_C} {A L N : Int} {d : Nat} {M : ow_M} {K : Int → ow_M → Prop} {l1 l2 s0 : Int} (h : (l1 ≠ 0 → ow_At C (EM A L N) (d + 1) mX12_either 93 [(0, (3, 83)), (1, (0, l1)), (2, (0, l2)), (5, (0, s0))] [] (0, 0) M K) ∧ (l1 = 0 → (l2 = 0 → ow_At C (EM A L N) (d + 1) mX12_either 93 [(0, (3, 83)), (1, (0, l1)), (2, (0, s0)), (5, (0, s0))] [] (0, 0) M K) ∧ (l2 ≠ 0 → ow_Sp C (EM A L N) d mX12_emit (0, 0) [(3, 83), (0, 22), (0, 0)] M (fun r1 N1 => ow_At C (EM A L N) (d + 1) mX12_either 93 [(0, (3, 83)), (1, (0, l1)), (2, (0, s0)), (5, (0, s0))] [] (0, 0) N1 K)))) : ow_At C (EM A L N) (d + 1) mX12_either 73 [(0, (3, 83)), (1, (0, l1)), (2, (0, l2))] [(0, s0)] (0, 0) M K := by
  refine ow_istore (pc' := 75) (lv' := [(0, (3, 83)), (1, (0, l1)), (2, (0, l2)), (5, (0, s0))]) dX12_either_73 rfl rfl rfl ?_
  refine ow_iload_n (pc' := 76) (x := l1) dX12_either_75 rfl rfl ?_
  refine ow_ifne (pc' := 79) (tg := 93) dX12_either_76 rfl rfl (fun hc => ?_) (fun hc => ?_)
  · have h := h.1 hc
    exact h
  · have h := h.2 hc
    refine ow_iload_n (pc' := 80) (x := l2) dX12_either_79 rfl rfl ?_
    refine ow_ifeq (pc' := 83) (tg := 90) dX12_either_80 rfl rfl (fun hc => ?_) (fun hc => ?_)
    · have h := h.1 hc
      refine ow_iload (pc' := 92) (x := s0) dX12_either_90 rfl rfl ?_
      refine ow_istore_n (pc' := 93) (lv' := [(0, (3, 83)), (1, (0, l1)), (2, (0, s0)), (5, (0, s0))]) dX12_either_92 rfl rfl rfl ?_
      exact h
    · have h := h.2 hc
      refine ow_aload_n (pc' := 84) (x := 83) dX12_either_83 rfl rfl ?_
      refine ow_bipush (pc' := 86) (n := 22) dX12_either_84 rfl rfl ?_
      refine ow_iconst (pc' := 87) (n := 0) dX12_either_86 rfl rfl ?_
      refine ow_callVv (z := mX12_emit) (n := 2) (k := 12) (vs := [(0, 22), (0, 0)]) (x := 83) (st := []) (pc' := 90) (b1 := (0, 0)) (b2 := (0, 0)) dX12_either_87 lRX12_166 kX12_emit iX12_emit rfl rfl rfl rfl rfl rfl (of_eq_true eo83) (ow_Sp.mono h (fun r1 N1 h => ?_))
      refine ow_iload (pc' := 92) (x := s0) dX12_either_90 rfl rfl ?_
      refine ow_istore_n (pc' := 93) (lv' := [(0, (3, 83)), (1, (0, l1)), (2, (0, s0)), (5, (0, s0))]) dX12_either_92 rfl rfl rfl ?_
      exact h
set_option maxRecDepth 20000 in
theorem cX12_either_93 {C : ow_C} {A L N : Int} {d : Nat} {M : ow_M} {K : Int → ow_M → Prop} {l1 l2 l5 : Int} (h : (l1 ≠ 0 → ow_At C (EM A L N) (d + 1) mX12_either 107 [(0, (3, 83)), (1, (0, l1)), (2, (0, l2))] [(0, 1)] (0, 0) M K) ∧ (l1 = 0 → (l5 = 0 → ow_At C (EM A L N) (d + 1) mX12_either 107 [(0, (3, 83)), (1, (0, l1)), (2, (0, l2))] [(0, 0)] (0, 0) M K) ∧ (l5 ≠ 0 → ow_At C (EM A L N) (d + 1) mX12_either 107 [(0, (3, 83)), (1, (0, l1)), (2, (0, l2))] [(0, 1)] (0, 0) M K))) : ow_At C (EM A L N) (d + 1) mX12_either 93 [(0, (3, 83)), (1, (0, l1)), (2, (0, l2)), (5, (0, l5))] [] (0, 0) M K := by
  refine ow_iload_n (pc' := 94) (x := l1) dX12_either_93 rfl rfl ?_
  refine ow_ifne (pc' := 97) (tg := 102) dX12_either_94 rfl rfl (fun hc => ?_) (fun hc => ?_)
  · have h := h.1 hc
    refine ow_iconst (pc' := 103) (n := 1) dX12_either_102 rfl rfl ?_
    refine ow_goto (tg := 107) dX12_either_103 rfl ?_
    refine ow_sub (lv' := [(0, (3, 83)), (1, (0, l1)), (2, (0, l2))]) [0, 1, 2] rfl ?_
    exact h
  · have h := h.2 hc
    refine ow_iload (pc' := 99) (x := l5) dX12_either_97 rfl rfl ?_
    refine ow_ifeq (pc' := 102) (tg := 106) dX12_either_99 rfl rfl (fun hc => ?_) (fun hc => ?_)
    · have h := h.1 hc
      refine ow_iconst (pc' := 107) (n := 0) dX12_either_106 rfl rfl ?_
      refine ow_sub (lv' := [(0, (3, 83)), (1, (0, l1)), (2, (0, l2))]) [0, 1, 2] rfl ?_
      exact h
    · have h := h.2 hc
      refine ow_iconst (pc' := 103) (n := 1) dX12_either_102 rfl rfl ?_
      refine ow_goto (tg := 107) dX12_either_103 rfl ?_
      refine ow_sub (lv' := [(0, (3, 83)), (1, (0, l1)), (2, (0, l2))]) [0, 1, 2] rfl ?_
      exact h
set_option maxRecDepth 20000 in
theorem cX12_either_107 {C : ow_C} {A L N : Int} {d : Nat} {M : ow_M} {K : Int → ow_M → Prop} {l1 l2 s0 : Int} (h : (s0 = 0 → ow_At C (EM A L N) (d + 1) mX12_either 6 [(0, (3, 83)), (1, (0, l1)), (2, (0, l2)), (3, (0, s0))] [] (0, 0) M K) ∧ (s0 ≠ 0 → ow_Sp C (EM A L N) d mX12_nextToken (0, 0) [(3, 83)] M (fun r1 N1 => ow_At C (EM A L N) (d + 1) mX12_either 6 [(0, (3, 83)), (1, (0, l1)), (2, (0, l2)), (3, (0, s0))] [] (0, 0) N1 K))) : ow_At C (EM A L N) (d + 1) mX12_either 107 [(0, (3, 83)), (1, (0, l1)), (2, (0, l2))] [(0, s0)] (0, 0) M K := by
  refine ow_istore_n (pc' := 108) (lv' := [(0, (3, 83)), (1, (0, l1)), (2, (0, l2)), (3, (0, s0))]) dX12_either_107 rfl rfl rfl ?_
  refine ow_iload_n (pc' := 109) (x := s0) dX12_either_108 rfl rfl ?_
  refine ow_ifeq (pc' := 112) (tg := 116) dX12_either_109 rfl rfl (fun hc => ?_) (fun hc => ?_)
  · have h := h.1 hc
    refine ow_goto (tg := 6) dX12_either_116 rfl ?_
    exact h
  · have h := h.2 hc
    refine ow_aload_n (pc' := 113) (x := 83) dX12_either_112 rfl rfl ?_
    refine ow_callVv (z := mX12_nextToken) (n := 0) (k := 12) (vs := []) (x := 83) (st := []) (pc' := 116) (b1 := (0, 0)) (b2 := (0, 0)) dX12_either_113 lRX12_174 kX12_nextToken iX12_nextToken rfl rfl rfl rfl rfl rfl (of_eq_true eo83) (ow_Sp.mono h (fun r1 N1 h => ?_))
    refine ow_goto (tg := 6) dX12_either_116 rfl ?_
    exact h
theorem fX12_either {C : ow_C} {A L N : Int} {d : Nat} {M : ow_M} {K : Int → ow_M → Prop} (h : ow_At C (EM A L N) (d + 1) mX12_either 6 [(0, (3, 83)), (1, (0, 0)), (2, (0, 0)), (3, (0, 1))] [] (0, 0) M K) : ow_Sp C (EM A L N) (d + 1) mX12_either (0, 0) [(3, 83)] M K := ow_enter (by decide +kernel) rfl rfl (cX12_either_0 h)
set_option maxRecDepth 20000 in
theorem cX12_sortOf_0 {C : ow_C} {A L N : Int} {d : Nat} {M : ow_M} {K : Int → ow_M → Prop} (h : ow_Sp C (EM A L N) d mX12_w3 (0, 0) [(0, 109), (0, 97), (0, 121)] M (fun r1 N1 => ow_Sp C (EM A L N) d mX12_isWord (0, 0) [(3, 83), (1, r1)] N1 (fun r2 N2 => (r2 = 0 → ow_Sp C (EM A L N) d mX12_w6 (0, 0) [(0, 119), (0, 101), (0, 105), (0, 103), (0, 104), (0, 116)] N2 (fun r3 N3 => ow_Sp C (EM A L N) d mX12_isWord (0, 0) [(3, 83), (1, r3)] N3 (fun r4 N4 => (r4 = 0 → ow_Sp C (EM A L N) d mX12_w4 (0, 0) [(0, 98), (0, 111), (0, 111), (0, 107)] N4 (fun r5 N5 => ow_Sp C (EM A L N) d mX12_isWord (0, 0) [(3, 83), (1, r5)] N5 (fun r6 N6 => (r6 = 0 → ow_Sp C (EM A L N) d mX12_w4 (0, 0) [(0, 114), (0, 111), (0, 97), (0, 100)] N6 (fun r7 N7 => ow_Sp C (EM A L N) d mX12_isWord (0, 0) [(3, 83), (1, r7)] N7 (fun r8 N8 => (r8 = 0 → K ((-1)) N8) ∧ (r8 ≠ 0 → K 3 N8)))) ∧ (r6 ≠ 0 → K 2 N6)))) ∧ (r4 ≠ 0 → K 1 N4)))) ∧ (r2 ≠ 0 → K 0 N2)))) : ow_At C (EM A L N) (d + 1) mX12_sortOf 0 [(0, (3, 83))] [] (0, 0) M K := by
  refine ow_aload_n (pc' := 1) (x := 83) dX12_sortOf_0 rfl rfl ?_
  refine ow_bipush (pc' := 3) (n := 109) dX12_sortOf_1 rfl rfl ?_
  refine ow_bipush (pc' := 5) (n := 97) dX12_sortOf_3 rfl rfl ?_
  refine ow_bipush (pc' := 7) (n := 121) dX12_sortOf_5 rfl rfl ?_
  refine ow_callSp (z := mX12_w3) (n := 3) (vs := [(0, 109), (0, 97), (0, 121)]) (st := [(3, 83)]) (pc' := 10) (b1 := (0, 0)) (b2 := (0, 0)) dX12_sortOf_7 lRX12_142 kX12_w3 zX12_w3 rfl rfl rfl rfl rfl rfl (ow_Sp.mono h (fun r1 N1 h => ?_))
  refine ow_callVp (z := mX12_isWord) (n := 1) (k := 12) (vs := [(1, r1)]) (x := 83) (st := []) (pc' := 13) (b1 := (0, 0)) (b2 := (0, 0)) dX12_sortOf_10 lRX12_203 kX12_isWord iX12_isWord rfl rfl rfl rfl rfl rfl (of_eq_true eo83) (ow_Sp.mono h (fun r2 N2 h => ?_))
  refine ow_ifeq (pc' := 16) (tg := 18) dX12_sortOf_13 rfl rfl (fun hc => ?_) (fun hc => ?_)
  · have h := h.1 hc
    refine ow_aload_n (pc' := 19) (x := 83) dX12_sortOf_18 rfl rfl ?_
    refine ow_bipush (pc' := 21) (n := 119) dX12_sortOf_19 rfl rfl ?_
    refine ow_bipush (pc' := 23) (n := 101) dX12_sortOf_21 rfl rfl ?_
    refine ow_bipush (pc' := 25) (n := 105) dX12_sortOf_23 rfl rfl ?_
    refine ow_bipush (pc' := 27) (n := 103) dX12_sortOf_25 rfl rfl ?_
    refine ow_bipush (pc' := 29) (n := 104) dX12_sortOf_27 rfl rfl ?_
    refine ow_bipush (pc' := 31) (n := 116) dX12_sortOf_29 rfl rfl ?_
    refine ow_callSp (z := mX12_w6) (n := 6) (vs := [(0, 119), (0, 101), (0, 105), (0, 103), (0, 104), (0, 116)]) (st := [(3, 83)]) (pc' := 34) (b1 := (0, 0)) (b2 := (0, 0)) dX12_sortOf_31 lRX12_218 kX12_w6 zX12_w6 rfl rfl rfl rfl rfl rfl (ow_Sp.mono h (fun r3 N3 h => ?_))
    refine ow_callVp (z := mX12_isWord) (n := 1) (k := 12) (vs := [(1, r3)]) (x := 83) (st := []) (pc' := 37) (b1 := (0, 0)) (b2 := (0, 0)) dX12_sortOf_34 lRX12_203 kX12_isWord iX12_isWord rfl rfl rfl rfl rfl rfl (of_eq_true eo83) (ow_Sp.mono h (fun r4 N4 h => ?_))
    refine ow_ifeq (pc' := 40) (tg := 42) dX12_sortOf_37 rfl rfl (fun hc => ?_) (fun hc => ?_)
    · have h := h.1 hc
      refine ow_aload_n (pc' := 43) (x := 83) dX12_sortOf_42 rfl rfl ?_
      refine ow_bipush (pc' := 45) (n := 98) dX12_sortOf_43 rfl rfl ?_
      refine ow_bipush (pc' := 47) (n := 111) dX12_sortOf_45 rfl rfl ?_
      refine ow_bipush (pc' := 49) (n := 111) dX12_sortOf_47 rfl rfl ?_
      refine ow_bipush (pc' := 51) (n := 107) dX12_sortOf_49 rfl rfl ?_
      refine ow_callSp (z := mX12_w4) (n := 4) (vs := [(0, 98), (0, 111), (0, 111), (0, 107)]) (st := [(3, 83)]) (pc' := 54) (b1 := (0, 0)) (b2 := (0, 0)) dX12_sortOf_51 lRX12_170 kX12_w4 zX12_w4 rfl rfl rfl rfl rfl rfl (ow_Sp.mono h (fun r5 N5 h => ?_))
      refine ow_callVp (z := mX12_isWord) (n := 1) (k := 12) (vs := [(1, r5)]) (x := 83) (st := []) (pc' := 57) (b1 := (0, 0)) (b2 := (0, 0)) dX12_sortOf_54 lRX12_203 kX12_isWord iX12_isWord rfl rfl rfl rfl rfl rfl (of_eq_true eo83) (ow_Sp.mono h (fun r6 N6 h => ?_))
      refine ow_ifeq (pc' := 60) (tg := 64) dX12_sortOf_57 rfl rfl (fun hc => ?_) (fun hc => ?_)
      · have h := h.1 hc
        refine ow_aload_n (pc' := 65) (x := 83) dX12_sortOf_64 rfl rfl ?_
        refine ow_bipush (pc' := 67) (n := 114) dX12_sortOf_65 rfl rfl ?_
        refine ow_bipush (pc' := 69) (n := 111) dX12_sortOf_67 rfl rfl ?_
        refine ow_bipush (pc' := 71) (n := 97) dX12_sortOf_69 rfl rfl ?_
        refine ow_bipush (pc' := 73) (n := 100) dX12_sortOf_71 rfl rfl ?_
        refine ow_callSp (z := mX12_w4) (n := 4) (vs := [(0, 114), (0, 111), (0, 97), (0, 100)]) (st := [(3, 83)]) (pc' := 76) (b1 := (0, 0)) (b2 := (0, 0)) dX12_sortOf_73 lRX12_170 kX12_w4 zX12_w4 rfl rfl rfl rfl rfl rfl (ow_Sp.mono h (fun r7 N7 h => ?_))
        refine ow_callVp (z := mX12_isWord) (n := 1) (k := 12) (vs := [(1, r7)]) (x := 83) (st := []) (pc' := 79) (b1 := (0, 0)) (b2 := (0, 0)) dX12_sortOf_76 lRX12_203 kX12_isWord iX12_isWord rfl rfl rfl rfl rfl rfl (of_eq_true eo83) (ow_Sp.mono h (fun r8 N8 h => ?_))
        refine ow_ifeq (pc' := 82) (tg := 86) dX12_sortOf_79 rfl rfl (fun hc => ?_) (fun hc => ?_)
        · have h := h.1 hc
          refine ow_iconst (pc' := 87) (n := (-1)) dX12_sortOf_86 rfl rfl ?_
          exact ow_iret dX12_sortOf_87 rfl rfl h
        · have h := h.2 hc
          refine ow_iconst (pc' := 83) (n := 3) dX12_sortOf_82 rfl rfl ?_
          refine ow_goto (tg := 87) dX12_sortOf_83 rfl ?_
          exact ow_iret dX12_sortOf_87 rfl rfl h
      · have h := h.2 hc
        refine ow_iconst (pc' := 61) (n := 2) dX12_sortOf_60 rfl rfl ?_
        refine ow_goto (tg := 87) dX12_sortOf_61 rfl ?_
        exact ow_iret dX12_sortOf_87 rfl rfl h
    · have h := h.2 hc
      refine ow_iconst (pc' := 41) (n := 1) dX12_sortOf_40 rfl rfl ?_
      exact ow_iret dX12_sortOf_41 rfl rfl h
  · have h := h.2 hc
    refine ow_iconst (pc' := 17) (n := 0) dX12_sortOf_16 rfl rfl ?_
    exact ow_iret dX12_sortOf_17 rfl rfl h
theorem fX12_sortOf {C : ow_C} {A L N : Int} {d : Nat} {M : ow_M} {K : Int → ow_M → Prop} (h : ow_Sp C (EM A L N) d mX12_w3 (0, 0) [(0, 109), (0, 97), (0, 121)] M (fun r1 N1 => ow_Sp C (EM A L N) d mX12_isWord (0, 0) [(3, 83), (1, r1)] N1 (fun r2 N2 => (r2 = 0 → ow_Sp C (EM A L N) d mX12_w6 (0, 0) [(0, 119), (0, 101), (0, 105), (0, 103), (0, 104), (0, 116)] N2 (fun r3 N3 => ow_Sp C (EM A L N) d mX12_isWord (0, 0) [(3, 83), (1, r3)] N3 (fun r4 N4 => (r4 = 0 → ow_Sp C (EM A L N) d mX12_w4 (0, 0) [(0, 98), (0, 111), (0, 111), (0, 107)] N4 (fun r5 N5 => ow_Sp C (EM A L N) d mX12_isWord (0, 0) [(3, 83), (1, r5)] N5 (fun r6 N6 => (r6 = 0 → ow_Sp C (EM A L N) d mX12_w4 (0, 0) [(0, 114), (0, 111), (0, 97), (0, 100)] N6 (fun r7 N7 => ow_Sp C (EM A L N) d mX12_isWord (0, 0) [(3, 83), (1, r7)] N7 (fun r8 N8 => (r8 = 0 → K ((-1)) N8) ∧ (r8 ≠ 0 → K 3 N8)))) ∧ (r6 ≠ 0 → K 2 N6)))) ∧ (r4 ≠ 0 → K 1 N4)))) ∧ (r2 ≠ 0 → K 0 N2)))) : ow_Sp C (EM A L N) (d + 1) mX12_sortOf (0, 0) [(3, 83)] M K := ow_enter (by decide +kernel) rfl rfl (cX12_sortOf_0 h)
set_option maxRecDepth 20000 in
theorem cX12_figure_0 {C : ow_C} {A L N : Int} {d : Nat} {M : ow_M} {K : Int → ow_M → Prop} {l1 l2 l3 : Int} (h : ((M 83 12) = 1 → ow_Sp C (EM A L N) d mX12_isIn (0, 0) [(0, M 83 13), (0, l2), (0, l3)] M (fun r1 N1 => (r1 ≠ 0 → (0 ≤ l1 ∧ l1 < 2720) ∧ ∀ N2, N2 = ow_up N1 86 l1 (N1 83 13) → ow_Sp C (EM A L N) d mX12_nextToken (0, 0) [(3, 83)] N2 (fun r3 N3 => K 0 N3)) ∧ (r1 = 0 → K 2 N1))) ∧ ((M 83 12) ≠ 1 → K 1 M)) : ow_At C (EM A L N) (d + 1) mX12_figure 0 [(0, (3, 83)), (1, (0, l1)), (2, (0, l2)), (3, (0, l3))] [] (0, 0) M K := by
  refine ow_aload_n (pc' := 1) (x := 83) dX12_figure_0 rfl rfl ?_
  refine ow_getf3 (pc' := 4) (t := 0) (ji := 12) (val := M 83 12) dX12_figure_1 fRX12_125 rfl rfl rfl (of_eq_true eo83) eg83_12 ?_
  refine ow_iconst (pc' := 5) (n := 1) dX12_figure_4 rfl rfl ?_
  refine ow_icmpeq (pc' := 8) (tg := 10) dX12_figure_5 rfl rfl (fun hc => ?_) (fun hc => ?_)
  · have h := h.1 hc
    refine ow_aload_n (pc' := 11) (x := 83) dX12_figure_10 rfl rfl ?_
    refine ow_getf3 (pc' := 14) (t := 0) (ji := 13) (val := M 83 13) dX12_figure_11 fRX12_131 rfl rfl rfl (of_eq_true eo83) eg83_13 ?_
    refine ow_iload_n (pc' := 15) (x := l2) dX12_figure_14 rfl rfl ?_
    refine ow_iload_n (pc' := 16) (x := l3) dX12_figure_15 rfl rfl ?_
    refine ow_callSp (z := mX12_isIn) (n := 3) (vs := [(0, M 83 13), (0, l2), (0, l3)]) (st := []) (pc' := 19) (b1 := (0, 0)) (b2 := (0, 0)) dX12_figure_16 lRX12_91 kX12_isIn zX12_isIn rfl rfl rfl rfl rfl rfl (ow_Sp.mono h (fun r1 N1 h => ?_))
    refine ow_ifne (pc' := 22) (tg := 24) dX12_figure_19 rfl rfl (fun hc => ?_) (fun hc => ?_)
    · have h := h.1 hc
      refine ow_aload_n (pc' := 25) (x := 83) dX12_figure_24 rfl rfl ?_
      refine ow_getf3 (pc' := 28) (t := 3) (ji := 5) (val := 86) dX12_figure_25 fRX12_16 rfl rfl rfl (of_eq_true eo83) eg83_5 ?_
      refine ow_iload_n (pc' := 29) (x := l1) dX12_figure_28 rfl rfl ?_
      refine ow_aload_n (pc' := 30) (x := 83) dX12_figure_29 rfl rfl ?_
      refine ow_getf3 (pc' := 33) (t := 0) (ji := 13) (val := N1 83 13) dX12_figure_30 fRX12_131 rfl rfl rfl (of_eq_true eo83) eg83_13 ?_
      obtain ⟨vv1, h⟩ := h
      refine ow_iastore2 (pc' := 34) dX12_figure_33 rfl (Eq.mpr (er86 _) vv1) (of_eq_true (en86 _)) (fun N2 eN2 => ?_)
      have h := h N2 eN2
      refine ow_aload_n (pc' := 35) (x := 83) dX12_figure_34 rfl rfl ?_
      refine ow_callVv (z := mX12_nextToken) (n := 0) (k := 12) (vs := []) (x := 83) (st := []) (pc' := 38) (b1 := (0, 0)) (b2 := (0, 0)) dX12_figure_35 lRX12_174 kX12_nextToken iX12_nextToken rfl rfl rfl rfl rfl rfl (of_eq_true eo83) (ow_Sp.mono h (fun r3 N3 h => ?_))
      refine ow_iconst (pc' := 39) (n := 0) dX12_figure_38 rfl rfl ?_
      exact ow_iret dX12_figure_39 rfl rfl h
    · have h := h.2 hc
      refine ow_iconst (pc' := 23) (n := 2) dX12_figure_22 rfl rfl ?_
      exact ow_iret dX12_figure_23 rfl rfl h
  · have h := h.2 hc
    refine ow_iconst (pc' := 9) (n := 1) dX12_figure_8 rfl rfl ?_
    exact ow_iret dX12_figure_9 rfl rfl h
theorem fX12_figure {C : ow_C} {A L N : Int} {d : Nat} {M : ow_M} {K : Int → ow_M → Prop} {l1 l2 l3 : Int} (h : ((M 83 12) = 1 → ow_Sp C (EM A L N) d mX12_isIn (0, 0) [(0, M 83 13), (0, l2), (0, l3)] M (fun r1 N1 => (r1 ≠ 0 → (0 ≤ l1 ∧ l1 < 2720) ∧ ∀ N2, N2 = ow_up N1 86 l1 (N1 83 13) → ow_Sp C (EM A L N) d mX12_nextToken (0, 0) [(3, 83)] N2 (fun r3 N3 => K 0 N3)) ∧ (r1 = 0 → K 2 N1))) ∧ ((M 83 12) ≠ 1 → K 1 M)) : ow_Sp C (EM A L N) (d + 1) mX12_figure (0, 0) [(3, 83), (0, l1), (0, l2), (0, l3)] M K := ow_enter (by decide +kernel) rfl rfl (cX12_figure_0 h)
set_option maxRecDepth 20000 in
theorem cX12_wordAtHand_0 {C : ow_C} {A L N : Int} {d : Nat} {M : ow_M} {K : Int → ow_M → Prop} (h : ow_I ((M 83 10) - (M 83 11)) ∧ (((M 83 10) - (M 83 11)) = L → ow_At C (EM A L N) (d + 1) mX12_wordAtHand 22 [(0, (3, 83)), (1, (0, 0)), (2, (0, 0))] [] (0, 0) M K) ∧ (((M 83 10) - (M 83 11)) ≠ L → K ((-1)) M)) : ow_At C (EM A L N) (d + 1) mX12_wordAtHand 0 [(0, (3, 83))] [] (0, 0) M K := by
  refine ow_aload_n (pc' := 1) (x := 83) dX12_wordAtHand_0 rfl rfl ?_
  refine ow_getf3 (pc' := 4) (t := 0) (ji := 10) (val := M 83 10) dX12_wordAtHand_1 fRX12_116 rfl rfl rfl (of_eq_true eo83) eg83_10 ?_
  refine ow_aload_n (pc' := 5) (x := 83) dX12_wordAtHand_4 rfl rfl ?_
  refine ow_getf3 (pc' := 8) (t := 0) (ji := 11) (val := M 83 11) dX12_wordAtHand_5 fRX12_122 rfl rfl rfl (of_eq_true eo83) eg83_11 ?_
  obtain ⟨vv1, h⟩ := h
  refine ow_isub (pc' := 9) dX12_wordAtHand_8 vv1 rfl ?_
  refine ow_aload_n (pc' := 10) (x := 83) dX12_wordAtHand_9 rfl rfl ?_
  refine ow_getf3 (pc' := 13) (t := 0) (ji := 3) (val := L) dX12_wordAtHand_10 fRX12_81 rfl rfl rfl (of_eq_true eo83) eg83_3 ?_
  refine ow_icmpeq (pc' := 16) (tg := 18) dX12_wordAtHand_13 rfl rfl (fun hc => ?_) (fun hc => ?_)
  · have h := h.1 hc
    refine ow_iconst (pc' := 19) (n := 0) dX12_wordAtHand_18 rfl rfl ?_
    refine ow_istore_n (pc' := 20) (lv' := [(0, (3, 83)), (1, (0, 0))]) dX12_wordAtHand_19 rfl rfl rfl ?_
    refine ow_iconst (pc' := 21) (n := 0) dX12_wordAtHand_20 rfl rfl ?_
    refine ow_istore_n (pc' := 22) (lv' := [(0, (3, 83)), (1, (0, 0)), (2, (0, 0))]) dX12_wordAtHand_21 rfl rfl rfl ?_
    exact h
  · have h := h.2 hc
    refine ow_iconst (pc' := 17) (n := (-1)) dX12_wordAtHand_16 rfl rfl ?_
    exact ow_iret dX12_wordAtHand_17 rfl rfl h
set_option maxRecDepth 20000 in
theorem cX12_wordAtHand_22 {C : ow_C} {A L N : Int} {d : Nat} {M : ow_M} {K : Int → ow_M → Prop} {l1 l2 : Int} (h : (L ≤ l2 → K l1 M) ∧ (l2 < L → ow_I ((M 83 11) + l2) ∧ ow_Sp C (EM A L N) d mX12_byteAt (0, 0) [(3, 83), (0, (M 83 11) + l2)] M (fun r1 N1 => ow_I (r1 - 97) ∧ ow_I (A - 1) ∧ ow_Sp C (EM A L N) d mX12_isIn (0, 0) [(0, r1 - 97), (0, 0), (0, A - 1)] N1 (fun r2 N2 => (r2 ≠ 0 → ow_I (l1 * A) ∧ ow_I ((l1 * A) + (r1 - 97)) ∧ ow_I (l2 + 1) ∧ ow_At C (EM A L N) (d + 1) mX12_wordAtHand 22 [(0, (3, 83)), (1, (0, (l1 * A) + (r1 - 97))), (2, (0, l2 + 1))] [] (0, 0) N2 K) ∧ (r2 = 0 → K ((-1)) N2))))) : ow_At C (EM A L N) (d + 1) mX12_wordAtHand 22 [(0, (3, 83)), (1, (0, l1)), (2, (0, l2))] [] (0, 0) M K := by
  refine ow_iload_n (pc' := 23) (x := l2) dX12_wordAtHand_22 rfl rfl ?_
  refine ow_aload_n (pc' := 24) (x := 83) dX12_wordAtHand_23 rfl rfl ?_
  refine ow_getf3 (pc' := 27) (t := 0) (ji := 3) (val := L) dX12_wordAtHand_24 fRX12_81 rfl rfl rfl (of_eq_true eo83) eg83_3 ?_
  refine ow_icmpge (pc' := 30) (tg := 75) dX12_wordAtHand_27 rfl rfl (fun hc => ?_) (fun hc => ?_)
  · have h := h.1 hc
    refine ow_iload_n (pc' := 76) (x := l1) dX12_wordAtHand_75 rfl rfl ?_
    exact ow_iret dX12_wordAtHand_76 rfl rfl h
  · have h := h.2 hc
    refine ow_aload_n (pc' := 31) (x := 83) dX12_wordAtHand_30 rfl rfl ?_
    refine ow_aload_n (pc' := 32) (x := 83) dX12_wordAtHand_31 rfl rfl ?_
    refine ow_getf3 (pc' := 35) (t := 0) (ji := 11) (val := M 83 11) dX12_wordAtHand_32 fRX12_122 rfl rfl rfl (of_eq_true eo83) eg83_11 ?_
    refine ow_iload_n (pc' := 36) (x := l2) dX12_wordAtHand_35 rfl rfl ?_
    obtain ⟨vv1, h⟩ := h
    refine ow_iadd (pc' := 37) dX12_wordAtHand_36 vv1 rfl ?_
    refine ow_callVp (z := mX12_byteAt) (n := 1) (k := 12) (vs := [(0, (M 83 11) + l2)]) (x := 83) (st := []) (pc' := 40) (b1 := (0, 0)) (b2 := (0, 0)) dX12_wordAtHand_37 lRX12_119 kX12_byteAt iX12_byteAt rfl rfl rfl rfl rfl rfl (of_eq_true eo83) (ow_Sp.mono h (fun r1 N1 h => ?_))
    refine ow_bipush (pc' := 42) (n := 97) dX12_wordAtHand_40 rfl rfl ?_
    obtain ⟨vv2, h⟩ := h
    refine ow_isub (pc' := 43) dX12_wordAtHand_42 vv2 rfl ?_
    refine ow_istore_n (pc' := 44) (lv' := [(0, (3, 83)), (1, (0, l1)), (2, (0, l2)), (3, (0, r1 - 97))]) dX12_wordAtHand_43 rfl rfl rfl ?_
    refine ow_iload_n (pc' := 45) (x := r1 - 97) dX12_wordAtHand_44 rfl rfl ?_
    refine ow_iconst (pc' := 46) (n := 0) dX12_wordAtHand_45 rfl rfl ?_
    refine ow_aload_n (pc' := 47) (x := 83) dX12_wordAtHand_46 rfl rfl ?_
    refine ow_getf3 (pc' := 50) (t := 0) (ji := 2) (val := A) dX12_wordAtHand_47 fRX12_74 rfl rfl rfl (of_eq_true eo83) eg83_2 ?_
    refine ow_iconst (pc' := 51) (n := 1) dX12_wordAtHand_50 rfl rfl ?_
    obtain ⟨vv3, h⟩ := h
    refine ow_isub (pc' := 52) dX12_wordAtHand_51 vv3 rfl ?_
    refine ow_callSp (z := mX12_isIn) (n := 3) (vs := [(0, r1 - 97), (0, 0), (0, A - 1)]) (st := []) (pc' := 55) (b1 := (0, 0)) (b2 := (0, 0)) dX12_wordAtHand_52 lRX12_91 kX12_isIn zX12_isIn rfl rfl rfl rfl rfl rfl (ow_Sp.mono h (fun r2 N2 h => ?_))
    refine ow_ifne (pc' := 58) (tg := 60) dX12_wordAtHand_55 rfl rfl (fun hc => ?_) (fun hc => ?_)
    · have h := h.1 hc
      refine ow_iload_n (pc' := 61) (x := l1) dX12_wordAtHand_60 rfl rfl ?_
      refine ow_aload_n (pc' := 62) (x := 83) dX12_wordAtHand_61 rfl rfl ?_
      refine ow_getf3 (pc' := 65) (t := 0) (ji := 2) (val := A) dX12_wordAtHand_62 fRX12_74 rfl rfl rfl (of_eq_true eo83) eg83_2 ?_
      obtain ⟨vv4, h⟩ := h
      refine ow_imul (pc' := 66) dX12_wordAtHand_65 vv4 rfl ?_
      refine ow_iload_n (pc' := 67) (x := r1 - 97) dX12_wordAtHand_66 rfl rfl ?_
      obtain ⟨vv5, h⟩ := h
      refine ow_iadd (pc' := 68) dX12_wordAtHand_67 vv5 rfl ?_
      refine ow_istore_n (pc' := 69) (lv' := [(0, (3, 83)), (1, (0, (l1 * A) + (r1 - 97))), (2, (0, l2)), (3, (0, r1 - 97))]) dX12_wordAtHand_68 rfl rfl rfl ?_
      obtain ⟨vv6, h⟩ := h
      refine ow_iinc (pc' := 72) (lv' := [(0, (3, 83)), (1, (0, (l1 * A) + (r1 - 97))), (2, (0, l2 + 1)), (3, (0, r1 - 97))]) dX12_wordAtHand_69 rfl vv6 rfl rfl rfl ?_
      refine ow_goto (tg := 22) dX12_wordAtHand_72 rfl ?_
      refine ow_sub (lv' := [(0, (3, 83)), (1, (0, (l1 * A) + (r1 - 97))), (2, (0, l2 + 1))]) [0, 1, 2] rfl ?_
      exact h
    · have h := h.2 hc
      refine ow_iconst (pc' := 59) (n := (-1)) dX12_wordAtHand_58 rfl rfl ?_
      exact ow_iret dX12_wordAtHand_59 rfl rfl h
theorem fX12_wordAtHand {C : ow_C} {A L N : Int} {d : Nat} {M : ow_M} {K : Int → ow_M → Prop} (h : ow_I ((M 83 10) - (M 83 11)) ∧ (((M 83 10) - (M 83 11)) = L → ow_At C (EM A L N) (d + 1) mX12_wordAtHand 22 [(0, (3, 83)), (1, (0, 0)), (2, (0, 0))] [] (0, 0) M K) ∧ (((M 83 10) - (M 83 11)) ≠ L → K ((-1)) M)) : ow_Sp C (EM A L N) (d + 1) mX12_wordAtHand (0, 0) [(3, 83)] M K := ow_enter (by decide +kernel) rfl rfl (cX12_wordAtHand_0 h)
set_option maxRecDepth 20000 in
theorem cX12_booked_0 {C : ow_C} {A L N : Int} {d : Nat} {M : ow_M} {K : Int → ow_M → Prop} {l1 : Int} (h : ((M 83 12) = 2 → ow_I (l1 + 1) ∧ ow_Sp C (EM A L N) d mX12_wordAtHand (0, 0) [(3, 83)] M (fun r1 N1 => (0 ≤ (l1 + 1) ∧ (l1 + 1) < 2720) ∧ ∀ N2, N2 = ow_up N1 86 (l1 + 1) r1 → (0 ≤ (N2 86 (l1 + 1)) → ow_Sp C (EM A L N) d mX12_nextToken (0, 0) [(3, 83)] N2 (fun r3 N3 => ow_I (l1 + 2) ∧ ow_Sp C (EM A L N) d mX12_figure (0, 0) [(3, 83), (0, l1 + 2), (0, 1), (0, 9)] N3 (fun r4 N4 => K r4 N4))) ∧ ((N2 86 (l1 + 1)) < 0 → K 2 N2))) ∧ ((M 83 12) ≠ 2 → K 1 M)) : ow_At C (EM A L N) (d + 1) mX12_booked 0 [(0, (3, 83)), (1, (0, l1))] [] (0, 0) M K := by
  refine ow_aload_n (pc' := 1) (x := 83) dX12_booked_0 rfl rfl ?_
  refine ow_getf3 (pc' := 4) (t := 0) (ji := 12) (val := M 83 12) dX12_booked_1 fRX12_125 rfl rfl rfl (of_eq_true eo83) eg83_12 ?_
  refine ow_iconst (pc' := 5) (n := 2) dX12_booked_4 rfl rfl ?_
  refine ow_icmpeq (pc' := 8) (tg := 10) dX12_booked_5 rfl rfl (fun hc => ?_) (fun hc => ?_)
  · have h := h.1 hc
    refine ow_aload_n (pc' := 11) (x := 83) dX12_booked_10 rfl rfl ?_
    refine ow_getf3 (pc' := 14) (t := 3) (ji := 5) (val := 86) dX12_booked_11 fRX12_16 rfl rfl rfl (of_eq_true eo83) eg83_5 ?_
    refine ow_iload_n (pc' := 15) (x := l1) dX12_booked_14 rfl rfl ?_
    refine ow_iconst (pc' := 16) (n := 1) dX12_booked_15 rfl rfl ?_
    obtain ⟨vv1, h⟩ := h
    refine ow_iadd (pc' := 17) dX12_booked_16 vv1 rfl ?_
    refine ow_aload_n (pc' := 18) (x := 83) dX12_booked_17 rfl rfl ?_
    refine ow_callVp (z := mX12_wordAtHand) (n := 0) (k := 12) (vs := []) (x := 83) (st := [(0, l1 + 1), (3, 86)]) (pc' := 21) (b1 := (0, 0)) (b2 := (0, 0)) dX12_booked_18 lRX12_222 kX12_wordAtHand iX12_wordAtHand rfl rfl rfl rfl rfl rfl (of_eq_true eo83) (ow_Sp.mono h (fun r1 N1 h => ?_))
    obtain ⟨vv2, h⟩ := h
    refine ow_iastore2 (pc' := 22) dX12_booked_21 rfl (Eq.mpr (er86 _) vv2) (of_eq_true (en86 _)) (fun N2 eN2 => ?_)
    have h := h N2 eN2
    refine ow_aload_n (pc' := 23) (x := 83) dX12_booked_22 rfl rfl ?_
    refine ow_getf3 (pc' := 26) (t := 3) (ji := 5) (val := 86) dX12_booked_23 fRX12_16 rfl rfl rfl (of_eq_true eo83) eg83_5 ?_
    refine ow_iload_n (pc' := 27) (x := l1) dX12_booked_26 rfl rfl ?_
    refine ow_iconst (pc' := 28) (n := 1) dX12_booked_27 rfl rfl ?_
    refine ow_iadd (pc' := 29) dX12_booked_28 vv1 rfl ?_
    refine ow_iaload3 (pc' := 30) (val := N2 86 (l1 + 1)) dX12_booked_29 rfl (Eq.mpr (er86 _) vv2) (ea86 _) ?_
    refine ow_ifge (pc' := 33) (tg := 35) dX12_booked_30 rfl rfl (fun hc => ?_) (fun hc => ?_)
    · have h := h.1 hc
      refine ow_aload_n (pc' := 36) (x := 83) dX12_booked_35 rfl rfl ?_
      refine ow_callVv (z := mX12_nextToken) (n := 0) (k := 12) (vs := []) (x := 83) (st := []) (pc' := 39) (b1 := (0, 0)) (b2 := (0, 0)) dX12_booked_36 lRX12_174 kX12_nextToken iX12_nextToken rfl rfl rfl rfl rfl rfl (of_eq_true eo83) (ow_Sp.mono h (fun r3 N3 h => ?_))
      refine ow_aload_n (pc' := 40) (x := 83) dX12_booked_39 rfl rfl ?_
      refine ow_iload_n (pc' := 41) (x := l1) dX12_booked_40 rfl rfl ?_
      refine ow_iconst (pc' := 42) (n := 2) dX12_booked_41 rfl rfl ?_
      obtain ⟨vv3, h⟩ := h
      refine ow_iadd (pc' := 43) dX12_booked_42 vv3 rfl ?_
      refine ow_iconst (pc' := 44) (n := 1) dX12_booked_43 rfl rfl ?_
      refine ow_bipush (pc' := 46) (n := 9) dX12_booked_44 rfl rfl ?_
      refine ow_callVp (z := mX12_figure) (n := 3) (k := 12) (vs := [(0, l1 + 2), (0, 1), (0, 9)]) (x := 83) (st := []) (pc' := 49) (b1 := (0, 0)) (b2 := (0, 0)) dX12_booked_46 lRX12_225 kX12_figure iX12_figure rfl rfl rfl rfl rfl rfl (of_eq_true eo83) (ow_Sp.mono h (fun r4 N4 h => ?_))
      exact ow_iret dX12_booked_49 rfl rfl h
    · have h := h.2 hc
      refine ow_iconst (pc' := 34) (n := 2) dX12_booked_33 rfl rfl ?_
      exact ow_iret dX12_booked_34 rfl rfl h
  · have h := h.2 hc
    refine ow_iconst (pc' := 9) (n := 1) dX12_booked_8 rfl rfl ?_
    exact ow_iret dX12_booked_9 rfl rfl h
theorem fX12_booked {C : ow_C} {A L N : Int} {d : Nat} {M : ow_M} {K : Int → ow_M → Prop} {l1 : Int} (h : ((M 83 12) = 2 → ow_I (l1 + 1) ∧ ow_Sp C (EM A L N) d mX12_wordAtHand (0, 0) [(3, 83)] M (fun r1 N1 => (0 ≤ (l1 + 1) ∧ (l1 + 1) < 2720) ∧ ∀ N2, N2 = ow_up N1 86 (l1 + 1) r1 → (0 ≤ (N2 86 (l1 + 1)) → ow_Sp C (EM A L N) d mX12_nextToken (0, 0) [(3, 83)] N2 (fun r3 N3 => ow_I (l1 + 2) ∧ ow_Sp C (EM A L N) d mX12_figure (0, 0) [(3, 83), (0, l1 + 2), (0, 1), (0, 9)] N3 (fun r4 N4 => K r4 N4))) ∧ ((N2 86 (l1 + 1)) < 0 → K 2 N2))) ∧ ((M 83 12) ≠ 2 → K 1 M)) : ow_Sp C (EM A L N) (d + 1) mX12_booked (0, 0) [(3, 83), (0, l1)] M K := ow_enter (by decide +kernel) rfl rfl (cX12_booked_0 h)
set_option maxRecDepth 20000 in
theorem cX12_led_0 {C : ow_C} {A L N : Int} {d : Nat} {M : ow_M} {K : Int → ow_M → Prop} {l1 : Int} (h : ow_I (l1 + 1) ∧ ow_Sp C (EM A L N) d mX12_figure (0, 0) [(3, 83), (0, l1 + 1), (0, 0), (0, 8)] M (fun r1 N1 => (r1 = 0 → ((N1 83 12) ≠ 2 → K 1 N1) ∧ ((N1 83 12) = 2 → ((ow_lcmp (N1 83 14) 29807) = 0 → ow_Sp C (EM A L N) d mX12_nextToken (0, 0) [(3, 83)] N1 (fun r2 N2 => ow_I (l1 + 2) ∧ (0 ≤ (l1 + 1) ∧ (l1 + 1) < 2720) ∧ ow_Sp C (EM A L N) d mX12_figure (0, 0) [(3, 83), (0, l1 + 2), (0, N2 86 (l1 + 1)), (0, 8)] N2 (fun r3 N3 => K r3 N3))) ∧ ((ow_lcmp (N1 83 14) 29807) ≠ 0 → K 1 N1))) ∧ (r1 ≠ 0 → K r1 N1))) : ow_At C (EM A L N) (d + 1) mX12_led 0 [(0, (3, 83)), (1, (0, l1))] [] (0, 0) M K := by
  refine ow_aload_n (pc' := 1) (x := 83) dX12_led_0 rfl rfl ?_
  refine ow_iload_n (pc' := 2) (x := l1) dX12_led_1 rfl rfl ?_
  refine ow_iconst (pc' := 3) (n := 1) dX12_led_2 rfl rfl ?_
  obtain ⟨vv1, h⟩ := h
  refine ow_iadd (pc' := 4) dX12_led_3 vv1 rfl ?_
  refine ow_iconst (pc' := 5) (n := 0) dX12_led_4 rfl rfl ?_
  refine ow_bipush (pc' := 7) (n := 8) dX12_led_5 rfl rfl ?_
  refine ow_callVp (z := mX12_figure) (n := 3) (k := 12) (vs := [(0, l1 + 1), (0, 0), (0, 8)]) (x := 83) (st := []) (pc' := 10) (b1 := (0, 0)) (b2 := (0, 0)) dX12_led_7 lRX12_225 kX12_figure iX12_figure rfl rfl rfl rfl rfl rfl (of_eq_true eo83) (ow_Sp.mono h (fun r1 N1 h => ?_))
  refine ow_istore_n (pc' := 11) (lv' := [(0, (3, 83)), (1, (0, l1)), (2, (0, r1))]) dX12_led_10 rfl rfl rfl ?_
  refine ow_iload_n (pc' := 12) (x := r1) dX12_led_11 rfl rfl ?_
  refine ow_ifeq (pc' := 15) (tg := 17) dX12_led_12 rfl rfl (fun hc => ?_) (fun hc => ?_)
  · have h := h.1 hc
    refine ow_aload_n (pc' := 18) (x := 83) dX12_led_17 rfl rfl ?_
    refine ow_getf3 (pc' := 21) (t := 0) (ji := 12) (val := N1 83 12) dX12_led_18 fRX12_125 rfl rfl rfl (of_eq_true eo83) eg83_12 ?_
    refine ow_iconst (pc' := 22) (n := 2) dX12_led_21 rfl rfl ?_
    refine ow_icmpne (pc' := 25) (tg := 36) dX12_led_22 rfl rfl (fun hc => ?_) (fun hc => ?_)
    · have h := h.1 hc
      refine ow_iconst (pc' := 37) (n := 1) dX12_led_36 rfl rfl ?_
      exact ow_iret dX12_led_37 rfl rfl h
    · have h := h.2 hc
      refine ow_aload_n (pc' := 26) (x := 83) dX12_led_25 rfl rfl ?_
      refine ow_getf3 (pc' := 29) (t := 1) (ji := 14) (val := N1 83 14) dX12_led_26 fRX12_138 rfl rfl rfl (of_eq_true eo83) eg83_14 ?_
      refine ow_ldc2 (pc' := 32) (n := 29807) dX12_led_29 cRX12_229 rfl rfl ?_
      refine ow_Lcmp (pc' := 33) dX12_led_32 rfl ?_
      refine ow_ifeq (pc' := 36) (tg := 38) dX12_led_33 rfl rfl (fun hc => ?_) (fun hc => ?_)
      · have h := h.1 hc
        refine ow_aload_n (pc' := 39) (x := 83) dX12_led_38 rfl rfl ?_
        refine ow_callVv (z := mX12_nextToken) (n := 0) (k := 12) (vs := []) (x := 83) (st := []) (pc' := 42) (b1 := (0, 0)) (b2 := (0, 0)) dX12_led_39 lRX12_174 kX12_nextToken iX12_nextToken rfl rfl rfl rfl rfl rfl (of_eq_true eo83) (ow_Sp.mono h (fun r2 N2 h => ?_))
        refine ow_aload_n (pc' := 43) (x := 83) dX12_led_42 rfl rfl ?_
        refine ow_iload_n (pc' := 44) (x := l1) dX12_led_43 rfl rfl ?_
        refine ow_iconst (pc' := 45) (n := 2) dX12_led_44 rfl rfl ?_
        obtain ⟨vv2, h⟩ := h
        refine ow_iadd (pc' := 46) dX12_led_45 vv2 rfl ?_
        refine ow_aload_n (pc' := 47) (x := 83) dX12_led_46 rfl rfl ?_
        refine ow_getf3 (pc' := 50) (t := 3) (ji := 5) (val := 86) dX12_led_47 fRX12_16 rfl rfl rfl (of_eq_true eo83) eg83_5 ?_
        refine ow_iload_n (pc' := 51) (x := l1) dX12_led_50 rfl rfl ?_
        refine ow_iconst (pc' := 52) (n := 1) dX12_led_51 rfl rfl ?_
        refine ow_iadd (pc' := 53) dX12_led_52 vv1 rfl ?_
        obtain ⟨vv3, h⟩ := h
        refine ow_iaload3 (pc' := 54) (val := N2 86 (l1 + 1)) dX12_led_53 rfl (Eq.mpr (er86 _) vv3) (ea86 _) ?_
        refine ow_bipush (pc' := 56) (n := 8) dX12_led_54 rfl rfl ?_
        refine ow_callVp (z := mX12_figure) (n := 3) (k := 12) (vs := [(0, l1 + 2), (0, N2 86 (l1 + 1)), (0, 8)]) (x := 83) (st := []) (pc' := 59) (b1 := (0, 0)) (b2 := (0, 0)) dX12_led_56 lRX12_225 kX12_figure iX12_figure rfl rfl rfl rfl rfl rfl (of_eq_true eo83) (ow_Sp.mono h (fun r3 N3 h => ?_))
        exact ow_iret dX12_led_59 rfl rfl h
      · have h := h.2 hc
        refine ow_iconst (pc' := 37) (n := 1) dX12_led_36 rfl rfl ?_
        exact ow_iret dX12_led_37 rfl rfl h
  · have h := h.2 hc
    refine ow_iload_n (pc' := 16) (x := r1) dX12_led_15 rfl rfl ?_
    exact ow_iret dX12_led_16 rfl rfl h
theorem fX12_led {C : ow_C} {A L N : Int} {d : Nat} {M : ow_M} {K : Int → ow_M → Prop} {l1 : Int} (h : ow_I (l1 + 1) ∧ ow_Sp C (EM A L N) d mX12_figure (0, 0) [(3, 83), (0, l1 + 1), (0, 0), (0, 8)] M (fun r1 N1 => (r1 = 0 → ((N1 83 12) ≠ 2 → K 1 N1) ∧ ((N1 83 12) = 2 → ((ow_lcmp (N1 83 14) 29807) = 0 → ow_Sp C (EM A L N) d mX12_nextToken (0, 0) [(3, 83)] N1 (fun r2 N2 => ow_I (l1 + 2) ∧ (0 ≤ (l1 + 1) ∧ (l1 + 1) < 2720) ∧ ow_Sp C (EM A L N) d mX12_figure (0, 0) [(3, 83), (0, l1 + 2), (0, N2 86 (l1 + 1)), (0, 8)] N2 (fun r3 N3 => K r3 N3))) ∧ ((ow_lcmp (N1 83 14) 29807) ≠ 0 → K 1 N1))) ∧ (r1 ≠ 0 → K r1 N1))) : ow_Sp C (EM A L N) (d + 1) mX12_led (0, 0) [(3, 83), (0, l1)] M K := ow_enter (by decide +kernel) rfl rfl (cX12_led_0 h)
set_option maxRecDepth 20000 in
theorem cX12_clause_0 {C : ow_C} {A L N : Int} {d : Nat} {M : ow_M} {K : Int → ow_M → Prop} (h : ow_Sp C (EM A L N) d mX12_sortOf (0, 0) [(3, 83)] M (fun r1 N1 => (0 ≤ r1 → (2 ≤ r1 → ow_At C (EM A L N) (d + 1) mX12_clause 30 [(0, (3, 83)), (1, (0, r1))] [] (0, 0) N1 K) ∧ (r1 < 2 → ((ow_and (ow_shr (N1 83 23) r1) 1) ≠ 1 → ow_At C (EM A L N) (d + 1) mX12_clause 30 [(0, (3, 83)), (1, (0, r1))] [] (0, 0) N1 K) ∧ ((ow_and (ow_shr (N1 83 23) r1) 1) = 1 → K 4 N1))) ∧ (r1 < 0 → K 1 N1))) : ow_At C (EM A L N) (d + 1) mX12_clause 0 [(0, (3, 83))] [] (0, 0) M K := by
  refine ow_aload_n (pc' := 1) (x := 83) dX12_clause_0 rfl rfl ?_
  refine ow_callVp (z := mX12_sortOf) (n := 0) (k := 12) (vs := []) (x := 83) (st := []) (pc' := 4) (b1 := (0, 0)) (b2 := (0, 0)) dX12_clause_1 lRX12_231 kX12_sortOf iX12_sortOf rfl rfl rfl rfl rfl rfl (of_eq_true eo83) (ow_Sp.mono h (fun r1 N1 h => ?_))
  refine ow_istore_n (pc' := 5) (lv' := [(0, (3, 83)), (1, (0, r1))]) dX12_clause_4 rfl rfl rfl ?_
  refine ow_iload_n (pc' := 6) (x := r1) dX12_clause_5 rfl rfl ?_
  refine ow_ifge (pc' := 9) (tg := 11) dX12_clause_6 rfl rfl (fun hc => ?_) (fun hc => ?_)
  · have h := h.1 hc
    refine ow_iload_n (pc' := 12) (x := r1) dX12_clause_11 rfl rfl ?_
    refine ow_iconst (pc' := 13) (n := 2) dX12_clause_12 rfl rfl ?_
    refine ow_icmpge (pc' := 16) (tg := 30) dX12_clause_13 rfl rfl (fun hc => ?_) (fun hc => ?_)
    · have h := h.1 hc
      exact h
    · have h := h.2 hc
      refine ow_aload_n (pc' := 17) (x := 83) dX12_clause_16 rfl rfl ?_
      refine ow_getf3 (pc' := 20) (t := 0) (ji := 23) (val := N1 83 23) dX12_clause_17 fRX12_234 rfl rfl rfl (of_eq_true eo83) eg83_23 ?_
      refine ow_iload_n (pc' := 21) (x := r1) dX12_clause_20 rfl rfl ?_
      refine ow_ishr (pc' := 22) dX12_clause_21 rfl ?_
      refine ow_iconst (pc' := 23) (n := 1) dX12_clause_22 rfl rfl ?_
      refine ow_iand (pc' := 24) dX12_clause_23 rfl ?_
      refine ow_iconst (pc' := 25) (n := 1) dX12_clause_24 rfl rfl ?_
      refine ow_icmpne (pc' := 28) (tg := 30) dX12_clause_25 rfl rfl (fun hc => ?_) (fun hc => ?_)
      · have h := h.1 hc
        exact h
      · have h := h.2 hc
        refine ow_iconst (pc' := 29) (n := 4) dX12_clause_28 rfl rfl ?_
        exact ow_iret dX12_clause_29 rfl rfl h
  · have h := h.2 hc
    refine ow_iconst (pc' := 10) (n := 1) dX12_clause_9 rfl rfl ?_
    exact ow_iret dX12_clause_10 rfl rfl h
set_option maxRecDepth 20000 in
theorem cX12_clause_30 {C : ow_C} {A L N : Int} {d : Nat} {M : ow_M} {K : Int → ow_M → Prop} {l1 : Int} (h : (0 ≤ (M 83 15) ∧ (M 83 15) < 2720) ∧ ((M 86 (M 83 15)) ≠ 24 → (2 ≤ l1 → ow_At C (EM A L N) (d + 1) mX12_clause 65 [(0, (3, 83)), (1, (0, l1)), (2, (0, M 86 (M 83 15)))] [] (0, 0) M K) ∧ (l1 < 2 → ∀ N1, N1 = ow_up M 83 23 (ow_or (M 83 23) (ow_shl 1 l1)) → ow_At C (EM A L N) (d + 1) mX12_clause 65 [(0, (3, 83)), (1, (0, l1)), (2, (0, M 86 (M 83 15)))] [] (0, 0) N1 K)) ∧ ((M 86 (M 83 15)) = 24 → K 5 M)) : ow_At C (EM A L N) (d + 1) mX12_clause 30 [(0, (3, 83)), (1, (0, l1))] [] (0, 0) M K := by
  refine ow_aload_n (pc' := 31) (x := 83) dX12_clause_30 rfl rfl ?_
  refine ow_getf3 (pc' := 34) (t := 3) (ji := 5) (val := 86) dX12_clause_31 fRX12_16 rfl rfl rfl (of_eq_true eo83) eg83_5 ?_
  refine ow_aload_n (pc' := 35) (x := 83) dX12_clause_34 rfl rfl ?_
  refine ow_getf3 (pc' := 38) (t := 0) (ji := 15) (val := M 83 15) dX12_clause_35 fRX12_150 rfl rfl rfl (of_eq_true eo83) eg83_15 ?_
  obtain ⟨vv1, h⟩ := h
  refine ow_iaload3 (pc' := 39) (val := M 86 (M 83 15)) dX12_clause_38 rfl (Eq.mpr (er86 _) vv1) (ea86 _) ?_
  refine ow_istore_n (pc' := 40) (lv' := [(0, (3, 83)), (1, (0, l1)), (2, (0, M 86 (M 83 15)))]) dX12_clause_39 rfl rfl rfl ?_
  refine ow_iload_n (pc' := 41) (x := M 86 (M 83 15)) dX12_clause_40 rfl rfl ?_
  refine ow_bipush (pc' := 43) (n := 24) dX12_clause_41 rfl rfl ?_
  refine ow_icmpne (pc' := 46) (tg := 48) dX12_clause_43 rfl rfl (fun hc => ?_) (fun hc => ?_)
  · have h := h.1 hc
    refine ow_iload_n (pc' := 49) (x := l1) dX12_clause_48 rfl rfl ?_
    refine ow_iconst (pc' := 50) (n := 2) dX12_clause_49 rfl rfl ?_
    refine ow_icmpge (pc' := 53) (tg := 65) dX12_clause_50 rfl rfl (fun hc => ?_) (fun hc => ?_)
    · have h := h.1 hc
      exact h
    · have h := h.2 hc
      refine ow_aload_n (pc' := 54) (x := 83) dX12_clause_53 rfl rfl ?_
      refine ow_dup (pc' := 55) dX12_clause_54 rfl rfl ?_
      refine ow_getf3 (pc' := 58) (t := 0) (ji := 23) (val := M 83 23) dX12_clause_55 fRX12_234 rfl rfl rfl (of_eq_true eo83) eg83_23 ?_
      refine ow_iconst (pc' := 59) (n := 1) dX12_clause_58 rfl rfl ?_
      refine ow_iload_n (pc' := 60) (x := l1) dX12_clause_59 rfl rfl ?_
      refine ow_ishl (pc' := 61) dX12_clause_60 rfl ?_
      refine ow_ior (pc' := 62) dX12_clause_61 rfl ?_
      refine ow_putf2 (pc' := 65) (t := 0) (ji := 23) dX12_clause_62 fRX12_234 rfl rfl rfl rfl (of_eq_true eo83) (of_eq_true en83_23) (fun hz => absurd hz (by decide)) (fun N1 eN1 => ?_)
      have h := h N1 eN1
      exact h
  · have h := h.2 hc
    refine ow_iconst (pc' := 47) (n := 5) dX12_clause_46 rfl rfl ?_
    exact ow_iret dX12_clause_47 rfl rfl h
set_option maxRecDepth 20000 in
theorem cX12_clause_65 {C : ow_C} {A L N : Int} {d : Nat} {M : ow_M} {K : Int → ow_M → Prop} {l1 l2 : Int} (h : ow_Sp C (EM A L N) d mX12_nextToken (0, 0) [(3, 83)] M (fun r1 N1 => ow_I ((N1 83 15) + 1) ∧ ow_I (3 * l2) ∧ ow_I (((N1 83 15) + 1) + (3 * l2)) ∧ (0 ≤ (((N1 83 15) + 1) + (3 * l2)) ∧ (((N1 83 15) + 1) + (3 * l2)) < 2720) ∧ ∀ N2, N2 = ow_up N1 86 (((N1 83 15) + 1) + (3 * l2)) l1 → (l1 ≠ 2 → (l1 ≠ 3 → (l1 ≠ 0 → ow_Sp C (EM A L N) d mX12_summed (0, 0) [(3, 83)] N2 (fun r3 N3 => ow_At C (EM A L N) (d + 1) mX12_clause 134 [(0, (3, 83)), (1, (0, l1)), (3, (0, ((N1 83 15) + 1) + (3 * l2))), (4, (0, N2 83 17))] [(0, r3)] (0, 0) N3 K)) ∧ (l1 = 0 → ow_Sp C (EM A L N) d mX12_either (0, 0) [(3, 83)] N2 (fun r4 N4 => ow_At C (EM A L N) (d + 1) mX12_clause 134 [(0, (3, 83)), (1, (0, l1)), (3, (0, ((N1 83 15) + 1) + (3 * l2))), (4, (0, N2 83 17))] [(0, r4)] (0, 0) N4 K))) ∧ (l1 = 3 → ow_Sp C (EM A L N) d mX12_led (0, 0) [(3, 83), (0, ((N1 83 15) + 1) + (3 * l2))] N2 (fun r5 N5 => ow_At C (EM A L N) (d + 1) mX12_clause 134 [(0, (3, 83)), (1, (0, l1)), (3, (0, ((N1 83 15) + 1) + (3 * l2))), (4, (0, N2 83 17))] [(0, r5)] (0, 0) N5 K))) ∧ (l1 = 2 → ow_Sp C (EM A L N) d mX12_booked (0, 0) [(3, 83), (0, ((N1 83 15) + 1) + (3 * l2))] N2 (fun r6 N6 => ow_At C (EM A L N) (d + 1) mX12_clause 134 [(0, (3, 83)), (1, (0, l1)), (3, (0, ((N1 83 15) + 1) + (3 * l2))), (4, (0, N2 83 17))] [(0, r6)] (0, 0) N6 K)))) : ow_At C (EM A L N) (d + 1) mX12_clause 65 [(0, (3, 83)), (1, (0, l1)), (2, (0, l2))] [] (0, 0) M K := by
  refine ow_aload_n (pc' := 66) (x := 83) dX12_clause_65 rfl rfl ?_
  refine ow_callVv (z := mX12_nextToken) (n := 0) (k := 12) (vs := []) (x := 83) (st := []) (pc' := 69) (b1 := (0, 0)) (b2 := (0, 0)) dX12_clause_66 lRX12_174 kX12_nextToken iX12_nextToken rfl rfl rfl rfl rfl rfl (of_eq_true eo83) (ow_Sp.mono h (fun r1 N1 h => ?_))
  refine ow_aload_n (pc' := 70) (x := 83) dX12_clause_69 rfl rfl ?_
  refine ow_getf3 (pc' := 73) (t := 0) (ji := 15) (val := N1 83 15) dX12_clause_70 fRX12_150 rfl rfl rfl (of_eq_true eo83) eg83_15 ?_
  refine ow_iconst (pc' := 74) (n := 1) dX12_clause_73 rfl rfl ?_
  obtain ⟨vv1, h⟩ := h
  refine ow_iadd (pc' := 75) dX12_clause_74 vv1 rfl ?_
  refine ow_iconst (pc' := 76) (n := 3) dX12_clause_75 rfl rfl ?_
  refine ow_iload_n (pc' := 77) (x := l2) dX12_clause_76 rfl rfl ?_
  obtain ⟨vv2, h⟩ := h
  refine ow_imul (pc' := 78) dX12_clause_77 vv2 rfl ?_
  obtain ⟨vv3, h⟩ := h
  refine ow_iadd (pc' := 79) dX12_clause_78 vv3 rfl ?_
  refine ow_istore_n (pc' := 80) (lv' := [(0, (3, 83)), (1, (0, l1)), (2, (0, l2)), (3, (0, ((N1 83 15) + 1) + (3 * l2)))]) dX12_clause_79 rfl rfl rfl ?_
  refine ow_aload_n (pc' := 81) (x := 83) dX12_clause_80 rfl rfl ?_
  refine ow_getf3 (pc' := 84) (t := 3) (ji := 5) (val := 86) dX12_clause_81 fRX12_16 rfl rfl rfl (of_eq_true eo83) eg83_5 ?_
  refine ow_iload_n (pc' := 85) (x := ((N1 83 15) + 1) + (3 * l2)) dX12_clause_84 rfl rfl ?_
  refine ow_iload_n (pc' := 86) (x := l1) dX12_clause_85 rfl rfl ?_
  obtain ⟨vv4, h⟩ := h
  refine ow_iastore2 (pc' := 87) dX12_clause_86 rfl (Eq.mpr (er86 _) vv4) (of_eq_true (en86 _)) (fun N2 eN2 => ?_)
  have h := h N2 eN2
  refine ow_aload_n (pc' := 88) (x := 83) dX12_clause_87 rfl rfl ?_
  refine ow_getf3 (pc' := 91) (t := 0) (ji := 17) (val := N2 83 17) dX12_clause_88 fRX12_153 rfl rfl rfl (of_eq_true eo83) eg83_17 ?_
  refine ow_istore (pc' := 93) (lv' := [(0, (3, 83)), (1, (0, l1)), (2, (0, l2)), (3, (0, ((N1 83 15) + 1) + (3 * l2))), (4, (0, N2 83 17))]) dX12_clause_91 rfl rfl rfl ?_
  refine ow_iload_n (pc' := 94) (x := l1) dX12_clause_93 rfl rfl ?_
  refine ow_iconst (pc' := 95) (n := 2) dX12_clause_94 rfl rfl ?_
  refine ow_icmpne (pc' := 98) (tg := 106) dX12_clause_95 rfl rfl (fun hc => ?_) (fun hc => ?_)
  · have h := h.1 hc
    refine ow_iload_n (pc' := 107) (x := l1) dX12_clause_106 rfl rfl ?_
    refine ow_iconst (pc' := 108) (n := 3) dX12_clause_107 rfl rfl ?_
    refine ow_icmpne (pc' := 111) (tg := 119) dX12_clause_108 rfl rfl (fun hc => ?_) (fun hc => ?_)
    · have h := h.1 hc
      refine ow_iload_n (pc' := 120) (x := l1) dX12_clause_119 rfl rfl ?_
      refine ow_ifne (pc' := 123) (tg := 130) dX12_clause_120 rfl rfl (fun hc => ?_) (fun hc => ?_)
      · have h := h.1 hc
        refine ow_aload_n (pc' := 131) (x := 83) dX12_clause_130 rfl rfl ?_
        refine ow_callVp (z := mX12_summed) (n := 0) (k := 12) (vs := []) (x := 83) (st := []) (pc' := 134) (b1 := (0, 0)) (b2 := (0, 0)) dX12_clause_131 lRX12_207 kX12_summed iX12_summed rfl rfl rfl rfl rfl rfl (of_eq_true eo83) (ow_Sp.mono h (fun r3 N3 h => ?_))
        refine ow_sub (lv' := [(0, (3, 83)), (1, (0, l1)), (3, (0, ((N1 83 15) + 1) + (3 * l2))), (4, (0, N2 83 17))]) [0, 1, 3, 4] rfl ?_
        exact h
      · have h := h.2 hc
        refine ow_aload_n (pc' := 124) (x := 83) dX12_clause_123 rfl rfl ?_
        refine ow_callVp (z := mX12_either) (n := 0) (k := 12) (vs := []) (x := 83) (st := []) (pc' := 127) (b1 := (0, 0)) (b2 := (0, 0)) dX12_clause_124 lRX12_243 kX12_either iX12_either rfl rfl rfl rfl rfl rfl (of_eq_true eo83) (ow_Sp.mono h (fun r4 N4 h => ?_))
        refine ow_goto (tg := 134) dX12_clause_127 rfl ?_
        refine ow_sub (lv' := [(0, (3, 83)), (1, (0, l1)), (3, (0, ((N1 83 15) + 1) + (3 * l2))), (4, (0, N2 83 17))]) [0, 1, 3, 4] rfl ?_
        exact h
    · have h := h.2 hc
      refine ow_aload_n (pc' := 112) (x := 83) dX12_clause_111 rfl rfl ?_
      refine ow_iload_n (pc' := 113) (x := ((N1 83 15) + 1) + (3 * l2)) dX12_clause_112 rfl rfl ?_
      refine ow_callVp (z := mX12_led) (n := 1) (k := 12) (vs := [(0, ((N1 83 15) + 1) + (3 * l2))]) (x := 83) (st := []) (pc' := 116) (b1 := (0, 0)) (b2 := (0, 0)) dX12_clause_113 lRX12_240 kX12_led iX12_led rfl rfl rfl rfl rfl rfl (of_eq_true eo83) (ow_Sp.mono h (fun r5 N5 h => ?_))
      refine ow_goto (tg := 134) dX12_clause_116 rfl ?_
      refine ow_sub (lv' := [(0, (3, 83)), (1, (0, l1)), (3, (0, ((N1 83 15) + 1) + (3 * l2))), (4, (0, N2 83 17))]) [0, 1, 3, 4] rfl ?_
      exact h
  · have h := h.2 hc
    refine ow_aload_n (pc' := 99) (x := 83) dX12_clause_98 rfl rfl ?_
    refine ow_iload_n (pc' := 100) (x := ((N1 83 15) + 1) + (3 * l2)) dX12_clause_99 rfl rfl ?_
    refine ow_callVp (z := mX12_booked) (n := 1) (k := 12) (vs := [(0, ((N1 83 15) + 1) + (3 * l2))]) (x := 83) (st := []) (pc' := 103) (b1 := (0, 0)) (b2 := (0, 0)) dX12_clause_100 lRX12_237 kX12_booked iX12_booked rfl rfl rfl rfl rfl rfl (of_eq_true eo83) (ow_Sp.mono h (fun r6 N6 h => ?_))
    refine ow_goto (tg := 134) dX12_clause_103 rfl ?_
    refine ow_sub (lv' := [(0, (3, 83)), (1, (0, l1)), (3, (0, ((N1 83 15) + 1) + (3 * l2))), (4, (0, N2 83 17))]) [0, 1, 3, 4] rfl ?_
    exact h
set_option maxRecDepth 20000 in
theorem cX12_clause_134 {C : ow_C} {A L N : Int} {d : Nat} {M : ow_M} {K : Int → ow_M → Prop} {l1 l3 l4 s0 : Int} (h : (s0 = 0 → (2 ≤ l1 → ow_At C (EM A L N) (d + 1) mX12_clause 171 [(0, (3, 83))] [] (0, 0) M K) ∧ (l1 < 2 → ow_I (l3 + 1) ∧ (0 ≤ (l3 + 1) ∧ (l3 + 1) < 2720) ∧ ∀ N1, N1 = ow_up M 86 (l3 + 1) l4 → ow_I (l3 + 2) ∧ (0 ≤ (l3 + 2) ∧ (l3 + 2) < 2720) ∧ ∀ N2, N2 = ow_up N1 86 (l3 + 2) (N1 83 17) → ow_At C (EM A L N) (d + 1) mX12_clause 171 [(0, (3, 83))] [] (0, 0) N2 K)) ∧ (s0 ≠ 0 → K s0 M)) : ow_At C (EM A L N) (d + 1) mX12_clause 134 [(0, (3, 83)), (1, (0, l1)), (3, (0, l3)), (4, (0, l4))] [(0, s0)] (0, 0) M K := by
  refine ow_istore (pc' := 136) (lv' := [(0, (3, 83)), (1, (0, l1)), (3, (0, l3)), (4, (0, l4)), (5, (0, s0))]) dX12_clause_134 rfl rfl rfl ?_
  refine ow_iload (pc' := 138) (x := s0) dX12_clause_136 rfl rfl ?_
  refine ow_ifeq (pc' := 141) (tg := 144) dX12_clause_138 rfl rfl (fun hc => ?_) (fun hc => ?_)
  · have h := h.1 hc
    refine ow_iload_n (pc' := 145) (x := l1) dX12_clause_144 rfl rfl ?_
    refine ow_iconst (pc' := 146) (n := 2) dX12_clause_145 rfl rfl ?_
    refine ow_icmpge (pc' := 149) (tg := 171) dX12_clause_146 rfl rfl (fun hc => ?_) (fun hc => ?_)
    · have h := h.1 hc
      refine ow_sub (lv' := [(0, (3, 83))]) [0] rfl ?_
      exact h
    · have h := h.2 hc
      refine ow_aload_n (pc' := 150) (x := 83) dX12_clause_149 rfl rfl ?_
      refine ow_getf3 (pc' := 153) (t := 3) (ji := 5) (val := 86) dX12_clause_150 fRX12_16 rfl rfl rfl (of_eq_true eo83) eg83_5 ?_
      refine ow_iload_n (pc' := 154) (x := l3) dX12_clause_153 rfl rfl ?_
      refine ow_iconst (pc' := 155) (n := 1) dX12_clause_154 rfl rfl ?_
      obtain ⟨vv1, h⟩ := h
      refine ow_iadd (pc' := 156) dX12_clause_155 vv1 rfl ?_
      refine ow_iload (pc' := 158) (x := l4) dX12_clause_156 rfl rfl ?_
      obtain ⟨vv2, h⟩ := h
      refine ow_iastore2 (pc' := 159) dX12_clause_158 rfl (Eq.mpr (er86 _) vv2) (of_eq_true (en86 _)) (fun N1 eN1 => ?_)
      have h := h N1 eN1
      refine ow_aload_n (pc' := 160) (x := 83) dX12_clause_159 rfl rfl ?_
      refine ow_getf3 (pc' := 163) (t := 3) (ji := 5) (val := 86) dX12_clause_160 fRX12_16 rfl rfl rfl (of_eq_true eo83) eg83_5 ?_
      refine ow_iload_n (pc' := 164) (x := l3) dX12_clause_163 rfl rfl ?_
      refine ow_iconst (pc' := 165) (n := 2) dX12_clause_164 rfl rfl ?_
      obtain ⟨vv3, h⟩ := h
      refine ow_iadd (pc' := 166) dX12_clause_165 vv3 rfl ?_
      refine ow_aload_n (pc' := 167) (x := 83) dX12_clause_166 rfl rfl ?_
      refine ow_getf3 (pc' := 170) (t := 0) (ji := 17) (val := N1 83 17) dX12_clause_167 fRX12_153 rfl rfl rfl (of_eq_true eo83) eg83_17 ?_
      obtain ⟨vv4, h⟩ := h
      refine ow_iastore2 (pc' := 171) dX12_clause_170 rfl (Eq.mpr (er86 _) vv4) (of_eq_true (en86 _)) (fun N2 eN2 => ?_)
      have h := h N2 eN2
      refine ow_sub (lv' := [(0, (3, 83))]) [0] rfl ?_
      exact h
  · have h := h.2 hc
    refine ow_iload (pc' := 143) (x := s0) dX12_clause_141 rfl rfl ?_
    exact ow_iret dX12_clause_143 rfl rfl h
set_option maxRecDepth 20000 in
theorem cX12_clause_171 {C : ow_C} {A L N : Int} {d : Nat} {M : ow_M} {K : Int → ow_M → Prop} (h : (0 ≤ (M 83 15) ∧ (M 83 15) < 2720) ∧ ow_I ((M 86 (M 83 15)) + 1) ∧ ∀ N1, N1 = ow_up M 86 (M 83 15) ((M 86 (M 83 15)) + 1) → ((N1 83 12) = 59 → ow_Sp C (EM A L N) d mX12_nextToken (0, 0) [(3, 83)] N1 (fun r2 N2 => K 0 N2)) ∧ ((N1 83 12) ≠ 59 → K 1 N1)) : ow_At C (EM A L N) (d + 1) mX12_clause 171 [(0, (3, 83))] [] (0, 0) M K := by
  refine ow_aload_n (pc' := 172) (x := 83) dX12_clause_171 rfl rfl ?_
  refine ow_getf3 (pc' := 175) (t := 3) (ji := 5) (val := 86) dX12_clause_172 fRX12_16 rfl rfl rfl (of_eq_true eo83) eg83_5 ?_
  refine ow_aload_n (pc' := 176) (x := 83) dX12_clause_175 rfl rfl ?_
  refine ow_getf3 (pc' := 179) (t := 0) (ji := 15) (val := M 83 15) dX12_clause_176 fRX12_150 rfl rfl rfl (of_eq_true eo83) eg83_15 ?_
  refine ow_dup2 (pc' := 180) dX12_clause_179 rfl rfl rfl ?_
  obtain ⟨vv1, h⟩ := h
  refine ow_iaload3 (pc' := 181) (val := M 86 (M 83 15)) dX12_clause_180 rfl (Eq.mpr (er86 _) vv1) (ea86 _) ?_
  refine ow_iconst (pc' := 182) (n := 1) dX12_clause_181 rfl rfl ?_
  obtain ⟨vv2, h⟩ := h
  refine ow_iadd (pc' := 183) dX12_clause_182 vv2 rfl ?_
  refine ow_iastore2 (pc' := 184) dX12_clause_183 rfl (Eq.mpr (er86 _) vv1) (of_eq_true (en86 _)) (fun N1 eN1 => ?_)
  have h := h N1 eN1
  refine ow_aload_n (pc' := 185) (x := 83) dX12_clause_184 rfl rfl ?_
  refine ow_getf3 (pc' := 188) (t := 0) (ji := 12) (val := N1 83 12) dX12_clause_185 fRX12_125 rfl rfl rfl (of_eq_true eo83) eg83_12 ?_
  refine ow_bipush (pc' := 190) (n := 59) dX12_clause_188 rfl rfl ?_
  refine ow_icmpeq (pc' := 193) (tg := 195) dX12_clause_190 rfl rfl (fun hc => ?_) (fun hc => ?_)
  · have h := h.1 hc
    refine ow_aload_n (pc' := 196) (x := 83) dX12_clause_195 rfl rfl ?_
    refine ow_callVv (z := mX12_nextToken) (n := 0) (k := 12) (vs := []) (x := 83) (st := []) (pc' := 199) (b1 := (0, 0)) (b2 := (0, 0)) dX12_clause_196 lRX12_174 kX12_nextToken iX12_nextToken rfl rfl rfl rfl rfl rfl (of_eq_true eo83) (ow_Sp.mono h (fun r2 N2 h => ?_))
    refine ow_iconst (pc' := 200) (n := 0) dX12_clause_199 rfl rfl ?_
    exact ow_iret dX12_clause_200 rfl rfl h
  · have h := h.2 hc
    refine ow_iconst (pc' := 194) (n := 1) dX12_clause_193 rfl rfl ?_
    exact ow_iret dX12_clause_194 rfl rfl h
theorem fX12_clause {C : ow_C} {A L N : Int} {d : Nat} {M : ow_M} {K : Int → ow_M → Prop} (h : ow_Sp C (EM A L N) d mX12_sortOf (0, 0) [(3, 83)] M (fun r1 N1 => (0 ≤ r1 → (2 ≤ r1 → ow_At C (EM A L N) (d + 1) mX12_clause 30 [(0, (3, 83)), (1, (0, r1))] [] (0, 0) N1 K) ∧ (r1 < 2 → ((ow_and (ow_shr (N1 83 23) r1) 1) ≠ 1 → ow_At C (EM A L N) (d + 1) mX12_clause 30 [(0, (3, 83)), (1, (0, r1))] [] (0, 0) N1 K) ∧ ((ow_and (ow_shr (N1 83 23) r1) 1) = 1 → K 4 N1))) ∧ (r1 < 0 → K 1 N1))) : ow_Sp C (EM A L N) (d + 1) mX12_clause (0, 0) [(3, 83)] M K := ow_enter (by decide +kernel) rfl rfl (cX12_clause_0 h)
set_option maxRecDepth 20000 in
theorem cX12_readText_0 {C : ow_C} {A L N : Int} {d : Nat} {M : ow_M} {K : Int → ow_M → Prop} (h : ow_I (680 * (M 84 0)) ∧ ∀ N1, N1 = ow_up M 83 15 (680 * (M 84 0)) → (0 ≤ (N1 83 15) ∧ (N1 83 15) < 2720) ∧ ∀ N2, N2 = ow_up N1 86 (N1 83 15) 0 → ∀ N3, N3 = ow_up N2 83 17 0 → ∀ N4, N4 = ow_up N3 83 21 0 → ∀ N5, N5 = ow_up N4 83 23 0 → ∀ N6, N6 = ow_up N5 83 10 0 → ow_Sp C (EM A L N) d mX12_nextToken (0, 0) [(3, 83)] N6 (fun r7 N7 => ow_At C (EM A L N) (d + 1) mX12_readText 48 [(0, (3, 83))] [] (0, 0) N7 K)) : ow_At C (EM A L N) (d + 1) mX12_readText 0 [(0, (3, 83))] [] (0, 0) M K := by
  refine ow_aload_n (pc' := 1) (x := 83) dX12_readText_0 rfl rfl ?_
  refine ow_sipush (pc' := 4) (n := 680) dX12_readText_1 rfl rfl ?_
  refine ow_aload_n (pc' := 5) (x := 83) dX12_readText_4 rfl rfl ?_
  refine ow_getf3 (pc' := 8) (t := 3) (ji := 0) (val := 84) dX12_readText_5 fRX12_7 rfl rfl rfl (of_eq_true eo83) eg83_0 ?_
  refine ow_iconst (pc' := 9) (n := 0) dX12_readText_8 rfl rfl ?_
  refine ow_iaload3 (pc' := 10) (val := M 84 0) dX12_readText_9 rfl (Eq.mpr (er84 _) ⟨by decide, by decide⟩) (ea84 _) ?_
  obtain ⟨vv1, h⟩ := h
  refine ow_imul (pc' := 11) dX12_readText_10 vv1 rfl ?_
  refine ow_putf2 (pc' := 14) (t := 0) (ji := 15) dX12_readText_11 fRX12_150 rfl rfl rfl rfl (of_eq_true eo83) (of_eq_true en83_15) (fun hz => absurd hz (by decide)) (fun N1 eN1 => ?_)
  have h := h N1 eN1
  refine ow_aload_n (pc' := 15) (x := 83) dX12_readText_14 rfl rfl ?_
  refine ow_getf3 (pc' := 18) (t := 3) (ji := 5) (val := 86) dX12_readText_15 fRX12_16 rfl rfl rfl (of_eq_true eo83) eg83_5 ?_
  refine ow_aload_n (pc' := 19) (x := 83) dX12_readText_18 rfl rfl ?_
  refine ow_getf3 (pc' := 22) (t := 0) (ji := 15) (val := N1 83 15) dX12_readText_19 fRX12_150 rfl rfl rfl (of_eq_true eo83) eg83_15 ?_
  refine ow_iconst (pc' := 23) (n := 0) dX12_readText_22 rfl rfl ?_
  obtain ⟨vv2, h⟩ := h
  refine ow_iastore2 (pc' := 24) dX12_readText_23 rfl (Eq.mpr (er86 _) vv2) (of_eq_true (en86 _)) (fun N2 eN2 => ?_)
  have h := h N2 eN2
  refine ow_aload_n (pc' := 25) (x := 83) dX12_readText_24 rfl rfl ?_
  refine ow_iconst (pc' := 26) (n := 0) dX12_readText_25 rfl rfl ?_
  refine ow_putf2 (pc' := 29) (t := 0) (ji := 17) dX12_readText_26 fRX12_153 rfl rfl rfl rfl (of_eq_true eo83) (of_eq_true en83_17) (fun hz => absurd hz (by decide)) (fun N3 eN3 => ?_)
  have h := h N3 eN3
  refine ow_aload_n (pc' := 30) (x := 83) dX12_readText_29 rfl rfl ?_
  refine ow_iconst (pc' := 31) (n := 0) dX12_readText_30 rfl rfl ?_
  refine ow_putf2 (pc' := 34) (t := 0) (ji := 21) dX12_readText_31 fRX12_163 rfl rfl rfl rfl (of_eq_true eo83) (of_eq_true en83_21) (fun hz => absurd hz (by decide)) (fun N4 eN4 => ?_)
  have h := h N4 eN4
  refine ow_aload_n (pc' := 35) (x := 83) dX12_readText_34 rfl rfl ?_
  refine ow_iconst (pc' := 36) (n := 0) dX12_readText_35 rfl rfl ?_
  refine ow_putf2 (pc' := 39) (t := 0) (ji := 23) dX12_readText_36 fRX12_234 rfl rfl rfl rfl (of_eq_true eo83) (of_eq_true en83_23) (fun hz => absurd hz (by decide)) (fun N5 eN5 => ?_)
  have h := h N5 eN5
  refine ow_aload_n (pc' := 40) (x := 83) dX12_readText_39 rfl rfl ?_
  refine ow_iconst (pc' := 41) (n := 0) dX12_readText_40 rfl rfl ?_
  refine ow_putf2 (pc' := 44) (t := 0) (ji := 10) dX12_readText_41 fRX12_116 rfl rfl rfl rfl (of_eq_true eo83) (of_eq_true en83_10) (fun hz => absurd hz (by decide)) (fun N6 eN6 => ?_)
  have h := h N6 eN6
  refine ow_aload_n (pc' := 45) (x := 83) dX12_readText_44 rfl rfl ?_
  refine ow_callVv (z := mX12_nextToken) (n := 0) (k := 12) (vs := []) (x := 83) (st := []) (pc' := 48) (b1 := (0, 0)) (b2 := (0, 0)) dX12_readText_45 lRX12_174 kX12_nextToken iX12_nextToken rfl rfl rfl rfl rfl rfl (of_eq_true eo83) (ow_Sp.mono h (fun r7 N7 h => ?_))
  exact h
set_option maxRecDepth 20000 in
theorem cX12_readText_48 {C : ow_C} {A L N : Int} {d : Nat} {M : ow_M} {K : Int → ow_M → Prop} (h : ((M 83 12) = 0 → K 0 M) ∧ ((M 83 12) ≠ 0 → ow_Sp C (EM A L N) d mX12_clause (0, 0) [(3, 83)] M (fun r1 N1 => (r1 = 0 → ow_At C (EM A L N) (d + 1) mX12_readText 48 [(0, (3, 83))] [] (0, 0) N1 K) ∧ (r1 ≠ 0 → K r1 N1)))) : ow_At C (EM A L N) (d + 1) mX12_readText 48 [(0, (3, 83))] [] (0, 0) M K := by
  refine ow_aload_n (pc' := 49) (x := 83) dX12_readText_48 rfl rfl ?_
  refine ow_getf3 (pc' := 52) (t := 0) (ji := 12) (val := M 83 12) dX12_readText_49 fRX12_125 rfl rfl rfl (of_eq_true eo83) eg83_12 ?_
  refine ow_ifeq (pc' := 55) (tg := 69) dX12_readText_52 rfl rfl (fun hc => ?_) (fun hc => ?_)
  · have h := h.1 hc
    refine ow_iconst (pc' := 70) (n := 0) dX12_readText_69 rfl rfl ?_
    exact ow_iret dX12_readText_70 rfl rfl h
  · have h := h.2 hc
    refine ow_aload_n (pc' := 56) (x := 83) dX12_readText_55 rfl rfl ?_
    refine ow_callVp (z := mX12_clause) (n := 0) (k := 12) (vs := []) (x := 83) (st := []) (pc' := 59) (b1 := (0, 0)) (b2 := (0, 0)) dX12_readText_56 lRX12_246 kX12_clause iX12_clause rfl rfl rfl rfl rfl rfl (of_eq_true eo83) (ow_Sp.mono h (fun r1 N1 h => ?_))
    refine ow_istore_n (pc' := 60) (lv' := [(0, (3, 83)), (1, (0, r1))]) dX12_readText_59 rfl rfl rfl ?_
    refine ow_iload_n (pc' := 61) (x := r1) dX12_readText_60 rfl rfl ?_
    refine ow_ifeq (pc' := 64) (tg := 66) dX12_readText_61 rfl rfl (fun hc => ?_) (fun hc => ?_)
    · have h := h.1 hc
      refine ow_goto (tg := 48) dX12_readText_66 rfl ?_
      refine ow_sub (lv' := [(0, (3, 83))]) [0] rfl ?_
      exact h
    · have h := h.2 hc
      refine ow_iload_n (pc' := 65) (x := r1) dX12_readText_64 rfl rfl ?_
      exact ow_iret dX12_readText_65 rfl rfl h
theorem fX12_readText {C : ow_C} {A L N : Int} {d : Nat} {M : ow_M} {K : Int → ow_M → Prop} (h : ow_I (680 * (M 84 0)) ∧ ∀ N1, N1 = ow_up M 83 15 (680 * (M 84 0)) → (0 ≤ (N1 83 15) ∧ (N1 83 15) < 2720) ∧ ∀ N2, N2 = ow_up N1 86 (N1 83 15) 0 → ∀ N3, N3 = ow_up N2 83 17 0 → ∀ N4, N4 = ow_up N3 83 21 0 → ∀ N5, N5 = ow_up N4 83 23 0 → ∀ N6, N6 = ow_up N5 83 10 0 → ow_Sp C (EM A L N) d mX12_nextToken (0, 0) [(3, 83)] N6 (fun r7 N7 => ow_At C (EM A L N) (d + 1) mX12_readText 48 [(0, (3, 83))] [] (0, 0) N7 K)) : ow_Sp C (EM A L N) (d + 1) mX12_readText (0, 0) [(3, 83)] M K := ow_enter (by decide +kernel) rfl rfl (cX12_readText_0 h)
set_option maxRecDepth 20000 in
theorem cX12_text_0 {C : ow_C} {A L N : Int} {d : Nat} {M : ow_M} {K : Int → ow_M → Prop} (h : ((M 84 0) ≠ 4 → ow_Sp C (EM A L N) d mX12_readText (0, 0) [(3, 83)] M (fun r1 N1 => ∀ N2, N2 = ow_up N1 83 8 r1 → ((N2 83 8) ≠ 0 → ow_At C (EM A L N) (d + 1) mX12_text 36 [(0, (3, 83))] [(0, N2 83 11), (3, 83)] (0, 0) N2 K) ∧ ((N2 83 8) = 0 → ow_At C (EM A L N) (d + 1) mX12_text 36 [(0, (3, 83))] [(0, (-1)), (3, 83)] (0, 0) N2 K))) ∧ ((M 84 0) = 4 → K ((-1)) M)) : ow_At C (EM A L N) (d + 1) mX12_text 0 [(0, (3, 83))] [] (0, 0) M K := by
  refine ow_aload_n (pc' := 1) (x := 83) dX12_text_0 rfl rfl ?_
  refine ow_getf3 (pc' := 4) (t := 3) (ji := 0) (val := 84) dX12_text_1 fRX12_7 rfl rfl rfl (of_eq_true eo83) eg83_0 ?_
  refine ow_iconst (pc' := 5) (n := 0) dX12_text_4 rfl rfl ?_
  refine ow_iaload3 (pc' := 6) (val := M 84 0) dX12_text_5 rfl (Eq.mpr (er84 _) ⟨by decide, by decide⟩) (ea84 _) ?_
  refine ow_iconst (pc' := 7) (n := 4) dX12_text_6 rfl rfl ?_
  refine ow_icmpne (pc' := 10) (tg := 12) dX12_text_7 rfl rfl (fun hc => ?_) (fun hc => ?_)
  · have h := h.1 hc
    refine ow_aload_n (pc' := 13) (x := 83) dX12_text_12 rfl rfl ?_
    refine ow_aload_n (pc' := 14) (x := 83) dX12_text_13 rfl rfl ?_
    refine ow_callVp (z := mX12_readText) (n := 0) (k := 12) (vs := []) (x := 83) (st := [(3, 83)]) (pc' := 17) (b1 := (0, 0)) (b2 := (0, 0)) dX12_text_14 lRX12_249 kX12_readText iX12_readText rfl rfl rfl rfl rfl rfl (of_eq_true eo83) (ow_Sp.mono h (fun r1 N1 h => ?_))
    refine ow_putf2 (pc' := 20) (t := 0) (ji := 8) dX12_text_17 fRX12_22 rfl rfl rfl rfl (of_eq_true eo83) (of_eq_true en83_8) (fun hz => absurd hz (by decide)) (fun N2 eN2 => ?_)
    have h := h N2 eN2
    refine ow_aload_n (pc' := 21) (x := 83) dX12_text_20 rfl rfl ?_
    refine ow_aload_n (pc' := 22) (x := 83) dX12_text_21 rfl rfl ?_
    refine ow_getf3 (pc' := 25) (t := 0) (ji := 8) (val := N2 83 8) dX12_text_22 fRX12_22 rfl rfl rfl (of_eq_true eo83) eg83_8 ?_
    refine ow_ifne (pc' := 28) (tg := 32) dX12_text_25 rfl rfl (fun hc => ?_) (fun hc => ?_)
    · have h := h.1 hc
      refine ow_aload_n (pc' := 33) (x := 83) dX12_text_32 rfl rfl ?_
      refine ow_getf3 (pc' := 36) (t := 0) (ji := 11) (val := N2 83 11) dX12_text_33 fRX12_122 rfl rfl rfl (of_eq_true eo83) eg83_11 ?_
      exact h
    · have h := h.2 hc
      refine ow_iconst (pc' := 29) (n := (-1)) dX12_text_28 rfl rfl ?_
      refine ow_goto (tg := 36) dX12_text_29 rfl ?_
      exact h
  · have h := h.2 hc
    refine ow_iconst (pc' := 11) (n := (-1)) dX12_text_10 rfl rfl ?_
    exact ow_iret dX12_text_11 rfl rfl h
set_option maxRecDepth 20000 in
theorem cX12_text_36 {C : ow_C} {A L N : Int} {d : Nat} {M : ow_M} {K : Int → ow_M → Prop} {s0 : Int} (h : ∀ N1, N1 = ow_up M 83 9 s0 → ∀ N2, N2 = ow_up N1 83 7 0 → ((N2 83 8) = 0 → ow_I ((N2 84 0) + 1) ∧ ∀ N3, N3 = ow_up N2 84 0 ((N2 84 0) + 1) → ow_I ((N3 84 0) - 1) ∧ K ((N3 84 0) - 1) N3) ∧ ((N2 83 8) ≠ 0 → K ((-1)) N2)) : ow_At C (EM A L N) (d + 1) mX12_text 36 [(0, (3, 83))] [(0, s0), (3, 83)] (0, 0) M K := by
  refine ow_putf2 (pc' := 39) (t := 0) (ji := 9) dX12_text_36 fRX12_26 rfl rfl rfl rfl (of_eq_true eo83) (of_eq_true en83_9) (fun hz => absurd hz (by decide)) (fun N1 eN1 => ?_)
  have h := h N1 eN1
  refine ow_aload_n (pc' := 40) (x := 83) dX12_text_39 rfl rfl ?_
  refine ow_iconst (pc' := 41) (n := 0) dX12_text_40 rfl rfl ?_
  refine ow_putf2 (pc' := 44) (t := 0) (ji := 7) dX12_text_41 fRX12_109 rfl rfl rfl rfl (of_eq_true eo83) (of_eq_true en83_7) (fun hz => absurd hz (by decide)) (fun N2 eN2 => ?_)
  have h := h N2 eN2
  refine ow_aload_n (pc' := 45) (x := 83) dX12_text_44 rfl rfl ?_
  refine ow_getf3 (pc' := 48) (t := 0) (ji := 8) (val := N2 83 8) dX12_text_45 fRX12_22 rfl rfl rfl (of_eq_true eo83) eg83_8 ?_
  refine ow_ifeq (pc' := 51) (tg := 53) dX12_text_48 rfl rfl (fun hc => ?_) (fun hc => ?_)
  · have h := h.1 hc
    refine ow_aload_n (pc' := 54) (x := 83) dX12_text_53 rfl rfl ?_
    refine ow_getf3 (pc' := 57) (t := 3) (ji := 0) (val := 84) dX12_text_54 fRX12_7 rfl rfl rfl (of_eq_true eo83) eg83_0 ?_
    refine ow_iconst (pc' := 58) (n := 0) dX12_text_57 rfl rfl ?_
    refine ow_dup2 (pc' := 59) dX12_text_58 rfl rfl rfl ?_
    refine ow_iaload3 (pc' := 60) (val := N2 84 0) dX12_text_59 rfl (Eq.mpr (er84 _) ⟨by decide, by decide⟩) (ea84 _) ?_
    refine ow_iconst (pc' := 61) (n := 1) dX12_text_60 rfl rfl ?_
    obtain ⟨vv1, h⟩ := h
    refine ow_iadd (pc' := 62) dX12_text_61 vv1 rfl ?_
    refine ow_iastore2 (pc' := 63) dX12_text_62 rfl (Eq.mpr (er84 _) ⟨by decide, by decide⟩) (of_eq_true (en84 _)) (fun N3 eN3 => ?_)
    have h := h N3 eN3
    refine ow_aload_n (pc' := 64) (x := 83) dX12_text_63 rfl rfl ?_
    refine ow_getf3 (pc' := 67) (t := 3) (ji := 0) (val := 84) dX12_text_64 fRX12_7 rfl rfl rfl (of_eq_true eo83) eg83_0 ?_
    refine ow_iconst (pc' := 68) (n := 0) dX12_text_67 rfl rfl ?_
    refine ow_iaload3 (pc' := 69) (val := N3 84 0) dX12_text_68 rfl (Eq.mpr (er84 _) ⟨by decide, by decide⟩) (ea84 _) ?_
    refine ow_iconst (pc' := 70) (n := 1) dX12_text_69 rfl rfl ?_
    obtain ⟨vv2, h⟩ := h
    refine ow_isub (pc' := 71) dX12_text_70 vv2 rfl ?_
    exact ow_iret dX12_text_71 rfl rfl h
  · have h := h.2 hc
    refine ow_iconst (pc' := 52) (n := (-1)) dX12_text_51 rfl rfl ?_
    exact ow_iret dX12_text_52 rfl rfl h
theorem fX12_text {C : ow_C} {A L N : Int} {d : Nat} {M : ow_M} {K : Int → ow_M → Prop} (h : ((M 84 0) ≠ 4 → ow_Sp C (EM A L N) d mX12_readText (0, 0) [(3, 83)] M (fun r1 N1 => ∀ N2, N2 = ow_up N1 83 8 r1 → ((N2 83 8) ≠ 0 → ow_At C (EM A L N) (d + 1) mX12_text 36 [(0, (3, 83))] [(0, N2 83 11), (3, 83)] (0, 0) N2 K) ∧ ((N2 83 8) = 0 → ow_At C (EM A L N) (d + 1) mX12_text 36 [(0, (3, 83))] [(0, (-1)), (3, 83)] (0, 0) N2 K))) ∧ ((M 84 0) = 4 → K ((-1)) M)) : ow_Sp C (EM A L N) (d + 1) mX12_text (0, 0) [(3, 83)] M K := ow_enter (by decide +kernel) rfl rfl (cX12_text_0 h)
set_option maxRecDepth 20000 in
theorem cX12_fault_0 {C : ow_C} {A L N : Int} {d : Nat} {M : ow_M} {K : Int → ow_M → Prop} {l1 : Int} (h : (l1 ≠ 0 → (l1 ≠ 1 → K ((-1)) M) ∧ (l1 = 1 → K (M 83 9) M)) ∧ (l1 = 0 → K (M 83 8) M)) : ow_At C (EM A L N) d mX12_fault 0 [(0, (3, 83)), (1, (0, l1))] [] (0, 0) M K := by
  refine ow_iload_n (pc' := 1) (x := l1) dX12_fault_0 rfl rfl ?_
  refine ow_ifne (pc' := 4) (tg := 11) dX12_fault_1 rfl rfl (fun hc => ?_) (fun hc => ?_)
  · have h := h.1 hc
    refine ow_iload_n (pc' := 12) (x := l1) dX12_fault_11 rfl rfl ?_
    refine ow_iconst (pc' := 13) (n := 1) dX12_fault_12 rfl rfl ?_
    refine ow_icmpne (pc' := 16) (tg := 23) dX12_fault_13 rfl rfl (fun hc => ?_) (fun hc => ?_)
    · have h := h.1 hc
      refine ow_iconst (pc' := 24) (n := (-1)) dX12_fault_23 rfl rfl ?_
      exact ow_iret dX12_fault_24 rfl rfl h
    · have h := h.2 hc
      refine ow_aload_n (pc' := 17) (x := 83) dX12_fault_16 rfl rfl ?_
      refine ow_getf3 (pc' := 20) (t := 0) (ji := 9) (val := M 83 9) dX12_fault_17 fRX12_26 rfl rfl rfl (of_eq_true eo83) eg83_9 ?_
      refine ow_goto (tg := 24) dX12_fault_20 rfl ?_
      exact ow_iret dX12_fault_24 rfl rfl h
  · have h := h.2 hc
    refine ow_aload_n (pc' := 5) (x := 83) dX12_fault_4 rfl rfl ?_
    refine ow_getf3 (pc' := 8) (t := 0) (ji := 8) (val := M 83 8) dX12_fault_5 fRX12_22 rfl rfl rfl (of_eq_true eo83) eg83_8 ?_
    refine ow_goto (tg := 24) dX12_fault_8 rfl ?_
    exact ow_iret dX12_fault_24 rfl rfl h
theorem fX12_fault {C : ow_C} {A L N : Int} {d : Nat} {M : ow_M} {K : Int → ow_M → Prop} {l1 : Int} (h : (l1 ≠ 0 → (l1 ≠ 1 → K ((-1)) M) ∧ (l1 = 1 → K (M 83 9) M)) ∧ (l1 = 0 → K (M 83 8) M)) : ow_Sp C (EM A L N) d mX12_fault (0, 0) [(3, 83), (0, l1)] M K := ow_enter (by decide +kernel) rfl rfl (cX12_fault_0 h)
set_option maxRecDepth 20000 in
theorem cX12_by_0 {C : ow_C} {A L N : Int} {d : Nat} {M : ow_M} {K : Int → ow_M → Prop} {l1 : Int} (h : ow_I ((M 84 0) - 1) ∧ ow_Sp C (EM A L N) d mX12_isIn (0, 0) [(0, l1), (0, (-1)), (0, (M 84 0) - 1)] M (fun r1 N1 => (r1 ≠ 0 → ∀ N2, N2 = ow_up N1 84 1 l1 → K 1 N2) ∧ (r1 = 0 → K 0 N1))) : ow_At C (EM A L N) (d + 1) mX12_by 0 [(0, (3, 83)), (1, (0, l1))] [] (0, 0) M K := by
  refine ow_iload_n (pc' := 1) (x := l1) dX12_by_0 rfl rfl ?_
  refine ow_iconst (pc' := 2) (n := (-1)) dX12_by_1 rfl rfl ?_
  refine ow_aload_n (pc' := 3) (x := 83) dX12_by_2 rfl rfl ?_
  refine ow_getf3 (pc' := 6) (t := 3) (ji := 0) (val := 84) dX12_by_3 fRX12_7 rfl rfl rfl (of_eq_true eo83) eg83_0 ?_
  refine ow_iconst (pc' := 7) (n := 0) dX12_by_6 rfl rfl ?_
  refine ow_iaload3 (pc' := 8) (val := M 84 0) dX12_by_7 rfl (Eq.mpr (er84 _) ⟨by decide, by decide⟩) (ea84 _) ?_
  refine ow_iconst (pc' := 9) (n := 1) dX12_by_8 rfl rfl ?_
  obtain ⟨vv1, h⟩ := h
  refine ow_isub (pc' := 10) dX12_by_9 vv1 rfl ?_
  refine ow_callSp (z := mX12_isIn) (n := 3) (vs := [(0, l1), (0, (-1)), (0, (M 84 0) - 1)]) (st := []) (pc' := 13) (b1 := (0, 0)) (b2 := (0, 0)) dX12_by_10 lRX12_91 kX12_isIn zX12_isIn rfl rfl rfl rfl rfl rfl (ow_Sp.mono h (fun r1 N1 h => ?_))
  refine ow_ifne (pc' := 16) (tg := 18) dX12_by_13 rfl rfl (fun hc => ?_) (fun hc => ?_)
  · have h := h.1 hc
    refine ow_aload_n (pc' := 19) (x := 83) dX12_by_18 rfl rfl ?_
    refine ow_getf3 (pc' := 22) (t := 3) (ji := 0) (val := 84) dX12_by_19 fRX12_7 rfl rfl rfl (of_eq_true eo83) eg83_0 ?_
    refine ow_iconst (pc' := 23) (n := 1) dX12_by_22 rfl rfl ?_
    refine ow_iload_n (pc' := 24) (x := l1) dX12_by_23 rfl rfl ?_
    refine ow_iastore2 (pc' := 25) dX12_by_24 rfl (Eq.mpr (er84 _) ⟨by decide, by decide⟩) (of_eq_true (en84 _)) (fun N2 eN2 => ?_)
    have h := h N2 eN2
    refine ow_iconst (pc' := 26) (n := 1) dX12_by_25 rfl rfl ?_
    exact ow_zret dX12_by_26 rfl rfl (Or.inr rfl) h
  · have h := h.2 hc
    refine ow_iconst (pc' := 17) (n := 0) dX12_by_16 rfl rfl ?_
    exact ow_zret dX12_by_17 rfl rfl (Or.inl rfl) h
theorem fX12_by {C : ow_C} {A L N : Int} {d : Nat} {M : ow_M} {K : Int → ow_M → Prop} {l1 : Int} (h : ow_I ((M 84 0) - 1) ∧ ow_Sp C (EM A L N) d mX12_isIn (0, 0) [(0, l1), (0, (-1)), (0, (M 84 0) - 1)] M (fun r1 N1 => (r1 ≠ 0 → ∀ N2, N2 = ow_up N1 84 1 l1 → K 1 N2) ∧ (r1 = 0 → K 0 N1))) : ow_Sp C (EM A L N) (d + 1) mX12_by (0, 0) [(3, 83), (0, l1)] M K := ow_enter (by decide +kernel) rfl rfl (cX12_by_0 h)
set_option maxRecDepth 20000 in
theorem cX12_filled_0 {C : ow_C} {A L N : Int} {d : Nat} {M : ow_M} {K : Int → ow_M → Prop} {l1 : Int} (h : ow_I ((M 84 0) - 1) ∧ ow_Sp C (EM A L N) d mX12_isIn (0, 0) [(0, l1), (0, 0), (0, (M 84 0) - 1)] M (fun r1 N1 => (r1 ≠ 0 → ow_At C (EM A L N) (d + 1) mX12_filled 22 [(0, (3, 83)), (1, (0, l1)), (2, (0, 0)), (3, (0, 0))] [] (0, 0) N1 K) ∧ (r1 = 0 → K ((-1)) N1))) : ow_At C (EM A L N) (d + 1) mX12_filled 0 [(0, (3, 83)), (1, (0, l1))] [] (0, 0) M K := by
  refine ow_iload_n (pc' := 1) (x := l1) dX12_filled_0 rfl rfl ?_
  refine ow_iconst (pc' := 2) (n := 0) dX12_filled_1 rfl rfl ?_
  refine ow_aload_n (pc' := 3) (x := 83) dX12_filled_2 rfl rfl ?_
  refine ow_getf3 (pc' := 6) (t := 3) (ji := 0) (val := 84) dX12_filled_3 fRX12_7 rfl rfl rfl (of_eq_true eo83) eg83_0 ?_
  refine ow_iconst (pc' := 7) (n := 0) dX12_filled_6 rfl rfl ?_
  refine ow_iaload3 (pc' := 8) (val := M 84 0) dX12_filled_7 rfl (Eq.mpr (er84 _) ⟨by decide, by decide⟩) (ea84 _) ?_
  refine ow_iconst (pc' := 9) (n := 1) dX12_filled_8 rfl rfl ?_
  obtain ⟨vv1, h⟩ := h
  refine ow_isub (pc' := 10) dX12_filled_9 vv1 rfl ?_
  refine ow_callSp (z := mX12_isIn) (n := 3) (vs := [(0, l1), (0, 0), (0, (M 84 0) - 1)]) (st := []) (pc' := 13) (b1 := (0, 0)) (b2 := (0, 0)) dX12_filled_10 lRX12_91 kX12_isIn zX12_isIn rfl rfl rfl rfl rfl rfl (ow_Sp.mono h (fun r1 N1 h => ?_))
  refine ow_ifne (pc' := 16) (tg := 18) dX12_filled_13 rfl rfl (fun hc => ?_) (fun hc => ?_)
  · have h := h.1 hc
    refine ow_iconst (pc' := 19) (n := 0) dX12_filled_18 rfl rfl ?_
    refine ow_istore_n (pc' := 20) (lv' := [(0, (3, 83)), (1, (0, l1)), (2, (0, 0))]) dX12_filled_19 rfl rfl rfl ?_
    refine ow_iconst (pc' := 21) (n := 0) dX12_filled_20 rfl rfl ?_
    refine ow_istore_n (pc' := 22) (lv' := [(0, (3, 83)), (1, (0, l1)), (2, (0, 0)), (3, (0, 0))]) dX12_filled_21 rfl rfl rfl ?_
    exact h
  · have h := h.2 hc
    refine ow_iconst (pc' := 17) (n := (-1)) dX12_filled_16 rfl rfl ?_
    exact ow_iret dX12_filled_17 rfl rfl h
set_option maxRecDepth 20000 in
theorem cX12_filled_22 {C : ow_C} {A L N : Int} {d : Nat} {M : ow_M} {K : Int → ow_M → Prop} {l1 l2 l3 : Int} (h : ow_I (680 * l1) ∧ (0 ≤ (680 * l1) ∧ (680 * l1) < 2720) ∧ ((M 86 (680 * l1)) ≤ l3 → K l2 M) ∧ (l3 < (M 86 (680 * l1)) → ow_I ((680 * l1) + 1) ∧ ow_I (3 * l3) ∧ ow_I (((680 * l1) + 1) + (3 * l3)) ∧ (0 ≤ (((680 * l1) + 1) + (3 * l3)) ∧ (((680 * l1) + 1) + (3 * l3)) < 2720) ∧ ((M 86 (((680 * l1) + 1) + (3 * l3))) ≠ 2 → ow_I (l3 + 1) ∧ ow_At C (EM A L N) (d + 1) mX12_filled 22 [(0, (3, 83)), (1, (0, l1)), (2, (0, l2)), (3, (0, l3 + 1))] [] (0, 0) M K) ∧ ((M 86 (((680 * l1) + 1) + (3 * l3))) = 2 → ow_I ((((680 * l1) + 1) + (3 * l3)) + 1) ∧ (0 ≤ ((((680 * l1) + 1) + (3 * l3)) + 1) ∧ ((((680 * l1) + 1) + (3 * l3)) + 1) < 2720) ∧ ow_I ((((680 * l1) + 1) + (3 * l3)) + 2) ∧ (0 ≤ ((((680 * l1) + 1) + (3 * l3)) + 2) ∧ ((((680 * l1) + 1) + (3 * l3)) + 2) < 2720) ∧ ow_Sp C (EM A L N) d mX12_put (0, 0) [(3, 83), (0, M 86 ((((680 * l1) + 1) + (3 * l3)) + 1)), (0, M 86 ((((680 * l1) + 1) + (3 * l3)) + 2))] M (fun r1 N1 => (r1 < 0 → ow_I (l3 + 1) ∧ ow_At C (EM A L N) (d + 1) mX12_filled 22 [(0, (3, 83)), (1, (0, l1)), (2, (0, l2)), (3, (0, l3 + 1))] [] (0, 0) N1 K) ∧ (0 ≤ r1 → ow_I (l2 + 1) ∧ ow_I (l3 + 1) ∧ ow_At C (EM A L N) (d + 1) mX12_filled 22 [(0, (3, 83)), (1, (0, l1)), (2, (0, l2 + 1)), (3, (0, l3 + 1))] [] (0, 0) N1 K))))) : ow_At C (EM A L N) (d + 1) mX12_filled 22 [(0, (3, 83)), (1, (0, l1)), (2, (0, l2)), (3, (0, l3))] [] (0, 0) M K := by
  refine ow_iload_n (pc' := 23) (x := l3) dX12_filled_22 rfl rfl ?_
  refine ow_aload_n (pc' := 24) (x := 83) dX12_filled_23 rfl rfl ?_
  refine ow_getf3 (pc' := 27) (t := 3) (ji := 5) (val := 86) dX12_filled_24 fRX12_16 rfl rfl rfl (of_eq_true eo83) eg83_5 ?_
  refine ow_sipush (pc' := 30) (n := 680) dX12_filled_27 rfl rfl ?_
  refine ow_iload_n (pc' := 31) (x := l1) dX12_filled_30 rfl rfl ?_
  obtain ⟨vv1, h⟩ := h
  refine ow_imul (pc' := 32) dX12_filled_31 vv1 rfl ?_
  obtain ⟨vv2, h⟩ := h
  refine ow_iaload3 (pc' := 33) (val := M 86 (680 * l1)) dX12_filled_32 rfl (Eq.mpr (er86 _) vv2) (ea86 _) ?_
  refine ow_icmpge (pc' := 36) (tg := 94) dX12_filled_33 rfl rfl (fun hc => ?_) (fun hc => ?_)
  · have h := h.1 hc
    refine ow_iload_n (pc' := 95) (x := l2) dX12_filled_94 rfl rfl ?_
    exact ow_iret dX12_filled_95 rfl rfl h
  · have h := h.2 hc
    refine ow_sipush (pc' := 39) (n := 680) dX12_filled_36 rfl rfl ?_
    refine ow_iload_n (pc' := 40) (x := l1) dX12_filled_39 rfl rfl ?_
    refine ow_imul (pc' := 41) dX12_filled_40 vv1 rfl ?_
    refine ow_iconst (pc' := 42) (n := 1) dX12_filled_41 rfl rfl ?_
    obtain ⟨vv3, h⟩ := h
    refine ow_iadd (pc' := 43) dX12_filled_42 vv3 rfl ?_
    refine ow_iconst (pc' := 44) (n := 3) dX12_filled_43 rfl rfl ?_
    refine ow_iload_n (pc' := 45) (x := l3) dX12_filled_44 rfl rfl ?_
    obtain ⟨vv4, h⟩ := h
    refine ow_imul (pc' := 46) dX12_filled_45 vv4 rfl ?_
    obtain ⟨vv5, h⟩ := h
    refine ow_iadd (pc' := 47) dX12_filled_46 vv5 rfl ?_
    refine ow_istore (pc' := 49) (lv' := [(0, (3, 83)), (1, (0, l1)), (2, (0, l2)), (3, (0, l3)), (4, (0, ((680 * l1) + 1) + (3 * l3)))]) dX12_filled_47 rfl rfl rfl ?_
    refine ow_aload_n (pc' := 50) (x := 83) dX12_filled_49 rfl rfl ?_
    refine ow_getf3 (pc' := 53) (t := 3) (ji := 5) (val := 86) dX12_filled_50 fRX12_16 rfl rfl rfl (of_eq_true eo83) eg83_5 ?_
    refine ow_iload (pc' := 55) (x := ((680 * l1) + 1) + (3 * l3)) dX12_filled_53 rfl rfl ?_
    obtain ⟨vv6, h⟩ := h
    refine ow_iaload3 (pc' := 56) (val := M 86 (((680 * l1) + 1) + (3 * l3))) dX12_filled_55 rfl (Eq.mpr (er86 _) vv6) (ea86 _) ?_
    refine ow_iconst (pc' := 57) (n := 2) dX12_filled_56 rfl rfl ?_
    refine ow_icmpne (pc' := 60) (tg := 88) dX12_filled_57 rfl rfl (fun hc => ?_) (fun hc => ?_)
    · have h := h.1 hc
      obtain ⟨vv7, h⟩ := h
      refine ow_iinc (pc' := 91) (lv' := [(0, (3, 83)), (1, (0, l1)), (2, (0, l2)), (3, (0, l3 + 1)), (4, (0, ((680 * l1) + 1) + (3 * l3)))]) dX12_filled_88 rfl vv7 rfl rfl rfl ?_
      refine ow_goto (tg := 22) dX12_filled_91 rfl ?_
      refine ow_sub (lv' := [(0, (3, 83)), (1, (0, l1)), (2, (0, l2)), (3, (0, l3 + 1))]) [0, 1, 2, 3] rfl ?_
      exact h
    · have h := h.2 hc
      refine ow_aload_n (pc' := 61) (x := 83) dX12_filled_60 rfl rfl ?_
      refine ow_aload_n (pc' := 62) (x := 83) dX12_filled_61 rfl rfl ?_
      refine ow_getf3 (pc' := 65) (t := 3) (ji := 5) (val := 86) dX12_filled_62 fRX12_16 rfl rfl rfl (of_eq_true eo83) eg83_5 ?_
      refine ow_iload (pc' := 67) (x := ((680 * l1) + 1) + (3 * l3)) dX12_filled_65 rfl rfl ?_
      refine ow_iconst (pc' := 68) (n := 1) dX12_filled_67 rfl rfl ?_
      obtain ⟨vv8, h⟩ := h
      refine ow_iadd (pc' := 69) dX12_filled_68 vv8 rfl ?_
      obtain ⟨vv9, h⟩ := h
      refine ow_iaload3 (pc' := 70) (val := M 86 ((((680 * l1) + 1) + (3 * l3)) + 1)) dX12_filled_69 rfl (Eq.mpr (er86 _) vv9) (ea86 _) ?_
      refine ow_aload_n (pc' := 71) (x := 83) dX12_filled_70 rfl rfl ?_
      refine ow_getf3 (pc' := 74) (t := 3) (ji := 5) (val := 86) dX12_filled_71 fRX12_16 rfl rfl rfl (of_eq_true eo83) eg83_5 ?_
      refine ow_iload (pc' := 76) (x := ((680 * l1) + 1) + (3 * l3)) dX12_filled_74 rfl rfl ?_
      refine ow_iconst (pc' := 77) (n := 2) dX12_filled_76 rfl rfl ?_
      obtain ⟨vv10, h⟩ := h
      refine ow_iadd (pc' := 78) dX12_filled_77 vv10 rfl ?_
      obtain ⟨vv11, h⟩ := h
      refine ow_iaload3 (pc' := 79) (val := M 86 ((((680 * l1) + 1) + (3 * l3)) + 2)) dX12_filled_78 rfl (Eq.mpr (er86 _) vv11) (ea86 _) ?_
      refine ow_callVp (z := mX12_put) (n := 2) (k := 12) (vs := [(0, M 86 ((((680 * l1) + 1) + (3 * l3)) + 1)), (0, M 86 ((((680 * l1) + 1) + (3 * l3)) + 2))]) (x := 83) (st := []) (pc' := 82) (b1 := (0, 0)) (b2 := (0, 0)) dX12_filled_79 lRX12_252 kX12_put iX12_put rfl rfl rfl rfl rfl rfl (of_eq_true eo83) (ow_Sp.mono h (fun r1 N1 h => ?_))
      refine ow_iflt (pc' := 85) (tg := 88) dX12_filled_82 rfl rfl (fun hc => ?_) (fun hc => ?_)
      · have h := h.1 hc
        obtain ⟨vv12, h⟩ := h
        refine ow_iinc (pc' := 91) (lv' := [(0, (3, 83)), (1, (0, l1)), (2, (0, l2)), (3, (0, l3 + 1)), (4, (0, ((680 * l1) + 1) + (3 * l3)))]) dX12_filled_88 rfl vv12 rfl rfl rfl ?_
        refine ow_goto (tg := 22) dX12_filled_91 rfl ?_
        refine ow_sub (lv' := [(0, (3, 83)), (1, (0, l1)), (2, (0, l2)), (3, (0, l3 + 1))]) [0, 1, 2, 3] rfl ?_
        exact h
      · have h := h.2 hc
        obtain ⟨vv13, h⟩ := h
        refine ow_iinc (pc' := 88) (lv' := [(0, (3, 83)), (1, (0, l1)), (2, (0, l2 + 1)), (3, (0, l3)), (4, (0, ((680 * l1) + 1) + (3 * l3)))]) dX12_filled_85 rfl vv13 rfl rfl rfl ?_
        obtain ⟨vv14, h⟩ := h
        refine ow_iinc (pc' := 91) (lv' := [(0, (3, 83)), (1, (0, l1)), (2, (0, l2 + 1)), (3, (0, l3 + 1)), (4, (0, ((680 * l1) + 1) + (3 * l3)))]) dX12_filled_88 rfl vv14 rfl rfl rfl ?_
        refine ow_goto (tg := 22) dX12_filled_91 rfl ?_
        refine ow_sub (lv' := [(0, (3, 83)), (1, (0, l1)), (2, (0, l2 + 1)), (3, (0, l3 + 1))]) [0, 1, 2, 3] rfl ?_
        exact h
theorem fX12_filled {C : ow_C} {A L N : Int} {d : Nat} {M : ow_M} {K : Int → ow_M → Prop} {l1 : Int} (h : ow_I ((M 84 0) - 1) ∧ ow_Sp C (EM A L N) d mX12_isIn (0, 0) [(0, l1), (0, 0), (0, (M 84 0) - 1)] M (fun r1 N1 => (r1 ≠ 0 → ow_At C (EM A L N) (d + 1) mX12_filled 22 [(0, (3, 83)), (1, (0, l1)), (2, (0, 0)), (3, (0, 0))] [] (0, 0) N1 K) ∧ (r1 = 0 → K ((-1)) N1))) : ow_Sp C (EM A L N) (d + 1) mX12_filled (0, 0) [(3, 83), (0, l1)] M K := ow_enter (by decide +kernel) rfl rfl (cX12_filled_0 h)
set_option maxRecDepth 20000 in
theorem cX12_clip_0 {C : ow_C} {A L N : Int} {d : Nat} {M : ow_M} {K : Int → ow_M → Prop} {l0 : Int} (h : ((ow_lcmp l0 1000000) ≤ 0 → (0 ≤ (ow_lcmp l0 ((-1000000))) → K l0 M) ∧ ((ow_lcmp l0 ((-1000000))) < 0 → K ((-1000000)) M)) ∧ (0 < (ow_lcmp l0 1000000) → K 1000000 M)) : ow_At C (EM A L N) d mX12_clip 0 [(0, (1, l0))] [] (0, 0) M K := by
  refine ow_lload_n (pc' := 1) (x := l0) dX12_clip_0 rfl rfl ?_
  refine ow_ldc2 (pc' := 4) (n := 1000000) dX12_clip_1 cRX12_255 rfl rfl ?_
  refine ow_Lcmp (pc' := 5) dX12_clip_4 rfl ?_
  refine ow_ifle (pc' := 8) (tg := 14) dX12_clip_5 rfl rfl (fun hc => ?_) (fun hc => ?_)
  · have h := h.1 hc
    refine ow_lload_n (pc' := 15) (x := l0) dX12_clip_14 rfl rfl ?_
    refine ow_ldc2 (pc' := 18) (n := (-1000000)) dX12_clip_15 cRX12_257 rfl rfl ?_
    refine ow_Lcmp (pc' := 19) dX12_clip_18 rfl ?_
    refine ow_ifge (pc' := 22) (tg := 28) dX12_clip_19 rfl rfl (fun hc => ?_) (fun hc => ?_)
    · have h := h.1 hc
      refine ow_lload_n (pc' := 29) (x := l0) dX12_clip_28 rfl rfl ?_
      exact ow_lret dX12_clip_29 rfl rfl h
    · have h := h.2 hc
      refine ow_ldc2 (pc' := 25) (n := (-1000000)) dX12_clip_22 cRX12_257 rfl rfl ?_
      refine ow_goto (tg := 29) dX12_clip_25 rfl ?_
      exact ow_lret dX12_clip_29 rfl rfl h
  · have h := h.2 hc
    refine ow_ldc2 (pc' := 11) (n := 1000000) dX12_clip_8 cRX12_255 rfl rfl ?_
    refine ow_goto (tg := 29) dX12_clip_11 rfl ?_
    exact ow_lret dX12_clip_29 rfl rfl h
theorem fX12_clip {C : ow_C} {A L N : Int} {d : Nat} {M : ow_M} {K : Int → ow_M → Prop} {l0 : Int} (h : ((ow_lcmp l0 1000000) ≤ 0 → (0 ≤ (ow_lcmp l0 ((-1000000))) → K l0 M) ∧ ((ow_lcmp l0 ((-1000000))) < 0 → K ((-1000000)) M)) ∧ (0 < (ow_lcmp l0 1000000) → K 1000000 M)) : ow_Sp C (EM A L N) d mX12_clip (0, 0) [(1, l0)] M K := ow_enter (by decide +kernel) rfl rfl (cX12_clip_0 h)
set_option maxRecDepth 20000 in
theorem cX12_two_0 {C : ow_C} {A L N : Int} {d : Nat} {M : ow_M} {K : Int → ow_M → Prop} {l0 l1 l3 : Int} (h : (l0 = 3 → ow_L (l1 + l3) ∧ ow_Sp C (EM A L N) d mX12_clip (0, 0) [(1, l1 + l3)] M (fun r1 N1 => K r1 N1)) ∧ (l0 ≠ 3 → (l0 = 4 → ow_L (l1 - l3) ∧ ow_Sp C (EM A L N) d mX12_clip (0, 0) [(1, l1 - l3)] M (fun r2 N2 => K r2 N2)) ∧ (l0 ≠ 4 → (l0 = 5 → ow_L (l1 * l3) ∧ ow_Sp C (EM A L N) d mX12_clip (0, 0) [(1, l1 * l3)] M (fun r3 N3 => K r3 N3)) ∧ (l0 ≠ 5 → ((ow_lcmp l3 0) ≠ 0 → l3 ≠ 0 ∧ ow_L (Int.tdiv l1 l3) ∧ ow_Sp C (EM A L N) d mX12_clip (0, 0) [(1, Int.tdiv l1 l3)] M (fun r4 N4 => K r4 N4)) ∧ ((ow_lcmp l3 0) = 0 → K 0 M))))) : ow_At C (EM A L N) (d + 1) mX12_two 0 [(0, (0, l0)), (1, (1, l1)), (3, (1, l3))] [] (0, 0) M K := by
  refine ow_iload_n (pc' := 1) (x := l0) dX12_two_0 rfl rfl ?_
  refine ow_tsw (tbl := [(3, 28), (4, 35), (5, 42)]) (td := 49) dX12_two_1 rfl rfl rfl rfl ?_
  refine And.intro (fun hc => ?_) (fun hc => ?_)
  · have h := h.1 hc
    refine ow_lload_n (pc' := 29) (x := l1) dX12_two_28 rfl rfl ?_
    refine ow_lload_n (pc' := 30) (x := l3) dX12_two_29 rfl rfl ?_
    obtain ⟨vv1, h⟩ := h
    refine ow_ladd (pc' := 31) dX12_two_30 vv1 rfl ?_
    refine ow_callSp (z := mX12_clip) (n := 1) (vs := [(1, l1 + l3)]) (st := []) (pc' := 34) (b1 := (0, 0)) (b2 := (0, 0)) dX12_two_31 lRX12_259 kX12_clip zX12_clip rfl rfl rfl rfl rfl rfl (ow_Sp.mono h (fun r1 N1 h => ?_))
    exact ow_lret dX12_two_34 rfl rfl h
  have h := h.2 hc
  refine And.intro (fun hc => ?_) (fun hc => ?_)
  · have h := h.1 hc
    refine ow_lload_n (pc' := 36) (x := l1) dX12_two_35 rfl rfl ?_
    refine ow_lload_n (pc' := 37) (x := l3) dX12_two_36 rfl rfl ?_
    obtain ⟨vv2, h⟩ := h
    refine ow_lsub (pc' := 38) dX12_two_37 vv2 rfl ?_
    refine ow_callSp (z := mX12_clip) (n := 1) (vs := [(1, l1 - l3)]) (st := []) (pc' := 41) (b1 := (0, 0)) (b2 := (0, 0)) dX12_two_38 lRX12_259 kX12_clip zX12_clip rfl rfl rfl rfl rfl rfl (ow_Sp.mono h (fun r2 N2 h => ?_))
    exact ow_lret dX12_two_41 rfl rfl h
  have h := h.2 hc
  refine And.intro (fun hc => ?_) (fun hc => ?_)
  · have h := h.1 hc
    refine ow_lload_n (pc' := 43) (x := l1) dX12_two_42 rfl rfl ?_
    refine ow_lload_n (pc' := 44) (x := l3) dX12_two_43 rfl rfl ?_
    obtain ⟨vv3, h⟩ := h
    refine ow_lmul (pc' := 45) dX12_two_44 vv3 rfl ?_
    refine ow_callSp (z := mX12_clip) (n := 1) (vs := [(1, l1 * l3)]) (st := []) (pc' := 48) (b1 := (0, 0)) (b2 := (0, 0)) dX12_two_45 lRX12_259 kX12_clip zX12_clip rfl rfl rfl rfl rfl rfl (ow_Sp.mono h (fun r3 N3 h => ?_))
    exact ow_lret dX12_two_48 rfl rfl h
  have h := h.2 hc
  refine ow_lload_n (pc' := 50) (x := l3) dX12_two_49 rfl rfl ?_
  refine ow_lconst (pc' := 51) (i := 0) dX12_two_50 rfl rfl ?_
  refine ow_Lcmp (pc' := 52) dX12_two_51 rfl ?_
  refine ow_ifne (pc' := 55) (tg := 59) dX12_two_52 rfl rfl (fun hc => ?_) (fun hc => ?_)
  · have h := h.1 hc
    refine ow_lload_n (pc' := 60) (x := l1) dX12_two_59 rfl rfl ?_
    refine ow_lload_n (pc' := 61) (x := l3) dX12_two_60 rfl rfl ?_
    obtain ⟨w0, w, h⟩ := h
    refine ow_ldiv (pc' := 62) dX12_two_61 w0 w rfl ?_
    refine ow_callSp (z := mX12_clip) (n := 1) (vs := [(1, Int.tdiv l1 l3)]) (st := []) (pc' := 65) (b1 := (0, 0)) (b2 := (0, 0)) dX12_two_62 lRX12_259 kX12_clip zX12_clip rfl rfl rfl rfl rfl rfl (ow_Sp.mono h (fun r4 N4 h => ?_))
    exact ow_lret dX12_two_65 rfl rfl h
  · have h := h.2 hc
    refine ow_lconst (pc' := 56) (i := 0) dX12_two_55 rfl rfl ?_
    refine ow_goto (tg := 65) dX12_two_56 rfl ?_
    exact ow_lret dX12_two_65 rfl rfl h
theorem fX12_two {C : ow_C} {A L N : Int} {d : Nat} {M : ow_M} {K : Int → ow_M → Prop} {l0 l1 l3 : Int} (h : (l0 = 3 → ow_L (l1 + l3) ∧ ow_Sp C (EM A L N) d mX12_clip (0, 0) [(1, l1 + l3)] M (fun r1 N1 => K r1 N1)) ∧ (l0 ≠ 3 → (l0 = 4 → ow_L (l1 - l3) ∧ ow_Sp C (EM A L N) d mX12_clip (0, 0) [(1, l1 - l3)] M (fun r2 N2 => K r2 N2)) ∧ (l0 ≠ 4 → (l0 = 5 → ow_L (l1 * l3) ∧ ow_Sp C (EM A L N) d mX12_clip (0, 0) [(1, l1 * l3)] M (fun r3 N3 => K r3 N3)) ∧ (l0 ≠ 5 → ((ow_lcmp l3 0) ≠ 0 → l3 ≠ 0 ∧ ow_L (Int.tdiv l1 l3) ∧ ow_Sp C (EM A L N) d mX12_clip (0, 0) [(1, Int.tdiv l1 l3)] M (fun r4 N4 => K r4 N4)) ∧ ((ow_lcmp l3 0) = 0 → K 0 M))))) : ow_Sp C (EM A L N) (d + 1) mX12_two (0, 0) [(0, l0), (1, l1), (1, l3)] M K := ow_enter (by decide +kernel) rfl rfl (cX12_two_0 h)
set_option maxRecDepth 20000 in
theorem cX12_isAsked_0 {C : ow_C} {A L N : Int} {d : Nat} {M : ow_M} {K : Int → ow_M → Prop} {l0 l1 l3 : Int} (h : (l0 ≠ 10 → (l0 ≠ 11 → (l0 ≠ 12 → (l0 ≠ 13 → (l0 ≠ 14 → ((ow_lcmp l1 l3) = 0 → K 0 M) ∧ ((ow_lcmp l1 l3) ≠ 0 → K 1 M)) ∧ (l0 = 14 → ((ow_lcmp l1 l3) ≠ 0 → K 0 M) ∧ ((ow_lcmp l1 l3) = 0 → K 1 M))) ∧ (l0 = 13 → ((ow_lcmp l1 l3) < 0 → K 0 M) ∧ (0 ≤ (ow_lcmp l1 l3) → K 1 M))) ∧ (l0 = 12 → ((ow_lcmp l1 l3) ≤ 0 → K 0 M) ∧ (0 < (ow_lcmp l1 l3) → K 1 M))) ∧ (l0 = 11 → (0 < (ow_lcmp l1 l3) → K 0 M) ∧ ((ow_lcmp l1 l3) ≤ 0 → K 1 M))) ∧ (l0 = 10 → (0 ≤ (ow_lcmp l1 l3) → K 0 M) ∧ ((ow_lcmp l1 l3) < 0 → K 1 M))) : ow_At C (EM A L N) d mX12_isAsked 0 [(0, (0, l0)), (1, (1, l1)), (3, (1, l3))] [] (0, 0) M K := by
  refine ow_iload_n (pc' := 1) (x := l0) dX12_isAsked_0 rfl rfl ?_
  refine ow_bipush (pc' := 3) (n := 10) dX12_isAsked_1 rfl rfl ?_
  refine ow_icmpne (pc' := 6) (tg := 20) dX12_isAsked_3 rfl rfl (fun hc => ?_) (fun hc => ?_)
  · have h := h.1 hc
    refine ow_iload_n (pc' := 21) (x := l0) dX12_isAsked_20 rfl rfl ?_
    refine ow_bipush (pc' := 23) (n := 11) dX12_isAsked_21 rfl rfl ?_
    refine ow_icmpne (pc' := 26) (tg := 40) dX12_isAsked_23 rfl rfl (fun hc => ?_) (fun hc => ?_)
    · have h := h.1 hc
      refine ow_iload_n (pc' := 41) (x := l0) dX12_isAsked_40 rfl rfl ?_
      refine ow_bipush (pc' := 43) (n := 12) dX12_isAsked_41 rfl rfl ?_
      refine ow_icmpne (pc' := 46) (tg := 60) dX12_isAsked_43 rfl rfl (fun hc => ?_) (fun hc => ?_)
      · have h := h.1 hc
        refine ow_iload_n (pc' := 61) (x := l0) dX12_isAsked_60 rfl rfl ?_
        refine ow_bipush (pc' := 63) (n := 13) dX12_isAsked_61 rfl rfl ?_
        refine ow_icmpne (pc' := 66) (tg := 80) dX12_isAsked_63 rfl rfl (fun hc => ?_) (fun hc => ?_)
        · have h := h.1 hc
          refine ow_iload_n (pc' := 81) (x := l0) dX12_isAsked_80 rfl rfl ?_
          refine ow_bipush (pc' := 83) (n := 14) dX12_isAsked_81 rfl rfl ?_
          refine ow_icmpne (pc' := 86) (tg := 100) dX12_isAsked_83 rfl rfl (fun hc => ?_) (fun hc => ?_)
          · have h := h.1 hc
            refine ow_lload_n (pc' := 101) (x := l1) dX12_isAsked_100 rfl rfl ?_
            refine ow_lload_n (pc' := 102) (x := l3) dX12_isAsked_101 rfl rfl ?_
            refine ow_Lcmp (pc' := 103) dX12_isAsked_102 rfl ?_
            refine ow_ifeq (pc' := 106) (tg := 110) dX12_isAsked_103 rfl rfl (fun hc => ?_) (fun hc => ?_)
            · have h := h.1 hc
              refine ow_iconst (pc' := 111) (n := 0) dX12_isAsked_110 rfl rfl ?_
              exact ow_zret dX12_isAsked_111 rfl rfl (Or.inl rfl) h
            · have h := h.2 hc
              refine ow_iconst (pc' := 107) (n := 1) dX12_isAsked_106 rfl rfl ?_
              refine ow_goto (tg := 111) dX12_isAsked_107 rfl ?_
              exact ow_zret dX12_isAsked_111 rfl rfl (Or.inr rfl) h
          · have h := h.2 hc
            refine ow_lload_n (pc' := 87) (x := l1) dX12_isAsked_86 rfl rfl ?_
            refine ow_lload_n (pc' := 88) (x := l3) dX12_isAsked_87 rfl rfl ?_
            refine ow_Lcmp (pc' := 89) dX12_isAsked_88 rfl ?_
            refine ow_ifne (pc' := 92) (tg := 96) dX12_isAsked_89 rfl rfl (fun hc => ?_) (fun hc => ?_)
            · have h := h.1 hc
              refine ow_iconst (pc' := 97) (n := 0) dX12_isAsked_96 rfl rfl ?_
              refine ow_goto (tg := 111) dX12_isAsked_97 rfl ?_
              exact ow_zret dX12_isAsked_111 rfl rfl (Or.inl rfl) h
            · have h := h.2 hc
              refine ow_iconst (pc' := 93) (n := 1) dX12_isAsked_92 rfl rfl ?_
              refine ow_goto (tg := 111) dX12_isAsked_93 rfl ?_
              exact ow_zret dX12_isAsked_111 rfl rfl (Or.inr rfl) h
        · have h := h.2 hc
          refine ow_lload_n (pc' := 67) (x := l1) dX12_isAsked_66 rfl rfl ?_
          refine ow_lload_n (pc' := 68) (x := l3) dX12_isAsked_67 rfl rfl ?_
          refine ow_Lcmp (pc' := 69) dX12_isAsked_68 rfl ?_
          refine ow_iflt (pc' := 72) (tg := 76) dX12_isAsked_69 rfl rfl (fun hc => ?_) (fun hc => ?_)
          · have h := h.1 hc
            refine ow_iconst (pc' := 77) (n := 0) dX12_isAsked_76 rfl rfl ?_
            refine ow_goto (tg := 111) dX12_isAsked_77 rfl ?_
            exact ow_zret dX12_isAsked_111 rfl rfl (Or.inl rfl) h
          · have h := h.2 hc
            refine ow_iconst (pc' := 73) (n := 1) dX12_isAsked_72 rfl rfl ?_
            refine ow_goto (tg := 111) dX12_isAsked_73 rfl ?_
            exact ow_zret dX12_isAsked_111 rfl rfl (Or.inr rfl) h
      · have h := h.2 hc
        refine ow_lload_n (pc' := 47) (x := l1) dX12_isAsked_46 rfl rfl ?_
        refine ow_lload_n (pc' := 48) (x := l3) dX12_isAsked_47 rfl rfl ?_
        refine ow_Lcmp (pc' := 49) dX12_isAsked_48 rfl ?_
        refine ow_ifle (pc' := 52) (tg := 56) dX12_isAsked_49 rfl rfl (fun hc => ?_) (fun hc => ?_)
        · have h := h.1 hc
          refine ow_iconst (pc' := 57) (n := 0) dX12_isAsked_56 rfl rfl ?_
          refine ow_goto (tg := 111) dX12_isAsked_57 rfl ?_
          exact ow_zret dX12_isAsked_111 rfl rfl (Or.inl rfl) h
        · have h := h.2 hc
          refine ow_iconst (pc' := 53) (n := 1) dX12_isAsked_52 rfl rfl ?_
          refine ow_goto (tg := 111) dX12_isAsked_53 rfl ?_
          exact ow_zret dX12_isAsked_111 rfl rfl (Or.inr rfl) h
    · have h := h.2 hc
      refine ow_lload_n (pc' := 27) (x := l1) dX12_isAsked_26 rfl rfl ?_
      refine ow_lload_n (pc' := 28) (x := l3) dX12_isAsked_27 rfl rfl ?_
      refine ow_Lcmp (pc' := 29) dX12_isAsked_28 rfl ?_
      refine ow_ifgt (pc' := 32) (tg := 36) dX12_isAsked_29 rfl rfl (fun hc => ?_) (fun hc => ?_)
      · have h := h.1 hc
        refine ow_iconst (pc' := 37) (n := 0) dX12_isAsked_36 rfl rfl ?_
        refine ow_goto (tg := 111) dX12_isAsked_37 rfl ?_
        exact ow_zret dX12_isAsked_111 rfl rfl (Or.inl rfl) h
      · have h := h.2 hc
        refine ow_iconst (pc' := 33) (n := 1) dX12_isAsked_32 rfl rfl ?_
        refine ow_goto (tg := 111) dX12_isAsked_33 rfl ?_
        exact ow_zret dX12_isAsked_111 rfl rfl (Or.inr rfl) h
  · have h := h.2 hc
    refine ow_lload_n (pc' := 7) (x := l1) dX12_isAsked_6 rfl rfl ?_
    refine ow_lload_n (pc' := 8) (x := l3) dX12_isAsked_7 rfl rfl ?_
    refine ow_Lcmp (pc' := 9) dX12_isAsked_8 rfl ?_
    refine ow_ifge (pc' := 12) (tg := 16) dX12_isAsked_9 rfl rfl (fun hc => ?_) (fun hc => ?_)
    · have h := h.1 hc
      refine ow_iconst (pc' := 17) (n := 0) dX12_isAsked_16 rfl rfl ?_
      refine ow_goto (tg := 111) dX12_isAsked_17 rfl ?_
      exact ow_zret dX12_isAsked_111 rfl rfl (Or.inl rfl) h
    · have h := h.2 hc
      refine ow_iconst (pc' := 13) (n := 1) dX12_isAsked_12 rfl rfl ?_
      refine ow_goto (tg := 111) dX12_isAsked_13 rfl ?_
      exact ow_zret dX12_isAsked_111 rfl rfl (Or.inr rfl) h
theorem fX12_isAsked {C : ow_C} {A L N : Int} {d : Nat} {M : ow_M} {K : Int → ow_M → Prop} {l0 l1 l3 : Int} (h : (l0 ≠ 10 → (l0 ≠ 11 → (l0 ≠ 12 → (l0 ≠ 13 → (l0 ≠ 14 → ((ow_lcmp l1 l3) = 0 → K 0 M) ∧ ((ow_lcmp l1 l3) ≠ 0 → K 1 M)) ∧ (l0 = 14 → ((ow_lcmp l1 l3) ≠ 0 → K 0 M) ∧ ((ow_lcmp l1 l3) = 0 → K 1 M))) ∧ (l0 = 13 → ((ow_lcmp l1 l3) < 0 → K 0 M) ∧ (0 ≤ (ow_lcmp l1 l3) → K 1 M))) ∧ (l0 = 12 → ((ow_lcmp l1 l3) ≤ 0 → K 0 M) ∧ (0 < (ow_lcmp l1 l3) → K 1 M))) ∧ (l0 = 11 → (0 < (ow_lcmp l1 l3) → K 0 M) ∧ ((ow_lcmp l1 l3) ≤ 0 → K 1 M))) ∧ (l0 = 10 → (0 ≤ (ow_lcmp l1 l3) → K 0 M) ∧ ((ow_lcmp l1 l3) < 0 → K 1 M))) : ow_Sp C (EM A L N) d mX12_isAsked (0, 0) [(0, l0), (1, l1), (1, l3)] M K := ow_enter (by decide +kernel) rfl rfl (cX12_isAsked_0 h)
