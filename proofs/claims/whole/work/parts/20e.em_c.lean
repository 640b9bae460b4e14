set_option maxRecDepth 20000 in
theorem cX9_ruledBy_0 {C : ow_C} {A L N : Int} {d : Nat} {M : ow_M} {K : Int → ow_M → Prop} {l1 : Int} (h : ∀ N1, N1 = ow_up M 58 6 l1 → ∀ N2, N2 = ow_up N1 58 5 0 → K 0 N2) : ow_At C (EM A L N) d mX9_ruledBy 0 [(0, (3, 58)), (1, (3, l1))] [] (0, 0) M K := by
  refine ow_aload_n (pc' := 1) (x := 58) dX9_ruledBy_0 rfl rfl ?_
  refine ow_aload_n (pc' := 2) (x := l1) dX9_ruledBy_1 rfl rfl ?_
  refine ow_putf2 (pc' := 5) (t := 3) (ji := 6) dX9_ruledBy_2 fRX9_22 rfl rfl rfl rfl (of_eq_true eo58) (of_eq_true en58_6) (fun hz => absurd hz (by decide)) (fun N1 eN1 => ?_)
  have h := h N1 eN1
  refine ow_aload_n (pc' := 6) (x := 58) dX9_ruledBy_5 rfl rfl ?_
  refine ow_iconst (pc' := 7) (n := 0) dX9_ruledBy_6 rfl rfl ?_
  refine ow_putf2 (pc' := 10) (t := 0) (ji := 5) dX9_ruledBy_7 fRX9_18 rfl rfl rfl rfl (of_eq_true eo58) (of_eq_true en58_5) (fun hz => absurd hz (by decide)) (fun N2 eN2 => ?_)
  have h := h N2 eN2
  exact ow_vret dX9_ruledBy_10 rfl rfl h
theorem fX9_ruledBy {C : ow_C} {A L N : Int} {d : Nat} {M : ow_M} {K : Int → ow_M → Prop} {l1 : Int} (h : ∀ N1, N1 = ow_up M 58 6 l1 → ∀ N2, N2 = ow_up N1 58 5 0 → K 0 N2) : ow_Sp C (EM A L N) d mX9_ruledBy (0, 0) [(3, 58), (3, l1)] M K := ow_enter (by decide +kernel) rfl rfl (cX9_ruledBy_0 h)
set_option maxRecDepth 20000 in
theorem cX9_prepare_0 {C : ow_C} {A L N : Int} {d : Nat} {M : ow_M} {K : Int → ow_M → Prop} {l1 : Int} (h : ((M 58 6) < 0 → ow_At C (EM A L N) (d + 1) mX9_prepare 17 [(0, (3, 58)), (1, (0, l1))] [] (0, 0) M K) ∧ (0 ≤ (M 58 6) → ow_O (EM A L N) M (M 58 6) 7 ∧ ((ow_gv (EM A L N) M (M 58 6) 2) ≠ 0 → ow_At C (EM A L N) (d + 1) mX9_prepare 28 [(0, (3, 58)), (1, (0, l1)), (2, (0, 0)), (3, (0, M 58 5))] [] (0, 0) M K) ∧ ((ow_gv (EM A L N) M (M 58 6) 2) = 0 → ow_At C (EM A L N) (d + 1) mX9_prepare 17 [(0, (3, 58)), (1, (0, l1))] [] (0, 0) M K))) : ow_At C (EM A L N) (d + 1) mX9_prepare 0 [(0, (3, 58)), (1, (0, l1))] [] (0, 0) M K := by
  refine ow_aload_n (pc' := 1) (x := 58) dX9_prepare_0 rfl rfl ?_
  refine ow_getf3 (pc' := 4) (t := 3) (ji := 6) (val := M 58 6) dX9_prepare_1 fRX9_22 rfl rfl rfl (of_eq_true eo58) eg58_6 ?_
  refine ow_ifnull (pc' := 7) (tg := 17) dX9_prepare_4 rfl rfl (fun hc => ?_) (fun hc => ?_)
  · have h := h.1 hc
    exact h
  · have h := h.2 hc
    refine ow_aload_n (pc' := 8) (x := 58) dX9_prepare_7 rfl rfl ?_
    refine ow_getf3 (pc' := 11) (t := 3) (ji := 6) (val := M 58 6) dX9_prepare_8 fRX9_22 rfl rfl rfl (of_eq_true eo58) eg58_6 ?_
    obtain ⟨w, h⟩ := h
    refine ow_getf2 (pc' := 14) (t := 0) (ji := 2) dX9_prepare_11 fRX9_48 rfl rfl rfl w ?_
    refine ow_ifne (pc' := 17) (tg := 21) dX9_prepare_14 rfl rfl (fun hc => ?_) (fun hc => ?_)
    · have h := h.1 hc
      refine ow_iconst (pc' := 22) (n := 0) dX9_prepare_21 rfl rfl ?_
      refine ow_istore_n (pc' := 23) (lv' := [(0, (3, 58)), (1, (0, l1)), (2, (0, 0))]) dX9_prepare_22 rfl rfl rfl ?_
      refine ow_aload_n (pc' := 24) (x := 58) dX9_prepare_23 rfl rfl ?_
      refine ow_getf3 (pc' := 27) (t := 0) (ji := 5) (val := M 58 5) dX9_prepare_24 fRX9_18 rfl rfl rfl (of_eq_true eo58) eg58_5 ?_
      refine ow_istore_n (pc' := 28) (lv' := [(0, (3, 58)), (1, (0, l1)), (2, (0, 0)), (3, (0, M 58 5))]) dX9_prepare_27 rfl rfl rfl ?_
      exact h
    · have h := h.2 hc
      exact h
set_option maxRecDepth 20000 in
theorem cX9_prepare_17 {C : ow_C} {A L N : Int} {d : Nat} {M : ow_M} {K : Int → ow_M → Prop} {l1 : Int} (h : ow_At C (EM A L N) (d + 1) mX9_prepare 28 [(0, (3, 58)), (1, (0, l1)), (2, (0, 1)), (3, (0, M 58 5))] [] (0, 0) M K) : ow_At C (EM A L N) (d + 1) mX9_prepare 17 [(0, (3, 58)), (1, (0, l1))] [] (0, 0) M K := by
  refine ow_iconst (pc' := 18) (n := 1) dX9_prepare_17 rfl rfl ?_
  refine ow_goto (tg := 22) dX9_prepare_18 rfl ?_
  refine ow_istore_n (pc' := 23) (lv' := [(0, (3, 58)), (1, (0, l1)), (2, (0, 1))]) dX9_prepare_22 rfl rfl rfl ?_
  refine ow_aload_n (pc' := 24) (x := 58) dX9_prepare_23 rfl rfl ?_
  refine ow_getf3 (pc' := 27) (t := 0) (ji := 5) (val := M 58 5) dX9_prepare_24 fRX9_18 rfl rfl rfl (of_eq_true eo58) eg58_5 ?_
  refine ow_istore_n (pc' := 28) (lv' := [(0, (3, 58)), (1, (0, l1)), (2, (0, 1)), (3, (0, M 58 5))]) dX9_prepare_27 rfl rfl rfl ?_
  exact h
set_option maxRecDepth 20000 in
theorem cX9_prepare_28 {C : ow_C} {A L N : Int} {d : Nat} {M : ow_M} {K : Int → ow_M → Prop} {l1 l2 l3 : Int} (h : (l1 ≤ l3 → K 0 M) ∧ (l3 < l1 → (8 ≤ l3 → K 0 M) ∧ (l3 < 8 → (l2 = 0 → ow_At C (EM A L N) (d + 1) mX9_prepare 55 [(0, (3, 58)), (1, (0, l1)), (2, (0, l2)), (3, (0, l3))] [] (0, 0) M K) ∧ (l2 ≠ 0 → (l3 ≤ 0 → ow_At C (EM A L N) (d + 1) mX9_prepare 55 [(0, (3, 58)), (1, (0, l1)), (2, (0, l2)), (3, (0, l3))] [] (0, 0) M K) ∧ (0 < l3 → ow_Sp C (EM A L N) d mX9_copyFirstHand (0, 0) [(3, 58), (0, l3)] M (fun r1 N1 => ow_I (l3 + 1) ∧ ∀ N2, N2 = ow_up N1 58 5 (l3 + 1) → ow_At C (EM A L N) (d + 1) mX9_prepare 28 [(0, (3, 58)), (1, (0, l1)), (2, (0, l2)), (3, (0, l3 + 1))] [] (0, 0) N2 K)))))) : ow_At C (EM A L N) (d + 1) mX9_prepare 28 [(0, (3, 58)), (1, (0, l1)), (2, (0, l2)), (3, (0, l3))] [] (0, 0) M K := by
  refine ow_iload_n (pc' := 29) (x := l3) dX9_prepare_28 rfl rfl ?_
  refine ow_iload_n (pc' := 30) (x := l1) dX9_prepare_29 rfl rfl ?_
  refine ow_icmpge (pc' := 33) (tg := 73) dX9_prepare_30 rfl rfl (fun hc => ?_) (fun hc => ?_)
  · have h := h.1 hc
    exact ow_vret dX9_prepare_73 rfl rfl h
  · have h := h.2 hc
    refine ow_iload_n (pc' := 34) (x := l3) dX9_prepare_33 rfl rfl ?_
    refine ow_bipush (pc' := 36) (n := 8) dX9_prepare_34 rfl rfl ?_
    refine ow_icmpge (pc' := 39) (tg := 73) dX9_prepare_36 rfl rfl (fun hc => ?_) (fun hc => ?_)
    · have h := h.1 hc
      exact ow_vret dX9_prepare_73 rfl rfl h
    · have h := h.2 hc
      refine ow_iload_n (pc' := 40) (x := l2) dX9_prepare_39 rfl rfl ?_
      refine ow_ifeq (pc' := 43) (tg := 55) dX9_prepare_40 rfl rfl (fun hc => ?_) (fun hc => ?_)
      · have h := h.1 hc
        exact h
      · have h := h.2 hc
        refine ow_iload_n (pc' := 44) (x := l3) dX9_prepare_43 rfl rfl ?_
        refine ow_ifle (pc' := 47) (tg := 55) dX9_prepare_44 rfl rfl (fun hc => ?_) (fun hc => ?_)
        · have h := h.1 hc
          exact h
        · have h := h.2 hc
          refine ow_aload_n (pc' := 48) (x := 58) dX9_prepare_47 rfl rfl ?_
          refine ow_iload_n (pc' := 49) (x := l3) dX9_prepare_48 rfl rfl ?_
          refine ow_callVv (z := mX9_copyFirstHand) (n := 1) (k := 9) (vs := [(0, l3)]) (x := 58) (st := []) (pc' := 52) (b1 := (0, 0)) (b2 := (0, 0)) dX9_prepare_49 lRX9_54 kX9_copyFirstHand iX9_copyFirstHand rfl rfl rfl rfl rfl rfl (of_eq_true eo58) (ow_Sp.mono h (fun r1 N1 h => ?_))
          refine ow_goto (tg := 60) dX9_prepare_52 rfl ?_
          refine ow_aload_n (pc' := 61) (x := 58) dX9_prepare_60 rfl rfl ?_
          refine ow_iload_n (pc' := 62) (x := l3) dX9_prepare_61 rfl rfl ?_
          refine ow_iconst (pc' := 63) (n := 1) dX9_prepare_62 rfl rfl ?_
          obtain ⟨vv1, h⟩ := h
          refine ow_iadd (pc' := 64) dX9_prepare_63 vv1 rfl ?_
          refine ow_putf2 (pc' := 67) (t := 0) (ji := 5) dX9_prepare_64 fRX9_18 rfl rfl rfl rfl (of_eq_true eo58) (of_eq_true en58_5) (fun hz => absurd hz (by decide)) (fun N2 eN2 => ?_)
          have h := h N2 eN2
          refine ow_iinc (pc' := 70) (lv' := [(0, (3, 58)), (1, (0, l1)), (2, (0, l2)), (3, (0, l3 + 1))]) dX9_prepare_67 rfl vv1 rfl rfl rfl ?_
          refine ow_goto (tg := 28) dX9_prepare_70 rfl ?_
          exact h
set_option maxRecDepth 20000 in
theorem cX9_prepare_55 {C : ow_C} {A L N : Int} {d : Nat} {M : ow_M} {K : Int → ow_M → Prop} {l1 l2 l3 : Int} (h : ow_Sp C (EM A L N) d mX9_prepareHand (0, 0) [(3, 58), (0, l3)] M (fun r1 N1 => ow_I (l3 + 1) ∧ ∀ N2, N2 = ow_up N1 58 5 (l3 + 1) → ow_At C (EM A L N) (d + 1) mX9_prepare 28 [(0, (3, 58)), (1, (0, l1)), (2, (0, l2)), (3, (0, l3 + 1))] [] (0, 0) N2 K)) : ow_At C (EM A L N) (d + 1) mX9_prepare 55 [(0, (3, 58)), (1, (0, l1)), (2, (0, l2)), (3, (0, l3))] [] (0, 0) M K := by
  refine ow_aload_n (pc' := 56) (x := 58) dX9_prepare_55 rfl rfl ?_
  refine ow_iload_n (pc' := 57) (x := l3) dX9_prepare_56 rfl rfl ?_
  refine ow_callVv (z := mX9_prepareHand) (n := 1) (k := 9) (vs := [(0, l3)]) (x := 58) (st := []) (pc' := 60) (b1 := (0, 0)) (b2 := (0, 0)) dX9_prepare_57 lRX9_58 kX9_prepareHand iX9_prepareHand rfl rfl rfl rfl rfl rfl (of_eq_true eo58) (ow_Sp.mono h (fun r1 N1 h => ?_))
  refine ow_aload_n (pc' := 61) (x := 58) dX9_prepare_60 rfl rfl ?_
  refine ow_iload_n (pc' := 62) (x := l3) dX9_prepare_61 rfl rfl ?_
  refine ow_iconst (pc' := 63) (n := 1) dX9_prepare_62 rfl rfl ?_
  obtain ⟨vv1, h⟩ := h
  refine ow_iadd (pc' := 64) dX9_prepare_63 vv1 rfl ?_
  refine ow_putf2 (pc' := 67) (t := 0) (ji := 5) dX9_prepare_64 fRX9_18 rfl rfl rfl rfl (of_eq_true eo58) (of_eq_true en58_5) (fun hz => absurd hz (by decide)) (fun N2 eN2 => ?_)
  have h := h N2 eN2
  refine ow_iinc (pc' := 70) (lv' := [(0, (3, 58)), (1, (0, l1)), (2, (0, l2)), (3, (0, l3 + 1))]) dX9_prepare_67 rfl vv1 rfl rfl rfl ?_
  refine ow_goto (tg := 28) dX9_prepare_70 rfl ?_
  exact h
theorem fX9_prepare {C : ow_C} {A L N : Int} {d : Nat} {M : ow_M} {K : Int → ow_M → Prop} {l1 : Int} (h : ((M 58 6) < 0 → ow_At C (EM A L N) (d + 1) mX9_prepare 17 [(0, (3, 58)), (1, (0, l1))] [] (0, 0) M K) ∧ (0 ≤ (M 58 6) → ow_O (EM A L N) M (M 58 6) 7 ∧ ((ow_gv (EM A L N) M (M 58 6) 2) ≠ 0 → ow_At C (EM A L N) (d + 1) mX9_prepare 28 [(0, (3, 58)), (1, (0, l1)), (2, (0, 0)), (3, (0, M 58 5))] [] (0, 0) M K) ∧ ((ow_gv (EM A L N) M (M 58 6) 2) = 0 → ow_At C (EM A L N) (d + 1) mX9_prepare 17 [(0, (3, 58)), (1, (0, l1))] [] (0, 0) M K))) : ow_Sp C (EM A L N) (d + 1) mX9_prepare (0, 0) [(3, 58), (0, l1)] M K := ow_enter (by decide +kernel) rfl rfl (cX9_prepare_0 h)
set_option maxRecDepth 20000 in
theorem cX9_copyFirstHand_0 {C : ow_C} {A L N : Int} {d : Nat} {M : ow_M} {K : Int → ow_M → Prop} {l1 : Int} (h : ow_I (L * A) ∧ ow_I ((L * A) * A) ∧ ow_I (l1 * ((L * A) * A)) ∧ ((0 : Int) ≤ 0 ∧ (0 : Int) ≤ ((L * A) * A) ∧ (0 : Int) + ((L * A) * A) ≤ (8 * L * A * A)) ∧ ((0 : Int) ≤ (l1 * ((L * A) * A)) ∧ (l1 * ((L * A) * A)) + ((L * A) * A) ≤ (8 * L * A * A)) ∧ ∀ N1, N1 = ow_cp (EM A L N) M 62 0 62 (l1 * ((L * A) * A)) ((L * A) * A) → ow_I ((l1 * ((L * A) * A)) * (L + 1)) ∧ ow_I (((L * A) * A) * (L + 1)) ∧ ((0 : Int) ≤ 0 ∧ (0 : Int) ≤ (((L * A) * A) * (L + 1)) ∧ (0 : Int) + (((L * A) * A) * (L + 1)) ≤ (8 * L * A * A * (L + 1))) ∧ ((0 : Int) ≤ ((l1 * ((L * A) * A)) * (L + 1)) ∧ ((l1 * ((L * A) * A)) * (L + 1)) + (((L * A) * A) * (L + 1)) ≤ (8 * L * A * A * (L + 1))) ∧ ∀ N2, N2 = ow_cp (EM A L N) N1 63 0 63 ((l1 * ((L * A) * A)) * (L + 1)) (((L * A) * A) * (L + 1)) → K 0 N2) : ow_At C (EM A L N) (d + 1) mX9_copyFirstHand 0 [(0, (3, 58)), (1, (0, l1))] [] (0, 0) M K := by
  refine ow_aload_n (pc' := 1) (x := 58) dX9_copyFirstHand_0 rfl rfl ?_
  refine ow_getf3 (pc' := 4) (t := 3) (ji := 0) (val := 3) dX9_copyFirstHand_1 fRX9_26 rfl rfl rfl (of_eq_true eo58) eg58_0 ?_
  refine ow_getf3 (pc' := 7) (t := 0) (ji := 1) (val := L) dX9_copyFirstHand_4 fRX9_30 rfl rfl rfl (of_eq_true eo3) eg3_1 ?_
  refine ow_aload_n (pc' := 8) (x := 58) dX9_copyFirstHand_7 rfl rfl ?_
  refine ow_getf3 (pc' := 11) (t := 3) (ji := 0) (val := 3) dX9_copyFirstHand_8 fRX9_26 rfl rfl rfl (of_eq_true eo58) eg58_0 ?_
  refine ow_getf3 (pc' := 14) (t := 0) (ji := 0) (val := A) dX9_copyFirstHand_11 fRX9_38 rfl rfl rfl (of_eq_true eo3) eg3_0 ?_
  obtain ⟨vv1, h⟩ := h
  refine ow_imul (pc' := 15) dX9_copyFirstHand_14 vv1 rfl ?_
  refine ow_aload_n (pc' := 16) (x := 58) dX9_copyFirstHand_15 rfl rfl ?_
  refine ow_getf3 (pc' := 19) (t := 3) (ji := 0) (val := 3) dX9_copyFirstHand_16 fRX9_26 rfl rfl rfl (of_eq_true eo58) eg58_0 ?_
  refine ow_getf3 (pc' := 22) (t := 0) (ji := 0) (val := A) dX9_copyFirstHand_19 fRX9_38 rfl rfl rfl (of_eq_true eo3) eg3_0 ?_
  obtain ⟨vv2, h⟩ := h
  refine ow_imul (pc' := 23) dX9_copyFirstHand_22 vv2 rfl ?_
  refine ow_istore_n (pc' := 24) (lv' := [(0, (3, 58)), (1, (0, l1)), (2, (0, (L * A) * A))]) dX9_copyFirstHand_23 rfl rfl rfl ?_
  refine ow_aload_n (pc' := 25) (x := 58) dX9_copyFirstHand_24 rfl rfl ?_
  refine ow_getf3 (pc' := 28) (t := 3) (ji := 3) (val := 62) dX9_copyFirstHand_25 fRX9_41 rfl rfl rfl (of_eq_true eo58) eg58_3 ?_
  refine ow_iconst (pc' := 29) (n := 0) dX9_copyFirstHand_28 rfl rfl ?_
  refine ow_aload_n (pc' := 30) (x := 58) dX9_copyFirstHand_29 rfl rfl ?_
  refine ow_getf3 (pc' := 33) (t := 3) (ji := 3) (val := 62) dX9_copyFirstHand_30 fRX9_41 rfl rfl rfl (of_eq_true eo58) eg58_3 ?_
  refine ow_iload_n (pc' := 34) (x := l1) dX9_copyFirstHand_33 rfl rfl ?_
  refine ow_iload_n (pc' := 35) (x := (L * A) * A) dX9_copyFirstHand_34 rfl rfl ?_
  obtain ⟨vv3, h⟩ := h
  refine ow_imul (pc' := 36) dX9_copyFirstHand_35 vv3 rfl ?_
  refine ow_iload_n (pc' := 37) (x := (L * A) * A) dX9_copyFirstHand_36 rfl rfl ?_
  obtain ⟨⟨w, w1, w2⟩, ⟨w3, w4⟩, h⟩ := h
  have u0 : 0 ≤ (62 : Int) ∧ (62 : Int) < ow_nb (EM A L N) M ∧ ((EM A L N).2.1 62).1 = 100 ∧ (0 : Int) ≤ 0 ∧ (0 : Int) ≤ ((L * A) * A) ∧ (0 : Int) + ((L * A) * A) ≤ ((EM A L N).2.1 62).2 := ⟨by decide, (show (62 : Int) < 102 by decide), rfl, w, w1, w2⟩
  have u1 : 0 ≤ (62 : Int) ∧ (62 : Int) < ow_nb (EM A L N) M ∧ ((EM A L N).2.1 62).1 = 100 ∧ (0 : Int) ≤ (l1 * ((L * A) * A)) ∧ (l1 * ((L * A) * A)) + ((L * A) * A) ≤ ((EM A L N).2.1 62).2 := ⟨by decide, (show (62 : Int) < 102 by decide), rfl, w3, w4⟩
  refine ow_copy2 (pc' := 40) dX9_copyFirstHand_37 lRX9_61 ow_ac1 ow_ac2 ow_ac3 rfl rfl em_22 u0 u1 (fun i => of_eq_true (en62 i)) (fun N1 eN1 => ?_)
  have h := h N1 eN1
  refine ow_aload_n (pc' := 41) (x := 58) dX9_copyFirstHand_40 rfl rfl ?_
  refine ow_getf3 (pc' := 44) (t := 3) (ji := 4) (val := 63) dX9_copyFirstHand_41 fRX9_45 rfl rfl rfl (of_eq_true eo58) eg58_4 ?_
  refine ow_iconst (pc' := 45) (n := 0) dX9_copyFirstHand_44 rfl rfl ?_
  refine ow_aload_n (pc' := 46) (x := 58) dX9_copyFirstHand_45 rfl rfl ?_
  refine ow_getf3 (pc' := 49) (t := 3) (ji := 4) (val := 63) dX9_copyFirstHand_46 fRX9_45 rfl rfl rfl (of_eq_true eo58) eg58_4 ?_
  refine ow_iload_n (pc' := 50) (x := l1) dX9_copyFirstHand_49 rfl rfl ?_
  refine ow_iload_n (pc' := 51) (x := (L * A) * A) dX9_copyFirstHand_50 rfl rfl ?_
  refine ow_imul (pc' := 52) dX9_copyFirstHand_51 vv3 rfl ?_
  refine ow_aload_n (pc' := 53) (x := 58) dX9_copyFirstHand_52 rfl rfl ?_
  refine ow_getf3 (pc' := 56) (t := 0) (ji := 2) (val := (L + 1)) dX9_copyFirstHand_53 fRX9_35 rfl rfl rfl (of_eq_true eo58) eg58_2 ?_
  obtain ⟨vv4, h⟩ := h
  refine ow_imul (pc' := 57) dX9_copyFirstHand_56 vv4 rfl ?_
  refine ow_iload_n (pc' := 58) (x := (L * A) * A) dX9_copyFirstHand_57 rfl rfl ?_
  refine ow_aload_n (pc' := 59) (x := 58) dX9_copyFirstHand_58 rfl rfl ?_
  refine ow_getf3 (pc' := 62) (t := 0) (ji := 2) (val := (L + 1)) dX9_copyFirstHand_59 fRX9_35 rfl rfl rfl (of_eq_true eo58) eg58_2 ?_
  obtain ⟨vv5, h⟩ := h
  refine ow_imul (pc' := 63) dX9_copyFirstHand_62 vv5 rfl ?_
  obtain ⟨⟨w, w1, w2⟩, ⟨w3, w4⟩, h⟩ := h
  have u0 : 0 ≤ (63 : Int) ∧ (63 : Int) < ow_nb (EM A L N) N1 ∧ ((EM A L N).2.1 63).1 = 100 ∧ (0 : Int) ≤ 0 ∧ (0 : Int) ≤ (((L * A) * A) * (L + 1)) ∧ (0 : Int) + (((L * A) * A) * (L + 1)) ≤ ((EM A L N).2.1 63).2 := ⟨by decide, (show (63 : Int) < 102 by decide), rfl, w, w1, w2⟩
  have u1 : 0 ≤ (63 : Int) ∧ (63 : Int) < ow_nb (EM A L N) N1 ∧ ((EM A L N).2.1 63).1 = 100 ∧ (0 : Int) ≤ ((l1 * ((L * A) * A)) * (L + 1)) ∧ ((l1 * ((L * A) * A)) * (L + 1)) + (((L * A) * A) * (L + 1)) ≤ ((EM A L N).2.1 63).2 := ⟨by decide, (show (63 : Int) < 102 by decide), rfl, w3, w4⟩
  refine ow_copy2 (pc' := 66) dX9_copyFirstHand_63 lRX9_61 ow_ac1 ow_ac2 ow_ac3 rfl rfl em_22 u0 u1 (fun i => of_eq_true (en63 i)) (fun N2 eN2 => ?_)
  have h := h N2 eN2
  exact ow_vret dX9_copyFirstHand_66 rfl rfl h
theorem fX9_copyFirstHand {C : ow_C} {A L N : Int} {d : Nat} {M : ow_M} {K : Int → ow_M → Prop} {l1 : Int} (h : ow_I (L * A) ∧ ow_I ((L * A) * A) ∧ ow_I (l1 * ((L * A) * A)) ∧ ((0 : Int) ≤ 0 ∧ (0 : Int) ≤ ((L * A) * A) ∧ (0 : Int) + ((L * A) * A) ≤ (8 * L * A * A)) ∧ ((0 : Int) ≤ (l1 * ((L * A) * A)) ∧ (l1 * ((L * A) * A)) + ((L * A) * A) ≤ (8 * L * A * A)) ∧ ∀ N1, N1 = ow_cp (EM A L N) M 62 0 62 (l1 * ((L * A) * A)) ((L * A) * A) → ow_I ((l1 * ((L * A) * A)) * (L + 1)) ∧ ow_I (((L * A) * A) * (L + 1)) ∧ ((0 : Int) ≤ 0 ∧ (0 : Int) ≤ (((L * A) * A) * (L + 1)) ∧ (0 : Int) + (((L * A) * A) * (L + 1)) ≤ (8 * L * A * A * (L + 1))) ∧ ((0 : Int) ≤ ((l1 * ((L * A) * A)) * (L + 1)) ∧ ((l1 * ((L * A) * A)) * (L + 1)) + (((L * A) * A) * (L + 1)) ≤ (8 * L * A * A * (L + 1))) ∧ ∀ N2, N2 = ow_cp (EM A L N) N1 63 0 63 ((l1 * ((L * A) * A)) * (L + 1)) (((L * A) * A) * (L + 1)) → K 0 N2) : ow_Sp C (EM A L N) (d + 1) mX9_copyFirstHand (0, 0) [(3, 58), (0, l1)] M K := ow_enter (by decide +kernel) rfl rfl (cX9_copyFirstHand_0 h)
set_option maxRecDepth 20000 in
theorem cX9_prepareHand_0 {C : ow_C} {A L N : Int} {d : Nat} {M : ow_M} {K : Int → ow_M → Prop} {l1 : Int} (h : ∀ N1, N1 = ow_up M 60 3 l1 → ow_At C (EM A L N) (d + 1) mX9_prepareHand 12 [(0, (3, 58)), (1, (0, l1)), (2, (0, 0))] [] (0, 0) N1 K) : ow_At C (EM A L N) (d + 1) mX9_prepareHand 0 [(0, (3, 58)), (1, (0, l1))] [] (0, 0) M K := by
  refine ow_aload_n (pc' := 1) (x := 58) dX9_prepareHand_0 rfl rfl ?_
  refine ow_getf3 (pc' := 4) (t := 3) (ji := 1) (val := 59) dX9_prepareHand_1 fRX9_12 rfl rfl rfl (of_eq_true eo58) eg58_1 ?_
  refine ow_getf3 (pc' := 7) (t := 3) (ji := 0) (val := 60) dX9_prepareHand_4 fRX9_67 rfl rfl rfl (of_eq_true eo59) eg59_0 ?_
  refine ow_iconst (pc' := 8) (n := 3) dX9_prepareHand_7 rfl rfl ?_
  refine ow_iload_n (pc' := 9) (x := l1) dX9_prepareHand_8 rfl rfl ?_
  refine ow_iastore2 (pc' := 10) dX9_prepareHand_9 rfl (Eq.mpr (er60 _) ⟨by decide, by decide⟩) (of_eq_true (en60 _)) (fun N1 eN1 => ?_)
  have h := h N1 eN1
  refine ow_iconst (pc' := 11) (n := 0) dX9_prepareHand_10 rfl rfl ?_
  refine ow_istore_n (pc' := 12) (lv' := [(0, (3, 58)), (1, (0, l1)), (2, (0, 0))]) dX9_prepareHand_11 rfl rfl rfl ?_
  exact h
set_option maxRecDepth 20000 in
theorem cX9_prepareHand_12 {C : ow_C} {A L N : Int} {d : Nat} {M : ow_M} {K : Int → ow_M → Prop} {l1 l2 : Int} (h : (L ≤ l2 → K 0 M) ∧ (l2 < L → ∀ N1, N1 = ow_up M 60 0 l2 → ow_At C (EM A L N) (d + 1) mX9_prepareHand 35 [(0, (3, 58)), (1, (0, l1)), (2, (0, l2)), (3, (0, 0))] [] (0, 0) N1 K)) : ow_At C (EM A L N) (d + 1) mX9_prepareHand 12 [(0, (3, 58)), (1, (0, l1)), (2, (0, l2))] [] (0, 0) M K := by
  refine ow_iload_n (pc' := 13) (x := l2) dX9_prepareHand_12 rfl rfl ?_
  refine ow_aload_n (pc' := 14) (x := 58) dX9_prepareHand_13 rfl rfl ?_
  refine ow_getf3 (pc' := 17) (t := 3) (ji := 0) (val := 3) dX9_prepareHand_14 fRX9_26 rfl rfl rfl (of_eq_true eo58) eg58_0 ?_
  refine ow_getf3 (pc' := 20) (t := 0) (ji := 1) (val := L) dX9_prepareHand_17 fRX9_30 rfl rfl rfl (of_eq_true eo3) eg3_1 ?_
  refine ow_icmpge (pc' := 23) (tg := 121) dX9_prepareHand_20 rfl rfl (fun hc => ?_) (fun hc => ?_)
  · have h := h.1 hc
    exact ow_vret dX9_prepareHand_121 rfl rfl h
  · have h := h.2 hc
    refine ow_aload_n (pc' := 24) (x := 58) dX9_prepareHand_23 rfl rfl ?_
    refine ow_getf3 (pc' := 27) (t := 3) (ji := 1) (val := 59) dX9_prepareHand_24 fRX9_12 rfl rfl rfl (of_eq_true eo58) eg58_1 ?_
    refine ow_getf3 (pc' := 30) (t := 3) (ji := 0) (val := 60) dX9_prepareHand_27 fRX9_67 rfl rfl rfl (of_eq_true eo59) eg59_0 ?_
    refine ow_iconst (pc' := 31) (n := 0) dX9_prepareHand_30 rfl rfl ?_
    refine ow_iload_n (pc' := 32) (x := l2) dX9_prepareHand_31 rfl rfl ?_
    refine ow_iastore2 (pc' := 33) dX9_prepareHand_32 rfl (Eq.mpr (er60 _) ⟨by decide, by decide⟩) (of_eq_true (en60 _)) (fun N1 eN1 => ?_)
    have h := h N1 eN1
    refine ow_iconst (pc' := 34) (n := 0) dX9_prepareHand_33 rfl rfl ?_
    refine ow_istore_n (pc' := 35) (lv' := [(0, (3, 58)), (1, (0, l1)), (2, (0, l2)), (3, (0, 0))]) dX9_prepareHand_34 rfl rfl rfl ?_
    exact h
set_option maxRecDepth 20000 in
theorem cX9_prepareHand_35 {C : ow_C} {A L N : Int} {d : Nat} {M : ow_M} {K : Int → ow_M → Prop} {l1 l2 l3 : Int} (h : (A ≤ l3 → ow_I (l2 + 1) ∧ ow_At C (EM A L N) (d + 1) mX9_prepareHand 12 [(0, (3, 58)), (1, (0, l1)), (2, (0, l2 + 1))] [] (0, 0) M K) ∧ (l3 < A → ∀ N1, N1 = ow_up M 60 1 l3 → ow_At C (EM A L N) (d + 1) mX9_prepareHand 59 [(0, (3, 58)), (1, (0, l1)), (2, (0, l2)), (3, (0, l3)), (4, (0, 0))] [] (0, 0) N1 K)) : ow_At C (EM A L N) (d + 1) mX9_prepareHand 35 [(0, (3, 58)), (1, (0, l1)), (2, (0, l2)), (3, (0, l3))] [] (0, 0) M K := by
  refine ow_iload_n (pc' := 36) (x := l3) dX9_prepareHand_35 rfl rfl ?_
  refine ow_aload_n (pc' := 37) (x := 58) dX9_prepareHand_36 rfl rfl ?_
  refine ow_getf3 (pc' := 40) (t := 3) (ji := 0) (val := 3) dX9_prepareHand_37 fRX9_26 rfl rfl rfl (of_eq_true eo58) eg58_0 ?_
  refine ow_getf3 (pc' := 43) (t := 0) (ji := 0) (val := A) dX9_prepareHand_40 fRX9_38 rfl rfl rfl (of_eq_true eo3) eg3_0 ?_
  refine ow_icmpge (pc' := 46) (tg := 115) dX9_prepareHand_43 rfl rfl (fun hc => ?_) (fun hc => ?_)
  · have h := h.1 hc
    obtain ⟨vv1, h⟩ := h
    refine ow_iinc (pc' := 118) (lv' := [(0, (3, 58)), (1, (0, l1)), (2, (0, l2 + 1)), (3, (0, l3))]) dX9_prepareHand_115 rfl vv1 rfl rfl rfl ?_
    refine ow_goto (tg := 12) dX9_prepareHand_118 rfl ?_
    refine ow_sub (lv' := [(0, (3, 58)), (1, (0, l1)), (2, (0, l2 + 1))]) [0, 1, 2] rfl ?_
    exact h
  · have h := h.2 hc
    refine ow_aload_n (pc' := 47) (x := 58) dX9_prepareHand_46 rfl rfl ?_
    refine ow_getf3 (pc' := 50) (t := 3) (ji := 1) (val := 59) dX9_prepareHand_47 fRX9_12 rfl rfl rfl (of_eq_true eo58) eg58_1 ?_
    refine ow_getf3 (pc' := 53) (t := 3) (ji := 0) (val := 60) dX9_prepareHand_50 fRX9_67 rfl rfl rfl (of_eq_true eo59) eg59_0 ?_
    refine ow_iconst (pc' := 54) (n := 1) dX9_prepareHand_53 rfl rfl ?_
    refine ow_iload_n (pc' := 55) (x := l3) dX9_prepareHand_54 rfl rfl ?_
    refine ow_iastore2 (pc' := 56) dX9_prepareHand_55 rfl (Eq.mpr (er60 _) ⟨by decide, by decide⟩) (of_eq_true (en60 _)) (fun N1 eN1 => ?_)
    have h := h N1 eN1
    refine ow_iconst (pc' := 57) (n := 0) dX9_prepareHand_56 rfl rfl ?_
    refine ow_istore (pc' := 59) (lv' := [(0, (3, 58)), (1, (0, l1)), (2, (0, l2)), (3, (0, l3)), (4, (0, 0))]) dX9_prepareHand_57 rfl rfl rfl ?_
    exact h
set_option maxRecDepth 20000 in
theorem cX9_prepareHand_59 {C : ow_C} {A L N : Int} {d : Nat} {M : ow_M} {K : Int → ow_M → Prop} {l1 l2 l3 l4 : Int} (h : (A ≤ l4 → ow_I (l3 + 1) ∧ ow_At C (EM A L N) (d + 1) mX9_prepareHand 35 [(0, (3, 58)), (1, (0, l1)), (2, (0, l2)), (3, (0, l3 + 1))] [] (0, 0) M K) ∧ (l4 < A → (l4 = l3 → ow_I (l4 + 1) ∧ ow_At C (EM A L N) (d + 1) mX9_prepareHand 59 [(0, (3, 58)), (1, (0, l1)), (2, (0, l2)), (3, (0, l3)), (4, (0, l4 + 1))] [] (0, 0) M K) ∧ (l4 ≠ l3 → ∀ N1, N1 = ow_up M 60 2 l4 → ow_Sp C (EM A L N) d mX9_changesOf (0, 0) [(3, 58), (0, l1), (0, l2), (0, l3)] N1 (fun r2 N2 => ow_I (r2 + l4) ∧ ow_Sp C (EM A L N) d mX9_workOut (0, 0) [(3, 58), (0, r2 + l4), (0, l2)] N2 (fun r3 N3 => ow_I (l4 + 1) ∧ ow_At C (EM A L N) (d + 1) mX9_prepareHand 59 [(0, (3, 58)), (1, (0, l1)), (2, (0, l2)), (3, (0, l3)), (4, (0, l4 + 1))] [] (0, 0) N3 K))))) : ow_At C (EM A L N) (d + 1) mX9_prepareHand 59 [(0, (3, 58)), (1, (0, l1)), (2, (0, l2)), (3, (0, l3)), (4, (0, l4))] [] (0, 0) M K := by
  refine ow_iload (pc' := 61) (x := l4) dX9_prepareHand_59 rfl rfl ?_
  refine ow_aload_n (pc' := 62) (x := 58) dX9_prepareHand_61 rfl rfl ?_
  refine ow_getf3 (pc' := 65) (t := 3) (ji := 0) (val := 3) dX9_prepareHand_62 fRX9_26 rfl rfl rfl (of_eq_true eo58) eg58_0 ?_
  refine ow_getf3 (pc' := 68) (t := 0) (ji := 0) (val := A) dX9_prepareHand_65 fRX9_38 rfl rfl rfl (of_eq_true eo3) eg3_0 ?_
  refine ow_icmpge (pc' := 71) (tg := 109) dX9_prepareHand_68 rfl rfl (fun hc => ?_) (fun hc => ?_)
  · have h := h.1 hc
    obtain ⟨vv1, h⟩ := h
    refine ow_iinc (pc' := 112) (lv' := [(0, (3, 58)), (1, (0, l1)), (2, (0, l2)), (3, (0, l3 + 1)), (4, (0, l4))]) dX9_prepareHand_109 rfl vv1 rfl rfl rfl ?_
    refine ow_goto (tg := 35) dX9_prepareHand_112 rfl ?_
    refine ow_sub (lv' := [(0, (3, 58)), (1, (0, l1)), (2, (0, l2)), (3, (0, l3 + 1))]) [0, 1, 2, 3] rfl ?_
    exact h
  · have h := h.2 hc
    refine ow_iload (pc' := 73) (x := l4) dX9_prepareHand_71 rfl rfl ?_
    refine ow_iload_n (pc' := 74) (x := l3) dX9_prepareHand_73 rfl rfl ?_
    refine ow_icmpeq (pc' := 77) (tg := 103) dX9_prepareHand_74 rfl rfl (fun hc => ?_) (fun hc => ?_)
    · have h := h.1 hc
      obtain ⟨vv2, h⟩ := h
      refine ow_iinc (pc' := 106) (lv' := [(0, (3, 58)), (1, (0, l1)), (2, (0, l2)), (3, (0, l3)), (4, (0, l4 + 1))]) dX9_prepareHand_103 rfl vv2 rfl rfl rfl ?_
      refine ow_goto (tg := 59) dX9_prepareHand_106 rfl ?_
      exact h
    · have h := h.2 hc
      refine ow_aload_n (pc' := 78) (x := 58) dX9_prepareHand_77 rfl rfl ?_
      refine ow_getf3 (pc' := 81) (t := 3) (ji := 1) (val := 59) dX9_prepareHand_78 fRX9_12 rfl rfl rfl (of_eq_true eo58) eg58_1 ?_
      refine ow_getf3 (pc' := 84) (t := 3) (ji := 0) (val := 60) dX9_prepareHand_81 fRX9_67 rfl rfl rfl (of_eq_true eo59) eg59_0 ?_
      refine ow_iconst (pc' := 85) (n := 2) dX9_prepareHand_84 rfl rfl ?_
      refine ow_iload (pc' := 87) (x := l4) dX9_prepareHand_85 rfl rfl ?_
      refine ow_iastore2 (pc' := 88) dX9_prepareHand_87 rfl (Eq.mpr (er60 _) ⟨by decide, by decide⟩) (of_eq_true (en60 _)) (fun N1 eN1 => ?_)
      have h := h N1 eN1
      refine ow_aload_n (pc' := 89) (x := 58) dX9_prepareHand_88 rfl rfl ?_
      refine ow_aload_n (pc' := 90) (x := 58) dX9_prepareHand_89 rfl rfl ?_
      refine ow_iload_n (pc' := 91) (x := l1) dX9_prepareHand_90 rfl rfl ?_
      refine ow_iload_n (pc' := 92) (x := l2) dX9_prepareHand_91 rfl rfl ?_
      refine ow_iload_n (pc' := 93) (x := l3) dX9_prepareHand_92 rfl rfl ?_
      refine ow_callVp (z := mX9_changesOf) (n := 3) (k := 9) (vs := [(0, l1), (0, l2), (0, l3)]) (x := 58) (st := [(3, 58)]) (pc' := 96) (b1 := (0, 0)) (b2 := (0, 0)) dX9_prepareHand_93 lRX9_70 kX9_changesOf iX9_changesOf rfl rfl rfl rfl rfl rfl (of_eq_true eo58) (ow_Sp.mono h (fun r2 N2 h => ?_))
      refine ow_iload (pc' := 98) (x := l4) dX9_prepareHand_96 rfl rfl ?_
      obtain ⟨vv3, h⟩ := h
      refine ow_iadd (pc' := 99) dX9_prepareHand_98 vv3 rfl ?_
      refine ow_iload_n (pc' := 100) (x := l2) dX9_prepareHand_99 rfl rfl ?_
      refine ow_callVv (z := mX9_workOut) (n := 2) (k := 9) (vs := [(0, r2 + l4), (0, l2)]) (x := 58) (st := []) (pc' := 103) (b1 := (0, 0)) (b2 := (0, 0)) dX9_prepareHand_100 lRX9_74 kX9_workOut iX9_workOut rfl rfl rfl rfl rfl rfl (of_eq_true eo58) (ow_Sp.mono h (fun r3 N3 h => ?_))
      obtain ⟨vv4, h⟩ := h
      refine ow_iinc (pc' := 106) (lv' := [(0, (3, 58)), (1, (0, l1)), (2, (0, l2)), (3, (0, l3)), (4, (0, l4 + 1))]) dX9_prepareHand_103 rfl vv4 rfl rfl rfl ?_
      refine ow_goto (tg := 59) dX9_prepareHand_106 rfl ?_
      exact h
theorem fX9_prepareHand {C : ow_C} {A L N : Int} {d : Nat} {M : ow_M} {K : Int → ow_M → Prop} {l1 : Int} (h : ∀ N1, N1 = ow_up M 60 3 l1 → ow_At C (EM A L N) (d + 1) mX9_prepareHand 12 [(0, (3, 58)), (1, (0, l1)), (2, (0, 0))] [] (0, 0) N1 K) : ow_Sp C (EM A L N) (d + 1) mX9_prepareHand (0, 0) [(3, 58), (0, l1)] M K := ow_enter (by decide +kernel) rfl rfl (cX9_prepareHand_0 h)
set_option maxRecDepth 20000 in
theorem cX9_workOut_0 {C : ow_C} {A L N : Int} {d : Nat} {M : ow_M} {K : Int → ow_M → Prop} {l1 l2 : Int} (h : ((M 58 6) < 0 → ow_At C (EM A L N) (d + 1) mX9_workOut 22 [(0, (3, 58)), (1, (0, l1)), (2, (0, l2))] [(0, 1)] (0, 0) M K) ∧ (0 ≤ (M 58 6) → ow_O (EM A L N) M (M 58 6) 7 ∧ ((ow_gv (EM A L N) M (M 58 6) 3) ≠ 0 → ow_At C (EM A L N) (d + 1) mX9_workOut 22 [(0, (3, 58)), (1, (0, l1)), (2, (0, l2))] [(0, 0)] (0, 0) M K) ∧ ((ow_gv (EM A L N) M (M 58 6) 3) = 0 → ow_At C (EM A L N) (d + 1) mX9_workOut 22 [(0, (3, 58)), (1, (0, l1)), (2, (0, l2))] [(0, 1)] (0, 0) M K))) : ow_At C (EM A L N) (d + 1) mX9_workOut 0 [(0, (3, 58)), (1, (0, l1)), (2, (0, l2))] [] (0, 0) M K := by
  refine ow_aload_n (pc' := 1) (x := 58) dX9_workOut_0 rfl rfl ?_
  refine ow_getf3 (pc' := 4) (t := 3) (ji := 6) (val := M 58 6) dX9_workOut_1 fRX9_22 rfl rfl rfl (of_eq_true eo58) eg58_6 ?_
  refine ow_ifnull (pc' := 7) (tg := 17) dX9_workOut_4 rfl rfl (fun hc => ?_) (fun hc => ?_)
  · have h := h.1 hc
    refine ow_iconst (pc' := 18) (n := 1) dX9_workOut_17 rfl rfl ?_
    refine ow_goto (tg := 22) dX9_workOut_18 rfl ?_
    exact h
  · have h := h.2 hc
    refine ow_aload_n (pc' := 8) (x := 58) dX9_workOut_7 rfl rfl ?_
    refine ow_getf3 (pc' := 11) (t := 3) (ji := 6) (val := M 58 6) dX9_workOut_8 fRX9_22 rfl rfl rfl (of_eq_true eo58) eg58_6 ?_
    obtain ⟨w, h⟩ := h
    refine ow_getf2 (pc' := 14) (t := 0) (ji := 3) dX9_workOut_11 fRX9_78 rfl rfl rfl w ?_
    refine ow_ifne (pc' := 17) (tg := 21) dX9_workOut_14 rfl rfl (fun hc => ?_) (fun hc => ?_)
    · have h := h.1 hc
      refine ow_iconst (pc' := 22) (n := 0) dX9_workOut_21 rfl rfl ?_
      exact h
    · have h := h.2 hc
      refine ow_iconst (pc' := 18) (n := 1) dX9_workOut_17 rfl rfl ?_
      refine ow_goto (tg := 22) dX9_workOut_18 rfl ?_
      exact h
set_option maxRecDepth 20000 in
theorem cX9_workOut_22 {C : ow_C} {A L N : Int} {d : Nat} {M : ow_M} {K : Int → ow_M → Prop} {l1 l2 s0 : Int} (h : ((M 58 6) < 0 → ow_At C (EM A L N) (d + 1) mX9_workOut 40 [(0, (3, 58)), (1, (0, l1)), (2, (0, l2)), (3, (0, s0))] [] (0, 0) M K) ∧ (0 ≤ (M 58 6) → ow_O (EM A L N) M (M 58 6) 7 ∧ ((ow_gv (EM A L N) M (M 58 6) 6) ≠ 0 → (0 ≤ l1 ∧ l1 < (8 * L * A * A)) ∧ ∀ N1, N1 = ow_up M 62 l1 0 → ow_At C (EM A L N) (d + 1) mX9_workOut 57 [(0, (3, 58)), (1, (0, l1)), (2, (0, l2)), (3, (0, s0)), (4, (0, 0)), (5, (0, 0))] [] (0, 0) N1 K) ∧ ((ow_gv (EM A L N) M (M 58 6) 6) = 0 → ow_At C (EM A L N) (d + 1) mX9_workOut 40 [(0, (3, 58)), (1, (0, l1)), (2, (0, l2)), (3, (0, s0))] [] (0, 0) M K))) : ow_At C (EM A L N) (d + 1) mX9_workOut 22 [(0, (3, 58)), (1, (0, l1)), (2, (0, l2))] [(0, s0)] (0, 0) M K := by
  refine ow_istore_n (pc' := 23) (lv' := [(0, (3, 58)), (1, (0, l1)), (2, (0, l2)), (3, (0, s0))]) dX9_workOut_22 rfl rfl rfl ?_
  refine ow_aload_n (pc' := 24) (x := 58) dX9_workOut_23 rfl rfl ?_
  refine ow_getf3 (pc' := 27) (t := 3) (ji := 6) (val := M 58 6) dX9_workOut_24 fRX9_22 rfl rfl rfl (of_eq_true eo58) eg58_6 ?_
  refine ow_ifnull (pc' := 30) (tg := 40) dX9_workOut_27 rfl rfl (fun hc => ?_) (fun hc => ?_)
  · have h := h.1 hc
    exact h
  · have h := h.2 hc
    refine ow_aload_n (pc' := 31) (x := 58) dX9_workOut_30 rfl rfl ?_
    refine ow_getf3 (pc' := 34) (t := 3) (ji := 6) (val := M 58 6) dX9_workOut_31 fRX9_22 rfl rfl rfl (of_eq_true eo58) eg58_6 ?_
    obtain ⟨w, h⟩ := h
    refine ow_getf2 (pc' := 37) (t := 0) (ji := 6) dX9_workOut_34 fRX9_81 rfl rfl rfl w ?_
    refine ow_ifne (pc' := 40) (tg := 44) dX9_workOut_37 rfl rfl (fun hc => ?_) (fun hc => ?_)
    · have h := h.1 hc
      refine ow_iconst (pc' := 45) (n := 0) dX9_workOut_44 rfl rfl ?_
      refine ow_istore (pc' := 47) (lv' := [(0, (3, 58)), (1, (0, l1)), (2, (0, l2)), (3, (0, s0)), (4, (0, 0))]) dX9_workOut_45 rfl rfl rfl ?_
      refine ow_aload_n (pc' := 48) (x := 58) dX9_workOut_47 rfl rfl ?_
      refine ow_getf3 (pc' := 51) (t := 3) (ji := 3) (val := 62) dX9_workOut_48 fRX9_41 rfl rfl rfl (of_eq_true eo58) eg58_3 ?_
      refine ow_iload_n (pc' := 52) (x := l1) dX9_workOut_51 rfl rfl ?_
      refine ow_iconst (pc' := 53) (n := 0) dX9_workOut_52 rfl rfl ?_
      obtain ⟨vv1, h⟩ := h
      refine ow_iastore2 (pc' := 54) dX9_workOut_53 rfl (Eq.mpr (er62 _) vv1) (of_eq_true (en62 _)) (fun N1 eN1 => ?_)
      have h := h N1 eN1
      refine ow_iconst (pc' := 55) (n := 0) dX9_workOut_54 rfl rfl ?_
      refine ow_istore (pc' := 57) (lv' := [(0, (3, 58)), (1, (0, l1)), (2, (0, l2)), (3, (0, s0)), (4, (0, 0)), (5, (0, 0))]) dX9_workOut_55 rfl rfl rfl ?_
      exact h
    · have h := h.2 hc
      exact h
set_option maxRecDepth 20000 in
theorem cX9_workOut_40 {C : ow_C} {A L N : Int} {d : Nat} {M : ow_M} {K : Int → ow_M → Prop} {l1 l2 l3 : Int} (h : (0 ≤ l1 ∧ l1 < (8 * L * A * A)) ∧ ∀ N1, N1 = ow_up M 62 l1 0 → ow_At C (EM A L N) (d + 1) mX9_workOut 57 [(0, (3, 58)), (1, (0, l1)), (2, (0, l2)), (3, (0, l3)), (4, (0, 1)), (5, (0, 0))] [] (0, 0) N1 K) : ow_At C (EM A L N) (d + 1) mX9_workOut 40 [(0, (3, 58)), (1, (0, l1)), (2, (0, l2)), (3, (0, l3))] [] (0, 0) M K := by
  refine ow_iconst (pc' := 41) (n := 1) dX9_workOut_40 rfl rfl ?_
  refine ow_goto (tg := 45) dX9_workOut_41 rfl ?_
  refine ow_istore (pc' := 47) (lv' := [(0, (3, 58)), (1, (0, l1)), (2, (0, l2)), (3, (0, l3)), (4, (0, 1))]) dX9_workOut_45 rfl rfl rfl ?_
  refine ow_aload_n (pc' := 48) (x := 58) dX9_workOut_47 rfl rfl ?_
  refine ow_getf3 (pc' := 51) (t := 3) (ji := 3) (val := 62) dX9_workOut_48 fRX9_41 rfl rfl rfl (of_eq_true eo58) eg58_3 ?_
  refine ow_iload_n (pc' := 52) (x := l1) dX9_workOut_51 rfl rfl ?_
  refine ow_iconst (pc' := 53) (n := 0) dX9_workOut_52 rfl rfl ?_
  obtain ⟨vv1, h⟩ := h
  refine ow_iastore2 (pc' := 54) dX9_workOut_53 rfl (Eq.mpr (er62 _) vv1) (of_eq_true (en62 _)) (fun N1 eN1 => ?_)
  have h := h N1 eN1
  refine ow_iconst (pc' := 55) (n := 0) dX9_workOut_54 rfl rfl ?_
  refine ow_istore (pc' := 57) (lv' := [(0, (3, 58)), (1, (0, l1)), (2, (0, l2)), (3, (0, l3)), (4, (0, 1)), (5, (0, 0))]) dX9_workOut_55 rfl rfl rfl ?_
  exact h
set_option maxRecDepth 20000 in
theorem cX9_workOut_57 {C : ow_C} {A L N : Int} {d : Nat} {M : ow_M} {K : Int → ow_M → Prop} {l1 l2 l3 l4 l5 : Int} (h : ((L + 1) ≤ l5 → K 0 M) ∧ (l5 < (L + 1) → ow_I (l5 - 1) ∧ ∀ N1, N1 = ow_up M 60 4 (l5 - 1) → (l5 ≠ 0 → ow_I (l2 - (l5 - 1)) ∧ ow_I (-(l2 - (l5 - 1))) ∧ ow_At C (EM A L N) (d + 1) mX9_workOut 105 [(0, (3, 58)), (1, (0, l1)), (2, (0, l2)), (3, (0, l3)), (4, (0, l4)), (5, (0, l5))] [(0, ow_abs (l2 - (l5 - 1))), (0, 5), (3, 60)] (0, 0) N1 K) ∧ (l5 = 0 → ow_At C (EM A L N) (d + 1) mX9_workOut 105 [(0, (3, 58)), (1, (0, l1)), (2, (0, l2)), (3, (0, l3)), (4, (0, l4)), (5, (0, l5))] [(0, 0), (0, 5), (3, 60)] (0, 0) N1 K))) : ow_At C (EM A L N) (d + 1) mX9_workOut 57 [(0, (3, 58)), (1, (0, l1)), (2, (0, l2)), (3, (0, l3)), (4, (0, l4)), (5, (0, l5))] [] (0, 0) M K := by
  refine ow_iload (pc' := 59) (x := l5) dX9_workOut_57 rfl rfl ?_
  refine ow_aload_n (pc' := 60) (x := 58) dX9_workOut_59 rfl rfl ?_
  refine ow_getf3 (pc' := 63) (t := 0) (ji := 2) (val := (L + 1)) dX9_workOut_60 fRX9_35 rfl rfl rfl (of_eq_true eo58) eg58_2 ?_
  refine ow_icmpge (pc' := 66) (tg := 231) dX9_workOut_63 rfl rfl (fun hc => ?_) (fun hc => ?_)
  · have h := h.1 hc
    exact ow_vret dX9_workOut_231 rfl rfl h
  · have h := h.2 hc
    refine ow_aload_n (pc' := 67) (x := 58) dX9_workOut_66 rfl rfl ?_
    refine ow_getf3 (pc' := 70) (t := 3) (ji := 1) (val := 59) dX9_workOut_67 fRX9_12 rfl rfl rfl (of_eq_true eo58) eg58_1 ?_
    refine ow_getf3 (pc' := 73) (t := 3) (ji := 0) (val := 60) dX9_workOut_70 fRX9_67 rfl rfl rfl (of_eq_true eo59) eg59_0 ?_
    refine ow_iconst (pc' := 74) (n := 4) dX9_workOut_73 rfl rfl ?_
    refine ow_iload (pc' := 76) (x := l5) dX9_workOut_74 rfl rfl ?_
    refine ow_iconst (pc' := 77) (n := 1) dX9_workOut_76 rfl rfl ?_
    obtain ⟨vv1, h⟩ := h
    refine ow_isub (pc' := 78) dX9_workOut_77 vv1 rfl ?_
    refine ow_iastore2 (pc' := 79) dX9_workOut_78 rfl (Eq.mpr (er60 _) ⟨by decide, by decide⟩) (of_eq_true (en60 _)) (fun N1 eN1 => ?_)
    have h := h N1 eN1
    refine ow_aload_n (pc' := 80) (x := 58) dX9_workOut_79 rfl rfl ?_
    refine ow_getf3 (pc' := 83) (t := 3) (ji := 1) (val := 59) dX9_workOut_80 fRX9_12 rfl rfl rfl (of_eq_true eo58) eg58_1 ?_
    refine ow_getf3 (pc' := 86) (t := 3) (ji := 0) (val := 60) dX9_workOut_83 fRX9_67 rfl rfl rfl (of_eq_true eo59) eg59_0 ?_
    refine ow_iconst (pc' := 87) (n := 5) dX9_workOut_86 rfl rfl ?_
    refine ow_iload (pc' := 89) (x := l5) dX9_workOut_87 rfl rfl ?_
    refine ow_ifne (pc' := 92) (tg := 96) dX9_workOut_89 rfl rfl (fun hc => ?_) (fun hc => ?_)
    · have h := h.1 hc
      refine ow_iload_n (pc' := 97) (x := l2) dX9_workOut_96 rfl rfl ?_
      refine ow_iload (pc' := 99) (x := l5) dX9_workOut_97 rfl rfl ?_
      refine ow_iconst (pc' := 100) (n := 1) dX9_workOut_99 rfl rfl ?_
      refine ow_isub (pc' := 101) dX9_workOut_100 vv1 rfl ?_
      obtain ⟨vv2, h⟩ := h
      refine ow_isub (pc' := 102) dX9_workOut_101 vv2 rfl ?_
      obtain ⟨w, h⟩ := h
      refine ow_mabs (pc' := 105) dX9_workOut_102 lRX9_84 ow_mA1 ow_mi0 ow_mA2 rfl rfl w ?_
      exact h
    · have h := h.2 hc
      refine ow_iconst (pc' := 93) (n := 0) dX9_workOut_92 rfl rfl ?_
      refine ow_goto (tg := 105) dX9_workOut_93 rfl ?_
      exact h
set_option maxRecDepth 20000 in
theorem cX9_workOut_105 {C : ow_C} {A L N : Int} {d : Nat} {M : ow_M} {K : Int → ow_M → Prop} {l1 l2 l3 l4 l5 s0 s1 : Int} (h : (0 ≤ s1 ∧ s1 < 6) ∧ ∀ N1, N1 = ow_up M 60 s1 s0 → (l3 ≠ 0 → ow_At C (EM A L N) (d + 1) mX9_workOut 144 [(0, (3, 58)), (1, (0, l1)), (2, (0, l2)), (3, (0, l3)), (4, (0, l4)), (5, (0, l5))] [] (0, 0) N1 K) ∧ (l3 = 0 → ow_O (EM A L N) N1 (N1 58 6) 7 ∧ ow_O (EM A L N) N1 (N1 58 6) 7 ∧ ow_O (EM A L N) N1 (N1 58 6) 7 ∧ ow_Sp C (EM A L N) d mX3_value (0, 0) [(3, 59), (3, ow_gv (EM A L N) N1 (N1 58 6) 0), (0, ow_gv (EM A L N) N1 (N1 58 6) 4), (0, ow_gv (EM A L N) N1 (N1 58 6) 5)] N1 (fun r2 N2 => (r2 = 0 → ow_I (l1 * (L + 1)) ∧ ow_I ((l1 * (L + 1)) + l5) ∧ (0 ≤ ((l1 * (L + 1)) + l5) ∧ ((l1 * (L + 1)) + l5) < (8 * L * A * A * (L + 1))) ∧ ∀ N3, N3 = ow_up N2 63 ((l1 * (L + 1)) + l5) 0 → ow_I (l5 + 1) ∧ ow_At C (EM A L N) (d + 1) mX9_workOut 57 [(0, (3, 58)), (1, (0, l1)), (2, (0, l2)), (3, (0, l3)), (4, (0, l4)), (5, (0, l5 + 1))] [] (0, 0) N3 K) ∧ (r2 ≠ 0 → ow_At C (EM A L N) (d + 1) mX9_workOut 144 [(0, (3, 58)), (1, (0, l1)), (2, (0, l2)), (3, (0, l3)), (4, (0, l4)), (5, (0, l5))] [] (0, 0) N2 K)))) : ow_At C (EM A L N) (d + 1) mX9_workOut 105 [(0, (3, 58)), (1, (0, l1)), (2, (0, l2)), (3, (0, l3)), (4, (0, l4)), (5, (0, l5))] [(0, s0), (0, s1), (3, 60)] (0, 0) M K := by
  obtain ⟨vv1, h⟩ := h
  refine ow_iastore2 (pc' := 106) dX9_workOut_105 rfl (Eq.mpr (er60 _) vv1) (of_eq_true (en60 _)) (fun N1 eN1 => ?_)
  have h := h N1 eN1
  refine ow_iconst (pc' := 107) (n := 0) dX9_workOut_106 rfl rfl ?_
  refine ow_istore (pc' := 109) (lv' := [(0, (3, 58)), (1, (0, l1)), (2, (0, l2)), (3, (0, l3)), (4, (0, l4)), (5, (0, l5)), (6, (0, 0))]) dX9_workOut_107 rfl rfl rfl ?_
  refine ow_iload_n (pc' := 110) (x := l3) dX9_workOut_109 rfl rfl ?_
  refine ow_ifne (pc' := 113) (tg := 144) dX9_workOut_110 rfl rfl (fun hc => ?_) (fun hc => ?_)
  · have h := h.1 hc
    refine ow_sub (lv' := [(0, (3, 58)), (1, (0, l1)), (2, (0, l2)), (3, (0, l3)), (4, (0, l4)), (5, (0, l5))]) [0, 1, 2, 3, 4, 5] rfl ?_
    exact h
  · have h := h.2 hc
    refine ow_aload_n (pc' := 114) (x := 58) dX9_workOut_113 rfl rfl ?_
    refine ow_getf3 (pc' := 117) (t := 3) (ji := 1) (val := 59) dX9_workOut_114 fRX9_12 rfl rfl rfl (of_eq_true eo58) eg58_1 ?_
    refine ow_aload_n (pc' := 118) (x := 58) dX9_workOut_117 rfl rfl ?_
    refine ow_getf3 (pc' := 121) (t := 3) (ji := 6) (val := N1 58 6) dX9_workOut_118 fRX9_22 rfl rfl rfl (of_eq_true eo58) eg58_6 ?_
    obtain ⟨w, h⟩ := h
    refine ow_getf2 (pc' := 124) (t := 3) (ji := 0) dX9_workOut_121 fRX9_90 rfl rfl rfl w ?_
    refine ow_aload_n (pc' := 125) (x := 58) dX9_workOut_124 rfl rfl ?_
    refine ow_getf3 (pc' := 128) (t := 3) (ji := 6) (val := N1 58 6) dX9_workOut_125 fRX9_22 rfl rfl rfl (of_eq_true eo58) eg58_6 ?_
    obtain ⟨w, h⟩ := h
    refine ow_getf2 (pc' := 131) (t := 0) (ji := 4) dX9_workOut_128 fRX9_93 rfl rfl rfl w ?_
    refine ow_aload_n (pc' := 132) (x := 58) dX9_workOut_131 rfl rfl ?_
    refine ow_getf3 (pc' := 135) (t := 3) (ji := 6) (val := N1 58 6) dX9_workOut_132 fRX9_22 rfl rfl rfl (of_eq_true eo58) eg58_6 ?_
    obtain ⟨w, h⟩ := h
    refine ow_getf2 (pc' := 138) (t := 0) (ji := 5) dX9_workOut_135 fRX9_96 rfl rfl rfl w ?_
    refine ow_callVp (z := mX3_value) (n := 3) (k := 3) (vs := [(3, ow_gv (EM A L N) N1 (N1 58 6) 0), (0, ow_gv (EM A L N) N1 (N1 58 6) 4), (0, ow_gv (EM A L N) N1 (N1 58 6) 5)]) (x := 59) (st := []) (pc' := 141) (b1 := (0, 0)) (b2 := (0, 0)) dX9_workOut_138 lRX9_99 kX3_value iX3_value rfl rfl rfl rfl rfl rfl (of_eq_true eo59) (ow_Sp.mono h (fun r2 N2 h => ?_))
    refine ow_ifeq (pc' := 144) (tg := 209) dX9_workOut_141 rfl rfl (fun hc => ?_) (fun hc => ?_)
    · have h := h.1 hc
      refine ow_aload_n (pc' := 210) (x := 58) dX9_workOut_209 rfl rfl ?_
      refine ow_getf3 (pc' := 213) (t := 3) (ji := 4) (val := 63) dX9_workOut_210 fRX9_45 rfl rfl rfl (of_eq_true eo58) eg58_4 ?_
      refine ow_iload_n (pc' := 214) (x := l1) dX9_workOut_213 rfl rfl ?_
      refine ow_aload_n (pc' := 215) (x := 58) dX9_workOut_214 rfl rfl ?_
      refine ow_getf3 (pc' := 218) (t := 0) (ji := 2) (val := (L + 1)) dX9_workOut_215 fRX9_35 rfl rfl rfl (of_eq_true eo58) eg58_2 ?_
      obtain ⟨vv2, h⟩ := h
      refine ow_imul (pc' := 219) dX9_workOut_218 vv2 rfl ?_
      refine ow_iload (pc' := 221) (x := l5) dX9_workOut_219 rfl rfl ?_
      obtain ⟨vv3, h⟩ := h
      refine ow_iadd (pc' := 222) dX9_workOut_221 vv3 rfl ?_
      refine ow_iload (pc' := 224) (x := 0) dX9_workOut_222 rfl rfl ?_
      obtain ⟨vv4, h⟩ := h
      refine ow_iastore2 (pc' := 225) dX9_workOut_224 rfl (Eq.mpr (er63 _) vv4) (of_eq_true (en63 _)) (fun N3 eN3 => ?_)
      have h := h N3 eN3
      obtain ⟨vv5, h⟩ := h
      refine ow_iinc (pc' := 228) (lv' := [(0, (3, 58)), (1, (0, l1)), (2, (0, l2)), (3, (0, l3)), (4, (0, l4)), (5, (0, l5 + 1)), (6, (0, 0))]) dX9_workOut_225 rfl vv5 rfl rfl rfl ?_
      refine ow_goto (tg := 57) dX9_workOut_228 rfl ?_
      refine ow_sub (lv' := [(0, (3, 58)), (1, (0, l1)), (2, (0, l2)), (3, (0, l3)), (4, (0, l4)), (5, (0, l5 + 1))]) [0, 1, 2, 3, 4, 5] rfl ?_
      exact h
    · have h := h.2 hc
      refine ow_sub (lv' := [(0, (3, 58)), (1, (0, l1)), (2, (0, l2)), (3, (0, l3)), (4, (0, l4)), (5, (0, l5))]) [0, 1, 2, 3, 4, 5] rfl ?_
      exact h
set_option maxRecDepth 20000 in
theorem cX9_workOut_144 {C : ow_C} {A L N : Int} {d : Nat} {M : ow_M} {K : Int → ow_M → Prop} {l1 l2 l3 l4 l5 : Int} (h : (0 ≤ l1 ∧ l1 < (8 * L * A * A)) ∧ ∀ N1, N1 = ow_up M 62 l1 (ow_or (M 62 l1) (ow_shl 1 l5)) → (l4 = 0 → ow_O (EM A L N) N1 (N1 58 6) 7 ∧ ow_O (EM A L N) N1 (N1 58 6) 7 ∧ ow_O (EM A L N) N1 (N1 58 6) 7 ∧ ow_Sp C (EM A L N) d mX3_value (0, 0) [(3, 59), (3, ow_gv (EM A L N) N1 (N1 58 6) 0), (0, ow_gv (EM A L N) N1 (N1 58 6) 7), (0, ow_gv (EM A L N) N1 (N1 58 6) 8)] N1 (fun r2 N2 => ow_At C (EM A L N) (d + 1) mX9_workOut 194 [(0, (3, 58)), (1, (0, l1)), (2, (0, l2)), (3, (0, l3)), (4, (0, l4)), (5, (0, l5))] [(0, r2)] (0, 0) N2 K)) ∧ (l4 ≠ 0 → ow_At C (EM A L N) (d + 1) mX9_workOut 194 [(0, (3, 58)), (1, (0, l1)), (2, (0, l2)), (3, (0, l3)), (4, (0, l4)), (5, (0, l5))] [(0, 1)] (0, 0) N1 K)) : ow_At C (EM A L N) (d + 1) mX9_workOut 144 [(0, (3, 58)), (1, (0, l1)), (2, (0, l2)), (3, (0, l3)), (4, (0, l4)), (5, (0, l5))] [] (0, 0) M K := by
  refine ow_aload_n (pc' := 145) (x := 58) dX9_workOut_144 rfl rfl ?_
  refine ow_getf3 (pc' := 148) (t := 3) (ji := 3) (val := 62) dX9_workOut_145 fRX9_41 rfl rfl rfl (of_eq_true eo58) eg58_3 ?_
  refine ow_iload_n (pc' := 149) (x := l1) dX9_workOut_148 rfl rfl ?_
  refine ow_dup2 (pc' := 150) dX9_workOut_149 rfl rfl rfl ?_
  obtain ⟨vv1, h⟩ := h
  refine ow_iaload3 (pc' := 151) (val := M 62 l1) dX9_workOut_150 rfl (Eq.mpr (er62 _) vv1) (ea62 _) ?_
  refine ow_iconst (pc' := 152) (n := 1) dX9_workOut_151 rfl rfl ?_
  refine ow_iload (pc' := 154) (x := l5) dX9_workOut_152 rfl rfl ?_
  refine ow_ishl (pc' := 155) dX9_workOut_154 rfl ?_
  refine ow_ior (pc' := 156) dX9_workOut_155 rfl ?_
  refine ow_iastore2 (pc' := 157) dX9_workOut_156 rfl (Eq.mpr (er62 _) vv1) (of_eq_true (en62 _)) (fun N1 eN1 => ?_)
  have h := h N1 eN1
  refine ow_iload (pc' := 159) (x := l4) dX9_workOut_157 rfl rfl ?_
  refine ow_ifeq (pc' := 162) (tg := 166) dX9_workOut_159 rfl rfl (fun hc => ?_) (fun hc => ?_)
  · have h := h.1 hc
    refine ow_aload_n (pc' := 167) (x := 58) dX9_workOut_166 rfl rfl ?_
    refine ow_getf3 (pc' := 170) (t := 3) (ji := 1) (val := 59) dX9_workOut_167 fRX9_12 rfl rfl rfl (of_eq_true eo58) eg58_1 ?_
    refine ow_aload_n (pc' := 171) (x := 58) dX9_workOut_170 rfl rfl ?_
    refine ow_getf3 (pc' := 174) (t := 3) (ji := 6) (val := N1 58 6) dX9_workOut_171 fRX9_22 rfl rfl rfl (of_eq_true eo58) eg58_6 ?_
    obtain ⟨w, h⟩ := h
    refine ow_getf2 (pc' := 177) (t := 3) (ji := 0) dX9_workOut_174 fRX9_90 rfl rfl rfl w ?_
    refine ow_aload_n (pc' := 178) (x := 58) dX9_workOut_177 rfl rfl ?_
    refine ow_getf3 (pc' := 181) (t := 3) (ji := 6) (val := N1 58 6) dX9_workOut_178 fRX9_22 rfl rfl rfl (of_eq_true eo58) eg58_6 ?_
    obtain ⟨w, h⟩ := h
    refine ow_getf2 (pc' := 184) (t := 0) (ji := 7) dX9_workOut_181 fRX9_103 rfl rfl rfl w ?_
    refine ow_aload_n (pc' := 185) (x := 58) dX9_workOut_184 rfl rfl ?_
    refine ow_getf3 (pc' := 188) (t := 3) (ji := 6) (val := N1 58 6) dX9_workOut_185 fRX9_22 rfl rfl rfl (of_eq_true eo58) eg58_6 ?_
    obtain ⟨w, h⟩ := h
    refine ow_getf2 (pc' := 191) (t := 0) (ji := 8) dX9_workOut_188 fRX9_106 rfl rfl rfl w ?_
    refine ow_callVp (z := mX3_value) (n := 3) (k := 3) (vs := [(3, ow_gv (EM A L N) N1 (N1 58 6) 0), (0, ow_gv (EM A L N) N1 (N1 58 6) 7), (0, ow_gv (EM A L N) N1 (N1 58 6) 8)]) (x := 59) (st := []) (pc' := 194) (b1 := (0, 0)) (b2 := (0, 0)) dX9_workOut_191 lRX9_99 kX3_value iX3_value rfl rfl rfl rfl rfl rfl (of_eq_true eo59) (ow_Sp.mono h (fun r2 N2 h => ?_))
    exact h
  · have h := h.2 hc
    refine ow_iconst (pc' := 163) (n := 1) dX9_workOut_162 rfl rfl ?_
    refine ow_goto (tg := 194) dX9_workOut_163 rfl ?_
    exact h
set_option maxRecDepth 20000 in
theorem cX9_workOut_194 {C : ow_C} {A L N : Int} {d : Nat} {M : ow_M} {K : Int → ow_M → Prop} {l1 l2 l3 l4 l5 s0 : Int} (h : ow_I (l1 * (L + 1)) ∧ ow_I ((l1 * (L + 1)) + l5) ∧ (0 ≤ ((l1 * (L + 1)) + l5) ∧ ((l1 * (L + 1)) + l5) < (8 * L * A * A * (L + 1))) ∧ ∀ N1, N1 = ow_up M 63 ((l1 * (L + 1)) + l5) (max 1 (min 9 s0)) → ow_I (l5 + 1) ∧ ow_At C (EM A L N) (d + 1) mX9_workOut 57 [(0, (3, 58)), (1, (0, l1)), (2, (0, l2)), (3, (0, l3)), (4, (0, l4)), (5, (0, l5 + 1))] [] (0, 0) N1 K) : ow_At C (EM A L N) (d + 1) mX9_workOut 194 [(0, (3, 58)), (1, (0, l1)), (2, (0, l2)), (3, (0, l3)), (4, (0, l4)), (5, (0, l5))] [(0, s0)] (0, 0) M K := by
  refine ow_istore (pc' := 196) (lv' := [(0, (3, 58)), (1, (0, l1)), (2, (0, l2)), (3, (0, l3)), (4, (0, l4)), (5, (0, l5)), (7, (0, s0))]) dX9_workOut_194 rfl rfl rfl ?_
  refine ow_iconst (pc' := 197) (n := 1) dX9_workOut_196 rfl rfl ?_
  refine ow_bipush (pc' := 199) (n := 9) dX9_workOut_197 rfl rfl ?_
  refine ow_iload (pc' := 201) (x := s0) dX9_workOut_199 rfl rfl ?_
  refine ow_mmin (pc' := 204) dX9_workOut_201 lRX9_109 ow_mN1 ow_mi0 ow_mN2 rfl rfl ?_
  refine ow_mmax (pc' := 207) dX9_workOut_204 lRX9_113 ow_mM1 ow_mi0 ow_mM2 rfl rfl ?_
  refine ow_istore (pc' := 209) (lv' := [(0, (3, 58)), (1, (0, l1)), (2, (0, l2)), (3, (0, l3)), (4, (0, l4)), (5, (0, l5)), (6, (0, max 1 (min 9 s0))), (7, (0, s0))]) dX9_workOut_207 rfl rfl rfl ?_
  refine ow_aload_n (pc' := 210) (x := 58) dX9_workOut_209 rfl rfl ?_
  refine ow_getf3 (pc' := 213) (t := 3) (ji := 4) (val := 63) dX9_workOut_210 fRX9_45 rfl rfl rfl (of_eq_true eo58) eg58_4 ?_
  refine ow_iload_n (pc' := 214) (x := l1) dX9_workOut_213 rfl rfl ?_
  refine ow_aload_n (pc' := 215) (x := 58) dX9_workOut_214 rfl rfl ?_
  refine ow_getf3 (pc' := 218) (t := 0) (ji := 2) (val := (L + 1)) dX9_workOut_215 fRX9_35 rfl rfl rfl (of_eq_true eo58) eg58_2 ?_
  obtain ⟨vv1, h⟩ := h
  refine ow_imul (pc' := 219) dX9_workOut_218 vv1 rfl ?_
  refine ow_iload (pc' := 221) (x := l5) dX9_workOut_219 rfl rfl ?_
  obtain ⟨vv2, h⟩ := h
  refine ow_iadd (pc' := 222) dX9_workOut_221 vv2 rfl ?_
  refine ow_iload (pc' := 224) (x := max 1 (min 9 s0)) dX9_workOut_222 rfl rfl ?_
  obtain ⟨vv3, h⟩ := h
  refine ow_iastore2 (pc' := 225) dX9_workOut_224 rfl (Eq.mpr (er63 _) vv3) (of_eq_true (en63 _)) (fun N1 eN1 => ?_)
  have h := h N1 eN1
  obtain ⟨vv4, h⟩ := h
  refine ow_iinc (pc' := 228) (lv' := [(0, (3, 58)), (1, (0, l1)), (2, (0, l2)), (3, (0, l3)), (4, (0, l4)), (5, (0, l5 + 1)), (6, (0, max 1 (min 9 s0))), (7, (0, s0))]) dX9_workOut_225 rfl vv4 rfl rfl rfl ?_
  refine ow_goto (tg := 57) dX9_workOut_228 rfl ?_
  refine ow_sub (lv' := [(0, (3, 58)), (1, (0, l1)), (2, (0, l2)), (3, (0, l3)), (4, (0, l4)), (5, (0, l5 + 1))]) [0, 1, 2, 3, 4, 5] rfl ?_
  exact h
theorem fX9_workOut {C : ow_C} {A L N : Int} {d : Nat} {M : ow_M} {K : Int → ow_M → Prop} {l1 l2 : Int} (h : ((M 58 6) < 0 → ow_At C (EM A L N) (d + 1) mX9_workOut 22 [(0, (3, 58)), (1, (0, l1)), (2, (0, l2))] [(0, 1)] (0, 0) M K) ∧ (0 ≤ (M 58 6) → ow_O (EM A L N) M (M 58 6) 7 ∧ ((ow_gv (EM A L N) M (M 58 6) 3) ≠ 0 → ow_At C (EM A L N) (d + 1) mX9_workOut 22 [(0, (3, 58)), (1, (0, l1)), (2, (0, l2))] [(0, 0)] (0, 0) M K) ∧ ((ow_gv (EM A L N) M (M 58 6) 3) = 0 → ow_At C (EM A L N) (d + 1) mX9_workOut 22 [(0, (3, 58)), (1, (0, l1)), (2, (0, l2))] [(0, 1)] (0, 0) M K))) : ow_Sp C (EM A L N) (d + 1) mX9_workOut (0, 0) [(3, 58), (0, l1), (0, l2)] M K := ow_enter (by decide +kernel) rfl rfl (cX9_workOut_0 h)
set_option maxRecDepth 20000 in
theorem cX9_changesOf_0 {C : ow_C} {A L N : Int} {d : Nat} {M : ow_M} {K : Int → ow_M → Prop} {l1 l2 l3 : Int} (h : ow_I (l1 * L) ∧ ow_I ((l1 * L) + l2) ∧ ow_I (((l1 * L) + l2) * A) ∧ ow_I ((((l1 * L) + l2) * A) + l3) ∧ ow_I (((((l1 * L) + l2) * A) + l3) * A) ∧ K (((((l1 * L) + l2) * A) + l3) * A) M) : ow_At C (EM A L N) d mX9_changesOf 0 [(0, (3, 58)), (1, (0, l1)), (2, (0, l2)), (3, (0, l3))] [] (0, 0) M K := by
  refine ow_iload_n (pc' := 1) (x := l1) dX9_changesOf_0 rfl rfl ?_
  refine ow_aload_n (pc' := 2) (x := 58) dX9_changesOf_1 rfl rfl ?_
  refine ow_getf3 (pc' := 5) (t := 3) (ji := 0) (val := 3) dX9_changesOf_2 fRX9_26 rfl rfl rfl (of_eq_true eo58) eg58_0 ?_
  refine ow_getf3 (pc' := 8) (t := 0) (ji := 1) (val := L) dX9_changesOf_5 fRX9_30 rfl rfl rfl (of_eq_true eo3) eg3_1 ?_
  obtain ⟨vv1, h⟩ := h
  refine ow_imul (pc' := 9) dX9_changesOf_8 vv1 rfl ?_
  refine ow_iload_n (pc' := 10) (x := l2) dX9_changesOf_9 rfl rfl ?_
  obtain ⟨vv2, h⟩ := h
  refine ow_iadd (pc' := 11) dX9_changesOf_10 vv2 rfl ?_
  refine ow_aload_n (pc' := 12) (x := 58) dX9_changesOf_11 rfl rfl ?_
  refine ow_getf3 (pc' := 15) (t := 3) (ji := 0) (val := 3) dX9_changesOf_12 fRX9_26 rfl rfl rfl (of_eq_true eo58) eg58_0 ?_
  refine ow_getf3 (pc' := 18) (t := 0) (ji := 0) (val := A) dX9_changesOf_15 fRX9_38 rfl rfl rfl (of_eq_true eo3) eg3_0 ?_
  obtain ⟨vv3, h⟩ := h
  refine ow_imul (pc' := 19) dX9_changesOf_18 vv3 rfl ?_
  refine ow_iload_n (pc' := 20) (x := l3) dX9_changesOf_19 rfl rfl ?_
  obtain ⟨vv4, h⟩ := h
  refine ow_iadd (pc' := 21) dX9_changesOf_20 vv4 rfl ?_
  refine ow_aload_n (pc' := 22) (x := 58) dX9_changesOf_21 rfl rfl ?_
  refine ow_getf3 (pc' := 25) (t := 3) (ji := 0) (val := 3) dX9_changesOf_22 fRX9_26 rfl rfl rfl (of_eq_true eo58) eg58_0 ?_
  refine ow_getf3 (pc' := 28) (t := 0) (ji := 0) (val := A) dX9_changesOf_25 fRX9_38 rfl rfl rfl (of_eq_true eo3) eg3_0 ?_
  obtain ⟨vv5, h⟩ := h
  refine ow_imul (pc' := 29) dX9_changesOf_28 vv5 rfl ?_
  exact ow_iret dX9_changesOf_29 rfl rfl h
theorem fX9_changesOf {C : ow_C} {A L N : Int} {d : Nat} {M : ow_M} {K : Int → ow_M → Prop} {l1 l2 l3 : Int} (h : ow_I (l1 * L) ∧ ow_I ((l1 * L) + l2) ∧ ow_I (((l1 * L) + l2) * A) ∧ ow_I ((((l1 * L) + l2) * A) + l3) ∧ ow_I (((((l1 * L) + l2) * A) + l3) * A) ∧ K (((((l1 * L) + l2) * A) + l3) * A) M) : ow_Sp C (EM A L N) d mX9_changesOf (0, 0) [(3, 58), (0, l1), (0, l2), (0, l3)] M K := ow_enter (by decide +kernel) rfl rfl (cX9_changesOf_0 h)
set_option maxRecDepth 20000 in
theorem cX9_carry_0 {C : ow_C} {A L N : Int} {d : Nat} {M : ow_M} {K : Int → ow_M → Prop} {l1 l2 l3 : Int} (h : ow_I (l1 * 19) ∧ ow_I ((l1 * 19) + 1) ∧ ow_At C (EM A L N) (d + 1) mX9_carry 17 [(0, (3, 58)), (3, (0, l3)), (4, (0, (l1 * 19) + 1)), (5, (0, l2)), (6, (0, 0)), (7, (0, 0))] [] (0, 0) M K) : ow_At C (EM A L N) (d + 1) mX9_carry 0 [(0, (3, 58)), (1, (0, l1)), (2, (0, l2)), (3, (0, l3))] [] (0, 0) M K := by
  refine ow_iload_n (pc' := 1) (x := l1) dX9_carry_0 rfl rfl ?_
  refine ow_bipush (pc' := 3) (n := 19) dX9_carry_1 rfl rfl ?_
  obtain ⟨vv1, h⟩ := h
  refine ow_imul (pc' := 4) dX9_carry_3 vv1 rfl ?_
  refine ow_iconst (pc' := 5) (n := 1) dX9_carry_4 rfl rfl ?_
  obtain ⟨vv2, h⟩ := h
  refine ow_iadd (pc' := 6) dX9_carry_5 vv2 rfl ?_
  refine ow_istore (pc' := 8) (lv' := [(0, (3, 58)), (1, (0, l1)), (2, (0, l2)), (3, (0, l3)), (4, (0, (l1 * 19) + 1))]) dX9_carry_6 rfl rfl rfl ?_
  refine ow_iload_n (pc' := 9) (x := l2) dX9_carry_8 rfl rfl ?_
  refine ow_istore (pc' := 11) (lv' := [(0, (3, 58)), (1, (0, l1)), (2, (0, l2)), (3, (0, l3)), (4, (0, (l1 * 19) + 1)), (5, (0, l2))]) dX9_carry_9 rfl rfl rfl ?_
  refine ow_iconst (pc' := 12) (n := 0) dX9_carry_11 rfl rfl ?_
  refine ow_istore (pc' := 14) (lv' := [(0, (3, 58)), (1, (0, l1)), (2, (0, l2)), (3, (0, l3)), (4, (0, (l1 * 19) + 1)), (5, (0, l2)), (6, (0, 0))]) dX9_carry_12 rfl rfl rfl ?_
  refine ow_iconst (pc' := 15) (n := 0) dX9_carry_14 rfl rfl ?_
  refine ow_istore (pc' := 17) (lv' := [(0, (3, 58)), (1, (0, l1)), (2, (0, l2)), (3, (0, l3)), (4, (0, (l1 * 19) + 1)), (5, (0, l2)), (6, (0, 0)), (7, (0, 0))]) dX9_carry_15 rfl rfl rfl ?_
  refine ow_sub (lv' := [(0, (3, 58)), (3, (0, l3)), (4, (0, (l1 * 19) + 1)), (5, (0, l2)), (6, (0, 0)), (7, (0, 0))]) [0, 3, 4, 5, 6, 7] rfl ?_
  exact h
set_option maxRecDepth 20000 in
theorem cX9_carry_17 {C : ow_C} {A L N : Int} {d : Nat} {M : ow_M} {K : Int → ow_M → Prop} {l3 l4 l5 l6 l7 : Int} (h : (l3 ≤ l7 → K l5 M) ∧ (l7 < l3 → ow_Sp C (EM A L N) d mX9_choice (0, 0) [(3, 58), (0, l7), (0, l5), (0, l6), (0, (-1))] M (fun r1 N1 => (0 < r1 → r1 ≠ 0 ∧ ow_I (Int.tdiv l4 r1) ∧ ow_I (Int.tmod l4 r1) ∧ ow_Sp C (EM A L N) d mX9_choice (0, 0) [(3, 58), (0, l7), (0, l5), (0, l6), (0, Int.tmod l4 r1)] N1 (fun r2 N2 => ow_I (l4 * 211) ∧ ow_I ((l4 * 211) + 53) ∧ (30119 : Int) ≠ 0 ∧ ow_I (Int.tdiv ((l4 * 211) + 53) 30119) ∧ ow_I (Int.tmod ((l4 * 211) + 53) 30119) ∧ (10 : Int) ≠ 0 ∧ ow_I (Int.tdiv r2 10) ∧ (10 : Int) ≠ 0 ∧ ow_I (Int.tdiv r2 10) ∧ ow_I (Int.tmod r2 10) ∧ ow_Sp C (EM A L N) d mX10_changed (0, 0) [(3, 3), (0, l5), (0, Int.tdiv r2 10), (0, Int.tmod r2 10)] N2 (fun r3 N3 => (10 : Int) ≠ 0 ∧ ow_I (Int.tdiv r2 10) ∧ ow_I ((Int.tdiv r2 10) + 1) ∧ ow_I (l7 + 1) ∧ ow_At C (EM A L N) (d + 1) mX9_carry 17 [(0, (3, 58)), (3, (0, l3)), (4, (0, Int.tmod ((l4 * 211) + 53) 30119)), (5, (0, r3)), (6, (0, (Int.tdiv r2 10) + 1)), (7, (0, l7 + 1))] [] (0, 0) N3 K))) ∧ (r1 ≤ 0 → K l5 N1)))) : ow_At C (EM A L N) (d + 1) mX9_carry 17 [(0, (3, 58)), (3, (0, l3)), (4, (0, l4)), (5, (0, l5)), (6, (0, l6)), (7, (0, l7))] [] (0, 0) M K := by
  refine ow_iload (pc' := 19) (x := l7) dX9_carry_17 rfl rfl ?_
  refine ow_iload_n (pc' := 20) (x := l3) dX9_carry_19 rfl rfl ?_
  refine ow_icmpge (pc' := 23) (tg := 112) dX9_carry_20 rfl rfl (fun hc => ?_) (fun hc => ?_)
  · have h := h.1 hc
    refine ow_iload (pc' := 114) (x := l5) dX9_carry_112 rfl rfl ?_
    exact ow_iret dX9_carry_114 rfl rfl h
  · have h := h.2 hc
    refine ow_aload_n (pc' := 24) (x := 58) dX9_carry_23 rfl rfl ?_
    refine ow_iload (pc' := 26) (x := l7) dX9_carry_24 rfl rfl ?_
    refine ow_iload (pc' := 28) (x := l5) dX9_carry_26 rfl rfl ?_
    refine ow_iload (pc' := 30) (x := l6) dX9_carry_28 rfl rfl ?_
    refine ow_iconst (pc' := 31) (n := (-1)) dX9_carry_30 rfl rfl ?_
    refine ow_callVp (z := mX9_choice) (n := 4) (k := 9) (vs := [(0, l7), (0, l5), (0, l6), (0, (-1))]) (x := 58) (st := []) (pc' := 34) (b1 := (0, 0)) (b2 := (0, 0)) dX9_carry_31 lRX9_116 kX9_choice iX9_choice rfl rfl rfl rfl rfl rfl (of_eq_true eo58) (ow_Sp.mono h (fun r1 N1 h => ?_))
    refine ow_istore (pc' := 36) (lv' := [(0, (3, 58)), (3, (0, l3)), (4, (0, l4)), (5, (0, l5)), (6, (0, l6)), (7, (0, l7)), (8, (0, r1))]) dX9_carry_34 rfl rfl rfl ?_
    refine ow_iload (pc' := 38) (x := r1) dX9_carry_36 rfl rfl ?_
    refine ow_ifgt (pc' := 41) (tg := 44) dX9_carry_38 rfl rfl (fun hc => ?_) (fun hc => ?_)
    · have h := h.1 hc
      refine ow_aload_n (pc' := 45) (x := 58) dX9_carry_44 rfl rfl ?_
      refine ow_iload (pc' := 47) (x := l7) dX9_carry_45 rfl rfl ?_
      refine ow_iload (pc' := 49) (x := l5) dX9_carry_47 rfl rfl ?_
      refine ow_iload (pc' := 51) (x := l6) dX9_carry_49 rfl rfl ?_
      refine ow_iload (pc' := 53) (x := l4) dX9_carry_51 rfl rfl ?_
      refine ow_iload (pc' := 55) (x := r1) dX9_carry_53 rfl rfl ?_
      obtain ⟨w0, w, w1, h⟩ := h
      refine ow_irem (pc' := 56) dX9_carry_55 w0 w w1 rfl ?_
      refine ow_callVp (z := mX9_choice) (n := 4) (k := 9) (vs := [(0, l7), (0, l5), (0, l6), (0, Int.tmod l4 r1)]) (x := 58) (st := []) (pc' := 59) (b1 := (0, 0)) (b2 := (0, 0)) dX9_carry_56 lRX9_116 kX9_choice iX9_choice rfl rfl rfl rfl rfl rfl (of_eq_true eo58) (ow_Sp.mono h (fun r2 N2 h => ?_))
      refine ow_istore (pc' := 61) (lv' := [(0, (3, 58)), (3, (0, l3)), (4, (0, l4)), (5, (0, l5)), (6, (0, l6)), (7, (0, l7)), (8, (0, r1)), (9, (0, r2))]) dX9_carry_59 rfl rfl rfl ?_
      refine ow_iload (pc' := 63) (x := l4) dX9_carry_61 rfl rfl ?_
      refine ow_sipush (pc' := 66) (n := 211) dX9_carry_63 rfl rfl ?_
      obtain ⟨vv1, h⟩ := h
      refine ow_imul (pc' := 67) dX9_carry_66 vv1 rfl ?_
      refine ow_bipush (pc' := 69) (n := 53) dX9_carry_67 rfl rfl ?_
      obtain ⟨vv2, h⟩ := h
      refine ow_iadd (pc' := 70) dX9_carry_69 vv2 rfl ?_
      refine ow_sipush (pc' := 73) (n := 30119) dX9_carry_70 rfl rfl ?_
      obtain ⟨w0, w, w1, h⟩ := h
      refine ow_irem (pc' := 74) dX9_carry_73 w0 w w1 rfl ?_
      refine ow_istore (pc' := 76) (lv' := [(0, (3, 58)), (3, (0, l3)), (4, (0, Int.tmod ((l4 * 211) + 53) 30119)), (5, (0, l5)), (6, (0, l6)), (7, (0, l7)), (8, (0, r1)), (9, (0, r2))]) dX9_carry_74 rfl rfl rfl ?_
      refine ow_aload_n (pc' := 77) (x := 58) dX9_carry_76 rfl rfl ?_
      refine ow_getf3 (pc' := 80) (t := 3) (ji := 0) (val := 3) dX9_carry_77 fRX9_26 rfl rfl rfl (of_eq_true eo58) eg58_0 ?_
      refine ow_iload (pc' := 82) (x := l5) dX9_carry_80 rfl rfl ?_
      refine ow_iload (pc' := 84) (x := r2) dX9_carry_82 rfl rfl ?_
      refine ow_bipush (pc' := 86) (n := 10) dX9_carry_84 rfl rfl ?_
      obtain ⟨w0, w, h⟩ := h
      refine ow_idiv (pc' := 87) dX9_carry_86 w0 w rfl ?_
      refine ow_iload (pc' := 89) (x := r2) dX9_carry_87 rfl rfl ?_
      refine ow_bipush (pc' := 91) (n := 10) dX9_carry_89 rfl rfl ?_
      obtain ⟨w0, w, w1, h⟩ := h
      refine ow_irem (pc' := 92) dX9_carry_91 w0 w w1 rfl ?_
      refine ow_callVp (z := mX10_changed) (n := 3) (k := 10) (vs := [(0, l5), (0, Int.tdiv r2 10), (0, Int.tmod r2 10)]) (x := 3) (st := []) (pc' := 95) (b1 := (0, 0)) (b2 := (0, 0)) dX9_carry_92 lRX9_120 kX10_changed iX10_changed rfl rfl rfl rfl rfl rfl (of_eq_true eo3) (ow_Sp.mono h (fun r3 N3 h => ?_))
      refine ow_istore (pc' := 97) (lv' := [(0, (3, 58)), (3, (0, l3)), (4, (0, Int.tmod ((l4 * 211) + 53) 30119)), (5, (0, r3)), (6, (0, l6)), (7, (0, l7)), (8, (0, r1)), (9, (0, r2))]) dX9_carry_95 rfl rfl rfl ?_
      refine ow_iload (pc' := 99) (x := r2) dX9_carry_97 rfl rfl ?_
      refine ow_bipush (pc' := 101) (n := 10) dX9_carry_99 rfl rfl ?_
      obtain ⟨w0, w, h⟩ := h
      refine ow_idiv (pc' := 102) dX9_carry_101 w0 w rfl ?_
      refine ow_iconst (pc' := 103) (n := 1) dX9_carry_102 rfl rfl ?_
      obtain ⟨vv3, h⟩ := h
      refine ow_iadd (pc' := 104) dX9_carry_103 vv3 rfl ?_
      refine ow_istore (pc' := 106) (lv' := [(0, (3, 58)), (3, (0, l3)), (4, (0, Int.tmod ((l4 * 211) + 53) 30119)), (5, (0, r3)), (6, (0, (Int.tdiv r2 10) + 1)), (7, (0, l7)), (8, (0, r1)), (9, (0, r2))]) dX9_carry_104 rfl rfl rfl ?_
      obtain ⟨vv4, h⟩ := h
      refine ow_iinc (pc' := 109) (lv' := [(0, (3, 58)), (3, (0, l3)), (4, (0, Int.tmod ((l4 * 211) + 53) 30119)), (5, (0, r3)), (6, (0, (Int.tdiv r2 10) + 1)), (7, (0, l7 + 1)), (8, (0, r1)), (9, (0, r2))]) dX9_carry_106 rfl vv4 rfl rfl rfl ?_
      refine ow_goto (tg := 17) dX9_carry_109 rfl ?_
      refine ow_sub (lv' := [(0, (3, 58)), (3, (0, l3)), (4, (0, Int.tmod ((l4 * 211) + 53) 30119)), (5, (0, r3)), (6, (0, (Int.tdiv r2 10) + 1)), (7, (0, l7 + 1))]) [0, 1, 2, 3, 4, 5] rfl ?_
      exact h
    · have h := h.2 hc
      refine ow_iload (pc' := 43) (x := l5) dX9_carry_41 rfl rfl ?_
      exact ow_iret dX9_carry_43 rfl rfl h
theorem fX9_carry {C : ow_C} {A L N : Int} {d : Nat} {M : ow_M} {K : Int → ow_M → Prop} {l1 l2 l3 : Int} (h : ow_I (l1 * 19) ∧ ow_I ((l1 * 19) + 1) ∧ ow_At C (EM A L N) (d + 1) mX9_carry 17 [(0, (3, 58)), (3, (0, l3)), (4, (0, (l1 * 19) + 1)), (5, (0, l2)), (6, (0, 0)), (7, (0, 0))] [] (0, 0) M K) : ow_Sp C (EM A L N) (d + 1) mX9_carry (0, 0) [(3, 58), (0, l1), (0, l2), (0, l3)] M K := ow_enter (by decide +kernel) rfl rfl (cX9_carry_0 h)
set_option maxRecDepth 20000 in
theorem cX9_choice_0 {C : ow_C} {A L N : Int} {d : Nat} {M : ow_M} {K : Int → ow_M → Prop} {l1 l2 l3 l4 : Int} (h : ow_At C (EM A L N) (d + 1) mX9_choice 6 [(0, (3, 58)), (1, (0, l1)), (2, (0, l2)), (3, (0, l3)), (4, (0, l4)), (5, (0, 0)), (6, (0, 0))] [] (0, 0) M K) : ow_At C (EM A L N) (d + 1) mX9_choice 0 [(0, (3, 58)), (1, (0, l1)), (2, (0, l2)), (3, (0, l3)), (4, (0, l4))] [] (0, 0) M K := by
  refine ow_iconst (pc' := 1) (n := 0) dX9_choice_0 rfl rfl ?_
  refine ow_istore (pc' := 3) (lv' := [(0, (3, 58)), (1, (0, l1)), (2, (0, l2)), (3, (0, l3)), (4, (0, l4)), (5, (0, 0))]) dX9_choice_1 rfl rfl rfl ?_
  refine ow_iconst (pc' := 4) (n := 0) dX9_choice_3 rfl rfl ?_
  refine ow_istore (pc' := 6) (lv' := [(0, (3, 58)), (1, (0, l1)), (2, (0, l2)), (3, (0, l3)), (4, (0, l4)), (5, (0, 0)), (6, (0, 0))]) dX9_choice_4 rfl rfl rfl ?_
  exact h
set_option maxRecDepth 20000 in
theorem cX9_choice_6 {C : ow_C} {A L N : Int} {d : Nat} {M : ow_M} {K : Int → ow_M → Prop} {l1 l2 l3 l4 l5 l6 : Int} (h : (L ≤ l6 → (l4 ≠ ((-1)) → K 0 M) ∧ (l4 = ((-1)) → K l5 M)) ∧ (l6 < L → ow_Sp C (EM A L N) d mX10_letter (0, 0) [(3, 3), (0, l2), (0, l6)] M (fun r1 N1 => ow_Sp C (EM A L N) d mX9_changesOf (0, 0) [(3, 58), (0, l1), (0, l6), (0, r1)] N1 (fun r2 N2 => ow_At C (EM A L N) (d + 1) mX9_choice 44 [(0, (3, 58)), (1, (0, l1)), (2, (0, l2)), (3, (0, l3)), (4, (0, l4)), (5, (0, l5)), (6, (0, l6)), (7, (0, r1)), (8, (0, r2)), (9, (0, 0))] [] (0, 0) N2 K)))) : ow_At C (EM A L N) (d + 1) mX9_choice 6 [(0, (3, 58)), (1, (0, l1)), (2, (0, l2)), (3, (0, l3)), (4, (0, l4)), (5, (0, l5)), (6, (0, l6))] [] (0, 0) M K := by
  refine ow_iload (pc' := 8) (x := l6) dX9_choice_6 rfl rfl ?_
  refine ow_aload_n (pc' := 9) (x := 58) dX9_choice_8 rfl rfl ?_
  refine ow_getf3 (pc' := 12) (t := 3) (ji := 0) (val := 3) dX9_choice_9 fRX9_26 rfl rfl rfl (of_eq_true eo58) eg58_0 ?_
  refine ow_getf3 (pc' := 15) (t := 0) (ji := 1) (val := L) dX9_choice_12 fRX9_30 rfl rfl rfl (of_eq_true eo3) eg3_1 ?_
  refine ow_icmpge (pc' := 18) (tg := 111) dX9_choice_15 rfl rfl (fun hc => ?_) (fun hc => ?_)
  · have h := h.1 hc
    refine ow_iload (pc' := 113) (x := l4) dX9_choice_111 rfl rfl ?_
    refine ow_iconst (pc' := 114) (n := (-1)) dX9_choice_113 rfl rfl ?_
    refine ow_icmpne (pc' := 117) (tg := 122) dX9_choice_114 rfl rfl (fun hc => ?_) (fun hc => ?_)
    · have h := h.1 hc
      refine ow_iconst (pc' := 123) (n := 0) dX9_choice_122 rfl rfl ?_
      exact ow_iret dX9_choice_123 rfl rfl h
    · have h := h.2 hc
      refine ow_iload (pc' := 119) (x := l5) dX9_choice_117 rfl rfl ?_
      refine ow_goto (tg := 123) dX9_choice_119 rfl ?_
      exact ow_iret dX9_choice_123 rfl rfl h
  · have h := h.2 hc
    refine ow_aload_n (pc' := 19) (x := 58) dX9_choice_18 rfl rfl ?_
    refine ow_getf3 (pc' := 22) (t := 3) (ji := 0) (val := 3) dX9_choice_19 fRX9_26 rfl rfl rfl (of_eq_true eo58) eg58_0 ?_
    refine ow_iload_n (pc' := 23) (x := l2) dX9_choice_22 rfl rfl ?_
    refine ow_iload (pc' := 25) (x := l6) dX9_choice_23 rfl rfl ?_
    refine ow_callVp (z := mX10_letter) (n := 2) (k := 10) (vs := [(0, l2), (0, l6)]) (x := 3) (st := []) (pc' := 28) (b1 := (0, 0)) (b2 := (0, 0)) dX9_choice_25 lRX9_123 kX10_letter iX10_letter rfl rfl rfl rfl rfl rfl (of_eq_true eo3) (ow_Sp.mono h (fun r1 N1 h => ?_))
    refine ow_istore (pc' := 30) (lv' := [(0, (3, 58)), (1, (0, l1)), (2, (0, l2)), (3, (0, l3)), (4, (0, l4)), (5, (0, l5)), (6, (0, l6)), (7, (0, r1))]) dX9_choice_28 rfl rfl rfl ?_
    refine ow_aload_n (pc' := 31) (x := 58) dX9_choice_30 rfl rfl ?_
    refine ow_iload_n (pc' := 32) (x := l1) dX9_choice_31 rfl rfl ?_
    refine ow_iload (pc' := 34) (x := l6) dX9_choice_32 rfl rfl ?_
    refine ow_iload (pc' := 36) (x := r1) dX9_choice_34 rfl rfl ?_
    refine ow_callVp (z := mX9_changesOf) (n := 3) (k := 9) (vs := [(0, l1), (0, l6), (0, r1)]) (x := 58) (st := []) (pc' := 39) (b1 := (0, 0)) (b2 := (0, 0)) dX9_choice_36 lRX9_70 kX9_changesOf iX9_changesOf rfl rfl rfl rfl rfl rfl (of_eq_true eo58) (ow_Sp.mono h (fun r2 N2 h => ?_))
    refine ow_istore (pc' := 41) (lv' := [(0, (3, 58)), (1, (0, l1)), (2, (0, l2)), (3, (0, l3)), (4, (0, l4)), (5, (0, l5)), (6, (0, l6)), (7, (0, r1)), (8, (0, r2))]) dX9_choice_39 rfl rfl rfl ?_
    refine ow_iconst (pc' := 42) (n := 0) dX9_choice_41 rfl rfl ?_
    refine ow_istore (pc' := 44) (lv' := [(0, (3, 58)), (1, (0, l1)), (2, (0, l2)), (3, (0, l3)), (4, (0, l4)), (5, (0, l5)), (6, (0, l6)), (7, (0, r1)), (8, (0, r2)), (9, (0, 0))]) dX9_choice_42 rfl rfl rfl ?_
    exact h
set_option maxRecDepth 20000 in
theorem cX9_choice_44 {C : ow_C} {A L N : Int} {d : Nat} {M : ow_M} {K : Int → ow_M → Prop} {l1 l2 l3 l4 l5 l6 l7 l8 l9 : Int} (h : (A ≤ l9 → ow_I (l6 + 1) ∧ ow_At C (EM A L N) (d + 1) mX9_choice 6 [(0, (3, 58)), (1, (0, l1)), (2, (0, l2)), (3, (0, l3)), (4, (0, l4)), (5, (0, l5)), (6, (0, l6 + 1))] [] (0, 0) M K) ∧ (l9 < A → (l9 = l7 → ow_I (l9 + 1) ∧ ow_At C (EM A L N) (d + 1) mX9_choice 44 [(0, (3, 58)), (1, (0, l1)), (2, (0, l2)), (3, (0, l3)), (4, (0, l4)), (5, (0, l5)), (6, (0, l6)), (7, (0, l7)), (8, (0, l8)), (9, (0, l9 + 1))] [] (0, 0) M K) ∧ (l9 ≠ l7 → ow_I (l8 + l9) ∧ (0 ≤ (l8 + l9) ∧ (l8 + l9) < (8 * L * A * A)) ∧ ((ow_and (ow_shr (M 62 (l8 + l9)) l3) 1) = 0 → ow_I (l9 + 1) ∧ ow_At C (EM A L N) (d + 1) mX9_choice 44 [(0, (3, 58)), (1, (0, l1)), (2, (0, l2)), (3, (0, l3)), (4, (0, l4)), (5, (0, l5)), (6, (0, l6)), (7, (0, l7)), (8, (0, l8)), (9, (0, l9 + 1))] [] (0, 0) M K) ∧ ((ow_and (ow_shr (M 62 (l8 + l9)) l3) 1) ≠ 0 → (l5 ≠ l4 → ow_I (l5 + 1) ∧ ow_I (l9 + 1) ∧ ow_At C (EM A L N) (d + 1) mX9_choice 44 [(0, (3, 58)), (1, (0, l1)), (2, (0, l2)), (3, (0, l3)), (4, (0, l4)), (5, (0, l5 + 1)), (6, (0, l6)), (7, (0, l7)), (8, (0, l8)), (9, (0, l9 + 1))] [] (0, 0) M K) ∧ (l5 = l4 → ow_I (10 * l6) ∧ ow_I ((10 * l6) + l9) ∧ K ((10 * l6) + l9) M))))) : ow_At C (EM A L N) (d + 1) mX9_choice 44 [(0, (3, 58)), (1, (0, l1)), (2, (0, l2)), (3, (0, l3)), (4, (0, l4)), (5, (0, l5)), (6, (0, l6)), (7, (0, l7)), (8, (0, l8)), (9, (0, l9))] [] (0, 0) M K := by
  refine ow_iload (pc' := 46) (x := l9) dX9_choice_44 rfl rfl ?_
  refine ow_aload_n (pc' := 47) (x := 58) dX9_choice_46 rfl rfl ?_
  refine ow_getf3 (pc' := 50) (t := 3) (ji := 0) (val := 3) dX9_choice_47 fRX9_26 rfl rfl rfl (of_eq_true eo58) eg58_0 ?_
  refine ow_getf3 (pc' := 53) (t := 0) (ji := 0) (val := A) dX9_choice_50 fRX9_38 rfl rfl rfl (of_eq_true eo3) eg3_0 ?_
  refine ow_icmpge (pc' := 56) (tg := 105) dX9_choice_53 rfl rfl (fun hc => ?_) (fun hc => ?_)
  · have h := h.1 hc
    obtain ⟨vv1, h⟩ := h
    refine ow_iinc (pc' := 108) (lv' := [(0, (3, 58)), (1, (0, l1)), (2, (0, l2)), (3, (0, l3)), (4, (0, l4)), (5, (0, l5)), (6, (0, l6 + 1)), (7, (0, l7)), (8, (0, l8)), (9, (0, l9))]) dX9_choice_105 rfl vv1 rfl rfl rfl ?_
    refine ow_goto (tg := 6) dX9_choice_108 rfl ?_
    refine ow_sub (lv' := [(0, (3, 58)), (1, (0, l1)), (2, (0, l2)), (3, (0, l3)), (4, (0, l4)), (5, (0, l5)), (6, (0, l6 + 1))]) [0, 1, 2, 3, 4, 5, 6] rfl ?_
    exact h
  · have h := h.2 hc
    refine ow_iload (pc' := 58) (x := l9) dX9_choice_56 rfl rfl ?_
    refine ow_iload (pc' := 60) (x := l7) dX9_choice_58 rfl rfl ?_
    refine ow_icmpeq (pc' := 63) (tg := 99) dX9_choice_60 rfl rfl (fun hc => ?_) (fun hc => ?_)
    · have h := h.1 hc
      obtain ⟨vv2, h⟩ := h
      refine ow_iinc (pc' := 102) (lv' := [(0, (3, 58)), (1, (0, l1)), (2, (0, l2)), (3, (0, l3)), (4, (0, l4)), (5, (0, l5)), (6, (0, l6)), (7, (0, l7)), (8, (0, l8)), (9, (0, l9 + 1))]) dX9_choice_99 rfl vv2 rfl rfl rfl ?_
      refine ow_goto (tg := 44) dX9_choice_102 rfl ?_
      exact h
    · have h := h.2 hc
      refine ow_aload_n (pc' := 64) (x := 58) dX9_choice_63 rfl rfl ?_
      refine ow_getf3 (pc' := 67) (t := 3) (ji := 3) (val := 62) dX9_choice_64 fRX9_41 rfl rfl rfl (of_eq_true eo58) eg58_3 ?_
      refine ow_iload (pc' := 69) (x := l8) dX9_choice_67 rfl rfl ?_
      refine ow_iload (pc' := 71) (x := l9) dX9_choice_69 rfl rfl ?_
      obtain ⟨vv3, h⟩ := h
      refine ow_iadd (pc' := 72) dX9_choice_71 vv3 rfl ?_
      obtain ⟨vv4, h⟩ := h
      refine ow_iaload3 (pc' := 73) (val := M 62 (l8 + l9)) dX9_choice_72 rfl (Eq.mpr (er62 _) vv4) (ea62 _) ?_
      refine ow_iload_n (pc' := 74) (x := l3) dX9_choice_73 rfl rfl ?_
      refine ow_ishr (pc' := 75) dX9_choice_74 rfl ?_
      refine ow_iconst (pc' := 76) (n := 1) dX9_choice_75 rfl rfl ?_
      refine ow_iand (pc' := 77) dX9_choice_76 rfl ?_
      refine ow_ifeq (pc' := 80) (tg := 99) dX9_choice_77 rfl rfl (fun hc => ?_) (fun hc => ?_)
      · have h := h.1 hc
        obtain ⟨vv5, h⟩ := h
        refine ow_iinc (pc' := 102) (lv' := [(0, (3, 58)), (1, (0, l1)), (2, (0, l2)), (3, (0, l3)), (4, (0, l4)), (5, (0, l5)), (6, (0, l6)), (7, (0, l7)), (8, (0, l8)), (9, (0, l9 + 1))]) dX9_choice_99 rfl vv5 rfl rfl rfl ?_
        refine ow_goto (tg := 44) dX9_choice_102 rfl ?_
        exact h
      · have h := h.2 hc
        refine ow_iload (pc' := 82) (x := l5) dX9_choice_80 rfl rfl ?_
        refine ow_iload (pc' := 84) (x := l4) dX9_choice_82 rfl rfl ?_
        refine ow_icmpne (pc' := 87) (tg := 96) dX9_choice_84 rfl rfl (fun hc => ?_) (fun hc => ?_)
        · have h := h.1 hc
          obtain ⟨vv6, h⟩ := h
          refine ow_iinc (pc' := 99) (lv' := [(0, (3, 58)), (1, (0, l1)), (2, (0, l2)), (3, (0, l3)), (4, (0, l4)), (5, (0, l5 + 1)), (6, (0, l6)), (7, (0, l7)), (8, (0, l8)), (9, (0, l9))]) dX9_choice_96 rfl vv6 rfl rfl rfl ?_
          obtain ⟨vv7, h⟩ := h
          refine ow_iinc (pc' := 102) (lv' := [(0, (3, 58)), (1, (0, l1)), (2, (0, l2)), (3, (0, l3)), (4, (0, l4)), (5, (0, l5 + 1)), (6, (0, l6)), (7, (0, l7)), (8, (0, l8)), (9, (0, l9 + 1))]) dX9_choice_99 rfl vv7 rfl rfl rfl ?_
          refine ow_goto (tg := 44) dX9_choice_102 rfl ?_
          exact h
        · have h := h.2 hc
          refine ow_bipush (pc' := 89) (n := 10) dX9_choice_87 rfl rfl ?_
          refine ow_iload (pc' := 91) (x := l6) dX9_choice_89 rfl rfl ?_
          obtain ⟨vv8, h⟩ := h
          refine ow_imul (pc' := 92) dX9_choice_91 vv8 rfl ?_
          refine ow_iload (pc' := 94) (x := l9) dX9_choice_92 rfl rfl ?_
          obtain ⟨vv9, h⟩ := h
          refine ow_iadd (pc' := 95) dX9_choice_94 vv9 rfl ?_
          exact ow_iret dX9_choice_95 rfl rfl h
theorem fX9_choice {C : ow_C} {A L N : Int} {d : Nat} {M : ow_M} {K : Int → ow_M → Prop} {l1 l2 l3 l4 : Int} (h : ow_At C (EM A L N) (d + 1) mX9_choice 6 [(0, (3, 58)), (1, (0, l1)), (2, (0, l2)), (3, (0, l3)), (4, (0, l4)), (5, (0, 0)), (6, (0, 0))] [] (0, 0) M K) : ow_Sp C (EM A L N) (d + 1) mX9_choice (0, 0) [(3, 58), (0, l1), (0, l2), (0, l3), (0, l4)] M K := ow_enter (by decide +kernel) rfl rfl (cX9_choice_0 h)
set_option maxRecDepth 20000 in
theorem cX5_trace_0 {C : ow_C} {A L N : Int} {d : Nat} {M : ow_M} {K : Int → ow_M → Prop} {l1 l2 l3 : Int} (h : ow_At C (EM A L N) (d + 1) mX5_trace 8 [(0, (3, 64)), (1, (0, l1)), (2, (0, l2)), (3, (0, l3)), (4, (0, min l3 8))] [] (0, 0) M K) : ow_At C (EM A L N) (d + 1) mX5_trace 0 [(0, (3, 64)), (1, (0, l1)), (2, (0, l2)), (3, (0, l3))] [] (0, 0) M K := by
  refine ow_iload_n (pc' := 1) (x := l3) dX5_trace_0 rfl rfl ?_
  refine ow_bipush (pc' := 3) (n := 8) dX5_trace_1 rfl rfl ?_
  refine ow_mmin (pc' := 6) dX5_trace_3 lRX5_43 ow_mN1 ow_mi0 ow_mN2 rfl rfl ?_
  refine ow_istore (pc' := 8) (lv' := [(0, (3, 64)), (1, (0, l1)), (2, (0, l2)), (3, (0, l3)), (4, (0, min l3 8))]) dX5_trace_6 rfl rfl rfl ?_
  exact h
set_option maxRecDepth 20000 in
theorem cX5_trace_8 {C : ow_C} {A L N : Int} {d : Nat} {M : ow_M} {K : Int → ow_M → Prop} {l1 l2 l3 l4 : Int} (h : (l4 < 0 → K 0 M) ∧ (0 ≤ l4 → ow_At C (EM A L N) (d + 1) mX5_trace 16 [(0, (3, 64)), (1, (0, l1)), (2, (0, l2)), (3, (0, l3)), (4, (0, l4)), (5, (0, 0))] [] (0, 0) M K)) : ow_At C (EM A L N) (d + 1) mX5_trace 8 [(0, (3, 64)), (1, (0, l1)), (2, (0, l2)), (3, (0, l3)), (4, (0, l4))] [] (0, 0) M K := by
  refine ow_iload (pc' := 10) (x := l4) dX5_trace_8 rfl rfl ?_
  refine ow_iflt (pc' := 13) (tg := 87) dX5_trace_10 rfl rfl (fun hc => ?_) (fun hc => ?_)
  · have h := h.1 hc
    exact ow_vret dX5_trace_87 rfl rfl h
  · have h := h.2 hc
    refine ow_iconst (pc' := 14) (n := 0) dX5_trace_13 rfl rfl ?_
    refine ow_istore (pc' := 16) (lv' := [(0, (3, 64)), (1, (0, l1)), (2, (0, l2)), (3, (0, l3)), (4, (0, l4)), (5, (0, 0))]) dX5_trace_14 rfl rfl rfl ?_
    exact h
set_option maxRecDepth 20000 in
theorem cX5_trace_16 {C : ow_C} {A L N : Int} {d : Nat} {M : ow_M} {K : Int → ow_M → Prop} {l1 l2 l3 l4 l5 : Int} (h : (N ≤ l5 → (l4 < l2 → ow_I (l4 + (-1)) ∧ ow_At C (EM A L N) (d + 1) mX5_trace 8 [(0, (3, 64)), (1, (0, l1)), (2, (0, l2)), (3, (0, l3)), (4, (0, l4 + (-1)))] [] (0, 0) M K) ∧ (l2 ≤ l4 → (0 ≤ l4 ∧ l4 < 9) ∧ ow_R (EM A L N) M (67 + l4) 100 l1 ∧ (EM A L N).1 (67 + l4) l1 = none ∧ ∀ N1, N1 = ow_up M (67 + l4) l1 ((em_pw 2 (L + 1) - 1)) → ow_I (l4 + (-1)) ∧ ow_At C (EM A L N) (d + 1) mX5_trace 8 [(0, (3, 64)), (1, (0, l1)), (2, (0, l2)), (3, (0, l3)), (4, (0, l4 + (-1)))] [] (0, 0) N1 K)) ∧ (l5 < N → (0 ≤ l4 ∧ l4 < 9) ∧ (l4 < l3 → ow_Sp C (EM A L N) d mX5_openBehind (0, 0) [(3, 64), (0, l4), (0, l5)] M (fun r2 N2 => ow_R (EM A L N) N2 (67 + l4) 100 l5 ∧ (EM A L N).1 (67 + l4) l5 = none ∧ ∀ N3, N3 = ow_up N2 (67 + l4) l5 r2 → ow_I (l5 + 1) ∧ ow_At C (EM A L N) (d + 1) mX5_trace 16 [(0, (3, 64)), (1, (0, l1)), (2, (0, l2)), (3, (0, l3)), (4, (0, l4)), (5, (0, l5 + 1))] [] (0, 0) N3 K)) ∧ (l3 ≤ l4 → ow_R (EM A L N) M (67 + l4) 100 l5 ∧ (EM A L N).1 (67 + l4) l5 = none ∧ ∀ N4, N4 = ow_up M (67 + l4) l5 0 → ow_I (l5 + 1) ∧ ow_At C (EM A L N) (d + 1) mX5_trace 16 [(0, (3, 64)), (1, (0, l1)), (2, (0, l2)), (3, (0, l3)), (4, (0, l4)), (5, (0, l5 + 1))] [] (0, 0) N4 K))) : ow_At C (EM A L N) (d + 1) mX5_trace 16 [(0, (3, 64)), (1, (0, l1)), (2, (0, l2)), (3, (0, l3)), (4, (0, l4)), (5, (0, l5))] [] (0, 0) M K := by
  refine ow_iload (pc' := 18) (x := l5) dX5_trace_16 rfl rfl ?_
  refine ow_aload_n (pc' := 19) (x := 64) dX5_trace_18 rfl rfl ?_
  refine ow_getf3 (pc' := 22) (t := 3) (ji := 0) (val := 3) dX5_trace_19 fRX5_15 rfl rfl rfl (of_eq_true eo64) eg64_0 ?_
  refine ow_getf3 (pc' := 25) (t := 0) (ji := 2) (val := N) dX5_trace_22 fRX5_32 rfl rfl rfl (of_eq_true eo3) eg3_2 ?_
  refine ow_icmpge (pc' := 28) (tg := 62) dX5_trace_25 rfl rfl (fun hc => ?_) (fun hc => ?_)
  · have h := h.1 hc
    refine ow_iload (pc' := 64) (x := l4) dX5_trace_62 rfl rfl ?_
    refine ow_iload_n (pc' := 65) (x := l2) dX5_trace_64 rfl rfl ?_
    refine ow_icmplt (pc' := 68) (tg := 81) dX5_trace_65 rfl rfl (fun hc => ?_) (fun hc => ?_)
    · have h := h.1 hc
      obtain ⟨vv1, h⟩ := h
      refine ow_iinc (pc' := 84) (lv' := [(0, (3, 64)), (1, (0, l1)), (2, (0, l2)), (3, (0, l3)), (4, (0, l4 + (-1))), (5, (0, l5))]) dX5_trace_81 rfl vv1 rfl rfl rfl ?_
      refine ow_goto (tg := 8) dX5_trace_84 rfl ?_
      refine ow_sub (lv' := [(0, (3, 64)), (1, (0, l1)), (2, (0, l2)), (3, (0, l3)), (4, (0, l4 + (-1)))]) [0, 1, 2, 3, 4] rfl ?_
      exact h
    · have h := h.2 hc
      refine ow_aload_n (pc' := 69) (x := 64) dX5_trace_68 rfl rfl ?_
      refine ow_getf3 (pc' := 72) (t := 3) (ji := 3) (val := 66) dX5_trace_69 fRX5_37 rfl rfl rfl (of_eq_true eo64) eg64_3 ?_
      refine ow_iload (pc' := 74) (x := l4) dX5_trace_72 rfl rfl ?_
      obtain ⟨vv2, h⟩ := h
      refine ow_aaload3 (pc' := 75) (t := 104) (val := 67 + l4) dX5_trace_74 rfl rfl (Eq.mpr (er66 _) vv2) (ea66 _) ?_
      refine ow_iload_n (pc' := 76) (x := l1) dX5_trace_75 rfl rfl ?_
      refine ow_aload_n (pc' := 77) (x := 64) dX5_trace_76 rfl rfl ?_
      refine ow_getf3 (pc' := 80) (t := 0) (ji := 2) (val := (em_pw 2 (L + 1) - 1)) dX5_trace_77 fRX5_29 rfl rfl rfl (of_eq_true eo64) eg64_2 ?_
      obtain ⟨w, w1, h⟩ := h
      refine ow_iastore2 (pc' := 81) dX5_trace_80 rfl w w1 (fun N1 eN1 => ?_)
      have h := h N1 eN1
      obtain ⟨vv3, h⟩ := h
      refine ow_iinc (pc' := 84) (lv' := [(0, (3, 64)), (1, (0, l1)), (2, (0, l2)), (3, (0, l3)), (4, (0, l4 + (-1))), (5, (0, l5))]) dX5_trace_81 rfl vv3 rfl rfl rfl ?_
      refine ow_goto (tg := 8) dX5_trace_84 rfl ?_
      refine ow_sub (lv' := [(0, (3, 64)), (1, (0, l1)), (2, (0, l2)), (3, (0, l3)), (4, (0, l4 + (-1)))]) [0, 1, 2, 3, 4] rfl ?_
      exact h
  · have h := h.2 hc
    refine ow_aload_n (pc' := 29) (x := 64) dX5_trace_28 rfl rfl ?_
    refine ow_getf3 (pc' := 32) (t := 3) (ji := 3) (val := 66) dX5_trace_29 fRX5_37 rfl rfl rfl (of_eq_true eo64) eg64_3 ?_
    refine ow_iload (pc' := 34) (x := l4) dX5_trace_32 rfl rfl ?_
    obtain ⟨vv4, h⟩ := h
    refine ow_aaload3 (pc' := 35) (t := 104) (val := 67 + l4) dX5_trace_34 rfl rfl (Eq.mpr (er66 _) vv4) (ea66 _) ?_
    refine ow_iload (pc' := 37) (x := l5) dX5_trace_35 rfl rfl ?_
    refine ow_iload (pc' := 39) (x := l4) dX5_trace_37 rfl rfl ?_
    refine ow_iload_n (pc' := 40) (x := l3) dX5_trace_39 rfl rfl ?_
    refine ow_icmplt (pc' := 43) (tg := 47) dX5_trace_40 rfl rfl (fun hc => ?_) (fun hc => ?_)
    · have h := h.1 hc
      refine ow_aload_n (pc' := 48) (x := 64) dX5_trace_47 rfl rfl ?_
      refine ow_iload (pc' := 50) (x := l4) dX5_trace_48 rfl rfl ?_
      refine ow_iload (pc' := 52) (x := l5) dX5_trace_50 rfl rfl ?_
      refine ow_callVp (z := mX5_openBehind) (n := 2) (k := 5) (vs := [(0, l4), (0, l5)]) (x := 64) (st := [(0, l5), (3, 67 + l4)]) (pc' := 55) (b1 := (0, 0)) (b2 := (0, 0)) dX5_trace_52 lRX5_49 kX5_openBehind iX5_openBehind rfl rfl rfl rfl rfl rfl (of_eq_true eo64) (ow_Sp.mono h (fun r2 N2 h => ?_))
      obtain ⟨w, w1, h⟩ := h
      refine ow_iastore2 (pc' := 56) dX5_trace_55 rfl w w1 (fun N3 eN3 => ?_)
      have h := h N3 eN3
      obtain ⟨vv5, h⟩ := h
      refine ow_iinc (pc' := 59) (lv' := [(0, (3, 64)), (1, (0, l1)), (2, (0, l2)), (3, (0, l3)), (4, (0, l4)), (5, (0, l5 + 1))]) dX5_trace_56 rfl vv5 rfl rfl rfl ?_
      refine ow_goto (tg := 16) dX5_trace_59 rfl ?_
      exact h
    · have h := h.2 hc
      refine ow_iconst (pc' := 44) (n := 0) dX5_trace_43 rfl rfl ?_
      refine ow_goto (tg := 55) dX5_trace_44 rfl ?_
      obtain ⟨w, w1, h⟩ := h
      refine ow_iastore2 (pc' := 56) dX5_trace_55 rfl w w1 (fun N4 eN4 => ?_)
      have h := h N4 eN4
      obtain ⟨vv6, h⟩ := h
      refine ow_iinc (pc' := 59) (lv' := [(0, (3, 64)), (1, (0, l1)), (2, (0, l2)), (3, (0, l3)), (4, (0, l4)), (5, (0, l5 + 1))]) dX5_trace_56 rfl vv6 rfl rfl rfl ?_
      refine ow_goto (tg := 16) dX5_trace_59 rfl ?_
      exact h
theorem fX5_trace {C : ow_C} {A L N : Int} {d : Nat} {M : ow_M} {K : Int → ow_M → Prop} {l1 l2 l3 : Int} (h : ow_At C (EM A L N) (d + 1) mX5_trace 8 [(0, (3, 64)), (1, (0, l1)), (2, (0, l2)), (3, (0, l3)), (4, (0, min l3 8))] [] (0, 0) M K) : ow_Sp C (EM A L N) (d + 1) mX5_trace (0, 0) [(3, 64), (0, l1), (0, l2), (0, l3)] M K := ow_enter (by decide +kernel) rfl rfl (cX5_trace_0 h)
set_option maxRecDepth 20000 in
theorem cX5_openBehind_0 {C : ow_C} {A L N : Int} {d : Nat} {M : ow_M} {K : Int → ow_M → Prop} {l1 l2 : Int} (h : ow_I (l1 + 1) ∧ (0 ≤ (l1 + 1) ∧ (l1 + 1) < 9) ∧ ow_At C (EM A L N) (d + 1) mX5_openBehind 15 [(0, (3, 64)), (1, (0, l1)), (2, (0, l2)), (3, (3, 67 + (l1 + 1))), (4, (0, 0)), (5, (0, 0))] [] (0, 0) M K) : ow_At C (EM A L N) (d + 1) mX5_openBehind 0 [(0, (3, 64)), (1, (0, l1)), (2, (0, l2))] [] (0, 0) M K := by
  refine ow_aload_n (pc' := 1) (x := 64) dX5_openBehind_0 rfl rfl ?_
  refine ow_getf3 (pc' := 4) (t := 3) (ji := 3) (val := 66) dX5_openBehind_1 fRX5_37 rfl rfl rfl (of_eq_true eo64) eg64_3 ?_
  refine ow_iload_n (pc' := 5) (x := l1) dX5_openBehind_4 rfl rfl ?_
  refine ow_iconst (pc' := 6) (n := 1) dX5_openBehind_5 rfl rfl ?_
  obtain ⟨vv1, h⟩ := h
  refine ow_iadd (pc' := 7) dX5_openBehind_6 vv1 rfl ?_
  obtain ⟨vv2, h⟩ := h
  refine ow_aaload3 (pc' := 8) (t := 104) (val := 67 + (l1 + 1)) dX5_openBehind_7 rfl rfl (Eq.mpr (er66 _) vv2) (ea66 _) ?_
  refine ow_astore_n (pc' := 9) (lv' := [(0, (3, 64)), (1, (0, l1)), (2, (0, l2)), (3, (3, 67 + (l1 + 1)))]) dX5_openBehind_8 rfl rfl rfl ?_
  refine ow_iconst (pc' := 10) (n := 0) dX5_openBehind_9 rfl rfl ?_
  refine ow_istore (pc' := 12) (lv' := [(0, (3, 64)), (1, (0, l1)), (2, (0, l2)), (3, (3, 67 + (l1 + 1))), (4, (0, 0))]) dX5_openBehind_10 rfl rfl rfl ?_
  refine ow_iconst (pc' := 13) (n := 0) dX5_openBehind_12 rfl rfl ?_
  refine ow_istore (pc' := 15) (lv' := [(0, (3, 64)), (1, (0, l1)), (2, (0, l2)), (3, (3, 67 + (l1 + 1))), (4, (0, 0)), (5, (0, 0))]) dX5_openBehind_13 rfl rfl rfl ?_
  exact h
set_option maxRecDepth 20000 in
theorem cX5_openBehind_15 {C : ow_C} {A L N : Int} {d : Nat} {M : ow_M} {K : Int → ow_M → Prop} {l1 l2 l3 l4 l5 : Int} (h : (L ≤ l5 → K l4 M) ∧ (l5 < L → ow_Sp C (EM A L N) d mX10_letter (0, 0) [(3, 3), (0, l2), (0, l5)] M (fun r1 N1 => ow_Sp C (EM A L N) d mX9_changesOf (0, 0) [(3, 58), (0, l1), (0, l5), (0, r1)] N1 (fun r2 N2 => ow_Sp C (EM A L N) d mX10_cleared (0, 0) [(3, 3), (0, l2), (0, l5)] N2 (fun r3 N3 => ow_I (l5 + 1) ∧ ow_At C (EM A L N) (d + 1) mX5_openBehind 76 [(0, (3, 64)), (1, (0, l1)), (2, (0, l2)), (3, (3, l3)), (4, (0, l4)), (5, (0, l5)), (6, (0, r1)), (7, (0, r2)), (8, (0, r3)), (9, (0, ow_shl 1 (l5 + 1))), (10, (0, 0))] [] (0, 0) N3 K))))) : ow_At C (EM A L N) (d + 1) mX5_openBehind 15 [(0, (3, 64)), (1, (0, l1)), (2, (0, l2)), (3, (3, l3)), (4, (0, l4)), (5, (0, l5))] [] (0, 0) M K := by
  refine ow_iload (pc' := 17) (x := l5) dX5_openBehind_15 rfl rfl ?_
  refine ow_aload_n (pc' := 18) (x := 64) dX5_openBehind_17 rfl rfl ?_
  refine ow_getf3 (pc' := 21) (t := 3) (ji := 0) (val := 3) dX5_openBehind_18 fRX5_15 rfl rfl rfl (of_eq_true eo64) eg64_0 ?_
  refine ow_getf3 (pc' := 24) (t := 0) (ji := 1) (val := L) dX5_openBehind_21 fRX5_23 rfl rfl rfl (of_eq_true eo3) eg3_1 ?_
  refine ow_icmpge (pc' := 27) (tg := 150) dX5_openBehind_24 rfl rfl (fun hc => ?_) (fun hc => ?_)
  · have h := h.1 hc
    refine ow_iload (pc' := 152) (x := l4) dX5_openBehind_150 rfl rfl ?_
    exact ow_iret dX5_openBehind_152 rfl rfl h
  · have h := h.2 hc
    refine ow_aload_n (pc' := 28) (x := 64) dX5_openBehind_27 rfl rfl ?_
    refine ow_getf3 (pc' := 31) (t := 3) (ji := 0) (val := 3) dX5_openBehind_28 fRX5_15 rfl rfl rfl (of_eq_true eo64) eg64_0 ?_
    refine ow_iload_n (pc' := 32) (x := l2) dX5_openBehind_31 rfl rfl ?_
    refine ow_iload (pc' := 34) (x := l5) dX5_openBehind_32 rfl rfl ?_
    refine ow_callVp (z := mX10_letter) (n := 2) (k := 10) (vs := [(0, l2), (0, l5)]) (x := 3) (st := []) (pc' := 37) (b1 := (0, 0)) (b2 := (0, 0)) dX5_openBehind_34 lRX5_52 kX10_letter iX10_letter rfl rfl rfl rfl rfl rfl (of_eq_true eo3) (ow_Sp.mono h (fun r1 N1 h => ?_))
    refine ow_istore (pc' := 39) (lv' := [(0, (3, 64)), (1, (0, l1)), (2, (0, l2)), (3, (3, l3)), (4, (0, l4)), (5, (0, l5)), (6, (0, r1))]) dX5_openBehind_37 rfl rfl rfl ?_
    refine ow_aload_n (pc' := 40) (x := 64) dX5_openBehind_39 rfl rfl ?_
    refine ow_getf3 (pc' := 43) (t := 3) (ji := 1) (val := 58) dX5_openBehind_40 fRX5_19 rfl rfl rfl (of_eq_true eo64) eg64_1 ?_
    refine ow_iload_n (pc' := 44) (x := l1) dX5_openBehind_43 rfl rfl ?_
    refine ow_iload (pc' := 46) (x := l5) dX5_openBehind_44 rfl rfl ?_
    refine ow_iload (pc' := 48) (x := r1) dX5_openBehind_46 rfl rfl ?_
    refine ow_callVp (z := mX9_changesOf) (n := 3) (k := 9) (vs := [(0, l1), (0, l5), (0, r1)]) (x := 58) (st := []) (pc' := 51) (b1 := (0, 0)) (b2 := (0, 0)) dX5_openBehind_48 lRX5_55 kX9_changesOf iX9_changesOf rfl rfl rfl rfl rfl rfl (of_eq_true eo58) (ow_Sp.mono h (fun r2 N2 h => ?_))
    refine ow_istore (pc' := 53) (lv' := [(0, (3, 64)), (1, (0, l1)), (2, (0, l2)), (3, (3, l3)), (4, (0, l4)), (5, (0, l5)), (6, (0, r1)), (7, (0, r2))]) dX5_openBehind_51 rfl rfl rfl ?_
    refine ow_aload_n (pc' := 54) (x := 64) dX5_openBehind_53 rfl rfl ?_
    refine ow_getf3 (pc' := 57) (t := 3) (ji := 0) (val := 3) dX5_openBehind_54 fRX5_15 rfl rfl rfl (of_eq_true eo64) eg64_0 ?_
    refine ow_iload_n (pc' := 58) (x := l2) dX5_openBehind_57 rfl rfl ?_
    refine ow_iload (pc' := 60) (x := l5) dX5_openBehind_58 rfl rfl ?_
    refine ow_callVp (z := mX10_cleared) (n := 2) (k := 10) (vs := [(0, l2), (0, l5)]) (x := 3) (st := []) (pc' := 63) (b1 := (0, 0)) (b2 := (0, 0)) dX5_openBehind_60 lRX5_61 kX10_cleared iX10_cleared rfl rfl rfl rfl rfl rfl (of_eq_true eo3) (ow_Sp.mono h (fun r3 N3 h => ?_))
    refine ow_istore (pc' := 65) (lv' := [(0, (3, 64)), (1, (0, l1)), (2, (0, l2)), (3, (3, l3)), (4, (0, l4)), (5, (0, l5)), (6, (0, r1)), (7, (0, r2)), (8, (0, r3))]) dX5_openBehind_63 rfl rfl rfl ?_
    refine ow_iconst (pc' := 66) (n := 1) dX5_openBehind_65 rfl rfl ?_
    refine ow_iload (pc' := 68) (x := l5) dX5_openBehind_66 rfl rfl ?_
    refine ow_iconst (pc' := 69) (n := 1) dX5_openBehind_68 rfl rfl ?_
    obtain ⟨vv1, h⟩ := h
    refine ow_iadd (pc' := 70) dX5_openBehind_69 vv1 rfl ?_
    refine ow_ishl (pc' := 71) dX5_openBehind_70 rfl ?_
    refine ow_istore (pc' := 73) (lv' := [(0, (3, 64)), (1, (0, l1)), (2, (0, l2)), (3, (3, l3)), (4, (0, l4)), (5, (0, l5)), (6, (0, r1)), (7, (0, r2)), (8, (0, r3)), (9, (0, ow_shl 1 (l5 + 1)))]) dX5_openBehind_71 rfl rfl rfl ?_
    refine ow_iconst (pc' := 74) (n := 0) dX5_openBehind_73 rfl rfl ?_
    refine ow_istore (pc' := 76) (lv' := [(0, (3, 64)), (1, (0, l1)), (2, (0, l2)), (3, (3, l3)), (4, (0, l4)), (5, (0, l5)), (6, (0, r1)), (7, (0, r2)), (8, (0, r3)), (9, (0, ow_shl 1 (l5 + 1))), (10, (0, 0))]) dX5_openBehind_74 rfl rfl rfl ?_
    exact h
set_option maxRecDepth 20000 in
theorem cX5_openBehind_76 {C : ow_C} {A L N : Int} {d : Nat} {M : ow_M} {K : Int → ow_M → Prop} {l1 l2 l3 l4 l5 l6 l7 l8 l9 l10 : Int} (h : (A ≤ l10 → ow_I (l5 + 1) ∧ ow_At C (EM A L N) (d + 1) mX5_openBehind 15 [(0, (3, 64)), (1, (0, l1)), (2, (0, l2)), (3, (3, l3)), (4, (0, l4)), (5, (0, l5 + 1))] [] (0, 0) M K) ∧ (l10 < A → (l10 = l6 → (0 ≤ l5 ∧ l5 < L) ∧ ow_I (l8 + (em_pw A (L - 1 - l5))) ∧ ow_I (l10 + 1) ∧ ow_At C (EM A L N) (d + 1) mX5_openBehind 76 [(0, (3, 64)), (1, (0, l1)), (2, (0, l2)), (3, (3, l3)), (4, (0, l4)), (5, (0, l5)), (6, (0, l6)), (7, (0, l7)), (8, (0, l8 + (em_pw A (L - 1 - l5)))), (9, (0, l9)), (10, (0, l10 + 1))] [] (0, 0) M K) ∧ (l10 ≠ l6 → ow_R (EM A L N) M l3 100 l8 ∧ ((ow_and (ow_gv (EM A L N) M l3 l8) l9) = 0 → (0 ≤ l5 ∧ l5 < L) ∧ ow_I (l8 + (em_pw A (L - 1 - l5))) ∧ ow_I (l10 + 1) ∧ ow_At C (EM A L N) (d + 1) mX5_openBehind 76 [(0, (3, 64)), (1, (0, l1)), (2, (0, l2)), (3, (3, l3)), (4, (0, l4)), (5, (0, l5)), (6, (0, l6)), (7, (0, l7)), (8, (0, l8 + (em_pw A (L - 1 - l5)))), (9, (0, l9)), (10, (0, l10 + 1))] [] (0, 0) M K) ∧ ((ow_and (ow_gv (EM A L N) M l3 l8) l9) ≠ 0 → ow_I (l7 + l10) ∧ (0 ≤ (l7 + l10) ∧ (l7 + l10) < (8 * L * A * A)) ∧ (0 ≤ l5 ∧ l5 < L) ∧ ow_I (l8 + (em_pw A (L - 1 - l5))) ∧ ow_I (l10 + 1) ∧ ow_At C (EM A L N) (d + 1) mX5_openBehind 76 [(0, (3, 64)), (1, (0, l1)), (2, (0, l2)), (3, (3, l3)), (4, (0, ow_or l4 (M 62 (l7 + l10)))), (5, (0, l5)), (6, (0, l6)), (7, (0, l7)), (8, (0, l8 + (em_pw A (L - 1 - l5)))), (9, (0, l9)), (10, (0, l10 + 1))] [] (0, 0) M K)))) : ow_At C (EM A L N) (d + 1) mX5_openBehind 76 [(0, (3, 64)), (1, (0, l1)), (2, (0, l2)), (3, (3, l3)), (4, (0, l4)), (5, (0, l5)), (6, (0, l6)), (7, (0, l7)), (8, (0, l8)), (9, (0, l9)), (10, (0, l10))] [] (0, 0) M K := by
  refine ow_iload (pc' := 78) (x := l10) dX5_openBehind_76 rfl rfl ?_
  refine ow_aload_n (pc' := 79) (x := 64) dX5_openBehind_78 rfl rfl ?_
  refine ow_getf3 (pc' := 82) (t := 3) (ji := 0) (val := 3) dX5_openBehind_79 fRX5_15 rfl rfl rfl (of_eq_true eo64) eg64_0 ?_
  refine ow_getf3 (pc' := 85) (t := 0) (ji := 0) (val := A) dX5_openBehind_82 fRX5_64 rfl rfl rfl (of_eq_true eo3) eg3_0 ?_
  refine ow_icmpge (pc' := 88) (tg := 144) dX5_openBehind_85 rfl rfl (fun hc => ?_) (fun hc => ?_)
  · have h := h.1 hc
    obtain ⟨vv1, h⟩ := h
    refine ow_iinc (pc' := 147) (lv' := [(0, (3, 64)), (1, (0, l1)), (2, (0, l2)), (3, (3, l3)), (4, (0, l4)), (5, (0, l5 + 1)), (6, (0, l6)), (7, (0, l7)), (8, (0, l8)), (9, (0, l9)), (10, (0, l10))]) dX5_openBehind_144 rfl vv1 rfl rfl rfl ?_
    refine ow_goto (tg := 15) dX5_openBehind_147 rfl ?_
    refine ow_sub (lv' := [(0, (3, 64)), (1, (0, l1)), (2, (0, l2)), (3, (3, l3)), (4, (0, l4)), (5, (0, l5 + 1))]) [0, 1, 2, 3, 4, 5] rfl ?_
    exact h
  · have h := h.2 hc
    refine ow_iload (pc' := 90) (x := l10) dX5_openBehind_88 rfl rfl ?_
    refine ow_iload (pc' := 92) (x := l6) dX5_openBehind_90 rfl rfl ?_
    refine ow_icmpeq (pc' := 95) (tg := 123) dX5_openBehind_92 rfl rfl (fun hc => ?_) (fun hc => ?_)
    · have h := h.1 hc
      refine ow_iload (pc' := 125) (x := l8) dX5_openBehind_123 rfl rfl ?_
      refine ow_aload_n (pc' := 126) (x := 64) dX5_openBehind_125 rfl rfl ?_
      refine ow_getf3 (pc' := 129) (t := 3) (ji := 0) (val := 3) dX5_openBehind_126 fRX5_15 rfl rfl rfl (of_eq_true eo64) eg64_0 ?_
      refine ow_getf3 (pc' := 132) (t := 3) (ji := 3) (val := 4) dX5_openBehind_129 fRX5_70 rfl rfl rfl (of_eq_true eo3) eg3_3 ?_
      refine ow_iload (pc' := 134) (x := l5) dX5_openBehind_132 rfl rfl ?_
      obtain ⟨vv2, h⟩ := h
      refine ow_iaload3 (pc' := 135) (val := em_pw A (L - 1 - l5)) dX5_openBehind_134 rfl (Eq.mpr (er4 _) vv2) (ea4 _) ?_
      obtain ⟨vv3, h⟩ := h
      refine ow_iadd (pc' := 136) dX5_openBehind_135 vv3 rfl ?_
      refine ow_istore (pc' := 138) (lv' := [(0, (3, 64)), (1, (0, l1)), (2, (0, l2)), (3, (3, l3)), (4, (0, l4)), (5, (0, l5)), (6, (0, l6)), (7, (0, l7)), (8, (0, l8 + (em_pw A (L - 1 - l5)))), (9, (0, l9)), (10, (0, l10))]) dX5_openBehind_136 rfl rfl rfl ?_
      obtain ⟨vv4, h⟩ := h
      refine ow_iinc (pc' := 141) (lv' := [(0, (3, 64)), (1, (0, l1)), (2, (0, l2)), (3, (3, l3)), (4, (0, l4)), (5, (0, l5)), (6, (0, l6)), (7, (0, l7)), (8, (0, l8 + (em_pw A (L - 1 - l5)))), (9, (0, l9)), (10, (0, l10 + 1))]) dX5_openBehind_138 rfl vv4 rfl rfl rfl ?_
      refine ow_goto (tg := 76) dX5_openBehind_141 rfl ?_
      exact h
    · have h := h.2 hc
      refine ow_aload_n (pc' := 96) (x := l3) dX5_openBehind_95 rfl rfl ?_
      refine ow_iload (pc' := 98) (x := l8) dX5_openBehind_96 rfl rfl ?_
      obtain ⟨w, h⟩ := h
      refine ow_iaload (pc' := 99) dX5_openBehind_98 rfl w ?_
      refine ow_iload (pc' := 101) (x := l9) dX5_openBehind_99 rfl rfl ?_
      refine ow_iand (pc' := 102) dX5_openBehind_101 rfl ?_
      refine ow_ifeq (pc' := 105) (tg := 123) dX5_openBehind_102 rfl rfl (fun hc => ?_) (fun hc => ?_)
      · have h := h.1 hc
        refine ow_iload (pc' := 125) (x := l8) dX5_openBehind_123 rfl rfl ?_
        refine ow_aload_n (pc' := 126) (x := 64) dX5_openBehind_125 rfl rfl ?_
        refine ow_getf3 (pc' := 129) (t := 3) (ji := 0) (val := 3) dX5_openBehind_126 fRX5_15 rfl rfl rfl (of_eq_true eo64) eg64_0 ?_
        refine ow_getf3 (pc' := 132) (t := 3) (ji := 3) (val := 4) dX5_openBehind_129 fRX5_70 rfl rfl rfl (of_eq_true eo3) eg3_3 ?_
        refine ow_iload (pc' := 134) (x := l5) dX5_openBehind_132 rfl rfl ?_
        obtain ⟨vv5, h⟩ := h
        refine ow_iaload3 (pc' := 135) (val := em_pw A (L - 1 - l5)) dX5_openBehind_134 rfl (Eq.mpr (er4 _) vv5) (ea4 _) ?_
        obtain ⟨vv6, h⟩ := h
        refine ow_iadd (pc' := 136) dX5_openBehind_135 vv6 rfl ?_
        refine ow_istore (pc' := 138) (lv' := [(0, (3, 64)), (1, (0, l1)), (2, (0, l2)), (3, (3, l3)), (4, (0, l4)), (5, (0, l5)), (6, (0, l6)), (7, (0, l7)), (8, (0, l8 + (em_pw A (L - 1 - l5)))), (9, (0, l9)), (10, (0, l10))]) dX5_openBehind_136 rfl rfl rfl ?_
        obtain ⟨vv7, h⟩ := h
        refine ow_iinc (pc' := 141) (lv' := [(0, (3, 64)), (1, (0, l1)), (2, (0, l2)), (3, (3, l3)), (4, (0, l4)), (5, (0, l5)), (6, (0, l6)), (7, (0, l7)), (8, (0, l8 + (em_pw A (L - 1 - l5)))), (9, (0, l9)), (10, (0, l10 + 1))]) dX5_openBehind_138 rfl vv7 rfl rfl rfl ?_
        refine ow_goto (tg := 76) dX5_openBehind_141 rfl ?_
        exact h
      · have h := h.2 hc
        refine ow_iload (pc' := 107) (x := l4) dX5_openBehind_105 rfl rfl ?_
        refine ow_aload_n (pc' := 108) (x := 64) dX5_openBehind_107 rfl rfl ?_
        refine ow_getf3 (pc' := 111) (t := 3) (ji := 1) (val := 58) dX5_openBehind_108 fRX5_19 rfl rfl rfl (of_eq_true eo64) eg64_1 ?_
        refine ow_getf3 (pc' := 114) (t := 3) (ji := 3) (val := 62) dX5_openBehind_111 fRX5_67 rfl rfl rfl (of_eq_true eo58) eg58_3 ?_
        refine ow_iload (pc' := 116) (x := l7) dX5_openBehind_114 rfl rfl ?_
        refine ow_iload (pc' := 118) (x := l10) dX5_openBehind_116 rfl rfl ?_
        obtain ⟨vv8, h⟩ := h
        refine ow_iadd (pc' := 119) dX5_openBehind_118 vv8 rfl ?_
        obtain ⟨vv9, h⟩ := h
        refine ow_iaload3 (pc' := 120) (val := M 62 (l7 + l10)) dX5_openBehind_119 rfl (Eq.mpr (er62 _) vv9) (ea62 _) ?_
        refine ow_ior (pc' := 121) dX5_openBehind_120 rfl ?_
        refine ow_istore (pc' := 123) (lv' := [(0, (3, 64)), (1, (0, l1)), (2, (0, l2)), (3, (3, l3)), (4, (0, ow_or l4 (M 62 (l7 + l10)))), (5, (0, l5)), (6, (0, l6)), (7, (0, l7)), (8, (0, l8)), (9, (0, l9)), (10, (0, l10))]) dX5_openBehind_121 rfl rfl rfl ?_
        refine ow_iload (pc' := 125) (x := l8) dX5_openBehind_123 rfl rfl ?_
        refine ow_aload_n (pc' := 126) (x := 64) dX5_openBehind_125 rfl rfl ?_
        refine ow_getf3 (pc' := 129) (t := 3) (ji := 0) (val := 3) dX5_openBehind_126 fRX5_15 rfl rfl rfl (of_eq_true eo64) eg64_0 ?_
        refine ow_getf3 (pc' := 132) (t := 3) (ji := 3) (val := 4) dX5_openBehind_129 fRX5_70 rfl rfl rfl (of_eq_true eo3) eg3_3 ?_
        refine ow_iload (pc' := 134) (x := l5) dX5_openBehind_132 rfl rfl ?_
        obtain ⟨vv10, h⟩ := h
        refine ow_iaload3 (pc' := 135) (val := em_pw A (L - 1 - l5)) dX5_openBehind_134 rfl (Eq.mpr (er4 _) vv10) (ea4 _) ?_
        obtain ⟨vv11, h⟩ := h
        refine ow_iadd (pc' := 136) dX5_openBehind_135 vv11 rfl ?_
        refine ow_istore (pc' := 138) (lv' := [(0, (3, 64)), (1, (0, l1)), (2, (0, l2)), (3, (3, l3)), (4, (0, ow_or l4 (M 62 (l7 + l10)))), (5, (0, l5)), (6, (0, l6)), (7, (0, l7)), (8, (0, l8 + (em_pw A (L - 1 - l5)))), (9, (0, l9)), (10, (0, l10))]) dX5_openBehind_136 rfl rfl rfl ?_
        obtain ⟨vv12, h⟩ := h
        refine ow_iinc (pc' := 141) (lv' := [(0, (3, 64)), (1, (0, l1)), (2, (0, l2)), (3, (3, l3)), (4, (0, ow_or l4 (M 62 (l7 + l10)))), (5, (0, l5)), (6, (0, l6)), (7, (0, l7)), (8, (0, l8 + (em_pw A (L - 1 - l5)))), (9, (0, l9)), (10, (0, l10 + 1))]) dX5_openBehind_138 rfl vv12 rfl rfl rfl ?_
        refine ow_goto (tg := 76) dX5_openBehind_141 rfl ?_
        exact h
theorem fX5_openBehind {C : ow_C} {A L N : Int} {d : Nat} {M : ow_M} {K : Int → ow_M → Prop} {l1 l2 : Int} (h : ow_I (l1 + 1) ∧ (0 ≤ (l1 + 1) ∧ (l1 + 1) < 9) ∧ ow_At C (EM A L N) (d + 1) mX5_openBehind 15 [(0, (3, 64)), (1, (0, l1)), (2, (0, l2)), (3, (3, 67 + (l1 + 1))), (4, (0, 0)), (5, (0, 0))] [] (0, 0) M K) : ow_Sp C (EM A L N) (d + 1) mX5_openBehind (0, 0) [(3, 64), (0, l1), (0, l2)] M K := ow_enter (by decide +kernel) rfl rfl (cX5_openBehind_0 h)
set_option maxRecDepth 20000 in
theorem cX5_leads_0 {C : ow_C} {A L N : Int} {d : Nat} {M : ow_M} {K : Int → ow_M → Prop} {l1 : Int} (h : ow_R (EM A L N) M (67 + 0) 100 l1 ∧ ((ow_and (ow_gv (EM A L N) M (67 + 0) l1) 1) = 0 → K 0 M) ∧ ((ow_and (ow_gv (EM A L N) M (67 + 0) l1) 1) ≠ 0 → K 1 M)) : ow_At C (EM A L N) d mX5_leads 0 [(0, (3, 64)), (1, (0, l1))] [] (0, 0) M K := by
  refine ow_aload_n (pc' := 1) (x := 64) dX5_leads_0 rfl rfl ?_
  refine ow_getf3 (pc' := 4) (t := 3) (ji := 3) (val := 66) dX5_leads_1 fRX5_37 rfl rfl rfl (of_eq_true eo64) eg64_3 ?_
  refine ow_iconst (pc' := 5) (n := 0) dX5_leads_4 rfl rfl ?_
  refine ow_aaload3 (pc' := 6) (t := 104) (val := 67 + 0) dX5_leads_5 rfl rfl (Eq.mpr (er66 _) ⟨by decide, by decide⟩) (ea66 _) ?_
  refine ow_iload_n (pc' := 7) (x := l1) dX5_leads_6 rfl rfl ?_
  obtain ⟨w, h⟩ := h
  refine ow_iaload (pc' := 8) dX5_leads_7 rfl w ?_
  refine ow_iconst (pc' := 9) (n := 1) dX5_leads_8 rfl rfl ?_
  refine ow_iand (pc' := 10) dX5_leads_9 rfl ?_
  refine ow_ifeq (pc' := 13) (tg := 17) dX5_leads_10 rfl rfl (fun hc => ?_) (fun hc => ?_)
  · have h := h.1 hc
    refine ow_iconst (pc' := 18) (n := 0) dX5_leads_17 rfl rfl ?_
    exact ow_zret dX5_leads_18 rfl rfl (Or.inl rfl) h
  · have h := h.2 hc
    refine ow_iconst (pc' := 14) (n := 1) dX5_leads_13 rfl rfl ?_
    refine ow_goto (tg := 18) dX5_leads_14 rfl ?_
    exact ow_zret dX5_leads_18 rfl rfl (Or.inr rfl) h
theorem fX5_leads {C : ow_C} {A L N : Int} {d : Nat} {M : ow_M} {K : Int → ow_M → Prop} {l1 : Int} (h : ow_R (EM A L N) M (67 + 0) 100 l1 ∧ ((ow_and (ow_gv (EM A L N) M (67 + 0) l1) 1) = 0 → K 0 M) ∧ ((ow_and (ow_gv (EM A L N) M (67 + 0) l1) 1) ≠ 0 → K 1 M)) : ow_Sp C (EM A L N) d mX5_leads (0, 0) [(3, 64), (0, l1)] M K := ow_enter (by decide +kernel) rfl rfl (cX5_leads_0 h)
set_option maxRecDepth 20000 in
theorem cX5_firstDeed_0 {C : ow_C} {A L N : Int} {d : Nat} {M : ow_M} {K : Int → ow_M → Prop} {l1 l2 : Int} (h : ow_At C (EM A L N) (d + 1) mX5_firstDeed 11 [(0, (3, 64)), (2, (0, l2)), (3, (0, l1)), (4, (0, 0)), (5, (0, (-1))), (6, (0, 0))] [] (0, 0) M K) : ow_At C (EM A L N) (d + 1) mX5_firstDeed 0 [(0, (3, 64)), (1, (0, l1)), (2, (0, l2))] [] (0, 0) M K := by
  refine ow_iload_n (pc' := 1) (x := l1) dX5_firstDeed_0 rfl rfl ?_
  refine ow_istore_n (pc' := 2) (lv' := [(0, (3, 64)), (1, (0, l1)), (2, (0, l2)), (3, (0, l1))]) dX5_firstDeed_1 rfl rfl rfl ?_
  refine ow_iconst (pc' := 3) (n := 0) dX5_firstDeed_2 rfl rfl ?_
  refine ow_istore (pc' := 5) (lv' := [(0, (3, 64)), (1, (0, l1)), (2, (0, l2)), (3, (0, l1)), (4, (0, 0))]) dX5_firstDeed_3 rfl rfl rfl ?_
  refine ow_iconst (pc' := 6) (n := (-1)) dX5_firstDeed_5 rfl rfl ?_
  refine ow_istore (pc' := 8) (lv' := [(0, (3, 64)), (1, (0, l1)), (2, (0, l2)), (3, (0, l1)), (4, (0, 0)), (5, (0, (-1)))]) dX5_firstDeed_6 rfl rfl rfl ?_
  refine ow_iconst (pc' := 9) (n := 0) dX5_firstDeed_8 rfl rfl ?_
  refine ow_istore (pc' := 11) (lv' := [(0, (3, 64)), (1, (0, l1)), (2, (0, l2)), (3, (0, l1)), (4, (0, 0)), (5, (0, (-1))), (6, (0, 0))]) dX5_firstDeed_9 rfl rfl rfl ?_
  refine ow_sub (lv' := [(0, (3, 64)), (2, (0, l2)), (3, (0, l1)), (4, (0, 0)), (5, (0, (-1))), (6, (0, 0))]) [0, 2, 3, 4, 5, 6] rfl ?_
  exact h
set_option maxRecDepth 20000 in
theorem cX5_firstDeed_11 {C : ow_C} {A L N : Int} {d : Nat} {M : ow_M} {K : Int → ow_M → Prop} {l2 l3 l4 l5 l6 : Int} (h : (l2 < l6 → K l5 M) ∧ (l6 ≤ l2 → (8 ≤ l6 → K l5 M) ∧ (l6 < 8 → ow_Sp C (EM A L N) d mX5_deedOf (0, 0) [(3, 64), (0, l6), (0, l3), (0, l4)] M (fun r1 N1 => (r1 ≠ ((-1)) → (10 : Int) ≠ 0 ∧ ow_I (Int.tdiv r1 10) ∧ (10 : Int) ≠ 0 ∧ ow_I (Int.tdiv r1 10) ∧ ow_I (Int.tmod r1 10) ∧ ow_Sp C (EM A L N) d mX10_changed (0, 0) [(3, 3), (0, l3), (0, Int.tdiv r1 10), (0, Int.tmod r1 10)] N1 (fun r2 N2 => (10 : Int) ≠ 0 ∧ ow_I (Int.tdiv r1 10) ∧ ow_I ((Int.tdiv r1 10) + 1) ∧ ow_I (l6 + 1) ∧ ow_At C (EM A L N) (d + 1) mX5_firstDeed 11 [(0, (3, 64)), (2, (0, l2)), (3, (0, r2)), (4, (0, (Int.tdiv r1 10) + 1)), (5, (0, r1)), (6, (0, l6 + 1))] [] (0, 0) N2 K)) ∧ (r1 = ((-1)) → K ((-1)) N1))))) : ow_At C (EM A L N) (d + 1) mX5_firstDeed 11 [(0, (3, 64)), (2, (0, l2)), (3, (0, l3)), (4, (0, l4)), (5, (0, l5)), (6, (0, l6))] [] (0, 0) M K := by
  refine ow_iload (pc' := 13) (x := l6) dX5_firstDeed_11 rfl rfl ?_
  refine ow_iload_n (pc' := 14) (x := l2) dX5_firstDeed_13 rfl rfl ?_
  refine ow_icmpgt (pc' := 17) (tg := 77) dX5_firstDeed_14 rfl rfl (fun hc => ?_) (fun hc => ?_)
  · have h := h.1 hc
    refine ow_iload (pc' := 79) (x := l5) dX5_firstDeed_77 rfl rfl ?_
    exact ow_iret dX5_firstDeed_79 rfl rfl h
  · have h := h.2 hc
    refine ow_iload (pc' := 19) (x := l6) dX5_firstDeed_17 rfl rfl ?_
    refine ow_bipush (pc' := 21) (n := 8) dX5_firstDeed_19 rfl rfl ?_
    refine ow_icmpge (pc' := 24) (tg := 77) dX5_firstDeed_21 rfl rfl (fun hc => ?_) (fun hc => ?_)
    · have h := h.1 hc
      refine ow_iload (pc' := 79) (x := l5) dX5_firstDeed_77 rfl rfl ?_
      exact ow_iret dX5_firstDeed_79 rfl rfl h
    · have h := h.2 hc
      refine ow_aload_n (pc' := 25) (x := 64) dX5_firstDeed_24 rfl rfl ?_
      refine ow_iload (pc' := 27) (x := l6) dX5_firstDeed_25 rfl rfl ?_
      refine ow_iload_n (pc' := 28) (x := l3) dX5_firstDeed_27 rfl rfl ?_
      refine ow_iload (pc' := 30) (x := l4) dX5_firstDeed_28 rfl rfl ?_
      refine ow_callVp (z := mX5_deedOf) (n := 3) (k := 5) (vs := [(0, l6), (0, l3), (0, l4)]) (x := 64) (st := []) (pc' := 33) (b1 := (0, 0)) (b2 := (0, 0)) dX5_firstDeed_30 lRX5_73 kX5_deedOf iX5_deedOf rfl rfl rfl rfl rfl rfl (of_eq_true eo64) (ow_Sp.mono h (fun r1 N1 h => ?_))
      refine ow_istore (pc' := 35) (lv' := [(0, (3, 64)), (2, (0, l2)), (3, (0, l3)), (4, (0, l4)), (5, (0, r1)), (6, (0, l6))]) dX5_firstDeed_33 rfl rfl rfl ?_
      refine ow_iload (pc' := 37) (x := r1) dX5_firstDeed_35 rfl rfl ?_
      refine ow_iconst (pc' := 38) (n := (-1)) dX5_firstDeed_37 rfl rfl ?_
      refine ow_icmpne (pc' := 41) (tg := 43) dX5_firstDeed_38 rfl rfl (fun hc => ?_) (fun hc => ?_)
      · have h := h.1 hc
        refine ow_aload_n (pc' := 44) (x := 64) dX5_firstDeed_43 rfl rfl ?_
        refine ow_getf3 (pc' := 47) (t := 3) (ji := 0) (val := 3) dX5_firstDeed_44 fRX5_15 rfl rfl rfl (of_eq_true eo64) eg64_0 ?_
        refine ow_iload_n (pc' := 48) (x := l3) dX5_firstDeed_47 rfl rfl ?_
        refine ow_iload (pc' := 50) (x := r1) dX5_firstDeed_48 rfl rfl ?_
        refine ow_bipush (pc' := 52) (n := 10) dX5_firstDeed_50 rfl rfl ?_
        obtain ⟨w0, w, h⟩ := h
        refine ow_idiv (pc' := 53) dX5_firstDeed_52 w0 w rfl ?_
        refine ow_iload (pc' := 55) (x := r1) dX5_firstDeed_53 rfl rfl ?_
        refine ow_bipush (pc' := 57) (n := 10) dX5_firstDeed_55 rfl rfl ?_
        obtain ⟨w0, w, w1, h⟩ := h
        refine ow_irem (pc' := 58) dX5_firstDeed_57 w0 w w1 rfl ?_
        refine ow_callVp (z := mX10_changed) (n := 3) (k := 10) (vs := [(0, l3), (0, Int.tdiv r1 10), (0, Int.tmod r1 10)]) (x := 3) (st := []) (pc' := 61) (b1 := (0, 0)) (b2 := (0, 0)) dX5_firstDeed_58 lRX5_76 kX10_changed iX10_changed rfl rfl rfl rfl rfl rfl (of_eq_true eo3) (ow_Sp.mono h (fun r2 N2 h => ?_))
        refine ow_istore_n (pc' := 62) (lv' := [(0, (3, 64)), (2, (0, l2)), (3, (0, r2)), (4, (0, l4)), (5, (0, r1)), (6, (0, l6))]) dX5_firstDeed_61 rfl rfl rfl ?_
        refine ow_iload (pc' := 64) (x := r1) dX5_firstDeed_62 rfl rfl ?_
        refine ow_bipush (pc' := 66) (n := 10) dX5_firstDeed_64 rfl rfl ?_
        obtain ⟨w0, w, h⟩ := h
        refine ow_idiv (pc' := 67) dX5_firstDeed_66 w0 w rfl ?_
        refine ow_iconst (pc' := 68) (n := 1) dX5_firstDeed_67 rfl rfl ?_
        obtain ⟨vv1, h⟩ := h
        refine ow_iadd (pc' := 69) dX5_firstDeed_68 vv1 rfl ?_
        refine ow_istore (pc' := 71) (lv' := [(0, (3, 64)), (2, (0, l2)), (3, (0, r2)), (4, (0, (Int.tdiv r1 10) + 1)), (5, (0, r1)), (6, (0, l6))]) dX5_firstDeed_69 rfl rfl rfl ?_
        obtain ⟨vv2, h⟩ := h
        refine ow_iinc (pc' := 74) (lv' := [(0, (3, 64)), (2, (0, l2)), (3, (0, r2)), (4, (0, (Int.tdiv r1 10) + 1)), (5, (0, r1)), (6, (0, l6 + 1))]) dX5_firstDeed_71 rfl vv2 rfl rfl rfl ?_
        refine ow_goto (tg := 11) dX5_firstDeed_74 rfl ?_
        exact h
      · have h := h.2 hc
        refine ow_iconst (pc' := 42) (n := (-1)) dX5_firstDeed_41 rfl rfl ?_
        exact ow_iret dX5_firstDeed_42 rfl rfl h
theorem fX5_firstDeed {C : ow_C} {A L N : Int} {d : Nat} {M : ow_M} {K : Int → ow_M → Prop} {l1 l2 : Int} (h : ow_At C (EM A L N) (d + 1) mX5_firstDeed 11 [(0, (3, 64)), (2, (0, l2)), (3, (0, l1)), (4, (0, 0)), (5, (0, (-1))), (6, (0, 0))] [] (0, 0) M K) : ow_Sp C (EM A L N) (d + 1) mX5_firstDeed (0, 0) [(3, 64), (0, l1), (0, l2)] M K := ow_enter (by decide +kernel) rfl rfl (cX5_firstDeed_0 h)
set_option maxRecDepth 20000 in
theorem cX5_deedOf_0 {C : ow_C} {A L N : Int} {d : Nat} {M : ow_M} {K : Int → ow_M → Prop} {l1 l2 l3 : Int} (h : ow_I (l1 + 1) ∧ (0 ≤ (l1 + 1) ∧ (l1 + 1) < 9) ∧ ow_At C (EM A L N) (d + 1) mX5_deedOf 13 [(0, (3, 64)), (1, (0, l1)), (2, (0, l2)), (3, (0, l3)), (4, (3, 67 + (l1 + 1))), (5, (0, 0))] [] (0, 0) M K) : ow_At C (EM A L N) (d + 1) mX5_deedOf 0 [(0, (3, 64)), (1, (0, l1)), (2, (0, l2)), (3, (0, l3))] [] (0, 0) M K := by
  refine ow_aload_n (pc' := 1) (x := 64) dX5_deedOf_0 rfl rfl ?_
  refine ow_getf3 (pc' := 4) (t := 3) (ji := 3) (val := 66) dX5_deedOf_1 fRX5_37 rfl rfl rfl (of_eq_true eo64) eg64_3 ?_
  refine ow_iload_n (pc' := 5) (x := l1) dX5_deedOf_4 rfl rfl ?_
  refine ow_iconst (pc' := 6) (n := 1) dX5_deedOf_5 rfl rfl ?_
  obtain ⟨vv1, h⟩ := h
  refine ow_iadd (pc' := 7) dX5_deedOf_6 vv1 rfl ?_
  obtain ⟨vv2, h⟩ := h
  refine ow_aaload3 (pc' := 8) (t := 104) (val := 67 + (l1 + 1)) dX5_deedOf_7 rfl rfl (Eq.mpr (er66 _) vv2) (ea66 _) ?_
  refine ow_astore (pc' := 10) (lv' := [(0, (3, 64)), (1, (0, l1)), (2, (0, l2)), (3, (0, l3)), (4, (3, 67 + (l1 + 1)))]) dX5_deedOf_8 rfl rfl rfl ?_
  refine ow_iconst (pc' := 11) (n := 0) dX5_deedOf_10 rfl rfl ?_
  refine ow_istore (pc' := 13) (lv' := [(0, (3, 64)), (1, (0, l1)), (2, (0, l2)), (3, (0, l3)), (4, (3, 67 + (l1 + 1))), (5, (0, 0))]) dX5_deedOf_11 rfl rfl rfl ?_
  exact h
set_option maxRecDepth 20000 in
theorem cX5_deedOf_13 {C : ow_C} {A L N : Int} {d : Nat} {M : ow_M} {K : Int → ow_M → Prop} {l1 l2 l3 l4 l5 : Int} (h : (L ≤ l5 → K ((-1)) M) ∧ (l5 < L → ow_Sp C (EM A L N) d mX10_letter (0, 0) [(3, 3), (0, l2), (0, l5)] M (fun r1 N1 => ow_Sp C (EM A L N) d mX9_changesOf (0, 0) [(3, 58), (0, l1), (0, l5), (0, r1)] N1 (fun r2 N2 => ow_At C (EM A L N) (d + 1) mX5_deedOf 54 [(0, (3, 64)), (1, (0, l1)), (2, (0, l2)), (3, (0, l3)), (4, (3, l4)), (5, (0, l5)), (6, (0, r1)), (7, (0, r2)), (8, (0, 0))] [] (0, 0) N2 K)))) : ow_At C (EM A L N) (d + 1) mX5_deedOf 13 [(0, (3, 64)), (1, (0, l1)), (2, (0, l2)), (3, (0, l3)), (4, (3, l4)), (5, (0, l5))] [] (0, 0) M K := by
  refine ow_iload (pc' := 15) (x := l5) dX5_deedOf_13 rfl rfl ?_
  refine ow_aload_n (pc' := 16) (x := 64) dX5_deedOf_15 rfl rfl ?_
  refine ow_getf3 (pc' := 19) (t := 3) (ji := 0) (val := 3) dX5_deedOf_16 fRX5_15 rfl rfl rfl (of_eq_true eo64) eg64_0 ?_
  refine ow_getf3 (pc' := 22) (t := 0) (ji := 1) (val := L) dX5_deedOf_19 fRX5_23 rfl rfl rfl (of_eq_true eo3) eg3_1 ?_
  refine ow_icmpge (pc' := 25) (tg := 151) dX5_deedOf_22 rfl rfl (fun hc => ?_) (fun hc => ?_)
  · have h := h.1 hc
    refine ow_iconst (pc' := 152) (n := (-1)) dX5_deedOf_151 rfl rfl ?_
    exact ow_iret dX5_deedOf_152 rfl rfl h
  · have h := h.2 hc
    refine ow_aload_n (pc' := 26) (x := 64) dX5_deedOf_25 rfl rfl ?_
    refine ow_getf3 (pc' := 29) (t := 3) (ji := 0) (val := 3) dX5_deedOf_26 fRX5_15 rfl rfl rfl (of_eq_true eo64) eg64_0 ?_
    refine ow_iload_n (pc' := 30) (x := l2) dX5_deedOf_29 rfl rfl ?_
    refine ow_iload (pc' := 32) (x := l5) dX5_deedOf_30 rfl rfl ?_
    refine ow_callVp (z := mX10_letter) (n := 2) (k := 10) (vs := [(0, l2), (0, l5)]) (x := 3) (st := []) (pc' := 35) (b1 := (0, 0)) (b2 := (0, 0)) dX5_deedOf_32 lRX5_52 kX10_letter iX10_letter rfl rfl rfl rfl rfl rfl (of_eq_true eo3) (ow_Sp.mono h (fun r1 N1 h => ?_))
    refine ow_istore (pc' := 37) (lv' := [(0, (3, 64)), (1, (0, l1)), (2, (0, l2)), (3, (0, l3)), (4, (3, l4)), (5, (0, l5)), (6, (0, r1))]) dX5_deedOf_35 rfl rfl rfl ?_
    refine ow_aload_n (pc' := 38) (x := 64) dX5_deedOf_37 rfl rfl ?_
    refine ow_getf3 (pc' := 41) (t := 3) (ji := 1) (val := 58) dX5_deedOf_38 fRX5_19 rfl rfl rfl (of_eq_true eo64) eg64_1 ?_
    refine ow_iload_n (pc' := 42) (x := l1) dX5_deedOf_41 rfl rfl ?_
    refine ow_iload (pc' := 44) (x := l5) dX5_deedOf_42 rfl rfl ?_
    refine ow_iload (pc' := 46) (x := r1) dX5_deedOf_44 rfl rfl ?_
    refine ow_callVp (z := mX9_changesOf) (n := 3) (k := 9) (vs := [(0, l1), (0, l5), (0, r1)]) (x := 58) (st := []) (pc' := 49) (b1 := (0, 0)) (b2 := (0, 0)) dX5_deedOf_46 lRX5_55 kX9_changesOf iX9_changesOf rfl rfl rfl rfl rfl rfl (of_eq_true eo58) (ow_Sp.mono h (fun r2 N2 h => ?_))
    refine ow_istore (pc' := 51) (lv' := [(0, (3, 64)), (1, (0, l1)), (2, (0, l2)), (3, (0, l3)), (4, (3, l4)), (5, (0, l5)), (6, (0, r1)), (7, (0, r2))]) dX5_deedOf_49 rfl rfl rfl ?_
    refine ow_iconst (pc' := 52) (n := 0) dX5_deedOf_51 rfl rfl ?_
    refine ow_istore (pc' := 54) (lv' := [(0, (3, 64)), (1, (0, l1)), (2, (0, l2)), (3, (0, l3)), (4, (3, l4)), (5, (0, l5)), (6, (0, r1)), (7, (0, r2)), (8, (0, 0))]) dX5_deedOf_52 rfl rfl rfl ?_
    exact h
set_option maxRecDepth 20000 in
theorem cX5_deedOf_54 {C : ow_C} {A L N : Int} {d : Nat} {M : ow_M} {K : Int → ow_M → Prop} {l1 l2 l3 l4 l5 l6 l7 l8 : Int} (h : (A ≤ l8 → ow_I (l5 + 1) ∧ ow_At C (EM A L N) (d + 1) mX5_deedOf 13 [(0, (3, 64)), (1, (0, l1)), (2, (0, l2)), (3, (0, l3)), (4, (3, l4)), (5, (0, l5 + 1))] [] (0, 0) M K) ∧ (l8 < A → (l8 = l6 → ow_At C (EM A L N) (d + 1) mX5_deedOf 98 [(0, (3, 64)), (1, (0, l1)), (2, (0, l2)), (3, (0, l3)), (4, (3, l4)), (5, (0, l5)), (6, (0, l6)), (7, (0, l7)), (8, (0, l8))] [(0, 0)] (0, 0) M K) ∧ (l8 ≠ l6 → ow_I (l7 + l8) ∧ (0 ≤ (l7 + l8) ∧ (l7 + l8) < (8 * L * A * A)) ∧ ((ow_and (ow_shr (M 62 (l7 + l8)) l3) 1) = 0 → ow_At C (EM A L N) (d + 1) mX5_deedOf 98 [(0, (3, 64)), (1, (0, l1)), (2, (0, l2)), (3, (0, l3)), (4, (3, l4)), (5, (0, l5)), (6, (0, l6)), (7, (0, l7)), (8, (0, l8))] [(0, 0)] (0, 0) M K) ∧ ((ow_and (ow_shr (M 62 (l7 + l8)) l3) 1) ≠ 0 → ow_At C (EM A L N) (d + 1) mX5_deedOf 98 [(0, (3, 64)), (1, (0, l1)), (2, (0, l2)), (3, (0, l3)), (4, (3, l4)), (5, (0, l5)), (6, (0, l6)), (7, (0, l7)), (8, (0, l8))] [(0, 1)] (0, 0) M K)))) : ow_At C (EM A L N) (d + 1) mX5_deedOf 54 [(0, (3, 64)), (1, (0, l1)), (2, (0, l2)), (3, (0, l3)), (4, (3, l4)), (5, (0, l5)), (6, (0, l6)), (7, (0, l7)), (8, (0, l8))] [] (0, 0) M K := by
  refine ow_iload (pc' := 56) (x := l8) dX5_deedOf_54 rfl rfl ?_
  refine ow_aload_n (pc' := 57) (x := 64) dX5_deedOf_56 rfl rfl ?_
  refine ow_getf3 (pc' := 60) (t := 3) (ji := 0) (val := 3) dX5_deedOf_57 fRX5_15 rfl rfl rfl (of_eq_true eo64) eg64_0 ?_
  refine ow_getf3 (pc' := 63) (t := 0) (ji := 0) (val := A) dX5_deedOf_60 fRX5_64 rfl rfl rfl (of_eq_true eo3) eg3_0 ?_
  refine ow_icmpge (pc' := 66) (tg := 145) dX5_deedOf_63 rfl rfl (fun hc => ?_) (fun hc => ?_)
  · have h := h.1 hc
    obtain ⟨vv1, h⟩ := h
    refine ow_iinc (pc' := 148) (lv' := [(0, (3, 64)), (1, (0, l1)), (2, (0, l2)), (3, (0, l3)), (4, (3, l4)), (5, (0, l5 + 1)), (6, (0, l6)), (7, (0, l7)), (8, (0, l8))]) dX5_deedOf_145 rfl vv1 rfl rfl rfl ?_
    refine ow_goto (tg := 13) dX5_deedOf_148 rfl ?_
    refine ow_sub (lv' := [(0, (3, 64)), (1, (0, l1)), (2, (0, l2)), (3, (0, l3)), (4, (3, l4)), (5, (0, l5 + 1))]) [0, 1, 2, 3, 4, 5] rfl ?_
    exact h
  · have h := h.2 hc
    refine ow_iload (pc' := 68) (x := l8) dX5_deedOf_66 rfl rfl ?_
    refine ow_iload (pc' := 70) (x := l6) dX5_deedOf_68 rfl rfl ?_
    refine ow_icmpeq (pc' := 73) (tg := 97) dX5_deedOf_70 rfl rfl (fun hc => ?_) (fun hc => ?_)
    · have h := h.1 hc
      refine ow_iconst (pc' := 98) (n := 0) dX5_deedOf_97 rfl rfl ?_
      exact h
    · have h := h.2 hc
      refine ow_aload_n (pc' := 74) (x := 64) dX5_deedOf_73 rfl rfl ?_
      refine ow_getf3 (pc' := 77) (t := 3) (ji := 1) (val := 58) dX5_deedOf_74 fRX5_19 rfl rfl rfl (of_eq_true eo64) eg64_1 ?_
      refine ow_getf3 (pc' := 80) (t := 3) (ji := 3) (val := 62) dX5_deedOf_77 fRX5_67 rfl rfl rfl (of_eq_true eo58) eg58_3 ?_
      refine ow_iload (pc' := 82) (x := l7) dX5_deedOf_80 rfl rfl ?_
      refine ow_iload (pc' := 84) (x := l8) dX5_deedOf_82 rfl rfl ?_
      obtain ⟨vv2, h⟩ := h
      refine ow_iadd (pc' := 85) dX5_deedOf_84 vv2 rfl ?_
      obtain ⟨vv3, h⟩ := h
      refine ow_iaload3 (pc' := 86) (val := M 62 (l7 + l8)) dX5_deedOf_85 rfl (Eq.mpr (er62 _) vv3) (ea62 _) ?_
      refine ow_iload_n (pc' := 87) (x := l3) dX5_deedOf_86 rfl rfl ?_
      refine ow_ishr (pc' := 88) dX5_deedOf_87 rfl ?_
      refine ow_iconst (pc' := 89) (n := 1) dX5_deedOf_88 rfl rfl ?_
      refine ow_iand (pc' := 90) dX5_deedOf_89 rfl ?_
      refine ow_ifeq (pc' := 93) (tg := 97) dX5_deedOf_90 rfl rfl (fun hc => ?_) (fun hc => ?_)
      · have h := h.1 hc
        refine ow_iconst (pc' := 98) (n := 0) dX5_deedOf_97 rfl rfl ?_
        exact h
      · have h := h.2 hc
        refine ow_iconst (pc' := 94) (n := 1) dX5_deedOf_93 rfl rfl ?_
        refine ow_goto (tg := 98) dX5_deedOf_94 rfl ?_
        exact h
set_option maxRecDepth 20000 in
theorem cX5_deedOf_98 {C : ow_C} {A L N : Int} {d : Nat} {M : ow_M} {K : Int → ow_M → Prop} {l1 l2 l3 l4 l5 l6 l7 l8 s0 : Int} (h : (s0 = 0 → ow_I (l8 + 1) ∧ ow_At C (EM A L N) (d + 1) mX5_deedOf 54 [(0, (3, 64)), (1, (0, l1)), (2, (0, l2)), (3, (0, l3)), (4, (3, l4)), (5, (0, l5)), (6, (0, l6)), (7, (0, l7)), (8, (0, l8 + 1))] [] (0, 0) M K) ∧ (s0 ≠ 0 → ow_Sp C (EM A L N) d mX10_changed (0, 0) [(3, 3), (0, l2), (0, l5), (0, l8)] M (fun r1 N1 => ow_R (EM A L N) N1 l4 100 r1 ∧ ow_I (l5 + 1) ∧ ((ow_and (ow_shr (ow_gv (EM A L N) N1 l4 r1) (l5 + 1)) 1) = 0 → ow_I (l8 + 1) ∧ ow_At C (EM A L N) (d + 1) mX5_deedOf 54 [(0, (3, 64)), (1, (0, l1)), (2, (0, l2)), (3, (0, l3)), (4, (3, l4)), (5, (0, l5)), (6, (0, l6)), (7, (0, l7)), (8, (0, l8 + 1))] [] (0, 0) N1 K) ∧ ((ow_and (ow_shr (ow_gv (EM A L N) N1 l4 r1) (l5 + 1)) 1) ≠ 0 → ow_I (10 * l5) ∧ ow_I ((10 * l5) + l8) ∧ K ((10 * l5) + l8) N1)))) : ow_At C (EM A L N) (d + 1) mX5_deedOf 98 [(0, (3, 64)), (1, (0, l1)), (2, (0, l2)), (3, (0, l3)), (4, (3, l4)), (5, (0, l5)), (6, (0, l6)), (7, (0, l7)), (8, (0, l8))] [(0, s0)] (0, 0) M K := by
  refine ow_istore (pc' := 100) (lv' := [(0, (3, 64)), (1, (0, l1)), (2, (0, l2)), (3, (0, l3)), (4, (3, l4)), (5, (0, l5)), (6, (0, l6)), (7, (0, l7)), (8, (0, l8)), (9, (0, s0))]) dX5_deedOf_98 rfl rfl rfl ?_
  refine ow_iload (pc' := 102) (x := s0) dX5_deedOf_100 rfl rfl ?_
  refine ow_ifeq (pc' := 105) (tg := 139) dX5_deedOf_102 rfl rfl (fun hc => ?_) (fun hc => ?_)
  · have h := h.1 hc
    obtain ⟨vv1, h⟩ := h
    refine ow_iinc (pc' := 142) (lv' := [(0, (3, 64)), (1, (0, l1)), (2, (0, l2)), (3, (0, l3)), (4, (3, l4)), (5, (0, l5)), (6, (0, l6)), (7, (0, l7)), (8, (0, l8 + 1)), (9, (0, s0))]) dX5_deedOf_139 rfl vv1 rfl rfl rfl ?_
    refine ow_goto (tg := 54) dX5_deedOf_142 rfl ?_
    refine ow_sub (lv' := [(0, (3, 64)), (1, (0, l1)), (2, (0, l2)), (3, (0, l3)), (4, (3, l4)), (5, (0, l5)), (6, (0, l6)), (7, (0, l7)), (8, (0, l8 + 1))]) [0, 1, 2, 3, 4, 5, 6, 7, 8] rfl ?_
    exact h
  · have h := h.2 hc
    refine ow_aload (pc' := 107) (x := l4) dX5_deedOf_105 rfl rfl ?_
    refine ow_aload_n (pc' := 108) (x := 64) dX5_deedOf_107 rfl rfl ?_
    refine ow_getf3 (pc' := 111) (t := 3) (ji := 0) (val := 3) dX5_deedOf_108 fRX5_15 rfl rfl rfl (of_eq_true eo64) eg64_0 ?_
    refine ow_iload_n (pc' := 112) (x := l2) dX5_deedOf_111 rfl rfl ?_
    refine ow_iload (pc' := 114) (x := l5) dX5_deedOf_112 rfl rfl ?_
    refine ow_iload (pc' := 116) (x := l8) dX5_deedOf_114 rfl rfl ?_
    refine ow_callVp (z := mX10_changed) (n := 3) (k := 10) (vs := [(0, l2), (0, l5), (0, l8)]) (x := 3) (st := [(3, l4)]) (pc' := 119) (b1 := (0, 0)) (b2 := (0, 0)) dX5_deedOf_116 lRX5_76 kX10_changed iX10_changed rfl rfl rfl rfl rfl rfl (of_eq_true eo3) (ow_Sp.mono h (fun r1 N1 h => ?_))
    obtain ⟨w, h⟩ := h
    refine ow_iaload (pc' := 120) dX5_deedOf_119 rfl w ?_
    refine ow_iload (pc' := 122) (x := l5) dX5_deedOf_120 rfl rfl ?_
    refine ow_iconst (pc' := 123) (n := 1) dX5_deedOf_122 rfl rfl ?_
    obtain ⟨vv2, h⟩ := h
    refine ow_iadd (pc' := 124) dX5_deedOf_123 vv2 rfl ?_
    refine ow_ishr (pc' := 125) dX5_deedOf_124 rfl ?_
    refine ow_iconst (pc' := 126) (n := 1) dX5_deedOf_125 rfl rfl ?_
    refine ow_iand (pc' := 127) dX5_deedOf_126 rfl ?_
    refine ow_ifeq (pc' := 130) (tg := 139) dX5_deedOf_127 rfl rfl (fun hc => ?_) (fun hc => ?_)
    · have h := h.1 hc
      obtain ⟨vv3, h⟩ := h
      refine ow_iinc (pc' := 142) (lv' := [(0, (3, 64)), (1, (0, l1)), (2, (0, l2)), (3, (0, l3)), (4, (3, l4)), (5, (0, l5)), (6, (0, l6)), (7, (0, l7)), (8, (0, l8 + 1)), (9, (0, s0))]) dX5_deedOf_139 rfl vv3 rfl rfl rfl ?_
      refine ow_goto (tg := 54) dX5_deedOf_142 rfl ?_
      refine ow_sub (lv' := [(0, (3, 64)), (1, (0, l1)), (2, (0, l2)), (3, (0, l3)), (4, (3, l4)), (5, (0, l5)), (6, (0, l6)), (7, (0, l7)), (8, (0, l8 + 1))]) [0, 1, 2, 3, 4, 5, 6, 7, 8] rfl ?_
      exact h
    · have h := h.2 hc
      refine ow_bipush (pc' := 132) (n := 10) dX5_deedOf_130 rfl rfl ?_
      refine ow_iload (pc' := 134) (x := l5) dX5_deedOf_132 rfl rfl ?_
      obtain ⟨vv4, h⟩ := h
      refine ow_imul (pc' := 135) dX5_deedOf_134 vv4 rfl ?_
      refine ow_iload (pc' := 137) (x := l8) dX5_deedOf_135 rfl rfl ?_
      obtain ⟨vv5, h⟩ := h
      refine ow_iadd (pc' := 138) dX5_deedOf_137 vv5 rfl ?_
      exact ow_iret dX5_deedOf_138 rfl rfl h
theorem fX5_deedOf {C : ow_C} {A L N : Int} {d : Nat} {M : ow_M} {K : Int → ow_M → Prop} {l1 l2 l3 : Int} (h : ow_I (l1 + 1) ∧ (0 ≤ (l1 + 1) ∧ (l1 + 1) < 9) ∧ ow_At C (EM A L N) (d + 1) mX5_deedOf 13 [(0, (3, 64)), (1, (0, l1)), (2, (0, l2)), (3, (0, l3)), (4, (3, 67 + (l1 + 1))), (5, (0, 0))] [] (0, 0) M K) : ow_Sp C (EM A L N) (d + 1) mX5_deedOf (0, 0) [(3, 64), (0, l1), (0, l2), (0, l3)] M K := ow_enter (by decide +kernel) rfl rfl (cX5_deedOf_0 h)
set_option maxRecDepth 20000 in
theorem cX5_spread_0 {C : ow_C} {A L N : Int} {d : Nat} {M : ow_M} {K : Int → ow_M → Prop} {l1 l2 : Int} (h : ow_Sp C (EM A L N) d mJ7_fill_53178 (0, 0) [(3, 67 + 0), (0, 0)] M (fun r1 N1 => ow_R (EM A L N) N1 (67 + 0) 100 l1 ∧ (EM A L N).1 (67 + 0) l1 = none ∧ ∀ N2, N2 = ow_up N1 (67 + 0) l1 1 → ow_At C (EM A L N) (d + 1) mX5_spread 21 [(0, (3, 64)), (2, (0, l2)), (3, (0, 0))] [] (0, 0) N2 K)) : ow_At C (EM A L N) (d + 1) mX5_spread 0 [(0, (3, 64)), (1, (0, l1)), (2, (0, l2))] [] (0, 0) M K := by
  refine ow_aload_n (pc' := 1) (x := 64) dX5_spread_0 rfl rfl ?_
  refine ow_getf3 (pc' := 4) (t := 3) (ji := 3) (val := 66) dX5_spread_1 fRX5_37 rfl rfl rfl (of_eq_true eo64) eg64_3 ?_
  refine ow_iconst (pc' := 5) (n := 0) dX5_spread_4 rfl rfl ?_
  refine ow_aaload3 (pc' := 6) (t := 104) (val := 67 + 0) dX5_spread_5 rfl rfl (Eq.mpr (er66 _) ⟨by decide, by decide⟩) (ea66 _) ?_
  refine ow_iconst (pc' := 7) (n := 0) dX5_spread_6 rfl rfl ?_
  refine ow_callSv (z := mJ7_fill_53178) (n := 2) (vs := [(3, 67 + 0), (0, 0)]) (st := []) (pc' := 10) (b1 := (0, 0)) (b2 := (0, 0)) dX5_spread_7 lRX5_79 kJ7_fill_53178 zJ7_fill_53178 rfl rfl rfl rfl rfl rfl (ow_Sp.mono h (fun r1 N1 h => ?_))
  refine ow_aload_n (pc' := 11) (x := 64) dX5_spread_10 rfl rfl ?_
  refine ow_getf3 (pc' := 14) (t := 3) (ji := 3) (val := 66) dX5_spread_11 fRX5_37 rfl rfl rfl (of_eq_true eo64) eg64_3 ?_
  refine ow_iconst (pc' := 15) (n := 0) dX5_spread_14 rfl rfl ?_
  refine ow_aaload3 (pc' := 16) (t := 104) (val := 67 + 0) dX5_spread_15 rfl rfl (Eq.mpr (er66 _) ⟨by decide, by decide⟩) (ea66 _) ?_
  refine ow_iload_n (pc' := 17) (x := l1) dX5_spread_16 rfl rfl ?_
  refine ow_iconst (pc' := 18) (n := 1) dX5_spread_17 rfl rfl ?_
  obtain ⟨w, w1, h⟩ := h
  refine ow_iastore2 (pc' := 19) dX5_spread_18 rfl w w1 (fun N2 eN2 => ?_)
  have h := h N2 eN2
  refine ow_iconst (pc' := 20) (n := 0) dX5_spread_19 rfl rfl ?_
  refine ow_istore_n (pc' := 21) (lv' := [(0, (3, 64)), (1, (0, l1)), (2, (0, l2)), (3, (0, 0))]) dX5_spread_20 rfl rfl rfl ?_
  refine ow_sub (lv' := [(0, (3, 64)), (2, (0, l2)), (3, (0, 0))]) [0, 2, 3] rfl ?_
  exact h
set_option maxRecDepth 20000 in
theorem cX5_spread_21 {C : ow_C} {A L N : Int} {d : Nat} {M : ow_M} {K : Int → ow_M → Prop} {l2 l3 : Int} (h : (l2 ≤ l3 → K 0 M) ∧ (l3 < l2 → (8 ≤ l3 → K 0 M) ∧ (l3 < 8 → ow_I (l3 + 1) ∧ (0 ≤ (l3 + 1) ∧ (l3 + 1) < 9) ∧ ow_Sp C (EM A L N) d mJ7_fill_53178 (0, 0) [(3, 67 + (l3 + 1)), (0, 0)] M (fun r1 N1 => ow_At C (EM A L N) (d + 1) mX5_spread 47 [(0, (3, 64)), (2, (0, l2)), (3, (0, l3)), (4, (0, 0))] [] (0, 0) N1 K)))) : ow_At C (EM A L N) (d + 1) mX5_spread 21 [(0, (3, 64)), (2, (0, l2)), (3, (0, l3))] [] (0, 0) M K := by
  refine ow_iload_n (pc' := 22) (x := l3) dX5_spread_21 rfl rfl ?_
  refine ow_iload_n (pc' := 23) (x := l2) dX5_spread_22 rfl rfl ?_
  refine ow_icmpge (pc' := 26) (tg := 90) dX5_spread_23 rfl rfl (fun hc => ?_) (fun hc => ?_)
  · have h := h.1 hc
    exact ow_vret dX5_spread_90 rfl rfl h
  · have h := h.2 hc
    refine ow_iload_n (pc' := 27) (x := l3) dX5_spread_26 rfl rfl ?_
    refine ow_bipush (pc' := 29) (n := 8) dX5_spread_27 rfl rfl ?_
    refine ow_icmpge (pc' := 32) (tg := 90) dX5_spread_29 rfl rfl (fun hc => ?_) (fun hc => ?_)
    · have h := h.1 hc
      exact ow_vret dX5_spread_90 rfl rfl h
    · have h := h.2 hc
      refine ow_aload_n (pc' := 33) (x := 64) dX5_spread_32 rfl rfl ?_
      refine ow_getf3 (pc' := 36) (t := 3) (ji := 3) (val := 66) dX5_spread_33 fRX5_37 rfl rfl rfl (of_eq_true eo64) eg64_3 ?_
      refine ow_iload_n (pc' := 37) (x := l3) dX5_spread_36 rfl rfl ?_
      refine ow_iconst (pc' := 38) (n := 1) dX5_spread_37 rfl rfl ?_
      obtain ⟨vv1, h⟩ := h
      refine ow_iadd (pc' := 39) dX5_spread_38 vv1 rfl ?_
      obtain ⟨vv2, h⟩ := h
      refine ow_aaload3 (pc' := 40) (t := 104) (val := 67 + (l3 + 1)) dX5_spread_39 rfl rfl (Eq.mpr (er66 _) vv2) (ea66 _) ?_
      refine ow_iconst (pc' := 41) (n := 0) dX5_spread_40 rfl rfl ?_
      refine ow_callSv (z := mJ7_fill_53178) (n := 2) (vs := [(3, 67 + (l3 + 1)), (0, 0)]) (st := []) (pc' := 44) (b1 := (0, 0)) (b2 := (0, 0)) dX5_spread_41 lRX5_79 kJ7_fill_53178 zJ7_fill_53178 rfl rfl rfl rfl rfl rfl (ow_Sp.mono h (fun r1 N1 h => ?_))
      refine ow_iconst (pc' := 45) (n := 0) dX5_spread_44 rfl rfl ?_
      refine ow_istore (pc' := 47) (lv' := [(0, (3, 64)), (2, (0, l2)), (3, (0, l3)), (4, (0, 0))]) dX5_spread_45 rfl rfl rfl ?_
      exact h
set_option maxRecDepth 20000 in
theorem cX5_spread_47 {C : ow_C} {A L N : Int} {d : Nat} {M : ow_M} {K : Int → ow_M → Prop} {l2 l3 l4 : Int} (h : (N ≤ l4 → ow_I (l3 + 1) ∧ ow_At C (EM A L N) (d + 1) mX5_spread 21 [(0, (3, 64)), (2, (0, l2)), (3, (0, l3 + 1))] [] (0, 0) M K) ∧ (l4 < N → (0 ≤ l3 ∧ l3 < 9) ∧ ow_R (EM A L N) M (67 + l3) 100 l4 ∧ ((ow_gv (EM A L N) M (67 + l3) l4) = 0 → ow_I (l4 + 1) ∧ ow_At C (EM A L N) (d + 1) mX5_spread 47 [(0, (3, 64)), (2, (0, l2)), (3, (0, l3)), (4, (0, l4 + 1))] [] (0, 0) M K) ∧ ((ow_gv (EM A L N) M (67 + l3) l4) ≠ 0 → ow_Sp C (EM A L N) d mX5_spreadWord (0, 0) [(3, 64), (0, l3), (0, l4)] M (fun r1 N1 => ow_I (l4 + 1) ∧ ow_At C (EM A L N) (d + 1) mX5_spread 47 [(0, (3, 64)), (2, (0, l2)), (3, (0, l3)), (4, (0, l4 + 1))] [] (0, 0) N1 K)))) : ow_At C (EM A L N) (d + 1) mX5_spread 47 [(0, (3, 64)), (2, (0, l2)), (3, (0, l3)), (4, (0, l4))] [] (0, 0) M K := by
  refine ow_iload (pc' := 49) (x := l4) dX5_spread_47 rfl rfl ?_
  refine ow_aload_n (pc' := 50) (x := 64) dX5_spread_49 rfl rfl ?_
  refine ow_getf3 (pc' := 53) (t := 3) (ji := 0) (val := 3) dX5_spread_50 fRX5_15 rfl rfl rfl (of_eq_true eo64) eg64_0 ?_
  refine ow_getf3 (pc' := 56) (t := 0) (ji := 2) (val := N) dX5_spread_53 fRX5_32 rfl rfl rfl (of_eq_true eo3) eg3_2 ?_
  refine ow_icmpge (pc' := 59) (tg := 84) dX5_spread_56 rfl rfl (fun hc => ?_) (fun hc => ?_)
  · have h := h.1 hc
    obtain ⟨vv1, h⟩ := h
    refine ow_iinc (pc' := 87) (lv' := [(0, (3, 64)), (2, (0, l2)), (3, (0, l3 + 1)), (4, (0, l4))]) dX5_spread_84 rfl vv1 rfl rfl rfl ?_
    refine ow_goto (tg := 21) dX5_spread_87 rfl ?_
    refine ow_sub (lv' := [(0, (3, 64)), (2, (0, l2)), (3, (0, l3 + 1))]) [0, 1, 2] rfl ?_
    exact h
  · have h := h.2 hc
    refine ow_aload_n (pc' := 60) (x := 64) dX5_spread_59 rfl rfl ?_
    refine ow_getf3 (pc' := 63) (t := 3) (ji := 3) (val := 66) dX5_spread_60 fRX5_37 rfl rfl rfl (of_eq_true eo64) eg64_3 ?_
    refine ow_iload_n (pc' := 64) (x := l3) dX5_spread_63 rfl rfl ?_
    obtain ⟨vv2, h⟩ := h
    refine ow_aaload3 (pc' := 65) (t := 104) (val := 67 + l3) dX5_spread_64 rfl rfl (Eq.mpr (er66 _) vv2) (ea66 _) ?_
    refine ow_iload (pc' := 67) (x := l4) dX5_spread_65 rfl rfl ?_
    obtain ⟨w, h⟩ := h
    refine ow_iaload (pc' := 68) dX5_spread_67 rfl w ?_
    refine ow_ifeq (pc' := 71) (tg := 78) dX5_spread_68 rfl rfl (fun hc => ?_) (fun hc => ?_)
    · have h := h.1 hc
      obtain ⟨vv3, h⟩ := h
      refine ow_iinc (pc' := 81) (lv' := [(0, (3, 64)), (2, (0, l2)), (3, (0, l3)), (4, (0, l4 + 1))]) dX5_spread_78 rfl vv3 rfl rfl rfl ?_
      refine ow_goto (tg := 47) dX5_spread_81 rfl ?_
      exact h
    · have h := h.2 hc
      refine ow_aload_n (pc' := 72) (x := 64) dX5_spread_71 rfl rfl ?_
      refine ow_iload_n (pc' := 73) (x := l3) dX5_spread_72 rfl rfl ?_
      refine ow_iload (pc' := 75) (x := l4) dX5_spread_73 rfl rfl ?_
      refine ow_callVv (z := mX5_spreadWord) (n := 2) (k := 5) (vs := [(0, l3), (0, l4)]) (x := 64) (st := []) (pc' := 78) (b1 := (0, 0)) (b2 := (0, 0)) dX5_spread_75 lRX5_85 kX5_spreadWord iX5_spreadWord rfl rfl rfl rfl rfl rfl (of_eq_true eo64) (ow_Sp.mono h (fun r1 N1 h => ?_))
      obtain ⟨vv4, h⟩ := h
      refine ow_iinc (pc' := 81) (lv' := [(0, (3, 64)), (2, (0, l2)), (3, (0, l3)), (4, (0, l4 + 1))]) dX5_spread_78 rfl vv4 rfl rfl rfl ?_
      refine ow_goto (tg := 47) dX5_spread_81 rfl ?_
      exact h
theorem fX5_spread {C : ow_C} {A L N : Int} {d : Nat} {M : ow_M} {K : Int → ow_M → Prop} {l1 l2 : Int} (h : ow_Sp C (EM A L N) d mJ7_fill_53178 (0, 0) [(3, 67 + 0), (0, 0)] M (fun r1 N1 => ow_R (EM A L N) N1 (67 + 0) 100 l1 ∧ (EM A L N).1 (67 + 0) l1 = none ∧ ∀ N2, N2 = ow_up N1 (67 + 0) l1 1 → ow_At C (EM A L N) (d + 1) mX5_spread 21 [(0, (3, 64)), (2, (0, l2)), (3, (0, 0))] [] (0, 0) N2 K)) : ow_Sp C (EM A L N) (d + 1) mX5_spread (0, 0) [(3, 64), (0, l1), (0, l2)] M K := ow_enter (by decide +kernel) rfl rfl (cX5_spread_0 h)
set_option maxRecDepth 20000 in
theorem cX5_spreadWord_0 {C : ow_C} {A L N : Int} {d : Nat} {M : ow_M} {K : Int → ow_M → Prop} {l1 l2 : Int} (h : (0 ≤ l1 ∧ l1 < 9) ∧ ow_R (EM A L N) M (67 + l1) 100 l2 ∧ ow_I (l1 + 1) ∧ (0 ≤ (l1 + 1) ∧ (l1 + 1) < 9) ∧ ow_At C (EM A L N) (d + 1) mX5_spreadWord 22 [(0, (3, 64)), (1, (0, l1)), (2, (0, l2)), (3, (0, ow_gv (EM A L N) M (67 + l1) l2)), (4, (3, 67 + (l1 + 1))), (5, (0, 0))] [] (0, 0) M K) : ow_At C (EM A L N) (d + 1) mX5_spreadWord 0 [(0, (3, 64)), (1, (0, l1)), (2, (0, l2))] [] (0, 0) M K := by
  refine ow_aload_n (pc' := 1) (x := 64) dX5_spreadWord_0 rfl rfl ?_
  refine ow_getf3 (pc' := 4) (t := 3) (ji := 3) (val := 66) dX5_spreadWord_1 fRX5_37 rfl rfl rfl (of_eq_true eo64) eg64_3 ?_
  refine ow_iload_n (pc' := 5) (x := l1) dX5_spreadWord_4 rfl rfl ?_
  obtain ⟨vv1, h⟩ := h
  refine ow_aaload3 (pc' := 6) (t := 104) (val := 67 + l1) dX5_spreadWord_5 rfl rfl (Eq.mpr (er66 _) vv1) (ea66 _) ?_
  refine ow_iload_n (pc' := 7) (x := l2) dX5_spreadWord_6 rfl rfl ?_
  obtain ⟨w, h⟩ := h
  refine ow_iaload (pc' := 8) dX5_spreadWord_7 rfl w ?_
  refine ow_istore_n (pc' := 9) (lv' := [(0, (3, 64)), (1, (0, l1)), (2, (0, l2)), (3, (0, ow_gv (EM A L N) M (67 + l1) l2))]) dX5_spreadWord_8 rfl rfl rfl ?_
  refine ow_aload_n (pc' := 10) (x := 64) dX5_spreadWord_9 rfl rfl ?_
  refine ow_getf3 (pc' := 13) (t := 3) (ji := 3) (val := 66) dX5_spreadWord_10 fRX5_37 rfl rfl rfl (of_eq_true eo64) eg64_3 ?_
  refine ow_iload_n (pc' := 14) (x := l1) dX5_spreadWord_13 rfl rfl ?_
  refine ow_iconst (pc' := 15) (n := 1) dX5_spreadWord_14 rfl rfl ?_
  obtain ⟨vv2, h⟩ := h
  refine ow_iadd (pc' := 16) dX5_spreadWord_15 vv2 rfl ?_
  obtain ⟨vv3, h⟩ := h
  refine ow_aaload3 (pc' := 17) (t := 104) (val := 67 + (l1 + 1)) dX5_spreadWord_16 rfl rfl (Eq.mpr (er66 _) vv3) (ea66 _) ?_
  refine ow_astore (pc' := 19) (lv' := [(0, (3, 64)), (1, (0, l1)), (2, (0, l2)), (3, (0, ow_gv (EM A L N) M (67 + l1) l2)), (4, (3, 67 + (l1 + 1)))]) dX5_spreadWord_17 rfl rfl rfl ?_
  refine ow_iconst (pc' := 20) (n := 0) dX5_spreadWord_19 rfl rfl ?_
  refine ow_istore (pc' := 22) (lv' := [(0, (3, 64)), (1, (0, l1)), (2, (0, l2)), (3, (0, ow_gv (EM A L N) M (67 + l1) l2)), (4, (3, 67 + (l1 + 1))), (5, (0, 0))]) dX5_spreadWord_20 rfl rfl rfl ?_
  exact h
set_option maxRecDepth 20000 in
theorem cX5_spreadWord_22 {C : ow_C} {A L N : Int} {d : Nat} {M : ow_M} {K : Int → ow_M → Prop} {l1 l2 l3 l4 l5 : Int} (h : (L ≤ l5 → K 0 M) ∧ (l5 < L → ow_Sp C (EM A L N) d mX10_letter (0, 0) [(3, 3), (0, l2), (0, l5)] M (fun r1 N1 => ow_Sp C (EM A L N) d mX9_changesOf (0, 0) [(3, 58), (0, l1), (0, l5), (0, r1)] N1 (fun r2 N2 => ow_Sp C (EM A L N) d mX10_cleared (0, 0) [(3, 3), (0, l2), (0, l5)] N2 (fun r3 N3 => ow_At C (EM A L N) (d + 1) mX5_spreadWord 75 [(0, (3, 64)), (1, (0, l1)), (2, (0, l2)), (3, (0, l3)), (4, (3, l4)), (5, (0, l5)), (6, (0, r1)), (7, (0, r2)), (8, (0, r3)), (9, (0, 0))] [] (0, 0) N3 K))))) : ow_At C (EM A L N) (d + 1) mX5_spreadWord 22 [(0, (3, 64)), (1, (0, l1)), (2, (0, l2)), (3, (0, l3)), (4, (3, l4)), (5, (0, l5))] [] (0, 0) M K := by
  refine ow_iload (pc' := 24) (x := l5) dX5_spreadWord_22 rfl rfl ?_
  refine ow_aload_n (pc' := 25) (x := 64) dX5_spreadWord_24 rfl rfl ?_
  refine ow_getf3 (pc' := 28) (t := 3) (ji := 0) (val := 3) dX5_spreadWord_25 fRX5_15 rfl rfl rfl (of_eq_true eo64) eg64_0 ?_
  refine ow_getf3 (pc' := 31) (t := 0) (ji := 1) (val := L) dX5_spreadWord_28 fRX5_23 rfl rfl rfl (of_eq_true eo3) eg3_1 ?_
  refine ow_icmpge (pc' := 34) (tg := 153) dX5_spreadWord_31 rfl rfl (fun hc => ?_) (fun hc => ?_)
  · have h := h.1 hc
    exact ow_vret dX5_spreadWord_153 rfl rfl h
  · have h := h.2 hc
    refine ow_aload_n (pc' := 35) (x := 64) dX5_spreadWord_34 rfl rfl ?_
    refine ow_getf3 (pc' := 38) (t := 3) (ji := 0) (val := 3) dX5_spreadWord_35 fRX5_15 rfl rfl rfl (of_eq_true eo64) eg64_0 ?_
    refine ow_iload_n (pc' := 39) (x := l2) dX5_spreadWord_38 rfl rfl ?_
    refine ow_iload (pc' := 41) (x := l5) dX5_spreadWord_39 rfl rfl ?_
    refine ow_callVp (z := mX10_letter) (n := 2) (k := 10) (vs := [(0, l2), (0, l5)]) (x := 3) (st := []) (pc' := 44) (b1 := (0, 0)) (b2 := (0, 0)) dX5_spreadWord_41 lRX5_52 kX10_letter iX10_letter rfl rfl rfl rfl rfl rfl (of_eq_true eo3) (ow_Sp.mono h (fun r1 N1 h => ?_))
    refine ow_istore (pc' := 46) (lv' := [(0, (3, 64)), (1, (0, l1)), (2, (0, l2)), (3, (0, l3)), (4, (3, l4)), (5, (0, l5)), (6, (0, r1))]) dX5_spreadWord_44 rfl rfl rfl ?_
    refine ow_aload_n (pc' := 47) (x := 64) dX5_spreadWord_46 rfl rfl ?_
    refine ow_getf3 (pc' := 50) (t := 3) (ji := 1) (val := 58) dX5_spreadWord_47 fRX5_19 rfl rfl rfl (of_eq_true eo64) eg64_1 ?_
    refine ow_iload_n (pc' := 51) (x := l1) dX5_spreadWord_50 rfl rfl ?_
    refine ow_iload (pc' := 53) (x := l5) dX5_spreadWord_51 rfl rfl ?_
    refine ow_iload (pc' := 55) (x := r1) dX5_spreadWord_53 rfl rfl ?_
    refine ow_callVp (z := mX9_changesOf) (n := 3) (k := 9) (vs := [(0, l1), (0, l5), (0, r1)]) (x := 58) (st := []) (pc' := 58) (b1 := (0, 0)) (b2 := (0, 0)) dX5_spreadWord_55 lRX5_55 kX9_changesOf iX9_changesOf rfl rfl rfl rfl rfl rfl (of_eq_true eo58) (ow_Sp.mono h (fun r2 N2 h => ?_))
    refine ow_istore (pc' := 60) (lv' := [(0, (3, 64)), (1, (0, l1)), (2, (0, l2)), (3, (0, l3)), (4, (3, l4)), (5, (0, l5)), (6, (0, r1)), (7, (0, r2))]) dX5_spreadWord_58 rfl rfl rfl ?_
    refine ow_aload_n (pc' := 61) (x := 64) dX5_spreadWord_60 rfl rfl ?_
    refine ow_getf3 (pc' := 64) (t := 3) (ji := 0) (val := 3) dX5_spreadWord_61 fRX5_15 rfl rfl rfl (of_eq_true eo64) eg64_0 ?_
    refine ow_iload_n (pc' := 65) (x := l2) dX5_spreadWord_64 rfl rfl ?_
    refine ow_iload (pc' := 67) (x := l5) dX5_spreadWord_65 rfl rfl ?_
    refine ow_callVp (z := mX10_cleared) (n := 2) (k := 10) (vs := [(0, l2), (0, l5)]) (x := 3) (st := []) (pc' := 70) (b1 := (0, 0)) (b2 := (0, 0)) dX5_spreadWord_67 lRX5_61 kX10_cleared iX10_cleared rfl rfl rfl rfl rfl rfl (of_eq_true eo3) (ow_Sp.mono h (fun r3 N3 h => ?_))
    refine ow_istore (pc' := 72) (lv' := [(0, (3, 64)), (1, (0, l1)), (2, (0, l2)), (3, (0, l3)), (4, (3, l4)), (5, (0, l5)), (6, (0, r1)), (7, (0, r2)), (8, (0, r3))]) dX5_spreadWord_70 rfl rfl rfl ?_
    refine ow_iconst (pc' := 73) (n := 0) dX5_spreadWord_72 rfl rfl ?_
    refine ow_istore (pc' := 75) (lv' := [(0, (3, 64)), (1, (0, l1)), (2, (0, l2)), (3, (0, l3)), (4, (3, l4)), (5, (0, l5)), (6, (0, r1)), (7, (0, r2)), (8, (0, r3)), (9, (0, 0))]) dX5_spreadWord_73 rfl rfl rfl ?_
    exact h
set_option maxRecDepth 20000 in
theorem cX5_spreadWord_75 {C : ow_C} {A L N : Int} {d : Nat} {M : ow_M} {K : Int → ow_M → Prop} {l1 l2 l3 l4 l5 l6 l7 l8 l9 : Int} (h : (A ≤ l9 → ow_I (l5 + 1) ∧ ow_At C (EM A L N) (d + 1) mX5_spreadWord 22 [(0, (3, 64)), (1, (0, l1)), (2, (0, l2)), (3, (0, l3)), (4, (3, l4)), (5, (0, l5 + 1))] [] (0, 0) M K) ∧ (l9 < A → (l9 = l6 → (0 ≤ l5 ∧ l5 < L) ∧ ow_I (l8 + (em_pw A (L - 1 - l5))) ∧ ow_I (l9 + 1) ∧ ow_At C (EM A L N) (d + 1) mX5_spreadWord 75 [(0, (3, 64)), (1, (0, l1)), (2, (0, l2)), (3, (0, l3)), (4, (3, l4)), (5, (0, l5)), (6, (0, l6)), (7, (0, l7)), (8, (0, l8 + (em_pw A (L - 1 - l5)))), (9, (0, l9 + 1))] [] (0, 0) M K) ∧ (l9 ≠ l6 → ow_I (l7 + l9) ∧ (0 ≤ (l7 + l9) ∧ (l7 + l9) < (8 * L * A * A)) ∧ ((ow_and (M 62 (l7 + l9)) l3) = 0 → (0 ≤ l5 ∧ l5 < L) ∧ ow_I (l8 + (em_pw A (L - 1 - l5))) ∧ ow_I (l9 + 1) ∧ ow_At C (EM A L N) (d + 1) mX5_spreadWord 75 [(0, (3, 64)), (1, (0, l1)), (2, (0, l2)), (3, (0, l3)), (4, (3, l4)), (5, (0, l5)), (6, (0, l6)), (7, (0, l7)), (8, (0, l8 + (em_pw A (L - 1 - l5)))), (9, (0, l9 + 1))] [] (0, 0) M K) ∧ ((ow_and (M 62 (l7 + l9)) l3) ≠ 0 → ow_R (EM A L N) M l4 100 l8 ∧ ow_I (l5 + 1) ∧ ow_R (EM A L N) M l4 100 l8 ∧ (EM A L N).1 l4 l8 = none ∧ ∀ N1, N1 = ow_up M l4 l8 (ow_or (ow_gv (EM A L N) M l4 l8) (ow_shl 1 (l5 + 1))) → (0 ≤ l5 ∧ l5 < L) ∧ ow_I (l8 + (em_pw A (L - 1 - l5))) ∧ ow_I (l9 + 1) ∧ ow_At C (EM A L N) (d + 1) mX5_spreadWord 75 [(0, (3, 64)), (1, (0, l1)), (2, (0, l2)), (3, (0, l3)), (4, (3, l4)), (5, (0, l5)), (6, (0, l6)), (7, (0, l7)), (8, (0, l8 + (em_pw A (L - 1 - l5)))), (9, (0, l9 + 1))] [] (0, 0) N1 K)))) : ow_At C (EM A L N) (d + 1) mX5_spreadWord 75 [(0, (3, 64)), (1, (0, l1)), (2, (0, l2)), (3, (0, l3)), (4, (3, l4)), (5, (0, l5)), (6, (0, l6)), (7, (0, l7)), (8, (0, l8)), (9, (0, l9))] [] (0, 0) M K := by
  refine ow_iload (pc' := 77) (x := l9) dX5_spreadWord_75 rfl rfl ?_
  refine ow_aload_n (pc' := 78) (x := 64) dX5_spreadWord_77 rfl rfl ?_
  refine ow_getf3 (pc' := 81) (t := 3) (ji := 0) (val := 3) dX5_spreadWord_78 fRX5_15 rfl rfl rfl (of_eq_true eo64) eg64_0 ?_
  refine ow_getf3 (pc' := 84) (t := 0) (ji := 0) (val := A) dX5_spreadWord_81 fRX5_64 rfl rfl rfl (of_eq_true eo3) eg3_0 ?_
  refine ow_icmpge (pc' := 87) (tg := 147) dX5_spreadWord_84 rfl rfl (fun hc => ?_) (fun hc => ?_)
  · have h := h.1 hc
    obtain ⟨vv1, h⟩ := h
    refine ow_iinc (pc' := 150) (lv' := [(0, (3, 64)), (1, (0, l1)), (2, (0, l2)), (3, (0, l3)), (4, (3, l4)), (5, (0, l5 + 1)), (6, (0, l6)), (7, (0, l7)), (8, (0, l8)), (9, (0, l9))]) dX5_spreadWord_147 rfl vv1 rfl rfl rfl ?_
    refine ow_goto (tg := 22) dX5_spreadWord_150 rfl ?_
    refine ow_sub (lv' := [(0, (3, 64)), (1, (0, l1)), (2, (0, l2)), (3, (0, l3)), (4, (3, l4)), (5, (0, l5 + 1))]) [0, 1, 2, 3, 4, 5] rfl ?_
    exact h
  · have h := h.2 hc
    refine ow_iload (pc' := 89) (x := l9) dX5_spreadWord_87 rfl rfl ?_
    refine ow_iload (pc' := 91) (x := l6) dX5_spreadWord_89 rfl rfl ?_
    refine ow_icmpeq (pc' := 94) (tg := 126) dX5_spreadWord_91 rfl rfl (fun hc => ?_) (fun hc => ?_)
    · have h := h.1 hc
      refine ow_iload (pc' := 128) (x := l8) dX5_spreadWord_126 rfl rfl ?_
      refine ow_aload_n (pc' := 129) (x := 64) dX5_spreadWord_128 rfl rfl ?_
      refine ow_getf3 (pc' := 132) (t := 3) (ji := 0) (val := 3) dX5_spreadWord_129 fRX5_15 rfl rfl rfl (of_eq_true eo64) eg64_0 ?_
      refine ow_getf3 (pc' := 135) (t := 3) (ji := 3) (val := 4) dX5_spreadWord_132 fRX5_70 rfl rfl rfl (of_eq_true eo3) eg3_3 ?_
      refine ow_iload (pc' := 137) (x := l5) dX5_spreadWord_135 rfl rfl ?_
      obtain ⟨vv2, h⟩ := h
      refine ow_iaload3 (pc' := 138) (val := em_pw A (L - 1 - l5)) dX5_spreadWord_137 rfl (Eq.mpr (er4 _) vv2) (ea4 _) ?_
      obtain ⟨vv3, h⟩ := h
      refine ow_iadd (pc' := 139) dX5_spreadWord_138 vv3 rfl ?_
      refine ow_istore (pc' := 141) (lv' := [(0, (3, 64)), (1, (0, l1)), (2, (0, l2)), (3, (0, l3)), (4, (3, l4)), (5, (0, l5)), (6, (0, l6)), (7, (0, l7)), (8, (0, l8 + (em_pw A (L - 1 - l5)))), (9, (0, l9))]) dX5_spreadWord_139 rfl rfl rfl ?_
      obtain ⟨vv4, h⟩ := h
      refine ow_iinc (pc' := 144) (lv' := [(0, (3, 64)), (1, (0, l1)), (2, (0, l2)), (3, (0, l3)), (4, (3, l4)), (5, (0, l5)), (6, (0, l6)), (7, (0, l7)), (8, (0, l8 + (em_pw A (L - 1 - l5)))), (9, (0, l9 + 1))]) dX5_spreadWord_141 rfl vv4 rfl rfl rfl ?_
      refine ow_goto (tg := 75) dX5_spreadWord_144 rfl ?_
      exact h
    · have h := h.2 hc
      refine ow_aload_n (pc' := 95) (x := 64) dX5_spreadWord_94 rfl rfl ?_
      refine ow_getf3 (pc' := 98) (t := 3) (ji := 1) (val := 58) dX5_spreadWord_95 fRX5_19 rfl rfl rfl (of_eq_true eo64) eg64_1 ?_
      refine ow_getf3 (pc' := 101) (t := 3) (ji := 3) (val := 62) dX5_spreadWord_98 fRX5_67 rfl rfl rfl (of_eq_true eo58) eg58_3 ?_
      refine ow_iload (pc' := 103) (x := l7) dX5_spreadWord_101 rfl rfl ?_
      refine ow_iload (pc' := 105) (x := l9) dX5_spreadWord_103 rfl rfl ?_
      obtain ⟨vv5, h⟩ := h
      refine ow_iadd (pc' := 106) dX5_spreadWord_105 vv5 rfl ?_
      obtain ⟨vv6, h⟩ := h
      refine ow_iaload3 (pc' := 107) (val := M 62 (l7 + l9)) dX5_spreadWord_106 rfl (Eq.mpr (er62 _) vv6) (ea62 _) ?_
      refine ow_iload_n (pc' := 108) (x := l3) dX5_spreadWord_107 rfl rfl ?_
      refine ow_iand (pc' := 109) dX5_spreadWord_108 rfl ?_
      refine ow_ifeq (pc' := 112) (tg := 126) dX5_spreadWord_109 rfl rfl (fun hc => ?_) (fun hc => ?_)
      · have h := h.1 hc
        refine ow_iload (pc' := 128) (x := l8) dX5_spreadWord_126 rfl rfl ?_
        refine ow_aload_n (pc' := 129) (x := 64) dX5_spreadWord_128 rfl rfl ?_
        refine ow_getf3 (pc' := 132) (t := 3) (ji := 0) (val := 3) dX5_spreadWord_129 fRX5_15 rfl rfl rfl (of_eq_true eo64) eg64_0 ?_
        refine ow_getf3 (pc' := 135) (t := 3) (ji := 3) (val := 4) dX5_spreadWord_132 fRX5_70 rfl rfl rfl (of_eq_true eo3) eg3_3 ?_
        refine ow_iload (pc' := 137) (x := l5) dX5_spreadWord_135 rfl rfl ?_
        obtain ⟨vv7, h⟩ := h
        refine ow_iaload3 (pc' := 138) (val := em_pw A (L - 1 - l5)) dX5_spreadWord_137 rfl (Eq.mpr (er4 _) vv7) (ea4 _) ?_
        obtain ⟨vv8, h⟩ := h
        refine ow_iadd (pc' := 139) dX5_spreadWord_138 vv8 rfl ?_
        refine ow_istore (pc' := 141) (lv' := [(0, (3, 64)), (1, (0, l1)), (2, (0, l2)), (3, (0, l3)), (4, (3, l4)), (5, (0, l5)), (6, (0, l6)), (7, (0, l7)), (8, (0, l8 + (em_pw A (L - 1 - l5)))), (9, (0, l9))]) dX5_spreadWord_139 rfl rfl rfl ?_
        obtain ⟨vv9, h⟩ := h
        refine ow_iinc (pc' := 144) (lv' := [(0, (3, 64)), (1, (0, l1)), (2, (0, l2)), (3, (0, l3)), (4, (3, l4)), (5, (0, l5)), (6, (0, l6)), (7, (0, l7)), (8, (0, l8 + (em_pw A (L - 1 - l5)))), (9, (0, l9 + 1))]) dX5_spreadWord_141 rfl vv9 rfl rfl rfl ?_
        refine ow_goto (tg := 75) dX5_spreadWord_144 rfl ?_
        exact h
      · have h := h.2 hc
        refine ow_aload (pc' := 114) (x := l4) dX5_spreadWord_112 rfl rfl ?_
        refine ow_iload (pc' := 116) (x := l8) dX5_spreadWord_114 rfl rfl ?_
        refine ow_dup2 (pc' := 117) dX5_spreadWord_116 rfl rfl rfl ?_
        obtain ⟨w, h⟩ := h
        refine ow_iaload (pc' := 118) dX5_spreadWord_117 rfl w ?_
        refine ow_iconst (pc' := 119) (n := 1) dX5_spreadWord_118 rfl rfl ?_
        refine ow_iload (pc' := 121) (x := l5) dX5_spreadWord_119 rfl rfl ?_
        refine ow_iconst (pc' := 122) (n := 1) dX5_spreadWord_121 rfl rfl ?_
        obtain ⟨vv10, h⟩ := h
        refine ow_iadd (pc' := 123) dX5_spreadWord_122 vv10 rfl ?_
        refine ow_ishl (pc' := 124) dX5_spreadWord_123 rfl ?_
        refine ow_ior (pc' := 125) dX5_spreadWord_124 rfl ?_
        obtain ⟨w, w1, h⟩ := h
        refine ow_iastore2 (pc' := 126) dX5_spreadWord_125 rfl w w1 (fun N1 eN1 => ?_)
        have h := h N1 eN1
        refine ow_iload (pc' := 128) (x := l8) dX5_spreadWord_126 rfl rfl ?_
        refine ow_aload_n (pc' := 129) (x := 64) dX5_spreadWord_128 rfl rfl ?_
        refine ow_getf3 (pc' := 132) (t := 3) (ji := 0) (val := 3) dX5_spreadWord_129 fRX5_15 rfl rfl rfl (of_eq_true eo64) eg64_0 ?_
        refine ow_getf3 (pc' := 135) (t := 3) (ji := 3) (val := 4) dX5_spreadWord_132 fRX5_70 rfl rfl rfl (of_eq_true eo3) eg3_3 ?_
        refine ow_iload (pc' := 137) (x := l5) dX5_spreadWord_135 rfl rfl ?_
        obtain ⟨vv11, h⟩ := h
        refine ow_iaload3 (pc' := 138) (val := em_pw A (L - 1 - l5)) dX5_spreadWord_137 rfl (Eq.mpr (er4 _) vv11) (ea4 _) ?_
        obtain ⟨vv12, h⟩ := h
        refine ow_iadd (pc' := 139) dX5_spreadWord_138 vv12 rfl ?_
        refine ow_istore (pc' := 141) (lv' := [(0, (3, 64)), (1, (0, l1)), (2, (0, l2)), (3, (0, l3)), (4, (3, l4)), (5, (0, l5)), (6, (0, l6)), (7, (0, l7)), (8, (0, l8 + (em_pw A (L - 1 - l5)))), (9, (0, l9))]) dX5_spreadWord_139 rfl rfl rfl ?_
        obtain ⟨vv13, h⟩ := h
        refine ow_iinc (pc' := 144) (lv' := [(0, (3, 64)), (1, (0, l1)), (2, (0, l2)), (3, (0, l3)), (4, (3, l4)), (5, (0, l5)), (6, (0, l6)), (7, (0, l7)), (8, (0, l8 + (em_pw A (L - 1 - l5)))), (9, (0, l9 + 1))]) dX5_spreadWord_141 rfl vv13 rfl rfl rfl ?_
        refine ow_goto (tg := 75) dX5_spreadWord_144 rfl ?_
        exact h
theorem fX5_spreadWord {C : ow_C} {A L N : Int} {d : Nat} {M : ow_M} {K : Int → ow_M → Prop} {l1 l2 : Int} (h : (0 ≤ l1 ∧ l1 < 9) ∧ ow_R (EM A L N) M (67 + l1) 100 l2 ∧ ow_I (l1 + 1) ∧ (0 ≤ (l1 + 1) ∧ (l1 + 1) < 9) ∧ ow_At C (EM A L N) (d + 1) mX5_spreadWord 22 [(0, (3, 64)), (1, (0, l1)), (2, (0, l2)), (3, (0, ow_gv (EM A L N) M (67 + l1) l2)), (4, (3, 67 + (l1 + 1))), (5, (0, 0))] [] (0, 0) M K) : ow_Sp C (EM A L N) (d + 1) mX5_spreadWord (0, 0) [(3, 64), (0, l1), (0, l2)] M K := ow_enter (by decide +kernel) rfl rfl (cX5_spreadWord_0 h)
set_option maxRecDepth 20000 in
theorem cX5_isReached_0 {C : ow_C} {A L N : Int} {d : Nat} {M : ow_M} {K : Int → ow_M → Prop} {l1 l2 : Int} (h : (0 ≤ l2 ∧ l2 < 9) ∧ ow_R (EM A L N) M (67 + l2) 100 l1 ∧ ((ow_gv (EM A L N) M (67 + l2) l1) = 0 → K 0 M) ∧ ((ow_gv (EM A L N) M (67 + l2) l1) ≠ 0 → K 1 M)) : ow_At C (EM A L N) d mX5_isReached 0 [(0, (3, 64)), (1, (0, l1)), (2, (0, l2))] [] (0, 0) M K := by
  refine ow_aload_n (pc' := 1) (x := 64) dX5_isReached_0 rfl rfl ?_
  refine ow_getf3 (pc' := 4) (t := 3) (ji := 3) (val := 66) dX5_isReached_1 fRX5_37 rfl rfl rfl (of_eq_true eo64) eg64_3 ?_
  refine ow_iload_n (pc' := 5) (x := l2) dX5_isReached_4 rfl rfl ?_
  obtain ⟨vv1, h⟩ := h
  refine ow_aaload3 (pc' := 6) (t := 104) (val := 67 + l2) dX5_isReached_5 rfl rfl (Eq.mpr (er66 _) vv1) (ea66 _) ?_
  refine ow_iload_n (pc' := 7) (x := l1) dX5_isReached_6 rfl rfl ?_
  obtain ⟨w, h⟩ := h
  refine ow_iaload (pc' := 8) dX5_isReached_7 rfl w ?_
  refine ow_ifeq (pc' := 11) (tg := 15) dX5_isReached_8 rfl rfl (fun hc => ?_) (fun hc => ?_)
  · have h := h.1 hc
    refine ow_iconst (pc' := 16) (n := 0) dX5_isReached_15 rfl rfl ?_
    exact ow_zret dX5_isReached_16 rfl rfl (Or.inl rfl) h
  · have h := h.2 hc
    refine ow_iconst (pc' := 12) (n := 1) dX5_isReached_11 rfl rfl ?_
    refine ow_goto (tg := 16) dX5_isReached_12 rfl ?_
    exact ow_zret dX5_isReached_16 rfl rfl (Or.inr rfl) h
theorem fX5_isReached {C : ow_C} {A L N : Int} {d : Nat} {M : ow_M} {K : Int → ow_M → Prop} {l1 l2 : Int} (h : (0 ≤ l2 ∧ l2 < 9) ∧ ow_R (EM A L N) M (67 + l2) 100 l1 ∧ ((ow_gv (EM A L N) M (67 + l2) l1) = 0 → K 0 M) ∧ ((ow_gv (EM A L N) M (67 + l2) l1) ≠ 0 → K 1 M)) : ow_Sp C (EM A L N) d mX5_isReached (0, 0) [(3, 64), (0, l1), (0, l2)] M K := ow_enter (by decide +kernel) rfl rfl (cX5_isReached_0 h)
set_option maxRecDepth 20000 in
theorem cX5_apartOf_0 {C : ow_C} {A L N : Int} {d : Nat} {M : ow_M} {K : Int → ow_M → Prop} {l2 : Int} (h : ow_Sp C (EM A L N) d mJ7_fill_53178 (0, 0) [(3, 76), (0, 0)] M (fun r1 N1 => ow_At C (EM A L N) (d + 1) mX5_apartOf 21 [(0, (3, 64)), (1, (3, 6)), (2, (0, l2)), (3, (0, min (N1 6 4) 16)), (4, (0, 0))] [] (0, 0) N1 K)) : ow_At C (EM A L N) (d + 1) mX5_apartOf 0 [(0, (3, 64)), (1, (3, 6)), (2, (0, l2))] [] (0, 0) M K := by
  refine ow_aload_n (pc' := 1) (x := 64) dX5_apartOf_0 rfl rfl ?_
  refine ow_getf3 (pc' := 4) (t := 3) (ji := 4) (val := 76) dX5_apartOf_1 fRX5_40 rfl rfl rfl (of_eq_true eo64) eg64_4 ?_
  refine ow_iconst (pc' := 5) (n := 0) dX5_apartOf_4 rfl rfl ?_
  refine ow_callSv (z := mJ7_fill_53178) (n := 2) (vs := [(3, 76), (0, 0)]) (st := []) (pc' := 8) (b1 := (0, 0)) (b2 := (0, 0)) dX5_apartOf_5 lRX5_79 kJ7_fill_53178 zJ7_fill_53178 rfl rfl rfl rfl rfl rfl (ow_Sp.mono h (fun r1 N1 h => ?_))
  refine ow_aload_n (pc' := 9) (x := 6) dX5_apartOf_8 rfl rfl ?_
  refine ow_getf3 (pc' := 12) (t := 0) (ji := 4) (val := N1 6 4) dX5_apartOf_9 fRX5_89 rfl rfl rfl (of_eq_true eo6) eg6_4 ?_
  refine ow_bipush (pc' := 14) (n := 16) dX5_apartOf_12 rfl rfl ?_
  refine ow_mmin (pc' := 17) dX5_apartOf_14 lRX5_43 ow_mN1 ow_mi0 ow_mN2 rfl rfl ?_
  refine ow_istore_n (pc' := 18) (lv' := [(0, (3, 64)), (1, (3, 6)), (2, (0, l2)), (3, (0, min (N1 6 4) 16))]) dX5_apartOf_17 rfl rfl rfl ?_
  refine ow_iconst (pc' := 19) (n := 0) dX5_apartOf_18 rfl rfl ?_
  refine ow_istore (pc' := 21) (lv' := [(0, (3, 64)), (1, (3, 6)), (2, (0, l2)), (3, (0, min (N1 6 4) 16)), (4, (0, 0))]) dX5_apartOf_19 rfl rfl rfl ?_
  exact h
set_option maxRecDepth 20000 in
theorem cX5_apartOf_21 {C : ow_C} {A L N : Int} {d : Nat} {M : ow_M} {K : Int → ow_M → Prop} {l2 l3 l4 : Int} (h : (l3 ≤ l4 → ow_Sp C (EM A L N) d mX5_findRivals (0, 0) [(3, 64)] M (fun r1 N1 => ow_I (l3 - 1) ∧ ow_I ((ow_shl 1 l3) - 1) ∧ ow_Sp C (EM A L N) d mX5_widest (0, 0) [(3, 65), (0, l3 - 1), (0, 0), (0, (ow_shl 1 l3) - 1), (0, 0)] N1 (fun r2 N2 => K r2 N2))) ∧ (l4 < l3 → (0 ≤ l4 ∧ l4 < 40) ∧ ow_Sp C (EM A L N) d mX5_spread (0, 0) [(3, 64), (0, M 7 l4), (0, l2)] M (fun r3 N3 => ow_At C (EM A L N) (d + 1) mX5_apartOf 42 [(0, (3, 64)), (1, (3, 6)), (2, (0, l2)), (3, (0, l3)), (4, (0, l4)), (5, (0, 0))] [] (0, 0) N3 K))) : ow_At C (EM A L N) (d + 1) mX5_apartOf 21 [(0, (3, 64)), (1, (3, 6)), (2, (0, l2)), (3, (0, l3)), (4, (0, l4))] [] (0, 0) M K := by
  refine ow_iload (pc' := 23) (x := l4) dX5_apartOf_21 rfl rfl ?_
  refine ow_iload_n (pc' := 24) (x := l3) dX5_apartOf_23 rfl rfl ?_
  refine ow_icmpge (pc' := 27) (tg := 90) dX5_apartOf_24 rfl rfl (fun hc => ?_) (fun hc => ?_)
  · have h := h.1 hc
    refine ow_aload_n (pc' := 91) (x := 64) dX5_apartOf_90 rfl rfl ?_
    refine ow_callVv (z := mX5_findRivals) (n := 0) (k := 5) (vs := []) (x := 64) (st := []) (pc' := 94) (b1 := (0, 0)) (b2 := (0, 0)) dX5_apartOf_91 lRX5_104 kX5_findRivals iX5_findRivals rfl rfl rfl rfl rfl rfl (of_eq_true eo64) (ow_Sp.mono h (fun r1 N1 h => ?_))
    refine ow_aload_n (pc' := 95) (x := 64) dX5_apartOf_94 rfl rfl ?_
    refine ow_getf3 (pc' := 98) (t := 3) (ji := 5) (val := 65) dX5_apartOf_95 fRX5_9 rfl rfl rfl (of_eq_true eo64) eg64_5 ?_
    refine ow_iload_n (pc' := 99) (x := l3) dX5_apartOf_98 rfl rfl ?_
    refine ow_iconst (pc' := 100) (n := 1) dX5_apartOf_99 rfl rfl ?_
    obtain ⟨vv1, h⟩ := h
    refine ow_isub (pc' := 101) dX5_apartOf_100 vv1 rfl ?_
    refine ow_iconst (pc' := 102) (n := 0) dX5_apartOf_101 rfl rfl ?_
    refine ow_iconst (pc' := 103) (n := 1) dX5_apartOf_102 rfl rfl ?_
    refine ow_iload_n (pc' := 104) (x := l3) dX5_apartOf_103 rfl rfl ?_
    refine ow_ishl (pc' := 105) dX5_apartOf_104 rfl ?_
    refine ow_iconst (pc' := 106) (n := 1) dX5_apartOf_105 rfl rfl ?_
    obtain ⟨vv2, h⟩ := h
    refine ow_isub (pc' := 107) dX5_apartOf_106 vv2 rfl ?_
    refine ow_iconst (pc' := 108) (n := 0) dX5_apartOf_107 rfl rfl ?_
    refine ow_callSp (z := mX5_widest) (n := 5) (vs := [(3, 65), (0, l3 - 1), (0, 0), (0, (ow_shl 1 l3) - 1), (0, 0)]) (st := []) (pc' := 111) (b1 := (0, 0)) (b2 := (0, 0)) dX5_apartOf_108 lRX5_107 kX5_widest zX5_widest rfl rfl rfl rfl rfl rfl (ow_Sp.mono h (fun r2 N2 h => ?_))
    exact ow_iret dX5_apartOf_111 rfl rfl h
  · have h := h.2 hc
    refine ow_aload_n (pc' := 28) (x := 64) dX5_apartOf_27 rfl rfl ?_
    refine ow_aload_n (pc' := 29) (x := 6) dX5_apartOf_28 rfl rfl ?_
    refine ow_getf3 (pc' := 32) (t := 3) (ji := 1) (val := 7) dX5_apartOf_29 fRX5_94 rfl rfl rfl (of_eq_true eo6) eg6_1 ?_
    refine ow_iload (pc' := 34) (x := l4) dX5_apartOf_32 rfl rfl ?_
    obtain ⟨vv3, h⟩ := h
    refine ow_iaload3 (pc' := 35) (val := M 7 l4) dX5_apartOf_34 rfl (Eq.mpr (er7 _) vv3) (ea7 _) ?_
    refine ow_iload_n (pc' := 36) (x := l2) dX5_apartOf_35 rfl rfl ?_
    refine ow_callVv (z := mX5_spread) (n := 2) (k := 5) (vs := [(0, M 7 l4), (0, l2)]) (x := 64) (st := []) (pc' := 39) (b1 := (0, 0)) (b2 := (0, 0)) dX5_apartOf_36 lRX5_97 kX5_spread iX5_spread rfl rfl rfl rfl rfl rfl (of_eq_true eo64) (ow_Sp.mono h (fun r3 N3 h => ?_))
    refine ow_iconst (pc' := 40) (n := 0) dX5_apartOf_39 rfl rfl ?_
    refine ow_istore (pc' := 42) (lv' := [(0, (3, 64)), (1, (3, 6)), (2, (0, l2)), (3, (0, l3)), (4, (0, l4)), (5, (0, 0))]) dX5_apartOf_40 rfl rfl rfl ?_
    exact h
set_option maxRecDepth 20000 in
theorem cX5_apartOf_42 {C : ow_C} {A L N : Int} {d : Nat} {M : ow_M} {K : Int → ow_M → Prop} {l2 l3 l4 l5 : Int} (h : (N ≤ l5 → ow_I (l4 + 1) ∧ ow_At C (EM A L N) (d + 1) mX5_apartOf 21 [(0, (3, 64)), (1, (3, 6)), (2, (0, l2)), (3, (0, l3)), (4, (0, l4 + 1))] [] (0, 0) M K) ∧ (l5 < N → ow_Sp C (EM A L N) d mX5_isReached (0, 0) [(3, 64), (0, l5), (0, l2)] M (fun r1 N1 => (r1 = 0 → ow_I (l5 + 1) ∧ ow_At C (EM A L N) (d + 1) mX5_apartOf 42 [(0, (3, 64)), (1, (3, 6)), (2, (0, l2)), (3, (0, l3)), (4, (0, l4)), (5, (0, l5 + 1))] [] (0, 0) N1 K) ∧ (r1 ≠ 0 → (0 ≤ l5 ∧ l5 < N) ∧ ∀ N2, N2 = ow_up N1 76 l5 (ow_or (N1 76 l5) (ow_shl 1 l4)) → ow_I (l5 + 1) ∧ ow_At C (EM A L N) (d + 1) mX5_apartOf 42 [(0, (3, 64)), (1, (3, 6)), (2, (0, l2)), (3, (0, l3)), (4, (0, l4)), (5, (0, l5 + 1))] [] (0, 0) N2 K)))) : ow_At C (EM A L N) (d + 1) mX5_apartOf 42 [(0, (3, 64)), (1, (3, 6)), (2, (0, l2)), (3, (0, l3)), (4, (0, l4)), (5, (0, l5))] [] (0, 0) M K := by
  refine ow_iload (pc' := 44) (x := l5) dX5_apartOf_42 rfl rfl ?_
  refine ow_aload_n (pc' := 45) (x := 64) dX5_apartOf_44 rfl rfl ?_
  refine ow_getf3 (pc' := 48) (t := 3) (ji := 0) (val := 3) dX5_apartOf_45 fRX5_15 rfl rfl rfl (of_eq_true eo64) eg64_0 ?_
  refine ow_getf3 (pc' := 51) (t := 0) (ji := 2) (val := N) dX5_apartOf_48 fRX5_32 rfl rfl rfl (of_eq_true eo3) eg3_2 ?_
  refine ow_icmpge (pc' := 54) (tg := 84) dX5_apartOf_51 rfl rfl (fun hc => ?_) (fun hc => ?_)
  · have h := h.1 hc
    obtain ⟨vv1, h⟩ := h
    refine ow_iinc (pc' := 87) (lv' := [(0, (3, 64)), (1, (3, 6)), (2, (0, l2)), (3, (0, l3)), (4, (0, l4 + 1)), (5, (0, l5))]) dX5_apartOf_84 rfl vv1 rfl rfl rfl ?_
    refine ow_goto (tg := 21) dX5_apartOf_87 rfl ?_
    refine ow_sub (lv' := [(0, (3, 64)), (1, (3, 6)), (2, (0, l2)), (3, (0, l3)), (4, (0, l4 + 1))]) [0, 1, 2, 3, 4] rfl ?_
    exact h
  · have h := h.2 hc
    refine ow_aload_n (pc' := 55) (x := 64) dX5_apartOf_54 rfl rfl ?_
    refine ow_iload (pc' := 57) (x := l5) dX5_apartOf_55 rfl rfl ?_
    refine ow_iload_n (pc' := 58) (x := l2) dX5_apartOf_57 rfl rfl ?_
    refine ow_callVp (z := mX5_isReached) (n := 2) (k := 5) (vs := [(0, l5), (0, l2)]) (x := 64) (st := []) (pc' := 61) (b1 := (0, 0)) (b2 := (0, 0)) dX5_apartOf_58 lRX5_100 kX5_isReached iX5_isReached rfl rfl rfl rfl rfl rfl (of_eq_true eo64) (ow_Sp.mono h (fun r1 N1 h => ?_))
    refine ow_ifeq (pc' := 64) (tg := 78) dX5_apartOf_61 rfl rfl (fun hc => ?_) (fun hc => ?_)
    · have h := h.1 hc
      obtain ⟨vv2, h⟩ := h
      refine ow_iinc (pc' := 81) (lv' := [(0, (3, 64)), (1, (3, 6)), (2, (0, l2)), (3, (0, l3)), (4, (0, l4)), (5, (0, l5 + 1))]) dX5_apartOf_78 rfl vv2 rfl rfl rfl ?_
      refine ow_goto (tg := 42) dX5_apartOf_81 rfl ?_
      exact h
    · have h := h.2 hc
      refine ow_aload_n (pc' := 65) (x := 64) dX5_apartOf_64 rfl rfl ?_
      refine ow_getf3 (pc' := 68) (t := 3) (ji := 4) (val := 76) dX5_apartOf_65 fRX5_40 rfl rfl rfl (of_eq_true eo64) eg64_4 ?_
      refine ow_iload (pc' := 70) (x := l5) dX5_apartOf_68 rfl rfl ?_
      refine ow_dup2 (pc' := 71) dX5_apartOf_70 rfl rfl rfl ?_
      obtain ⟨vv3, h⟩ := h
      refine ow_iaload3 (pc' := 72) (val := N1 76 l5) dX5_apartOf_71 rfl (Eq.mpr (er76 _) vv3) (ea76 _) ?_
      refine ow_iconst (pc' := 73) (n := 1) dX5_apartOf_72 rfl rfl ?_
      refine ow_iload (pc' := 75) (x := l4) dX5_apartOf_73 rfl rfl ?_
      refine ow_ishl (pc' := 76) dX5_apartOf_75 rfl ?_
      refine ow_ior (pc' := 77) dX5_apartOf_76 rfl ?_
      refine ow_iastore2 (pc' := 78) dX5_apartOf_77 rfl (Eq.mpr (er76 _) vv3) (of_eq_true (en76 _)) (fun N2 eN2 => ?_)
      have h := h N2 eN2
      obtain ⟨vv4, h⟩ := h
      refine ow_iinc (pc' := 81) (lv' := [(0, (3, 64)), (1, (3, 6)), (2, (0, l2)), (3, (0, l3)), (4, (0, l4)), (5, (0, l5 + 1))]) dX5_apartOf_78 rfl vv4 rfl rfl rfl ?_
      refine ow_goto (tg := 42) dX5_apartOf_81 rfl ?_
      exact h
theorem fX5_apartOf {C : ow_C} {A L N : Int} {d : Nat} {M : ow_M} {K : Int → ow_M → Prop} {l2 : Int} (h : ow_Sp C (EM A L N) d mJ7_fill_53178 (0, 0) [(3, 76), (0, 0)] M (fun r1 N1 => ow_At C (EM A L N) (d + 1) mX5_apartOf 21 [(0, (3, 64)), (1, (3, 6)), (2, (0, l2)), (3, (0, min (N1 6 4) 16)), (4, (0, 0))] [] (0, 0) N1 K)) : ow_Sp C (EM A L N) (d + 1) mX5_apartOf (0, 0) [(3, 64), (3, 6), (0, l2)] M K := ow_enter (by decide +kernel) rfl rfl (cX5_apartOf_0 h)
set_option maxRecDepth 20000 in
theorem cX5_findRivals_0 {C : ow_C} {A L N : Int} {d : Nat} {M : ow_M} {K : Int → ow_M → Prop} (h : ow_Sp C (EM A L N) d mJ7_fill_53178 (0, 0) [(3, 65), (0, 0)] M (fun r1 N1 => ow_At C (EM A L N) (d + 1) mX5_findRivals 10 [(0, (3, 64)), (1, (0, 0))] [] (0, 0) N1 K)) : ow_At C (EM A L N) (d + 1) mX5_findRivals 0 [(0, (3, 64))] [] (0, 0) M K := by
  refine ow_aload_n (pc' := 1) (x := 64) dX5_findRivals_0 rfl rfl ?_
  refine ow_getf3 (pc' := 4) (t := 3) (ji := 5) (val := 65) dX5_findRivals_1 fRX5_9 rfl rfl rfl (of_eq_true eo64) eg64_5 ?_
  refine ow_iconst (pc' := 5) (n := 0) dX5_findRivals_4 rfl rfl ?_
  refine ow_callSv (z := mJ7_fill_53178) (n := 2) (vs := [(3, 65), (0, 0)]) (st := []) (pc' := 8) (b1 := (0, 0)) (b2 := (0, 0)) dX5_findRivals_5 lRX5_79 kJ7_fill_53178 zJ7_fill_53178 rfl rfl rfl rfl rfl rfl (ow_Sp.mono h (fun r1 N1 h => ?_))
  refine ow_iconst (pc' := 9) (n := 0) dX5_findRivals_8 rfl rfl ?_
  refine ow_istore_n (pc' := 10) (lv' := [(0, (3, 64)), (1, (0, 0))]) dX5_findRivals_9 rfl rfl rfl ?_
  exact h
set_option maxRecDepth 20000 in
theorem cX5_findRivals_10 {C : ow_C} {A L N : Int} {d : Nat} {M : ow_M} {K : Int → ow_M → Prop} {l1 : Int} (h : (N ≤ l1 → K 0 M) ∧ (l1 < N → ow_At C (EM A L N) (d + 1) mX5_findRivals 23 [(0, (3, 64)), (1, (0, l1)), (2, (0, 0))] [] (0, 0) M K)) : ow_At C (EM A L N) (d + 1) mX5_findRivals 10 [(0, (3, 64)), (1, (0, l1))] [] (0, 0) M K := by
  refine ow_iload_n (pc' := 11) (x := l1) dX5_findRivals_10 rfl rfl ?_
  refine ow_aload_n (pc' := 12) (x := 64) dX5_findRivals_11 rfl rfl ?_
  refine ow_getf3 (pc' := 15) (t := 3) (ji := 0) (val := 3) dX5_findRivals_12 fRX5_15 rfl rfl rfl (of_eq_true eo64) eg64_0 ?_
  refine ow_getf3 (pc' := 18) (t := 0) (ji := 2) (val := N) dX5_findRivals_15 fRX5_32 rfl rfl rfl (of_eq_true eo3) eg3_2 ?_
  refine ow_icmpge (pc' := 21) (tg := 69) dX5_findRivals_18 rfl rfl (fun hc => ?_) (fun hc => ?_)
  · have h := h.1 hc
    exact ow_vret dX5_findRivals_69 rfl rfl h
  · have h := h.2 hc
    refine ow_iconst (pc' := 22) (n := 0) dX5_findRivals_21 rfl rfl ?_
    refine ow_istore_n (pc' := 23) (lv' := [(0, (3, 64)), (1, (0, l1)), (2, (0, 0))]) dX5_findRivals_22 rfl rfl rfl ?_
    exact h
set_option maxRecDepth 20000 in
theorem cX5_findRivals_23 {C : ow_C} {A L N : Int} {d : Nat} {M : ow_M} {K : Int → ow_M → Prop} {l1 l2 : Int} (h : (16 ≤ l2 → ow_I (l1 + 1) ∧ ow_At C (EM A L N) (d + 1) mX5_findRivals 10 [(0, (3, 64)), (1, (0, l1 + 1))] [] (0, 0) M K) ∧ (l2 < 16 → (0 ≤ l1 ∧ l1 < N) ∧ ((ow_and (ow_shr (M 76 l1) l2) 1) = 0 → ow_I (l2 + 1) ∧ ow_At C (EM A L N) (d + 1) mX5_findRivals 23 [(0, (3, 64)), (1, (0, l1)), (2, (0, l2 + 1))] [] (0, 0) M K) ∧ ((ow_and (ow_shr (M 76 l1) l2) 1) ≠ 0 → (0 ≤ l2 ∧ l2 < 16) ∧ ∀ N1, N1 = ow_up M 65 l2 (ow_or (M 65 l2) (M 76 l1)) → ow_I (l2 + 1) ∧ ow_At C (EM A L N) (d + 1) mX5_findRivals 23 [(0, (3, 64)), (1, (0, l1)), (2, (0, l2 + 1))] [] (0, 0) N1 K))) : ow_At C (EM A L N) (d + 1) mX5_findRivals 23 [(0, (3, 64)), (1, (0, l1)), (2, (0, l2))] [] (0, 0) M K := by
  refine ow_iload_n (pc' := 24) (x := l2) dX5_findRivals_23 rfl rfl ?_
  refine ow_bipush (pc' := 26) (n := 16) dX5_findRivals_24 rfl rfl ?_
  refine ow_icmpge (pc' := 29) (tg := 63) dX5_findRivals_26 rfl rfl (fun hc => ?_) (fun hc => ?_)
  · have h := h.1 hc
    obtain ⟨vv1, h⟩ := h
    refine ow_iinc (pc' := 66) (lv' := [(0, (3, 64)), (1, (0, l1 + 1)), (2, (0, l2))]) dX5_findRivals_63 rfl vv1 rfl rfl rfl ?_
    refine ow_goto (tg := 10) dX5_findRivals_66 rfl ?_
    refine ow_sub (lv' := [(0, (3, 64)), (1, (0, l1 + 1))]) [0, 1] rfl ?_
    exact h
  · have h := h.2 hc
    refine ow_aload_n (pc' := 30) (x := 64) dX5_findRivals_29 rfl rfl ?_
    refine ow_getf3 (pc' := 33) (t := 3) (ji := 4) (val := 76) dX5_findRivals_30 fRX5_40 rfl rfl rfl (of_eq_true eo64) eg64_4 ?_
    refine ow_iload_n (pc' := 34) (x := l1) dX5_findRivals_33 rfl rfl ?_
    obtain ⟨vv2, h⟩ := h
    refine ow_iaload3 (pc' := 35) (val := M 76 l1) dX5_findRivals_34 rfl (Eq.mpr (er76 _) vv2) (ea76 _) ?_
    refine ow_iload_n (pc' := 36) (x := l2) dX5_findRivals_35 rfl rfl ?_
    refine ow_ishr (pc' := 37) dX5_findRivals_36 rfl ?_
    refine ow_iconst (pc' := 38) (n := 1) dX5_findRivals_37 rfl rfl ?_
    refine ow_iand (pc' := 39) dX5_findRivals_38 rfl ?_
    refine ow_ifeq (pc' := 42) (tg := 57) dX5_findRivals_39 rfl rfl (fun hc => ?_) (fun hc => ?_)
    · have h := h.1 hc
      obtain ⟨vv3, h⟩ := h
      refine ow_iinc (pc' := 60) (lv' := [(0, (3, 64)), (1, (0, l1)), (2, (0, l2 + 1))]) dX5_findRivals_57 rfl vv3 rfl rfl rfl ?_
      refine ow_goto (tg := 23) dX5_findRivals_60 rfl ?_
      exact h
    · have h := h.2 hc
      refine ow_aload_n (pc' := 43) (x := 64) dX5_findRivals_42 rfl rfl ?_
      refine ow_getf3 (pc' := 46) (t := 3) (ji := 5) (val := 65) dX5_findRivals_43 fRX5_9 rfl rfl rfl (of_eq_true eo64) eg64_5 ?_
      refine ow_iload_n (pc' := 47) (x := l2) dX5_findRivals_46 rfl rfl ?_
      refine ow_dup2 (pc' := 48) dX5_findRivals_47 rfl rfl rfl ?_
      obtain ⟨vv4, h⟩ := h
      refine ow_iaload3 (pc' := 49) (val := M 65 l2) dX5_findRivals_48 rfl (Eq.mpr (er65 _) vv4) (ea65 _) ?_
      refine ow_aload_n (pc' := 50) (x := 64) dX5_findRivals_49 rfl rfl ?_
      refine ow_getf3 (pc' := 53) (t := 3) (ji := 4) (val := 76) dX5_findRivals_50 fRX5_40 rfl rfl rfl (of_eq_true eo64) eg64_4 ?_
      refine ow_iload_n (pc' := 54) (x := l1) dX5_findRivals_53 rfl rfl ?_
      refine ow_iaload3 (pc' := 55) (val := M 76 l1) dX5_findRivals_54 rfl (Eq.mpr (er76 _) vv2) (ea76 _) ?_
      refine ow_ior (pc' := 56) dX5_findRivals_55 rfl ?_
      refine ow_iastore2 (pc' := 57) dX5_findRivals_56 rfl (Eq.mpr (er65 _) vv4) (of_eq_true (en65 _)) (fun N1 eN1 => ?_)
      have h := h N1 eN1
      obtain ⟨vv5, h⟩ := h
      refine ow_iinc (pc' := 60) (lv' := [(0, (3, 64)), (1, (0, l1)), (2, (0, l2 + 1))]) dX5_findRivals_57 rfl vv5 rfl rfl rfl ?_
      refine ow_goto (tg := 23) dX5_findRivals_60 rfl ?_
      exact h
theorem fX5_findRivals {C : ow_C} {A L N : Int} {d : Nat} {M : ow_M} {K : Int → ow_M → Prop} (h : ow_Sp C (EM A L N) d mJ7_fill_53178 (0, 0) [(3, 65), (0, 0)] M (fun r1 N1 => ow_At C (EM A L N) (d + 1) mX5_findRivals 10 [(0, (3, 64)), (1, (0, 0))] [] (0, 0) N1 K)) : ow_Sp C (EM A L N) (d + 1) mX5_findRivals (0, 0) [(3, 64)] M K := ow_enter (by decide +kernel) rfl rfl (cX5_findRivals_0 h)
set_option maxRecDepth 20000 in
theorem cX5_widest_0 {C : ow_C} {A L N : Int} {d : Nat} {M : ow_M} {K : Int → ow_M → Prop} {l0 l1 l2 l3 l4 : Int} (h : ow_Sp C (EM A L N) d mJ6_bitCount_0f7a4 (0, 0) [(0, l2)] M (fun r1 N1 => ow_Sp C (EM A L N) d mJ6_bitCount_0f7a4 (0, 0) [(0, l3)] N1 (fun r2 N2 => ow_I (r1 + r2) ∧ ow_Sp C (EM A L N) d mJ6_bitCount_0f7a4 (0, 0) [(0, l4)] N2 (fun r3 N3 => (r3 < (r1 + r2) → (l1 < 0 → K l2 N3) ∧ (0 ≤ l1 → (0 ≤ l0 ∧ l0 < ow_nb (EM A L N) N3 ∧ ((EM A L N).2.1 l0).1 = 100 ∧ 0 ≤ ((EM A L N).2.1 l0).2 ∧ ((EM A L N).2.1 l0).2 ≤ 2147483647) ∧ (l1 < (((EM A L N).2.1 l0).2) → ow_I (l1 - 1) ∧ ow_Sp C (EM A L N) d mX5_widest (0, 0) [(3, l0), (0, l1 - 1), (0, l2), (0, ow_and l3 (ow_xor (ow_shl 1 l1) ((-1)))), (0, l4)] N3 (fun r4 N4 => ((ow_and l3 (ow_xor (ow_shl 1 l1) ((-1)))) ≠ l3 → ow_R (EM A L N) N4 l0 100 l1 ∧ ow_Sp C (EM A L N) d mX5_widest (0, 0) [(3, l0), (0, l1 - 1), (0, ow_or l2 (ow_shl 1 l1)), (0, ow_and (ow_and l3 (ow_xor (ow_shl 1 l1) ((-1)))) (ow_xor (ow_gv (EM A L N) N4 l0 l1) ((-1)))), (0, r4)] N4 (fun r5 N5 => K r5 N5)) ∧ ((ow_and l3 (ow_xor (ow_shl 1 l1) ((-1)))) = l3 → K r4 N4))) ∧ ((((EM A L N).2.1 l0).2) ≤ l1 → K l2 N3))) ∧ ((r1 + r2) ≤ r3 → K l4 N3))))) : ow_At C (EM A L N) (d + 1) mX5_widest 0 [(0, (3, l0)), (1, (0, l1)), (2, (0, l2)), (3, (0, l3)), (4, (0, l4))] [] (0, 0) M K := by
  refine ow_iload_n (pc' := 1) (x := l2) dX5_widest_0 rfl rfl ?_
  refine ow_callSp (z := mJ6_bitCount_0f7a4) (n := 1) (vs := [(0, l2)]) (st := []) (pc' := 4) (b1 := (0, 0)) (b2 := (0, 0)) dX5_widest_1 lRX5_111 kJ6_bitCount_0f7a4 zJ6_bitCount_0f7a4 rfl rfl rfl rfl rfl rfl (ow_Sp.mono h (fun r1 N1 h => ?_))
  refine ow_iload_n (pc' := 5) (x := l3) dX5_widest_4 rfl rfl ?_
  refine ow_callSp (z := mJ6_bitCount_0f7a4) (n := 1) (vs := [(0, l3)]) (st := [(0, r1)]) (pc' := 8) (b1 := (0, 0)) (b2 := (0, 0)) dX5_widest_5 lRX5_111 kJ6_bitCount_0f7a4 zJ6_bitCount_0f7a4 rfl rfl rfl rfl rfl rfl (ow_Sp.mono h (fun r2 N2 h => ?_))
  obtain ⟨vv1, h⟩ := h
  refine ow_iadd (pc' := 9) dX5_widest_8 vv1 rfl ?_
  refine ow_iload (pc' := 11) (x := l4) dX5_widest_9 rfl rfl ?_
  refine ow_callSp (z := mJ6_bitCount_0f7a4) (n := 1) (vs := [(0, l4)]) (st := [(0, r1 + r2)]) (pc' := 14) (b1 := (0, 0)) (b2 := (0, 0)) dX5_widest_11 lRX5_111 kJ6_bitCount_0f7a4 zJ6_bitCount_0f7a4 rfl rfl rfl rfl rfl rfl (ow_Sp.mono h (fun r3 N3 h => ?_))
  refine ow_icmpgt (pc' := 17) (tg := 20) dX5_widest_14 rfl rfl (fun hc => ?_) (fun hc => ?_)
  · have h := h.1 hc
    refine ow_iload_n (pc' := 21) (x := l1) dX5_widest_20 rfl rfl ?_
    refine ow_iflt (pc' := 24) (tg := 30) dX5_widest_21 rfl rfl (fun hc => ?_) (fun hc => ?_)
    · have h := h.1 hc
      refine ow_iload_n (pc' := 31) (x := l2) dX5_widest_30 rfl rfl ?_
      exact ow_iret dX5_widest_31 rfl rfl h
    · have h := h.2 hc
      refine ow_iload_n (pc' := 25) (x := l1) dX5_widest_24 rfl rfl ?_
      refine ow_aload_n (pc' := 26) (x := l0) dX5_widest_25 rfl rfl ?_
      obtain ⟨⟨w, w1, w2, w3, w4⟩, h⟩ := h
      refine ow_alen (pc' := 27) (t := 100) dX5_widest_26 rfl rfl w w1 w2 w3 w4 ?_
      refine ow_icmplt (pc' := 30) (tg := 32) dX5_widest_27 rfl rfl (fun hc => ?_) (fun hc => ?_)
      · have h := h.1 hc
        refine ow_iload_n (pc' := 33) (x := l3) dX5_widest_32 rfl rfl ?_
        refine ow_iconst (pc' := 34) (n := 1) dX5_widest_33 rfl rfl ?_
        refine ow_iload_n (pc' := 35) (x := l1) dX5_widest_34 rfl rfl ?_
        refine ow_ishl (pc' := 36) dX5_widest_35 rfl ?_
        refine ow_iconst (pc' := 37) (n := (-1)) dX5_widest_36 rfl rfl ?_
        refine ow_ixor (pc' := 38) dX5_widest_37 rfl ?_
        refine ow_iand (pc' := 39) dX5_widest_38 rfl ?_
        refine ow_istore (pc' := 41) (lv' := [(0, (3, l0)), (1, (0, l1)), (2, (0, l2)), (3, (0, l3)), (4, (0, l4)), (5, (0, ow_and l3 (ow_xor (ow_shl 1 l1) ((-1)))))]) dX5_widest_39 rfl rfl rfl ?_
        refine ow_aload_n (pc' := 42) (x := l0) dX5_widest_41 rfl rfl ?_
        refine ow_iload_n (pc' := 43) (x := l1) dX5_widest_42 rfl rfl ?_
        refine ow_iconst (pc' := 44) (n := 1) dX5_widest_43 rfl rfl ?_
        obtain ⟨vv2, h⟩ := h
        refine ow_isub (pc' := 45) dX5_widest_44 vv2 rfl ?_
        refine ow_iload_n (pc' := 46) (x := l2) dX5_widest_45 rfl rfl ?_
        refine ow_iload (pc' := 48) (x := ow_and l3 (ow_xor (ow_shl 1 l1) ((-1)))) dX5_widest_46 rfl rfl ?_
        refine ow_iload (pc' := 50) (x := l4) dX5_widest_48 rfl rfl ?_
        refine ow_callSp (z := mX5_widest) (n := 5) (vs := [(3, l0), (0, l1 - 1), (0, l2), (0, ow_and l3 (ow_xor (ow_shl 1 l1) ((-1)))), (0, l4)]) (st := []) (pc' := 53) (b1 := (0, 0)) (b2 := (0, 0)) dX5_widest_50 lRX5_107 kX5_widest zX5_widest rfl rfl rfl rfl rfl rfl (ow_Sp.mono h (fun r4 N4 h => ?_))
        refine ow_istore (pc' := 55) (lv' := [(0, (3, l0)), (1, (0, l1)), (2, (0, l2)), (3, (0, l3)), (4, (0, l4)), (5, (0, ow_and l3 (ow_xor (ow_shl 1 l1) ((-1))))), (6, (0, r4))]) dX5_widest_53 rfl rfl rfl ?_
        refine ow_iload (pc' := 57) (x := ow_and l3 (ow_xor (ow_shl 1 l1) ((-1)))) dX5_widest_55 rfl rfl ?_
        refine ow_iload_n (pc' := 58) (x := l3) dX5_widest_57 rfl rfl ?_
        refine ow_icmpne (pc' := 61) (tg := 64) dX5_widest_58 rfl rfl (fun hc => ?_) (fun hc => ?_)
        · have h := h.1 hc
          refine ow_aload_n (pc' := 65) (x := l0) dX5_widest_64 rfl rfl ?_
          refine ow_iload_n (pc' := 66) (x := l1) dX5_widest_65 rfl rfl ?_
          refine ow_iconst (pc' := 67) (n := 1) dX5_widest_66 rfl rfl ?_
          refine ow_isub (pc' := 68) dX5_widest_67 vv2 rfl ?_
          refine ow_iload_n (pc' := 69) (x := l2) dX5_widest_68 rfl rfl ?_
          refine ow_iconst (pc' := 70) (n := 1) dX5_widest_69 rfl rfl ?_
          refine ow_iload_n (pc' := 71) (x := l1) dX5_widest_70 rfl rfl ?_
          refine ow_ishl (pc' := 72) dX5_widest_71 rfl ?_
          refine ow_ior (pc' := 73) dX5_widest_72 rfl ?_
          refine ow_iload (pc' := 75) (x := ow_and l3 (ow_xor (ow_shl 1 l1) ((-1)))) dX5_widest_73 rfl rfl ?_
          refine ow_aload_n (pc' := 76) (x := l0) dX5_widest_75 rfl rfl ?_
          refine ow_iload_n (pc' := 77) (x := l1) dX5_widest_76 rfl rfl ?_
          obtain ⟨w, h⟩ := h
          refine ow_iaload (pc' := 78) dX5_widest_77 rfl w ?_
          refine ow_iconst (pc' := 79) (n := (-1)) dX5_widest_78 rfl rfl ?_
          refine ow_ixor (pc' := 80) dX5_widest_79 rfl ?_
          refine ow_iand (pc' := 81) dX5_widest_80 rfl ?_
          refine ow_iload (pc' := 83) (x := r4) dX5_widest_81 rfl rfl ?_
          refine ow_callSp (z := mX5_widest) (n := 5) (vs := [(3, l0), (0, l1 - 1), (0, ow_or l2 (ow_shl 1 l1)), (0, ow_and (ow_and l3 (ow_xor (ow_shl 1 l1) ((-1)))) (ow_xor (ow_gv (EM A L N) N4 l0 l1) ((-1)))), (0, r4)]) (st := []) (pc' := 86) (b1 := (0, 0)) (b2 := (0, 0)) dX5_widest_83 lRX5_107 kX5_widest zX5_widest rfl rfl rfl rfl rfl rfl (ow_Sp.mono h (fun r5 N5 h => ?_))
          exact ow_iret dX5_widest_86 rfl rfl h
        · have h := h.2 hc
          refine ow_iload (pc' := 63) (x := r4) dX5_widest_61 rfl rfl ?_
          exact ow_iret dX5_widest_63 rfl rfl h
      · have h := h.2 hc
        refine ow_iload_n (pc' := 31) (x := l2) dX5_widest_30 rfl rfl ?_
        exact ow_iret dX5_widest_31 rfl rfl h
  · have h := h.2 hc
    refine ow_iload (pc' := 19) (x := l4) dX5_widest_17 rfl rfl ?_
    exact ow_iret dX5_widest_19 rfl rfl h
theorem fX5_widest {C : ow_C} {A L N : Int} {d : Nat} {M : ow_M} {K : Int → ow_M → Prop} {l0 l1 l2 l3 l4 : Int} (h : ow_Sp C (EM A L N) d mJ6_bitCount_0f7a4 (0, 0) [(0, l2)] M (fun r1 N1 => ow_Sp C (EM A L N) d mJ6_bitCount_0f7a4 (0, 0) [(0, l3)] N1 (fun r2 N2 => ow_I (r1 + r2) ∧ ow_Sp C (EM A L N) d mJ6_bitCount_0f7a4 (0, 0) [(0, l4)] N2 (fun r3 N3 => (r3 < (r1 + r2) → (l1 < 0 → K l2 N3) ∧ (0 ≤ l1 → (0 ≤ l0 ∧ l0 < ow_nb (EM A L N) N3 ∧ ((EM A L N).2.1 l0).1 = 100 ∧ 0 ≤ ((EM A L N).2.1 l0).2 ∧ ((EM A L N).2.1 l0).2 ≤ 2147483647) ∧ (l1 < (((EM A L N).2.1 l0).2) → ow_I (l1 - 1) ∧ ow_Sp C (EM A L N) d mX5_widest (0, 0) [(3, l0), (0, l1 - 1), (0, l2), (0, ow_and l3 (ow_xor (ow_shl 1 l1) ((-1)))), (0, l4)] N3 (fun r4 N4 => ((ow_and l3 (ow_xor (ow_shl 1 l1) ((-1)))) ≠ l3 → ow_R (EM A L N) N4 l0 100 l1 ∧ ow_Sp C (EM A L N) d mX5_widest (0, 0) [(3, l0), (0, l1 - 1), (0, ow_or l2 (ow_shl 1 l1)), (0, ow_and (ow_and l3 (ow_xor (ow_shl 1 l1) ((-1)))) (ow_xor (ow_gv (EM A L N) N4 l0 l1) ((-1)))), (0, r4)] N4 (fun r5 N5 => K r5 N5)) ∧ ((ow_and l3 (ow_xor (ow_shl 1 l1) ((-1)))) = l3 → K r4 N4))) ∧ ((((EM A L N).2.1 l0).2) ≤ l1 → K l2 N3))) ∧ ((r1 + r2) ≤ r3 → K l4 N3))))) : ow_Sp C (EM A L N) (d + 1) mX5_widest (0, 0) [(3, l0), (0, l1), (0, l2), (0, l3), (0, l4)] M K := ow_enter (by decide +kernel) rfl rfl (cX5_widest_0 h)
set_option maxRecDepth 20000 in
theorem cX2_waysOf_0 {C : ow_C} {A L N : Int} {d : Nat} {M : ow_M} {K : Int → ow_M → Prop} {l1 : Int} (h : ow_I (l1 * (L + 1)) ∧ ow_R (EM A L N) M (M 77 3) 101 (l1 * (L + 1)) ∧ K (ow_gv (EM A L N) M (M 77 3) (l1 * (L + 1))) M) : ow_At C (EM A L N) d mX2_waysOf 0 [(0, (3, 77)), (1, (0, l1))] [] (0, 0) M K := by
  refine ow_aload_n (pc' := 1) (x := 77) dX2_waysOf_0 rfl rfl ?_
  refine ow_getf3 (pc' := 4) (t := 3) (ji := 3) (val := M 77 3) dX2_waysOf_1 fRX2_31 rfl rfl rfl (of_eq_true eo77) eg77_3 ?_
  refine ow_iload_n (pc' := 5) (x := l1) dX2_waysOf_4 rfl rfl ?_
  refine ow_aload_n (pc' := 6) (x := 77) dX2_waysOf_5 rfl rfl ?_
  refine ow_getf3 (pc' := 9) (t := 0) (ji := 2) (val := (L + 1)) dX2_waysOf_6 fRX2_25 rfl rfl rfl (of_eq_true eo77) eg77_2 ?_
  obtain ⟨vv1, h⟩ := h
  refine ow_imul (pc' := 10) dX2_waysOf_9 vv1 rfl ?_
  obtain ⟨w, h⟩ := h
  refine ow_laload (pc' := 11) dX2_waysOf_10 rfl w ?_
  exact ow_lret dX2_waysOf_11 rfl rfl h
theorem fX2_waysOf {C : ow_C} {A L N : Int} {d : Nat} {M : ow_M} {K : Int → ow_M → Prop} {l1 : Int} (h : ow_I (l1 * (L + 1)) ∧ ow_R (EM A L N) M (M 77 3) 101 (l1 * (L + 1)) ∧ K (ow_gv (EM A L N) M (M 77 3) (l1 * (L + 1))) M) : ow_Sp C (EM A L N) d mX2_waysOf (0, 0) [(3, 77), (0, l1)] M K := ow_enter (by decide +kernel) rfl rfl (cX2_waysOf_0 h)
set_option maxRecDepth 20000 in
theorem cX2_count_0 {C : ow_C} {A L N : Int} {d : Nat} {M : ow_M} {K : Int → ow_M → Prop} {l1 l2 : Int} (h : ow_Sp C (EM A L N) d mJ7_fill_d0a16 (0, 0) [(3, M 77 3), (1, 0)] M (fun r1 N1 => ow_At C (EM A L N) (d + 1) mX2_count 10 [(0, (3, 77)), (1, (0, l1)), (2, (0, l2)), (3, (0, 0))] [] (0, 0) N1 K)) : ow_At C (EM A L N) (d + 1) mX2_count 0 [(0, (3, 77)), (1, (0, l1)), (2, (0, l2))] [] (0, 0) M K := by
  refine ow_aload_n (pc' := 1) (x := 77) dX2_count_0 rfl rfl ?_
  refine ow_getf3 (pc' := 4) (t := 3) (ji := 3) (val := M 77 3) dX2_count_1 fRX2_31 rfl rfl rfl (of_eq_true eo77) eg77_3 ?_
  refine ow_lconst (pc' := 5) (i := 0) dX2_count_4 rfl rfl ?_
  refine ow_callSv (z := mJ7_fill_d0a16) (n := 2) (vs := [(3, M 77 3), (1, 0)]) (st := []) (pc' := 8) (b1 := (0, 0)) (b2 := (0, 0)) dX2_count_5 lRX2_38 kJ7_fill_d0a16 zJ7_fill_d0a16 rfl rfl rfl rfl rfl rfl (ow_Sp.mono h (fun r1 N1 h => ?_))
  refine ow_iconst (pc' := 9) (n := 0) dX2_count_8 rfl rfl ?_
  refine ow_istore_n (pc' := 10) (lv' := [(0, (3, 77)), (1, (0, l1)), (2, (0, l2)), (3, (0, 0))]) dX2_count_9 rfl rfl rfl ?_
  exact h
set_option maxRecDepth 20000 in
theorem cX2_count_10 {C : ow_C} {A L N : Int} {d : Nat} {M : ow_M} {K : Int → ow_M → Prop} {l1 l2 l3 : Int} (h : ((L + 1) ≤ l3 → ow_I ((min l2 8) - 1) ∧ ow_At C (EM A L N) (d + 1) mX2_count 47 [(0, (3, 77)), (3, (0, (min l2 8) - 1))] [] (0, 0) M K) ∧ (l3 < (L + 1) → ow_I (l1 * (L + 1)) ∧ ow_I ((l1 * (L + 1)) + l3) ∧ ow_R (EM A L N) M (M 77 3) 101 ((l1 * (L + 1)) + l3) ∧ (EM A L N).1 (M 77 3) ((l1 * (L + 1)) + l3) = none ∧ ∀ N1, N1 = ow_up M (M 77 3) ((l1 * (L + 1)) + l3) 1 → ow_I (l3 + 1) ∧ ow_At C (EM A L N) (d + 1) mX2_count 10 [(0, (3, 77)), (1, (0, l1)), (2, (0, l2)), (3, (0, l3 + 1))] [] (0, 0) N1 K)) : ow_At C (EM A L N) (d + 1) mX2_count 10 [(0, (3, 77)), (1, (0, l1)), (2, (0, l2)), (3, (0, l3))] [] (0, 0) M K := by
  refine ow_iload_n (pc' := 11) (x := l3) dX2_count_10 rfl rfl ?_
  refine ow_aload_n (pc' := 12) (x := 77) dX2_count_11 rfl rfl ?_
  refine ow_getf3 (pc' := 15) (t := 0) (ji := 2) (val := (L + 1)) dX2_count_12 fRX2_25 rfl rfl rfl (of_eq_true eo77) eg77_2 ?_
  refine ow_icmpge (pc' := 18) (tg := 38) dX2_count_15 rfl rfl (fun hc => ?_) (fun hc => ?_)
  · have h := h.1 hc
    refine ow_iload_n (pc' := 39) (x := l2) dX2_count_38 rfl rfl ?_
    refine ow_bipush (pc' := 41) (n := 8) dX2_count_39 rfl rfl ?_
    refine ow_mmin (pc' := 44) dX2_count_41 lRX2_44 ow_mN1 ow_mi0 ow_mN2 rfl rfl ?_
    refine ow_iconst (pc' := 45) (n := 1) dX2_count_44 rfl rfl ?_
    obtain ⟨vv1, h⟩ := h
    refine ow_isub (pc' := 46) dX2_count_45 vv1 rfl ?_
    refine ow_istore_n (pc' := 47) (lv' := [(0, (3, 77)), (1, (0, l1)), (2, (0, l2)), (3, (0, (min l2 8) - 1))]) dX2_count_46 rfl rfl rfl ?_
    refine ow_sub (lv' := [(0, (3, 77)), (3, (0, (min l2 8) - 1))]) [0, 3] rfl ?_
    exact h
  · have h := h.2 hc
    refine ow_aload_n (pc' := 19) (x := 77) dX2_count_18 rfl rfl ?_
    refine ow_getf3 (pc' := 22) (t := 3) (ji := 3) (val := M 77 3) dX2_count_19 fRX2_31 rfl rfl rfl (of_eq_true eo77) eg77_3 ?_
    refine ow_iload_n (pc' := 23) (x := l1) dX2_count_22 rfl rfl ?_
    refine ow_aload_n (pc' := 24) (x := 77) dX2_count_23 rfl rfl ?_
    refine ow_getf3 (pc' := 27) (t := 0) (ji := 2) (val := (L + 1)) dX2_count_24 fRX2_25 rfl rfl rfl (of_eq_true eo77) eg77_2 ?_
    obtain ⟨vv2, h⟩ := h
    refine ow_imul (pc' := 28) dX2_count_27 vv2 rfl ?_
    refine ow_iload_n (pc' := 29) (x := l3) dX2_count_28 rfl rfl ?_
    obtain ⟨vv3, h⟩ := h
    refine ow_iadd (pc' := 30) dX2_count_29 vv3 rfl ?_
    refine ow_lconst (pc' := 31) (i := 1) dX2_count_30 rfl rfl ?_
    obtain ⟨w, w1, h⟩ := h
    refine ow_lastore2 (pc' := 32) dX2_count_31 rfl w w1 (fun N1 eN1 => ?_)
    have h := h N1 eN1
    obtain ⟨vv4, h⟩ := h
    refine ow_iinc (pc' := 35) (lv' := [(0, (3, 77)), (1, (0, l1)), (2, (0, l2)), (3, (0, l3 + 1))]) dX2_count_32 rfl vv4 rfl rfl rfl ?_
    refine ow_goto (tg := 10) dX2_count_35 rfl ?_
    exact h
set_option maxRecDepth 20000 in
theorem cX2_count_47 {C : ow_C} {A L N : Int} {d : Nat} {M : ow_M} {K : Int → ow_M → Prop} {l3 : Int} (h : (l3 < 0 → K 0 M) ∧ (0 ≤ l3 → ∀ N1, N1 = ow_up M 77 3 (M 77 4) → ∀ N2, N2 = ow_up N1 77 4 (M 77 3) → ow_Sp C (EM A L N) d mJ7_fill_d0a16 (0, 0) [(3, N2 77 3), (1, 0)] N2 (fun r3 N3 => ow_At C (EM A L N) (d + 1) mX2_count 82 [(0, (3, 77)), (3, (0, l3)), (5, (0, 0))] [] (0, 0) N3 K))) : ow_At C (EM A L N) (d + 1) mX2_count 47 [(0, (3, 77)), (3, (0, l3))] [] (0, 0) M K := by
  refine ow_iload_n (pc' := 48) (x := l3) dX2_count_47 rfl rfl ?_
  refine ow_iflt (pc' := 51) (tg := 113) dX2_count_48 rfl rfl (fun hc => ?_) (fun hc => ?_)
  · have h := h.1 hc
    exact ow_vret dX2_count_113 rfl rfl h
  · have h := h.2 hc
    refine ow_aload_n (pc' := 52) (x := 77) dX2_count_51 rfl rfl ?_
    refine ow_getf3 (pc' := 55) (t := 3) (ji := 3) (val := M 77 3) dX2_count_52 fRX2_31 rfl rfl rfl (of_eq_true eo77) eg77_3 ?_
    refine ow_astore (pc' := 57) (lv' := [(0, (3, 77)), (3, (0, l3)), (4, (3, M 77 3))]) dX2_count_55 rfl rfl rfl ?_
    refine ow_aload_n (pc' := 58) (x := 77) dX2_count_57 rfl rfl ?_
    refine ow_aload_n (pc' := 59) (x := 77) dX2_count_58 rfl rfl ?_
    refine ow_getf3 (pc' := 62) (t := 3) (ji := 4) (val := M 77 4) dX2_count_59 fRX2_35 rfl rfl rfl (of_eq_true eo77) eg77_4 ?_
    refine ow_putf2 (pc' := 65) (t := 3) (ji := 3) dX2_count_62 fRX2_31 rfl rfl rfl rfl (of_eq_true eo77) (of_eq_true en77_3) (fun hz => absurd hz (by decide)) (fun N1 eN1 => ?_)
    have h := h N1 eN1
    refine ow_aload_n (pc' := 66) (x := 77) dX2_count_65 rfl rfl ?_
    refine ow_aload (pc' := 68) (x := M 77 3) dX2_count_66 rfl rfl ?_
    refine ow_putf2 (pc' := 71) (t := 3) (ji := 4) dX2_count_68 fRX2_35 rfl rfl rfl rfl (of_eq_true eo77) (of_eq_true en77_4) (fun hz => absurd hz (by decide)) (fun N2 eN2 => ?_)
    have h := h N2 eN2
    refine ow_aload_n (pc' := 72) (x := 77) dX2_count_71 rfl rfl ?_
    refine ow_getf3 (pc' := 75) (t := 3) (ji := 3) (val := N2 77 3) dX2_count_72 fRX2_31 rfl rfl rfl (of_eq_true eo77) eg77_3 ?_
    refine ow_lconst (pc' := 76) (i := 0) dX2_count_75 rfl rfl ?_
    refine ow_callSv (z := mJ7_fill_d0a16) (n := 2) (vs := [(3, N2 77 3), (1, 0)]) (st := []) (pc' := 79) (b1 := (0, 0)) (b2 := (0, 0)) dX2_count_76 lRX2_38 kJ7_fill_d0a16 zJ7_fill_d0a16 rfl rfl rfl rfl rfl rfl (ow_Sp.mono h (fun r3 N3 h => ?_))
    refine ow_iconst (pc' := 80) (n := 0) dX2_count_79 rfl rfl ?_
    refine ow_istore (pc' := 82) (lv' := [(0, (3, 77)), (3, (0, l3)), (4, (3, M 77 3)), (5, (0, 0))]) dX2_count_80 rfl rfl rfl ?_
    refine ow_sub (lv' := [(0, (3, 77)), (3, (0, l3)), (5, (0, 0))]) [0, 1, 3] rfl ?_
    exact h
set_option maxRecDepth 20000 in
theorem cX2_count_82 {C : ow_C} {A L N : Int} {d : Nat} {M : ow_M} {K : Int → ow_M → Prop} {l3 l5 : Int} (h : (N ≤ l5 → ow_I (l3 + (-1)) ∧ ow_At C (EM A L N) (d + 1) mX2_count 47 [(0, (3, 77)), (3, (0, l3 + (-1)))] [] (0, 0) M K) ∧ (l5 < N → ow_Sp C (EM A L N) d mX2_countWord (0, 0) [(3, 77), (0, l3), (0, l5)] M (fun r1 N1 => ow_I (l5 + 1) ∧ ow_At C (EM A L N) (d + 1) mX2_count 82 [(0, (3, 77)), (3, (0, l3)), (5, (0, l5 + 1))] [] (0, 0) N1 K))) : ow_At C (EM A L N) (d + 1) mX2_count 82 [(0, (3, 77)), (3, (0, l3)), (5, (0, l5))] [] (0, 0) M K := by
  refine ow_iload (pc' := 84) (x := l5) dX2_count_82 rfl rfl ?_
  refine ow_aload_n (pc' := 85) (x := 77) dX2_count_84 rfl rfl ?_
  refine ow_getf3 (pc' := 88) (t := 3) (ji := 0) (val := 3) dX2_count_85 fRX2_9 rfl rfl rfl (of_eq_true eo77) eg77_0 ?_
  refine ow_getf3 (pc' := 91) (t := 0) (ji := 2) (val := N) dX2_count_88 fRX2_28 rfl rfl rfl (of_eq_true eo3) eg3_2 ?_
  refine ow_icmpge (pc' := 94) (tg := 107) dX2_count_91 rfl rfl (fun hc => ?_) (fun hc => ?_)
  · have h := h.1 hc
    obtain ⟨vv1, h⟩ := h
    refine ow_iinc (pc' := 110) (lv' := [(0, (3, 77)), (3, (0, l3 + (-1))), (5, (0, l5))]) dX2_count_107 rfl vv1 rfl rfl rfl ?_
    refine ow_goto (tg := 47) dX2_count_110 rfl ?_
    refine ow_sub (lv' := [(0, (3, 77)), (3, (0, l3 + (-1)))]) [0, 1] rfl ?_
    exact h
  · have h := h.2 hc
    refine ow_aload_n (pc' := 95) (x := 77) dX2_count_94 rfl rfl ?_
    refine ow_iload_n (pc' := 96) (x := l3) dX2_count_95 rfl rfl ?_
    refine ow_iload (pc' := 98) (x := l5) dX2_count_96 rfl rfl ?_
    refine ow_callVv (z := mX2_countWord) (n := 2) (k := 2) (vs := [(0, l3), (0, l5)]) (x := 77) (st := []) (pc' := 101) (b1 := (0, 0)) (b2 := (0, 0)) dX2_count_98 lRX2_50 kX2_countWord iX2_countWord rfl rfl rfl rfl rfl rfl (of_eq_true eo77) (ow_Sp.mono h (fun r1 N1 h => ?_))
    obtain ⟨vv2, h⟩ := h
    refine ow_iinc (pc' := 104) (lv' := [(0, (3, 77)), (3, (0, l3)), (5, (0, l5 + 1))]) dX2_count_101 rfl vv2 rfl rfl rfl ?_
    refine ow_goto (tg := 82) dX2_count_104 rfl ?_
    exact h
theorem fX2_count {C : ow_C} {A L N : Int} {d : Nat} {M : ow_M} {K : Int → ow_M → Prop} {l1 l2 : Int} (h : ow_Sp C (EM A L N) d mJ7_fill_d0a16 (0, 0) [(3, M 77 3), (1, 0)] M (fun r1 N1 => ow_At C (EM A L N) (d + 1) mX2_count 10 [(0, (3, 77)), (1, (0, l1)), (2, (0, l2)), (3, (0, 0))] [] (0, 0) N1 K)) : ow_Sp C (EM A L N) (d + 1) mX2_count (0, 0) [(3, 77), (0, l1), (0, l2)] M K := ow_enter (by decide +kernel) rfl rfl (cX2_count_0 h)
set_option maxRecDepth 20000 in
theorem cX2_countWord_0 {C : ow_C} {A L N : Int} {d : Nat} {M : ow_M} {K : Int → ow_M → Prop} {l1 l2 : Int} (h : ow_At C (EM A L N) (d + 1) mX2_countWord 2 [(0, (3, 77)), (1, (0, l1)), (2, (0, l2)), (3, (0, 0))] [] (0, 0) M K) : ow_At C (EM A L N) (d + 1) mX2_countWord 0 [(0, (3, 77)), (1, (0, l1)), (2, (0, l2))] [] (0, 0) M K := by
  refine ow_iconst (pc' := 1) (n := 0) dX2_countWord_0 rfl rfl ?_
  refine ow_istore_n (pc' := 2) (lv' := [(0, (3, 77)), (1, (0, l1)), (2, (0, l2)), (3, (0, 0))]) dX2_countWord_1 rfl rfl rfl ?_
  exact h
set_option maxRecDepth 20000 in
theorem cX2_countWord_2 {C : ow_C} {A L N : Int} {d : Nat} {M : ow_M} {K : Int → ow_M → Prop} {l1 l2 l3 : Int} (h : (L ≤ l3 → K 0 M) ∧ (l3 < L → ow_Sp C (EM A L N) d mX10_letter (0, 0) [(3, 3), (0, l2), (0, l3)] M (fun r1 N1 => ow_Sp C (EM A L N) d mX9_changesOf (0, 0) [(3, 58), (0, l1), (0, l3), (0, r1)] N1 (fun r2 N2 => ow_Sp C (EM A L N) d mX10_cleared (0, 0) [(3, 3), (0, l2), (0, l3)] N2 (fun r3 N3 => ow_I (r3 * (L + 1)) ∧ ow_I ((r3 * (L + 1)) + l3) ∧ ow_I (((r3 * (L + 1)) + l3) + 1) ∧ ow_At C (EM A L N) (d + 1) mX2_countWord 60 [(0, (3, 77)), (1, (0, l1)), (2, (0, l2)), (3, (0, l3)), (4, (0, r1)), (5, (0, r2)), (6, (0, ((r3 * (L + 1)) + l3) + 1)), (7, (0, 0))] [] (0, 0) N3 K))))) : ow_At C (EM A L N) (d + 1) mX2_countWord 2 [(0, (3, 77)), (1, (0, l1)), (2, (0, l2)), (3, (0, l3))] [] (0, 0) M K := by
  refine ow_iload_n (pc' := 3) (x := l3) dX2_countWord_2 rfl rfl ?_
  refine ow_aload_n (pc' := 4) (x := 77) dX2_countWord_3 rfl rfl ?_
  refine ow_getf3 (pc' := 7) (t := 3) (ji := 0) (val := 3) dX2_countWord_4 fRX2_9 rfl rfl rfl (of_eq_true eo77) eg77_0 ?_
  refine ow_getf3 (pc' := 10) (t := 0) (ji := 1) (val := L) dX2_countWord_7 fRX2_19 rfl rfl rfl (of_eq_true eo3) eg3_1 ?_
  refine ow_icmpge (pc' := 13) (tg := 140) dX2_countWord_10 rfl rfl (fun hc => ?_) (fun hc => ?_)
  · have h := h.1 hc
    exact ow_vret dX2_countWord_140 rfl rfl h
  · have h := h.2 hc
    refine ow_aload_n (pc' := 14) (x := 77) dX2_countWord_13 rfl rfl ?_
    refine ow_getf3 (pc' := 17) (t := 3) (ji := 0) (val := 3) dX2_countWord_14 fRX2_9 rfl rfl rfl (of_eq_true eo77) eg77_0 ?_
    refine ow_iload_n (pc' := 18) (x := l2) dX2_countWord_17 rfl rfl ?_
    refine ow_iload_n (pc' := 19) (x := l3) dX2_countWord_18 rfl rfl ?_
    refine ow_callVp (z := mX10_letter) (n := 2) (k := 10) (vs := [(0, l2), (0, l3)]) (x := 3) (st := []) (pc' := 22) (b1 := (0, 0)) (b2 := (0, 0)) dX2_countWord_19 lRX2_54 kX10_letter iX10_letter rfl rfl rfl rfl rfl rfl (of_eq_true eo3) (ow_Sp.mono h (fun r1 N1 h => ?_))
    refine ow_istore (pc' := 24) (lv' := [(0, (3, 77)), (1, (0, l1)), (2, (0, l2)), (3, (0, l3)), (4, (0, r1))]) dX2_countWord_22 rfl rfl rfl ?_
    refine ow_aload_n (pc' := 25) (x := 77) dX2_countWord_24 rfl rfl ?_
    refine ow_getf3 (pc' := 28) (t := 3) (ji := 1) (val := 58) dX2_countWord_25 fRX2_15 rfl rfl rfl (of_eq_true eo77) eg77_1 ?_
    refine ow_iload_n (pc' := 29) (x := l1) dX2_countWord_28 rfl rfl ?_
    refine ow_iload_n (pc' := 30) (x := l3) dX2_countWord_29 rfl rfl ?_
    refine ow_iload (pc' := 32) (x := r1) dX2_countWord_30 rfl rfl ?_
    refine ow_callVp (z := mX9_changesOf) (n := 3) (k := 9) (vs := [(0, l1), (0, l3), (0, r1)]) (x := 58) (st := []) (pc' := 35) (b1 := (0, 0)) (b2 := (0, 0)) dX2_countWord_32 lRX2_57 kX9_changesOf iX9_changesOf rfl rfl rfl rfl rfl rfl (of_eq_true eo58) (ow_Sp.mono h (fun r2 N2 h => ?_))
    refine ow_istore (pc' := 37) (lv' := [(0, (3, 77)), (1, (0, l1)), (2, (0, l2)), (3, (0, l3)), (4, (0, r1)), (5, (0, r2))]) dX2_countWord_35 rfl rfl rfl ?_
    refine ow_aload_n (pc' := 38) (x := 77) dX2_countWord_37 rfl rfl ?_
    refine ow_getf3 (pc' := 41) (t := 3) (ji := 0) (val := 3) dX2_countWord_38 fRX2_9 rfl rfl rfl (of_eq_true eo77) eg77_0 ?_
    refine ow_iload_n (pc' := 42) (x := l2) dX2_countWord_41 rfl rfl ?_
    refine ow_iload_n (pc' := 43) (x := l3) dX2_countWord_42 rfl rfl ?_
    refine ow_callVp (z := mX10_cleared) (n := 2) (k := 10) (vs := [(0, l2), (0, l3)]) (x := 3) (st := []) (pc' := 46) (b1 := (0, 0)) (b2 := (0, 0)) dX2_countWord_43 lRX2_63 kX10_cleared iX10_cleared rfl rfl rfl rfl rfl rfl (of_eq_true eo3) (ow_Sp.mono h (fun r3 N3 h => ?_))
    refine ow_aload_n (pc' := 47) (x := 77) dX2_countWord_46 rfl rfl ?_
    refine ow_getf3 (pc' := 50) (t := 0) (ji := 2) (val := (L + 1)) dX2_countWord_47 fRX2_25 rfl rfl rfl (of_eq_true eo77) eg77_2 ?_
    obtain ⟨vv1, h⟩ := h
    refine ow_imul (pc' := 51) dX2_countWord_50 vv1 rfl ?_
    refine ow_iload_n (pc' := 52) (x := l3) dX2_countWord_51 rfl rfl ?_
    obtain ⟨vv2, h⟩ := h
    refine ow_iadd (pc' := 53) dX2_countWord_52 vv2 rfl ?_
    refine ow_iconst (pc' := 54) (n := 1) dX2_countWord_53 rfl rfl ?_
    obtain ⟨vv3, h⟩ := h
    refine ow_iadd (pc' := 55) dX2_countWord_54 vv3 rfl ?_
    refine ow_istore (pc' := 57) (lv' := [(0, (3, 77)), (1, (0, l1)), (2, (0, l2)), (3, (0, l3)), (4, (0, r1)), (5, (0, r2)), (6, (0, ((r3 * (L + 1)) + l3) + 1))]) dX2_countWord_55 rfl rfl rfl ?_
    refine ow_iconst (pc' := 58) (n := 0) dX2_countWord_57 rfl rfl ?_
    refine ow_istore (pc' := 60) (lv' := [(0, (3, 77)), (1, (0, l1)), (2, (0, l2)), (3, (0, l3)), (4, (0, r1)), (5, (0, r2)), (6, (0, ((r3 * (L + 1)) + l3) + 1)), (7, (0, 0))]) dX2_countWord_58 rfl rfl rfl ?_
    exact h
set_option maxRecDepth 20000 in
theorem cX2_countWord_60 {C : ow_C} {A L N : Int} {d : Nat} {M : ow_M} {K : Int → ow_M → Prop} {l1 l2 l3 l4 l5 l6 l7 : Int} (h : (A ≤ l7 → ow_I (l3 + 1) ∧ ow_At C (EM A L N) (d + 1) mX2_countWord 2 [(0, (3, 77)), (1, (0, l1)), (2, (0, l2)), (3, (0, l3 + 1))] [] (0, 0) M K) ∧ (l7 < A → (l7 = l4 → ow_At C (EM A L N) (d + 1) mX2_countWord 109 [(0, (3, 77)), (1, (0, l1)), (2, (0, l2)), (3, (0, l3)), (4, (0, l4)), (5, (0, l5)), (6, (0, l6)), (7, (0, l7))] [] (0, 0) M K) ∧ (l7 ≠ l4 → ow_R (EM A L N) M (M 77 4) 101 l6 ∧ ((ow_lcmp (ow_gv (EM A L N) M (M 77 4) l6) 0) = 0 → ow_At C (EM A L N) (d + 1) mX2_countWord 109 [(0, (3, 77)), (1, (0, l1)), (2, (0, l2)), (3, (0, l3)), (4, (0, l4)), (5, (0, l5)), (6, (0, l6)), (7, (0, l7))] [] (0, 0) M K) ∧ ((ow_lcmp (ow_gv (EM A L N) M (M 77 4) l6) 0) ≠ 0 → ow_I (l5 + l7) ∧ ow_R (EM A L N) M (M 77 4) 101 l6 ∧ ow_Sp C (EM A L N) d mX2_addChange (0, 0) [(3, 77), (0, l1), (0, l2), (0, l5 + l7), (1, ow_gv (EM A L N) M (M 77 4) l6)] M (fun r1 N1 => ow_At C (EM A L N) (d + 1) mX2_countWord 109 [(0, (3, 77)), (1, (0, l1)), (2, (0, l2)), (3, (0, l3)), (4, (0, l4)), (5, (0, l5)), (6, (0, l6)), (7, (0, l7))] [] (0, 0) N1 K))))) : ow_At C (EM A L N) (d + 1) mX2_countWord 60 [(0, (3, 77)), (1, (0, l1)), (2, (0, l2)), (3, (0, l3)), (4, (0, l4)), (5, (0, l5)), (6, (0, l6)), (7, (0, l7))] [] (0, 0) M K := by
  refine ow_iload (pc' := 62) (x := l7) dX2_countWord_60 rfl rfl ?_
  refine ow_aload_n (pc' := 63) (x := 77) dX2_countWord_62 rfl rfl ?_
  refine ow_getf3 (pc' := 66) (t := 3) (ji := 0) (val := 3) dX2_countWord_63 fRX2_9 rfl rfl rfl (of_eq_true eo77) eg77_0 ?_
  refine ow_getf3 (pc' := 69) (t := 0) (ji := 0) (val := A) dX2_countWord_66 fRX2_66 rfl rfl rfl (of_eq_true eo3) eg3_0 ?_
  refine ow_icmpge (pc' := 72) (tg := 134) dX2_countWord_69 rfl rfl (fun hc => ?_) (fun hc => ?_)
  · have h := h.1 hc
    obtain ⟨vv1, h⟩ := h
    refine ow_iinc (pc' := 137) (lv' := [(0, (3, 77)), (1, (0, l1)), (2, (0, l2)), (3, (0, l3 + 1)), (4, (0, l4)), (5, (0, l5)), (6, (0, l6)), (7, (0, l7))]) dX2_countWord_134 rfl vv1 rfl rfl rfl ?_
    refine ow_goto (tg := 2) dX2_countWord_137 rfl ?_
    refine ow_sub (lv' := [(0, (3, 77)), (1, (0, l1)), (2, (0, l2)), (3, (0, l3 + 1))]) [0, 1, 2, 3] rfl ?_
    exact h
  · have h := h.2 hc
    refine ow_iload (pc' := 74) (x := l7) dX2_countWord_72 rfl rfl ?_
    refine ow_iload (pc' := 76) (x := l4) dX2_countWord_74 rfl rfl ?_
    refine ow_icmpeq (pc' := 79) (tg := 109) dX2_countWord_76 rfl rfl (fun hc => ?_) (fun hc => ?_)
    · have h := h.1 hc
      exact h
    · have h := h.2 hc
      refine ow_aload_n (pc' := 80) (x := 77) dX2_countWord_79 rfl rfl ?_
      refine ow_getf3 (pc' := 83) (t := 3) (ji := 4) (val := M 77 4) dX2_countWord_80 fRX2_35 rfl rfl rfl (of_eq_true eo77) eg77_4 ?_
      refine ow_iload (pc' := 85) (x := l6) dX2_countWord_83 rfl rfl ?_
      obtain ⟨w, h⟩ := h
      refine ow_laload (pc' := 86) dX2_countWord_85 rfl w ?_
      refine ow_lconst (pc' := 87) (i := 0) dX2_countWord_86 rfl rfl ?_
      refine ow_Lcmp (pc' := 88) dX2_countWord_87 rfl ?_
      refine ow_ifeq (pc' := 91) (tg := 109) dX2_countWord_88 rfl rfl (fun hc => ?_) (fun hc => ?_)
      · have h := h.1 hc
        exact h
      · have h := h.2 hc
        refine ow_aload_n (pc' := 92) (x := 77) dX2_countWord_91 rfl rfl ?_
        refine ow_iload_n (pc' := 93) (x := l1) dX2_countWord_92 rfl rfl ?_
        refine ow_iload_n (pc' := 94) (x := l2) dX2_countWord_93 rfl rfl ?_
        refine ow_iload (pc' := 96) (x := l5) dX2_countWord_94 rfl rfl ?_
        refine ow_iload (pc' := 98) (x := l7) dX2_countWord_96 rfl rfl ?_
        obtain ⟨vv2, h⟩ := h
        refine ow_iadd (pc' := 99) dX2_countWord_98 vv2 rfl ?_
        refine ow_aload_n (pc' := 100) (x := 77) dX2_countWord_99 rfl rfl ?_
        refine ow_getf3 (pc' := 103) (t := 3) (ji := 4) (val := M 77 4) dX2_countWord_100 fRX2_35 rfl rfl rfl (of_eq_true eo77) eg77_4 ?_
        refine ow_iload (pc' := 105) (x := l6) dX2_countWord_103 rfl rfl ?_
        obtain ⟨w, h⟩ := h
        refine ow_laload (pc' := 106) dX2_countWord_105 rfl w ?_
        refine ow_callVv (z := mX2_addChange) (n := 4) (k := 2) (vs := [(0, l1), (0, l2), (0, l5 + l7), (1, ow_gv (EM A L N) M (M 77 4) l6)]) (x := 77) (st := []) (pc' := 109) (b1 := (0, 0)) (b2 := (0, 0)) dX2_countWord_106 lRX2_69 kX2_addChange iX2_addChange rfl rfl rfl rfl rfl rfl (of_eq_true eo77) (ow_Sp.mono h (fun r1 N1 h => ?_))
        exact h
set_option maxRecDepth 20000 in
theorem cX2_countWord_109 {C : ow_C} {A L N : Int} {d : Nat} {M : ow_M} {K : Int → ow_M → Prop} {l1 l2 l3 l4 l5 l6 l7 : Int} (h : (0 ≤ l3 ∧ l3 < L) ∧ ow_I ((em_pw A (L - 1 - l3)) * (L + 1)) ∧ ow_I (l6 + ((em_pw A (L - 1 - l3)) * (L + 1))) ∧ ow_I (l7 + 1) ∧ ow_At C (EM A L N) (d + 1) mX2_countWord 60 [(0, (3, 77)), (1, (0, l1)), (2, (0, l2)), (3, (0, l3)), (4, (0, l4)), (5, (0, l5)), (6, (0, l6 + ((em_pw A (L - 1 - l3)) * (L + 1)))), (7, (0, l7 + 1))] [] (0, 0) M K) : ow_At C (EM A L N) (d + 1) mX2_countWord 109 [(0, (3, 77)), (1, (0, l1)), (2, (0, l2)), (3, (0, l3)), (4, (0, l4)), (5, (0, l5)), (6, (0, l6)), (7, (0, l7))] [] (0, 0) M K := by
  refine ow_iload (pc' := 111) (x := l6) dX2_countWord_109 rfl rfl ?_
  refine ow_aload_n (pc' := 112) (x := 77) dX2_countWord_111 rfl rfl ?_
  refine ow_getf3 (pc' := 115) (t := 3) (ji := 0) (val := 3) dX2_countWord_112 fRX2_9 rfl rfl rfl (of_eq_true eo77) eg77_0 ?_
  refine ow_getf3 (pc' := 118) (t := 3) (ji := 3) (val := 4) dX2_countWord_115 fRX2_73 rfl rfl rfl (of_eq_true eo3) eg3_3 ?_
  refine ow_iload_n (pc' := 119) (x := l3) dX2_countWord_118 rfl rfl ?_
  obtain ⟨vv1, h⟩ := h
  refine ow_iaload3 (pc' := 120) (val := em_pw A (L - 1 - l3)) dX2_countWord_119 rfl (Eq.mpr (er4 _) vv1) (ea4 _) ?_
  refine ow_aload_n (pc' := 121) (x := 77) dX2_countWord_120 rfl rfl ?_
  refine ow_getf3 (pc' := 124) (t := 0) (ji := 2) (val := (L + 1)) dX2_countWord_121 fRX2_25 rfl rfl rfl (of_eq_true eo77) eg77_2 ?_
  obtain ⟨vv2, h⟩ := h
  refine ow_imul (pc' := 125) dX2_countWord_124 vv2 rfl ?_
  obtain ⟨vv3, h⟩ := h
  refine ow_iadd (pc' := 126) dX2_countWord_125 vv3 rfl ?_
  refine ow_istore (pc' := 128) (lv' := [(0, (3, 77)), (1, (0, l1)), (2, (0, l2)), (3, (0, l3)), (4, (0, l4)), (5, (0, l5)), (6, (0, l6 + ((em_pw A (L - 1 - l3)) * (L + 1)))), (7, (0, l7))]) dX2_countWord_126 rfl rfl rfl ?_
  obtain ⟨vv4, h⟩ := h
  refine ow_iinc (pc' := 131) (lv' := [(0, (3, 77)), (1, (0, l1)), (2, (0, l2)), (3, (0, l3)), (4, (0, l4)), (5, (0, l5)), (6, (0, l6 + ((em_pw A (L - 1 - l3)) * (L + 1)))), (7, (0, l7 + 1))]) dX2_countWord_128 rfl vv4 rfl rfl rfl ?_
  refine ow_goto (tg := 60) dX2_countWord_131 rfl ?_
  exact h
theorem fX2_countWord {C : ow_C} {A L N : Int} {d : Nat} {M : ow_M} {K : Int → ow_M → Prop} {l1 l2 : Int} (h : ow_At C (EM A L N) (d + 1) mX2_countWord 2 [(0, (3, 77)), (1, (0, l1)), (2, (0, l2)), (3, (0, 0))] [] (0, 0) M K) : ow_Sp C (EM A L N) (d + 1) mX2_countWord (0, 0) [(3, 77), (0, l1), (0, l2)] M K := ow_enter (by decide +kernel) rfl rfl (cX2_countWord_0 h)
set_option maxRecDepth 20000 in
theorem cX2_addChange_0 {C : ow_C} {A L N : Int} {d : Nat} {M : ow_M} {K : Int → ow_M → Prop} {l1 l2 l3 l4 : Int} (h : (l1 ≠ 0 → ow_At C (EM A L N) d mX2_addChange 9 [(0, (3, 77)), (1, (0, l1)), (2, (0, l2)), (3, (0, l3)), (4, (1, l4))] [(0, 1)] (0, 0) M K) ∧ (l1 = 0 → ow_At C (EM A L N) d mX2_addChange 9 [(0, (3, 77)), (1, (0, l1)), (2, (0, l2)), (3, (0, l3)), (4, (1, l4))] [(0, 0)] (0, 0) M K)) : ow_At C (EM A L N) d mX2_addChange 0 [(0, (3, 77)), (1, (0, l1)), (2, (0, l2)), (3, (0, l3)), (4, (1, l4))] [] (0, 0) M K := by
  refine ow_iload_n (pc' := 1) (x := l1) dX2_addChange_0 rfl rfl ?_
  refine ow_ifne (pc' := 4) (tg := 8) dX2_addChange_1 rfl rfl (fun hc => ?_) (fun hc => ?_)
  · have h := h.1 hc
    refine ow_iconst (pc' := 9) (n := 1) dX2_addChange_8 rfl rfl ?_
    exact h
  · have h := h.2 hc
    refine ow_iconst (pc' := 5) (n := 0) dX2_addChange_4 rfl rfl ?_
    refine ow_goto (tg := 9) dX2_addChange_5 rfl ?_
    exact h
set_option maxRecDepth 20000 in
theorem cX2_addChange_9 {C : ow_C} {A L N : Int} {d : Nat} {M : ow_M} {K : Int → ow_M → Prop} {l1 l2 l3 l4 s0 : Int} (h : (l1 ≠ 0 → ow_At C (EM A L N) d mX2_addChange 32 [(0, (3, 77)), (2, (0, l2)), (3, (0, l3)), (4, (1, l4)), (7, (0, L)), (8, (0, s0))] [] (0, 0) M K) ∧ (l1 = 0 → ow_At C (EM A L N) d mX2_addChange 32 [(0, (3, 77)), (2, (0, l2)), (3, (0, l3)), (4, (1, l4)), (7, (0, 0)), (8, (0, s0))] [] (0, 0) M K)) : ow_At C (EM A L N) d mX2_addChange 9 [(0, (3, 77)), (1, (0, l1)), (2, (0, l2)), (3, (0, l3)), (4, (1, l4))] [(0, s0)] (0, 0) M K := by
  refine ow_istore (pc' := 11) (lv' := [(0, (3, 77)), (1, (0, l1)), (2, (0, l2)), (3, (0, l3)), (4, (1, l4)), (6, (0, s0))]) dX2_addChange_9 rfl rfl rfl ?_
  refine ow_iload_n (pc' := 12) (x := l1) dX2_addChange_11 rfl rfl ?_
  refine ow_ifne (pc' := 15) (tg := 19) dX2_addChange_12 rfl rfl (fun hc => ?_) (fun hc => ?_)
  · have h := h.1 hc
    refine ow_aload_n (pc' := 20) (x := 77) dX2_addChange_19 rfl rfl ?_
    refine ow_getf3 (pc' := 23) (t := 3) (ji := 0) (val := 3) dX2_addChange_20 fRX2_9 rfl rfl rfl (of_eq_true eo77) eg77_0 ?_
    refine ow_getf3 (pc' := 26) (t := 0) (ji := 1) (val := L) dX2_addChange_23 fRX2_19 rfl rfl rfl (of_eq_true eo3) eg3_1 ?_
    refine ow_istore (pc' := 28) (lv' := [(0, (3, 77)), (1, (0, l1)), (2, (0, l2)), (3, (0, l3)), (4, (1, l4)), (6, (0, s0)), (7, (0, L))]) dX2_addChange_26 rfl rfl rfl ?_
    refine ow_iload (pc' := 30) (x := s0) dX2_addChange_28 rfl rfl ?_
    refine ow_istore (pc' := 32) (lv' := [(0, (3, 77)), (1, (0, l1)), (2, (0, l2)), (3, (0, l3)), (4, (1, l4)), (6, (0, s0)), (7, (0, L)), (8, (0, s0))]) dX2_addChange_30 rfl rfl rfl ?_
    refine ow_sub (lv' := [(0, (3, 77)), (2, (0, l2)), (3, (0, l3)), (4, (1, l4)), (7, (0, L)), (8, (0, s0))]) [0, 2, 3, 4, 6, 7] rfl ?_
    exact h
  · have h := h.2 hc
    refine ow_iconst (pc' := 16) (n := 0) dX2_addChange_15 rfl rfl ?_
    refine ow_goto (tg := 26) dX2_addChange_16 rfl ?_
    refine ow_istore (pc' := 28) (lv' := [(0, (3, 77)), (1, (0, l1)), (2, (0, l2)), (3, (0, l3)), (4, (1, l4)), (6, (0, s0)), (7, (0, 0))]) dX2_addChange_26 rfl rfl rfl ?_
    refine ow_iload (pc' := 30) (x := s0) dX2_addChange_28 rfl rfl ?_
    refine ow_istore (pc' := 32) (lv' := [(0, (3, 77)), (1, (0, l1)), (2, (0, l2)), (3, (0, l3)), (4, (1, l4)), (6, (0, s0)), (7, (0, 0)), (8, (0, s0))]) dX2_addChange_30 rfl rfl rfl ?_
    refine ow_sub (lv' := [(0, (3, 77)), (2, (0, l2)), (3, (0, l3)), (4, (1, l4)), (7, (0, 0)), (8, (0, s0))]) [0, 2, 3, 4, 6, 7] rfl ?_
    exact h
set_option maxRecDepth 20000 in
theorem cX2_addChange_32 {C : ow_C} {A L N : Int} {d : Nat} {M : ow_M} {K : Int → ow_M → Prop} {l2 l3 l4 l7 l8 : Int} (h : (l7 < l8 → K 0 M) ∧ (l8 ≤ l7 → ow_I (l2 * (L + 1)) ∧ ow_I ((l2 * (L + 1)) + l8) ∧ ow_R (EM A L N) M (M 77 3) 101 ((l2 * (L + 1)) + l8) ∧ ow_I (l3 * (L + 1)) ∧ ow_I ((l3 * (L + 1)) + l8) ∧ (0 ≤ ((l3 * (L + 1)) + l8) ∧ ((l3 * (L + 1)) + l8) < (8 * L * A * A * (L + 1))) ∧ ow_L ((M 63 ((l3 * (L + 1)) + l8)) * l4) ∧ ow_L ((ow_gv (EM A L N) M (M 77 3) ((l2 * (L + 1)) + l8)) + ((M 63 ((l3 * (L + 1)) + l8)) * l4)) ∧ ow_R (EM A L N) M (M 77 3) 101 ((l2 * (L + 1)) + l8) ∧ (EM A L N).1 (M 77 3) ((l2 * (L + 1)) + l8) = none ∧ ∀ N1, N1 = ow_up M (M 77 3) ((l2 * (L + 1)) + l8) ((ow_gv (EM A L N) M (M 77 3) ((l2 * (L + 1)) + l8)) + ((M 63 ((l3 * (L + 1)) + l8)) * l4)) → ow_I (l8 + 1) ∧ ow_At C (EM A L N) d mX2_addChange 32 [(0, (3, 77)), (2, (0, l2)), (3, (0, l3)), (4, (1, l4)), (7, (0, l7)), (8, (0, l8 + 1))] [] (0, 0) N1 K)) : ow_At C (EM A L N) d mX2_addChange 32 [(0, (3, 77)), (2, (0, l2)), (3, (0, l3)), (4, (1, l4)), (7, (0, l7)), (8, (0, l8))] [] (0, 0) M K := by
  refine ow_iload (pc' := 34) (x := l8) dX2_addChange_32 rfl rfl ?_
  refine ow_iload (pc' := 36) (x := l7) dX2_addChange_34 rfl rfl ?_
  refine ow_icmpgt (pc' := 39) (tg := 83) dX2_addChange_36 rfl rfl (fun hc => ?_) (fun hc => ?_)
  · have h := h.1 hc
    exact ow_vret dX2_addChange_83 rfl rfl h
  · have h := h.2 hc
    refine ow_aload_n (pc' := 40) (x := 77) dX2_addChange_39 rfl rfl ?_
    refine ow_getf3 (pc' := 43) (t := 3) (ji := 3) (val := M 77 3) dX2_addChange_40 fRX2_31 rfl rfl rfl (of_eq_true eo77) eg77_3 ?_
    refine ow_iload_n (pc' := 44) (x := l2) dX2_addChange_43 rfl rfl ?_
    refine ow_aload_n (pc' := 45) (x := 77) dX2_addChange_44 rfl rfl ?_
    refine ow_getf3 (pc' := 48) (t := 0) (ji := 2) (val := (L + 1)) dX2_addChange_45 fRX2_25 rfl rfl rfl (of_eq_true eo77) eg77_2 ?_
    obtain ⟨vv1, h⟩ := h
    refine ow_imul (pc' := 49) dX2_addChange_48 vv1 rfl ?_
    refine ow_iload (pc' := 51) (x := l8) dX2_addChange_49 rfl rfl ?_
    obtain ⟨vv2, h⟩ := h
    refine ow_iadd (pc' := 52) dX2_addChange_51 vv2 rfl ?_
    refine ow_dup2 (pc' := 53) dX2_addChange_52 rfl rfl rfl ?_
    obtain ⟨w, h⟩ := h
    refine ow_laload (pc' := 54) dX2_addChange_53 rfl w ?_
    refine ow_aload_n (pc' := 55) (x := 77) dX2_addChange_54 rfl rfl ?_
    refine ow_getf3 (pc' := 58) (t := 3) (ji := 1) (val := 58) dX2_addChange_55 fRX2_15 rfl rfl rfl (of_eq_true eo77) eg77_1 ?_
    refine ow_getf3 (pc' := 61) (t := 3) (ji := 4) (val := 63) dX2_addChange_58 fRX2_77 rfl rfl rfl (of_eq_true eo58) eg58_4 ?_
    refine ow_iload_n (pc' := 62) (x := l3) dX2_addChange_61 rfl rfl ?_
    refine ow_aload_n (pc' := 63) (x := 77) dX2_addChange_62 rfl rfl ?_
    refine ow_getf3 (pc' := 66) (t := 0) (ji := 2) (val := (L + 1)) dX2_addChange_63 fRX2_25 rfl rfl rfl (of_eq_true eo77) eg77_2 ?_
    obtain ⟨vv3, h⟩ := h
    refine ow_imul (pc' := 67) dX2_addChange_66 vv3 rfl ?_
    refine ow_iload (pc' := 69) (x := l8) dX2_addChange_67 rfl rfl ?_
    obtain ⟨vv4, h⟩ := h
    refine ow_iadd (pc' := 70) dX2_addChange_69 vv4 rfl ?_
    obtain ⟨vv5, h⟩ := h
    refine ow_iaload3 (pc' := 71) (val := M 63 ((l3 * (L + 1)) + l8)) dX2_addChange_70 rfl (Eq.mpr (er63 _) vv5) (ea63 _) ?_
    refine ow_i2L (pc' := 72) dX2_addChange_71 rfl ?_
    refine ow_lload (pc' := 74) (x := l4) dX2_addChange_72 rfl rfl ?_
    obtain ⟨vv6, h⟩ := h
    refine ow_lmul (pc' := 75) dX2_addChange_74 vv6 rfl ?_
    obtain ⟨vv7, h⟩ := h
    refine ow_ladd (pc' := 76) dX2_addChange_75 vv7 rfl ?_
    obtain ⟨w, w1, h⟩ := h
    refine ow_lastore2 (pc' := 77) dX2_addChange_76 rfl w w1 (fun N1 eN1 => ?_)
    have h := h N1 eN1
    obtain ⟨vv8, h⟩ := h
    refine ow_iinc (pc' := 80) (lv' := [(0, (3, 77)), (2, (0, l2)), (3, (0, l3)), (4, (1, l4)), (7, (0, l7)), (8, (0, l8 + 1))]) dX2_addChange_77 rfl vv8 rfl rfl rfl ?_
    refine ow_goto (tg := 32) dX2_addChange_80 rfl ?_
    exact h
theorem fX2_addChange {C : ow_C} {A L N : Int} {d : Nat} {M : ow_M} {K : Int → ow_M → Prop} {l1 l2 l3 l4 : Int} (h : (l1 ≠ 0 → ow_At C (EM A L N) d mX2_addChange 9 [(0, (3, 77)), (1, (0, l1)), (2, (0, l2)), (3, (0, l3)), (4, (1, l4))] [(0, 1)] (0, 0) M K) ∧ (l1 = 0 → ow_At C (EM A L N) d mX2_addChange 9 [(0, (3, 77)), (1, (0, l1)), (2, (0, l2)), (3, (0, l3)), (4, (1, l4))] [(0, 0)] (0, 0) M K)) : ow_Sp C (EM A L N) d mX2_addChange (0, 0) [(3, 77), (0, l1), (0, l2), (0, l3), (1, l4)] M K := ow_enter (by decide +kernel) rfl rfl (cX2_addChange_0 h)
set_option maxRecDepth 20000 in
theorem cX1_least_0 {C : ow_C} {A L N : Int} {d : Nat} {M : ow_M} {K : Int → ow_M → Prop} {l2 : Int} (h : ow_Sp C (EM A L N) d mJ7_fill_53178 (0, 0) [(3, M 80 3), (0, 1048576)] M (fun r1 N1 => ow_At C (EM A L N) (d + 1) mX1_least 11 [(0, (3, 80)), (1, (3, 14)), (2, (0, l2)), (3, (0, 0))] [] (0, 0) N1 K)) : ow_At C (EM A L N) (d + 1) mX1_least 0 [(0, (3, 80)), (1, (3, 14)), (2, (0, l2))] [] (0, 0) M K := by
  refine ow_aload_n (pc' := 1) (x := 80) dX1_least_0 rfl rfl ?_
  refine ow_getf3 (pc' := 4) (t := 3) (ji := 3) (val := M 80 3) dX1_least_1 fRX1_31 rfl rfl rfl (of_eq_true eo80) eg80_3 ?_
  refine ow_ldc (pc' := 6) (n := 1048576) dX1_least_4 cRX1_38 rfl rfl ?_
  refine ow_callSv (z := mJ7_fill_53178) (n := 2) (vs := [(3, M 80 3), (0, 1048576)]) (st := []) (pc' := 9) (b1 := (0, 0)) (b2 := (0, 0)) dX1_least_6 lRX1_39 kJ7_fill_53178 zJ7_fill_53178 rfl rfl rfl rfl rfl rfl (ow_Sp.mono h (fun r1 N1 h => ?_))
  refine ow_iconst (pc' := 10) (n := 0) dX1_least_9 rfl rfl ?_
  refine ow_istore_n (pc' := 11) (lv' := [(0, (3, 80)), (1, (3, 14)), (2, (0, l2)), (3, (0, 0))]) dX1_least_10 rfl rfl rfl ?_
  exact h
set_option maxRecDepth 20000 in
theorem cX1_least_11 {C : ow_C} {A L N : Int} {d : Nat} {M : ow_M} {K : Int → ow_M → Prop} {l2 l3 : Int} (h : (N ≤ l3 → ow_Sp C (EM A L N) d mX4_known (0, 0) [(3, 14), (0, 0), (0, l2)] M (fun r1 N1 => ow_Sp C (EM A L N) d mX1_keepOnly (0, 0) [(3, 80), (0, r1)] N1 (fun r2 N2 => ow_At C (EM A L N) (d + 1) mX1_least 52 [(0, (3, 80)), (1, (3, 14)), (2, (0, l2)), (3, (0, 0))] [] (0, 0) N2 K))) ∧ (l3 < N → ow_I (l3 * (L + 1)) ∧ ow_R (EM A L N) M (M 80 3) 100 (l3 * (L + 1)) ∧ (EM A L N).1 (M 80 3) (l3 * (L + 1)) = none ∧ ∀ N3, N3 = ow_up M (M 80 3) (l3 * (L + 1)) 0 → ow_I (l3 + 1) ∧ ow_At C (EM A L N) (d + 1) mX1_least 11 [(0, (3, 80)), (1, (3, 14)), (2, (0, l2)), (3, (0, l3 + 1))] [] (0, 0) N3 K)) : ow_At C (EM A L N) (d + 1) mX1_least 11 [(0, (3, 80)), (1, (3, 14)), (2, (0, l2)), (3, (0, l3))] [] (0, 0) M K := by
  refine ow_iload_n (pc' := 12) (x := l3) dX1_least_11 rfl rfl ?_
  refine ow_aload_n (pc' := 13) (x := 80) dX1_least_12 rfl rfl ?_
  refine ow_getf3 (pc' := 16) (t := 3) (ji := 0) (val := 3) dX1_least_13 fRX1_9 rfl rfl rfl (of_eq_true eo80) eg80_0 ?_
  refine ow_getf3 (pc' := 19) (t := 0) (ji := 2) (val := N) dX1_least_16 fRX1_28 rfl rfl rfl (of_eq_true eo3) eg3_2 ?_
  refine ow_icmpge (pc' := 22) (tg := 40) dX1_least_19 rfl rfl (fun hc => ?_) (fun hc => ?_)
  · have h := h.1 hc
    refine ow_aload_n (pc' := 41) (x := 80) dX1_least_40 rfl rfl ?_
    refine ow_aload_n (pc' := 42) (x := 14) dX1_least_41 rfl rfl ?_
    refine ow_iconst (pc' := 43) (n := 0) dX1_least_42 rfl rfl ?_
    refine ow_iload_n (pc' := 44) (x := l2) dX1_least_43 rfl rfl ?_
    refine ow_callVp (z := mX4_known) (n := 2) (k := 4) (vs := [(0, 0), (0, l2)]) (x := 14) (st := [(3, 80)]) (pc' := 47) (b1 := (0, 0)) (b2 := (0, 0)) dX1_least_44 lRX1_45 kX4_known iX4_known rfl rfl rfl rfl rfl rfl (of_eq_true eo14) (ow_Sp.mono h (fun r1 N1 h => ?_))
    refine ow_callVv (z := mX1_keepOnly) (n := 1) (k := 1) (vs := [(0, r1)]) (x := 80) (st := []) (pc' := 50) (b1 := (0, 0)) (b2 := (0, 0)) dX1_least_47 lRX1_51 kX1_keepOnly iX1_keepOnly rfl rfl rfl rfl rfl rfl (of_eq_true eo80) (ow_Sp.mono h (fun r2 N2 h => ?_))
    refine ow_iconst (pc' := 51) (n := 0) dX1_least_50 rfl rfl ?_
    refine ow_istore_n (pc' := 52) (lv' := [(0, (3, 80)), (1, (3, 14)), (2, (0, l2)), (3, (0, 0))]) dX1_least_51 rfl rfl rfl ?_
    exact h
  · have h := h.2 hc
    refine ow_aload_n (pc' := 23) (x := 80) dX1_least_22 rfl rfl ?_
    refine ow_getf3 (pc' := 26) (t := 3) (ji := 3) (val := M 80 3) dX1_least_23 fRX1_31 rfl rfl rfl (of_eq_true eo80) eg80_3 ?_
    refine ow_iload_n (pc' := 27) (x := l3) dX1_least_26 rfl rfl ?_
    refine ow_aload_n (pc' := 28) (x := 80) dX1_least_27 rfl rfl ?_
    refine ow_getf3 (pc' := 31) (t := 0) (ji := 2) (val := (L + 1)) dX1_least_28 fRX1_25 rfl rfl rfl (of_eq_true eo80) eg80_2 ?_
    obtain ⟨vv1, h⟩ := h
    refine ow_imul (pc' := 32) dX1_least_31 vv1 rfl ?_
    refine ow_iconst (pc' := 33) (n := 0) dX1_least_32 rfl rfl ?_
    obtain ⟨w, w1, h⟩ := h
    refine ow_iastore2 (pc' := 34) dX1_least_33 rfl w w1 (fun N3 eN3 => ?_)
    have h := h N3 eN3
    obtain ⟨vv2, h⟩ := h
    refine ow_iinc (pc' := 37) (lv' := [(0, (3, 80)), (1, (3, 14)), (2, (0, l2)), (3, (0, l3 + 1))]) dX1_least_34 rfl vv2 rfl rfl rfl ?_
    refine ow_goto (tg := 11) dX1_least_37 rfl ?_
    exact h
set_option maxRecDepth 20000 in
theorem cX1_least_52 {C : ow_C} {A L N : Int} {d : Nat} {M : ow_M} {K : Int → ow_M → Prop} {l2 l3 : Int} (h : ((M 14 0) ≤ l3 → ow_At C (EM A L N) (d + 1) mX1_least 89 [(0, (3, 80))] [] (0, 0) M K) ∧ (l3 < (M 14 0) → (8 ≤ l3 → ow_At C (EM A L N) (d + 1) mX1_least 89 [(0, (3, 80))] [] (0, 0) M K) ∧ (l3 < 8 → ow_Sp C (EM A L N) d mX1_passHand (0, 0) [(3, 80), (0, l3)] M (fun r1 N1 => ow_I (l3 + 1) ∧ ow_Sp C (EM A L N) d mX4_known (0, 0) [(3, 14), (0, l3 + 1), (0, l2)] N1 (fun r2 N2 => ow_Sp C (EM A L N) d mX1_keepOnly (0, 0) [(3, 80), (0, r2)] N2 (fun r3 N3 => ow_At C (EM A L N) (d + 1) mX1_least 52 [(0, (3, 80)), (1, (3, 14)), (2, (0, l2)), (3, (0, l3 + 1))] [] (0, 0) N3 K)))))) : ow_At C (EM A L N) (d + 1) mX1_least 52 [(0, (3, 80)), (1, (3, 14)), (2, (0, l2)), (3, (0, l3))] [] (0, 0) M K := by
  refine ow_iload_n (pc' := 53) (x := l3) dX1_least_52 rfl rfl ?_
  refine ow_aload_n (pc' := 54) (x := 14) dX1_least_53 rfl rfl ?_
  refine ow_getf3 (pc' := 57) (t := 0) (ji := 0) (val := M 14 0) dX1_least_54 fRX1_55 rfl rfl rfl (of_eq_true eo14) eg14_0 ?_
  refine ow_icmpge (pc' := 60) (tg := 89) dX1_least_57 rfl rfl (fun hc => ?_) (fun hc => ?_)
  · have h := h.1 hc
    refine ow_sub (lv' := [(0, (3, 80))]) [0] rfl ?_
    exact h
  · have h := h.2 hc
    refine ow_iload_n (pc' := 61) (x := l3) dX1_least_60 rfl rfl ?_
    refine ow_bipush (pc' := 63) (n := 8) dX1_least_61 rfl rfl ?_
    refine ow_icmpge (pc' := 66) (tg := 89) dX1_least_63 rfl rfl (fun hc => ?_) (fun hc => ?_)
    · have h := h.1 hc
      refine ow_sub (lv' := [(0, (3, 80))]) [0] rfl ?_
      exact h
    · have h := h.2 hc
      refine ow_aload_n (pc' := 67) (x := 80) dX1_least_66 rfl rfl ?_
      refine ow_iload_n (pc' := 68) (x := l3) dX1_least_67 rfl rfl ?_
      refine ow_callVv (z := mX1_passHand) (n := 1) (k := 1) (vs := [(0, l3)]) (x := 80) (st := []) (pc' := 71) (b1 := (0, 0)) (b2 := (0, 0)) dX1_least_68 lRX1_58 kX1_passHand iX1_passHand rfl rfl rfl rfl rfl rfl (of_eq_true eo80) (ow_Sp.mono h (fun r1 N1 h => ?_))
      refine ow_aload_n (pc' := 72) (x := 80) dX1_least_71 rfl rfl ?_
      refine ow_aload_n (pc' := 73) (x := 14) dX1_least_72 rfl rfl ?_
      refine ow_iload_n (pc' := 74) (x := l3) dX1_least_73 rfl rfl ?_
      refine ow_iconst (pc' := 75) (n := 1) dX1_least_74 rfl rfl ?_
      obtain ⟨vv1, h⟩ := h
      refine ow_iadd (pc' := 76) dX1_least_75 vv1 rfl ?_
      refine ow_iload_n (pc' := 77) (x := l2) dX1_least_76 rfl rfl ?_
      refine ow_callVp (z := mX4_known) (n := 2) (k := 4) (vs := [(0, l3 + 1), (0, l2)]) (x := 14) (st := [(3, 80)]) (pc' := 80) (b1 := (0, 0)) (b2 := (0, 0)) dX1_least_77 lRX1_45 kX4_known iX4_known rfl rfl rfl rfl rfl rfl (of_eq_true eo14) (ow_Sp.mono h (fun r2 N2 h => ?_))
      refine ow_callVv (z := mX1_keepOnly) (n := 1) (k := 1) (vs := [(0, r2)]) (x := 80) (st := []) (pc' := 83) (b1 := (0, 0)) (b2 := (0, 0)) dX1_least_80 lRX1_51 kX1_keepOnly iX1_keepOnly rfl rfl rfl rfl rfl rfl (of_eq_true eo80) (ow_Sp.mono h (fun r3 N3 h => ?_))
      refine ow_iinc (pc' := 86) (lv' := [(0, (3, 80)), (1, (3, 14)), (2, (0, l2)), (3, (0, l3 + 1))]) dX1_least_83 rfl vv1 rfl rfl rfl ?_
      refine ow_goto (tg := 52) dX1_least_86 rfl ?_
      exact h
set_option maxRecDepth 20000 in
theorem cX1_least_89 {C : ow_C} {A L N : Int} {d : Nat} {M : ow_M} {K : Int → ow_M → Prop} (h : ow_Sp C (EM A L N) d mX1_leastCost (0, 0) [(3, 80)] M (fun r1 N1 => K r1 N1)) : ow_At C (EM A L N) (d + 1) mX1_least 89 [(0, (3, 80))] [] (0, 0) M K := by
  refine ow_aload_n (pc' := 90) (x := 80) dX1_least_89 rfl rfl ?_
  refine ow_callVp (z := mX1_leastCost) (n := 0) (k := 1) (vs := []) (x := 80) (st := []) (pc' := 93) (b1 := (0, 0)) (b2 := (0, 0)) dX1_least_90 lRX1_61 kX1_leastCost iX1_leastCost rfl rfl rfl rfl rfl rfl (of_eq_true eo80) (ow_Sp.mono h (fun r1 N1 h => ?_))
  exact ow_iret dX1_least_93 rfl rfl h
theorem fX1_least {C : ow_C} {A L N : Int} {d : Nat} {M : ow_M} {K : Int → ow_M → Prop} {l2 : Int} (h : ow_Sp C (EM A L N) d mJ7_fill_53178 (0, 0) [(3, M 80 3), (0, 1048576)] M (fun r1 N1 => ow_At C (EM A L N) (d + 1) mX1_least 11 [(0, (3, 80)), (1, (3, 14)), (2, (0, l2)), (3, (0, 0))] [] (0, 0) N1 K)) : ow_Sp C (EM A L N) (d + 1) mX1_least (0, 0) [(3, 80), (3, 14), (0, l2)] M K := ow_enter (by decide +kernel) rfl rfl (cX1_least_0 h)
set_option maxRecDepth 20000 in
theorem cX1_leastCost_0 {C : ow_C} {A L N : Int} {d : Nat} {M : ow_M} {K : Int → ow_M → Prop} (h : ow_At C (EM A L N) (d + 1) mX1_leastCost 5 [(0, (3, 80)), (1, (0, 1048576)), (2, (0, 0))] [] (0, 0) M K) : ow_At C (EM A L N) (d + 1) mX1_leastCost 0 [(0, (3, 80))] [] (0, 0) M K := by
  refine ow_ldc (pc' := 2) (n := 1048576) dX1_leastCost_0 cRX1_38 rfl rfl ?_
  refine ow_istore_n (pc' := 3) (lv' := [(0, (3, 80)), (1, (0, 1048576))]) dX1_leastCost_2 rfl rfl rfl ?_
  refine ow_iconst (pc' := 4) (n := 0) dX1_leastCost_3 rfl rfl ?_
  refine ow_istore_n (pc' := 5) (lv' := [(0, (3, 80)), (1, (0, 1048576)), (2, (0, 0))]) dX1_leastCost_4 rfl rfl rfl ?_
  exact h
set_option maxRecDepth 20000 in
theorem cX1_leastCost_5 {C : ow_C} {A L N : Int} {d : Nat} {M : ow_M} {K : Int → ow_M → Prop} {l1 l2 : Int} (h : (0 ≤ (M 80 3) ∧ (M 80 3) < ow_nb (EM A L N) M ∧ ((EM A L N).2.1 (M 80 3)).1 = 100 ∧ 0 ≤ ((EM A L N).2.1 (M 80 3)).2 ∧ ((EM A L N).2.1 (M 80 3)).2 ≤ 2147483647) ∧ ((((EM A L N).2.1 (M 80 3)).2) ≤ l2 → K l1 M) ∧ (l2 < (((EM A L N).2.1 (M 80 3)).2) → ow_R (EM A L N) M (M 80 3) 100 l2 ∧ ow_I (l2 + 1) ∧ ow_At C (EM A L N) (d + 1) mX1_leastCost 5 [(0, (3, 80)), (1, (0, min l1 (ow_gv (EM A L N) M (M 80 3) l2))), (2, (0, l2 + 1))] [] (0, 0) M K)) : ow_At C (EM A L N) (d + 1) mX1_leastCost 5 [(0, (3, 80)), (1, (0, l1)), (2, (0, l2))] [] (0, 0) M K := by
  refine ow_iload_n (pc' := 6) (x := l2) dX1_leastCost_5 rfl rfl ?_
  refine ow_aload_n (pc' := 7) (x := 80) dX1_leastCost_6 rfl rfl ?_
  refine ow_getf3 (pc' := 10) (t := 3) (ji := 3) (val := M 80 3) dX1_leastCost_7 fRX1_31 rfl rfl rfl (of_eq_true eo80) eg80_3 ?_
  obtain ⟨⟨w, w1, w2, w3, w4⟩, h⟩ := h
  refine ow_alen (pc' := 11) (t := 100) dX1_leastCost_10 rfl rfl w w1 w2 w3 w4 ?_
  refine ow_icmpge (pc' := 14) (tg := 31) dX1_leastCost_11 rfl rfl (fun hc => ?_) (fun hc => ?_)
  · have h := h.1 hc
    refine ow_iload_n (pc' := 32) (x := l1) dX1_leastCost_31 rfl rfl ?_
    exact ow_iret dX1_leastCost_32 rfl rfl h
  · have h := h.2 hc
    refine ow_iload_n (pc' := 15) (x := l1) dX1_leastCost_14 rfl rfl ?_
    refine ow_aload_n (pc' := 16) (x := 80) dX1_leastCost_15 rfl rfl ?_
    refine ow_getf3 (pc' := 19) (t := 3) (ji := 3) (val := M 80 3) dX1_leastCost_16 fRX1_31 rfl rfl rfl (of_eq_true eo80) eg80_3 ?_
    refine ow_iload_n (pc' := 20) (x := l2) dX1_leastCost_19 rfl rfl ?_
    obtain ⟨w, h⟩ := h
    refine ow_iaload (pc' := 21) dX1_leastCost_20 rfl w ?_
    refine ow_mmin (pc' := 24) dX1_leastCost_21 lRX1_65 ow_mN1 ow_mi0 ow_mN2 rfl rfl ?_
    refine ow_istore_n (pc' := 25) (lv' := [(0, (3, 80)), (1, (0, min l1 (ow_gv (EM A L N) M (M 80 3) l2))), (2, (0, l2))]) dX1_leastCost_24 rfl rfl rfl ?_
    obtain ⟨vv1, h⟩ := h
    refine ow_iinc (pc' := 28) (lv' := [(0, (3, 80)), (1, (0, min l1 (ow_gv (EM A L N) M (M 80 3) l2))), (2, (0, l2 + 1))]) dX1_leastCost_25 rfl vv1 rfl rfl rfl ?_
    refine ow_goto (tg := 5) dX1_leastCost_28 rfl ?_
    exact h
theorem fX1_leastCost {C : ow_C} {A L N : Int} {d : Nat} {M : ow_M} {K : Int → ow_M → Prop} (h : ow_At C (EM A L N) (d + 1) mX1_leastCost 5 [(0, (3, 80)), (1, (0, 1048576)), (2, (0, 0))] [] (0, 0) M K) : ow_Sp C (EM A L N) (d + 1) mX1_leastCost (0, 0) [(3, 80)] M K := ow_enter (by decide +kernel) rfl rfl (cX1_leastCost_0 h)
set_option maxRecDepth 20000 in
theorem cX1_keepOnly_0 {C : ow_C} {A L N : Int} {d : Nat} {M : ow_M} {K : Int → ow_M → Prop} {l1 : Int} (h : (l1 ≠ ((-1)) → ow_I (l1 * (L + 1)) ∧ ow_At C (EM A L N) d mX1_keepOnly 15 [(0, (3, 80)), (2, (0, l1 * (L + 1))), (3, (0, 0))] [] (0, 0) M K) ∧ (l1 = ((-1)) → K 0 M)) : ow_At C (EM A L N) d mX1_keepOnly 0 [(0, (3, 80)), (1, (0, l1))] [] (0, 0) M K := by
  refine ow_iload_n (pc' := 1) (x := l1) dX1_keepOnly_0 rfl rfl ?_
  refine ow_iconst (pc' := 2) (n := (-1)) dX1_keepOnly_1 rfl rfl ?_
  refine ow_icmpne (pc' := 5) (tg := 6) dX1_keepOnly_2 rfl rfl (fun hc => ?_) (fun hc => ?_)
  · have h := h.1 hc
    refine ow_iload_n (pc' := 7) (x := l1) dX1_keepOnly_6 rfl rfl ?_
    refine ow_aload_n (pc' := 8) (x := 80) dX1_keepOnly_7 rfl rfl ?_
    refine ow_getf3 (pc' := 11) (t := 0) (ji := 2) (val := (L + 1)) dX1_keepOnly_8 fRX1_25 rfl rfl rfl (of_eq_true eo80) eg80_2 ?_
    obtain ⟨vv1, h⟩ := h
    refine ow_imul (pc' := 12) dX1_keepOnly_11 vv1 rfl ?_
    refine ow_istore_n (pc' := 13) (lv' := [(0, (3, 80)), (1, (0, l1)), (2, (0, l1 * (L + 1)))]) dX1_keepOnly_12 rfl rfl rfl ?_
    refine ow_iconst (pc' := 14) (n := 0) dX1_keepOnly_13 rfl rfl ?_
    refine ow_istore_n (pc' := 15) (lv' := [(0, (3, 80)), (1, (0, l1)), (2, (0, l1 * (L + 1))), (3, (0, 0))]) dX1_keepOnly_14 rfl rfl rfl ?_
    refine ow_sub (lv' := [(0, (3, 80)), (2, (0, l1 * (L + 1))), (3, (0, 0))]) [0, 2, 3] rfl ?_
    exact h
  · have h := h.2 hc
    exact ow_vret dX1_keepOnly_5 rfl rfl h
set_option maxRecDepth 20000 in
theorem cX1_keepOnly_15 {C : ow_C} {A L N : Int} {d : Nat} {M : ow_M} {K : Int → ow_M → Prop} {l2 l3 : Int} (h : (0 ≤ (M 80 3) ∧ (M 80 3) < ow_nb (EM A L N) M ∧ ((EM A L N).2.1 (M 80 3)).1 = 100 ∧ 0 ≤ ((EM A L N).2.1 (M 80 3)).2 ∧ ((EM A L N).2.1 (M 80 3)).2 ≤ 2147483647) ∧ ((((EM A L N).2.1 (M 80 3)).2) ≤ l3 → K 0 M) ∧ (l3 < (((EM A L N).2.1 (M 80 3)).2) → (l3 < l2 → ow_At C (EM A L N) d mX1_keepOnly 39 [(0, (3, 80)), (2, (0, l2)), (3, (0, l3))] [] (0, 0) M K) ∧ (l2 ≤ l3 → ow_I (l2 + (L + 1)) ∧ (l3 < (l2 + (L + 1)) → ow_I (l3 + 1) ∧ ow_At C (EM A L N) d mX1_keepOnly 15 [(0, (3, 80)), (2, (0, l2)), (3, (0, l3 + 1))] [] (0, 0) M K) ∧ ((l2 + (L + 1)) ≤ l3 → ow_At C (EM A L N) d mX1_keepOnly 39 [(0, (3, 80)), (2, (0, l2)), (3, (0, l3))] [] (0, 0) M K)))) : ow_At C (EM A L N) d mX1_keepOnly 15 [(0, (3, 80)), (2, (0, l2)), (3, (0, l3))] [] (0, 0) M K := by
  refine ow_iload_n (pc' := 16) (x := l3) dX1_keepOnly_15 rfl rfl ?_
  refine ow_aload_n (pc' := 17) (x := 80) dX1_keepOnly_16 rfl rfl ?_
  refine ow_getf3 (pc' := 20) (t := 3) (ji := 3) (val := M 80 3) dX1_keepOnly_17 fRX1_31 rfl rfl rfl (of_eq_true eo80) eg80_3 ?_
  obtain ⟨⟨w, w1, w2, w3, w4⟩, h⟩ := h
  refine ow_alen (pc' := 21) (t := 100) dX1_keepOnly_20 rfl rfl w w1 w2 w3 w4 ?_
  refine ow_icmpge (pc' := 24) (tg := 53) dX1_keepOnly_21 rfl rfl (fun hc => ?_) (fun hc => ?_)
  · have h := h.1 hc
    exact ow_vret dX1_keepOnly_53 rfl rfl h
  · have h := h.2 hc
    refine ow_iload_n (pc' := 25) (x := l3) dX1_keepOnly_24 rfl rfl ?_
    refine ow_iload_n (pc' := 26) (x := l2) dX1_keepOnly_25 rfl rfl ?_
    refine ow_icmplt (pc' := 29) (tg := 39) dX1_keepOnly_26 rfl rfl (fun hc => ?_) (fun hc => ?_)
    · have h := h.1 hc
      exact h
    · have h := h.2 hc
      refine ow_iload_n (pc' := 30) (x := l3) dX1_keepOnly_29 rfl rfl ?_
      refine ow_iload_n (pc' := 31) (x := l2) dX1_keepOnly_30 rfl rfl ?_
      refine ow_aload_n (pc' := 32) (x := 80) dX1_keepOnly_31 rfl rfl ?_
      refine ow_getf3 (pc' := 35) (t := 0) (ji := 2) (val := (L + 1)) dX1_keepOnly_32 fRX1_25 rfl rfl rfl (of_eq_true eo80) eg80_2 ?_
      obtain ⟨vv1, h⟩ := h
      refine ow_iadd (pc' := 36) dX1_keepOnly_35 vv1 rfl ?_
      refine ow_icmplt (pc' := 39) (tg := 47) dX1_keepOnly_36 rfl rfl (fun hc => ?_) (fun hc => ?_)
      · have h := h.1 hc
        obtain ⟨vv2, h⟩ := h
        refine ow_iinc (pc' := 50) (lv' := [(0, (3, 80)), (2, (0, l2)), (3, (0, l3 + 1))]) dX1_keepOnly_47 rfl vv2 rfl rfl rfl ?_
        refine ow_goto (tg := 15) dX1_keepOnly_50 rfl ?_
        exact h
      · have h := h.2 hc
        exact h
set_option maxRecDepth 20000 in
theorem cX1_keepOnly_39 {C : ow_C} {A L N : Int} {d : Nat} {M : ow_M} {K : Int → ow_M → Prop} {l2 l3 : Int} (h : ow_R (EM A L N) M (M 80 3) 100 l3 ∧ (EM A L N).1 (M 80 3) l3 = none ∧ ∀ N1, N1 = ow_up M (M 80 3) l3 1048576 → ow_I (l3 + 1) ∧ ow_At C (EM A L N) d mX1_keepOnly 15 [(0, (3, 80)), (2, (0, l2)), (3, (0, l3 + 1))] [] (0, 0) N1 K) : ow_At C (EM A L N) d mX1_keepOnly 39 [(0, (3, 80)), (2, (0, l2)), (3, (0, l3))] [] (0, 0) M K := by
  refine ow_aload_n (pc' := 40) (x := 80) dX1_keepOnly_39 rfl rfl ?_
  refine ow_getf3 (pc' := 43) (t := 3) (ji := 3) (val := M 80 3) dX1_keepOnly_40 fRX1_31 rfl rfl rfl (of_eq_true eo80) eg80_3 ?_
  refine ow_iload_n (pc' := 44) (x := l3) dX1_keepOnly_43 rfl rfl ?_
  refine ow_ldc (pc' := 46) (n := 1048576) dX1_keepOnly_44 cRX1_38 rfl rfl ?_
  obtain ⟨w, w1, h⟩ := h
  refine ow_iastore2 (pc' := 47) dX1_keepOnly_46 rfl w w1 (fun N1 eN1 => ?_)
  have h := h N1 eN1
  obtain ⟨vv1, h⟩ := h
  refine ow_iinc (pc' := 50) (lv' := [(0, (3, 80)), (2, (0, l2)), (3, (0, l3 + 1))]) dX1_keepOnly_47 rfl vv1 rfl rfl rfl ?_
  refine ow_goto (tg := 15) dX1_keepOnly_50 rfl ?_
  exact h
theorem fX1_keepOnly {C : ow_C} {A L N : Int} {d : Nat} {M : ow_M} {K : Int → ow_M → Prop} {l1 : Int} (h : (l1 ≠ ((-1)) → ow_I (l1 * (L + 1)) ∧ ow_At C (EM A L N) d mX1_keepOnly 15 [(0, (3, 80)), (2, (0, l1 * (L + 1))), (3, (0, 0))] [] (0, 0) M K) ∧ (l1 = ((-1)) → K 0 M)) : ow_Sp C (EM A L N) d mX1_keepOnly (0, 0) [(3, 80), (0, l1)] M K := ow_enter (by decide +kernel) rfl rfl (cX1_keepOnly_0 h)
set_option maxRecDepth 20000 in
theorem cX1_passHand_0 {C : ow_C} {A L N : Int} {d : Nat} {M : ow_M} {K : Int → ow_M → Prop} {l1 : Int} (h : ow_Sp C (EM A L N) d mX1_leastCost (0, 0) [(3, 80)] M (fun r1 N1 => ow_I (r1 + 256) ∧ ow_I ((r1 + 256) + (ow_shl 1 l1)) ∧ ∀ N2, N2 = ow_up N1 80 3 (N1 80 4) → ∀ N3, N3 = ow_up N2 80 4 (N1 80 3) → ow_Sp C (EM A L N) d mJ7_fill_53178 (0, 0) [(3, N3 80 3), (0, 1048576)] N3 (fun r4 N4 => ow_At C (EM A L N) (d + 1) mX1_passHand 43 [(0, (3, 80)), (1, (0, l1)), (2, (0, (r1 + 256) + (ow_shl 1 l1))), (4, (0, 0))] [] (0, 0) N4 K))) : ow_At C (EM A L N) (d + 1) mX1_passHand 0 [(0, (3, 80)), (1, (0, l1))] [] (0, 0) M K := by
  refine ow_aload_n (pc' := 1) (x := 80) dX1_passHand_0 rfl rfl ?_
  refine ow_callVp (z := mX1_leastCost) (n := 0) (k := 1) (vs := []) (x := 80) (st := []) (pc' := 4) (b1 := (0, 0)) (b2 := (0, 0)) dX1_passHand_1 lRX1_61 kX1_leastCost iX1_leastCost rfl rfl rfl rfl rfl rfl (of_eq_true eo80) (ow_Sp.mono h (fun r1 N1 h => ?_))
  refine ow_sipush (pc' := 7) (n := 256) dX1_passHand_4 rfl rfl ?_
  obtain ⟨vv1, h⟩ := h
  refine ow_iadd (pc' := 8) dX1_passHand_7 vv1 rfl ?_
  refine ow_iconst (pc' := 9) (n := 1) dX1_passHand_8 rfl rfl ?_
  refine ow_iload_n (pc' := 10) (x := l1) dX1_passHand_9 rfl rfl ?_
  refine ow_ishl (pc' := 11) dX1_passHand_10 rfl ?_
  obtain ⟨vv2, h⟩ := h
  refine ow_iadd (pc' := 12) dX1_passHand_11 vv2 rfl ?_
  refine ow_istore_n (pc' := 13) (lv' := [(0, (3, 80)), (1, (0, l1)), (2, (0, (r1 + 256) + (ow_shl 1 l1)))]) dX1_passHand_12 rfl rfl rfl ?_
  refine ow_aload_n (pc' := 14) (x := 80) dX1_passHand_13 rfl rfl ?_
  refine ow_getf3 (pc' := 17) (t := 3) (ji := 3) (val := N1 80 3) dX1_passHand_14 fRX1_31 rfl rfl rfl (of_eq_true eo80) eg80_3 ?_
  refine ow_astore_n (pc' := 18) (lv' := [(0, (3, 80)), (1, (0, l1)), (2, (0, (r1 + 256) + (ow_shl 1 l1))), (3, (3, N1 80 3))]) dX1_passHand_17 rfl rfl rfl ?_
  refine ow_aload_n (pc' := 19) (x := 80) dX1_passHand_18 rfl rfl ?_
  refine ow_aload_n (pc' := 20) (x := 80) dX1_passHand_19 rfl rfl ?_
  refine ow_getf3 (pc' := 23) (t := 3) (ji := 4) (val := N1 80 4) dX1_passHand_20 fRX1_35 rfl rfl rfl (of_eq_true eo80) eg80_4 ?_
  refine ow_putf2 (pc' := 26) (t := 3) (ji := 3) dX1_passHand_23 fRX1_31 rfl rfl rfl rfl (of_eq_true eo80) (of_eq_true en80_3) (fun hz => absurd hz (by decide)) (fun N2 eN2 => ?_)
  have h := h N2 eN2
  refine ow_aload_n (pc' := 27) (x := 80) dX1_passHand_26 rfl rfl ?_
  refine ow_aload_n (pc' := 28) (x := N1 80 3) dX1_passHand_27 rfl rfl ?_
  refine ow_putf2 (pc' := 31) (t := 3) (ji := 4) dX1_passHand_28 fRX1_35 rfl rfl rfl rfl (of_eq_true eo80) (of_eq_true en80_4) (fun hz => absurd hz (by decide)) (fun N3 eN3 => ?_)
  have h := h N3 eN3
  refine ow_aload_n (pc' := 32) (x := 80) dX1_passHand_31 rfl rfl ?_
  refine ow_getf3 (pc' := 35) (t := 3) (ji := 3) (val := N3 80 3) dX1_passHand_32 fRX1_31 rfl rfl rfl (of_eq_true eo80) eg80_3 ?_
  refine ow_ldc (pc' := 37) (n := 1048576) dX1_passHand_35 cRX1_38 rfl rfl ?_
  refine ow_callSv (z := mJ7_fill_53178) (n := 2) (vs := [(3, N3 80 3), (0, 1048576)]) (st := []) (pc' := 40) (b1 := (0, 0)) (b2 := (0, 0)) dX1_passHand_37 lRX1_39 kJ7_fill_53178 zJ7_fill_53178 rfl rfl rfl rfl rfl rfl (ow_Sp.mono h (fun r4 N4 h => ?_))
  refine ow_iconst (pc' := 41) (n := 0) dX1_passHand_40 rfl rfl ?_
  refine ow_istore (pc' := 43) (lv' := [(0, (3, 80)), (1, (0, l1)), (2, (0, (r1 + 256) + (ow_shl 1 l1))), (3, (3, N1 80 3)), (4, (0, 0))]) dX1_passHand_41 rfl rfl rfl ?_
  refine ow_sub (lv' := [(0, (3, 80)), (1, (0, l1)), (2, (0, (r1 + 256) + (ow_shl 1 l1))), (4, (0, 0))]) [0, 1, 2, 4] rfl ?_
  exact h
set_option maxRecDepth 20000 in
theorem cX1_passHand_43 {C : ow_C} {A L N : Int} {d : Nat} {M : ow_M} {K : Int → ow_M → Prop} {l1 l2 l4 : Int} (h : (N ≤ l4 → ow_At C (EM A L N) (d + 1) mX1_passHand 77 [(0, (3, 80)), (1, (0, l1)), (4, (0, 0))] [] (0, 0) M K) ∧ (l4 < N → ow_I (l4 * (L + 1)) ∧ ow_R (EM A L N) M (M 80 3) 100 (l4 * (L + 1)) ∧ (EM A L N).1 (M 80 3) (l4 * (L + 1)) = none ∧ ∀ N1, N1 = ow_up M (M 80 3) (l4 * (L + 1)) l2 → ow_I (l4 + 1) ∧ ow_At C (EM A L N) (d + 1) mX1_passHand 43 [(0, (3, 80)), (1, (0, l1)), (2, (0, l2)), (4, (0, l4 + 1))] [] (0, 0) N1 K)) : ow_At C (EM A L N) (d + 1) mX1_passHand 43 [(0, (3, 80)), (1, (0, l1)), (2, (0, l2)), (4, (0, l4))] [] (0, 0) M K := by
  refine ow_iload (pc' := 45) (x := l4) dX1_passHand_43 rfl rfl ?_
  refine ow_aload_n (pc' := 46) (x := 80) dX1_passHand_45 rfl rfl ?_
  refine ow_getf3 (pc' := 49) (t := 3) (ji := 0) (val := 3) dX1_passHand_46 fRX1_9 rfl rfl rfl (of_eq_true eo80) eg80_0 ?_
  refine ow_getf3 (pc' := 52) (t := 0) (ji := 2) (val := N) dX1_passHand_49 fRX1_28 rfl rfl rfl (of_eq_true eo3) eg3_2 ?_
  refine ow_icmpge (pc' := 55) (tg := 74) dX1_passHand_52 rfl rfl (fun hc => ?_) (fun hc => ?_)
  · have h := h.1 hc
    refine ow_iconst (pc' := 75) (n := 0) dX1_passHand_74 rfl rfl ?_
    refine ow_istore (pc' := 77) (lv' := [(0, (3, 80)), (1, (0, l1)), (2, (0, l2)), (4, (0, 0))]) dX1_passHand_75 rfl rfl rfl ?_
    refine ow_sub (lv' := [(0, (3, 80)), (1, (0, l1)), (4, (0, 0))]) [0, 1, 3] rfl ?_
    exact h
  · have h := h.2 hc
    refine ow_aload_n (pc' := 56) (x := 80) dX1_passHand_55 rfl rfl ?_
    refine ow_getf3 (pc' := 59) (t := 3) (ji := 3) (val := M 80 3) dX1_passHand_56 fRX1_31 rfl rfl rfl (of_eq_true eo80) eg80_3 ?_
    refine ow_iload (pc' := 61) (x := l4) dX1_passHand_59 rfl rfl ?_
    refine ow_aload_n (pc' := 62) (x := 80) dX1_passHand_61 rfl rfl ?_
    refine ow_getf3 (pc' := 65) (t := 0) (ji := 2) (val := (L + 1)) dX1_passHand_62 fRX1_25 rfl rfl rfl (of_eq_true eo80) eg80_2 ?_
    obtain ⟨vv1, h⟩ := h
    refine ow_imul (pc' := 66) dX1_passHand_65 vv1 rfl ?_
    refine ow_iload_n (pc' := 67) (x := l2) dX1_passHand_66 rfl rfl ?_
    obtain ⟨w, w1, h⟩ := h
    refine ow_iastore2 (pc' := 68) dX1_passHand_67 rfl w w1 (fun N1 eN1 => ?_)
    have h := h N1 eN1
    obtain ⟨vv2, h⟩ := h
    refine ow_iinc (pc' := 71) (lv' := [(0, (3, 80)), (1, (0, l1)), (2, (0, l2)), (4, (0, l4 + 1))]) dX1_passHand_68 rfl vv2 rfl rfl rfl ?_
    refine ow_goto (tg := 43) dX1_passHand_71 rfl ?_
    exact h
set_option maxRecDepth 20000 in
theorem cX1_passHand_77 {C : ow_C} {A L N : Int} {d : Nat} {M : ow_M} {K : Int → ow_M → Prop} {l1 l4 : Int} (h : (N ≤ l4 → K 0 M) ∧ (l4 < N → ow_Sp C (EM A L N) d mX1_passWord (0, 0) [(3, 80), (0, l1), (0, l4)] M (fun r1 N1 => ow_I (l4 + 1) ∧ ow_At C (EM A L N) (d + 1) mX1_passHand 77 [(0, (3, 80)), (1, (0, l1)), (4, (0, l4 + 1))] [] (0, 0) N1 K))) : ow_At C (EM A L N) (d + 1) mX1_passHand 77 [(0, (3, 80)), (1, (0, l1)), (4, (0, l4))] [] (0, 0) M K := by
  refine ow_iload (pc' := 79) (x := l4) dX1_passHand_77 rfl rfl ?_
  refine ow_aload_n (pc' := 80) (x := 80) dX1_passHand_79 rfl rfl ?_
  refine ow_getf3 (pc' := 83) (t := 3) (ji := 0) (val := 3) dX1_passHand_80 fRX1_9 rfl rfl rfl (of_eq_true eo80) eg80_0 ?_
  refine ow_getf3 (pc' := 86) (t := 0) (ji := 2) (val := N) dX1_passHand_83 fRX1_28 rfl rfl rfl (of_eq_true eo3) eg3_2 ?_
  refine ow_icmpge (pc' := 89) (tg := 102) dX1_passHand_86 rfl rfl (fun hc => ?_) (fun hc => ?_)
  · have h := h.1 hc
    exact ow_vret dX1_passHand_102 rfl rfl h
  · have h := h.2 hc
    refine ow_aload_n (pc' := 90) (x := 80) dX1_passHand_89 rfl rfl ?_
    refine ow_iload_n (pc' := 91) (x := l1) dX1_passHand_90 rfl rfl ?_
    refine ow_iload (pc' := 93) (x := l4) dX1_passHand_91 rfl rfl ?_
    refine ow_callVv (z := mX1_passWord) (n := 2) (k := 1) (vs := [(0, l1), (0, l4)]) (x := 80) (st := []) (pc' := 96) (b1 := (0, 0)) (b2 := (0, 0)) dX1_passHand_93 lRX1_70 kX1_passWord iX1_passWord rfl rfl rfl rfl rfl rfl (of_eq_true eo80) (ow_Sp.mono h (fun r1 N1 h => ?_))
    obtain ⟨vv1, h⟩ := h
    refine ow_iinc (pc' := 99) (lv' := [(0, (3, 80)), (1, (0, l1)), (4, (0, l4 + 1))]) dX1_passHand_96 rfl vv1 rfl rfl rfl ?_
    refine ow_goto (tg := 77) dX1_passHand_99 rfl ?_
    exact h
theorem fX1_passHand {C : ow_C} {A L N : Int} {d : Nat} {M : ow_M} {K : Int → ow_M → Prop} {l1 : Int} (h : ow_Sp C (EM A L N) d mX1_leastCost (0, 0) [(3, 80)] M (fun r1 N1 => ow_I (r1 + 256) ∧ ow_I ((r1 + 256) + (ow_shl 1 l1)) ∧ ∀ N2, N2 = ow_up N1 80 3 (N1 80 4) → ∀ N3, N3 = ow_up N2 80 4 (N1 80 3) → ow_Sp C (EM A L N) d mJ7_fill_53178 (0, 0) [(3, N3 80 3), (0, 1048576)] N3 (fun r4 N4 => ow_At C (EM A L N) (d + 1) mX1_passHand 43 [(0, (3, 80)), (1, (0, l1)), (2, (0, (r1 + 256) + (ow_shl 1 l1))), (4, (0, 0))] [] (0, 0) N4 K))) : ow_Sp C (EM A L N) (d + 1) mX1_passHand (0, 0) [(3, 80), (0, l1)] M K := ow_enter (by decide +kernel) rfl rfl (cX1_passHand_0 h)
set_option maxRecDepth 20000 in
theorem cX1_passWord_0 {C : ow_C} {A L N : Int} {d : Nat} {M : ow_M} {K : Int → ow_M → Prop} {l1 l2 : Int} (h : ow_Sp C (EM A L N) d mX1_bestBehind (0, 0) [(3, 80), (0, l2)] M (fun r1 N1 => ow_I (l2 * (L + 1)) ∧ ow_I ((l2 * (L + 1)) + r1) ∧ ow_R (EM A L N) N1 (N1 80 4) 100 ((l2 * (L + 1)) + r1) ∧ ((ow_gv (EM A L N) N1 (N1 80 4) ((l2 * (L + 1)) + r1)) < 1048576 → ow_At C (EM A L N) (d + 1) mX1_passWord 32 [(0, (3, 80)), (1, (0, l1)), (2, (0, l2)), (3, (0, r1)), (4, (0, ow_gv (EM A L N) N1 (N1 80 4) ((l2 * (L + 1)) + r1))), (5, (0, 0))] [] (0, 0) N1 K) ∧ (1048576 ≤ (ow_gv (EM A L N) N1 (N1 80 4) ((l2 * (L + 1)) + r1)) → K 0 N1))) : ow_At C (EM A L N) (d + 1) mX1_passWord 0 [(0, (3, 80)), (1, (0, l1)), (2, (0, l2))] [] (0, 0) M K := by
  refine ow_aload_n (pc' := 1) (x := 80) dX1_passWord_0 rfl rfl ?_
  refine ow_iload_n (pc' := 2) (x := l2) dX1_passWord_1 rfl rfl ?_
  refine ow_callVp (z := mX1_bestBehind) (n := 1) (k := 1) (vs := [(0, l2)]) (x := 80) (st := []) (pc' := 5) (b1 := (0, 0)) (b2 := (0, 0)) dX1_passWord_2 lRX1_74 kX1_bestBehind iX1_bestBehind rfl rfl rfl rfl rfl rfl (of_eq_true eo80) (ow_Sp.mono h (fun r1 N1 h => ?_))
  refine ow_istore_n (pc' := 6) (lv' := [(0, (3, 80)), (1, (0, l1)), (2, (0, l2)), (3, (0, r1))]) dX1_passWord_5 rfl rfl rfl ?_
  refine ow_aload_n (pc' := 7) (x := 80) dX1_passWord_6 rfl rfl ?_
  refine ow_getf3 (pc' := 10) (t := 3) (ji := 4) (val := N1 80 4) dX1_passWord_7 fRX1_35 rfl rfl rfl (of_eq_true eo80) eg80_4 ?_
  refine ow_iload_n (pc' := 11) (x := l2) dX1_passWord_10 rfl rfl ?_
  refine ow_aload_n (pc' := 12) (x := 80) dX1_passWord_11 rfl rfl ?_
  refine ow_getf3 (pc' := 15) (t := 0) (ji := 2) (val := (L + 1)) dX1_passWord_12 fRX1_25 rfl rfl rfl (of_eq_true eo80) eg80_2 ?_
  obtain ⟨vv1, h⟩ := h
  refine ow_imul (pc' := 16) dX1_passWord_15 vv1 rfl ?_
  refine ow_iload_n (pc' := 17) (x := r1) dX1_passWord_16 rfl rfl ?_
  obtain ⟨vv2, h⟩ := h
  refine ow_iadd (pc' := 18) dX1_passWord_17 vv2 rfl ?_
  obtain ⟨w, h⟩ := h
  refine ow_iaload (pc' := 19) dX1_passWord_18 rfl w ?_
  refine ow_istore (pc' := 21) (lv' := [(0, (3, 80)), (1, (0, l1)), (2, (0, l2)), (3, (0, r1)), (4, (0, ow_gv (EM A L N) N1 (N1 80 4) ((l2 * (L + 1)) + r1)))]) dX1_passWord_19 rfl rfl rfl ?_
  refine ow_iload (pc' := 23) (x := ow_gv (EM A L N) N1 (N1 80 4) ((l2 * (L + 1)) + r1)) dX1_passWord_21 rfl rfl ?_
  refine ow_ldc (pc' := 25) (n := 1048576) dX1_passWord_23 cRX1_38 rfl rfl ?_
  refine ow_icmplt (pc' := 28) (tg := 29) dX1_passWord_25 rfl rfl (fun hc => ?_) (fun hc => ?_)
  · have h := h.1 hc
    refine ow_iconst (pc' := 30) (n := 0) dX1_passWord_29 rfl rfl ?_
    refine ow_istore (pc' := 32) (lv' := [(0, (3, 80)), (1, (0, l1)), (2, (0, l2)), (3, (0, r1)), (4, (0, ow_gv (EM A L N) N1 (N1 80 4) ((l2 * (L + 1)) + r1))), (5, (0, 0))]) dX1_passWord_30 rfl rfl rfl ?_
    exact h
  · have h := h.2 hc
    exact ow_vret dX1_passWord_28 rfl rfl h
set_option maxRecDepth 20000 in
theorem cX1_passWord_32 {C : ow_C} {A L N : Int} {d : Nat} {M : ow_M} {K : Int → ow_M → Prop} {l1 l2 l3 l4 l5 : Int} (h : (L ≤ l5 → K 0 M) ∧ (l5 < L → ow_Sp C (EM A L N) d mX10_letter (0, 0) [(3, 3), (0, l2), (0, l5)] M (fun r1 N1 => ow_Sp C (EM A L N) d mX9_changesOf (0, 0) [(3, 58), (0, l1), (0, l5), (0, r1)] N1 (fun r2 N2 => ow_Sp C (EM A L N) d mX10_cleared (0, 0) [(3, 3), (0, l2), (0, l5)] N2 (fun r3 N3 => ow_I (r3 * (L + 1)) ∧ ow_I ((r3 * (L + 1)) + l5) ∧ ow_I (((r3 * (L + 1)) + l5) + 1) ∧ ow_At C (EM A L N) (d + 1) mX1_passWord 95 [(0, (3, 80)), (1, (0, l1)), (2, (0, l2)), (3, (0, l3)), (4, (0, l4)), (5, (0, l5)), (6, (0, r1)), (7, (0, r2)), (8, (0, ((r3 * (L + 1)) + l5) + 1)), (9, (0, 0))] [] (0, 0) N3 K))))) : ow_At C (EM A L N) (d + 1) mX1_passWord 32 [(0, (3, 80)), (1, (0, l1)), (2, (0, l2)), (3, (0, l3)), (4, (0, l4)), (5, (0, l5))] [] (0, 0) M K := by
  refine ow_iload (pc' := 34) (x := l5) dX1_passWord_32 rfl rfl ?_
  refine ow_aload_n (pc' := 35) (x := 80) dX1_passWord_34 rfl rfl ?_
  refine ow_getf3 (pc' := 38) (t := 3) (ji := 0) (val := 3) dX1_passWord_35 fRX1_9 rfl rfl rfl (of_eq_true eo80) eg80_0 ?_
  refine ow_getf3 (pc' := 41) (t := 0) (ji := 1) (val := L) dX1_passWord_38 fRX1_19 rfl rfl rfl (of_eq_true eo3) eg3_1 ?_
  refine ow_icmpge (pc' := 44) (tg := 203) dX1_passWord_41 rfl rfl (fun hc => ?_) (fun hc => ?_)
  · have h := h.1 hc
    exact ow_vret dX1_passWord_203 rfl rfl h
  · have h := h.2 hc
    refine ow_aload_n (pc' := 45) (x := 80) dX1_passWord_44 rfl rfl ?_
    refine ow_getf3 (pc' := 48) (t := 3) (ji := 0) (val := 3) dX1_passWord_45 fRX1_9 rfl rfl rfl (of_eq_true eo80) eg80_0 ?_
    refine ow_iload_n (pc' := 49) (x := l2) dX1_passWord_48 rfl rfl ?_
    refine ow_iload (pc' := 51) (x := l5) dX1_passWord_49 rfl rfl ?_
    refine ow_callVp (z := mX10_letter) (n := 2) (k := 10) (vs := [(0, l2), (0, l5)]) (x := 3) (st := []) (pc' := 54) (b1 := (0, 0)) (b2 := (0, 0)) dX1_passWord_51 lRX1_78 kX10_letter iX10_letter rfl rfl rfl rfl rfl rfl (of_eq_true eo3) (ow_Sp.mono h (fun r1 N1 h => ?_))
    refine ow_istore (pc' := 56) (lv' := [(0, (3, 80)), (1, (0, l1)), (2, (0, l2)), (3, (0, l3)), (4, (0, l4)), (5, (0, l5)), (6, (0, r1))]) dX1_passWord_54 rfl rfl rfl ?_
    refine ow_aload_n (pc' := 57) (x := 80) dX1_passWord_56 rfl rfl ?_
    refine ow_getf3 (pc' := 60) (t := 3) (ji := 1) (val := 58) dX1_passWord_57 fRX1_15 rfl rfl rfl (of_eq_true eo80) eg80_1 ?_
    refine ow_iload_n (pc' := 61) (x := l1) dX1_passWord_60 rfl rfl ?_
    refine ow_iload (pc' := 63) (x := l5) dX1_passWord_61 rfl rfl ?_
    refine ow_iload (pc' := 65) (x := r1) dX1_passWord_63 rfl rfl ?_
    refine ow_callVp (z := mX9_changesOf) (n := 3) (k := 9) (vs := [(0, l1), (0, l5), (0, r1)]) (x := 58) (st := []) (pc' := 68) (b1 := (0, 0)) (b2 := (0, 0)) dX1_passWord_65 lRX1_81 kX9_changesOf iX9_changesOf rfl rfl rfl rfl rfl rfl (of_eq_true eo58) (ow_Sp.mono h (fun r2 N2 h => ?_))
    refine ow_istore (pc' := 70) (lv' := [(0, (3, 80)), (1, (0, l1)), (2, (0, l2)), (3, (0, l3)), (4, (0, l4)), (5, (0, l5)), (6, (0, r1)), (7, (0, r2))]) dX1_passWord_68 rfl rfl rfl ?_
    refine ow_aload_n (pc' := 71) (x := 80) dX1_passWord_70 rfl rfl ?_
    refine ow_getf3 (pc' := 74) (t := 3) (ji := 0) (val := 3) dX1_passWord_71 fRX1_9 rfl rfl rfl (of_eq_true eo80) eg80_0 ?_
    refine ow_iload_n (pc' := 75) (x := l2) dX1_passWord_74 rfl rfl ?_
    refine ow_iload (pc' := 77) (x := l5) dX1_passWord_75 rfl rfl ?_
    refine ow_callVp (z := mX10_cleared) (n := 2) (k := 10) (vs := [(0, l2), (0, l5)]) (x := 3) (st := []) (pc' := 80) (b1 := (0, 0)) (b2 := (0, 0)) dX1_passWord_77 lRX1_87 kX10_cleared iX10_cleared rfl rfl rfl rfl rfl rfl (of_eq_true eo3) (ow_Sp.mono h (fun r3 N3 h => ?_))
    refine ow_aload_n (pc' := 81) (x := 80) dX1_passWord_80 rfl rfl ?_
    refine ow_getf3 (pc' := 84) (t := 0) (ji := 2) (val := (L + 1)) dX1_passWord_81 fRX1_25 rfl rfl rfl (of_eq_true eo80) eg80_2 ?_
    obtain ⟨vv1, h⟩ := h
    refine ow_imul (pc' := 85) dX1_passWord_84 vv1 rfl ?_
    refine ow_iload (pc' := 87) (x := l5) dX1_passWord_85 rfl rfl ?_
    obtain ⟨vv2, h⟩ := h
    refine ow_iadd (pc' := 88) dX1_passWord_87 vv2 rfl ?_
    refine ow_iconst (pc' := 89) (n := 1) dX1_passWord_88 rfl rfl ?_
    obtain ⟨vv3, h⟩ := h
    refine ow_iadd (pc' := 90) dX1_passWord_89 vv3 rfl ?_
    refine ow_istore (pc' := 92) (lv' := [(0, (3, 80)), (1, (0, l1)), (2, (0, l2)), (3, (0, l3)), (4, (0, l4)), (5, (0, l5)), (6, (0, r1)), (7, (0, r2)), (8, (0, ((r3 * (L + 1)) + l5) + 1))]) dX1_passWord_90 rfl rfl rfl ?_
    refine ow_iconst (pc' := 93) (n := 0) dX1_passWord_92 rfl rfl ?_
    refine ow_istore (pc' := 95) (lv' := [(0, (3, 80)), (1, (0, l1)), (2, (0, l2)), (3, (0, l3)), (4, (0, l4)), (5, (0, l5)), (6, (0, r1)), (7, (0, r2)), (8, (0, ((r3 * (L + 1)) + l5) + 1)), (9, (0, 0))]) dX1_passWord_93 rfl rfl rfl ?_
    exact h
set_option maxRecDepth 20000 in
theorem cX1_passWord_95 {C : ow_C} {A L N : Int} {d : Nat} {M : ow_M} {K : Int → ow_M → Prop} {l1 l2 l3 l4 l5 l6 l7 l8 l9 : Int} (h : (A ≤ l9 → ow_I (l5 + 1) ∧ ow_At C (EM A L N) (d + 1) mX1_passWord 32 [(0, (3, 80)), (1, (0, l1)), (2, (0, l2)), (3, (0, l3)), (4, (0, l4)), (5, (0, l5 + 1))] [] (0, 0) M K) ∧ (l9 < A → (l9 = l6 → ow_At C (EM A L N) (d + 1) mX1_passWord 171 [(0, (3, 80)), (1, (0, l1)), (2, (0, l2)), (3, (0, l3)), (4, (0, l4)), (5, (0, l5)), (6, (0, l6)), (7, (0, l7)), (8, (0, l8)), (9, (0, l9))] [] (0, 0) M K) ∧ (l9 ≠ l6 → ow_I (l7 + l9) ∧ (0 ≤ (l7 + l9) ∧ (l7 + l9) < (8 * L * A * A)) ∧ ((ow_and (ow_shr (M 62 (l7 + l9)) l3) 1) = 0 → ow_Sp C (EM A L N) d mX1_leastBehind (0, 0) [(3, 80), (0, l2), (0, M 62 (l7 + l9))] M (fun r1 N1 => ow_At C (EM A L N) (d + 1) mX1_passWord 150 [(0, (3, 80)), (1, (0, l1)), (2, (0, l2)), (3, (0, l3)), (4, (0, l4)), (5, (0, l5)), (6, (0, l6)), (7, (0, l7)), (8, (0, l8)), (9, (0, l9))] [(0, r1)] (0, 0) N1 K)) ∧ ((ow_and (ow_shr (M 62 (l7 + l9)) l3) 1) ≠ 0 → ow_At C (EM A L N) (d + 1) mX1_passWord 150 [(0, (3, 80)), (1, (0, l1)), (2, (0, l2)), (3, (0, l3)), (4, (0, l4)), (5, (0, l5)), (6, (0, l6)), (7, (0, l7)), (8, (0, l8)), (9, (0, l9))] [(0, l4)] (0, 0) M K)))) : ow_At C (EM A L N) (d + 1) mX1_passWord 95 [(0, (3, 80)), (1, (0, l1)), (2, (0, l2)), (3, (0, l3)), (4, (0, l4)), (5, (0, l5)), (6, (0, l6)), (7, (0, l7)), (8, (0, l8)), (9, (0, l9))] [] (0, 0) M K := by
  refine ow_iload (pc' := 97) (x := l9) dX1_passWord_95 rfl rfl ?_
  refine ow_aload_n (pc' := 98) (x := 80) dX1_passWord_97 rfl rfl ?_
  refine ow_getf3 (pc' := 101) (t := 3) (ji := 0) (val := 3) dX1_passWord_98 fRX1_9 rfl rfl rfl (of_eq_true eo80) eg80_0 ?_
  refine ow_getf3 (pc' := 104) (t := 0) (ji := 0) (val := A) dX1_passWord_101 fRX1_90 rfl rfl rfl (of_eq_true eo3) eg3_0 ?_
  refine ow_icmpge (pc' := 107) (tg := 197) dX1_passWord_104 rfl rfl (fun hc => ?_) (fun hc => ?_)
  · have h := h.1 hc
    obtain ⟨vv1, h⟩ := h
    refine ow_iinc (pc' := 200) (lv' := [(0, (3, 80)), (1, (0, l1)), (2, (0, l2)), (3, (0, l3)), (4, (0, l4)), (5, (0, l5 + 1)), (6, (0, l6)), (7, (0, l7)), (8, (0, l8)), (9, (0, l9))]) dX1_passWord_197 rfl vv1 rfl rfl rfl ?_
    refine ow_goto (tg := 32) dX1_passWord_200 rfl ?_
    refine ow_sub (lv' := [(0, (3, 80)), (1, (0, l1)), (2, (0, l2)), (3, (0, l3)), (4, (0, l4)), (5, (0, l5 + 1))]) [0, 1, 2, 3, 4, 5] rfl ?_
    exact h
  · have h := h.2 hc
    refine ow_iload (pc' := 109) (x := l9) dX1_passWord_107 rfl rfl ?_
    refine ow_iload (pc' := 111) (x := l6) dX1_passWord_109 rfl rfl ?_
    refine ow_icmpeq (pc' := 114) (tg := 171) dX1_passWord_111 rfl rfl (fun hc => ?_) (fun hc => ?_)
    · have h := h.1 hc
      exact h
    · have h := h.2 hc
      refine ow_aload_n (pc' := 115) (x := 80) dX1_passWord_114 rfl rfl ?_
      refine ow_getf3 (pc' := 118) (t := 3) (ji := 1) (val := 58) dX1_passWord_115 fRX1_15 rfl rfl rfl (of_eq_true eo80) eg80_1 ?_
      refine ow_getf3 (pc' := 121) (t := 3) (ji := 3) (val := 62) dX1_passWord_118 fRX1_93 rfl rfl rfl (of_eq_true eo58) eg58_3 ?_
      refine ow_iload (pc' := 123) (x := l7) dX1_passWord_121 rfl rfl ?_
      refine ow_iload (pc' := 125) (x := l9) dX1_passWord_123 rfl rfl ?_
      obtain ⟨vv2, h⟩ := h
      refine ow_iadd (pc' := 126) dX1_passWord_125 vv2 rfl ?_
      obtain ⟨vv3, h⟩ := h
      refine ow_iaload3 (pc' := 127) (val := M 62 (l7 + l9)) dX1_passWord_126 rfl (Eq.mpr (er62 _) vv3) (ea62 _) ?_
      refine ow_istore (pc' := 129) (lv' := [(0, (3, 80)), (1, (0, l1)), (2, (0, l2)), (3, (0, l3)), (4, (0, l4)), (5, (0, l5)), (6, (0, l6)), (7, (0, l7)), (8, (0, l8)), (9, (0, l9)), (10, (0, M 62 (l7 + l9)))]) dX1_passWord_127 rfl rfl rfl ?_
      refine ow_iload (pc' := 131) (x := M 62 (l7 + l9)) dX1_passWord_129 rfl rfl ?_
      refine ow_iload_n (pc' := 132) (x := l3) dX1_passWord_131 rfl rfl ?_
      refine ow_ishr (pc' := 133) dX1_passWord_132 rfl ?_
      refine ow_iconst (pc' := 134) (n := 1) dX1_passWord_133 rfl rfl ?_
      refine ow_iand (pc' := 135) dX1_passWord_134 rfl ?_
      refine ow_ifeq (pc' := 138) (tg := 143) dX1_passWord_135 rfl rfl (fun hc => ?_) (fun hc => ?_)
      · have h := h.1 hc
        refine ow_aload_n (pc' := 144) (x := 80) dX1_passWord_143 rfl rfl ?_
        refine ow_iload_n (pc' := 145) (x := l2) dX1_passWord_144 rfl rfl ?_
        refine ow_iload (pc' := 147) (x := M 62 (l7 + l9)) dX1_passWord_145 rfl rfl ?_
        refine ow_callVp (z := mX1_leastBehind) (n := 2) (k := 1) (vs := [(0, l2), (0, M 62 (l7 + l9))]) (x := 80) (st := []) (pc' := 150) (b1 := (0, 0)) (b2 := (0, 0)) dX1_passWord_147 lRX1_96 kX1_leastBehind iX1_leastBehind rfl rfl rfl rfl rfl rfl (of_eq_true eo80) (ow_Sp.mono h (fun r1 N1 h => ?_))
        refine ow_sub (lv' := [(0, (3, 80)), (1, (0, l1)), (2, (0, l2)), (3, (0, l3)), (4, (0, l4)), (5, (0, l5)), (6, (0, l6)), (7, (0, l7)), (8, (0, l8)), (9, (0, l9))]) [0, 1, 2, 3, 4, 5, 6, 7, 8, 9] rfl ?_
        exact h
      · have h := h.2 hc
        refine ow_iload (pc' := 140) (x := l4) dX1_passWord_138 rfl rfl ?_
        refine ow_goto (tg := 150) dX1_passWord_140 rfl ?_
        refine ow_sub (lv' := [(0, (3, 80)), (1, (0, l1)), (2, (0, l2)), (3, (0, l3)), (4, (0, l4)), (5, (0, l5)), (6, (0, l6)), (7, (0, l7)), (8, (0, l8)), (9, (0, l9))]) [0, 1, 2, 3, 4, 5, 6, 7, 8, 9] rfl ?_
        exact h
set_option maxRecDepth 20000 in
theorem cX1_passWord_171 {C : ow_C} {A L N : Int} {d : Nat} {M : ow_M} {K : Int → ow_M → Prop} {l1 l2 l3 l4 l5 l6 l7 l8 l9 : Int} (h : (0 ≤ l5 ∧ l5 < L) ∧ ow_I ((em_pw A (L - 1 - l5)) * (L + 1)) ∧ ow_I (l8 + ((em_pw A (L - 1 - l5)) * (L + 1))) ∧ ow_I (l9 + 1) ∧ ow_At C (EM A L N) (d + 1) mX1_passWord 95 [(0, (3, 80)), (1, (0, l1)), (2, (0, l2)), (3, (0, l3)), (4, (0, l4)), (5, (0, l5)), (6, (0, l6)), (7, (0, l7)), (8, (0, l8 + ((em_pw A (L - 1 - l5)) * (L + 1)))), (9, (0, l9 + 1))] [] (0, 0) M K) : ow_At C (EM A L N) (d + 1) mX1_passWord 171 [(0, (3, 80)), (1, (0, l1)), (2, (0, l2)), (3, (0, l3)), (4, (0, l4)), (5, (0, l5)), (6, (0, l6)), (7, (0, l7)), (8, (0, l8)), (9, (0, l9))] [] (0, 0) M K := by
  refine ow_iload (pc' := 173) (x := l8) dX1_passWord_171 rfl rfl ?_
  refine ow_aload_n (pc' := 174) (x := 80) dX1_passWord_173 rfl rfl ?_
  refine ow_getf3 (pc' := 177) (t := 3) (ji := 0) (val := 3) dX1_passWord_174 fRX1_9 rfl rfl rfl (of_eq_true eo80) eg80_0 ?_
  refine ow_getf3 (pc' := 180) (t := 3) (ji := 3) (val := 4) dX1_passWord_177 fRX1_99 rfl rfl rfl (of_eq_true eo3) eg3_3 ?_
  refine ow_iload (pc' := 182) (x := l5) dX1_passWord_180 rfl rfl ?_
  obtain ⟨vv1, h⟩ := h
  refine ow_iaload3 (pc' := 183) (val := em_pw A (L - 1 - l5)) dX1_passWord_182 rfl (Eq.mpr (er4 _) vv1) (ea4 _) ?_
  refine ow_aload_n (pc' := 184) (x := 80) dX1_passWord_183 rfl rfl ?_
  refine ow_getf3 (pc' := 187) (t := 0) (ji := 2) (val := (L + 1)) dX1_passWord_184 fRX1_25 rfl rfl rfl (of_eq_true eo80) eg80_2 ?_
  obtain ⟨vv2, h⟩ := h
  refine ow_imul (pc' := 188) dX1_passWord_187 vv2 rfl ?_
  obtain ⟨vv3, h⟩ := h
  refine ow_iadd (pc' := 189) dX1_passWord_188 vv3 rfl ?_
  refine ow_istore (pc' := 191) (lv' := [(0, (3, 80)), (1, (0, l1)), (2, (0, l2)), (3, (0, l3)), (4, (0, l4)), (5, (0, l5)), (6, (0, l6)), (7, (0, l7)), (8, (0, l8 + ((em_pw A (L - 1 - l5)) * (L + 1)))), (9, (0, l9))]) dX1_passWord_189 rfl rfl rfl ?_
  obtain ⟨vv4, h⟩ := h
  refine ow_iinc (pc' := 194) (lv' := [(0, (3, 80)), (1, (0, l1)), (2, (0, l2)), (3, (0, l3)), (4, (0, l4)), (5, (0, l5)), (6, (0, l6)), (7, (0, l7)), (8, (0, l8 + ((em_pw A (L - 1 - l5)) * (L + 1)))), (9, (0, l9 + 1))]) dX1_passWord_191 rfl vv4 rfl rfl rfl ?_
  refine ow_goto (tg := 95) dX1_passWord_194 rfl ?_
  exact h
set_option maxRecDepth 20000 in
theorem cX1_passWord_150 {C : ow_C} {A L N : Int} {d : Nat} {M : ow_M} {K : Int → ow_M → Prop} {l1 l2 l3 l4 l5 l6 l7 l8 l9 s0 : Int} (h : ow_R (EM A L N) M (M 80 3) 100 l8 ∧ ow_R (EM A L N) M (M 80 3) 100 l8 ∧ (EM A L N).1 (M 80 3) l8 = none ∧ ∀ N1, N1 = ow_up M (M 80 3) l8 (min (ow_gv (EM A L N) M (M 80 3) l8) s0) → ow_At C (EM A L N) (d + 1) mX1_passWord 171 [(0, (3, 80)), (1, (0, l1)), (2, (0, l2)), (3, (0, l3)), (4, (0, l4)), (5, (0, l5)), (6, (0, l6)), (7, (0, l7)), (8, (0, l8)), (9, (0, l9))] [] (0, 0) N1 K) : ow_At C (EM A L N) (d + 1) mX1_passWord 150 [(0, (3, 80)), (1, (0, l1)), (2, (0, l2)), (3, (0, l3)), (4, (0, l4)), (5, (0, l5)), (6, (0, l6)), (7, (0, l7)), (8, (0, l8)), (9, (0, l9))] [(0, s0)] (0, 0) M K := by
  refine ow_istore (pc' := 152) (lv' := [(0, (3, 80)), (1, (0, l1)), (2, (0, l2)), (3, (0, l3)), (4, (0, l4)), (5, (0, l5)), (6, (0, l6)), (7, (0, l7)), (8, (0, l8)), (9, (0, l9)), (11, (0, s0))]) dX1_passWord_150 rfl rfl rfl ?_
  refine ow_aload_n (pc' := 153) (x := 80) dX1_passWord_152 rfl rfl ?_
  refine ow_getf3 (pc' := 156) (t := 3) (ji := 3) (val := M 80 3) dX1_passWord_153 fRX1_31 rfl rfl rfl (of_eq_true eo80) eg80_3 ?_
  refine ow_iload (pc' := 158) (x := l8) dX1_passWord_156 rfl rfl ?_
  refine ow_aload_n (pc' := 159) (x := 80) dX1_passWord_158 rfl rfl ?_
  refine ow_getf3 (pc' := 162) (t := 3) (ji := 3) (val := M 80 3) dX1_passWord_159 fRX1_31 rfl rfl rfl (of_eq_true eo80) eg80_3 ?_
  refine ow_iload (pc' := 164) (x := l8) dX1_passWord_162 rfl rfl ?_
  obtain ⟨w, h⟩ := h
  refine ow_iaload (pc' := 165) dX1_passWord_164 rfl w ?_
  refine ow_iload (pc' := 167) (x := s0) dX1_passWord_165 rfl rfl ?_
  refine ow_mmin (pc' := 170) dX1_passWord_167 lRX1_65 ow_mN1 ow_mi0 ow_mN2 rfl rfl ?_
  obtain ⟨w, w1, h⟩ := h
  refine ow_iastore2 (pc' := 171) dX1_passWord_170 rfl w w1 (fun N1 eN1 => ?_)
  have h := h N1 eN1
  refine ow_sub (lv' := [(0, (3, 80)), (1, (0, l1)), (2, (0, l2)), (3, (0, l3)), (4, (0, l4)), (5, (0, l5)), (6, (0, l6)), (7, (0, l7)), (8, (0, l8)), (9, (0, l9))]) [0, 1, 2, 3, 4, 5, 6, 7, 8, 9] rfl ?_
  exact h
theorem fX1_passWord {C : ow_C} {A L N : Int} {d : Nat} {M : ow_M} {K : Int → ow_M → Prop} {l1 l2 : Int} (h : ow_Sp C (EM A L N) d mX1_bestBehind (0, 0) [(3, 80), (0, l2)] M (fun r1 N1 => ow_I (l2 * (L + 1)) ∧ ow_I ((l2 * (L + 1)) + r1) ∧ ow_R (EM A L N) N1 (N1 80 4) 100 ((l2 * (L + 1)) + r1) ∧ ((ow_gv (EM A L N) N1 (N1 80 4) ((l2 * (L + 1)) + r1)) < 1048576 → ow_At C (EM A L N) (d + 1) mX1_passWord 32 [(0, (3, 80)), (1, (0, l1)), (2, (0, l2)), (3, (0, r1)), (4, (0, ow_gv (EM A L N) N1 (N1 80 4) ((l2 * (L + 1)) + r1))), (5, (0, 0))] [] (0, 0) N1 K) ∧ (1048576 ≤ (ow_gv (EM A L N) N1 (N1 80 4) ((l2 * (L + 1)) + r1)) → K 0 N1))) : ow_Sp C (EM A L N) (d + 1) mX1_passWord (0, 0) [(3, 80), (0, l1), (0, l2)] M K := ow_enter (by decide +kernel) rfl rfl (cX1_passWord_0 h)
set_option maxRecDepth 20000 in
theorem cX1_bestBehind_0 {C : ow_C} {A L N : Int} {d : Nat} {M : ow_M} {K : Int → ow_M → Prop} {l1 : Int} (h : ow_At C (EM A L N) d mX1_bestBehind 4 [(0, (3, 80)), (1, (0, l1)), (2, (0, 0)), (3, (0, 1))] [] (0, 0) M K) : ow_At C (EM A L N) d mX1_bestBehind 0 [(0, (3, 80)), (1, (0, l1))] [] (0, 0) M K := by
  refine ow_iconst (pc' := 1) (n := 0) dX1_bestBehind_0 rfl rfl ?_
  refine ow_istore_n (pc' := 2) (lv' := [(0, (3, 80)), (1, (0, l1)), (2, (0, 0))]) dX1_bestBehind_1 rfl rfl rfl ?_
  refine ow_iconst (pc' := 3) (n := 1) dX1_bestBehind_2 rfl rfl ?_
  refine ow_istore_n (pc' := 4) (lv' := [(0, (3, 80)), (1, (0, l1)), (2, (0, 0)), (3, (0, 1))]) dX1_bestBehind_3 rfl rfl rfl ?_
  exact h
set_option maxRecDepth 20000 in
theorem cX1_bestBehind_4 {C : ow_C} {A L N : Int} {d : Nat} {M : ow_M} {K : Int → ow_M → Prop} {l1 l2 l3 : Int} (h : ((L + 1) ≤ l3 → K l2 M) ∧ (l3 < (L + 1) → ow_I (l1 * (L + 1)) ∧ ow_I ((l1 * (L + 1)) + l3) ∧ ow_R (EM A L N) M (M 80 4) 100 ((l1 * (L + 1)) + l3) ∧ ow_I ((l1 * (L + 1)) + l2) ∧ ow_R (EM A L N) M (M 80 4) 100 ((l1 * (L + 1)) + l2) ∧ ((ow_gv (EM A L N) M (M 80 4) ((l1 * (L + 1)) + l2)) ≤ (ow_gv (EM A L N) M (M 80 4) ((l1 * (L + 1)) + l3)) → ow_I (l3 + 1) ∧ ow_At C (EM A L N) d mX1_bestBehind 4 [(0, (3, 80)), (1, (0, l1)), (2, (0, l2)), (3, (0, l3 + 1))] [] (0, 0) M K) ∧ ((ow_gv (EM A L N) M (M 80 4) ((l1 * (L + 1)) + l3)) < (ow_gv (EM A L N) M (M 80 4) ((l1 * (L + 1)) + l2)) → ow_I (l3 + 1) ∧ ow_At C (EM A L N) d mX1_bestBehind 4 [(0, (3, 80)), (1, (0, l1)), (2, (0, l3)), (3, (0, l3 + 1))] [] (0, 0) M K))) : ow_At C (EM A L N) d mX1_bestBehind 4 [(0, (3, 80)), (1, (0, l1)), (2, (0, l2)), (3, (0, l3))] [] (0, 0) M K := by
  refine ow_iload_n (pc' := 5) (x := l3) dX1_bestBehind_4 rfl rfl ?_
  refine ow_aload_n (pc' := 6) (x := 80) dX1_bestBehind_5 rfl rfl ?_
  refine ow_getf3 (pc' := 9) (t := 0) (ji := 2) (val := (L + 1)) dX1_bestBehind_6 fRX1_25 rfl rfl rfl (of_eq_true eo80) eg80_2 ?_
  refine ow_icmpge (pc' := 12) (tg := 49) dX1_bestBehind_9 rfl rfl (fun hc => ?_) (fun hc => ?_)
  · have h := h.1 hc
    refine ow_iload_n (pc' := 50) (x := l2) dX1_bestBehind_49 rfl rfl ?_
    exact ow_iret dX1_bestBehind_50 rfl rfl h
  · have h := h.2 hc
    refine ow_aload_n (pc' := 13) (x := 80) dX1_bestBehind_12 rfl rfl ?_
    refine ow_getf3 (pc' := 16) (t := 3) (ji := 4) (val := M 80 4) dX1_bestBehind_13 fRX1_35 rfl rfl rfl (of_eq_true eo80) eg80_4 ?_
    refine ow_iload_n (pc' := 17) (x := l1) dX1_bestBehind_16 rfl rfl ?_
    refine ow_aload_n (pc' := 18) (x := 80) dX1_bestBehind_17 rfl rfl ?_
    refine ow_getf3 (pc' := 21) (t := 0) (ji := 2) (val := (L + 1)) dX1_bestBehind_18 fRX1_25 rfl rfl rfl (of_eq_true eo80) eg80_2 ?_
    obtain ⟨vv1, h⟩ := h
    refine ow_imul (pc' := 22) dX1_bestBehind_21 vv1 rfl ?_
    refine ow_iload_n (pc' := 23) (x := l3) dX1_bestBehind_22 rfl rfl ?_
    obtain ⟨vv2, h⟩ := h
    refine ow_iadd (pc' := 24) dX1_bestBehind_23 vv2 rfl ?_
    obtain ⟨w, h⟩ := h
    refine ow_iaload (pc' := 25) dX1_bestBehind_24 rfl w ?_
    refine ow_aload_n (pc' := 26) (x := 80) dX1_bestBehind_25 rfl rfl ?_
    refine ow_getf3 (pc' := 29) (t := 3) (ji := 4) (val := M 80 4) dX1_bestBehind_26 fRX1_35 rfl rfl rfl (of_eq_true eo80) eg80_4 ?_
    refine ow_iload_n (pc' := 30) (x := l1) dX1_bestBehind_29 rfl rfl ?_
    refine ow_aload_n (pc' := 31) (x := 80) dX1_bestBehind_30 rfl rfl ?_
    refine ow_getf3 (pc' := 34) (t := 0) (ji := 2) (val := (L + 1)) dX1_bestBehind_31 fRX1_25 rfl rfl rfl (of_eq_true eo80) eg80_2 ?_
    refine ow_imul (pc' := 35) dX1_bestBehind_34 vv1 rfl ?_
    refine ow_iload_n (pc' := 36) (x := l2) dX1_bestBehind_35 rfl rfl ?_
    obtain ⟨vv3, h⟩ := h
    refine ow_iadd (pc' := 37) dX1_bestBehind_36 vv3 rfl ?_
    obtain ⟨w, h⟩ := h
    refine ow_iaload (pc' := 38) dX1_bestBehind_37 rfl w ?_
    refine ow_icmpge (pc' := 41) (tg := 43) dX1_bestBehind_38 rfl rfl (fun hc => ?_) (fun hc => ?_)
    · have h := h.1 hc
      obtain ⟨vv4, h⟩ := h
      refine ow_iinc (pc' := 46) (lv' := [(0, (3, 80)), (1, (0, l1)), (2, (0, l2)), (3, (0, l3 + 1))]) dX1_bestBehind_43 rfl vv4 rfl rfl rfl ?_
      refine ow_goto (tg := 4) dX1_bestBehind_46 rfl ?_
      exact h
    · have h := h.2 hc
      refine ow_iload_n (pc' := 42) (x := l3) dX1_bestBehind_41 rfl rfl ?_
      refine ow_istore_n (pc' := 43) (lv' := [(0, (3, 80)), (1, (0, l1)), (2, (0, l3)), (3, (0, l3))]) dX1_bestBehind_42 rfl rfl rfl ?_
      obtain ⟨vv5, h⟩ := h
      refine ow_iinc (pc' := 46) (lv' := [(0, (3, 80)), (1, (0, l1)), (2, (0, l3)), (3, (0, l3 + 1))]) dX1_bestBehind_43 rfl vv5 rfl rfl rfl ?_
      refine ow_goto (tg := 4) dX1_bestBehind_46 rfl ?_
      exact h
theorem fX1_bestBehind {C : ow_C} {A L N : Int} {d : Nat} {M : ow_M} {K : Int → ow_M → Prop} {l1 : Int} (h : ow_At C (EM A L N) d mX1_bestBehind 4 [(0, (3, 80)), (1, (0, l1)), (2, (0, 0)), (3, (0, 1))] [] (0, 0) M K) : ow_Sp C (EM A L N) d mX1_bestBehind (0, 0) [(3, 80), (0, l1)] M K := ow_enter (by decide +kernel) rfl rfl (cX1_bestBehind_0 h)
set_option maxRecDepth 20000 in
theorem cX1_leastBehind_0 {C : ow_C} {A L N : Int} {d : Nat} {M : ow_M} {K : Int → ow_M → Prop} {l1 l2 : Int} (h : ow_At C (EM A L N) (d + 1) mX1_leastBehind 6 [(0, (3, 80)), (1, (0, l1)), (2, (0, l2)), (3, (0, 1048576)), (4, (0, 0))] [] (0, 0) M K) : ow_At C (EM A L N) (d + 1) mX1_leastBehind 0 [(0, (3, 80)), (1, (0, l1)), (2, (0, l2))] [] (0, 0) M K := by
  refine ow_ldc (pc' := 2) (n := 1048576) dX1_leastBehind_0 cRX1_38 rfl rfl ?_
  refine ow_istore_n (pc' := 3) (lv' := [(0, (3, 80)), (1, (0, l1)), (2, (0, l2)), (3, (0, 1048576))]) dX1_leastBehind_2 rfl rfl rfl ?_
  refine ow_iconst (pc' := 4) (n := 0) dX1_leastBehind_3 rfl rfl ?_
  refine ow_istore (pc' := 6) (lv' := [(0, (3, 80)), (1, (0, l1)), (2, (0, l2)), (3, (0, 1048576)), (4, (0, 0))]) dX1_leastBehind_4 rfl rfl rfl ?_
  exact h
set_option maxRecDepth 20000 in
theorem cX1_leastBehind_6 {C : ow_C} {A L N : Int} {d : Nat} {M : ow_M} {K : Int → ow_M → Prop} {l1 l2 l3 l4 : Int} (h : ((L + 1) ≤ l4 → K l3 M) ∧ (l4 < (L + 1) → ((ow_and (ow_shr l2 l4) 1) = 0 → ow_I (l4 + 1) ∧ ow_At C (EM A L N) (d + 1) mX1_leastBehind 6 [(0, (3, 80)), (1, (0, l1)), (2, (0, l2)), (3, (0, l3)), (4, (0, l4 + 1))] [] (0, 0) M K) ∧ ((ow_and (ow_shr l2 l4) 1) ≠ 0 → ow_I (l1 * (L + 1)) ∧ ow_I ((l1 * (L + 1)) + l4) ∧ ow_R (EM A L N) M (M 80 4) 100 ((l1 * (L + 1)) + l4) ∧ ow_I (l4 + 1) ∧ ow_At C (EM A L N) (d + 1) mX1_leastBehind 6 [(0, (3, 80)), (1, (0, l1)), (2, (0, l2)), (3, (0, min l3 (ow_gv (EM A L N) M (M 80 4) ((l1 * (L + 1)) + l4)))), (4, (0, l4 + 1))] [] (0, 0) M K))) : ow_At C (EM A L N) (d + 1) mX1_leastBehind 6 [(0, (3, 80)), (1, (0, l1)), (2, (0, l2)), (3, (0, l3)), (4, (0, l4))] [] (0, 0) M K := by
  refine ow_iload (pc' := 8) (x := l4) dX1_leastBehind_6 rfl rfl ?_
  refine ow_aload_n (pc' := 9) (x := 80) dX1_leastBehind_8 rfl rfl ?_
  refine ow_getf3 (pc' := 12) (t := 0) (ji := 2) (val := (L + 1)) dX1_leastBehind_9 fRX1_25 rfl rfl rfl (of_eq_true eo80) eg80_2 ?_
  refine ow_icmpge (pc' := 15) (tg := 49) dX1_leastBehind_12 rfl rfl (fun hc => ?_) (fun hc => ?_)
  · have h := h.1 hc
    refine ow_iload_n (pc' := 50) (x := l3) dX1_leastBehind_49 rfl rfl ?_
    exact ow_iret dX1_leastBehind_50 rfl rfl h
  · have h := h.2 hc
    refine ow_iload_n (pc' := 16) (x := l2) dX1_leastBehind_15 rfl rfl ?_
    refine ow_iload (pc' := 18) (x := l4) dX1_leastBehind_16 rfl rfl ?_
    refine ow_ishr (pc' := 19) dX1_leastBehind_18 rfl ?_
    refine ow_iconst (pc' := 20) (n := 1) dX1_leastBehind_19 rfl rfl ?_
    refine ow_iand (pc' := 21) dX1_leastBehind_20 rfl ?_
    refine ow_ifeq (pc' := 24) (tg := 43) dX1_leastBehind_21 rfl rfl (fun hc => ?_) (fun hc => ?_)
    · have h := h.1 hc
      obtain ⟨vv1, h⟩ := h
      refine ow_iinc (pc' := 46) (lv' := [(0, (3, 80)), (1, (0, l1)), (2, (0, l2)), (3, (0, l3)), (4, (0, l4 + 1))]) dX1_leastBehind_43 rfl vv1 rfl rfl rfl ?_
      refine ow_goto (tg := 6) dX1_leastBehind_46 rfl ?_
      exact h
    · have h := h.2 hc
      refine ow_iload_n (pc' := 25) (x := l3) dX1_leastBehind_24 rfl rfl ?_
      refine ow_aload_n (pc' := 26) (x := 80) dX1_leastBehind_25 rfl rfl ?_
      refine ow_getf3 (pc' := 29) (t := 3) (ji := 4) (val := M 80 4) dX1_leastBehind_26 fRX1_35 rfl rfl rfl (of_eq_true eo80) eg80_4 ?_
      refine ow_iload_n (pc' := 30) (x := l1) dX1_leastBehind_29 rfl rfl ?_
      refine ow_aload_n (pc' := 31) (x := 80) dX1_leastBehind_30 rfl rfl ?_
      refine ow_getf3 (pc' := 34) (t := 0) (ji := 2) (val := (L + 1)) dX1_leastBehind_31 fRX1_25 rfl rfl rfl (of_eq_true eo80) eg80_2 ?_
      obtain ⟨vv2, h⟩ := h
      refine ow_imul (pc' := 35) dX1_leastBehind_34 vv2 rfl ?_
      refine ow_iload (pc' := 37) (x := l4) dX1_leastBehind_35 rfl rfl ?_
      obtain ⟨vv3, h⟩ := h
      refine ow_iadd (pc' := 38) dX1_leastBehind_37 vv3 rfl ?_
      obtain ⟨w, h⟩ := h
      refine ow_iaload (pc' := 39) dX1_leastBehind_38 rfl w ?_
      refine ow_mmin (pc' := 42) dX1_leastBehind_39 lRX1_65 ow_mN1 ow_mi0 ow_mN2 rfl rfl ?_
      refine ow_istore_n (pc' := 43) (lv' := [(0, (3, 80)), (1, (0, l1)), (2, (0, l2)), (3, (0, min l3 (ow_gv (EM A L N) M (M 80 4) ((l1 * (L + 1)) + l4)))), (4, (0, l4))]) dX1_leastBehind_42 rfl rfl rfl ?_
      obtain ⟨vv4, h⟩ := h
      refine ow_iinc (pc' := 46) (lv' := [(0, (3, 80)), (1, (0, l1)), (2, (0, l2)), (3, (0, min l3 (ow_gv (EM A L N) M (M 80 4) ((l1 * (L + 1)) + l4)))), (4, (0, l4 + 1))]) dX1_leastBehind_43 rfl vv4 rfl rfl rfl ?_
      refine ow_goto (tg := 6) dX1_leastBehind_46 rfl ?_
      exact h
theorem fX1_leastBehind {C : ow_C} {A L N : Int} {d : Nat} {M : ow_M} {K : Int → ow_M → Prop} {l1 l2 : Int} (h : ow_At C (EM A L N) (d + 1) mX1_leastBehind 6 [(0, (3, 80)), (1, (0, l1)), (2, (0, l2)), (3, (0, 1048576)), (4, (0, 0))] [] (0, 0) M K) : ow_Sp C (EM A L N) (d + 1) mX1_leastBehind (0, 0) [(3, 80), (0, l1), (0, l2)] M K := ow_enter (by decide +kernel) rfl rfl (cX1_leastBehind_0 h)
