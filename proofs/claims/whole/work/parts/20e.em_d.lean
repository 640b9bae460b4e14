set_option maxRecDepth 20000 in
theorem cX11_put_0 {C : ow_C} {A L N : Int} {d : Nat} {M : ow_M} {K : Int → ow_M → Prop} {l1 l2 : Int} (h : ow_Sp C (EM A L N) d mX0_add (0, 0) [(3, 6), (0, l1), (0, l2)] M (fun r1 N1 => (r1 = 0 → K ((-1)) N1) ∧ (r1 ≠ 0 → K (N1 6 4) N1))) : ow_At C (EM A L N) (d + 1) mX11_put 0 [(0, (3, 0)), (1, (0, l1)), (2, (0, l2))] [] (0, 0) M K := by
  refine ow_aload_n (pc' := 1) (x := 0) dX11_put_0 rfl rfl ?_
  refine ow_getf3 (pc' := 4) (t := 3) (ji := 1) (val := 6) dX11_put_1 fRX11_55 rfl rfl rfl (of_eq_true eo0) eg0_1 ?_
  refine ow_iload_n (pc' := 5) (x := l1) dX11_put_4 rfl rfl ?_
  refine ow_iload_n (pc' := 6) (x := l2) dX11_put_5 rfl rfl ?_
  refine ow_callVp (z := mX0_add) (n := 2) (k := 0) (vs := [(0, l1), (0, l2)]) (x := 6) (st := []) (pc' := 9) (b1 := (0, 0)) (b2 := (0, 0)) dX11_put_6 lRX11_110 kX0_add iX0_add rfl rfl rfl rfl rfl rfl (of_eq_true eo6) (ow_Sp.mono h (fun r1 N1 h => ?_))
  refine ow_ifeq (pc' := 12) (tg := 22) dX11_put_9 rfl rfl (fun hc => ?_) (fun hc => ?_)
  · have h := h.1 hc
    refine ow_iconst (pc' := 23) (n := (-1)) dX11_put_22 rfl rfl ?_
    exact ow_iret dX11_put_23 rfl rfl h
  · have h := h.2 hc
    refine ow_aload_n (pc' := 13) (x := 0) dX11_put_12 rfl rfl ?_
    refine ow_getf3 (pc' := 16) (t := 3) (ji := 1) (val := 6) dX11_put_13 fRX11_55 rfl rfl rfl (of_eq_true eo0) eg0_1 ?_
    refine ow_getf3 (pc' := 19) (t := 0) (ji := 4) (val := N1 6 4) dX11_put_16 fRX11_114 rfl rfl rfl (of_eq_true eo6) eg6_4 ?_
    refine ow_goto (tg := 23) dX11_put_19 rfl ?_
    exact ow_iret dX11_put_23 rfl rfl h
theorem fX11_put {C : ow_C} {A L N : Int} {d : Nat} {M : ow_M} {K : Int → ow_M → Prop} {l1 l2 : Int} (h : ow_Sp C (EM A L N) d mX0_add (0, 0) [(3, 6), (0, l1), (0, l2)] M (fun r1 N1 => (r1 = 0 → K ((-1)) N1) ∧ (r1 ≠ 0 → K (N1 6 4) N1))) : ow_Sp C (EM A L N) (d + 1) mX11_put (0, 0) [(3, 0), (0, l1), (0, l2)] M K := ow_enter (by decide +kernel) rfl rfl (cX11_put_0 h)
set_option maxRecDepth 20000 in
theorem cX11_take_0 {C : ow_C} {A L N : Int} {d : Nat} {M : ow_M} {K : Int → ow_M → Prop} {l1 : Int} (h : ow_Sp C (EM A L N) d mX0_drop (0, 0) [(3, 6), (0, l1)] M (fun r1 N1 => (r1 = 0 → K ((-1)) N1) ∧ (r1 ≠ 0 → K (N1 6 4) N1))) : ow_At C (EM A L N) (d + 1) mX11_take 0 [(0, (3, 0)), (1, (0, l1))] [] (0, 0) M K := by
  refine ow_aload_n (pc' := 1) (x := 0) dX11_take_0 rfl rfl ?_
  refine ow_getf3 (pc' := 4) (t := 3) (ji := 1) (val := 6) dX11_take_1 fRX11_55 rfl rfl rfl (of_eq_true eo0) eg0_1 ?_
  refine ow_iload_n (pc' := 5) (x := l1) dX11_take_4 rfl rfl ?_
  refine ow_callVp (z := mX0_drop) (n := 1) (k := 0) (vs := [(0, l1)]) (x := 6) (st := []) (pc' := 8) (b1 := (0, 0)) (b2 := (0, 0)) dX11_take_5 lRX11_117 kX0_drop iX0_drop rfl rfl rfl rfl rfl rfl (of_eq_true eo6) (ow_Sp.mono h (fun r1 N1 h => ?_))
  refine ow_ifeq (pc' := 11) (tg := 21) dX11_take_8 rfl rfl (fun hc => ?_) (fun hc => ?_)
  · have h := h.1 hc
    refine ow_iconst (pc' := 22) (n := (-1)) dX11_take_21 rfl rfl ?_
    exact ow_iret dX11_take_22 rfl rfl h
  · have h := h.2 hc
    refine ow_aload_n (pc' := 12) (x := 0) dX11_take_11 rfl rfl ?_
    refine ow_getf3 (pc' := 15) (t := 3) (ji := 1) (val := 6) dX11_take_12 fRX11_55 rfl rfl rfl (of_eq_true eo0) eg0_1 ?_
    refine ow_getf3 (pc' := 18) (t := 0) (ji := 4) (val := N1 6 4) dX11_take_15 fRX11_114 rfl rfl rfl (of_eq_true eo6) eg6_4 ?_
    refine ow_goto (tg := 22) dX11_take_18 rfl ?_
    exact ow_iret dX11_take_22 rfl rfl h
theorem fX11_take {C : ow_C} {A L N : Int} {d : Nat} {M : ow_M} {K : Int → ow_M → Prop} {l1 : Int} (h : ow_Sp C (EM A L N) d mX0_drop (0, 0) [(3, 6), (0, l1)] M (fun r1 N1 => (r1 = 0 → K ((-1)) N1) ∧ (r1 ≠ 0 → K (N1 6 4) N1))) : ow_Sp C (EM A L N) (d + 1) mX11_take (0, 0) [(3, 0), (0, l1)] M K := ow_enter (by decide +kernel) rfl rfl (cX11_take_0 h)
set_option maxRecDepth 20000 in
theorem cX11_feed_0 {C : ow_C} {A L N : Int} {d : Nat} {M : ow_M} {K : Int → ow_M → Prop} {l1 l2 l3 l4 l5 : Int} (h : ow_I ((M 0 6) + 20) ∧ (((M 0 6) + 20) ≤ 300 → ow_Sp C (EM A L N) d mX11_append (0, 0) [(3, 0), (0, l1)] M (fun r1 N1 => ow_Sp C (EM A L N) d mX11_append (0, 0) [(3, 0), (0, l2)] N1 (fun r2 N2 => ow_Sp C (EM A L N) d mX11_append (0, 0) [(3, 0), (0, l3)] N2 (fun r3 N3 => ow_Sp C (EM A L N) d mX11_append (0, 0) [(3, 0), (0, l4)] N3 (fun r4 N4 => ow_Sp C (EM A L N) d mX11_append (0, 0) [(3, 0), (0, l5)] N4 (fun r5 N5 => K (N5 0 6) N5)))))) ∧ (300 < ((M 0 6) + 20) → K ((-1)) M)) : ow_At C (EM A L N) (d + 1) mX11_feed 0 [(0, (3, 0)), (1, (0, l1)), (2, (0, l2)), (3, (0, l3)), (4, (0, l4)), (5, (0, l5))] [] (0, 0) M K := by
  refine ow_aload_n (pc' := 1) (x := 0) dX11_feed_0 rfl rfl ?_
  refine ow_getf3 (pc' := 4) (t := 0) (ji := 6) (val := M 0 6) dX11_feed_1 fRX11_13 rfl rfl rfl (of_eq_true eo0) eg0_6 ?_
  refine ow_bipush (pc' := 6) (n := 20) dX11_feed_4 rfl rfl ?_
  obtain ⟨vv1, h⟩ := h
  refine ow_iadd (pc' := 7) dX11_feed_6 vv1 rfl ?_
  refine ow_sipush (pc' := 10) (n := 300) dX11_feed_7 rfl rfl ?_
  refine ow_icmple (pc' := 13) (tg := 15) dX11_feed_10 rfl rfl (fun hc => ?_) (fun hc => ?_)
  · have h := h.1 hc
    refine ow_aload_n (pc' := 16) (x := 0) dX11_feed_15 rfl rfl ?_
    refine ow_iload_n (pc' := 17) (x := l1) dX11_feed_16 rfl rfl ?_
    refine ow_callVv (z := mX11_append) (n := 1) (k := 11) (vs := [(0, l1)]) (x := 0) (st := []) (pc' := 20) (b1 := (0, 0)) (b2 := (0, 0)) dX11_feed_17 lRX11_121 kX11_append iX11_append rfl rfl rfl rfl rfl rfl (of_eq_true eo0) (ow_Sp.mono h (fun r1 N1 h => ?_))
    refine ow_aload_n (pc' := 21) (x := 0) dX11_feed_20 rfl rfl ?_
    refine ow_iload_n (pc' := 22) (x := l2) dX11_feed_21 rfl rfl ?_
    refine ow_callVv (z := mX11_append) (n := 1) (k := 11) (vs := [(0, l2)]) (x := 0) (st := []) (pc' := 25) (b1 := (0, 0)) (b2 := (0, 0)) dX11_feed_22 lRX11_121 kX11_append iX11_append rfl rfl rfl rfl rfl rfl (of_eq_true eo0) (ow_Sp.mono h (fun r2 N2 h => ?_))
    refine ow_aload_n (pc' := 26) (x := 0) dX11_feed_25 rfl rfl ?_
    refine ow_iload_n (pc' := 27) (x := l3) dX11_feed_26 rfl rfl ?_
    refine ow_callVv (z := mX11_append) (n := 1) (k := 11) (vs := [(0, l3)]) (x := 0) (st := []) (pc' := 30) (b1 := (0, 0)) (b2 := (0, 0)) dX11_feed_27 lRX11_121 kX11_append iX11_append rfl rfl rfl rfl rfl rfl (of_eq_true eo0) (ow_Sp.mono h (fun r3 N3 h => ?_))
    refine ow_aload_n (pc' := 31) (x := 0) dX11_feed_30 rfl rfl ?_
    refine ow_iload (pc' := 33) (x := l4) dX11_feed_31 rfl rfl ?_
    refine ow_callVv (z := mX11_append) (n := 1) (k := 11) (vs := [(0, l4)]) (x := 0) (st := []) (pc' := 36) (b1 := (0, 0)) (b2 := (0, 0)) dX11_feed_33 lRX11_121 kX11_append iX11_append rfl rfl rfl rfl rfl rfl (of_eq_true eo0) (ow_Sp.mono h (fun r4 N4 h => ?_))
    refine ow_aload_n (pc' := 37) (x := 0) dX11_feed_36 rfl rfl ?_
    refine ow_iload (pc' := 39) (x := l5) dX11_feed_37 rfl rfl ?_
    refine ow_callVv (z := mX11_append) (n := 1) (k := 11) (vs := [(0, l5)]) (x := 0) (st := []) (pc' := 42) (b1 := (0, 0)) (b2 := (0, 0)) dX11_feed_39 lRX11_121 kX11_append iX11_append rfl rfl rfl rfl rfl rfl (of_eq_true eo0) (ow_Sp.mono h (fun r5 N5 h => ?_))
    refine ow_aload_n (pc' := 43) (x := 0) dX11_feed_42 rfl rfl ?_
    refine ow_getf3 (pc' := 46) (t := 0) (ji := 6) (val := N5 0 6) dX11_feed_43 fRX11_13 rfl rfl rfl (of_eq_true eo0) eg0_6 ?_
    exact ow_iret dX11_feed_46 rfl rfl h
  · have h := h.2 hc
    refine ow_iconst (pc' := 14) (n := (-1)) dX11_feed_13 rfl rfl ?_
    exact ow_iret dX11_feed_14 rfl rfl h
theorem fX11_feed {C : ow_C} {A L N : Int} {d : Nat} {M : ow_M} {K : Int → ow_M → Prop} {l1 l2 l3 l4 l5 : Int} (h : ow_I ((M 0 6) + 20) ∧ (((M 0 6) + 20) ≤ 300 → ow_Sp C (EM A L N) d mX11_append (0, 0) [(3, 0), (0, l1)] M (fun r1 N1 => ow_Sp C (EM A L N) d mX11_append (0, 0) [(3, 0), (0, l2)] N1 (fun r2 N2 => ow_Sp C (EM A L N) d mX11_append (0, 0) [(3, 0), (0, l3)] N2 (fun r3 N3 => ow_Sp C (EM A L N) d mX11_append (0, 0) [(3, 0), (0, l4)] N3 (fun r4 N4 => ow_Sp C (EM A L N) d mX11_append (0, 0) [(3, 0), (0, l5)] N4 (fun r5 N5 => K (N5 0 6) N5)))))) ∧ (300 < ((M 0 6) + 20) → K ((-1)) M)) : ow_Sp C (EM A L N) (d + 1) mX11_feed (0, 0) [(3, 0), (0, l1), (0, l2), (0, l3), (0, l4), (0, l5)] M K := ow_enter (by decide +kernel) rfl rfl (cX11_feed_0 h)
set_option maxRecDepth 20000 in
theorem cX11_end_0 {C : ow_C} {A L N : Int} {d : Nat} {M : ow_M} {K : Int → ow_M → Prop} {l1 : Int} (h : (l1 < 0 → K ((-1)) M) ∧ (0 ≤ l1 → (l1 ≤ (M 0 6) → ∀ N1, N1 = ow_up M 0 6 l1 → K l1 N1) ∧ ((M 0 6) < l1 → K ((-1)) M))) : ow_At C (EM A L N) d mX11_end 0 [(0, (3, 0)), (1, (0, l1))] [] (0, 0) M K := by
  refine ow_iload_n (pc' := 1) (x := l1) dX11_end_0 rfl rfl ?_
  refine ow_iflt (pc' := 4) (tg := 12) dX11_end_1 rfl rfl (fun hc => ?_) (fun hc => ?_)
  · have h := h.1 hc
    refine ow_iconst (pc' := 13) (n := (-1)) dX11_end_12 rfl rfl ?_
    exact ow_iret dX11_end_13 rfl rfl h
  · have h := h.2 hc
    refine ow_iload_n (pc' := 5) (x := l1) dX11_end_4 rfl rfl ?_
    refine ow_aload_n (pc' := 6) (x := 0) dX11_end_5 rfl rfl ?_
    refine ow_getf3 (pc' := 9) (t := 0) (ji := 6) (val := M 0 6) dX11_end_6 fRX11_13 rfl rfl rfl (of_eq_true eo0) eg0_6 ?_
    refine ow_icmple (pc' := 12) (tg := 14) dX11_end_9 rfl rfl (fun hc => ?_) (fun hc => ?_)
    · have h := h.1 hc
      refine ow_aload_n (pc' := 15) (x := 0) dX11_end_14 rfl rfl ?_
      refine ow_iload_n (pc' := 16) (x := l1) dX11_end_15 rfl rfl ?_
      refine ow_putf2 (pc' := 19) (t := 0) (ji := 6) dX11_end_16 fRX11_13 rfl rfl rfl rfl (of_eq_true eo0) (of_eq_true en0_6) (fun hz => absurd hz (by decide)) (fun N1 eN1 => ?_)
      have h := h N1 eN1
      refine ow_iload_n (pc' := 20) (x := l1) dX11_end_19 rfl rfl ?_
      exact ow_iret dX11_end_20 rfl rfl h
    · have h := h.2 hc
      refine ow_iconst (pc' := 13) (n := (-1)) dX11_end_12 rfl rfl ?_
      exact ow_iret dX11_end_13 rfl rfl h
theorem fX11_end {C : ow_C} {A L N : Int} {d : Nat} {M : ow_M} {K : Int → ow_M → Prop} {l1 : Int} (h : (l1 < 0 → K ((-1)) M) ∧ (0 ≤ l1 → (l1 ≤ (M 0 6) → ∀ N1, N1 = ow_up M 0 6 l1 → K l1 N1) ∧ ((M 0 6) < l1 → K ((-1)) M))) : ow_Sp C (EM A L N) d mX11_end (0, 0) [(3, 0), (0, l1)] M K := ow_enter (by decide +kernel) rfl rfl (cX11_end_0 h)
set_option maxRecDepth 20000 in
theorem cX11_text_0 {C : ow_C} {A L N : Int} {d : Nat} {M : ow_M} {K : Int → ow_M → Prop} (h : ((M 0 8) < 0 → K ((-1)) M) ∧ (0 ≤ (M 0 8) → ((M 0 8) < 4 → (0 ≤ (M 0 8) ∧ (M 0 8) < 4) ∧ ow_Sp C (EM A L N) d mX6_read (0, 0) [(3, 46), (3, 1), (0, M 0 6), (3, 22 + 6 * (M 0 8))] M (fun r1 N1 => ∀ N2, N2 = ow_up N1 0 12 r1 → ∀ N3, N3 = ow_up N2 0 13 (N2 46 5) → ∀ N4, N4 = ow_up N3 0 6 0 → ((N4 0 12) = 0 → ow_I ((N4 0 8) + 1) ∧ ∀ N5, N5 = ow_up N4 0 8 ((N4 0 8) + 1) → ow_I ((N5 0 8) - 1) ∧ K ((N5 0 8) - 1) N5) ∧ ((N4 0 12) ≠ 0 → K ((-1)) N4))) ∧ (4 ≤ (M 0 8) → K ((-1)) M))) : ow_At C (EM A L N) (d + 1) mX11_text 0 [(0, (3, 0))] [] (0, 0) M K := by
  refine ow_aload_n (pc' := 1) (x := 0) dX11_text_0 rfl rfl ?_
  refine ow_getf3 (pc' := 4) (t := 0) (ji := 8) (val := M 0 8) dX11_text_1 fRX11_23 rfl rfl rfl (of_eq_true eo0) eg0_8 ?_
  refine ow_iflt (pc' := 7) (tg := 15) dX11_text_4 rfl rfl (fun hc => ?_) (fun hc => ?_)
  · have h := h.1 hc
    refine ow_iconst (pc' := 16) (n := (-1)) dX11_text_15 rfl rfl ?_
    exact ow_iret dX11_text_16 rfl rfl h
  · have h := h.2 hc
    refine ow_aload_n (pc' := 8) (x := 0) dX11_text_7 rfl rfl ?_
    refine ow_getf3 (pc' := 11) (t := 0) (ji := 8) (val := M 0 8) dX11_text_8 fRX11_23 rfl rfl rfl (of_eq_true eo0) eg0_8 ?_
    refine ow_iconst (pc' := 12) (n := 4) dX11_text_11 rfl rfl ?_
    refine ow_icmplt (pc' := 15) (tg := 17) dX11_text_12 rfl rfl (fun hc => ?_) (fun hc => ?_)
    · have h := h.1 hc
      refine ow_aload_n (pc' := 18) (x := 0) dX11_text_17 rfl rfl ?_
      refine ow_aload_n (pc' := 19) (x := 0) dX11_text_18 rfl rfl ?_
      refine ow_getf3 (pc' := 22) (t := 3) (ji := 14) (val := 46) dX11_text_19 fRX11_76 rfl rfl rfl (of_eq_true eo0) eg0_14 ?_
      refine ow_aload_n (pc' := 23) (x := 0) dX11_text_22 rfl rfl ?_
      refine ow_getf3 (pc' := 26) (t := 3) (ji := 5) (val := 1) dX11_text_23 fRX11_9 rfl rfl rfl (of_eq_true eo0) eg0_5 ?_
      refine ow_aload_n (pc' := 27) (x := 0) dX11_text_26 rfl rfl ?_
      refine ow_getf3 (pc' := 30) (t := 0) (ji := 6) (val := M 0 6) dX11_text_27 fRX11_13 rfl rfl rfl (of_eq_true eo0) eg0_6 ?_
      refine ow_aload_n (pc' := 31) (x := 0) dX11_text_30 rfl rfl ?_
      refine ow_getf3 (pc' := 34) (t := 3) (ji := 7) (val := 2) dX11_text_31 fRX11_19 rfl rfl rfl (of_eq_true eo0) eg0_7 ?_
      refine ow_aload_n (pc' := 35) (x := 0) dX11_text_34 rfl rfl ?_
      refine ow_getf3 (pc' := 38) (t := 0) (ji := 8) (val := M 0 8) dX11_text_35 fRX11_23 rfl rfl rfl (of_eq_true eo0) eg0_8 ?_
      obtain ⟨vv1, h⟩ := h
      refine ow_aaload3 (pc' := 39) (t := 103) (val := 22 + 6 * (M 0 8)) dX11_text_38 rfl rfl (Eq.mpr (er2 _) vv1) (ea2 _) ?_
      refine ow_callVp (z := mX6_read) (n := 3) (k := 6) (vs := [(3, 1), (0, M 0 6), (3, 22 + 6 * (M 0 8))]) (x := 46) (st := [(3, 0)]) (pc' := 42) (b1 := (0, 0)) (b2 := (0, 0)) dX11_text_39 lRX11_125 kX6_read iX6_read rfl rfl rfl rfl rfl rfl (of_eq_true eo46) (ow_Sp.mono h (fun r1 N1 h => ?_))
      refine ow_putf2 (pc' := 45) (t := 0) (ji := 12) dX11_text_42 fRX11_35 rfl rfl rfl rfl (of_eq_true eo0) (of_eq_true en0_12) (fun hz => absurd hz (by decide)) (fun N2 eN2 => ?_)
      have h := h N2 eN2
      refine ow_aload_n (pc' := 46) (x := 0) dX11_text_45 rfl rfl ?_
      refine ow_aload_n (pc' := 47) (x := 0) dX11_text_46 rfl rfl ?_
      refine ow_getf3 (pc' := 50) (t := 3) (ji := 14) (val := 46) dX11_text_47 fRX11_76 rfl rfl rfl (of_eq_true eo0) eg0_14 ?_
      refine ow_getf3 (pc' := 53) (t := 0) (ji := 5) (val := N2 46 5) dX11_text_50 fRX11_129 rfl rfl rfl (of_eq_true eo46) eg46_5 ?_
      refine ow_putf2 (pc' := 56) (t := 0) (ji := 13) dX11_text_53 fRX11_38 rfl rfl rfl rfl (of_eq_true eo0) (of_eq_true en0_13) (fun hz => absurd hz (by decide)) (fun N3 eN3 => ?_)
      have h := h N3 eN3
      refine ow_aload_n (pc' := 57) (x := 0) dX11_text_56 rfl rfl ?_
      refine ow_iconst (pc' := 58) (n := 0) dX11_text_57 rfl rfl ?_
      refine ow_putf2 (pc' := 61) (t := 0) (ji := 6) dX11_text_58 fRX11_13 rfl rfl rfl rfl (of_eq_true eo0) (of_eq_true en0_6) (fun hz => absurd hz (by decide)) (fun N4 eN4 => ?_)
      have h := h N4 eN4
      refine ow_aload_n (pc' := 62) (x := 0) dX11_text_61 rfl rfl ?_
      refine ow_getf3 (pc' := 65) (t := 0) (ji := 12) (val := N4 0 12) dX11_text_62 fRX11_35 rfl rfl rfl (of_eq_true eo0) eg0_12 ?_
      refine ow_ifeq (pc' := 68) (tg := 70) dX11_text_65 rfl rfl (fun hc => ?_) (fun hc => ?_)
      · have h := h.1 hc
        refine ow_aload_n (pc' := 71) (x := 0) dX11_text_70 rfl rfl ?_
        refine ow_dup (pc' := 72) dX11_text_71 rfl rfl ?_
        refine ow_getf3 (pc' := 75) (t := 0) (ji := 8) (val := N4 0 8) dX11_text_72 fRX11_23 rfl rfl rfl (of_eq_true eo0) eg0_8 ?_
        refine ow_iconst (pc' := 76) (n := 1) dX11_text_75 rfl rfl ?_
        obtain ⟨vv2, h⟩ := h
        refine ow_iadd (pc' := 77) dX11_text_76 vv2 rfl ?_
        refine ow_putf2 (pc' := 80) (t := 0) (ji := 8) dX11_text_77 fRX11_23 rfl rfl rfl rfl (of_eq_true eo0) (of_eq_true en0_8) (fun hz => absurd hz (by decide)) (fun N5 eN5 => ?_)
        have h := h N5 eN5
        refine ow_aload_n (pc' := 81) (x := 0) dX11_text_80 rfl rfl ?_
        refine ow_getf3 (pc' := 84) (t := 0) (ji := 8) (val := N5 0 8) dX11_text_81 fRX11_23 rfl rfl rfl (of_eq_true eo0) eg0_8 ?_
        refine ow_iconst (pc' := 85) (n := 1) dX11_text_84 rfl rfl ?_
        obtain ⟨vv3, h⟩ := h
        refine ow_isub (pc' := 86) dX11_text_85 vv3 rfl ?_
        exact ow_iret dX11_text_86 rfl rfl h
      · have h := h.2 hc
        refine ow_iconst (pc' := 69) (n := (-1)) dX11_text_68 rfl rfl ?_
        exact ow_iret dX11_text_69 rfl rfl h
    · have h := h.2 hc
      refine ow_iconst (pc' := 16) (n := (-1)) dX11_text_15 rfl rfl ?_
      exact ow_iret dX11_text_16 rfl rfl h
theorem fX11_text {C : ow_C} {A L N : Int} {d : Nat} {M : ow_M} {K : Int → ow_M → Prop} (h : ((M 0 8) < 0 → K ((-1)) M) ∧ (0 ≤ (M 0 8) → ((M 0 8) < 4 → (0 ≤ (M 0 8) ∧ (M 0 8) < 4) ∧ ow_Sp C (EM A L N) d mX6_read (0, 0) [(3, 46), (3, 1), (0, M 0 6), (3, 22 + 6 * (M 0 8))] M (fun r1 N1 => ∀ N2, N2 = ow_up N1 0 12 r1 → ∀ N3, N3 = ow_up N2 0 13 (N2 46 5) → ∀ N4, N4 = ow_up N3 0 6 0 → ((N4 0 12) = 0 → ow_I ((N4 0 8) + 1) ∧ ∀ N5, N5 = ow_up N4 0 8 ((N4 0 8) + 1) → ow_I ((N5 0 8) - 1) ∧ K ((N5 0 8) - 1) N5) ∧ ((N4 0 12) ≠ 0 → K ((-1)) N4))) ∧ (4 ≤ (M 0 8) → K ((-1)) M))) : ow_Sp C (EM A L N) (d + 1) mX11_text (0, 0) [(3, 0)] M K := ow_enter (by decide +kernel) rfl rfl (cX11_text_0 h)
set_option maxRecDepth 20000 in
theorem cX11_fault_0 {C : ow_C} {A L N : Int} {d : Nat} {M : ow_M} {K : Int → ow_M → Prop} {l1 : Int} (h : (l1 ≠ 0 → (l1 ≠ 1 → K ((-1)) M) ∧ (l1 = 1 → K (M 0 13) M)) ∧ (l1 = 0 → K (M 0 12) M)) : ow_At C (EM A L N) d mX11_fault 0 [(0, (3, 0)), (1, (0, l1))] [] (0, 0) M K := by
  refine ow_iload_n (pc' := 1) (x := l1) dX11_fault_0 rfl rfl ?_
  refine ow_ifne (pc' := 4) (tg := 9) dX11_fault_1 rfl rfl (fun hc => ?_) (fun hc => ?_)
  · have h := h.1 hc
    refine ow_iload_n (pc' := 10) (x := l1) dX11_fault_9 rfl rfl ?_
    refine ow_iconst (pc' := 11) (n := 1) dX11_fault_10 rfl rfl ?_
    refine ow_icmpne (pc' := 14) (tg := 21) dX11_fault_11 rfl rfl (fun hc => ?_) (fun hc => ?_)
    · have h := h.1 hc
      refine ow_iconst (pc' := 22) (n := (-1)) dX11_fault_21 rfl rfl ?_
      exact ow_iret dX11_fault_22 rfl rfl h
    · have h := h.2 hc
      refine ow_aload_n (pc' := 15) (x := 0) dX11_fault_14 rfl rfl ?_
      refine ow_getf3 (pc' := 18) (t := 0) (ji := 13) (val := M 0 13) dX11_fault_15 fRX11_38 rfl rfl rfl (of_eq_true eo0) eg0_13 ?_
      refine ow_goto (tg := 22) dX11_fault_18 rfl ?_
      exact ow_iret dX11_fault_22 rfl rfl h
  · have h := h.2 hc
    refine ow_aload_n (pc' := 5) (x := 0) dX11_fault_4 rfl rfl ?_
    refine ow_getf3 (pc' := 8) (t := 0) (ji := 12) (val := M 0 12) dX11_fault_5 fRX11_35 rfl rfl rfl (of_eq_true eo0) eg0_12 ?_
    exact ow_iret dX11_fault_8 rfl rfl h
theorem fX11_fault {C : ow_C} {A L N : Int} {d : Nat} {M : ow_M} {K : Int → ow_M → Prop} {l1 : Int} (h : (l1 ≠ 0 → (l1 ≠ 1 → K ((-1)) M) ∧ (l1 = 1 → K (M 0 13) M)) ∧ (l1 = 0 → K (M 0 12) M)) : ow_Sp C (EM A L N) d mX11_fault (0, 0) [(3, 0), (0, l1)] M K := ow_enter (by decide +kernel) rfl rfl (cX11_fault_0 h)
set_option maxRecDepth 20000 in
theorem cX11_by_0 {C : ow_C} {A L N : Int} {d : Nat} {M : ow_M} {K : Int → ow_M → Prop} {l1 : Int} (h : (l1 = ((-1)) → ow_At C (EM A L N) (d + 1) mX11_by 15 [(0, (3, 0)), (1, (0, l1))] [] (0, 0) M K) ∧ (l1 ≠ ((-1)) → ow_Sp C (EM A L N) d mX11_isText (0, 0) [(3, 0), (0, l1)] M (fun r1 N1 => (r1 ≠ 0 → ow_At C (EM A L N) (d + 1) mX11_by 15 [(0, (3, 0)), (1, (0, l1))] [] (0, 0) N1 K) ∧ (r1 = 0 → K 0 N1)))) : ow_At C (EM A L N) (d + 1) mX11_by 0 [(0, (3, 0)), (1, (0, l1))] [] (0, 0) M K := by
  refine ow_iload_n (pc' := 1) (x := l1) dX11_by_0 rfl rfl ?_
  refine ow_iconst (pc' := 2) (n := (-1)) dX11_by_1 rfl rfl ?_
  refine ow_icmpeq (pc' := 5) (tg := 15) dX11_by_2 rfl rfl (fun hc => ?_) (fun hc => ?_)
  · have h := h.1 hc
    exact h
  · have h := h.2 hc
    refine ow_aload_n (pc' := 6) (x := 0) dX11_by_5 rfl rfl ?_
    refine ow_iload_n (pc' := 7) (x := l1) dX11_by_6 rfl rfl ?_
    refine ow_callVp (z := mX11_isText) (n := 1) (k := 11) (vs := [(0, l1)]) (x := 0) (st := []) (pc' := 10) (b1 := (0, 0)) (b2 := (0, 0)) dX11_by_7 lRX11_132 kX11_isText iX11_isText rfl rfl rfl rfl rfl rfl (of_eq_true eo0) (ow_Sp.mono h (fun r1 N1 h => ?_))
    refine ow_ifne (pc' := 13) (tg := 15) dX11_by_10 rfl rfl (fun hc => ?_) (fun hc => ?_)
    · have h := h.1 hc
      exact h
    · have h := h.2 hc
      refine ow_iconst (pc' := 14) (n := 0) dX11_by_13 rfl rfl ?_
      exact ow_zret dX11_by_14 rfl rfl (Or.inl rfl) h
set_option maxRecDepth 20000 in
theorem cX11_by_15 {C : ow_C} {A L N : Int} {d : Nat} {M : ow_M} {K : Int → ow_M → Prop} {l1 : Int} (h : ow_Sp C (EM A L N) d mX11_rule (0, 0) [(3, 0), (0, l1)] M (fun r1 N1 => K 1 N1)) : ow_At C (EM A L N) (d + 1) mX11_by 15 [(0, (3, 0)), (1, (0, l1))] [] (0, 0) M K := by
  refine ow_aload_n (pc' := 16) (x := 0) dX11_by_15 rfl rfl ?_
  refine ow_iload_n (pc' := 17) (x := l1) dX11_by_16 rfl rfl ?_
  refine ow_callVv (z := mX11_rule) (n := 1) (k := 11) (vs := [(0, l1)]) (x := 0) (st := []) (pc' := 20) (b1 := (0, 0)) (b2 := (0, 0)) dX11_by_17 lRX11_135 kX11_rule iX11_rule rfl rfl rfl rfl rfl rfl (of_eq_true eo0) (ow_Sp.mono h (fun r1 N1 h => ?_))
  refine ow_iconst (pc' := 21) (n := 1) dX11_by_20 rfl rfl ?_
  exact ow_zret dX11_by_21 rfl rfl (Or.inr rfl) h
theorem fX11_by {C : ow_C} {A L N : Int} {d : Nat} {M : ow_M} {K : Int → ow_M → Prop} {l1 : Int} (h : (l1 = ((-1)) → ow_At C (EM A L N) (d + 1) mX11_by 15 [(0, (3, 0)), (1, (0, l1))] [] (0, 0) M K) ∧ (l1 ≠ ((-1)) → ow_Sp C (EM A L N) d mX11_isText (0, 0) [(3, 0), (0, l1)] M (fun r1 N1 => (r1 ≠ 0 → ow_At C (EM A L N) (d + 1) mX11_by 15 [(0, (3, 0)), (1, (0, l1))] [] (0, 0) N1 K) ∧ (r1 = 0 → K 0 N1)))) : ow_Sp C (EM A L N) (d + 1) mX11_by (0, 0) [(3, 0), (0, l1)] M K := ow_enter (by decide +kernel) rfl rfl (cX11_by_0 h)
set_option maxRecDepth 20000 in
theorem cX11_filled_0 {C : ow_C} {A L N : Int} {d : Nat} {M : ow_M} {K : Int → ow_M → Prop} {l1 : Int} (h : ow_Sp C (EM A L N) d mX11_isText (0, 0) [(3, 0), (0, l1)] M (fun r1 N1 => (r1 ≠ 0 → (0 ≤ l1 ∧ l1 < 4) ∧ ow_At C (EM A L N) (d + 1) mX11_filled 22 [(0, (3, 0)), (2, (3, 22 + 6 * l1)), (3, (0, 0)), (4, (0, 0))] [] (0, 0) N1 K) ∧ (r1 = 0 → K ((-1)) N1))) : ow_At C (EM A L N) (d + 1) mX11_filled 0 [(0, (3, 0)), (1, (0, l1))] [] (0, 0) M K := by
  refine ow_aload_n (pc' := 1) (x := 0) dX11_filled_0 rfl rfl ?_
  refine ow_iload_n (pc' := 2) (x := l1) dX11_filled_1 rfl rfl ?_
  refine ow_callVp (z := mX11_isText) (n := 1) (k := 11) (vs := [(0, l1)]) (x := 0) (st := []) (pc' := 5) (b1 := (0, 0)) (b2 := (0, 0)) dX11_filled_2 lRX11_132 kX11_isText iX11_isText rfl rfl rfl rfl rfl rfl (of_eq_true eo0) (ow_Sp.mono h (fun r1 N1 h => ?_))
  refine ow_ifne (pc' := 8) (tg := 10) dX11_filled_5 rfl rfl (fun hc => ?_) (fun hc => ?_)
  · have h := h.1 hc
    refine ow_aload_n (pc' := 11) (x := 0) dX11_filled_10 rfl rfl ?_
    refine ow_getf3 (pc' := 14) (t := 3) (ji := 7) (val := 2) dX11_filled_11 fRX11_19 rfl rfl rfl (of_eq_true eo0) eg0_7 ?_
    refine ow_iload_n (pc' := 15) (x := l1) dX11_filled_14 rfl rfl ?_
    obtain ⟨vv1, h⟩ := h
    refine ow_aaload3 (pc' := 16) (t := 103) (val := 22 + 6 * l1) dX11_filled_15 rfl rfl (Eq.mpr (er2 _) vv1) (ea2 _) ?_
    refine ow_astore_n (pc' := 17) (lv' := [(0, (3, 0)), (1, (0, l1)), (2, (3, 22 + 6 * l1))]) dX11_filled_16 rfl rfl rfl ?_
    refine ow_iconst (pc' := 18) (n := 0) dX11_filled_17 rfl rfl ?_
    refine ow_istore_n (pc' := 19) (lv' := [(0, (3, 0)), (1, (0, l1)), (2, (3, 22 + 6 * l1)), (3, (0, 0))]) dX11_filled_18 rfl rfl rfl ?_
    refine ow_iconst (pc' := 20) (n := 0) dX11_filled_19 rfl rfl ?_
    refine ow_istore (pc' := 22) (lv' := [(0, (3, 0)), (1, (0, l1)), (2, (3, 22 + 6 * l1)), (3, (0, 0)), (4, (0, 0))]) dX11_filled_20 rfl rfl rfl ?_
    refine ow_sub (lv' := [(0, (3, 0)), (2, (3, 22 + 6 * l1)), (3, (0, 0)), (4, (0, 0))]) [0, 2, 3, 4] rfl ?_
    exact h
  · have h := h.2 hc
    refine ow_iconst (pc' := 9) (n := (-1)) dX11_filled_8 rfl rfl ?_
    exact ow_iret dX11_filled_9 rfl rfl h
set_option maxRecDepth 20000 in
theorem cX11_filled_22 {C : ow_C} {A L N : Int} {d : Nat} {M : ow_M} {K : Int → ow_M → Prop} {l2 l3 l4 : Int} (h : ow_O (EM A L N) M l2 7 ∧ ((ow_gv (EM A L N) M l2 11) ≤ l4 → K l3 M) ∧ (l4 < (ow_gv (EM A L N) M l2 11) → (24 ≤ l4 → K l3 M) ∧ (l4 < 24 → ow_O (EM A L N) M l2 7 ∧ ow_R (EM A L N) M (ow_gv (EM A L N) M l2 9) 100 l4 ∧ ow_O (EM A L N) M l2 7 ∧ ow_R (EM A L N) M (ow_gv (EM A L N) M l2 10) 100 l4 ∧ ow_Sp C (EM A L N) d mX0_add (0, 0) [(3, 6), (0, ow_gv (EM A L N) M (ow_gv (EM A L N) M l2 9) l4), (0, ow_gv (EM A L N) M (ow_gv (EM A L N) M l2 10) l4)] M (fun r1 N1 => (r1 = 0 → ow_I (l4 + 1) ∧ ow_At C (EM A L N) (d + 1) mX11_filled 22 [(0, (3, 0)), (2, (3, l2)), (3, (0, l3)), (4, (0, l4 + 1))] [] (0, 0) N1 K) ∧ (r1 ≠ 0 → ow_I (l3 + 1) ∧ ow_I (l4 + 1) ∧ ow_At C (EM A L N) (d + 1) mX11_filled 22 [(0, (3, 0)), (2, (3, l2)), (3, (0, l3 + 1)), (4, (0, l4 + 1))] [] (0, 0) N1 K))))) : ow_At C (EM A L N) (d + 1) mX11_filled 22 [(0, (3, 0)), (2, (3, l2)), (3, (0, l3)), (4, (0, l4))] [] (0, 0) M K := by
  refine ow_iload (pc' := 24) (x := l4) dX11_filled_22 rfl rfl ?_
  refine ow_aload_n (pc' := 25) (x := l2) dX11_filled_24 rfl rfl ?_
  obtain ⟨w, h⟩ := h
  refine ow_getf2 (pc' := 28) (t := 0) (ji := 11) dX11_filled_25 fRX11_138 rfl rfl rfl w ?_
  refine ow_icmpge (pc' := 31) (tg := 71) dX11_filled_28 rfl rfl (fun hc => ?_) (fun hc => ?_)
  · have h := h.1 hc
    refine ow_iload_n (pc' := 72) (x := l3) dX11_filled_71 rfl rfl ?_
    exact ow_iret dX11_filled_72 rfl rfl h
  · have h := h.2 hc
    refine ow_iload (pc' := 33) (x := l4) dX11_filled_31 rfl rfl ?_
    refine ow_bipush (pc' := 35) (n := 24) dX11_filled_33 rfl rfl ?_
    refine ow_icmpge (pc' := 38) (tg := 71) dX11_filled_35 rfl rfl (fun hc => ?_) (fun hc => ?_)
    · have h := h.1 hc
      refine ow_iload_n (pc' := 72) (x := l3) dX11_filled_71 rfl rfl ?_
      exact ow_iret dX11_filled_72 rfl rfl h
    · have h := h.2 hc
      refine ow_aload_n (pc' := 39) (x := 0) dX11_filled_38 rfl rfl ?_
      refine ow_getf3 (pc' := 42) (t := 3) (ji := 1) (val := 6) dX11_filled_39 fRX11_55 rfl rfl rfl (of_eq_true eo0) eg0_1 ?_
      refine ow_aload_n (pc' := 43) (x := l2) dX11_filled_42 rfl rfl ?_
      obtain ⟨w, h⟩ := h
      refine ow_getf2 (pc' := 46) (t := 3) (ji := 9) dX11_filled_43 fRX11_141 rfl rfl rfl w ?_
      refine ow_iload (pc' := 48) (x := l4) dX11_filled_46 rfl rfl ?_
      obtain ⟨w, h⟩ := h
      refine ow_iaload (pc' := 49) dX11_filled_48 rfl w ?_
      refine ow_aload_n (pc' := 50) (x := l2) dX11_filled_49 rfl rfl ?_
      obtain ⟨w, h⟩ := h
      refine ow_getf2 (pc' := 53) (t := 3) (ji := 10) dX11_filled_50 fRX11_144 rfl rfl rfl w ?_
      refine ow_iload (pc' := 55) (x := l4) dX11_filled_53 rfl rfl ?_
      obtain ⟨w, h⟩ := h
      refine ow_iaload (pc' := 56) dX11_filled_55 rfl w ?_
      refine ow_callVp (z := mX0_add) (n := 2) (k := 0) (vs := [(0, ow_gv (EM A L N) M (ow_gv (EM A L N) M l2 9) l4), (0, ow_gv (EM A L N) M (ow_gv (EM A L N) M l2 10) l4)]) (x := 6) (st := []) (pc' := 59) (b1 := (0, 0)) (b2 := (0, 0)) dX11_filled_56 lRX11_110 kX0_add iX0_add rfl rfl rfl rfl rfl rfl (of_eq_true eo6) (ow_Sp.mono h (fun r1 N1 h => ?_))
      refine ow_ifeq (pc' := 62) (tg := 65) dX11_filled_59 rfl rfl (fun hc => ?_) (fun hc => ?_)
      · have h := h.1 hc
        obtain ⟨vv1, h⟩ := h
        refine ow_iinc (pc' := 68) (lv' := [(0, (3, 0)), (2, (3, l2)), (3, (0, l3)), (4, (0, l4 + 1))]) dX11_filled_65 rfl vv1 rfl rfl rfl ?_
        refine ow_goto (tg := 22) dX11_filled_68 rfl ?_
        exact h
      · have h := h.2 hc
        obtain ⟨vv2, h⟩ := h
        refine ow_iinc (pc' := 65) (lv' := [(0, (3, 0)), (2, (3, l2)), (3, (0, l3 + 1)), (4, (0, l4))]) dX11_filled_62 rfl vv2 rfl rfl rfl ?_
        obtain ⟨vv3, h⟩ := h
        refine ow_iinc (pc' := 68) (lv' := [(0, (3, 0)), (2, (3, l2)), (3, (0, l3 + 1)), (4, (0, l4 + 1))]) dX11_filled_65 rfl vv3 rfl rfl rfl ?_
        refine ow_goto (tg := 22) dX11_filled_68 rfl ?_
        exact h
theorem fX11_filled {C : ow_C} {A L N : Int} {d : Nat} {M : ow_M} {K : Int → ow_M → Prop} {l1 : Int} (h : ow_Sp C (EM A L N) d mX11_isText (0, 0) [(3, 0), (0, l1)] M (fun r1 N1 => (r1 ≠ 0 → (0 ≤ l1 ∧ l1 < 4) ∧ ow_At C (EM A L N) (d + 1) mX11_filled 22 [(0, (3, 0)), (2, (3, 22 + 6 * l1)), (3, (0, 0)), (4, (0, 0))] [] (0, 0) N1 K) ∧ (r1 = 0 → K ((-1)) N1))) : ow_Sp C (EM A L N) (d + 1) mX11_filled (0, 0) [(3, 0), (0, l1)] M K := ow_enter (by decide +kernel) rfl rfl (cX11_filled_0 h)
set_option maxRecDepth 20000 in
theorem cX11_book_0 {C : ow_C} {A L N : Int} {d : Nat} {M : ow_M} {K : Int → ow_M → Prop} {l1 : Int} (h : (l1 ≠ ((-1)) → ow_Sp C (EM A L N) d mX0_has (0, 0) [(3, 6), (0, l1)] M (fun r1 N1 => (r1 = 0 → K ((-1)) N1) ∧ (r1 ≠ 0 → (0 ≤ l1 ∧ l1 < 40) ∧ K (N1 7 l1) N1))) ∧ (l1 = ((-1)) → K (M 6 4) M)) : ow_At C (EM A L N) (d + 1) mX11_book 0 [(0, (3, 0)), (1, (0, l1))] [] (0, 0) M K := by
  refine ow_iload_n (pc' := 1) (x := l1) dX11_book_0 rfl rfl ?_
  refine ow_iconst (pc' := 2) (n := (-1)) dX11_book_1 rfl rfl ?_
  refine ow_icmpne (pc' := 5) (tg := 13) dX11_book_2 rfl rfl (fun hc => ?_) (fun hc => ?_)
  · have h := h.1 hc
    refine ow_aload_n (pc' := 14) (x := 0) dX11_book_13 rfl rfl ?_
    refine ow_getf3 (pc' := 17) (t := 3) (ji := 1) (val := 6) dX11_book_14 fRX11_55 rfl rfl rfl (of_eq_true eo0) eg0_1 ?_
    refine ow_iload_n (pc' := 18) (x := l1) dX11_book_17 rfl rfl ?_
    refine ow_callVp (z := mX0_has) (n := 1) (k := 0) (vs := [(0, l1)]) (x := 6) (st := []) (pc' := 21) (b1 := (0, 0)) (b2 := (0, 0)) dX11_book_18 lRX11_147 kX0_has iX0_has rfl rfl rfl rfl rfl rfl (of_eq_true eo6) (ow_Sp.mono h (fun r1 N1 h => ?_))
    refine ow_ifeq (pc' := 24) (tg := 36) dX11_book_21 rfl rfl (fun hc => ?_) (fun hc => ?_)
    · have h := h.1 hc
      refine ow_iconst (pc' := 37) (n := (-1)) dX11_book_36 rfl rfl ?_
      exact ow_iret dX11_book_37 rfl rfl h
    · have h := h.2 hc
      refine ow_aload_n (pc' := 25) (x := 0) dX11_book_24 rfl rfl ?_
      refine ow_getf3 (pc' := 28) (t := 3) (ji := 1) (val := 6) dX11_book_25 fRX11_55 rfl rfl rfl (of_eq_true eo0) eg0_1 ?_
      refine ow_getf3 (pc' := 31) (t := 3) (ji := 1) (val := 7) dX11_book_28 fRX11_150 rfl rfl rfl (of_eq_true eo6) eg6_1 ?_
      refine ow_iload_n (pc' := 32) (x := l1) dX11_book_31 rfl rfl ?_
      obtain ⟨vv1, h⟩ := h
      refine ow_iaload3 (pc' := 33) (val := N1 7 l1) dX11_book_32 rfl (Eq.mpr (er7 _) vv1) (ea7 _) ?_
      refine ow_goto (tg := 37) dX11_book_33 rfl ?_
      exact ow_iret dX11_book_37 rfl rfl h
  · have h := h.2 hc
    refine ow_aload_n (pc' := 6) (x := 0) dX11_book_5 rfl rfl ?_
    refine ow_getf3 (pc' := 9) (t := 3) (ji := 1) (val := 6) dX11_book_6 fRX11_55 rfl rfl rfl (of_eq_true eo0) eg0_1 ?_
    refine ow_getf3 (pc' := 12) (t := 0) (ji := 4) (val := M 6 4) dX11_book_9 fRX11_114 rfl rfl rfl (of_eq_true eo6) eg6_4 ?_
    exact ow_iret dX11_book_12 rfl rfl h
theorem fX11_book {C : ow_C} {A L N : Int} {d : Nat} {M : ow_M} {K : Int → ow_M → Prop} {l1 : Int} (h : (l1 ≠ ((-1)) → ow_Sp C (EM A L N) d mX0_has (0, 0) [(3, 6), (0, l1)] M (fun r1 N1 => (r1 = 0 → K ((-1)) N1) ∧ (r1 ≠ 0 → (0 ≤ l1 ∧ l1 < 40) ∧ K (N1 7 l1) N1))) ∧ (l1 = ((-1)) → K (M 6 4) M)) : ow_Sp C (EM A L N) (d + 1) mX11_book (0, 0) [(3, 0), (0, l1)] M K := ow_enter (by decide +kernel) rfl rfl (cX11_book_0 h)
set_option maxRecDepth 20000 in
theorem cX11_bars_0 {C : ow_C} {A L N : Int} {d : Nat} {M : ow_M} {K : Int → ow_M → Prop} {l1 l2 l3 : Int} (h : ow_Sp C (EM A L N) d mX10_isWord (0, 0) [(3, 3), (0, l1)] M (fun r1 N1 => (r1 = 0 → K ((-1)) N1) ∧ (r1 ≠ 0 → ow_Sp C (EM A L N) d mX10_isWord (0, 0) [(3, 3), (0, l2)] N1 (fun r2 N2 => (r2 = 0 → K ((-1)) N2) ∧ (r2 ≠ 0 → ow_Sp C (EM A L N) d mX11_isHands (0, 0) [(0, l3)] N2 (fun r3 N3 => (r3 ≠ 0 → ow_Sp C (EM A L N) d mX10_unlike (0, 0) [(3, 3), (0, l1), (0, l2)] N3 (fun r4 N4 => ow_Sp C (EM A L N) d mX10_canTurn (0, 0) [(3, 3), (0, r4), (0, l3)] N4 (fun r5 N5 => (r5 ≠ 0 → ow_Sp C (EM A L N) d mX9_prepare (0, 0) [(3, 58), (0, l3)] N5 (fun r6 N6 => ow_Sp C (EM A L N) d mX5_trace (0, 0) [(3, 64), (0, l2), (0, l3), (0, l3)] N6 (fun r7 N7 => ow_Sp C (EM A L N) d mX5_leads (0, 0) [(3, 64), (0, l1)] N7 (fun r8 N8 => (r8 = 0 → K 2 N8) ∧ (r8 ≠ 0 → K 0 N8))))) ∧ (r5 = 0 → K 1 N5)))) ∧ (r3 = 0 → K ((-1)) N3))))))) : ow_At C (EM A L N) (d + 1) mX11_bars 0 [(0, (3, 0)), (1, (0, l1)), (2, (0, l2)), (3, (0, l3))] [] (0, 0) M K := by
  refine ow_aload_n (pc' := 1) (x := 0) dX11_bars_0 rfl rfl ?_
  refine ow_getf3 (pc' := 4) (t := 3) (ji := 0) (val := 3) dX11_bars_1 fRX11_46 rfl rfl rfl (of_eq_true eo0) eg0_0 ?_
  refine ow_iload_n (pc' := 5) (x := l1) dX11_bars_4 rfl rfl ?_
  refine ow_callVp (z := mX10_isWord) (n := 1) (k := 10) (vs := [(0, l1)]) (x := 3) (st := []) (pc' := 8) (b1 := (0, 0)) (b2 := (0, 0)) dX11_bars_5 lRX11_153 kX10_isWord iX10_isWord rfl rfl rfl rfl rfl rfl (of_eq_true eo3) (ow_Sp.mono h (fun r1 N1 h => ?_))
  refine ow_ifeq (pc' := 11) (tg := 29) dX11_bars_8 rfl rfl (fun hc => ?_) (fun hc => ?_)
  · have h := h.1 hc
    refine ow_iconst (pc' := 30) (n := (-1)) dX11_bars_29 rfl rfl ?_
    exact ow_iret dX11_bars_30 rfl rfl h
  · have h := h.2 hc
    refine ow_aload_n (pc' := 12) (x := 0) dX11_bars_11 rfl rfl ?_
    refine ow_getf3 (pc' := 15) (t := 3) (ji := 0) (val := 3) dX11_bars_12 fRX11_46 rfl rfl rfl (of_eq_true eo0) eg0_0 ?_
    refine ow_iload_n (pc' := 16) (x := l2) dX11_bars_15 rfl rfl ?_
    refine ow_callVp (z := mX10_isWord) (n := 1) (k := 10) (vs := [(0, l2)]) (x := 3) (st := []) (pc' := 19) (b1 := (0, 0)) (b2 := (0, 0)) dX11_bars_16 lRX11_153 kX10_isWord iX10_isWord rfl rfl rfl rfl rfl rfl (of_eq_true eo3) (ow_Sp.mono h (fun r2 N2 h => ?_))
    refine ow_ifeq (pc' := 22) (tg := 29) dX11_bars_19 rfl rfl (fun hc => ?_) (fun hc => ?_)
    · have h := h.1 hc
      refine ow_iconst (pc' := 30) (n := (-1)) dX11_bars_29 rfl rfl ?_
      exact ow_iret dX11_bars_30 rfl rfl h
    · have h := h.2 hc
      refine ow_iload_n (pc' := 23) (x := l3) dX11_bars_22 rfl rfl ?_
      refine ow_callSp (z := mX11_isHands) (n := 1) (vs := [(0, l3)]) (st := []) (pc' := 26) (b1 := (0, 0)) (b2 := (0, 0)) dX11_bars_23 lRX11_156 kX11_isHands zX11_isHands rfl rfl rfl rfl rfl rfl (ow_Sp.mono h (fun r3 N3 h => ?_))
      refine ow_ifne (pc' := 29) (tg := 31) dX11_bars_26 rfl rfl (fun hc => ?_) (fun hc => ?_)
      · have h := h.1 hc
        refine ow_aload_n (pc' := 32) (x := 0) dX11_bars_31 rfl rfl ?_
        refine ow_getf3 (pc' := 35) (t := 3) (ji := 0) (val := 3) dX11_bars_32 fRX11_46 rfl rfl rfl (of_eq_true eo0) eg0_0 ?_
        refine ow_aload_n (pc' := 36) (x := 0) dX11_bars_35 rfl rfl ?_
        refine ow_getf3 (pc' := 39) (t := 3) (ji := 0) (val := 3) dX11_bars_36 fRX11_46 rfl rfl rfl (of_eq_true eo0) eg0_0 ?_
        refine ow_iload_n (pc' := 40) (x := l1) dX11_bars_39 rfl rfl ?_
        refine ow_iload_n (pc' := 41) (x := l2) dX11_bars_40 rfl rfl ?_
        refine ow_callVp (z := mX10_unlike) (n := 2) (k := 10) (vs := [(0, l1), (0, l2)]) (x := 3) (st := [(3, 3)]) (pc' := 44) (b1 := (0, 0)) (b2 := (0, 0)) dX11_bars_41 lRX11_159 kX10_unlike iX10_unlike rfl rfl rfl rfl rfl rfl (of_eq_true eo3) (ow_Sp.mono h (fun r4 N4 h => ?_))
        refine ow_iload_n (pc' := 45) (x := l3) dX11_bars_44 rfl rfl ?_
        refine ow_callVp (z := mX10_canTurn) (n := 2) (k := 10) (vs := [(0, r4), (0, l3)]) (x := 3) (st := []) (pc' := 48) (b1 := (0, 0)) (b2 := (0, 0)) dX11_bars_45 lRX11_163 kX10_canTurn iX10_canTurn rfl rfl rfl rfl rfl rfl (of_eq_true eo3) (ow_Sp.mono h (fun r5 N5 h => ?_))
        refine ow_ifne (pc' := 51) (tg := 53) dX11_bars_48 rfl rfl (fun hc => ?_) (fun hc => ?_)
        · have h := h.1 hc
          refine ow_aload_n (pc' := 54) (x := 0) dX11_bars_53 rfl rfl ?_
          refine ow_getf3 (pc' := 57) (t := 3) (ji := 15) (val := 58) dX11_bars_54 fRX11_83 rfl rfl rfl (of_eq_true eo0) eg0_15 ?_
          refine ow_iload_n (pc' := 58) (x := l3) dX11_bars_57 rfl rfl ?_
          refine ow_callVv (z := mX9_prepare) (n := 1) (k := 9) (vs := [(0, l3)]) (x := 58) (st := []) (pc' := 61) (b1 := (0, 0)) (b2 := (0, 0)) dX11_bars_58 lRX11_166 kX9_prepare iX9_prepare rfl rfl rfl rfl rfl rfl (of_eq_true eo58) (ow_Sp.mono h (fun r6 N6 h => ?_))
          refine ow_aload_n (pc' := 62) (x := 0) dX11_bars_61 rfl rfl ?_
          refine ow_getf3 (pc' := 65) (t := 3) (ji := 16) (val := 64) dX11_bars_62 fRX11_92 rfl rfl rfl (of_eq_true eo0) eg0_16 ?_
          refine ow_iload_n (pc' := 66) (x := l2) dX11_bars_65 rfl rfl ?_
          refine ow_iload_n (pc' := 67) (x := l3) dX11_bars_66 rfl rfl ?_
          refine ow_iload_n (pc' := 68) (x := l3) dX11_bars_67 rfl rfl ?_
          refine ow_callVv (z := mX5_trace) (n := 3) (k := 5) (vs := [(0, l2), (0, l3), (0, l3)]) (x := 64) (st := []) (pc' := 71) (b1 := (0, 0)) (b2 := (0, 0)) dX11_bars_68 lRX11_169 kX5_trace iX5_trace rfl rfl rfl rfl rfl rfl (of_eq_true eo64) (ow_Sp.mono h (fun r7 N7 h => ?_))
          refine ow_aload_n (pc' := 72) (x := 0) dX11_bars_71 rfl rfl ?_
          refine ow_getf3 (pc' := 75) (t := 3) (ji := 16) (val := 64) dX11_bars_72 fRX11_92 rfl rfl rfl (of_eq_true eo0) eg0_16 ?_
          refine ow_iload_n (pc' := 76) (x := l1) dX11_bars_75 rfl rfl ?_
          refine ow_callVp (z := mX5_leads) (n := 1) (k := 5) (vs := [(0, l1)]) (x := 64) (st := []) (pc' := 79) (b1 := (0, 0)) (b2 := (0, 0)) dX11_bars_76 lRX11_173 kX5_leads iX5_leads rfl rfl rfl rfl rfl rfl (of_eq_true eo64) (ow_Sp.mono h (fun r8 N8 h => ?_))
          refine ow_ifeq (pc' := 82) (tg := 86) dX11_bars_79 rfl rfl (fun hc => ?_) (fun hc => ?_)
          · have h := h.1 hc
            refine ow_iconst (pc' := 87) (n := 2) dX11_bars_86 rfl rfl ?_
            exact ow_iret dX11_bars_87 rfl rfl h
          · have h := h.2 hc
            refine ow_iconst (pc' := 83) (n := 0) dX11_bars_82 rfl rfl ?_
            refine ow_goto (tg := 87) dX11_bars_83 rfl ?_
            exact ow_iret dX11_bars_87 rfl rfl h
        · have h := h.2 hc
          refine ow_iconst (pc' := 52) (n := 1) dX11_bars_51 rfl rfl ?_
          exact ow_iret dX11_bars_52 rfl rfl h
      · have h := h.2 hc
        refine ow_iconst (pc' := 30) (n := (-1)) dX11_bars_29 rfl rfl ?_
        exact ow_iret dX11_bars_30 rfl rfl h
theorem fX11_bars {C : ow_C} {A L N : Int} {d : Nat} {M : ow_M} {K : Int → ow_M → Prop} {l1 l2 l3 : Int} (h : ow_Sp C (EM A L N) d mX10_isWord (0, 0) [(3, 3), (0, l1)] M (fun r1 N1 => (r1 = 0 → K ((-1)) N1) ∧ (r1 ≠ 0 → ow_Sp C (EM A L N) d mX10_isWord (0, 0) [(3, 3), (0, l2)] N1 (fun r2 N2 => (r2 = 0 → K ((-1)) N2) ∧ (r2 ≠ 0 → ow_Sp C (EM A L N) d mX11_isHands (0, 0) [(0, l3)] N2 (fun r3 N3 => (r3 ≠ 0 → ow_Sp C (EM A L N) d mX10_unlike (0, 0) [(3, 3), (0, l1), (0, l2)] N3 (fun r4 N4 => ow_Sp C (EM A L N) d mX10_canTurn (0, 0) [(3, 3), (0, r4), (0, l3)] N4 (fun r5 N5 => (r5 ≠ 0 → ow_Sp C (EM A L N) d mX9_prepare (0, 0) [(3, 58), (0, l3)] N5 (fun r6 N6 => ow_Sp C (EM A L N) d mX5_trace (0, 0) [(3, 64), (0, l2), (0, l3), (0, l3)] N6 (fun r7 N7 => ow_Sp C (EM A L N) d mX5_leads (0, 0) [(3, 64), (0, l1)] N7 (fun r8 N8 => (r8 = 0 → K 2 N8) ∧ (r8 ≠ 0 → K 0 N8))))) ∧ (r5 = 0 → K 1 N5)))) ∧ (r3 = 0 → K ((-1)) N3))))))) : ow_Sp C (EM A L N) (d + 1) mX11_bars (0, 0) [(3, 0), (0, l1), (0, l2), (0, l3)] M K := ow_enter (by decide +kernel) rfl rfl (cX11_bars_0 h)
set_option maxRecDepth 20000 in
theorem cX11_ways_0 {C : ow_C} {A L N : Int} {d : Nat} {M : ow_M} {K : Int → ow_M → Prop} {l1 l2 l3 : Int} (h : ow_Sp C (EM A L N) d mX10_isWord (0, 0) [(3, 3), (0, l1)] M (fun r1 N1 => (r1 = 0 → K ((-1)) N1) ∧ (r1 ≠ 0 → ow_Sp C (EM A L N) d mX10_isWord (0, 0) [(3, 3), (0, l2)] N1 (fun r2 N2 => (r2 = 0 → K ((-1)) N2) ∧ (r2 ≠ 0 → ow_Sp C (EM A L N) d mX11_isHands (0, 0) [(0, l3)] N2 (fun r3 N3 => (r3 ≠ 0 → ow_Sp C (EM A L N) d mX9_prepare (0, 0) [(3, 58), (0, l3)] N3 (fun r4 N4 => ow_Sp C (EM A L N) d mX2_count (0, 0) [(3, 77), (0, l2), (0, l3)] N4 (fun r5 N5 => ow_Sp C (EM A L N) d mX2_waysOf (0, 0) [(3, 77), (0, l1)] N5 (fun r6 N6 => K r6 N6)))) ∧ (r3 = 0 → K ((-1)) N3))))))) : ow_At C (EM A L N) (d + 1) mX11_ways 0 [(0, (3, 0)), (1, (0, l1)), (2, (0, l2)), (3, (0, l3))] [] (0, 0) M K := by
  refine ow_aload_n (pc' := 1) (x := 0) dX11_ways_0 rfl rfl ?_
  refine ow_getf3 (pc' := 4) (t := 3) (ji := 0) (val := 3) dX11_ways_1 fRX11_46 rfl rfl rfl (of_eq_true eo0) eg0_0 ?_
  refine ow_iload_n (pc' := 5) (x := l1) dX11_ways_4 rfl rfl ?_
  refine ow_callVp (z := mX10_isWord) (n := 1) (k := 10) (vs := [(0, l1)]) (x := 3) (st := []) (pc' := 8) (b1 := (0, 0)) (b2 := (0, 0)) dX11_ways_5 lRX11_153 kX10_isWord iX10_isWord rfl rfl rfl rfl rfl rfl (of_eq_true eo3) (ow_Sp.mono h (fun r1 N1 h => ?_))
  refine ow_ifeq (pc' := 11) (tg := 29) dX11_ways_8 rfl rfl (fun hc => ?_) (fun hc => ?_)
  · have h := h.1 hc
    refine ow_ldc2 (pc' := 32) (n := (-1)) dX11_ways_29 cRX11_176 rfl rfl ?_
    exact ow_lret dX11_ways_32 rfl rfl h
  · have h := h.2 hc
    refine ow_aload_n (pc' := 12) (x := 0) dX11_ways_11 rfl rfl ?_
    refine ow_getf3 (pc' := 15) (t := 3) (ji := 0) (val := 3) dX11_ways_12 fRX11_46 rfl rfl rfl (of_eq_true eo0) eg0_0 ?_
    refine ow_iload_n (pc' := 16) (x := l2) dX11_ways_15 rfl rfl ?_
    refine ow_callVp (z := mX10_isWord) (n := 1) (k := 10) (vs := [(0, l2)]) (x := 3) (st := []) (pc' := 19) (b1 := (0, 0)) (b2 := (0, 0)) dX11_ways_16 lRX11_153 kX10_isWord iX10_isWord rfl rfl rfl rfl rfl rfl (of_eq_true eo3) (ow_Sp.mono h (fun r2 N2 h => ?_))
    refine ow_ifeq (pc' := 22) (tg := 29) dX11_ways_19 rfl rfl (fun hc => ?_) (fun hc => ?_)
    · have h := h.1 hc
      refine ow_ldc2 (pc' := 32) (n := (-1)) dX11_ways_29 cRX11_176 rfl rfl ?_
      exact ow_lret dX11_ways_32 rfl rfl h
    · have h := h.2 hc
      refine ow_iload_n (pc' := 23) (x := l3) dX11_ways_22 rfl rfl ?_
      refine ow_callSp (z := mX11_isHands) (n := 1) (vs := [(0, l3)]) (st := []) (pc' := 26) (b1 := (0, 0)) (b2 := (0, 0)) dX11_ways_23 lRX11_156 kX11_isHands zX11_isHands rfl rfl rfl rfl rfl rfl (ow_Sp.mono h (fun r3 N3 h => ?_))
      refine ow_ifne (pc' := 29) (tg := 33) dX11_ways_26 rfl rfl (fun hc => ?_) (fun hc => ?_)
      · have h := h.1 hc
        refine ow_aload_n (pc' := 34) (x := 0) dX11_ways_33 rfl rfl ?_
        refine ow_getf3 (pc' := 37) (t := 3) (ji := 15) (val := 58) dX11_ways_34 fRX11_83 rfl rfl rfl (of_eq_true eo0) eg0_15 ?_
        refine ow_iload_n (pc' := 38) (x := l3) dX11_ways_37 rfl rfl ?_
        refine ow_callVv (z := mX9_prepare) (n := 1) (k := 9) (vs := [(0, l3)]) (x := 58) (st := []) (pc' := 41) (b1 := (0, 0)) (b2 := (0, 0)) dX11_ways_38 lRX11_166 kX9_prepare iX9_prepare rfl rfl rfl rfl rfl rfl (of_eq_true eo58) (ow_Sp.mono h (fun r4 N4 h => ?_))
        refine ow_aload_n (pc' := 42) (x := 0) dX11_ways_41 rfl rfl ?_
        refine ow_getf3 (pc' := 45) (t := 3) (ji := 17) (val := 77) dX11_ways_42 fRX11_99 rfl rfl rfl (of_eq_true eo0) eg0_17 ?_
        refine ow_iload_n (pc' := 46) (x := l2) dX11_ways_45 rfl rfl ?_
        refine ow_iload_n (pc' := 47) (x := l3) dX11_ways_46 rfl rfl ?_
        refine ow_callVv (z := mX2_count) (n := 2) (k := 2) (vs := [(0, l2), (0, l3)]) (x := 77) (st := []) (pc' := 50) (b1 := (0, 0)) (b2 := (0, 0)) dX11_ways_47 lRX11_178 kX2_count iX2_count rfl rfl rfl rfl rfl rfl (of_eq_true eo77) (ow_Sp.mono h (fun r5 N5 h => ?_))
        refine ow_aload_n (pc' := 51) (x := 0) dX11_ways_50 rfl rfl ?_
        refine ow_getf3 (pc' := 54) (t := 3) (ji := 17) (val := 77) dX11_ways_51 fRX11_99 rfl rfl rfl (of_eq_true eo0) eg0_17 ?_
        refine ow_iload_n (pc' := 55) (x := l1) dX11_ways_54 rfl rfl ?_
        refine ow_callVp (z := mX2_waysOf) (n := 1) (k := 2) (vs := [(0, l1)]) (x := 77) (st := []) (pc' := 58) (b1 := (0, 0)) (b2 := (0, 0)) dX11_ways_55 lRX11_181 kX2_waysOf iX2_waysOf rfl rfl rfl rfl rfl rfl (of_eq_true eo77) (ow_Sp.mono h (fun r6 N6 h => ?_))
        exact ow_lret dX11_ways_58 rfl rfl h
      · have h := h.2 hc
        refine ow_ldc2 (pc' := 32) (n := (-1)) dX11_ways_29 cRX11_176 rfl rfl ?_
        exact ow_lret dX11_ways_32 rfl rfl h
theorem fX11_ways {C : ow_C} {A L N : Int} {d : Nat} {M : ow_M} {K : Int → ow_M → Prop} {l1 l2 l3 : Int} (h : ow_Sp C (EM A L N) d mX10_isWord (0, 0) [(3, 3), (0, l1)] M (fun r1 N1 => (r1 = 0 → K ((-1)) N1) ∧ (r1 ≠ 0 → ow_Sp C (EM A L N) d mX10_isWord (0, 0) [(3, 3), (0, l2)] N1 (fun r2 N2 => (r2 = 0 → K ((-1)) N2) ∧ (r2 ≠ 0 → ow_Sp C (EM A L N) d mX11_isHands (0, 0) [(0, l3)] N2 (fun r3 N3 => (r3 ≠ 0 → ow_Sp C (EM A L N) d mX9_prepare (0, 0) [(3, 58), (0, l3)] N3 (fun r4 N4 => ow_Sp C (EM A L N) d mX2_count (0, 0) [(3, 77), (0, l2), (0, l3)] N4 (fun r5 N5 => ow_Sp C (EM A L N) d mX2_waysOf (0, 0) [(3, 77), (0, l1)] N5 (fun r6 N6 => K r6 N6)))) ∧ (r3 = 0 → K ((-1)) N3))))))) : ow_Sp C (EM A L N) (d + 1) mX11_ways (0, 0) [(3, 0), (0, l1), (0, l2), (0, l3)] M K := ow_enter (by decide +kernel) rfl rfl (cX11_ways_0 h)
set_option maxRecDepth 20000 in
theorem cX11_row_0 {C : ow_C} {A L N : Int} {d : Nat} {M : ow_M} {K : Int → ow_M → Prop} {l1 l2 l3 l4 : Int} (h : ow_Sp C (EM A L N) d mX10_isWord (0, 0) [(3, 3), (0, l1)] M (fun r1 N1 => (r1 = 0 → K ((-1)) N1) ∧ (r1 ≠ 0 → ow_Sp C (EM A L N) d mX10_isWord (0, 0) [(3, 3), (0, l2)] N1 (fun r2 N2 => (r2 = 0 → K ((-1)) N2) ∧ (r2 ≠ 0 → ow_Sp C (EM A L N) d mX11_isHands (0, 0) [(0, l3)] N2 (fun r3 N3 => (r3 = 0 → K ((-1)) N3) ∧ (r3 ≠ 0 → (l4 < 0 → K ((-1)) N3) ∧ (0 ≤ l4 → (l4 < l3 → ow_Sp C (EM A L N) d mX9_prepare (0, 0) [(3, 58), (0, l3)] N3 (fun r4 N4 => ow_Sp C (EM A L N) d mX5_trace (0, 0) [(3, 64), (0, l2), (0, l3), (0, l3)] N4 (fun r5 N5 => ow_Sp C (EM A L N) d mX5_leads (0, 0) [(3, 64), (0, l1)] N5 (fun r6 N6 => (r6 = 0 → K ((-1)) N6) ∧ (r6 ≠ 0 → ow_Sp C (EM A L N) d mX5_firstDeed (0, 0) [(3, 64), (0, l1), (0, l4)] N6 (fun r7 N7 => K r7 N7)))))) ∧ (l3 ≤ l4 → K ((-1)) N3))))))))) : ow_At C (EM A L N) (d + 1) mX11_row 0 [(0, (3, 0)), (1, (0, l1)), (2, (0, l2)), (3, (0, l3)), (4, (0, l4))] [] (0, 0) M K := by
  refine ow_aload_n (pc' := 1) (x := 0) dX11_row_0 rfl rfl ?_
  refine ow_getf3 (pc' := 4) (t := 3) (ji := 0) (val := 3) dX11_row_1 fRX11_46 rfl rfl rfl (of_eq_true eo0) eg0_0 ?_
  refine ow_iload_n (pc' := 5) (x := l1) dX11_row_4 rfl rfl ?_
  refine ow_callVp (z := mX10_isWord) (n := 1) (k := 10) (vs := [(0, l1)]) (x := 3) (st := []) (pc' := 8) (b1 := (0, 0)) (b2 := (0, 0)) dX11_row_5 lRX11_153 kX10_isWord iX10_isWord rfl rfl rfl rfl rfl rfl (of_eq_true eo3) (ow_Sp.mono h (fun r1 N1 h => ?_))
  refine ow_ifeq (pc' := 11) (tg := 40) dX11_row_8 rfl rfl (fun hc => ?_) (fun hc => ?_)
  · have h := h.1 hc
    refine ow_iconst (pc' := 41) (n := (-1)) dX11_row_40 rfl rfl ?_
    exact ow_iret dX11_row_41 rfl rfl h
  · have h := h.2 hc
    refine ow_aload_n (pc' := 12) (x := 0) dX11_row_11 rfl rfl ?_
    refine ow_getf3 (pc' := 15) (t := 3) (ji := 0) (val := 3) dX11_row_12 fRX11_46 rfl rfl rfl (of_eq_true eo0) eg0_0 ?_
    refine ow_iload_n (pc' := 16) (x := l2) dX11_row_15 rfl rfl ?_
    refine ow_callVp (z := mX10_isWord) (n := 1) (k := 10) (vs := [(0, l2)]) (x := 3) (st := []) (pc' := 19) (b1 := (0, 0)) (b2 := (0, 0)) dX11_row_16 lRX11_153 kX10_isWord iX10_isWord rfl rfl rfl rfl rfl rfl (of_eq_true eo3) (ow_Sp.mono h (fun r2 N2 h => ?_))
    refine ow_ifeq (pc' := 22) (tg := 40) dX11_row_19 rfl rfl (fun hc => ?_) (fun hc => ?_)
    · have h := h.1 hc
      refine ow_iconst (pc' := 41) (n := (-1)) dX11_row_40 rfl rfl ?_
      exact ow_iret dX11_row_41 rfl rfl h
    · have h := h.2 hc
      refine ow_iload_n (pc' := 23) (x := l3) dX11_row_22 rfl rfl ?_
      refine ow_callSp (z := mX11_isHands) (n := 1) (vs := [(0, l3)]) (st := []) (pc' := 26) (b1 := (0, 0)) (b2 := (0, 0)) dX11_row_23 lRX11_156 kX11_isHands zX11_isHands rfl rfl rfl rfl rfl rfl (ow_Sp.mono h (fun r3 N3 h => ?_))
      refine ow_ifeq (pc' := 29) (tg := 40) dX11_row_26 rfl rfl (fun hc => ?_) (fun hc => ?_)
      · have h := h.1 hc
        refine ow_iconst (pc' := 41) (n := (-1)) dX11_row_40 rfl rfl ?_
        exact ow_iret dX11_row_41 rfl rfl h
      · have h := h.2 hc
        refine ow_iload (pc' := 31) (x := l4) dX11_row_29 rfl rfl ?_
        refine ow_iflt (pc' := 34) (tg := 40) dX11_row_31 rfl rfl (fun hc => ?_) (fun hc => ?_)
        · have h := h.1 hc
          refine ow_iconst (pc' := 41) (n := (-1)) dX11_row_40 rfl rfl ?_
          exact ow_iret dX11_row_41 rfl rfl h
        · have h := h.2 hc
          refine ow_iload (pc' := 36) (x := l4) dX11_row_34 rfl rfl ?_
          refine ow_iload_n (pc' := 37) (x := l3) dX11_row_36 rfl rfl ?_
          refine ow_icmplt (pc' := 40) (tg := 42) dX11_row_37 rfl rfl (fun hc => ?_) (fun hc => ?_)
          · have h := h.1 hc
            refine ow_aload_n (pc' := 43) (x := 0) dX11_row_42 rfl rfl ?_
            refine ow_getf3 (pc' := 46) (t := 3) (ji := 15) (val := 58) dX11_row_43 fRX11_83 rfl rfl rfl (of_eq_true eo0) eg0_15 ?_
            refine ow_iload_n (pc' := 47) (x := l3) dX11_row_46 rfl rfl ?_
            refine ow_callVv (z := mX9_prepare) (n := 1) (k := 9) (vs := [(0, l3)]) (x := 58) (st := []) (pc' := 50) (b1 := (0, 0)) (b2 := (0, 0)) dX11_row_47 lRX11_166 kX9_prepare iX9_prepare rfl rfl rfl rfl rfl rfl (of_eq_true eo58) (ow_Sp.mono h (fun r4 N4 h => ?_))
            refine ow_aload_n (pc' := 51) (x := 0) dX11_row_50 rfl rfl ?_
            refine ow_getf3 (pc' := 54) (t := 3) (ji := 16) (val := 64) dX11_row_51 fRX11_92 rfl rfl rfl (of_eq_true eo0) eg0_16 ?_
            refine ow_iload_n (pc' := 55) (x := l2) dX11_row_54 rfl rfl ?_
            refine ow_iload_n (pc' := 56) (x := l3) dX11_row_55 rfl rfl ?_
            refine ow_iload_n (pc' := 57) (x := l3) dX11_row_56 rfl rfl ?_
            refine ow_callVv (z := mX5_trace) (n := 3) (k := 5) (vs := [(0, l2), (0, l3), (0, l3)]) (x := 64) (st := []) (pc' := 60) (b1 := (0, 0)) (b2 := (0, 0)) dX11_row_57 lRX11_169 kX5_trace iX5_trace rfl rfl rfl rfl rfl rfl (of_eq_true eo64) (ow_Sp.mono h (fun r5 N5 h => ?_))
            refine ow_aload_n (pc' := 61) (x := 0) dX11_row_60 rfl rfl ?_
            refine ow_getf3 (pc' := 64) (t := 3) (ji := 16) (val := 64) dX11_row_61 fRX11_92 rfl rfl rfl (of_eq_true eo0) eg0_16 ?_
            refine ow_iload_n (pc' := 65) (x := l1) dX11_row_64 rfl rfl ?_
            refine ow_callVp (z := mX5_leads) (n := 1) (k := 5) (vs := [(0, l1)]) (x := 64) (st := []) (pc' := 68) (b1 := (0, 0)) (b2 := (0, 0)) dX11_row_65 lRX11_173 kX5_leads iX5_leads rfl rfl rfl rfl rfl rfl (of_eq_true eo64) (ow_Sp.mono h (fun r6 N6 h => ?_))
            refine ow_ifeq (pc' := 71) (tg := 84) dX11_row_68 rfl rfl (fun hc => ?_) (fun hc => ?_)
            · have h := h.1 hc
              refine ow_iconst (pc' := 85) (n := (-1)) dX11_row_84 rfl rfl ?_
              exact ow_iret dX11_row_85 rfl rfl h
            · have h := h.2 hc
              refine ow_aload_n (pc' := 72) (x := 0) dX11_row_71 rfl rfl ?_
              refine ow_getf3 (pc' := 75) (t := 3) (ji := 16) (val := 64) dX11_row_72 fRX11_92 rfl rfl rfl (of_eq_true eo0) eg0_16 ?_
              refine ow_iload_n (pc' := 76) (x := l1) dX11_row_75 rfl rfl ?_
              refine ow_iload (pc' := 78) (x := l4) dX11_row_76 rfl rfl ?_
              refine ow_callVp (z := mX5_firstDeed) (n := 2) (k := 5) (vs := [(0, l1), (0, l4)]) (x := 64) (st := []) (pc' := 81) (b1 := (0, 0)) (b2 := (0, 0)) dX11_row_78 lRX11_185 kX5_firstDeed iX5_firstDeed rfl rfl rfl rfl rfl rfl (of_eq_true eo64) (ow_Sp.mono h (fun r7 N7 h => ?_))
              refine ow_goto (tg := 85) dX11_row_81 rfl ?_
              exact ow_iret dX11_row_85 rfl rfl h
          · have h := h.2 hc
            refine ow_iconst (pc' := 41) (n := (-1)) dX11_row_40 rfl rfl ?_
            exact ow_iret dX11_row_41 rfl rfl h
theorem fX11_row {C : ow_C} {A L N : Int} {d : Nat} {M : ow_M} {K : Int → ow_M → Prop} {l1 l2 l3 l4 : Int} (h : ow_Sp C (EM A L N) d mX10_isWord (0, 0) [(3, 3), (0, l1)] M (fun r1 N1 => (r1 = 0 → K ((-1)) N1) ∧ (r1 ≠ 0 → ow_Sp C (EM A L N) d mX10_isWord (0, 0) [(3, 3), (0, l2)] N1 (fun r2 N2 => (r2 = 0 → K ((-1)) N2) ∧ (r2 ≠ 0 → ow_Sp C (EM A L N) d mX11_isHands (0, 0) [(0, l3)] N2 (fun r3 N3 => (r3 = 0 → K ((-1)) N3) ∧ (r3 ≠ 0 → (l4 < 0 → K ((-1)) N3) ∧ (0 ≤ l4 → (l4 < l3 → ow_Sp C (EM A L N) d mX9_prepare (0, 0) [(3, 58), (0, l3)] N3 (fun r4 N4 => ow_Sp C (EM A L N) d mX5_trace (0, 0) [(3, 64), (0, l2), (0, l3), (0, l3)] N4 (fun r5 N5 => ow_Sp C (EM A L N) d mX5_leads (0, 0) [(3, 64), (0, l1)] N5 (fun r6 N6 => (r6 = 0 → K ((-1)) N6) ∧ (r6 ≠ 0 → ow_Sp C (EM A L N) d mX5_firstDeed (0, 0) [(3, 64), (0, l1), (0, l4)] N6 (fun r7 N7 => K r7 N7)))))) ∧ (l3 ≤ l4 → K ((-1)) N3))))))))) : ow_Sp C (EM A L N) (d + 1) mX11_row (0, 0) [(3, 0), (0, l1), (0, l2), (0, l3), (0, l4)] M K := ow_enter (by decide +kernel) rfl rfl (cX11_row_0 h)
set_option maxRecDepth 20000 in
theorem cX11_heard_0 {C : ow_C} {A L N : Int} {d : Nat} {M : ow_M} {K : Int → ow_M → Prop} {l1 l2 l3 : Int} (h : ow_Sp C (EM A L N) d mX10_isWord (0, 0) [(3, 3), (0, l1)] M (fun r1 N1 => (r1 = 0 → K ((-1)) N1) ∧ (r1 ≠ 0 → ow_Sp C (EM A L N) d mX11_isHands (0, 0) [(0, l2)] N1 (fun r2 N2 => (r2 ≠ 0 → ow_Sp C (EM A L N) d mX9_prepare (0, 0) [(3, 58), (0, l2)] N2 (fun r3 N3 => ow_Sp C (EM A L N) d mX5_spread (0, 0) [(3, 64), (0, l1), (0, l2)] N3 (fun r4 N4 => ow_At C (EM A L N) (d + 1) mX11_heard 43 [(0, (3, 0)), (2, (0, l2)), (3, (0, l3)), (4, (0, 0)), (5, (0, 0))] [] (0, 0) N4 K))) ∧ (r2 = 0 → K ((-1)) N2))))) : ow_At C (EM A L N) (d + 1) mX11_heard 0 [(0, (3, 0)), (1, (0, l1)), (2, (0, l2)), (3, (0, l3))] [] (0, 0) M K := by
  refine ow_aload_n (pc' := 1) (x := 0) dX11_heard_0 rfl rfl ?_
  refine ow_getf3 (pc' := 4) (t := 3) (ji := 0) (val := 3) dX11_heard_1 fRX11_46 rfl rfl rfl (of_eq_true eo0) eg0_0 ?_
  refine ow_iload_n (pc' := 5) (x := l1) dX11_heard_4 rfl rfl ?_
  refine ow_callVp (z := mX10_isWord) (n := 1) (k := 10) (vs := [(0, l1)]) (x := 3) (st := []) (pc' := 8) (b1 := (0, 0)) (b2 := (0, 0)) dX11_heard_5 lRX11_153 kX10_isWord iX10_isWord rfl rfl rfl rfl rfl rfl (of_eq_true eo3) (ow_Sp.mono h (fun r1 N1 h => ?_))
  refine ow_ifeq (pc' := 11) (tg := 18) dX11_heard_8 rfl rfl (fun hc => ?_) (fun hc => ?_)
  · have h := h.1 hc
    refine ow_iconst (pc' := 19) (n := (-1)) dX11_heard_18 rfl rfl ?_
    exact ow_iret dX11_heard_19 rfl rfl h
  · have h := h.2 hc
    refine ow_iload_n (pc' := 12) (x := l2) dX11_heard_11 rfl rfl ?_
    refine ow_callSp (z := mX11_isHands) (n := 1) (vs := [(0, l2)]) (st := []) (pc' := 15) (b1 := (0, 0)) (b2 := (0, 0)) dX11_heard_12 lRX11_156 kX11_isHands zX11_isHands rfl rfl rfl rfl rfl rfl (ow_Sp.mono h (fun r2 N2 h => ?_))
    refine ow_ifne (pc' := 18) (tg := 20) dX11_heard_15 rfl rfl (fun hc => ?_) (fun hc => ?_)
    · have h := h.1 hc
      refine ow_aload_n (pc' := 21) (x := 0) dX11_heard_20 rfl rfl ?_
      refine ow_getf3 (pc' := 24) (t := 3) (ji := 15) (val := 58) dX11_heard_21 fRX11_83 rfl rfl rfl (of_eq_true eo0) eg0_15 ?_
      refine ow_iload_n (pc' := 25) (x := l2) dX11_heard_24 rfl rfl ?_
      refine ow_callVv (z := mX9_prepare) (n := 1) (k := 9) (vs := [(0, l2)]) (x := 58) (st := []) (pc' := 28) (b1 := (0, 0)) (b2 := (0, 0)) dX11_heard_25 lRX11_166 kX9_prepare iX9_prepare rfl rfl rfl rfl rfl rfl (of_eq_true eo58) (ow_Sp.mono h (fun r3 N3 h => ?_))
      refine ow_aload_n (pc' := 29) (x := 0) dX11_heard_28 rfl rfl ?_
      refine ow_getf3 (pc' := 32) (t := 3) (ji := 16) (val := 64) dX11_heard_29 fRX11_92 rfl rfl rfl (of_eq_true eo0) eg0_16 ?_
      refine ow_iload_n (pc' := 33) (x := l1) dX11_heard_32 rfl rfl ?_
      refine ow_iload_n (pc' := 34) (x := l2) dX11_heard_33 rfl rfl ?_
      refine ow_callVv (z := mX5_spread) (n := 2) (k := 5) (vs := [(0, l1), (0, l2)]) (x := 64) (st := []) (pc' := 37) (b1 := (0, 0)) (b2 := (0, 0)) dX11_heard_34 lRX11_188 kX5_spread iX5_spread rfl rfl rfl rfl rfl rfl (of_eq_true eo64) (ow_Sp.mono h (fun r4 N4 h => ?_))
      refine ow_iconst (pc' := 38) (n := 0) dX11_heard_37 rfl rfl ?_
      refine ow_istore (pc' := 40) (lv' := [(0, (3, 0)), (1, (0, l1)), (2, (0, l2)), (3, (0, l3)), (4, (0, 0))]) dX11_heard_38 rfl rfl rfl ?_
      refine ow_iconst (pc' := 41) (n := 0) dX11_heard_40 rfl rfl ?_
      refine ow_istore (pc' := 43) (lv' := [(0, (3, 0)), (1, (0, l1)), (2, (0, l2)), (3, (0, l3)), (4, (0, 0)), (5, (0, 0))]) dX11_heard_41 rfl rfl rfl ?_
      refine ow_sub (lv' := [(0, (3, 0)), (2, (0, l2)), (3, (0, l3)), (4, (0, 0)), (5, (0, 0))]) [0, 2, 3, 4, 5] rfl ?_
      exact h
    · have h := h.2 hc
      refine ow_iconst (pc' := 19) (n := (-1)) dX11_heard_18 rfl rfl ?_
      exact ow_iret dX11_heard_19 rfl rfl h
set_option maxRecDepth 20000 in
theorem cX11_heard_43 {C : ow_C} {A L N : Int} {d : Nat} {M : ow_M} {K : Int → ow_M → Prop} {l2 l3 l4 l5 : Int} (h : (N ≤ l5 → (l3 ≠ ((-1)) → K ((-1)) M) ∧ (l3 = ((-1)) → K l4 M)) ∧ (l5 < N → ow_Sp C (EM A L N) d mX5_isReached (0, 0) [(3, 64), (0, l5), (0, l2)] M (fun r1 N1 => (r1 = 0 → ow_I (l5 + 1) ∧ ow_At C (EM A L N) (d + 1) mX11_heard 43 [(0, (3, 0)), (2, (0, l2)), (3, (0, l3)), (4, (0, l4)), (5, (0, l5 + 1))] [] (0, 0) N1 K) ∧ (r1 ≠ 0 → (l4 ≠ l3 → ow_I (l4 + 1) ∧ ow_I (l5 + 1) ∧ ow_At C (EM A L N) (d + 1) mX11_heard 43 [(0, (3, 0)), (2, (0, l2)), (3, (0, l3)), (4, (0, l4 + 1)), (5, (0, l5 + 1))] [] (0, 0) N1 K) ∧ (l4 = l3 → K l5 N1))))) : ow_At C (EM A L N) (d + 1) mX11_heard 43 [(0, (3, 0)), (2, (0, l2)), (3, (0, l3)), (4, (0, l4)), (5, (0, l5))] [] (0, 0) M K := by
  refine ow_iload (pc' := 45) (x := l5) dX11_heard_43 rfl rfl ?_
  refine ow_aload_n (pc' := 46) (x := 0) dX11_heard_45 rfl rfl ?_
  refine ow_getf3 (pc' := 49) (t := 3) (ji := 0) (val := 3) dX11_heard_46 fRX11_46 rfl rfl rfl (of_eq_true eo0) eg0_0 ?_
  refine ow_getf3 (pc' := 52) (t := 0) (ji := 2) (val := N) dX11_heard_49 fRX11_191 rfl rfl rfl (of_eq_true eo3) eg3_2 ?_
  refine ow_icmpge (pc' := 55) (tg := 86) dX11_heard_52 rfl rfl (fun hc => ?_) (fun hc => ?_)
  · have h := h.1 hc
    refine ow_iload_n (pc' := 87) (x := l3) dX11_heard_86 rfl rfl ?_
    refine ow_iconst (pc' := 88) (n := (-1)) dX11_heard_87 rfl rfl ?_
    refine ow_icmpne (pc' := 91) (tg := 96) dX11_heard_88 rfl rfl (fun hc => ?_) (fun hc => ?_)
    · have h := h.1 hc
      refine ow_iconst (pc' := 97) (n := (-1)) dX11_heard_96 rfl rfl ?_
      exact ow_iret dX11_heard_97 rfl rfl h
    · have h := h.2 hc
      refine ow_iload (pc' := 93) (x := l4) dX11_heard_91 rfl rfl ?_
      refine ow_goto (tg := 97) dX11_heard_93 rfl ?_
      exact ow_iret dX11_heard_97 rfl rfl h
  · have h := h.2 hc
    refine ow_aload_n (pc' := 56) (x := 0) dX11_heard_55 rfl rfl ?_
    refine ow_getf3 (pc' := 59) (t := 3) (ji := 16) (val := 64) dX11_heard_56 fRX11_92 rfl rfl rfl (of_eq_true eo0) eg0_16 ?_
    refine ow_iload (pc' := 61) (x := l5) dX11_heard_59 rfl rfl ?_
    refine ow_iload_n (pc' := 62) (x := l2) dX11_heard_61 rfl rfl ?_
    refine ow_callVp (z := mX5_isReached) (n := 2) (k := 5) (vs := [(0, l5), (0, l2)]) (x := 64) (st := []) (pc' := 65) (b1 := (0, 0)) (b2 := (0, 0)) dX11_heard_62 lRX11_193 kX5_isReached iX5_isReached rfl rfl rfl rfl rfl rfl (of_eq_true eo64) (ow_Sp.mono h (fun r1 N1 h => ?_))
    refine ow_ifeq (pc' := 68) (tg := 80) dX11_heard_65 rfl rfl (fun hc => ?_) (fun hc => ?_)
    · have h := h.1 hc
      obtain ⟨vv1, h⟩ := h
      refine ow_iinc (pc' := 83) (lv' := [(0, (3, 0)), (2, (0, l2)), (3, (0, l3)), (4, (0, l4)), (5, (0, l5 + 1))]) dX11_heard_80 rfl vv1 rfl rfl rfl ?_
      refine ow_goto (tg := 43) dX11_heard_83 rfl ?_
      exact h
    · have h := h.2 hc
      refine ow_iload (pc' := 70) (x := l4) dX11_heard_68 rfl rfl ?_
      refine ow_iload_n (pc' := 71) (x := l3) dX11_heard_70 rfl rfl ?_
      refine ow_icmpne (pc' := 74) (tg := 77) dX11_heard_71 rfl rfl (fun hc => ?_) (fun hc => ?_)
      · have h := h.1 hc
        obtain ⟨vv2, h⟩ := h
        refine ow_iinc (pc' := 80) (lv' := [(0, (3, 0)), (2, (0, l2)), (3, (0, l3)), (4, (0, l4 + 1)), (5, (0, l5))]) dX11_heard_77 rfl vv2 rfl rfl rfl ?_
        obtain ⟨vv3, h⟩ := h
        refine ow_iinc (pc' := 83) (lv' := [(0, (3, 0)), (2, (0, l2)), (3, (0, l3)), (4, (0, l4 + 1)), (5, (0, l5 + 1))]) dX11_heard_80 rfl vv3 rfl rfl rfl ?_
        refine ow_goto (tg := 43) dX11_heard_83 rfl ?_
        exact h
      · have h := h.2 hc
        refine ow_iload (pc' := 76) (x := l5) dX11_heard_74 rfl rfl ?_
        exact ow_iret dX11_heard_76 rfl rfl h
theorem fX11_heard {C : ow_C} {A L N : Int} {d : Nat} {M : ow_M} {K : Int → ow_M → Prop} {l1 l2 l3 : Int} (h : ow_Sp C (EM A L N) d mX10_isWord (0, 0) [(3, 3), (0, l1)] M (fun r1 N1 => (r1 = 0 → K ((-1)) N1) ∧ (r1 ≠ 0 → ow_Sp C (EM A L N) d mX11_isHands (0, 0) [(0, l2)] N1 (fun r2 N2 => (r2 ≠ 0 → ow_Sp C (EM A L N) d mX9_prepare (0, 0) [(3, 58), (0, l2)] N2 (fun r3 N3 => ow_Sp C (EM A L N) d mX5_spread (0, 0) [(3, 64), (0, l1), (0, l2)] N3 (fun r4 N4 => ow_At C (EM A L N) (d + 1) mX11_heard 43 [(0, (3, 0)), (2, (0, l2)), (3, (0, l3)), (4, (0, 0)), (5, (0, 0))] [] (0, 0) N4 K))) ∧ (r2 = 0 → K ((-1)) N2))))) : ow_Sp C (EM A L N) (d + 1) mX11_heard (0, 0) [(3, 0), (0, l1), (0, l2), (0, l3)] M K := ow_enter (by decide +kernel) rfl rfl (cX11_heard_0 h)
set_option maxRecDepth 20000 in
theorem cX11_odds_0 {C : ow_C} {A L N : Int} {d : Nat} {M : ow_M} {K : Int → ow_M → Prop} {l1 l2 l3 l4 : Int} (h : ow_Sp C (EM A L N) d mX10_isWord (0, 0) [(3, 3), (0, l1)] M (fun r1 N1 => (r1 = 0 → K ((-1)) N1) ∧ (r1 ≠ 0 → ow_Sp C (EM A L N) d mX11_isHands (0, 0) [(0, l2)] N1 (fun r2 N2 => (r2 = 0 → K ((-1)) N2) ∧ (r2 ≠ 0 → ow_Sp C (EM A L N) d mX0_has (0, 0) [(3, 6), (0, l3)] N2 (fun r3 N3 => (r3 = 0 → K ((-1)) N3) ∧ (r3 ≠ 0 → (l4 < 0 → K ((-1)) N3) ∧ (0 ≤ l4 → (l4 ≤ 1 → ow_Sp C (EM A L N) d mX9_prepare (0, 0) [(3, 58), (0, l2)] N3 (fun r4 N4 => ow_Sp C (EM A L N) d mX2_count (0, 0) [(3, 77), (0, l1), (0, l2)] N4 (fun r5 N5 => ow_At C (EM A L N) (d + 1) mX11_odds 67 [(0, (3, 0)), (3, (0, l3)), (4, (0, l4)), (5, (1, 0)), (7, (0, 0))] [] (0, 0) N5 K))) ∧ (1 < l4 → K ((-1)) N3))))))))) : ow_At C (EM A L N) (d + 1) mX11_odds 0 [(0, (3, 0)), (1, (0, l1)), (2, (0, l2)), (3, (0, l3)), (4, (0, l4))] [] (0, 0) M K := by
  refine ow_aload_n (pc' := 1) (x := 0) dX11_odds_0 rfl rfl ?_
  refine ow_getf3 (pc' := 4) (t := 3) (ji := 0) (val := 3) dX11_odds_1 fRX11_46 rfl rfl rfl (of_eq_true eo0) eg0_0 ?_
  refine ow_iload_n (pc' := 5) (x := l1) dX11_odds_4 rfl rfl ?_
  refine ow_callVp (z := mX10_isWord) (n := 1) (k := 10) (vs := [(0, l1)]) (x := 3) (st := []) (pc' := 8) (b1 := (0, 0)) (b2 := (0, 0)) dX11_odds_5 lRX11_153 kX10_isWord iX10_isWord rfl rfl rfl rfl rfl rfl (of_eq_true eo3) (ow_Sp.mono h (fun r1 N1 h => ?_))
  refine ow_ifeq (pc' := 11) (tg := 40) dX11_odds_8 rfl rfl (fun hc => ?_) (fun hc => ?_)
  · have h := h.1 hc
    refine ow_ldc2 (pc' := 43) (n := (-1)) dX11_odds_40 cRX11_176 rfl rfl ?_
    exact ow_lret dX11_odds_43 rfl rfl h
  · have h := h.2 hc
    refine ow_iload_n (pc' := 12) (x := l2) dX11_odds_11 rfl rfl ?_
    refine ow_callSp (z := mX11_isHands) (n := 1) (vs := [(0, l2)]) (st := []) (pc' := 15) (b1 := (0, 0)) (b2 := (0, 0)) dX11_odds_12 lRX11_156 kX11_isHands zX11_isHands rfl rfl rfl rfl rfl rfl (ow_Sp.mono h (fun r2 N2 h => ?_))
    refine ow_ifeq (pc' := 18) (tg := 40) dX11_odds_15 rfl rfl (fun hc => ?_) (fun hc => ?_)
    · have h := h.1 hc
      refine ow_ldc2 (pc' := 43) (n := (-1)) dX11_odds_40 cRX11_176 rfl rfl ?_
      exact ow_lret dX11_odds_43 rfl rfl h
    · have h := h.2 hc
      refine ow_aload_n (pc' := 19) (x := 0) dX11_odds_18 rfl rfl ?_
      refine ow_getf3 (pc' := 22) (t := 3) (ji := 1) (val := 6) dX11_odds_19 fRX11_55 rfl rfl rfl (of_eq_true eo0) eg0_1 ?_
      refine ow_iload_n (pc' := 23) (x := l3) dX11_odds_22 rfl rfl ?_
      refine ow_callVp (z := mX0_has) (n := 1) (k := 0) (vs := [(0, l3)]) (x := 6) (st := []) (pc' := 26) (b1 := (0, 0)) (b2 := (0, 0)) dX11_odds_23 lRX11_147 kX0_has iX0_has rfl rfl rfl rfl rfl rfl (of_eq_true eo6) (ow_Sp.mono h (fun r3 N3 h => ?_))
      refine ow_ifeq (pc' := 29) (tg := 40) dX11_odds_26 rfl rfl (fun hc => ?_) (fun hc => ?_)
      · have h := h.1 hc
        refine ow_ldc2 (pc' := 43) (n := (-1)) dX11_odds_40 cRX11_176 rfl rfl ?_
        exact ow_lret dX11_odds_43 rfl rfl h
      · have h := h.2 hc
        refine ow_iload (pc' := 31) (x := l4) dX11_odds_29 rfl rfl ?_
        refine ow_iflt (pc' := 34) (tg := 40) dX11_odds_31 rfl rfl (fun hc => ?_) (fun hc => ?_)
        · have h := h.1 hc
          refine ow_ldc2 (pc' := 43) (n := (-1)) dX11_odds_40 cRX11_176 rfl rfl ?_
          exact ow_lret dX11_odds_43 rfl rfl h
        · have h := h.2 hc
          refine ow_iload (pc' := 36) (x := l4) dX11_odds_34 rfl rfl ?_
          refine ow_iconst (pc' := 37) (n := 1) dX11_odds_36 rfl rfl ?_
          refine ow_icmple (pc' := 40) (tg := 44) dX11_odds_37 rfl rfl (fun hc => ?_) (fun hc => ?_)
          · have h := h.1 hc
            refine ow_aload_n (pc' := 45) (x := 0) dX11_odds_44 rfl rfl ?_
            refine ow_getf3 (pc' := 48) (t := 3) (ji := 15) (val := 58) dX11_odds_45 fRX11_83 rfl rfl rfl (of_eq_true eo0) eg0_15 ?_
            refine ow_iload_n (pc' := 49) (x := l2) dX11_odds_48 rfl rfl ?_
            refine ow_callVv (z := mX9_prepare) (n := 1) (k := 9) (vs := [(0, l2)]) (x := 58) (st := []) (pc' := 52) (b1 := (0, 0)) (b2 := (0, 0)) dX11_odds_49 lRX11_166 kX9_prepare iX9_prepare rfl rfl rfl rfl rfl rfl (of_eq_true eo58) (ow_Sp.mono h (fun r4 N4 h => ?_))
            refine ow_aload_n (pc' := 53) (x := 0) dX11_odds_52 rfl rfl ?_
            refine ow_getf3 (pc' := 56) (t := 3) (ji := 17) (val := 77) dX11_odds_53 fRX11_99 rfl rfl rfl (of_eq_true eo0) eg0_17 ?_
            refine ow_iload_n (pc' := 57) (x := l1) dX11_odds_56 rfl rfl ?_
            refine ow_iload_n (pc' := 58) (x := l2) dX11_odds_57 rfl rfl ?_
            refine ow_callVv (z := mX2_count) (n := 2) (k := 2) (vs := [(0, l1), (0, l2)]) (x := 77) (st := []) (pc' := 61) (b1 := (0, 0)) (b2 := (0, 0)) dX11_odds_58 lRX11_178 kX2_count iX2_count rfl rfl rfl rfl rfl rfl (of_eq_true eo77) (ow_Sp.mono h (fun r5 N5 h => ?_))
            refine ow_lconst (pc' := 62) (i := 0) dX11_odds_61 rfl rfl ?_
            refine ow_lstore (pc' := 64) (lv' := [(0, (3, 0)), (1, (0, l1)), (2, (0, l2)), (3, (0, l3)), (4, (0, l4)), (5, (1, 0))]) dX11_odds_62 rfl rfl rfl ?_
            refine ow_iconst (pc' := 65) (n := 0) dX11_odds_64 rfl rfl ?_
            refine ow_istore (pc' := 67) (lv' := [(0, (3, 0)), (1, (0, l1)), (2, (0, l2)), (3, (0, l3)), (4, (0, l4)), (5, (1, 0)), (7, (0, 0))]) dX11_odds_65 rfl rfl rfl ?_
            refine ow_sub (lv' := [(0, (3, 0)), (3, (0, l3)), (4, (0, l4)), (5, (1, 0)), (7, (0, 0))]) [0, 3, 4, 5, 6] rfl ?_
            exact h
          · have h := h.2 hc
            refine ow_ldc2 (pc' := 43) (n := (-1)) dX11_odds_40 cRX11_176 rfl rfl ?_
            exact ow_lret dX11_odds_43 rfl rfl h
set_option maxRecDepth 20000 in
theorem cX11_odds_67 {C : ow_C} {A L N : Int} {d : Nat} {M : ow_M} {K : Int → ow_M → Prop} {l3 l4 l5 l7 : Int} (h : ((M 6 4) ≤ l7 → (0 < (ow_lcmp l5 0) → (0 ≤ l3 ∧ l3 < 40) ∧ ow_Sp C (EM A L N) d mX2_waysOf (0, 0) [(3, 77), (0, M 7 l3)] M (fun r1 N1 => ow_L ((M 8 l3) * r1) ∧ ow_Sp C (EM A L N) d mX11_greatestCommon (0, 0) [(1, l5), (1, (M 8 l3) * r1)] N1 (fun r2 N2 => (0 < (ow_lcmp r2 0) → (l4 ≠ 0 → r2 ≠ 0 ∧ ow_L (Int.tdiv l5 r2) ∧ K (Int.tdiv l5 r2) N2) ∧ (l4 = 0 → r2 ≠ 0 ∧ ow_L (Int.tdiv ((M 8 l3) * r1) r2) ∧ K (Int.tdiv ((M 8 l3) * r1) r2) N2)) ∧ ((ow_lcmp r2 0) ≤ 0 → K ((-1)) N2)))) ∧ ((ow_lcmp l5 0) ≤ 0 → K ((-1)) M)) ∧ (l7 < (M 6 4) → (0 ≤ l7 ∧ l7 < 40) ∧ ow_Sp C (EM A L N) d mX2_waysOf (0, 0) [(3, 77), (0, M 7 l7)] M (fun r3 N3 => ow_L ((M 8 l7) * r3) ∧ ow_L (l5 + ((M 8 l7) * r3)) ∧ ow_I (l7 + 1) ∧ ow_At C (EM A L N) (d + 1) mX11_odds 67 [(0, (3, 0)), (3, (0, l3)), (4, (0, l4)), (5, (1, l5 + ((M 8 l7) * r3))), (7, (0, l7 + 1))] [] (0, 0) N3 K))) : ow_At C (EM A L N) (d + 1) mX11_odds 67 [(0, (3, 0)), (3, (0, l3)), (4, (0, l4)), (5, (1, l5)), (7, (0, l7))] [] (0, 0) M K := by
  refine ow_iload (pc' := 69) (x := l7) dX11_odds_67 rfl rfl ?_
  refine ow_aload_n (pc' := 70) (x := 0) dX11_odds_69 rfl rfl ?_
  refine ow_getf3 (pc' := 73) (t := 3) (ji := 1) (val := 6) dX11_odds_70 fRX11_55 rfl rfl rfl (of_eq_true eo0) eg0_1 ?_
  refine ow_getf3 (pc' := 76) (t := 0) (ji := 4) (val := M 6 4) dX11_odds_73 fRX11_114 rfl rfl rfl (of_eq_true eo6) eg6_4 ?_
  refine ow_icmpge (pc' := 79) (tg := 119) dX11_odds_76 rfl rfl (fun hc => ?_) (fun hc => ?_)
  · have h := h.1 hc
    refine ow_lload (pc' := 121) (x := l5) dX11_odds_119 rfl rfl ?_
    refine ow_lconst (pc' := 122) (i := 0) dX11_odds_121 rfl rfl ?_
    refine ow_Lcmp (pc' := 123) dX11_odds_122 rfl ?_
    refine ow_ifgt (pc' := 126) (tg := 130) dX11_odds_123 rfl rfl (fun hc => ?_) (fun hc => ?_)
    · have h := h.1 hc
      refine ow_aload_n (pc' := 131) (x := 0) dX11_odds_130 rfl rfl ?_
      refine ow_getf3 (pc' := 134) (t := 3) (ji := 1) (val := 6) dX11_odds_131 fRX11_55 rfl rfl rfl (of_eq_true eo0) eg0_1 ?_
      refine ow_getf3 (pc' := 137) (t := 3) (ji := 2) (val := 8) dX11_odds_134 fRX11_196 rfl rfl rfl (of_eq_true eo6) eg6_2 ?_
      refine ow_iload_n (pc' := 138) (x := l3) dX11_odds_137 rfl rfl ?_
      obtain ⟨vv1, h⟩ := h
      refine ow_iaload3 (pc' := 139) (val := M 8 l3) dX11_odds_138 rfl (Eq.mpr (er8 _) vv1) (ea8 _) ?_
      refine ow_i2L (pc' := 140) dX11_odds_139 rfl ?_
      refine ow_aload_n (pc' := 141) (x := 0) dX11_odds_140 rfl rfl ?_
      refine ow_getf3 (pc' := 144) (t := 3) (ji := 17) (val := 77) dX11_odds_141 fRX11_99 rfl rfl rfl (of_eq_true eo0) eg0_17 ?_
      refine ow_aload_n (pc' := 145) (x := 0) dX11_odds_144 rfl rfl ?_
      refine ow_getf3 (pc' := 148) (t := 3) (ji := 1) (val := 6) dX11_odds_145 fRX11_55 rfl rfl rfl (of_eq_true eo0) eg0_1 ?_
      refine ow_getf3 (pc' := 151) (t := 3) (ji := 1) (val := 7) dX11_odds_148 fRX11_150 rfl rfl rfl (of_eq_true eo6) eg6_1 ?_
      refine ow_iload_n (pc' := 152) (x := l3) dX11_odds_151 rfl rfl ?_
      refine ow_iaload3 (pc' := 153) (val := M 7 l3) dX11_odds_152 rfl (Eq.mpr (er7 _) vv1) (ea7 _) ?_
      refine ow_callVp (z := mX2_waysOf) (n := 1) (k := 2) (vs := [(0, M 7 l3)]) (x := 77) (st := [(1, M 8 l3)]) (pc' := 156) (b1 := (0, 0)) (b2 := (0, 0)) dX11_odds_153 lRX11_181 kX2_waysOf iX2_waysOf rfl rfl rfl rfl rfl rfl (of_eq_true eo77) (ow_Sp.mono h (fun r1 N1 h => ?_))
      obtain ⟨vv2, h⟩ := h
      refine ow_lmul (pc' := 157) dX11_odds_156 vv2 rfl ?_
      refine ow_lstore (pc' := 159) (lv' := [(0, (3, 0)), (3, (0, l3)), (4, (0, l4)), (5, (1, l5)), (7, (1, (M 8 l3) * r1))]) dX11_odds_157 rfl rfl rfl ?_
      refine ow_lload (pc' := 161) (x := l5) dX11_odds_159 rfl rfl ?_
      refine ow_lload (pc' := 163) (x := (M 8 l3) * r1) dX11_odds_161 rfl rfl ?_
      refine ow_callSp (z := mX11_greatestCommon) (n := 2) (vs := [(1, l5), (1, (M 8 l3) * r1)]) (st := []) (pc' := 166) (b1 := (0, 0)) (b2 := (0, 0)) dX11_odds_163 lRX11_199 kX11_greatestCommon zX11_greatestCommon rfl rfl rfl rfl rfl rfl (ow_Sp.mono h (fun r2 N2 h => ?_))
      refine ow_lstore (pc' := 168) (lv' := [(0, (3, 0)), (3, (0, l3)), (4, (0, l4)), (5, (1, l5)), (7, (1, (M 8 l3) * r1)), (9, (1, r2))]) dX11_odds_166 rfl rfl rfl ?_
      refine ow_lload (pc' := 170) (x := r2) dX11_odds_168 rfl rfl ?_
      refine ow_lconst (pc' := 171) (i := 0) dX11_odds_170 rfl rfl ?_
      refine ow_Lcmp (pc' := 172) dX11_odds_171 rfl ?_
      refine ow_ifgt (pc' := 175) (tg := 179) dX11_odds_172 rfl rfl (fun hc => ?_) (fun hc => ?_)
      · have h := h.1 hc
        refine ow_iload (pc' := 181) (x := l4) dX11_odds_179 rfl rfl ?_
        refine ow_ifne (pc' := 184) (tg := 189) dX11_odds_181 rfl rfl (fun hc => ?_) (fun hc => ?_)
        · have h := h.1 hc
          refine ow_lload (pc' := 191) (x := l5) dX11_odds_189 rfl rfl ?_
          refine ow_lload (pc' := 193) (x := r2) dX11_odds_191 rfl rfl ?_
          obtain ⟨w0, w, h⟩ := h
          refine ow_ldiv (pc' := 194) dX11_odds_193 w0 w rfl ?_
          exact ow_lret dX11_odds_194 rfl rfl h
        · have h := h.2 hc
          refine ow_lload (pc' := 186) (x := (M 8 l3) * r1) dX11_odds_184 rfl rfl ?_
          refine ow_goto (tg := 191) dX11_odds_186 rfl ?_
          refine ow_lload (pc' := 193) (x := r2) dX11_odds_191 rfl rfl ?_
          obtain ⟨w0, w, h⟩ := h
          refine ow_ldiv (pc' := 194) dX11_odds_193 w0 w rfl ?_
          exact ow_lret dX11_odds_194 rfl rfl h
      · have h := h.2 hc
        refine ow_ldc2 (pc' := 178) (n := (-1)) dX11_odds_175 cRX11_176 rfl rfl ?_
        exact ow_lret dX11_odds_178 rfl rfl h
    · have h := h.2 hc
      refine ow_ldc2 (pc' := 129) (n := (-1)) dX11_odds_126 cRX11_176 rfl rfl ?_
      exact ow_lret dX11_odds_129 rfl rfl h
  · have h := h.2 hc
    refine ow_lload (pc' := 81) (x := l5) dX11_odds_79 rfl rfl ?_
    refine ow_aload_n (pc' := 82) (x := 0) dX11_odds_81 rfl rfl ?_
    refine ow_getf3 (pc' := 85) (t := 3) (ji := 1) (val := 6) dX11_odds_82 fRX11_55 rfl rfl rfl (of_eq_true eo0) eg0_1 ?_
    refine ow_getf3 (pc' := 88) (t := 3) (ji := 2) (val := 8) dX11_odds_85 fRX11_196 rfl rfl rfl (of_eq_true eo6) eg6_2 ?_
    refine ow_iload (pc' := 90) (x := l7) dX11_odds_88 rfl rfl ?_
    obtain ⟨vv3, h⟩ := h
    refine ow_iaload3 (pc' := 91) (val := M 8 l7) dX11_odds_90 rfl (Eq.mpr (er8 _) vv3) (ea8 _) ?_
    refine ow_i2L (pc' := 92) dX11_odds_91 rfl ?_
    refine ow_aload_n (pc' := 93) (x := 0) dX11_odds_92 rfl rfl ?_
    refine ow_getf3 (pc' := 96) (t := 3) (ji := 17) (val := 77) dX11_odds_93 fRX11_99 rfl rfl rfl (of_eq_true eo0) eg0_17 ?_
    refine ow_aload_n (pc' := 97) (x := 0) dX11_odds_96 rfl rfl ?_
    refine ow_getf3 (pc' := 100) (t := 3) (ji := 1) (val := 6) dX11_odds_97 fRX11_55 rfl rfl rfl (of_eq_true eo0) eg0_1 ?_
    refine ow_getf3 (pc' := 103) (t := 3) (ji := 1) (val := 7) dX11_odds_100 fRX11_150 rfl rfl rfl (of_eq_true eo6) eg6_1 ?_
    refine ow_iload (pc' := 105) (x := l7) dX11_odds_103 rfl rfl ?_
    refine ow_iaload3 (pc' := 106) (val := M 7 l7) dX11_odds_105 rfl (Eq.mpr (er7 _) vv3) (ea7 _) ?_
    refine ow_callVp (z := mX2_waysOf) (n := 1) (k := 2) (vs := [(0, M 7 l7)]) (x := 77) (st := [(1, M 8 l7), (1, l5)]) (pc' := 109) (b1 := (0, 0)) (b2 := (0, 0)) dX11_odds_106 lRX11_181 kX2_waysOf iX2_waysOf rfl rfl rfl rfl rfl rfl (of_eq_true eo77) (ow_Sp.mono h (fun r3 N3 h => ?_))
    obtain ⟨vv4, h⟩ := h
    refine ow_lmul (pc' := 110) dX11_odds_109 vv4 rfl ?_
    obtain ⟨vv5, h⟩ := h
    refine ow_ladd (pc' := 111) dX11_odds_110 vv5 rfl ?_
    refine ow_lstore (pc' := 113) (lv' := [(0, (3, 0)), (3, (0, l3)), (4, (0, l4)), (5, (1, l5 + ((M 8 l7) * r3))), (7, (0, l7))]) dX11_odds_111 rfl rfl rfl ?_
    obtain ⟨vv6, h⟩ := h
    refine ow_iinc (pc' := 116) (lv' := [(0, (3, 0)), (3, (0, l3)), (4, (0, l4)), (5, (1, l5 + ((M 8 l7) * r3))), (7, (0, l7 + 1))]) dX11_odds_113 rfl vv6 rfl rfl rfl ?_
    refine ow_goto (tg := 67) dX11_odds_116 rfl ?_
    exact h
theorem fX11_odds {C : ow_C} {A L N : Int} {d : Nat} {M : ow_M} {K : Int → ow_M → Prop} {l1 l2 l3 l4 : Int} (h : ow_Sp C (EM A L N) d mX10_isWord (0, 0) [(3, 3), (0, l1)] M (fun r1 N1 => (r1 = 0 → K ((-1)) N1) ∧ (r1 ≠ 0 → ow_Sp C (EM A L N) d mX11_isHands (0, 0) [(0, l2)] N1 (fun r2 N2 => (r2 = 0 → K ((-1)) N2) ∧ (r2 ≠ 0 → ow_Sp C (EM A L N) d mX0_has (0, 0) [(3, 6), (0, l3)] N2 (fun r3 N3 => (r3 = 0 → K ((-1)) N3) ∧ (r3 ≠ 0 → (l4 < 0 → K ((-1)) N3) ∧ (0 ≤ l4 → (l4 ≤ 1 → ow_Sp C (EM A L N) d mX9_prepare (0, 0) [(3, 58), (0, l2)] N3 (fun r4 N4 => ow_Sp C (EM A L N) d mX2_count (0, 0) [(3, 77), (0, l1), (0, l2)] N4 (fun r5 N5 => ow_At C (EM A L N) (d + 1) mX11_odds 67 [(0, (3, 0)), (3, (0, l3)), (4, (0, l4)), (5, (1, 0)), (7, (0, 0))] [] (0, 0) N5 K))) ∧ (1 < l4 → K ((-1)) N3))))))))) : ow_Sp C (EM A L N) (d + 1) mX11_odds (0, 0) [(3, 0), (0, l1), (0, l2), (0, l3), (0, l4)] M K := ow_enter (by decide +kernel) rfl rfl (cX11_odds_0 h)
set_option maxRecDepth 20000 in
theorem cX11_road_0 {C : ow_C} {A L N : Int} {d : Nat} {M : ow_M} {K : Int → ow_M → Prop} {l1 l2 l3 : Int} (h : ow_Sp C (EM A L N) d mX10_isWord (0, 0) [(3, 3), (0, l1)] M (fun r1 N1 => (r1 = 0 → K 0 N1) ∧ (r1 ≠ 0 → ow_Sp C (EM A L N) d mX10_isWord (0, 0) [(3, 3), (0, l2)] N1 (fun r2 N2 => (r2 = 0 → K 0 N2) ∧ (r2 ≠ 0 → ow_Sp C (EM A L N) d mX11_isRoad (0, 0) [(3, 0), (0, l3)] N2 (fun r3 N3 => (r3 ≠ 0 → ow_Sp C (EM A L N) d mX11_traceRoad (0, 0) [(3, 0), (0, l2), (0, l3)] N3 (fun r4 N4 => ow_Sp C (EM A L N) d mX5_leads (0, 0) [(3, 64), (0, l1)] N4 (fun r5 N5 => (r5 = 0 ∨ r5 = 1) ∧ K r5 N5))) ∧ (r3 = 0 → K 0 N3))))))) : ow_At C (EM A L N) (d + 1) mX11_road 0 [(0, (3, 0)), (1, (0, l1)), (2, (0, l2)), (3, (0, l3))] [] (0, 0) M K := by
  refine ow_aload_n (pc' := 1) (x := 0) dX11_road_0 rfl rfl ?_
  refine ow_getf3 (pc' := 4) (t := 3) (ji := 0) (val := 3) dX11_road_1 fRX11_46 rfl rfl rfl (of_eq_true eo0) eg0_0 ?_
  refine ow_iload_n (pc' := 5) (x := l1) dX11_road_4 rfl rfl ?_
  refine ow_callVp (z := mX10_isWord) (n := 1) (k := 10) (vs := [(0, l1)]) (x := 3) (st := []) (pc' := 8) (b1 := (0, 0)) (b2 := (0, 0)) dX11_road_5 lRX11_153 kX10_isWord iX10_isWord rfl rfl rfl rfl rfl rfl (of_eq_true eo3) (ow_Sp.mono h (fun r1 N1 h => ?_))
  refine ow_ifeq (pc' := 11) (tg := 30) dX11_road_8 rfl rfl (fun hc => ?_) (fun hc => ?_)
  · have h := h.1 hc
    refine ow_iconst (pc' := 31) (n := 0) dX11_road_30 rfl rfl ?_
    exact ow_zret dX11_road_31 rfl rfl (Or.inl rfl) h
  · have h := h.2 hc
    refine ow_aload_n (pc' := 12) (x := 0) dX11_road_11 rfl rfl ?_
    refine ow_getf3 (pc' := 15) (t := 3) (ji := 0) (val := 3) dX11_road_12 fRX11_46 rfl rfl rfl (of_eq_true eo0) eg0_0 ?_
    refine ow_iload_n (pc' := 16) (x := l2) dX11_road_15 rfl rfl ?_
    refine ow_callVp (z := mX10_isWord) (n := 1) (k := 10) (vs := [(0, l2)]) (x := 3) (st := []) (pc' := 19) (b1 := (0, 0)) (b2 := (0, 0)) dX11_road_16 lRX11_153 kX10_isWord iX10_isWord rfl rfl rfl rfl rfl rfl (of_eq_true eo3) (ow_Sp.mono h (fun r2 N2 h => ?_))
    refine ow_ifeq (pc' := 22) (tg := 30) dX11_road_19 rfl rfl (fun hc => ?_) (fun hc => ?_)
    · have h := h.1 hc
      refine ow_iconst (pc' := 31) (n := 0) dX11_road_30 rfl rfl ?_
      exact ow_zret dX11_road_31 rfl rfl (Or.inl rfl) h
    · have h := h.2 hc
      refine ow_aload_n (pc' := 23) (x := 0) dX11_road_22 rfl rfl ?_
      refine ow_iload_n (pc' := 24) (x := l3) dX11_road_23 rfl rfl ?_
      refine ow_callVp (z := mX11_isRoad) (n := 1) (k := 11) (vs := [(0, l3)]) (x := 0) (st := []) (pc' := 27) (b1 := (0, 0)) (b2 := (0, 0)) dX11_road_24 lRX11_203 kX11_isRoad iX11_isRoad rfl rfl rfl rfl rfl rfl (of_eq_true eo0) (ow_Sp.mono h (fun r3 N3 h => ?_))
      refine ow_ifne (pc' := 30) (tg := 32) dX11_road_27 rfl rfl (fun hc => ?_) (fun hc => ?_)
      · have h := h.1 hc
        refine ow_aload_n (pc' := 33) (x := 0) dX11_road_32 rfl rfl ?_
        refine ow_iload_n (pc' := 34) (x := l2) dX11_road_33 rfl rfl ?_
        refine ow_iload_n (pc' := 35) (x := l3) dX11_road_34 rfl rfl ?_
        refine ow_callVv (z := mX11_traceRoad) (n := 2) (k := 11) (vs := [(0, l2), (0, l3)]) (x := 0) (st := []) (pc' := 38) (b1 := (0, 0)) (b2 := (0, 0)) dX11_road_35 lRX11_206 kX11_traceRoad iX11_traceRoad rfl rfl rfl rfl rfl rfl (of_eq_true eo0) (ow_Sp.mono h (fun r4 N4 h => ?_))
        refine ow_aload_n (pc' := 39) (x := 0) dX11_road_38 rfl rfl ?_
        refine ow_getf3 (pc' := 42) (t := 3) (ji := 16) (val := 64) dX11_road_39 fRX11_92 rfl rfl rfl (of_eq_true eo0) eg0_16 ?_
        refine ow_iload_n (pc' := 43) (x := l1) dX11_road_42 rfl rfl ?_
        refine ow_callVp (z := mX5_leads) (n := 1) (k := 5) (vs := [(0, l1)]) (x := 64) (st := []) (pc' := 46) (b1 := (0, 0)) (b2 := (0, 0)) dX11_road_43 lRX11_173 kX5_leads iX5_leads rfl rfl rfl rfl rfl rfl (of_eq_true eo64) (ow_Sp.mono h (fun r5 N5 h => ?_))
        exact ow_zret dX11_road_46 rfl rfl h.1 h.2
      · have h := h.2 hc
        refine ow_iconst (pc' := 31) (n := 0) dX11_road_30 rfl rfl ?_
        exact ow_zret dX11_road_31 rfl rfl (Or.inl rfl) h
theorem fX11_road {C : ow_C} {A L N : Int} {d : Nat} {M : ow_M} {K : Int → ow_M → Prop} {l1 l2 l3 : Int} (h : ow_Sp C (EM A L N) d mX10_isWord (0, 0) [(3, 3), (0, l1)] M (fun r1 N1 => (r1 = 0 → K 0 N1) ∧ (r1 ≠ 0 → ow_Sp C (EM A L N) d mX10_isWord (0, 0) [(3, 3), (0, l2)] N1 (fun r2 N2 => (r2 = 0 → K 0 N2) ∧ (r2 ≠ 0 → ow_Sp C (EM A L N) d mX11_isRoad (0, 0) [(3, 0), (0, l3)] N2 (fun r3 N3 => (r3 ≠ 0 → ow_Sp C (EM A L N) d mX11_traceRoad (0, 0) [(3, 0), (0, l2), (0, l3)] N3 (fun r4 N4 => ow_Sp C (EM A L N) d mX5_leads (0, 0) [(3, 64), (0, l1)] N4 (fun r5 N5 => (r5 = 0 ∨ r5 = 1) ∧ K r5 N5))) ∧ (r3 = 0 → K 0 N3))))))) : ow_Sp C (EM A L N) (d + 1) mX11_road (0, 0) [(3, 0), (0, l1), (0, l2), (0, l3)] M K := ow_enter (by decide +kernel) rfl rfl (cX11_road_0 h)
set_option maxRecDepth 20000 in
theorem cX11_fits_0 {C : ow_C} {A L N : Int} {d : Nat} {M : ow_M} {K : Int → ow_M → Prop} {l1 l2 l3 l4 l5 : Int} (h : ow_Sp C (EM A L N) d mX10_isWord (0, 0) [(3, 3), (0, l1)] M (fun r1 N1 => (r1 = 0 → K ((-1)) N1) ∧ (r1 ≠ 0 → ow_Sp C (EM A L N) d mX10_isWord (0, 0) [(3, 3), (0, l3)] N1 (fun r2 N2 => (r2 = 0 → K ((-1)) N2) ∧ (r2 ≠ 0 → ow_Sp C (EM A L N) d mX11_isRoad (0, 0) [(3, 0), (0, l2)] N2 (fun r3 N3 => (r3 = 0 → K ((-1)) N3) ∧ (r3 ≠ 0 → ow_Sp C (EM A L N) d mX11_isRoad (0, 0) [(3, 0), (0, l4)] N3 (fun r4 N4 => (r4 ≠ 0 → ow_Sp C (EM A L N) d mX11_traceRoad (0, 0) [(3, 0), (0, l1), (0, l2)] N4 (fun r5 N5 => ow_Sp C (EM A L N) d mX11_leadingWords (0, 0) [(3, 0)] N5 (fun r6 N6 => ow_Sp C (EM A L N) d mX11_traceRoad (0, 0) [(3, 0), (0, l3), (0, l4)] N6 (fun r7 N7 => ow_Sp C (EM A L N) d mX11_leadingWords (0, 0) [(3, 0)] N7 (fun r8 N8 => ow_At C (EM A L N) (d + 1) mX11_fits 75 [(0, (3, 0)), (5, (0, l5)), (8, (1, ow_land r6 r8)), (10, (0, 0)), (11, (0, 0))] [] (0, 0) N8 K))))) ∧ (r4 = 0 → K ((-1)) N4))))))))) : ow_At C (EM A L N) (d + 1) mX11_fits 0 [(0, (3, 0)), (1, (0, l1)), (2, (0, l2)), (3, (0, l3)), (4, (0, l4)), (5, (0, l5))] [] (0, 0) M K := by
  refine ow_aload_n (pc' := 1) (x := 0) dX11_fits_0 rfl rfl ?_
  refine ow_getf3 (pc' := 4) (t := 3) (ji := 0) (val := 3) dX11_fits_1 fRX11_46 rfl rfl rfl (of_eq_true eo0) eg0_0 ?_
  refine ow_iload_n (pc' := 5) (x := l1) dX11_fits_4 rfl rfl ?_
  refine ow_callVp (z := mX10_isWord) (n := 1) (k := 10) (vs := [(0, l1)]) (x := 3) (st := []) (pc' := 8) (b1 := (0, 0)) (b2 := (0, 0)) dX11_fits_5 lRX11_153 kX10_isWord iX10_isWord rfl rfl rfl rfl rfl rfl (of_eq_true eo3) (ow_Sp.mono h (fun r1 N1 h => ?_))
  refine ow_ifeq (pc' := 11) (tg := 39) dX11_fits_8 rfl rfl (fun hc => ?_) (fun hc => ?_)
  · have h := h.1 hc
    refine ow_iconst (pc' := 40) (n := (-1)) dX11_fits_39 rfl rfl ?_
    exact ow_iret dX11_fits_40 rfl rfl h
  · have h := h.2 hc
    refine ow_aload_n (pc' := 12) (x := 0) dX11_fits_11 rfl rfl ?_
    refine ow_getf3 (pc' := 15) (t := 3) (ji := 0) (val := 3) dX11_fits_12 fRX11_46 rfl rfl rfl (of_eq_true eo0) eg0_0 ?_
    refine ow_iload_n (pc' := 16) (x := l3) dX11_fits_15 rfl rfl ?_
    refine ow_callVp (z := mX10_isWord) (n := 1) (k := 10) (vs := [(0, l3)]) (x := 3) (st := []) (pc' := 19) (b1 := (0, 0)) (b2 := (0, 0)) dX11_fits_16 lRX11_153 kX10_isWord iX10_isWord rfl rfl rfl rfl rfl rfl (of_eq_true eo3) (ow_Sp.mono h (fun r2 N2 h => ?_))
    refine ow_ifeq (pc' := 22) (tg := 39) dX11_fits_19 rfl rfl (fun hc => ?_) (fun hc => ?_)
    · have h := h.1 hc
      refine ow_iconst (pc' := 40) (n := (-1)) dX11_fits_39 rfl rfl ?_
      exact ow_iret dX11_fits_40 rfl rfl h
    · have h := h.2 hc
      refine ow_aload_n (pc' := 23) (x := 0) dX11_fits_22 rfl rfl ?_
      refine ow_iload_n (pc' := 24) (x := l2) dX11_fits_23 rfl rfl ?_
      refine ow_callVp (z := mX11_isRoad) (n := 1) (k := 11) (vs := [(0, l2)]) (x := 0) (st := []) (pc' := 27) (b1 := (0, 0)) (b2 := (0, 0)) dX11_fits_24 lRX11_203 kX11_isRoad iX11_isRoad rfl rfl rfl rfl rfl rfl (of_eq_true eo0) (ow_Sp.mono h (fun r3 N3 h => ?_))
      refine ow_ifeq (pc' := 30) (tg := 39) dX11_fits_27 rfl rfl (fun hc => ?_) (fun hc => ?_)
      · have h := h.1 hc
        refine ow_iconst (pc' := 40) (n := (-1)) dX11_fits_39 rfl rfl ?_
        exact ow_iret dX11_fits_40 rfl rfl h
      · have h := h.2 hc
        refine ow_aload_n (pc' := 31) (x := 0) dX11_fits_30 rfl rfl ?_
        refine ow_iload (pc' := 33) (x := l4) dX11_fits_31 rfl rfl ?_
        refine ow_callVp (z := mX11_isRoad) (n := 1) (k := 11) (vs := [(0, l4)]) (x := 0) (st := []) (pc' := 36) (b1 := (0, 0)) (b2 := (0, 0)) dX11_fits_33 lRX11_203 kX11_isRoad iX11_isRoad rfl rfl rfl rfl rfl rfl (of_eq_true eo0) (ow_Sp.mono h (fun r4 N4 h => ?_))
        refine ow_ifne (pc' := 39) (tg := 41) dX11_fits_36 rfl rfl (fun hc => ?_) (fun hc => ?_)
        · have h := h.1 hc
          refine ow_aload_n (pc' := 42) (x := 0) dX11_fits_41 rfl rfl ?_
          refine ow_iload_n (pc' := 43) (x := l1) dX11_fits_42 rfl rfl ?_
          refine ow_iload_n (pc' := 44) (x := l2) dX11_fits_43 rfl rfl ?_
          refine ow_callVv (z := mX11_traceRoad) (n := 2) (k := 11) (vs := [(0, l1), (0, l2)]) (x := 0) (st := []) (pc' := 47) (b1 := (0, 0)) (b2 := (0, 0)) dX11_fits_44 lRX11_206 kX11_traceRoad iX11_traceRoad rfl rfl rfl rfl rfl rfl (of_eq_true eo0) (ow_Sp.mono h (fun r5 N5 h => ?_))
          refine ow_aload_n (pc' := 48) (x := 0) dX11_fits_47 rfl rfl ?_
          refine ow_callVp (z := mX11_leadingWords) (n := 0) (k := 11) (vs := []) (x := 0) (st := []) (pc' := 51) (b1 := (0, 0)) (b2 := (0, 0)) dX11_fits_48 lRX11_209 kX11_leadingWords iX11_leadingWords rfl rfl rfl rfl rfl rfl (of_eq_true eo0) (ow_Sp.mono h (fun r6 N6 h => ?_))
          refine ow_lstore (pc' := 53) (lv' := [(0, (3, 0)), (1, (0, l1)), (2, (0, l2)), (3, (0, l3)), (4, (0, l4)), (5, (0, l5)), (6, (1, r6))]) dX11_fits_51 rfl rfl rfl ?_
          refine ow_aload_n (pc' := 54) (x := 0) dX11_fits_53 rfl rfl ?_
          refine ow_iload_n (pc' := 55) (x := l3) dX11_fits_54 rfl rfl ?_
          refine ow_iload (pc' := 57) (x := l4) dX11_fits_55 rfl rfl ?_
          refine ow_callVv (z := mX11_traceRoad) (n := 2) (k := 11) (vs := [(0, l3), (0, l4)]) (x := 0) (st := []) (pc' := 60) (b1 := (0, 0)) (b2 := (0, 0)) dX11_fits_57 lRX11_206 kX11_traceRoad iX11_traceRoad rfl rfl rfl rfl rfl rfl (of_eq_true eo0) (ow_Sp.mono h (fun r7 N7 h => ?_))
          refine ow_lload (pc' := 62) (x := r6) dX11_fits_60 rfl rfl ?_
          refine ow_aload_n (pc' := 63) (x := 0) dX11_fits_62 rfl rfl ?_
          refine ow_callVp (z := mX11_leadingWords) (n := 0) (k := 11) (vs := []) (x := 0) (st := [(1, r6)]) (pc' := 66) (b1 := (0, 0)) (b2 := (0, 0)) dX11_fits_63 lRX11_209 kX11_leadingWords iX11_leadingWords rfl rfl rfl rfl rfl rfl (of_eq_true eo0) (ow_Sp.mono h (fun r8 N8 h => ?_))
          refine ow_jand (pc' := 67) dX11_fits_66 rfl ?_
          refine ow_lstore (pc' := 69) (lv' := [(0, (3, 0)), (1, (0, l1)), (2, (0, l2)), (3, (0, l3)), (4, (0, l4)), (5, (0, l5)), (6, (1, r6)), (8, (1, ow_land r6 r8))]) dX11_fits_67 rfl rfl rfl ?_
          refine ow_iconst (pc' := 70) (n := 0) dX11_fits_69 rfl rfl ?_
          refine ow_istore (pc' := 72) (lv' := [(0, (3, 0)), (1, (0, l1)), (2, (0, l2)), (3, (0, l3)), (4, (0, l4)), (5, (0, l5)), (6, (1, r6)), (8, (1, ow_land r6 r8)), (10, (0, 0))]) dX11_fits_70 rfl rfl rfl ?_
          refine ow_iconst (pc' := 73) (n := 0) dX11_fits_72 rfl rfl ?_
          refine ow_istore (pc' := 75) (lv' := [(0, (3, 0)), (1, (0, l1)), (2, (0, l2)), (3, (0, l3)), (4, (0, l4)), (5, (0, l5)), (6, (1, r6)), (8, (1, ow_land r6 r8)), (10, (0, 0)), (11, (0, 0))]) dX11_fits_73 rfl rfl rfl ?_
          refine ow_sub (lv' := [(0, (3, 0)), (5, (0, l5)), (8, (1, ow_land r6 r8)), (10, (0, 0)), (11, (0, 0))]) [0, 5, 7, 8, 9] rfl ?_
          exact h
        · have h := h.2 hc
          refine ow_iconst (pc' := 40) (n := (-1)) dX11_fits_39 rfl rfl ?_
          exact ow_iret dX11_fits_40 rfl rfl h
set_option maxRecDepth 20000 in
theorem cX11_fits_75 {C : ow_C} {A L N : Int} {d : Nat} {M : ow_M} {K : Int → ow_M → Prop} {l5 l8 l10 l11 : Int} (h : ((M 6 4) ≤ l11 → (l5 ≠ ((-1)) → K ((-1)) M) ∧ (l5 = ((-1)) → K l10 M)) ∧ (l11 < (M 6 4) → ((ow_lcmp (ow_land (ow_lshr l8 l11) 1) 0) = 0 → ow_I (l11 + 1) ∧ ow_At C (EM A L N) (d + 1) mX11_fits 75 [(0, (3, 0)), (5, (0, l5)), (8, (1, l8)), (10, (0, l10)), (11, (0, l11 + 1))] [] (0, 0) M K) ∧ ((ow_lcmp (ow_land (ow_lshr l8 l11) 1) 0) ≠ 0 → (l10 ≠ l5 → ow_I (l10 + 1) ∧ ow_I (l11 + 1) ∧ ow_At C (EM A L N) (d + 1) mX11_fits 75 [(0, (3, 0)), (5, (0, l5)), (8, (1, l8)), (10, (0, l10 + 1)), (11, (0, l11 + 1))] [] (0, 0) M K) ∧ (l10 = l5 → (0 ≤ l11 ∧ l11 < 40) ∧ K (M 7 l11) M)))) : ow_At C (EM A L N) (d + 1) mX11_fits 75 [(0, (3, 0)), (5, (0, l5)), (8, (1, l8)), (10, (0, l10)), (11, (0, l11))] [] (0, 0) M K := by
  refine ow_iload (pc' := 77) (x := l11) dX11_fits_75 rfl rfl ?_
  refine ow_aload_n (pc' := 78) (x := 0) dX11_fits_77 rfl rfl ?_
  refine ow_getf3 (pc' := 81) (t := 3) (ji := 1) (val := 6) dX11_fits_78 fRX11_55 rfl rfl rfl (of_eq_true eo0) eg0_1 ?_
  refine ow_getf3 (pc' := 84) (t := 0) (ji := 4) (val := M 6 4) dX11_fits_81 fRX11_114 rfl rfl rfl (of_eq_true eo6) eg6_4 ?_
  refine ow_icmpge (pc' := 87) (tg := 126) dX11_fits_84 rfl rfl (fun hc => ?_) (fun hc => ?_)
  · have h := h.1 hc
    refine ow_iload (pc' := 128) (x := l5) dX11_fits_126 rfl rfl ?_
    refine ow_iconst (pc' := 129) (n := (-1)) dX11_fits_128 rfl rfl ?_
    refine ow_icmpne (pc' := 132) (tg := 137) dX11_fits_129 rfl rfl (fun hc => ?_) (fun hc => ?_)
    · have h := h.1 hc
      refine ow_iconst (pc' := 138) (n := (-1)) dX11_fits_137 rfl rfl ?_
      exact ow_iret dX11_fits_138 rfl rfl h
    · have h := h.2 hc
      refine ow_iload (pc' := 134) (x := l10) dX11_fits_132 rfl rfl ?_
      refine ow_goto (tg := 138) dX11_fits_134 rfl ?_
      exact ow_iret dX11_fits_138 rfl rfl h
  · have h := h.2 hc
    refine ow_lload (pc' := 89) (x := l8) dX11_fits_87 rfl rfl ?_
    refine ow_iload (pc' := 91) (x := l11) dX11_fits_89 rfl rfl ?_
    refine ow_jshr (pc' := 92) dX11_fits_91 rfl ?_
    refine ow_lconst (pc' := 93) (i := 1) dX11_fits_92 rfl rfl ?_
    refine ow_jand (pc' := 94) dX11_fits_93 rfl ?_
    refine ow_lconst (pc' := 95) (i := 0) dX11_fits_94 rfl rfl ?_
    refine ow_Lcmp (pc' := 96) dX11_fits_95 rfl ?_
    refine ow_ifeq (pc' := 99) (tg := 120) dX11_fits_96 rfl rfl (fun hc => ?_) (fun hc => ?_)
    · have h := h.1 hc
      obtain ⟨vv1, h⟩ := h
      refine ow_iinc (pc' := 123) (lv' := [(0, (3, 0)), (5, (0, l5)), (8, (1, l8)), (10, (0, l10)), (11, (0, l11 + 1))]) dX11_fits_120 rfl vv1 rfl rfl rfl ?_
      refine ow_goto (tg := 75) dX11_fits_123 rfl ?_
      exact h
    · have h := h.2 hc
      refine ow_iload (pc' := 101) (x := l10) dX11_fits_99 rfl rfl ?_
      refine ow_iload (pc' := 103) (x := l5) dX11_fits_101 rfl rfl ?_
      refine ow_icmpne (pc' := 106) (tg := 117) dX11_fits_103 rfl rfl (fun hc => ?_) (fun hc => ?_)
      · have h := h.1 hc
        obtain ⟨vv2, h⟩ := h
        refine ow_iinc (pc' := 120) (lv' := [(0, (3, 0)), (5, (0, l5)), (8, (1, l8)), (10, (0, l10 + 1)), (11, (0, l11))]) dX11_fits_117 rfl vv2 rfl rfl rfl ?_
        obtain ⟨vv3, h⟩ := h
        refine ow_iinc (pc' := 123) (lv' := [(0, (3, 0)), (5, (0, l5)), (8, (1, l8)), (10, (0, l10 + 1)), (11, (0, l11 + 1))]) dX11_fits_120 rfl vv3 rfl rfl rfl ?_
        refine ow_goto (tg := 75) dX11_fits_123 rfl ?_
        exact h
      · have h := h.2 hc
        refine ow_aload_n (pc' := 107) (x := 0) dX11_fits_106 rfl rfl ?_
        refine ow_getf3 (pc' := 110) (t := 3) (ji := 1) (val := 6) dX11_fits_107 fRX11_55 rfl rfl rfl (of_eq_true eo0) eg0_1 ?_
        refine ow_getf3 (pc' := 113) (t := 3) (ji := 1) (val := 7) dX11_fits_110 fRX11_150 rfl rfl rfl (of_eq_true eo6) eg6_1 ?_
        refine ow_iload (pc' := 115) (x := l11) dX11_fits_113 rfl rfl ?_
        obtain ⟨vv4, h⟩ := h
        refine ow_iaload3 (pc' := 116) (val := M 7 l11) dX11_fits_115 rfl (Eq.mpr (er7 _) vv4) (ea7 _) ?_
        exact ow_iret dX11_fits_116 rfl rfl h
theorem fX11_fits {C : ow_C} {A L N : Int} {d : Nat} {M : ow_M} {K : Int → ow_M → Prop} {l1 l2 l3 l4 l5 : Int} (h : ow_Sp C (EM A L N) d mX10_isWord (0, 0) [(3, 3), (0, l1)] M (fun r1 N1 => (r1 = 0 → K ((-1)) N1) ∧ (r1 ≠ 0 → ow_Sp C (EM A L N) d mX10_isWord (0, 0) [(3, 3), (0, l3)] N1 (fun r2 N2 => (r2 = 0 → K ((-1)) N2) ∧ (r2 ≠ 0 → ow_Sp C (EM A L N) d mX11_isRoad (0, 0) [(3, 0), (0, l2)] N2 (fun r3 N3 => (r3 = 0 → K ((-1)) N3) ∧ (r3 ≠ 0 → ow_Sp C (EM A L N) d mX11_isRoad (0, 0) [(3, 0), (0, l4)] N3 (fun r4 N4 => (r4 ≠ 0 → ow_Sp C (EM A L N) d mX11_traceRoad (0, 0) [(3, 0), (0, l1), (0, l2)] N4 (fun r5 N5 => ow_Sp C (EM A L N) d mX11_leadingWords (0, 0) [(3, 0)] N5 (fun r6 N6 => ow_Sp C (EM A L N) d mX11_traceRoad (0, 0) [(3, 0), (0, l3), (0, l4)] N6 (fun r7 N7 => ow_Sp C (EM A L N) d mX11_leadingWords (0, 0) [(3, 0)] N7 (fun r8 N8 => ow_At C (EM A L N) (d + 1) mX11_fits 75 [(0, (3, 0)), (5, (0, l5)), (8, (1, ow_land r6 r8)), (10, (0, 0)), (11, (0, 0))] [] (0, 0) N8 K))))) ∧ (r4 = 0 → K ((-1)) N4))))))))) : ow_Sp C (EM A L N) (d + 1) mX11_fits (0, 0) [(3, 0), (0, l1), (0, l2), (0, l3), (0, l4), (0, l5)] M K := ow_enter (by decide +kernel) rfl rfl (cX11_fits_0 h)
set_option maxRecDepth 20000 in
theorem cX11_tree_0 {C : ow_C} {A L N : Int} {d : Nat} {M : ow_M} {K : Int → ow_M → Prop} {l1 : Int} (h : (l1 < 0 → K ((-1)) M) ∧ (0 ≤ l1 → (l1 ≤ 1 → ow_At C (EM A L N) (d + 1) mX11_tree 15 [(0, (3, 0)), (1, (0, l1)), (2, (0, 0)), (3, (0, 0))] [] (0, 0) M K) ∧ (1 < l1 → K ((-1)) M))) : ow_At C (EM A L N) (d + 1) mX11_tree 0 [(0, (3, 0)), (1, (0, l1))] [] (0, 0) M K := by
  refine ow_iload_n (pc' := 1) (x := l1) dX11_tree_0 rfl rfl ?_
  refine ow_iflt (pc' := 4) (tg := 9) dX11_tree_1 rfl rfl (fun hc => ?_) (fun hc => ?_)
  · have h := h.1 hc
    refine ow_iconst (pc' := 10) (n := (-1)) dX11_tree_9 rfl rfl ?_
    exact ow_iret dX11_tree_10 rfl rfl h
  · have h := h.2 hc
    refine ow_iload_n (pc' := 5) (x := l1) dX11_tree_4 rfl rfl ?_
    refine ow_iconst (pc' := 6) (n := 1) dX11_tree_5 rfl rfl ?_
    refine ow_icmple (pc' := 9) (tg := 11) dX11_tree_6 rfl rfl (fun hc => ?_) (fun hc => ?_)
    · have h := h.1 hc
      refine ow_iconst (pc' := 12) (n := 0) dX11_tree_11 rfl rfl ?_
      refine ow_istore_n (pc' := 13) (lv' := [(0, (3, 0)), (1, (0, l1)), (2, (0, 0))]) dX11_tree_12 rfl rfl rfl ?_
      refine ow_iconst (pc' := 14) (n := 0) dX11_tree_13 rfl rfl ?_
      refine ow_istore_n (pc' := 15) (lv' := [(0, (3, 0)), (1, (0, l1)), (2, (0, 0)), (3, (0, 0))]) dX11_tree_14 rfl rfl rfl ?_
      exact h
    · have h := h.2 hc
      refine ow_iconst (pc' := 10) (n := (-1)) dX11_tree_9 rfl rfl ?_
      exact ow_iret dX11_tree_10 rfl rfl h
set_option maxRecDepth 20000 in
theorem cX11_tree_15 {C : ow_C} {A L N : Int} {d : Nat} {M : ow_M} {K : Int → ow_M → Prop} {l1 l2 l3 : Int} (h : (L < l3 → K l2 M) ∧ (l3 ≤ L → (l1 ≠ 1 → ow_At C (EM A L N) (d + 1) mX11_tree 42 [(0, (3, 0)), (1, (0, l1)), (3, (0, l3))] [(0, 0), (0, l3), (3, 6), (0, l2)] (0, 0) M K) ∧ (l1 = 1 → ow_At C (EM A L N) (d + 1) mX11_tree 42 [(0, (3, 0)), (1, (0, l1)), (3, (0, l3))] [(0, 1), (0, l3), (3, 6), (0, l2)] (0, 0) M K))) : ow_At C (EM A L N) (d + 1) mX11_tree 15 [(0, (3, 0)), (1, (0, l1)), (2, (0, l2)), (3, (0, l3))] [] (0, 0) M K := by
  refine ow_iload_n (pc' := 16) (x := l3) dX11_tree_15 rfl rfl ?_
  refine ow_aload_n (pc' := 17) (x := 0) dX11_tree_16 rfl rfl ?_
  refine ow_getf3 (pc' := 20) (t := 3) (ji := 0) (val := 3) dX11_tree_17 fRX11_46 rfl rfl rfl (of_eq_true eo0) eg0_0 ?_
  refine ow_getf3 (pc' := 23) (t := 0) (ji := 1) (val := L) dX11_tree_20 fRX11_213 rfl rfl rfl (of_eq_true eo3) eg3_1 ?_
  refine ow_icmpgt (pc' := 26) (tg := 53) dX11_tree_23 rfl rfl (fun hc => ?_) (fun hc => ?_)
  · have h := h.1 hc
    refine ow_iload_n (pc' := 54) (x := l2) dX11_tree_53 rfl rfl ?_
    exact ow_iret dX11_tree_54 rfl rfl h
  · have h := h.2 hc
    refine ow_iload_n (pc' := 27) (x := l2) dX11_tree_26 rfl rfl ?_
    refine ow_aload_n (pc' := 28) (x := 0) dX11_tree_27 rfl rfl ?_
    refine ow_getf3 (pc' := 31) (t := 3) (ji := 1) (val := 6) dX11_tree_28 fRX11_55 rfl rfl rfl (of_eq_true eo0) eg0_1 ?_
    refine ow_iload_n (pc' := 32) (x := l3) dX11_tree_31 rfl rfl ?_
    refine ow_iload_n (pc' := 33) (x := l1) dX11_tree_32 rfl rfl ?_
    refine ow_iconst (pc' := 34) (n := 1) dX11_tree_33 rfl rfl ?_
    refine ow_icmpne (pc' := 37) (tg := 41) dX11_tree_34 rfl rfl (fun hc => ?_) (fun hc => ?_)
    · have h := h.1 hc
      refine ow_iconst (pc' := 42) (n := 0) dX11_tree_41 rfl rfl ?_
      refine ow_sub (lv' := [(0, (3, 0)), (1, (0, l1)), (3, (0, l3))]) [0, 1, 3] rfl ?_
      exact h
    · have h := h.2 hc
      refine ow_iconst (pc' := 38) (n := 1) dX11_tree_37 rfl rfl ?_
      refine ow_goto (tg := 42) dX11_tree_38 rfl ?_
      refine ow_sub (lv' := [(0, (3, 0)), (1, (0, l1)), (3, (0, l3))]) [0, 1, 3] rfl ?_
      exact h
set_option maxRecDepth 20000 in
theorem cX11_tree_42 {C : ow_C} {A L N : Int} {d : Nat} {M : ow_M} {K : Int → ow_M → Prop} {l1 l3 s0 s1 s3 : Int} (h : ow_Sp C (EM A L N) d mX0_treeAt (0, 0) [(3, 6), (0, s1), (0, s0)] M (fun r1 N1 => ow_I (s3 + r1) ∧ ow_I (l3 + 1) ∧ ow_At C (EM A L N) (d + 1) mX11_tree 15 [(0, (3, 0)), (1, (0, l1)), (2, (0, s3 + r1)), (3, (0, l3 + 1))] [] (0, 0) N1 K)) : ow_At C (EM A L N) (d + 1) mX11_tree 42 [(0, (3, 0)), (1, (0, l1)), (3, (0, l3))] [(0, s0), (0, s1), (3, 6), (0, s3)] (0, 0) M K := by
  refine ow_callVp (z := mX0_treeAt) (n := 2) (k := 0) (vs := [(0, s1), (0, s0)]) (x := 6) (st := [(0, s3)]) (pc' := 45) (b1 := (0, 0)) (b2 := (0, 0)) dX11_tree_42 lRX11_216 kX0_treeAt iX0_treeAt rfl rfl rfl rfl rfl rfl (of_eq_true eo6) (ow_Sp.mono h (fun r1 N1 h => ?_))
  obtain ⟨vv1, h⟩ := h
  refine ow_iadd (pc' := 46) dX11_tree_45 vv1 rfl ?_
  refine ow_istore_n (pc' := 47) (lv' := [(0, (3, 0)), (1, (0, l1)), (2, (0, s3 + r1)), (3, (0, l3))]) dX11_tree_46 rfl rfl rfl ?_
  obtain ⟨vv2, h⟩ := h
  refine ow_iinc (pc' := 50) (lv' := [(0, (3, 0)), (1, (0, l1)), (2, (0, s3 + r1)), (3, (0, l3 + 1))]) dX11_tree_47 rfl vv2 rfl rfl rfl ?_
  refine ow_goto (tg := 15) dX11_tree_50 rfl ?_
  exact h
theorem fX11_tree {C : ow_C} {A L N : Int} {d : Nat} {M : ow_M} {K : Int → ow_M → Prop} {l1 : Int} (h : (l1 < 0 → K ((-1)) M) ∧ (0 ≤ l1 → (l1 ≤ 1 → ow_At C (EM A L N) (d + 1) mX11_tree 15 [(0, (3, 0)), (1, (0, l1)), (2, (0, 0)), (3, (0, 0))] [] (0, 0) M K) ∧ (1 < l1 → K ((-1)) M))) : ow_Sp C (EM A L N) (d + 1) mX11_tree (0, 0) [(3, 0), (0, l1)] M K := ow_enter (by decide +kernel) rfl rfl (cX11_tree_0 h)
set_option maxRecDepth 20000 in
theorem cX11_shares_0 {C : ow_C} {A L N : Int} {d : Nat} {M : ow_M} {K : Int → ow_M → Prop} {l1 l2 l3 : Int} (h : ow_Sp C (EM A L N) d mX0_has (0, 0) [(3, 6), (0, l1)] M (fun r1 N1 => (r1 = 0 → K 0 N1) ∧ (r1 ≠ 0 → ow_Sp C (EM A L N) d mX0_has (0, 0) [(3, 6), (0, l2)] N1 (fun r2 N2 => (r2 = 0 → K 0 N2) ∧ (r2 ≠ 0 → (l3 < 0 → K 0 N2) ∧ (0 ≤ l3 → (l3 ≤ L → (0 ≤ l1 ∧ l1 < 40) ∧ (0 ≤ l2 ∧ l2 < 40) ∧ ow_Sp C (EM A L N) d mX0_sameEnds (0, 0) [(3, 6), (0, N2 7 l1), (0, N2 7 l2), (0, l3)] N2 (fun r3 N3 => (r3 = 0 ∨ r3 = 1) ∧ K r3 N3)) ∧ (L < l3 → K 0 N2))))))) : ow_At C (EM A L N) (d + 1) mX11_shares 0 [(0, (3, 0)), (1, (0, l1)), (2, (0, l2)), (3, (0, l3))] [] (0, 0) M K := by
  refine ow_aload_n (pc' := 1) (x := 0) dX11_shares_0 rfl rfl ?_
  refine ow_getf3 (pc' := 4) (t := 3) (ji := 1) (val := 6) dX11_shares_1 fRX11_55 rfl rfl rfl (of_eq_true eo0) eg0_1 ?_
  refine ow_iload_n (pc' := 5) (x := l1) dX11_shares_4 rfl rfl ?_
  refine ow_callVp (z := mX0_has) (n := 1) (k := 0) (vs := [(0, l1)]) (x := 6) (st := []) (pc' := 8) (b1 := (0, 0)) (b2 := (0, 0)) dX11_shares_5 lRX11_147 kX0_has iX0_has rfl rfl rfl rfl rfl rfl (of_eq_true eo6) (ow_Sp.mono h (fun r1 N1 h => ?_))
  refine ow_ifeq (pc' := 11) (tg := 37) dX11_shares_8 rfl rfl (fun hc => ?_) (fun hc => ?_)
  · have h := h.1 hc
    refine ow_iconst (pc' := 38) (n := 0) dX11_shares_37 rfl rfl ?_
    exact ow_zret dX11_shares_38 rfl rfl (Or.inl rfl) h
  · have h := h.2 hc
    refine ow_aload_n (pc' := 12) (x := 0) dX11_shares_11 rfl rfl ?_
    refine ow_getf3 (pc' := 15) (t := 3) (ji := 1) (val := 6) dX11_shares_12 fRX11_55 rfl rfl rfl (of_eq_true eo0) eg0_1 ?_
    refine ow_iload_n (pc' := 16) (x := l2) dX11_shares_15 rfl rfl ?_
    refine ow_callVp (z := mX0_has) (n := 1) (k := 0) (vs := [(0, l2)]) (x := 6) (st := []) (pc' := 19) (b1 := (0, 0)) (b2 := (0, 0)) dX11_shares_16 lRX11_147 kX0_has iX0_has rfl rfl rfl rfl rfl rfl (of_eq_true eo6) (ow_Sp.mono h (fun r2 N2 h => ?_))
    refine ow_ifeq (pc' := 22) (tg := 37) dX11_shares_19 rfl rfl (fun hc => ?_) (fun hc => ?_)
    · have h := h.1 hc
      refine ow_iconst (pc' := 38) (n := 0) dX11_shares_37 rfl rfl ?_
      exact ow_zret dX11_shares_38 rfl rfl (Or.inl rfl) h
    · have h := h.2 hc
      refine ow_iload_n (pc' := 23) (x := l3) dX11_shares_22 rfl rfl ?_
      refine ow_iflt (pc' := 26) (tg := 37) dX11_shares_23 rfl rfl (fun hc => ?_) (fun hc => ?_)
      · have h := h.1 hc
        refine ow_iconst (pc' := 38) (n := 0) dX11_shares_37 rfl rfl ?_
        exact ow_zret dX11_shares_38 rfl rfl (Or.inl rfl) h
      · have h := h.2 hc
        refine ow_iload_n (pc' := 27) (x := l3) dX11_shares_26 rfl rfl ?_
        refine ow_aload_n (pc' := 28) (x := 0) dX11_shares_27 rfl rfl ?_
        refine ow_getf3 (pc' := 31) (t := 3) (ji := 0) (val := 3) dX11_shares_28 fRX11_46 rfl rfl rfl (of_eq_true eo0) eg0_0 ?_
        refine ow_getf3 (pc' := 34) (t := 0) (ji := 1) (val := L) dX11_shares_31 fRX11_213 rfl rfl rfl (of_eq_true eo3) eg3_1 ?_
        refine ow_icmple (pc' := 37) (tg := 39) dX11_shares_34 rfl rfl (fun hc => ?_) (fun hc => ?_)
        · have h := h.1 hc
          refine ow_aload_n (pc' := 40) (x := 0) dX11_shares_39 rfl rfl ?_
          refine ow_getf3 (pc' := 43) (t := 3) (ji := 1) (val := 6) dX11_shares_40 fRX11_55 rfl rfl rfl (of_eq_true eo0) eg0_1 ?_
          refine ow_aload_n (pc' := 44) (x := 0) dX11_shares_43 rfl rfl ?_
          refine ow_getf3 (pc' := 47) (t := 3) (ji := 1) (val := 6) dX11_shares_44 fRX11_55 rfl rfl rfl (of_eq_true eo0) eg0_1 ?_
          refine ow_getf3 (pc' := 50) (t := 3) (ji := 1) (val := 7) dX11_shares_47 fRX11_150 rfl rfl rfl (of_eq_true eo6) eg6_1 ?_
          refine ow_iload_n (pc' := 51) (x := l1) dX11_shares_50 rfl rfl ?_
          obtain ⟨vv1, h⟩ := h
          refine ow_iaload3 (pc' := 52) (val := N2 7 l1) dX11_shares_51 rfl (Eq.mpr (er7 _) vv1) (ea7 _) ?_
          refine ow_aload_n (pc' := 53) (x := 0) dX11_shares_52 rfl rfl ?_
          refine ow_getf3 (pc' := 56) (t := 3) (ji := 1) (val := 6) dX11_shares_53 fRX11_55 rfl rfl rfl (of_eq_true eo0) eg0_1 ?_
          refine ow_getf3 (pc' := 59) (t := 3) (ji := 1) (val := 7) dX11_shares_56 fRX11_150 rfl rfl rfl (of_eq_true eo6) eg6_1 ?_
          refine ow_iload_n (pc' := 60) (x := l2) dX11_shares_59 rfl rfl ?_
          obtain ⟨vv2, h⟩ := h
          refine ow_iaload3 (pc' := 61) (val := N2 7 l2) dX11_shares_60 rfl (Eq.mpr (er7 _) vv2) (ea7 _) ?_
          refine ow_iload_n (pc' := 62) (x := l3) dX11_shares_61 rfl rfl ?_
          refine ow_callVp (z := mX0_sameEnds) (n := 3) (k := 0) (vs := [(0, N2 7 l1), (0, N2 7 l2), (0, l3)]) (x := 6) (st := []) (pc' := 65) (b1 := (0, 0)) (b2 := (0, 0)) dX11_shares_62 lRX11_220 kX0_sameEnds iX0_sameEnds rfl rfl rfl rfl rfl rfl (of_eq_true eo6) (ow_Sp.mono h (fun r3 N3 h => ?_))
          exact ow_zret dX11_shares_65 rfl rfl h.1 h.2
        · have h := h.2 hc
          refine ow_iconst (pc' := 38) (n := 0) dX11_shares_37 rfl rfl ?_
          exact ow_zret dX11_shares_38 rfl rfl (Or.inl rfl) h
theorem fX11_shares {C : ow_C} {A L N : Int} {d : Nat} {M : ow_M} {K : Int → ow_M → Prop} {l1 l2 l3 : Int} (h : ow_Sp C (EM A L N) d mX0_has (0, 0) [(3, 6), (0, l1)] M (fun r1 N1 => (r1 = 0 → K 0 N1) ∧ (r1 ≠ 0 → ow_Sp C (EM A L N) d mX0_has (0, 0) [(3, 6), (0, l2)] N1 (fun r2 N2 => (r2 = 0 → K 0 N2) ∧ (r2 ≠ 0 → (l3 < 0 → K 0 N2) ∧ (0 ≤ l3 → (l3 ≤ L → (0 ≤ l1 ∧ l1 < 40) ∧ (0 ≤ l2 ∧ l2 < 40) ∧ ow_Sp C (EM A L N) d mX0_sameEnds (0, 0) [(3, 6), (0, N2 7 l1), (0, N2 7 l2), (0, l3)] N2 (fun r3 N3 => (r3 = 0 ∨ r3 = 1) ∧ K r3 N3)) ∧ (L < l3 → K 0 N2))))))) : ow_Sp C (EM A L N) (d + 1) mX11_shares (0, 0) [(3, 0), (0, l1), (0, l2), (0, l3)] M K := ow_enter (by decide +kernel) rfl rfl (cX11_shares_0 h)
set_option maxRecDepth 20000 in
theorem cX11_near_0 {C : ow_C} {A L N : Int} {d : Nat} {M : ow_M} {K : Int → ow_M → Prop} {l1 l2 l3 : Int} (h : ow_Sp C (EM A L N) d mX10_isWord (0, 0) [(3, 3), (0, l1)] M (fun r1 N1 => (r1 = 0 → K ((-1)) N1) ∧ (r1 ≠ 0 → (l2 < 0 → K ((-1)) N1) ∧ (0 ≤ l2 → (l2 ≤ L → ow_At C (EM A L N) (d + 1) mX11_near 34 [(0, (3, 0)), (1, (0, l1)), (2, (0, l2)), (3, (0, l3)), (4, (0, 0)), (5, (0, 0))] [] (0, 0) N1 K) ∧ (L < l2 → K ((-1)) N1))))) : ow_At C (EM A L N) (d + 1) mX11_near 0 [(0, (3, 0)), (1, (0, l1)), (2, (0, l2)), (3, (0, l3))] [] (0, 0) M K := by
  refine ow_aload_n (pc' := 1) (x := 0) dX11_near_0 rfl rfl ?_
  refine ow_getf3 (pc' := 4) (t := 3) (ji := 0) (val := 3) dX11_near_1 fRX11_46 rfl rfl rfl (of_eq_true eo0) eg0_0 ?_
  refine ow_iload_n (pc' := 5) (x := l1) dX11_near_4 rfl rfl ?_
  refine ow_callVp (z := mX10_isWord) (n := 1) (k := 10) (vs := [(0, l1)]) (x := 3) (st := []) (pc' := 8) (b1 := (0, 0)) (b2 := (0, 0)) dX11_near_5 lRX11_153 kX10_isWord iX10_isWord rfl rfl rfl rfl rfl rfl (of_eq_true eo3) (ow_Sp.mono h (fun r1 N1 h => ?_))
  refine ow_ifeq (pc' := 11) (tg := 26) dX11_near_8 rfl rfl (fun hc => ?_) (fun hc => ?_)
  · have h := h.1 hc
    refine ow_iconst (pc' := 27) (n := (-1)) dX11_near_26 rfl rfl ?_
    exact ow_iret dX11_near_27 rfl rfl h
  · have h := h.2 hc
    refine ow_iload_n (pc' := 12) (x := l2) dX11_near_11 rfl rfl ?_
    refine ow_iflt (pc' := 15) (tg := 26) dX11_near_12 rfl rfl (fun hc => ?_) (fun hc => ?_)
    · have h := h.1 hc
      refine ow_iconst (pc' := 27) (n := (-1)) dX11_near_26 rfl rfl ?_
      exact ow_iret dX11_near_27 rfl rfl h
    · have h := h.2 hc
      refine ow_iload_n (pc' := 16) (x := l2) dX11_near_15 rfl rfl ?_
      refine ow_aload_n (pc' := 17) (x := 0) dX11_near_16 rfl rfl ?_
      refine ow_getf3 (pc' := 20) (t := 3) (ji := 0) (val := 3) dX11_near_17 fRX11_46 rfl rfl rfl (of_eq_true eo0) eg0_0 ?_
      refine ow_getf3 (pc' := 23) (t := 0) (ji := 1) (val := L) dX11_near_20 fRX11_213 rfl rfl rfl (of_eq_true eo3) eg3_1 ?_
      refine ow_icmple (pc' := 26) (tg := 28) dX11_near_23 rfl rfl (fun hc => ?_) (fun hc => ?_)
      · have h := h.1 hc
        refine ow_iconst (pc' := 29) (n := 0) dX11_near_28 rfl rfl ?_
        refine ow_istore (pc' := 31) (lv' := [(0, (3, 0)), (1, (0, l1)), (2, (0, l2)), (3, (0, l3)), (4, (0, 0))]) dX11_near_29 rfl rfl rfl ?_
        refine ow_iconst (pc' := 32) (n := 0) dX11_near_31 rfl rfl ?_
        refine ow_istore (pc' := 34) (lv' := [(0, (3, 0)), (1, (0, l1)), (2, (0, l2)), (3, (0, l3)), (4, (0, 0)), (5, (0, 0))]) dX11_near_32 rfl rfl rfl ?_
        exact h
      · have h := h.2 hc
        refine ow_iconst (pc' := 27) (n := (-1)) dX11_near_26 rfl rfl ?_
        exact ow_iret dX11_near_27 rfl rfl h
set_option maxRecDepth 20000 in
theorem cX11_near_34 {C : ow_C} {A L N : Int} {d : Nat} {M : ow_M} {K : Int → ow_M → Prop} {l1 l2 l3 l4 l5 : Int} (h : ((M 6 4) ≤ l5 → (l3 ≠ ((-1)) → K ((-1)) M) ∧ (l3 = ((-1)) → K l4 M)) ∧ (l5 < (M 6 4) → (0 ≤ l5 ∧ l5 < 40) ∧ ow_Sp C (EM A L N) d mX10_unlike (0, 0) [(3, 3), (0, l1), (0, M 7 l5)] M (fun r1 N1 => (l2 < r1 → ow_I (l5 + 1) ∧ ow_At C (EM A L N) (d + 1) mX11_near 34 [(0, (3, 0)), (1, (0, l1)), (2, (0, l2)), (3, (0, l3)), (4, (0, l4)), (5, (0, l5 + 1))] [] (0, 0) N1 K) ∧ (r1 ≤ l2 → (l4 ≠ l3 → ow_I (l4 + 1) ∧ ow_I (l5 + 1) ∧ ow_At C (EM A L N) (d + 1) mX11_near 34 [(0, (3, 0)), (1, (0, l1)), (2, (0, l2)), (3, (0, l3)), (4, (0, l4 + 1)), (5, (0, l5 + 1))] [] (0, 0) N1 K) ∧ (l4 = l3 → K (N1 7 l5) N1))))) : ow_At C (EM A L N) (d + 1) mX11_near 34 [(0, (3, 0)), (1, (0, l1)), (2, (0, l2)), (3, (0, l3)), (4, (0, l4)), (5, (0, l5))] [] (0, 0) M K := by
  refine ow_iload (pc' := 36) (x := l5) dX11_near_34 rfl rfl ?_
  refine ow_aload_n (pc' := 37) (x := 0) dX11_near_36 rfl rfl ?_
  refine ow_getf3 (pc' := 40) (t := 3) (ji := 1) (val := 6) dX11_near_37 fRX11_55 rfl rfl rfl (of_eq_true eo0) eg0_1 ?_
  refine ow_getf3 (pc' := 43) (t := 0) (ji := 4) (val := M 6 4) dX11_near_40 fRX11_114 rfl rfl rfl (of_eq_true eo6) eg6_4 ?_
  refine ow_icmpge (pc' := 46) (tg := 94) dX11_near_43 rfl rfl (fun hc => ?_) (fun hc => ?_)
  · have h := h.1 hc
    refine ow_iload_n (pc' := 95) (x := l3) dX11_near_94 rfl rfl ?_
    refine ow_iconst (pc' := 96) (n := (-1)) dX11_near_95 rfl rfl ?_
    refine ow_icmpne (pc' := 99) (tg := 104) dX11_near_96 rfl rfl (fun hc => ?_) (fun hc => ?_)
    · have h := h.1 hc
      refine ow_iconst (pc' := 105) (n := (-1)) dX11_near_104 rfl rfl ?_
      exact ow_iret dX11_near_105 rfl rfl h
    · have h := h.2 hc
      refine ow_iload (pc' := 101) (x := l4) dX11_near_99 rfl rfl ?_
      refine ow_goto (tg := 105) dX11_near_101 rfl ?_
      exact ow_iret dX11_near_105 rfl rfl h
  · have h := h.2 hc
    refine ow_aload_n (pc' := 47) (x := 0) dX11_near_46 rfl rfl ?_
    refine ow_getf3 (pc' := 50) (t := 3) (ji := 0) (val := 3) dX11_near_47 fRX11_46 rfl rfl rfl (of_eq_true eo0) eg0_0 ?_
    refine ow_iload_n (pc' := 51) (x := l1) dX11_near_50 rfl rfl ?_
    refine ow_aload_n (pc' := 52) (x := 0) dX11_near_51 rfl rfl ?_
    refine ow_getf3 (pc' := 55) (t := 3) (ji := 1) (val := 6) dX11_near_52 fRX11_55 rfl rfl rfl (of_eq_true eo0) eg0_1 ?_
    refine ow_getf3 (pc' := 58) (t := 3) (ji := 1) (val := 7) dX11_near_55 fRX11_150 rfl rfl rfl (of_eq_true eo6) eg6_1 ?_
    refine ow_iload (pc' := 60) (x := l5) dX11_near_58 rfl rfl ?_
    obtain ⟨vv1, h⟩ := h
    refine ow_iaload3 (pc' := 61) (val := M 7 l5) dX11_near_60 rfl (Eq.mpr (er7 _) vv1) (ea7 _) ?_
    refine ow_callVp (z := mX10_unlike) (n := 2) (k := 10) (vs := [(0, l1), (0, M 7 l5)]) (x := 3) (st := []) (pc' := 64) (b1 := (0, 0)) (b2 := (0, 0)) dX11_near_61 lRX11_159 kX10_unlike iX10_unlike rfl rfl rfl rfl rfl rfl (of_eq_true eo3) (ow_Sp.mono h (fun r1 N1 h => ?_))
    refine ow_iload_n (pc' := 65) (x := l2) dX11_near_64 rfl rfl ?_
    refine ow_icmpgt (pc' := 68) (tg := 88) dX11_near_65 rfl rfl (fun hc => ?_) (fun hc => ?_)
    · have h := h.1 hc
      obtain ⟨vv2, h⟩ := h
      refine ow_iinc (pc' := 91) (lv' := [(0, (3, 0)), (1, (0, l1)), (2, (0, l2)), (3, (0, l3)), (4, (0, l4)), (5, (0, l5 + 1))]) dX11_near_88 rfl vv2 rfl rfl rfl ?_
      refine ow_goto (tg := 34) dX11_near_91 rfl ?_
      exact h
    · have h := h.2 hc
      refine ow_iload (pc' := 70) (x := l4) dX11_near_68 rfl rfl ?_
      refine ow_iload_n (pc' := 71) (x := l3) dX11_near_70 rfl rfl ?_
      refine ow_icmpne (pc' := 74) (tg := 85) dX11_near_71 rfl rfl (fun hc => ?_) (fun hc => ?_)
      · have h := h.1 hc
        obtain ⟨vv3, h⟩ := h
        refine ow_iinc (pc' := 88) (lv' := [(0, (3, 0)), (1, (0, l1)), (2, (0, l2)), (3, (0, l3)), (4, (0, l4 + 1)), (5, (0, l5))]) dX11_near_85 rfl vv3 rfl rfl rfl ?_
        obtain ⟨vv4, h⟩ := h
        refine ow_iinc (pc' := 91) (lv' := [(0, (3, 0)), (1, (0, l1)), (2, (0, l2)), (3, (0, l3)), (4, (0, l4 + 1)), (5, (0, l5 + 1))]) dX11_near_88 rfl vv4 rfl rfl rfl ?_
        refine ow_goto (tg := 34) dX11_near_91 rfl ?_
        exact h
      · have h := h.2 hc
        refine ow_aload_n (pc' := 75) (x := 0) dX11_near_74 rfl rfl ?_
        refine ow_getf3 (pc' := 78) (t := 3) (ji := 1) (val := 6) dX11_near_75 fRX11_55 rfl rfl rfl (of_eq_true eo0) eg0_1 ?_
        refine ow_getf3 (pc' := 81) (t := 3) (ji := 1) (val := 7) dX11_near_78 fRX11_150 rfl rfl rfl (of_eq_true eo6) eg6_1 ?_
        refine ow_iload (pc' := 83) (x := l5) dX11_near_81 rfl rfl ?_
        refine ow_iaload3 (pc' := 84) (val := N1 7 l5) dX11_near_83 rfl (Eq.mpr (er7 _) vv1) (ea7 _) ?_
        exact ow_iret dX11_near_84 rfl rfl h
theorem fX11_near {C : ow_C} {A L N : Int} {d : Nat} {M : ow_M} {K : Int → ow_M → Prop} {l1 l2 l3 : Int} (h : ow_Sp C (EM A L N) d mX10_isWord (0, 0) [(3, 3), (0, l1)] M (fun r1 N1 => (r1 = 0 → K ((-1)) N1) ∧ (r1 ≠ 0 → (l2 < 0 → K ((-1)) N1) ∧ (0 ≤ l2 → (l2 ≤ L → ow_At C (EM A L N) (d + 1) mX11_near 34 [(0, (3, 0)), (1, (0, l1)), (2, (0, l2)), (3, (0, l3)), (4, (0, 0)), (5, (0, 0))] [] (0, 0) N1 K) ∧ (L < l2 → K ((-1)) N1))))) : ow_Sp C (EM A L N) (d + 1) mX11_near (0, 0) [(3, 0), (0, l1), (0, l2), (0, l3)] M K := ow_enter (by decide +kernel) rfl rfl (cX11_near_0 h)
set_option maxRecDepth 20000 in
theorem cX11_apart_0 {C : ow_C} {A L N : Int} {d : Nat} {M : ow_M} {K : Int → ow_M → Prop} {l1 : Int} (h : (16 < (M 6 4) → K ((-1)) M) ∧ ((M 6 4) ≤ 16 → ow_Sp C (EM A L N) d mX11_isHands (0, 0) [(0, l1)] M (fun r1 N1 => (r1 ≠ 0 → ow_Sp C (EM A L N) d mX9_prepare (0, 0) [(3, 58), (0, l1)] N1 (fun r2 N2 => ow_Sp C (EM A L N) d mX5_apartOf (0, 0) [(3, 64), (3, 6), (0, l1)] N2 (fun r3 N3 => K r3 N3))) ∧ (r1 = 0 → K ((-1)) N1)))) : ow_At C (EM A L N) (d + 1) mX11_apart 0 [(0, (3, 0)), (1, (0, l1))] [] (0, 0) M K := by
  refine ow_aload_n (pc' := 1) (x := 0) dX11_apart_0 rfl rfl ?_
  refine ow_getf3 (pc' := 4) (t := 3) (ji := 1) (val := 6) dX11_apart_1 fRX11_55 rfl rfl rfl (of_eq_true eo0) eg0_1 ?_
  refine ow_getf3 (pc' := 7) (t := 0) (ji := 4) (val := M 6 4) dX11_apart_4 fRX11_114 rfl rfl rfl (of_eq_true eo6) eg6_4 ?_
  refine ow_bipush (pc' := 9) (n := 16) dX11_apart_7 rfl rfl ?_
  refine ow_icmpgt (pc' := 12) (tg := 19) dX11_apart_9 rfl rfl (fun hc => ?_) (fun hc => ?_)
  · have h := h.1 hc
    refine ow_iconst (pc' := 20) (n := (-1)) dX11_apart_19 rfl rfl ?_
    exact ow_iret dX11_apart_20 rfl rfl h
  · have h := h.2 hc
    refine ow_iload_n (pc' := 13) (x := l1) dX11_apart_12 rfl rfl ?_
    refine ow_callSp (z := mX11_isHands) (n := 1) (vs := [(0, l1)]) (st := []) (pc' := 16) (b1 := (0, 0)) (b2 := (0, 0)) dX11_apart_13 lRX11_156 kX11_isHands zX11_isHands rfl rfl rfl rfl rfl rfl (ow_Sp.mono h (fun r1 N1 h => ?_))
    refine ow_ifne (pc' := 19) (tg := 21) dX11_apart_16 rfl rfl (fun hc => ?_) (fun hc => ?_)
    · have h := h.1 hc
      refine ow_aload_n (pc' := 22) (x := 0) dX11_apart_21 rfl rfl ?_
      refine ow_getf3 (pc' := 25) (t := 3) (ji := 15) (val := 58) dX11_apart_22 fRX11_83 rfl rfl rfl (of_eq_true eo0) eg0_15 ?_
      refine ow_iload_n (pc' := 26) (x := l1) dX11_apart_25 rfl rfl ?_
      refine ow_callVv (z := mX9_prepare) (n := 1) (k := 9) (vs := [(0, l1)]) (x := 58) (st := []) (pc' := 29) (b1 := (0, 0)) (b2 := (0, 0)) dX11_apart_26 lRX11_166 kX9_prepare iX9_prepare rfl rfl rfl rfl rfl rfl (of_eq_true eo58) (ow_Sp.mono h (fun r2 N2 h => ?_))
      refine ow_aload_n (pc' := 30) (x := 0) dX11_apart_29 rfl rfl ?_
      refine ow_getf3 (pc' := 33) (t := 3) (ji := 16) (val := 64) dX11_apart_30 fRX11_92 rfl rfl rfl (of_eq_true eo0) eg0_16 ?_
      refine ow_aload_n (pc' := 34) (x := 0) dX11_apart_33 rfl rfl ?_
      refine ow_getf3 (pc' := 37) (t := 3) (ji := 1) (val := 6) dX11_apart_34 fRX11_55 rfl rfl rfl (of_eq_true eo0) eg0_1 ?_
      refine ow_iload_n (pc' := 38) (x := l1) dX11_apart_37 rfl rfl ?_
      refine ow_callVp (z := mX5_apartOf) (n := 2) (k := 5) (vs := [(3, 6), (0, l1)]) (x := 64) (st := []) (pc' := 41) (b1 := (0, 0)) (b2 := (0, 0)) dX11_apart_38 lRX11_224 kX5_apartOf iX5_apartOf rfl rfl rfl rfl rfl rfl (of_eq_true eo64) (ow_Sp.mono h (fun r3 N3 h => ?_))
      exact ow_iret dX11_apart_41 rfl rfl h
    · have h := h.2 hc
      refine ow_iconst (pc' := 20) (n := (-1)) dX11_apart_19 rfl rfl ?_
      exact ow_iret dX11_apart_20 rfl rfl h
theorem fX11_apart {C : ow_C} {A L N : Int} {d : Nat} {M : ow_M} {K : Int → ow_M → Prop} {l1 : Int} (h : (16 < (M 6 4) → K ((-1)) M) ∧ ((M 6 4) ≤ 16 → ow_Sp C (EM A L N) d mX11_isHands (0, 0) [(0, l1)] M (fun r1 N1 => (r1 ≠ 0 → ow_Sp C (EM A L N) d mX9_prepare (0, 0) [(3, 58), (0, l1)] N1 (fun r2 N2 => ow_Sp C (EM A L N) d mX5_apartOf (0, 0) [(3, 64), (3, 6), (0, l1)] N2 (fun r3 N3 => K r3 N3))) ∧ (r1 = 0 → K ((-1)) N1)))) : ow_Sp C (EM A L N) (d + 1) mX11_apart (0, 0) [(3, 0), (0, l1)] M K := ow_enter (by decide +kernel) rfl rfl (cX11_apart_0 h)
set_option maxRecDepth 20000 in
theorem cX11_log_0 {C : ow_C} {A L N : Int} {d : Nat} {M : ow_M} {K : Int → ow_M → Prop} {l1 : Int} (h : ow_Sp C (EM A L N) d mX11_isHands (0, 0) [(0, l1)] M (fun r1 N1 => (r1 ≠ 0 → ow_Sp C (EM A L N) d mX4_begin (0, 0) [(3, 14), (0, l1)] N1 (fun r2 N2 => K 1 N2)) ∧ (r1 = 0 → K 0 N1))) : ow_At C (EM A L N) (d + 1) mX11_log 0 [(0, (3, 0)), (1, (0, l1))] [] (0, 0) M K := by
  refine ow_iload_n (pc' := 1) (x := l1) dX11_log_0 rfl rfl ?_
  refine ow_callSp (z := mX11_isHands) (n := 1) (vs := [(0, l1)]) (st := []) (pc' := 4) (b1 := (0, 0)) (b2 := (0, 0)) dX11_log_1 lRX11_156 kX11_isHands zX11_isHands rfl rfl rfl rfl rfl rfl (ow_Sp.mono h (fun r1 N1 h => ?_))
  refine ow_ifne (pc' := 7) (tg := 9) dX11_log_4 rfl rfl (fun hc => ?_) (fun hc => ?_)
  · have h := h.1 hc
    refine ow_aload_n (pc' := 10) (x := 0) dX11_log_9 rfl rfl ?_
    refine ow_getf3 (pc' := 13) (t := 3) (ji := 3) (val := 14) dX11_log_10 fRX11_65 rfl rfl rfl (of_eq_true eo0) eg0_3 ?_
    refine ow_iload_n (pc' := 14) (x := l1) dX11_log_13 rfl rfl ?_
    refine ow_callVv (z := mX4_begin) (n := 1) (k := 4) (vs := [(0, l1)]) (x := 14) (st := []) (pc' := 17) (b1 := (0, 0)) (b2 := (0, 0)) dX11_log_14 lRX11_228 kX4_begin iX4_begin rfl rfl rfl rfl rfl rfl (of_eq_true eo14) (ow_Sp.mono h (fun r2 N2 h => ?_))
    refine ow_iconst (pc' := 18) (n := 1) dX11_log_17 rfl rfl ?_
    exact ow_zret dX11_log_18 rfl rfl (Or.inr rfl) h
  · have h := h.2 hc
    refine ow_iconst (pc' := 8) (n := 0) dX11_log_7 rfl rfl ?_
    exact ow_zret dX11_log_8 rfl rfl (Or.inl rfl) h
theorem fX11_log {C : ow_C} {A L N : Int} {d : Nat} {M : ow_M} {K : Int → ow_M → Prop} {l1 : Int} (h : ow_Sp C (EM A L N) d mX11_isHands (0, 0) [(0, l1)] M (fun r1 N1 => (r1 ≠ 0 → ow_Sp C (EM A L N) d mX4_begin (0, 0) [(3, 14), (0, l1)] N1 (fun r2 N2 => K 1 N2)) ∧ (r1 = 0 → K 0 N1))) : ow_Sp C (EM A L N) (d + 1) mX11_log (0, 0) [(3, 0), (0, l1)] M K := ow_enter (by decide +kernel) rfl rfl (cX11_log_0 h)
set_option maxRecDepth 20000 in
theorem cX11_said_0 {C : ow_C} {A L N : Int} {d : Nat} {M : ow_M} {K : Int → ow_M → Prop} {l1 l2 l3 : Int} (h : (l2 = ((-1)) → ow_At C (EM A L N) (d + 1) mX11_said 18 [(0, (3, 0)), (1, (0, l1)), (2, (0, l2)), (3, (0, l3))] [] (0, 0) M K) ∧ (l2 ≠ ((-1)) → ow_Sp C (EM A L N) d mX10_isWord (0, 0) [(3, 3), (0, l2)] M (fun r1 N1 => (r1 ≠ 0 → ow_At C (EM A L N) (d + 1) mX11_said 18 [(0, (3, 0)), (1, (0, l1)), (2, (0, l2)), (3, (0, l3))] [] (0, 0) N1 K) ∧ (r1 = 0 → K ((-1)) N1)))) : ow_At C (EM A L N) (d + 1) mX11_said 0 [(0, (3, 0)), (1, (0, l1)), (2, (0, l2)), (3, (0, l3))] [] (0, 0) M K := by
  refine ow_iload_n (pc' := 1) (x := l2) dX11_said_0 rfl rfl ?_
  refine ow_iconst (pc' := 2) (n := (-1)) dX11_said_1 rfl rfl ?_
  refine ow_icmpeq (pc' := 5) (tg := 18) dX11_said_2 rfl rfl (fun hc => ?_) (fun hc => ?_)
  · have h := h.1 hc
    exact h
  · have h := h.2 hc
    refine ow_aload_n (pc' := 6) (x := 0) dX11_said_5 rfl rfl ?_
    refine ow_getf3 (pc' := 9) (t := 3) (ji := 0) (val := 3) dX11_said_6 fRX11_46 rfl rfl rfl (of_eq_true eo0) eg0_0 ?_
    refine ow_iload_n (pc' := 10) (x := l2) dX11_said_9 rfl rfl ?_
    refine ow_callVp (z := mX10_isWord) (n := 1) (k := 10) (vs := [(0, l2)]) (x := 3) (st := []) (pc' := 13) (b1 := (0, 0)) (b2 := (0, 0)) dX11_said_10 lRX11_153 kX10_isWord iX10_isWord rfl rfl rfl rfl rfl rfl (of_eq_true eo3) (ow_Sp.mono h (fun r1 N1 h => ?_))
    refine ow_ifne (pc' := 16) (tg := 18) dX11_said_13 rfl rfl (fun hc => ?_) (fun hc => ?_)
    · have h := h.1 hc
      exact h
    · have h := h.2 hc
      refine ow_iconst (pc' := 17) (n := (-1)) dX11_said_16 rfl rfl ?_
      exact ow_iret dX11_said_17 rfl rfl h
set_option maxRecDepth 20000 in
theorem cX11_said_18 {C : ow_C} {A L N : Int} {d : Nat} {M : ow_M} {K : Int → ow_M → Prop} {l1 l2 l3 : Int} (h : ow_Sp C (EM A L N) d mX11_isTime (0, 0) [(0, l3)] M (fun r1 N1 => (r1 = 0 → K ((-1)) N1) ∧ (r1 ≠ 0 → (l1 < 0 → K ((-1)) N1) ∧ (0 ≤ l1 → (l1 ≤ (N1 14 0) → ow_Sp C (EM A L N) d mX4_add (0, 0) [(3, 14), (0, l1), (0, l2), (0, l3)] N1 (fun r2 N2 => (r2 = 0 → K ((-1)) N2) ∧ (r2 ≠ 0 → K (N2 14 1) N2))) ∧ ((N1 14 0) < l1 → K ((-1)) N1))))) : ow_At C (EM A L N) (d + 1) mX11_said 18 [(0, (3, 0)), (1, (0, l1)), (2, (0, l2)), (3, (0, l3))] [] (0, 0) M K := by
  refine ow_iload_n (pc' := 19) (x := l3) dX11_said_18 rfl rfl ?_
  refine ow_callSp (z := mX11_isTime) (n := 1) (vs := [(0, l3)]) (st := []) (pc' := 22) (b1 := (0, 0)) (b2 := (0, 0)) dX11_said_19 lRX11_231 kX11_isTime zX11_isTime rfl rfl rfl rfl rfl rfl (ow_Sp.mono h (fun r1 N1 h => ?_))
  refine ow_ifeq (pc' := 25) (tg := 40) dX11_said_22 rfl rfl (fun hc => ?_) (fun hc => ?_)
  · have h := h.1 hc
    refine ow_iconst (pc' := 41) (n := (-1)) dX11_said_40 rfl rfl ?_
    exact ow_iret dX11_said_41 rfl rfl h
  · have h := h.2 hc
    refine ow_iload_n (pc' := 26) (x := l1) dX11_said_25 rfl rfl ?_
    refine ow_iflt (pc' := 29) (tg := 40) dX11_said_26 rfl rfl (fun hc => ?_) (fun hc => ?_)
    · have h := h.1 hc
      refine ow_iconst (pc' := 41) (n := (-1)) dX11_said_40 rfl rfl ?_
      exact ow_iret dX11_said_41 rfl rfl h
    · have h := h.2 hc
      refine ow_iload_n (pc' := 30) (x := l1) dX11_said_29 rfl rfl ?_
      refine ow_aload_n (pc' := 31) (x := 0) dX11_said_30 rfl rfl ?_
      refine ow_getf3 (pc' := 34) (t := 3) (ji := 3) (val := 14) dX11_said_31 fRX11_65 rfl rfl rfl (of_eq_true eo0) eg0_3 ?_
      refine ow_getf3 (pc' := 37) (t := 0) (ji := 0) (val := N1 14 0) dX11_said_34 fRX11_234 rfl rfl rfl (of_eq_true eo14) eg14_0 ?_
      refine ow_icmple (pc' := 40) (tg := 42) dX11_said_37 rfl rfl (fun hc => ?_) (fun hc => ?_)
      · have h := h.1 hc
        refine ow_aload_n (pc' := 43) (x := 0) dX11_said_42 rfl rfl ?_
        refine ow_getf3 (pc' := 46) (t := 3) (ji := 3) (val := 14) dX11_said_43 fRX11_65 rfl rfl rfl (of_eq_true eo0) eg0_3 ?_
        refine ow_iload_n (pc' := 47) (x := l1) dX11_said_46 rfl rfl ?_
        refine ow_iload_n (pc' := 48) (x := l2) dX11_said_47 rfl rfl ?_
        refine ow_iload_n (pc' := 49) (x := l3) dX11_said_48 rfl rfl ?_
        refine ow_callVp (z := mX4_add) (n := 3) (k := 4) (vs := [(0, l1), (0, l2), (0, l3)]) (x := 14) (st := []) (pc' := 52) (b1 := (0, 0)) (b2 := (0, 0)) dX11_said_49 lRX11_237 kX4_add iX4_add rfl rfl rfl rfl rfl rfl (of_eq_true eo14) (ow_Sp.mono h (fun r2 N2 h => ?_))
        refine ow_ifeq (pc' := 55) (tg := 65) dX11_said_52 rfl rfl (fun hc => ?_) (fun hc => ?_)
        · have h := h.1 hc
          refine ow_iconst (pc' := 66) (n := (-1)) dX11_said_65 rfl rfl ?_
          exact ow_iret dX11_said_66 rfl rfl h
        · have h := h.2 hc
          refine ow_aload_n (pc' := 56) (x := 0) dX11_said_55 rfl rfl ?_
          refine ow_getf3 (pc' := 59) (t := 3) (ji := 3) (val := 14) dX11_said_56 fRX11_65 rfl rfl rfl (of_eq_true eo0) eg0_3 ?_
          refine ow_getf3 (pc' := 62) (t := 0) (ji := 1) (val := N2 14 1) dX11_said_59 fRX11_239 rfl rfl rfl (of_eq_true eo14) eg14_1 ?_
          refine ow_goto (tg := 66) dX11_said_62 rfl ?_
          exact ow_iret dX11_said_66 rfl rfl h
      · have h := h.2 hc
        refine ow_iconst (pc' := 41) (n := (-1)) dX11_said_40 rfl rfl ?_
        exact ow_iret dX11_said_41 rfl rfl h
theorem fX11_said {C : ow_C} {A L N : Int} {d : Nat} {M : ow_M} {K : Int → ow_M → Prop} {l1 l2 l3 : Int} (h : (l2 = ((-1)) → ow_At C (EM A L N) (d + 1) mX11_said 18 [(0, (3, 0)), (1, (0, l1)), (2, (0, l2)), (3, (0, l3))] [] (0, 0) M K) ∧ (l2 ≠ ((-1)) → ow_Sp C (EM A L N) d mX10_isWord (0, 0) [(3, 3), (0, l2)] M (fun r1 N1 => (r1 ≠ 0 → ow_At C (EM A L N) (d + 1) mX11_said 18 [(0, (3, 0)), (1, (0, l1)), (2, (0, l2)), (3, (0, l3))] [] (0, 0) N1 K) ∧ (r1 = 0 → K ((-1)) N1)))) : ow_Sp C (EM A L N) (d + 1) mX11_said (0, 0) [(3, 0), (0, l1), (0, l2), (0, l3)] M K := ow_enter (by decide +kernel) rfl rfl (cX11_said_0 h)
set_option maxRecDepth 20000 in
theorem cX11_broke_0 {C : ow_C} {A L N : Int} {d : Nat} {M : ow_M} {K : Int → ow_M → Prop} {l1 l2 : Int} (h : ow_Sp C (EM A L N) d mX11_isTime (0, 0) [(0, l1)] M (fun r1 N1 => (r1 = 0 → K ((-1)) N1) ∧ (r1 ≠ 0 → (l2 < 0 → K ((-1)) N1) ∧ (0 ≤ l2 → (l2 ≤ 1 → ow_Sp C (EM A L N) d mX9_prepare (0, 0) [(3, 58), (0, N1 14 0)] N1 (fun r2 N2 => ow_Sp C (EM A L N) d mX1_least (0, 0) [(3, 80), (3, 14), (0, l1)] N2 (fun r3 N3 => (l2 ≠ 0 → K (ow_and r3 255) N3) ∧ (l2 = 0 → K (ow_shr r3 8) N3)))) ∧ (1 < l2 → K ((-1)) N1))))) : ow_At C (EM A L N) (d + 1) mX11_broke 0 [(0, (3, 0)), (1, (0, l1)), (2, (0, l2))] [] (0, 0) M K := by
  refine ow_iload_n (pc' := 1) (x := l1) dX11_broke_0 rfl rfl ?_
  refine ow_callSp (z := mX11_isTime) (n := 1) (vs := [(0, l1)]) (st := []) (pc' := 4) (b1 := (0, 0)) (b2 := (0, 0)) dX11_broke_1 lRX11_231 kX11_isTime zX11_isTime rfl rfl rfl rfl rfl rfl (ow_Sp.mono h (fun r1 N1 h => ?_))
  refine ow_ifeq (pc' := 7) (tg := 16) dX11_broke_4 rfl rfl (fun hc => ?_) (fun hc => ?_)
  · have h := h.1 hc
    refine ow_iconst (pc' := 17) (n := (-1)) dX11_broke_16 rfl rfl ?_
    exact ow_iret dX11_broke_17 rfl rfl h
  · have h := h.2 hc
    refine ow_iload_n (pc' := 8) (x := l2) dX11_broke_7 rfl rfl ?_
    refine ow_iflt (pc' := 11) (tg := 16) dX11_broke_8 rfl rfl (fun hc => ?_) (fun hc => ?_)
    · have h := h.1 hc
      refine ow_iconst (pc' := 17) (n := (-1)) dX11_broke_16 rfl rfl ?_
      exact ow_iret dX11_broke_17 rfl rfl h
    · have h := h.2 hc
      refine ow_iload_n (pc' := 12) (x := l2) dX11_broke_11 rfl rfl ?_
      refine ow_iconst (pc' := 13) (n := 1) dX11_broke_12 rfl rfl ?_
      refine ow_icmple (pc' := 16) (tg := 18) dX11_broke_13 rfl rfl (fun hc => ?_) (fun hc => ?_)
      · have h := h.1 hc
        refine ow_aload_n (pc' := 19) (x := 0) dX11_broke_18 rfl rfl ?_
        refine ow_getf3 (pc' := 22) (t := 3) (ji := 15) (val := 58) dX11_broke_19 fRX11_83 rfl rfl rfl (of_eq_true eo0) eg0_15 ?_
        refine ow_aload_n (pc' := 23) (x := 0) dX11_broke_22 rfl rfl ?_
        refine ow_getf3 (pc' := 26) (t := 3) (ji := 3) (val := 14) dX11_broke_23 fRX11_65 rfl rfl rfl (of_eq_true eo0) eg0_3 ?_
        refine ow_getf3 (pc' := 29) (t := 0) (ji := 0) (val := N1 14 0) dX11_broke_26 fRX11_234 rfl rfl rfl (of_eq_true eo14) eg14_0 ?_
        refine ow_callVv (z := mX9_prepare) (n := 1) (k := 9) (vs := [(0, N1 14 0)]) (x := 58) (st := []) (pc' := 32) (b1 := (0, 0)) (b2 := (0, 0)) dX11_broke_29 lRX11_166 kX9_prepare iX9_prepare rfl rfl rfl rfl rfl rfl (of_eq_true eo58) (ow_Sp.mono h (fun r2 N2 h => ?_))
        refine ow_aload_n (pc' := 33) (x := 0) dX11_broke_32 rfl rfl ?_
        refine ow_getf3 (pc' := 36) (t := 3) (ji := 18) (val := 80) dX11_broke_33 fRX11_106 rfl rfl rfl (of_eq_true eo0) eg0_18 ?_
        refine ow_aload_n (pc' := 37) (x := 0) dX11_broke_36 rfl rfl ?_
        refine ow_getf3 (pc' := 40) (t := 3) (ji := 3) (val := 14) dX11_broke_37 fRX11_65 rfl rfl rfl (of_eq_true eo0) eg0_3 ?_
        refine ow_iload_n (pc' := 41) (x := l1) dX11_broke_40 rfl rfl ?_
        refine ow_callVp (z := mX1_least) (n := 2) (k := 1) (vs := [(3, 14), (0, l1)]) (x := 80) (st := []) (pc' := 44) (b1 := (0, 0)) (b2 := (0, 0)) dX11_broke_41 lRX11_240 kX1_least iX1_least rfl rfl rfl rfl rfl rfl (of_eq_true eo80) (ow_Sp.mono h (fun r3 N3 h => ?_))
        refine ow_istore_n (pc' := 45) (lv' := [(0, (3, 0)), (1, (0, l1)), (2, (0, l2)), (3, (0, r3))]) dX11_broke_44 rfl rfl rfl ?_
        refine ow_iload_n (pc' := 46) (x := l2) dX11_broke_45 rfl rfl ?_
        refine ow_ifne (pc' := 49) (tg := 56) dX11_broke_46 rfl rfl (fun hc => ?_) (fun hc => ?_)
        · have h := h.1 hc
          refine ow_iload_n (pc' := 57) (x := r3) dX11_broke_56 rfl rfl ?_
          refine ow_sipush (pc' := 60) (n := 255) dX11_broke_57 rfl rfl ?_
          refine ow_iand (pc' := 61) dX11_broke_60 rfl ?_
          exact ow_iret dX11_broke_61 rfl rfl h
        · have h := h.2 hc
          refine ow_iload_n (pc' := 50) (x := r3) dX11_broke_49 rfl rfl ?_
          refine ow_bipush (pc' := 52) (n := 8) dX11_broke_50 rfl rfl ?_
          refine ow_ishr (pc' := 53) dX11_broke_52 rfl ?_
          refine ow_goto (tg := 61) dX11_broke_53 rfl ?_
          exact ow_iret dX11_broke_61 rfl rfl h
      · have h := h.2 hc
        refine ow_iconst (pc' := 17) (n := (-1)) dX11_broke_16 rfl rfl ?_
        exact ow_iret dX11_broke_17 rfl rfl h
theorem fX11_broke {C : ow_C} {A L N : Int} {d : Nat} {M : ow_M} {K : Int → ow_M → Prop} {l1 l2 : Int} (h : ow_Sp C (EM A L N) d mX11_isTime (0, 0) [(0, l1)] M (fun r1 N1 => (r1 = 0 → K ((-1)) N1) ∧ (r1 ≠ 0 → (l2 < 0 → K ((-1)) N1) ∧ (0 ≤ l2 → (l2 ≤ 1 → ow_Sp C (EM A L N) d mX9_prepare (0, 0) [(3, 58), (0, N1 14 0)] N1 (fun r2 N2 => ow_Sp C (EM A L N) d mX1_least (0, 0) [(3, 80), (3, 14), (0, l1)] N2 (fun r3 N3 => (l2 ≠ 0 → K (ow_and r3 255) N3) ∧ (l2 = 0 → K (ow_shr r3 8) N3)))) ∧ (1 < l2 → K ((-1)) N1))))) : ow_Sp C (EM A L N) (d + 1) mX11_broke (0, 0) [(3, 0), (0, l1), (0, l2)] M K := ow_enter (by decide +kernel) rfl rfl (cX11_broke_0 h)
set_option maxRecDepth 20000 in
theorem cX11_message_0 {C : ow_C} {A L N : Int} {d : Nat} {M : ow_M} {K : Int → ow_M → Prop} {l1 l2 l3 : Int} (h : (l1 < 0 → K ((-1)) M) ∧ (0 ≤ l1 → (9999 < l1 → K ((-1)) M) ∧ (l1 ≤ 9999 → ow_Sp C (EM A L N) d mX10_isWord (0, 0) [(3, 3), (0, l2)] M (fun r1 N1 => (r1 = 0 → K ((-1)) N1) ∧ (r1 ≠ 0 → (l3 < 1 → K ((-1)) N1) ∧ (1 ≤ l3 → (l3 ≤ 8 → ow_Sp C (EM A L N) d mX9_prepare (0, 0) [(3, 58), (0, l3)] N1 (fun r2 N2 => ow_Sp C (EM A L N) d mX9_carry (0, 0) [(3, 58), (0, l1), (0, l2), (0, l3)] N2 (fun r3 N3 => K r3 N3))) ∧ (8 < l3 → K ((-1)) N1))))))) : ow_At C (EM A L N) (d + 1) mX11_message 0 [(0, (3, 0)), (1, (0, l1)), (2, (0, l2)), (3, (0, l3))] [] (0, 0) M K := by
  refine ow_iload_n (pc' := 1) (x := l1) dX11_message_0 rfl rfl ?_
  refine ow_iflt (pc' := 4) (tg := 33) dX11_message_1 rfl rfl (fun hc => ?_) (fun hc => ?_)
  · have h := h.1 hc
    refine ow_iconst (pc' := 34) (n := (-1)) dX11_message_33 rfl rfl ?_
    exact ow_iret dX11_message_34 rfl rfl h
  · have h := h.2 hc
    refine ow_iload_n (pc' := 5) (x := l1) dX11_message_4 rfl rfl ?_
    refine ow_sipush (pc' := 8) (n := 9999) dX11_message_5 rfl rfl ?_
    refine ow_icmpgt (pc' := 11) (tg := 33) dX11_message_8 rfl rfl (fun hc => ?_) (fun hc => ?_)
    · have h := h.1 hc
      refine ow_iconst (pc' := 34) (n := (-1)) dX11_message_33 rfl rfl ?_
      exact ow_iret dX11_message_34 rfl rfl h
    · have h := h.2 hc
      refine ow_aload_n (pc' := 12) (x := 0) dX11_message_11 rfl rfl ?_
      refine ow_getf3 (pc' := 15) (t := 3) (ji := 0) (val := 3) dX11_message_12 fRX11_46 rfl rfl rfl (of_eq_true eo0) eg0_0 ?_
      refine ow_iload_n (pc' := 16) (x := l2) dX11_message_15 rfl rfl ?_
      refine ow_callVp (z := mX10_isWord) (n := 1) (k := 10) (vs := [(0, l2)]) (x := 3) (st := []) (pc' := 19) (b1 := (0, 0)) (b2 := (0, 0)) dX11_message_16 lRX11_153 kX10_isWord iX10_isWord rfl rfl rfl rfl rfl rfl (of_eq_true eo3) (ow_Sp.mono h (fun r1 N1 h => ?_))
      refine ow_ifeq (pc' := 22) (tg := 33) dX11_message_19 rfl rfl (fun hc => ?_) (fun hc => ?_)
      · have h := h.1 hc
        refine ow_iconst (pc' := 34) (n := (-1)) dX11_message_33 rfl rfl ?_
        exact ow_iret dX11_message_34 rfl rfl h
      · have h := h.2 hc
        refine ow_iload_n (pc' := 23) (x := l3) dX11_message_22 rfl rfl ?_
        refine ow_iconst (pc' := 24) (n := 1) dX11_message_23 rfl rfl ?_
        refine ow_icmplt (pc' := 27) (tg := 33) dX11_message_24 rfl rfl (fun hc => ?_) (fun hc => ?_)
        · have h := h.1 hc
          refine ow_iconst (pc' := 34) (n := (-1)) dX11_message_33 rfl rfl ?_
          exact ow_iret dX11_message_34 rfl rfl h
        · have h := h.2 hc
          refine ow_iload_n (pc' := 28) (x := l3) dX11_message_27 rfl rfl ?_
          refine ow_bipush (pc' := 30) (n := 8) dX11_message_28 rfl rfl ?_
          refine ow_icmple (pc' := 33) (tg := 35) dX11_message_30 rfl rfl (fun hc => ?_) (fun hc => ?_)
          · have h := h.1 hc
            refine ow_aload_n (pc' := 36) (x := 0) dX11_message_35 rfl rfl ?_
            refine ow_getf3 (pc' := 39) (t := 3) (ji := 15) (val := 58) dX11_message_36 fRX11_83 rfl rfl rfl (of_eq_true eo0) eg0_15 ?_
            refine ow_iload_n (pc' := 40) (x := l3) dX11_message_39 rfl rfl ?_
            refine ow_callVv (z := mX9_prepare) (n := 1) (k := 9) (vs := [(0, l3)]) (x := 58) (st := []) (pc' := 43) (b1 := (0, 0)) (b2 := (0, 0)) dX11_message_40 lRX11_166 kX9_prepare iX9_prepare rfl rfl rfl rfl rfl rfl (of_eq_true eo58) (ow_Sp.mono h (fun r2 N2 h => ?_))
            refine ow_aload_n (pc' := 44) (x := 0) dX11_message_43 rfl rfl ?_
            refine ow_getf3 (pc' := 47) (t := 3) (ji := 15) (val := 58) dX11_message_44 fRX11_83 rfl rfl rfl (of_eq_true eo0) eg0_15 ?_
            refine ow_iload_n (pc' := 48) (x := l1) dX11_message_47 rfl rfl ?_
            refine ow_iload_n (pc' := 49) (x := l2) dX11_message_48 rfl rfl ?_
            refine ow_iload_n (pc' := 50) (x := l3) dX11_message_49 rfl rfl ?_
            refine ow_callVp (z := mX9_carry) (n := 3) (k := 9) (vs := [(0, l1), (0, l2), (0, l3)]) (x := 58) (st := []) (pc' := 53) (b1 := (0, 0)) (b2 := (0, 0)) dX11_message_50 lRX11_244 kX9_carry iX9_carry rfl rfl rfl rfl rfl rfl (of_eq_true eo58) (ow_Sp.mono h (fun r3 N3 h => ?_))
            exact ow_iret dX11_message_53 rfl rfl h
          · have h := h.2 hc
            refine ow_iconst (pc' := 34) (n := (-1)) dX11_message_33 rfl rfl ?_
            exact ow_iret dX11_message_34 rfl rfl h
theorem fX11_message {C : ow_C} {A L N : Int} {d : Nat} {M : ow_M} {K : Int → ow_M → Prop} {l1 l2 l3 : Int} (h : (l1 < 0 → K ((-1)) M) ∧ (0 ≤ l1 → (9999 < l1 → K ((-1)) M) ∧ (l1 ≤ 9999 → ow_Sp C (EM A L N) d mX10_isWord (0, 0) [(3, 3), (0, l2)] M (fun r1 N1 => (r1 = 0 → K ((-1)) N1) ∧ (r1 ≠ 0 → (l3 < 1 → K ((-1)) N1) ∧ (1 ≤ l3 → (l3 ≤ 8 → ow_Sp C (EM A L N) d mX9_prepare (0, 0) [(3, 58), (0, l3)] N1 (fun r2 N2 => ow_Sp C (EM A L N) d mX9_carry (0, 0) [(3, 58), (0, l1), (0, l2), (0, l3)] N2 (fun r3 N3 => K r3 N3))) ∧ (8 < l3 → K ((-1)) N1))))))) : ow_Sp C (EM A L N) (d + 1) mX11_message (0, 0) [(3, 0), (0, l1), (0, l2), (0, l3)] M K := ow_enter (by decide +kernel) rfl rfl (cX11_message_0 h)
set_option maxRecDepth 20000 in
theorem cX11_image_0 {C : ow_C} {A L N : Int} {d : Nat} {M : ow_M} {K : Int → ow_M → Prop} (h : ow_Sp C (EM A L N) d mX0_become (0, 0) [(3, 10), (3, 6)] M (fun r1 N1 => ow_Sp C (EM A L N) d mX4_become (0, 0) [(3, 18), (3, 14)] N1 (fun r2 N2 => ∀ N3, N3 = ow_up N2 0 9 (N2 0 8) → ∀ N4, N4 = ow_up N3 0 11 (N3 0 10) → K (N4 6 4) N4))) : ow_At C (EM A L N) (d + 1) mX11_image 0 [(0, (3, 0))] [] (0, 0) M K := by
  refine ow_aload_n (pc' := 1) (x := 0) dX11_image_0 rfl rfl ?_
  refine ow_getf3 (pc' := 4) (t := 3) (ji := 2) (val := 10) dX11_image_1 fRX11_59 rfl rfl rfl (of_eq_true eo0) eg0_2 ?_
  refine ow_aload_n (pc' := 5) (x := 0) dX11_image_4 rfl rfl ?_
  refine ow_getf3 (pc' := 8) (t := 3) (ji := 1) (val := 6) dX11_image_5 fRX11_55 rfl rfl rfl (of_eq_true eo0) eg0_1 ?_
  refine ow_callVv (z := mX0_become) (n := 1) (k := 0) (vs := [(3, 6)]) (x := 10) (st := []) (pc' := 11) (b1 := (0, 0)) (b2 := (0, 0)) dX11_image_8 lRX11_248 kX0_become iX0_become rfl rfl rfl rfl rfl rfl (of_eq_true eo10) (ow_Sp.mono h (fun r1 N1 h => ?_))
  refine ow_aload_n (pc' := 12) (x := 0) dX11_image_11 rfl rfl ?_
  refine ow_getf3 (pc' := 15) (t := 3) (ji := 4) (val := 18) dX11_image_12 fRX11_69 rfl rfl rfl (of_eq_true eo0) eg0_4 ?_
  refine ow_aload_n (pc' := 16) (x := 0) dX11_image_15 rfl rfl ?_
  refine ow_getf3 (pc' := 19) (t := 3) (ji := 3) (val := 14) dX11_image_16 fRX11_65 rfl rfl rfl (of_eq_true eo0) eg0_3 ?_
  refine ow_callVv (z := mX4_become) (n := 1) (k := 4) (vs := [(3, 14)]) (x := 18) (st := []) (pc' := 22) (b1 := (0, 0)) (b2 := (0, 0)) dX11_image_19 lRX11_252 kX4_become iX4_become rfl rfl rfl rfl rfl rfl (of_eq_true eo18) (ow_Sp.mono h (fun r2 N2 h => ?_))
  refine ow_aload_n (pc' := 23) (x := 0) dX11_image_22 rfl rfl ?_
  refine ow_aload_n (pc' := 24) (x := 0) dX11_image_23 rfl rfl ?_
  refine ow_getf3 (pc' := 27) (t := 0) (ji := 8) (val := N2 0 8) dX11_image_24 fRX11_23 rfl rfl rfl (of_eq_true eo0) eg0_8 ?_
  refine ow_putf2 (pc' := 30) (t := 0) (ji := 9) dX11_image_27 fRX11_26 rfl rfl rfl rfl (of_eq_true eo0) (of_eq_true en0_9) (fun hz => absurd hz (by decide)) (fun N3 eN3 => ?_)
  have h := h N3 eN3
  refine ow_aload_n (pc' := 31) (x := 0) dX11_image_30 rfl rfl ?_
  refine ow_aload_n (pc' := 32) (x := 0) dX11_image_31 rfl rfl ?_
  refine ow_getf3 (pc' := 35) (t := 0) (ji := 10) (val := N3 0 10) dX11_image_32 fRX11_29 rfl rfl rfl (of_eq_true eo0) eg0_10 ?_
  refine ow_putf2 (pc' := 38) (t := 0) (ji := 11) dX11_image_35 fRX11_32 rfl rfl rfl rfl (of_eq_true eo0) (of_eq_true en0_11) (fun hz => absurd hz (by decide)) (fun N4 eN4 => ?_)
  have h := h N4 eN4
  refine ow_aload_n (pc' := 39) (x := 0) dX11_image_38 rfl rfl ?_
  refine ow_getf3 (pc' := 42) (t := 3) (ji := 1) (val := 6) dX11_image_39 fRX11_55 rfl rfl rfl (of_eq_true eo0) eg0_1 ?_
  refine ow_getf3 (pc' := 45) (t := 0) (ji := 4) (val := N4 6 4) dX11_image_42 fRX11_114 rfl rfl rfl (of_eq_true eo6) eg6_4 ?_
  exact ow_iret dX11_image_45 rfl rfl h
theorem fX11_image {C : ow_C} {A L N : Int} {d : Nat} {M : ow_M} {K : Int → ow_M → Prop} (h : ow_Sp C (EM A L N) d mX0_become (0, 0) [(3, 10), (3, 6)] M (fun r1 N1 => ow_Sp C (EM A L N) d mX4_become (0, 0) [(3, 18), (3, 14)] N1 (fun r2 N2 => ∀ N3, N3 = ow_up N2 0 9 (N2 0 8) → ∀ N4, N4 = ow_up N3 0 11 (N3 0 10) → K (N4 6 4) N4))) : ow_Sp C (EM A L N) (d + 1) mX11_image (0, 0) [(3, 0)] M K := ow_enter (by decide +kernel) rfl rfl (cX11_image_0 h)
set_option maxRecDepth 20000 in
theorem cX11_back_0 {C : ow_C} {A L N : Int} {d : Nat} {M : ow_M} {K : Int → ow_M → Prop} (h : ow_Sp C (EM A L N) d mX0_become (0, 0) [(3, 6), (3, 10)] M (fun r1 N1 => ow_Sp C (EM A L N) d mX4_become (0, 0) [(3, 14), (3, 18)] N1 (fun r2 N2 => ∀ N3, N3 = ow_up N2 0 8 (N2 0 9) → ow_Sp C (EM A L N) d mX11_rule (0, 0) [(3, 0), (0, N3 0 11)] N3 (fun r4 N4 => K (N4 6 4) N4)))) : ow_At C (EM A L N) (d + 1) mX11_back 0 [(0, (3, 0))] [] (0, 0) M K := by
  refine ow_aload_n (pc' := 1) (x := 0) dX11_back_0 rfl rfl ?_
  refine ow_getf3 (pc' := 4) (t := 3) (ji := 1) (val := 6) dX11_back_1 fRX11_55 rfl rfl rfl (of_eq_true eo0) eg0_1 ?_
  refine ow_aload_n (pc' := 5) (x := 0) dX11_back_4 rfl rfl ?_
  refine ow_getf3 (pc' := 8) (t := 3) (ji := 2) (val := 10) dX11_back_5 fRX11_59 rfl rfl rfl (of_eq_true eo0) eg0_2 ?_
  refine ow_callVv (z := mX0_become) (n := 1) (k := 0) (vs := [(3, 10)]) (x := 6) (st := []) (pc' := 11) (b1 := (0, 0)) (b2 := (0, 0)) dX11_back_8 lRX11_248 kX0_become iX0_become rfl rfl rfl rfl rfl rfl (of_eq_true eo6) (ow_Sp.mono h (fun r1 N1 h => ?_))
  refine ow_aload_n (pc' := 12) (x := 0) dX11_back_11 rfl rfl ?_
  refine ow_getf3 (pc' := 15) (t := 3) (ji := 3) (val := 14) dX11_back_12 fRX11_65 rfl rfl rfl (of_eq_true eo0) eg0_3 ?_
  refine ow_aload_n (pc' := 16) (x := 0) dX11_back_15 rfl rfl ?_
  refine ow_getf3 (pc' := 19) (t := 3) (ji := 4) (val := 18) dX11_back_16 fRX11_69 rfl rfl rfl (of_eq_true eo0) eg0_4 ?_
  refine ow_callVv (z := mX4_become) (n := 1) (k := 4) (vs := [(3, 18)]) (x := 14) (st := []) (pc' := 22) (b1 := (0, 0)) (b2 := (0, 0)) dX11_back_19 lRX11_252 kX4_become iX4_become rfl rfl rfl rfl rfl rfl (of_eq_true eo14) (ow_Sp.mono h (fun r2 N2 h => ?_))
  refine ow_aload_n (pc' := 23) (x := 0) dX11_back_22 rfl rfl ?_
  refine ow_aload_n (pc' := 24) (x := 0) dX11_back_23 rfl rfl ?_
  refine ow_getf3 (pc' := 27) (t := 0) (ji := 9) (val := N2 0 9) dX11_back_24 fRX11_26 rfl rfl rfl (of_eq_true eo0) eg0_9 ?_
  refine ow_putf2 (pc' := 30) (t := 0) (ji := 8) dX11_back_27 fRX11_23 rfl rfl rfl rfl (of_eq_true eo0) (of_eq_true en0_8) (fun hz => absurd hz (by decide)) (fun N3 eN3 => ?_)
  have h := h N3 eN3
  refine ow_aload_n (pc' := 31) (x := 0) dX11_back_30 rfl rfl ?_
  refine ow_aload_n (pc' := 32) (x := 0) dX11_back_31 rfl rfl ?_
  refine ow_getf3 (pc' := 35) (t := 0) (ji := 11) (val := N3 0 11) dX11_back_32 fRX11_32 rfl rfl rfl (of_eq_true eo0) eg0_11 ?_
  refine ow_callVv (z := mX11_rule) (n := 1) (k := 11) (vs := [(0, N3 0 11)]) (x := 0) (st := []) (pc' := 38) (b1 := (0, 0)) (b2 := (0, 0)) dX11_back_35 lRX11_135 kX11_rule iX11_rule rfl rfl rfl rfl rfl rfl (of_eq_true eo0) (ow_Sp.mono h (fun r4 N4 h => ?_))
  refine ow_aload_n (pc' := 39) (x := 0) dX11_back_38 rfl rfl ?_
  refine ow_getf3 (pc' := 42) (t := 3) (ji := 1) (val := 6) dX11_back_39 fRX11_55 rfl rfl rfl (of_eq_true eo0) eg0_1 ?_
  refine ow_getf3 (pc' := 45) (t := 0) (ji := 4) (val := N4 6 4) dX11_back_42 fRX11_114 rfl rfl rfl (of_eq_true eo6) eg6_4 ?_
  exact ow_iret dX11_back_45 rfl rfl h
theorem fX11_back {C : ow_C} {A L N : Int} {d : Nat} {M : ow_M} {K : Int → ow_M → Prop} (h : ow_Sp C (EM A L N) d mX0_become (0, 0) [(3, 6), (3, 10)] M (fun r1 N1 => ow_Sp C (EM A L N) d mX4_become (0, 0) [(3, 14), (3, 18)] N1 (fun r2 N2 => ∀ N3, N3 = ow_up N2 0 8 (N2 0 9) → ow_Sp C (EM A L N) d mX11_rule (0, 0) [(3, 0), (0, N3 0 11)] N3 (fun r4 N4 => K (N4 6 4) N4)))) : ow_Sp C (EM A L N) (d + 1) mX11_back (0, 0) [(3, 0)] M K := ow_enter (by decide +kernel) rfl rfl (cX11_back_0 h)
set_option maxRecDepth 20000 in
theorem cX11_about_0 {C : ow_C} {A L N : Int} {d : Nat} {M : ow_M} {K : Int → ow_M → Prop} {l1 : Int} (h : (l1 = 0 → K A M) ∧ (l1 ≠ 0 → (l1 = 1 → K L M) ∧ (l1 ≠ 1 → (l1 = 2 → K N M) ∧ (l1 ≠ 2 → (l1 = 3 → K (M 0 8) M) ∧ (l1 ≠ 3 → (l1 = 4 → K (M 0 10) M) ∧ (l1 ≠ 4 → (l1 = 5 → K (M 6 4) M) ∧ (l1 ≠ 5 → (l1 = 6 → K (M 14 0) M) ∧ (l1 ≠ 6 → (l1 = 7 → K (M 14 1) M) ∧ (l1 ≠ 7 → (l1 = 8 → K (M 0 6) M) ∧ (l1 ≠ 8 → (l1 = 9 → ow_Sp C (EM A L N) d mX11_isText (0, 0) [(3, 0), (0, M 0 10)] M (fun r1 N1 => (r1 = 0 → K 0 N1) ∧ (r1 ≠ 0 → (0 ≤ (N1 0 10) ∧ (N1 0 10) < 4) ∧ ow_O (EM A L N) N1 (22 + 6 * (N1 0 10)) 7 ∧ K (ow_gv (EM A L N) N1 (22 + 6 * (N1 0 10)) 14) N1))) ∧ (l1 ≠ 9 → (l1 < 10 → K ((-2)) M) ∧ (10 ≤ l1 → ow_I (l1 - 10) ∧ ow_Sp C (EM A L N) d mX0_has (0, 0) [(3, 6), (0, l1 - 10)] M (fun r2 N2 => (r2 = 0 → K ((-2)) N2) ∧ (r2 ≠ 0 → (0 ≤ (l1 - 10) ∧ (l1 - 10) < 40) ∧ K (N2 8 (l1 - 10)) N2)))))))))))))) : ow_At C (EM A L N) (d + 1) mX11_about 0 [(0, (3, 0)), (1, (0, l1))] [] (0, 0) M K := by
  refine ow_iload_n (pc' := 1) (x := l1) dX11_about_0 rfl rfl ?_
  refine ow_tsw (tbl := [(0, 56), (1, 64), (2, 72), (3, 80), (4, 85), (5, 90), (6, 98), (7, 106), (8, 114), (9, 119)]) (td := 147) dX11_about_1 rfl rfl rfl rfl ?_
  refine And.intro (fun hc => ?_) (fun hc => ?_)
  · have h := h.1 hc
    refine ow_aload_n (pc' := 57) (x := 0) dX11_about_56 rfl rfl ?_
    refine ow_getf3 (pc' := 60) (t := 3) (ji := 0) (val := 3) dX11_about_57 fRX11_46 rfl rfl rfl (of_eq_true eo0) eg0_0 ?_
    refine ow_getf3 (pc' := 63) (t := 0) (ji := 0) (val := A) dX11_about_60 fRX11_255 rfl rfl rfl (of_eq_true eo3) eg3_0 ?_
    exact ow_iret dX11_about_63 rfl rfl h
  have h := h.2 hc
  refine And.intro (fun hc => ?_) (fun hc => ?_)
  · have h := h.1 hc
    refine ow_aload_n (pc' := 65) (x := 0) dX11_about_64 rfl rfl ?_
    refine ow_getf3 (pc' := 68) (t := 3) (ji := 0) (val := 3) dX11_about_65 fRX11_46 rfl rfl rfl (of_eq_true eo0) eg0_0 ?_
    refine ow_getf3 (pc' := 71) (t := 0) (ji := 1) (val := L) dX11_about_68 fRX11_213 rfl rfl rfl (of_eq_true eo3) eg3_1 ?_
    exact ow_iret dX11_about_71 rfl rfl h
  have h := h.2 hc
  refine And.intro (fun hc => ?_) (fun hc => ?_)
  · have h := h.1 hc
    refine ow_aload_n (pc' := 73) (x := 0) dX11_about_72 rfl rfl ?_
    refine ow_getf3 (pc' := 76) (t := 3) (ji := 0) (val := 3) dX11_about_73 fRX11_46 rfl rfl rfl (of_eq_true eo0) eg0_0 ?_
    refine ow_getf3 (pc' := 79) (t := 0) (ji := 2) (val := N) dX11_about_76 fRX11_191 rfl rfl rfl (of_eq_true eo3) eg3_2 ?_
    exact ow_iret dX11_about_79 rfl rfl h
  have h := h.2 hc
  refine And.intro (fun hc => ?_) (fun hc => ?_)
  · have h := h.1 hc
    refine ow_aload_n (pc' := 81) (x := 0) dX11_about_80 rfl rfl ?_
    refine ow_getf3 (pc' := 84) (t := 0) (ji := 8) (val := M 0 8) dX11_about_81 fRX11_23 rfl rfl rfl (of_eq_true eo0) eg0_8 ?_
    exact ow_iret dX11_about_84 rfl rfl h
  have h := h.2 hc
  refine And.intro (fun hc => ?_) (fun hc => ?_)
  · have h := h.1 hc
    refine ow_aload_n (pc' := 86) (x := 0) dX11_about_85 rfl rfl ?_
    refine ow_getf3 (pc' := 89) (t := 0) (ji := 10) (val := M 0 10) dX11_about_86 fRX11_29 rfl rfl rfl (of_eq_true eo0) eg0_10 ?_
    exact ow_iret dX11_about_89 rfl rfl h
  have h := h.2 hc
  refine And.intro (fun hc => ?_) (fun hc => ?_)
  · have h := h.1 hc
    refine ow_aload_n (pc' := 91) (x := 0) dX11_about_90 rfl rfl ?_
    refine ow_getf3 (pc' := 94) (t := 3) (ji := 1) (val := 6) dX11_about_91 fRX11_55 rfl rfl rfl (of_eq_true eo0) eg0_1 ?_
    refine ow_getf3 (pc' := 97) (t := 0) (ji := 4) (val := M 6 4) dX11_about_94 fRX11_114 rfl rfl rfl (of_eq_true eo6) eg6_4 ?_
    exact ow_iret dX11_about_97 rfl rfl h
  have h := h.2 hc
  refine And.intro (fun hc => ?_) (fun hc => ?_)
  · have h := h.1 hc
    refine ow_aload_n (pc' := 99) (x := 0) dX11_about_98 rfl rfl ?_
    refine ow_getf3 (pc' := 102) (t := 3) (ji := 3) (val := 14) dX11_about_99 fRX11_65 rfl rfl rfl (of_eq_true eo0) eg0_3 ?_
    refine ow_getf3 (pc' := 105) (t := 0) (ji := 0) (val := M 14 0) dX11_about_102 fRX11_234 rfl rfl rfl (of_eq_true eo14) eg14_0 ?_
    exact ow_iret dX11_about_105 rfl rfl h
  have h := h.2 hc
  refine And.intro (fun hc => ?_) (fun hc => ?_)
  · have h := h.1 hc
    refine ow_aload_n (pc' := 107) (x := 0) dX11_about_106 rfl rfl ?_
    refine ow_getf3 (pc' := 110) (t := 3) (ji := 3) (val := 14) dX11_about_107 fRX11_65 rfl rfl rfl (of_eq_true eo0) eg0_3 ?_
    refine ow_getf3 (pc' := 113) (t := 0) (ji := 1) (val := M 14 1) dX11_about_110 fRX11_239 rfl rfl rfl (of_eq_true eo14) eg14_1 ?_
    exact ow_iret dX11_about_113 rfl rfl h
  have h := h.2 hc
  refine And.intro (fun hc => ?_) (fun hc => ?_)
  · have h := h.1 hc
    refine ow_aload_n (pc' := 115) (x := 0) dX11_about_114 rfl rfl ?_
    refine ow_getf3 (pc' := 118) (t := 0) (ji := 6) (val := M 0 6) dX11_about_115 fRX11_13 rfl rfl rfl (of_eq_true eo0) eg0_6 ?_
    exact ow_iret dX11_about_118 rfl rfl h
  have h := h.2 hc
  refine And.intro (fun hc => ?_) (fun hc => ?_)
  · have h := h.1 hc
    refine ow_aload_n (pc' := 120) (x := 0) dX11_about_119 rfl rfl ?_
    refine ow_aload_n (pc' := 121) (x := 0) dX11_about_120 rfl rfl ?_
    refine ow_getf3 (pc' := 124) (t := 0) (ji := 10) (val := M 0 10) dX11_about_121 fRX11_29 rfl rfl rfl (of_eq_true eo0) eg0_10 ?_
    refine ow_callVp (z := mX11_isText) (n := 1) (k := 11) (vs := [(0, M 0 10)]) (x := 0) (st := []) (pc' := 127) (b1 := (0, 0)) (b2 := (0, 0)) dX11_about_124 lRX11_132 kX11_isText iX11_isText rfl rfl rfl rfl rfl rfl (of_eq_true eo0) (ow_Sp.mono h (fun r1 N1 h => ?_))
    refine ow_ifeq (pc' := 130) (tg := 145) dX11_about_127 rfl rfl (fun hc => ?_) (fun hc => ?_)
    · have h := h.1 hc
      refine ow_iconst (pc' := 146) (n := 0) dX11_about_145 rfl rfl ?_
      exact ow_iret dX11_about_146 rfl rfl h
    · have h := h.2 hc
      refine ow_aload_n (pc' := 131) (x := 0) dX11_about_130 rfl rfl ?_
      refine ow_getf3 (pc' := 134) (t := 3) (ji := 7) (val := 2) dX11_about_131 fRX11_19 rfl rfl rfl (of_eq_true eo0) eg0_7 ?_
      refine ow_aload_n (pc' := 135) (x := 0) dX11_about_134 rfl rfl ?_
      refine ow_getf3 (pc' := 138) (t := 0) (ji := 10) (val := N1 0 10) dX11_about_135 fRX11_29 rfl rfl rfl (of_eq_true eo0) eg0_10 ?_
      obtain ⟨vv1, h⟩ := h
      refine ow_aaload3 (pc' := 139) (t := 103) (val := 22 + 6 * (N1 0 10)) dX11_about_138 rfl rfl (Eq.mpr (er2 _) vv1) (ea2 _) ?_
      obtain ⟨w, h⟩ := h
      refine ow_getf2 (pc' := 142) (t := 0) (ji := 14) dX11_about_139 fRX11_258 rfl rfl rfl w ?_
      refine ow_goto (tg := 146) dX11_about_142 rfl ?_
      exact ow_iret dX11_about_146 rfl rfl h
  have h := h.2 hc
  refine ow_iload_n (pc' := 148) (x := l1) dX11_about_147 rfl rfl ?_
  refine ow_bipush (pc' := 150) (n := 10) dX11_about_148 rfl rfl ?_
  refine ow_icmplt (pc' := 153) (tg := 182) dX11_about_150 rfl rfl (fun hc => ?_) (fun hc => ?_)
  · have h := h.1 hc
    refine ow_bipush (pc' := 184) (n := (-2)) dX11_about_182 rfl rfl ?_
    exact ow_iret dX11_about_184 rfl rfl h
  · have h := h.2 hc
    refine ow_aload_n (pc' := 154) (x := 0) dX11_about_153 rfl rfl ?_
    refine ow_getf3 (pc' := 157) (t := 3) (ji := 1) (val := 6) dX11_about_154 fRX11_55 rfl rfl rfl (of_eq_true eo0) eg0_1 ?_
    refine ow_iload_n (pc' := 158) (x := l1) dX11_about_157 rfl rfl ?_
    refine ow_bipush (pc' := 160) (n := 10) dX11_about_158 rfl rfl ?_
    obtain ⟨vv2, h⟩ := h
    refine ow_isub (pc' := 161) dX11_about_160 vv2 rfl ?_
    refine ow_callVp (z := mX0_has) (n := 1) (k := 0) (vs := [(0, l1 - 10)]) (x := 6) (st := []) (pc' := 164) (b1 := (0, 0)) (b2 := (0, 0)) dX11_about_161 lRX11_147 kX0_has iX0_has rfl rfl rfl rfl rfl rfl (of_eq_true eo6) (ow_Sp.mono h (fun r2 N2 h => ?_))
    refine ow_ifeq (pc' := 167) (tg := 182) dX11_about_164 rfl rfl (fun hc => ?_) (fun hc => ?_)
    · have h := h.1 hc
      refine ow_bipush (pc' := 184) (n := (-2)) dX11_about_182 rfl rfl ?_
      exact ow_iret dX11_about_184 rfl rfl h
    · have h := h.2 hc
      refine ow_aload_n (pc' := 168) (x := 0) dX11_about_167 rfl rfl ?_
      refine ow_getf3 (pc' := 171) (t := 3) (ji := 1) (val := 6) dX11_about_168 fRX11_55 rfl rfl rfl (of_eq_true eo0) eg0_1 ?_
      refine ow_getf3 (pc' := 174) (t := 3) (ji := 2) (val := 8) dX11_about_171 fRX11_196 rfl rfl rfl (of_eq_true eo6) eg6_2 ?_
      refine ow_iload_n (pc' := 175) (x := l1) dX11_about_174 rfl rfl ?_
      refine ow_bipush (pc' := 177) (n := 10) dX11_about_175 rfl rfl ?_
      refine ow_isub (pc' := 178) dX11_about_177 vv2 rfl ?_
      obtain ⟨vv3, h⟩ := h
      refine ow_iaload3 (pc' := 179) (val := N2 8 (l1 - 10)) dX11_about_178 rfl (Eq.mpr (er8 _) vv3) (ea8 _) ?_
      refine ow_goto (tg := 184) dX11_about_179 rfl ?_
      exact ow_iret dX11_about_184 rfl rfl h
theorem fX11_about {C : ow_C} {A L N : Int} {d : Nat} {M : ow_M} {K : Int → ow_M → Prop} {l1 : Int} (h : (l1 = 0 → K A M) ∧ (l1 ≠ 0 → (l1 = 1 → K L M) ∧ (l1 ≠ 1 → (l1 = 2 → K N M) ∧ (l1 ≠ 2 → (l1 = 3 → K (M 0 8) M) ∧ (l1 ≠ 3 → (l1 = 4 → K (M 0 10) M) ∧ (l1 ≠ 4 → (l1 = 5 → K (M 6 4) M) ∧ (l1 ≠ 5 → (l1 = 6 → K (M 14 0) M) ∧ (l1 ≠ 6 → (l1 = 7 → K (M 14 1) M) ∧ (l1 ≠ 7 → (l1 = 8 → K (M 0 6) M) ∧ (l1 ≠ 8 → (l1 = 9 → ow_Sp C (EM A L N) d mX11_isText (0, 0) [(3, 0), (0, M 0 10)] M (fun r1 N1 => (r1 = 0 → K 0 N1) ∧ (r1 ≠ 0 → (0 ≤ (N1 0 10) ∧ (N1 0 10) < 4) ∧ ow_O (EM A L N) N1 (22 + 6 * (N1 0 10)) 7 ∧ K (ow_gv (EM A L N) N1 (22 + 6 * (N1 0 10)) 14) N1))) ∧ (l1 ≠ 9 → (l1 < 10 → K ((-2)) M) ∧ (10 ≤ l1 → ow_I (l1 - 10) ∧ ow_Sp C (EM A L N) d mX0_has (0, 0) [(3, 6), (0, l1 - 10)] M (fun r2 N2 => (r2 = 0 → K ((-2)) N2) ∧ (r2 ≠ 0 → (0 ≤ (l1 - 10) ∧ (l1 - 10) < 40) ∧ K (N2 8 (l1 - 10)) N2)))))))))))))) : ow_Sp C (EM A L N) (d + 1) mX11_about (0, 0) [(3, 0), (0, l1)] M K := ow_enter (by decide +kernel) rfl rfl (cX11_about_0 h)
set_option maxRecDepth 20000 in
theorem cX11_append_0 {C : ow_C} {A L N : Int} {d : Nat} {M : ow_M} {K : Int → ow_M → Prop} {l1 : Int} (h : ow_At C (EM A L N) d mX11_append 3 [(0, (3, 0)), (1, (0, l1)), (2, (0, 24))] [] (0, 0) M K) : ow_At C (EM A L N) d mX11_append 0 [(0, (3, 0)), (1, (0, l1))] [] (0, 0) M K := by
  refine ow_bipush (pc' := 2) (n := 24) dX11_append_0 rfl rfl ?_
  refine ow_istore_n (pc' := 3) (lv' := [(0, (3, 0)), (1, (0, l1)), (2, (0, 24))]) dX11_append_2 rfl rfl rfl ?_
  exact h
set_option maxRecDepth 20000 in
theorem cX11_append_3 {C : ow_C} {A L N : Int} {d : Nat} {M : ow_M} {K : Int → ow_M → Prop} {l1 l2 : Int} (h : (l2 < 0 → K 0 M) ∧ (0 ≤ l2 → ((M 0 6) < 0 → ow_I (l2 + (-8)) ∧ ow_At C (EM A L N) d mX11_append 3 [(0, (3, 0)), (1, (0, l1)), (2, (0, l2 + (-8)))] [] (0, 0) M K) ∧ (0 ≤ (M 0 6) → (300 ≤ (M 0 6) → ow_I (l2 + (-8)) ∧ ow_At C (EM A L N) d mX11_append 3 [(0, (3, 0)), (1, (0, l1)), (2, (0, l2 + (-8)))] [] (0, 0) M K) ∧ ((M 0 6) < 300 → (0 ≤ (M 0 6) ∧ (M 0 6) < 300) ∧ ∀ N1, N1 = ow_up M 1 (M 0 6) (ow_and (ow_ushr l1 l2) 255) → ow_I ((N1 0 6) + 1) ∧ ∀ N2, N2 = ow_up N1 0 6 ((N1 0 6) + 1) → ow_I (l2 + (-8)) ∧ ow_At C (EM A L N) d mX11_append 3 [(0, (3, 0)), (1, (0, l1)), (2, (0, l2 + (-8)))] [] (0, 0) N2 K)))) : ow_At C (EM A L N) d mX11_append 3 [(0, (3, 0)), (1, (0, l1)), (2, (0, l2))] [] (0, 0) M K := by
  refine ow_iload_n (pc' := 4) (x := l2) dX11_append_3 rfl rfl ?_
  refine ow_iflt (pc' := 7) (tg := 56) dX11_append_4 rfl rfl (fun hc => ?_) (fun hc => ?_)
  · have h := h.1 hc
    exact ow_vret dX11_append_56 rfl rfl h
  · have h := h.2 hc
    refine ow_aload_n (pc' := 8) (x := 0) dX11_append_7 rfl rfl ?_
    refine ow_getf3 (pc' := 11) (t := 0) (ji := 6) (val := M 0 6) dX11_append_8 fRX11_13 rfl rfl rfl (of_eq_true eo0) eg0_6 ?_
    refine ow_iflt (pc' := 14) (tg := 50) dX11_append_11 rfl rfl (fun hc => ?_) (fun hc => ?_)
    · have h := h.1 hc
      obtain ⟨vv1, h⟩ := h
      refine ow_iinc (pc' := 53) (lv' := [(0, (3, 0)), (1, (0, l1)), (2, (0, l2 + (-8)))]) dX11_append_50 rfl vv1 rfl rfl rfl ?_
      refine ow_goto (tg := 3) dX11_append_53 rfl ?_
      exact h
    · have h := h.2 hc
      refine ow_aload_n (pc' := 15) (x := 0) dX11_append_14 rfl rfl ?_
      refine ow_getf3 (pc' := 18) (t := 0) (ji := 6) (val := M 0 6) dX11_append_15 fRX11_13 rfl rfl rfl (of_eq_true eo0) eg0_6 ?_
      refine ow_sipush (pc' := 21) (n := 300) dX11_append_18 rfl rfl ?_
      refine ow_icmpge (pc' := 24) (tg := 50) dX11_append_21 rfl rfl (fun hc => ?_) (fun hc => ?_)
      · have h := h.1 hc
        obtain ⟨vv2, h⟩ := h
        refine ow_iinc (pc' := 53) (lv' := [(0, (3, 0)), (1, (0, l1)), (2, (0, l2 + (-8)))]) dX11_append_50 rfl vv2 rfl rfl rfl ?_
        refine ow_goto (tg := 3) dX11_append_53 rfl ?_
        exact h
      · have h := h.2 hc
        refine ow_aload_n (pc' := 25) (x := 0) dX11_append_24 rfl rfl ?_
        refine ow_getf3 (pc' := 28) (t := 3) (ji := 5) (val := 1) dX11_append_25 fRX11_9 rfl rfl rfl (of_eq_true eo0) eg0_5 ?_
        refine ow_aload_n (pc' := 29) (x := 0) dX11_append_28 rfl rfl ?_
        refine ow_getf3 (pc' := 32) (t := 0) (ji := 6) (val := M 0 6) dX11_append_29 fRX11_13 rfl rfl rfl (of_eq_true eo0) eg0_6 ?_
        refine ow_iload_n (pc' := 33) (x := l1) dX11_append_32 rfl rfl ?_
        refine ow_iload_n (pc' := 34) (x := l2) dX11_append_33 rfl rfl ?_
        refine ow_iushr (pc' := 35) dX11_append_34 rfl ?_
        refine ow_sipush (pc' := 38) (n := 255) dX11_append_35 rfl rfl ?_
        refine ow_iand (pc' := 39) dX11_append_38 rfl ?_
        obtain ⟨vv3, h⟩ := h
        refine ow_iastore2 (pc' := 40) dX11_append_39 rfl (Eq.mpr (er1 _) vv3) (of_eq_true (en1 _)) (fun N1 eN1 => ?_)
        have h := h N1 eN1
        refine ow_aload_n (pc' := 41) (x := 0) dX11_append_40 rfl rfl ?_
        refine ow_dup (pc' := 42) dX11_append_41 rfl rfl ?_
        refine ow_getf3 (pc' := 45) (t := 0) (ji := 6) (val := N1 0 6) dX11_append_42 fRX11_13 rfl rfl rfl (of_eq_true eo0) eg0_6 ?_
        refine ow_iconst (pc' := 46) (n := 1) dX11_append_45 rfl rfl ?_
        obtain ⟨vv4, h⟩ := h
        refine ow_iadd (pc' := 47) dX11_append_46 vv4 rfl ?_
        refine ow_putf2 (pc' := 50) (t := 0) (ji := 6) dX11_append_47 fRX11_13 rfl rfl rfl rfl (of_eq_true eo0) (of_eq_true en0_6) (fun hz => absurd hz (by decide)) (fun N2 eN2 => ?_)
        have h := h N2 eN2
        obtain ⟨vv5, h⟩ := h
        refine ow_iinc (pc' := 53) (lv' := [(0, (3, 0)), (1, (0, l1)), (2, (0, l2 + (-8)))]) dX11_append_50 rfl vv5 rfl rfl rfl ?_
        refine ow_goto (tg := 3) dX11_append_53 rfl ?_
        exact h
theorem fX11_append {C : ow_C} {A L N : Int} {d : Nat} {M : ow_M} {K : Int → ow_M → Prop} {l1 : Int} (h : ow_At C (EM A L N) d mX11_append 3 [(0, (3, 0)), (1, (0, l1)), (2, (0, 24))] [] (0, 0) M K) : ow_Sp C (EM A L N) d mX11_append (0, 0) [(3, 0), (0, l1)] M K := ow_enter (by decide +kernel) rfl rfl (cX11_append_0 h)
set_option maxRecDepth 20000 in
theorem cX11_isText_0 {C : ow_C} {A L N : Int} {d : Nat} {M : ow_M} {K : Int → ow_M → Prop} {l1 : Int} (h : (l1 < 0 → K 0 M) ∧ (0 ≤ l1 → ((M 0 8) ≤ l1 → K 0 M) ∧ (l1 < (M 0 8) → (4 ≤ l1 → K 0 M) ∧ (l1 < 4 → K 1 M)))) : ow_At C (EM A L N) d mX11_isText 0 [(0, (3, 0)), (1, (0, l1))] [] (0, 0) M K := by
  refine ow_iload_n (pc' := 1) (x := l1) dX11_isText_0 rfl rfl ?_
  refine ow_iflt (pc' := 4) (tg := 21) dX11_isText_1 rfl rfl (fun hc => ?_) (fun hc => ?_)
  · have h := h.1 hc
    refine ow_iconst (pc' := 22) (n := 0) dX11_isText_21 rfl rfl ?_
    exact ow_zret dX11_isText_22 rfl rfl (Or.inl rfl) h
  · have h := h.2 hc
    refine ow_iload_n (pc' := 5) (x := l1) dX11_isText_4 rfl rfl ?_
    refine ow_aload_n (pc' := 6) (x := 0) dX11_isText_5 rfl rfl ?_
    refine ow_getf3 (pc' := 9) (t := 0) (ji := 8) (val := M 0 8) dX11_isText_6 fRX11_23 rfl rfl rfl (of_eq_true eo0) eg0_8 ?_
    refine ow_icmpge (pc' := 12) (tg := 21) dX11_isText_9 rfl rfl (fun hc => ?_) (fun hc => ?_)
    · have h := h.1 hc
      refine ow_iconst (pc' := 22) (n := 0) dX11_isText_21 rfl rfl ?_
      exact ow_zret dX11_isText_22 rfl rfl (Or.inl rfl) h
    · have h := h.2 hc
      refine ow_iload_n (pc' := 13) (x := l1) dX11_isText_12 rfl rfl ?_
      refine ow_iconst (pc' := 14) (n := 4) dX11_isText_13 rfl rfl ?_
      refine ow_icmpge (pc' := 17) (tg := 21) dX11_isText_14 rfl rfl (fun hc => ?_) (fun hc => ?_)
      · have h := h.1 hc
        refine ow_iconst (pc' := 22) (n := 0) dX11_isText_21 rfl rfl ?_
        exact ow_zret dX11_isText_22 rfl rfl (Or.inl rfl) h
      · have h := h.2 hc
        refine ow_iconst (pc' := 18) (n := 1) dX11_isText_17 rfl rfl ?_
        refine ow_goto (tg := 22) dX11_isText_18 rfl ?_
        exact ow_zret dX11_isText_22 rfl rfl (Or.inr rfl) h
theorem fX11_isText {C : ow_C} {A L N : Int} {d : Nat} {M : ow_M} {K : Int → ow_M → Prop} {l1 : Int} (h : (l1 < 0 → K 0 M) ∧ (0 ≤ l1 → ((M 0 8) ≤ l1 → K 0 M) ∧ (l1 < (M 0 8) → (4 ≤ l1 → K 0 M) ∧ (l1 < 4 → K 1 M)))) : ow_Sp C (EM A L N) d mX11_isText (0, 0) [(3, 0), (0, l1)] M K := ow_enter (by decide +kernel) rfl rfl (cX11_isText_0 h)
set_option maxRecDepth 20000 in
theorem cX11_isHands_0 {C : ow_C} {A L N : Int} {d : Nat} {M : ow_M} {K : Int → ow_M → Prop} {l0 : Int} (h : (l0 < 0 → K 0 M) ∧ (0 ≤ l0 → (8 < l0 → K 0 M) ∧ (l0 ≤ 8 → K 1 M))) : ow_At C (EM A L N) d mX11_isHands 0 [(0, (0, l0))] [] (0, 0) M K := by
  refine ow_iload_n (pc' := 1) (x := l0) dX11_isHands_0 rfl rfl ?_
  refine ow_iflt (pc' := 4) (tg := 14) dX11_isHands_1 rfl rfl (fun hc => ?_) (fun hc => ?_)
  · have h := h.1 hc
    refine ow_iconst (pc' := 15) (n := 0) dX11_isHands_14 rfl rfl ?_
    exact ow_zret dX11_isHands_15 rfl rfl (Or.inl rfl) h
  · have h := h.2 hc
    refine ow_iload_n (pc' := 5) (x := l0) dX11_isHands_4 rfl rfl ?_
    refine ow_bipush (pc' := 7) (n := 8) dX11_isHands_5 rfl rfl ?_
    refine ow_icmpgt (pc' := 10) (tg := 14) dX11_isHands_7 rfl rfl (fun hc => ?_) (fun hc => ?_)
    · have h := h.1 hc
      refine ow_iconst (pc' := 15) (n := 0) dX11_isHands_14 rfl rfl ?_
      exact ow_zret dX11_isHands_15 rfl rfl (Or.inl rfl) h
    · have h := h.2 hc
      refine ow_iconst (pc' := 11) (n := 1) dX11_isHands_10 rfl rfl ?_
      refine ow_goto (tg := 15) dX11_isHands_11 rfl ?_
      exact ow_zret dX11_isHands_15 rfl rfl (Or.inr rfl) h
theorem fX11_isHands {C : ow_C} {A L N : Int} {d : Nat} {M : ow_M} {K : Int → ow_M → Prop} {l0 : Int} (h : (l0 < 0 → K 0 M) ∧ (0 ≤ l0 → (8 < l0 → K 0 M) ∧ (l0 ≤ 8 → K 1 M))) : ow_Sp C (EM A L N) d mX11_isHands (0, 0) [(0, l0)] M K := ow_enter (by decide +kernel) rfl rfl (cX11_isHands_0 h)
set_option maxRecDepth 20000 in
theorem cX11_isTime_0 {C : ow_C} {A L N : Int} {d : Nat} {M : ow_M} {K : Int → ow_M → Prop} {l0 : Int} (h : (l0 < 0 → K 0 M) ∧ (0 ≤ l0 → (99 < l0 → K 0 M) ∧ (l0 ≤ 99 → K 1 M))) : ow_At C (EM A L N) d mX11_isTime 0 [(0, (0, l0))] [] (0, 0) M K := by
  refine ow_iload_n (pc' := 1) (x := l0) dX11_isTime_0 rfl rfl ?_
  refine ow_iflt (pc' := 4) (tg := 14) dX11_isTime_1 rfl rfl (fun hc => ?_) (fun hc => ?_)
  · have h := h.1 hc
    refine ow_iconst (pc' := 15) (n := 0) dX11_isTime_14 rfl rfl ?_
    exact ow_zret dX11_isTime_15 rfl rfl (Or.inl rfl) h
  · have h := h.2 hc
    refine ow_iload_n (pc' := 5) (x := l0) dX11_isTime_4 rfl rfl ?_
    refine ow_bipush (pc' := 7) (n := 99) dX11_isTime_5 rfl rfl ?_
    refine ow_icmpgt (pc' := 10) (tg := 14) dX11_isTime_7 rfl rfl (fun hc => ?_) (fun hc => ?_)
    · have h := h.1 hc
      refine ow_iconst (pc' := 15) (n := 0) dX11_isTime_14 rfl rfl ?_
      exact ow_zret dX11_isTime_15 rfl rfl (Or.inl rfl) h
    · have h := h.2 hc
      refine ow_iconst (pc' := 11) (n := 1) dX11_isTime_10 rfl rfl ?_
      refine ow_goto (tg := 15) dX11_isTime_11 rfl ?_
      exact ow_zret dX11_isTime_15 rfl rfl (Or.inr rfl) h
theorem fX11_isTime {C : ow_C} {A L N : Int} {d : Nat} {M : ow_M} {K : Int → ow_M → Prop} {l0 : Int} (h : (l0 < 0 → K 0 M) ∧ (0 ≤ l0 → (99 < l0 → K 0 M) ∧ (l0 ≤ 99 → K 1 M))) : ow_Sp C (EM A L N) d mX11_isTime (0, 0) [(0, l0)] M K := ow_enter (by decide +kernel) rfl rfl (cX11_isTime_0 h)
set_option maxRecDepth 20000 in
theorem cX11_isRoad_0 {C : ow_C} {A L N : Int} {d : Nat} {M : ow_M} {K : Int → ow_M → Prop} {l1 : Int} (h : ow_Sp C (EM A L N) d mX11_isText (0, 0) [(3, 0), (0, M 0 10)] M (fun r1 N1 => (r1 = 0 → K 0 N1) ∧ (r1 ≠ 0 → (l1 < 0 → K 0 N1) ∧ (0 ≤ l1 → (0 ≤ (N1 0 10) ∧ (N1 0 10) < 4) ∧ ow_O (EM A L N) N1 (22 + 6 * (N1 0 10)) 7 ∧ ((ow_gv (EM A L N) N1 (22 + 6 * (N1 0 10)) 14) ≤ l1 → K 0 N1) ∧ (l1 < (ow_gv (EM A L N) N1 (22 + 6 * (N1 0 10)) 14) → (24 ≤ l1 → K 0 N1) ∧ (l1 < 24 → K 1 N1)))))) : ow_At C (EM A L N) (d + 1) mX11_isRoad 0 [(0, (3, 0)), (1, (0, l1))] [] (0, 0) M K := by
  refine ow_aload_n (pc' := 1) (x := 0) dX11_isRoad_0 rfl rfl ?_
  refine ow_aload_n (pc' := 2) (x := 0) dX11_isRoad_1 rfl rfl ?_
  refine ow_getf3 (pc' := 5) (t := 0) (ji := 10) (val := M 0 10) dX11_isRoad_2 fRX11_29 rfl rfl rfl (of_eq_true eo0) eg0_10 ?_
  refine ow_callVp (z := mX11_isText) (n := 1) (k := 11) (vs := [(0, M 0 10)]) (x := 0) (st := []) (pc' := 8) (b1 := (0, 0)) (b2 := (0, 0)) dX11_isRoad_5 lRX11_132 kX11_isText iX11_isText rfl rfl rfl rfl rfl rfl (of_eq_true eo0) (ow_Sp.mono h (fun r1 N1 h => ?_))
  refine ow_ifeq (pc' := 11) (tg := 41) dX11_isRoad_8 rfl rfl (fun hc => ?_) (fun hc => ?_)
  · have h := h.1 hc
    refine ow_iconst (pc' := 42) (n := 0) dX11_isRoad_41 rfl rfl ?_
    exact ow_zret dX11_isRoad_42 rfl rfl (Or.inl rfl) h
  · have h := h.2 hc
    refine ow_iload_n (pc' := 12) (x := l1) dX11_isRoad_11 rfl rfl ?_
    refine ow_iflt (pc' := 15) (tg := 41) dX11_isRoad_12 rfl rfl (fun hc => ?_) (fun hc => ?_)
    · have h := h.1 hc
      refine ow_iconst (pc' := 42) (n := 0) dX11_isRoad_41 rfl rfl ?_
      exact ow_zret dX11_isRoad_42 rfl rfl (Or.inl rfl) h
    · have h := h.2 hc
      refine ow_iload_n (pc' := 16) (x := l1) dX11_isRoad_15 rfl rfl ?_
      refine ow_aload_n (pc' := 17) (x := 0) dX11_isRoad_16 rfl rfl ?_
      refine ow_getf3 (pc' := 20) (t := 3) (ji := 7) (val := 2) dX11_isRoad_17 fRX11_19 rfl rfl rfl (of_eq_true eo0) eg0_7 ?_
      refine ow_aload_n (pc' := 21) (x := 0) dX11_isRoad_20 rfl rfl ?_
      refine ow_getf3 (pc' := 24) (t := 0) (ji := 10) (val := N1 0 10) dX11_isRoad_21 fRX11_29 rfl rfl rfl (of_eq_true eo0) eg0_10 ?_
      obtain ⟨vv1, h⟩ := h
      refine ow_aaload3 (pc' := 25) (t := 103) (val := 22 + 6 * (N1 0 10)) dX11_isRoad_24 rfl rfl (Eq.mpr (er2 _) vv1) (ea2 _) ?_
      obtain ⟨w, h⟩ := h
      refine ow_getf2 (pc' := 28) (t := 0) (ji := 14) dX11_isRoad_25 fRX11_258 rfl rfl rfl w ?_
      refine ow_icmpge (pc' := 31) (tg := 41) dX11_isRoad_28 rfl rfl (fun hc => ?_) (fun hc => ?_)
      · have h := h.1 hc
        refine ow_iconst (pc' := 42) (n := 0) dX11_isRoad_41 rfl rfl ?_
        exact ow_zret dX11_isRoad_42 rfl rfl (Or.inl rfl) h
      · have h := h.2 hc
        refine ow_iload_n (pc' := 32) (x := l1) dX11_isRoad_31 rfl rfl ?_
        refine ow_bipush (pc' := 34) (n := 24) dX11_isRoad_32 rfl rfl ?_
        refine ow_icmpge (pc' := 37) (tg := 41) dX11_isRoad_34 rfl rfl (fun hc => ?_) (fun hc => ?_)
        · have h := h.1 hc
          refine ow_iconst (pc' := 42) (n := 0) dX11_isRoad_41 rfl rfl ?_
          exact ow_zret dX11_isRoad_42 rfl rfl (Or.inl rfl) h
        · have h := h.2 hc
          refine ow_iconst (pc' := 38) (n := 1) dX11_isRoad_37 rfl rfl ?_
          refine ow_goto (tg := 42) dX11_isRoad_38 rfl ?_
          exact ow_zret dX11_isRoad_42 rfl rfl (Or.inr rfl) h
theorem fX11_isRoad {C : ow_C} {A L N : Int} {d : Nat} {M : ow_M} {K : Int → ow_M → Prop} {l1 : Int} (h : ow_Sp C (EM A L N) d mX11_isText (0, 0) [(3, 0), (0, M 0 10)] M (fun r1 N1 => (r1 = 0 → K 0 N1) ∧ (r1 ≠ 0 → (l1 < 0 → K 0 N1) ∧ (0 ≤ l1 → (0 ≤ (N1 0 10) ∧ (N1 0 10) < 4) ∧ ow_O (EM A L N) N1 (22 + 6 * (N1 0 10)) 7 ∧ ((ow_gv (EM A L N) N1 (22 + 6 * (N1 0 10)) 14) ≤ l1 → K 0 N1) ∧ (l1 < (ow_gv (EM A L N) N1 (22 + 6 * (N1 0 10)) 14) → (24 ≤ l1 → K 0 N1) ∧ (l1 < 24 → K 1 N1)))))) : ow_Sp C (EM A L N) (d + 1) mX11_isRoad (0, 0) [(3, 0), (0, l1)] M K := ow_enter (by decide +kernel) rfl rfl (cX11_isRoad_0 h)
set_option maxRecDepth 20000 in
theorem cX11_rule_0 {C : ow_C} {A L N : Int} {d : Nat} {M : ow_M} {K : Int → ow_M → Prop} {l1 : Int} (h : (l1 = (M 0 10) → K 0 M) ∧ (l1 ≠ (M 0 10) → ∀ N1, N1 = ow_up M 0 10 l1 → ow_Sp C (EM A L N) d mX11_isText (0, 0) [(3, 0), (0, l1)] N1 (fun r2 N2 => (r2 = 0 → ow_At C (EM A L N) (d + 1) mX11_rule 35 [] [(3, (-1)), (3, 58)] (0, 0) N2 K) ∧ (r2 ≠ 0 → (0 ≤ l1 ∧ l1 < 4) ∧ ow_At C (EM A L N) (d + 1) mX11_rule 35 [] [(3, 22 + 6 * l1), (3, 58)] (0, 0) N2 K)))) : ow_At C (EM A L N) (d + 1) mX11_rule 0 [(0, (3, 0)), (1, (0, l1))] [] (0, 0) M K := by
  refine ow_iload_n (pc' := 1) (x := l1) dX11_rule_0 rfl rfl ?_
  refine ow_aload_n (pc' := 2) (x := 0) dX11_rule_1 rfl rfl ?_
  refine ow_getf3 (pc' := 5) (t := 0) (ji := 10) (val := M 0 10) dX11_rule_2 fRX11_29 rfl rfl rfl (of_eq_true eo0) eg0_10 ?_
  refine ow_icmpeq (pc' := 8) (tg := 38) dX11_rule_5 rfl rfl (fun hc => ?_) (fun hc => ?_)
  · have h := h.1 hc
    exact ow_vret dX11_rule_38 rfl rfl h
  · have h := h.2 hc
    refine ow_aload_n (pc' := 9) (x := 0) dX11_rule_8 rfl rfl ?_
    refine ow_iload_n (pc' := 10) (x := l1) dX11_rule_9 rfl rfl ?_
    refine ow_putf2 (pc' := 13) (t := 0) (ji := 10) dX11_rule_10 fRX11_29 rfl rfl rfl rfl (of_eq_true eo0) (of_eq_true en0_10) (fun hz => absurd hz (by decide)) (fun N1 eN1 => ?_)
    have h := h N1 eN1
    refine ow_aload_n (pc' := 14) (x := 0) dX11_rule_13 rfl rfl ?_
    refine ow_getf3 (pc' := 17) (t := 3) (ji := 15) (val := 58) dX11_rule_14 fRX11_83 rfl rfl rfl (of_eq_true eo0) eg0_15 ?_
    refine ow_aload_n (pc' := 18) (x := 0) dX11_rule_17 rfl rfl ?_
    refine ow_iload_n (pc' := 19) (x := l1) dX11_rule_18 rfl rfl ?_
    refine ow_callVp (z := mX11_isText) (n := 1) (k := 11) (vs := [(0, l1)]) (x := 0) (st := [(3, 58)]) (pc' := 22) (b1 := (0, 0)) (b2 := (0, 0)) dX11_rule_19 lRX11_132 kX11_isText iX11_isText rfl rfl rfl rfl rfl rfl (of_eq_true eo0) (ow_Sp.mono h (fun r2 N2 h => ?_))
    refine ow_ifeq (pc' := 25) (tg := 34) dX11_rule_22 rfl rfl (fun hc => ?_) (fun hc => ?_)
    · have h := h.1 hc
      refine ow_null (pc' := 35) dX11_rule_34 rfl ?_
      refine ow_sub (lv' := []) [] rfl ?_
      exact h
    · have h := h.2 hc
      refine ow_aload_n (pc' := 26) (x := 0) dX11_rule_25 rfl rfl ?_
      refine ow_getf3 (pc' := 29) (t := 3) (ji := 7) (val := 2) dX11_rule_26 fRX11_19 rfl rfl rfl (of_eq_true eo0) eg0_7 ?_
      refine ow_iload_n (pc' := 30) (x := l1) dX11_rule_29 rfl rfl ?_
      obtain ⟨vv1, h⟩ := h
      refine ow_aaload3 (pc' := 31) (t := 103) (val := 22 + 6 * l1) dX11_rule_30 rfl rfl (Eq.mpr (er2 _) vv1) (ea2 _) ?_
      refine ow_goto (tg := 35) dX11_rule_31 rfl ?_
      refine ow_sub (lv' := []) [] rfl ?_
      exact h
set_option maxRecDepth 20000 in
theorem cX11_rule_35 {C : ow_C} {A L N : Int} {d : Nat} {M : ow_M} {K : Int → ow_M → Prop} {s0 : Int} (h : ow_Sp C (EM A L N) d mX9_ruledBy (0, 0) [(3, 58), (3, s0)] M (fun r1 N1 => K 0 N1)) : ow_At C (EM A L N) (d + 1) mX11_rule 35 [] [(3, s0), (3, 58)] (0, 0) M K := by
  refine ow_callVv (z := mX9_ruledBy) (n := 1) (k := 9) (vs := [(3, s0)]) (x := 58) (st := []) (pc' := 38) (b1 := (0, 0)) (b2 := (0, 0)) dX11_rule_35 lRX11_261 kX9_ruledBy iX9_ruledBy rfl rfl rfl rfl rfl rfl (of_eq_true eo58) (ow_Sp.mono h (fun r1 N1 h => ?_))
  exact ow_vret dX11_rule_38 rfl rfl h
theorem fX11_rule {C : ow_C} {A L N : Int} {d : Nat} {M : ow_M} {K : Int → ow_M → Prop} {l1 : Int} (h : (l1 = (M 0 10) → K 0 M) ∧ (l1 ≠ (M 0 10) → ∀ N1, N1 = ow_up M 0 10 l1 → ow_Sp C (EM A L N) d mX11_isText (0, 0) [(3, 0), (0, l1)] N1 (fun r2 N2 => (r2 = 0 → ow_At C (EM A L N) (d + 1) mX11_rule 35 [] [(3, (-1)), (3, 58)] (0, 0) N2 K) ∧ (r2 ≠ 0 → (0 ≤ l1 ∧ l1 < 4) ∧ ow_At C (EM A L N) (d + 1) mX11_rule 35 [] [(3, 22 + 6 * l1), (3, 58)] (0, 0) N2 K)))) : ow_Sp C (EM A L N) (d + 1) mX11_rule (0, 0) [(3, 0), (0, l1)] M K := ow_enter (by decide +kernel) rfl rfl (cX11_rule_0 h)
set_option maxRecDepth 20000 in
theorem cX11_traceRoad_0 {C : ow_C} {A L N : Int} {d : Nat} {M : ow_M} {K : Int → ow_M → Prop} {l1 l2 : Int} (h : ow_Sp C (EM A L N) d mX11_isRoad (0, 0) [(3, 0), (0, l2)] M (fun r1 N1 => (r1 = 0 → K 0 N1) ∧ (r1 ≠ 0 → (0 ≤ (N1 0 10) ∧ (N1 0 10) < 4) ∧ ow_O (EM A L N) N1 (22 + 6 * (N1 0 10)) 7 ∧ ow_R (EM A L N) N1 (ow_gv (EM A L N) N1 (22 + 6 * (N1 0 10)) 13) 100 l2 ∧ ow_Sp C (EM A L N) d mX9_prepare (0, 0) [(3, 58), (0, ow_gv (EM A L N) N1 (ow_gv (EM A L N) N1 (22 + 6 * (N1 0 10)) 13) l2)] N1 (fun r2 N2 => (0 ≤ (N2 0 10) ∧ (N2 0 10) < 4) ∧ ow_O (EM A L N) N2 (22 + 6 * (N2 0 10)) 7 ∧ ow_R (EM A L N) N2 (ow_gv (EM A L N) N2 (22 + 6 * (N2 0 10)) 12) 100 l2 ∧ ow_Sp C (EM A L N) d mX5_trace (0, 0) [(3, 64), (0, l1), (0, ow_gv (EM A L N) N2 (ow_gv (EM A L N) N2 (22 + 6 * (N2 0 10)) 12) l2), (0, ow_gv (EM A L N) N1 (ow_gv (EM A L N) N1 (22 + 6 * (N1 0 10)) 13) l2)] N2 (fun r3 N3 => K 0 N3))))) : ow_At C (EM A L N) (d + 1) mX11_traceRoad 0 [(0, (3, 0)), (1, (0, l1)), (2, (0, l2))] [] (0, 0) M K := by
  refine ow_aload_n (pc' := 1) (x := 0) dX11_traceRoad_0 rfl rfl ?_
  refine ow_iload_n (pc' := 2) (x := l2) dX11_traceRoad_1 rfl rfl ?_
  refine ow_callVp (z := mX11_isRoad) (n := 1) (k := 11) (vs := [(0, l2)]) (x := 0) (st := []) (pc' := 5) (b1 := (0, 0)) (b2 := (0, 0)) dX11_traceRoad_2 lRX11_203 kX11_isRoad iX11_isRoad rfl rfl rfl rfl rfl rfl (of_eq_true eo0) (ow_Sp.mono h (fun r1 N1 h => ?_))
  refine ow_ifeq (pc' := 8) (tg := 54) dX11_traceRoad_5 rfl rfl (fun hc => ?_) (fun hc => ?_)
  · have h := h.1 hc
    exact ow_vret dX11_traceRoad_54 rfl rfl h
  · have h := h.2 hc
    refine ow_aload_n (pc' := 9) (x := 0) dX11_traceRoad_8 rfl rfl ?_
    refine ow_getf3 (pc' := 12) (t := 3) (ji := 7) (val := 2) dX11_traceRoad_9 fRX11_19 rfl rfl rfl (of_eq_true eo0) eg0_7 ?_
    refine ow_aload_n (pc' := 13) (x := 0) dX11_traceRoad_12 rfl rfl ?_
    refine ow_getf3 (pc' := 16) (t := 0) (ji := 10) (val := N1 0 10) dX11_traceRoad_13 fRX11_29 rfl rfl rfl (of_eq_true eo0) eg0_10 ?_
    obtain ⟨vv1, h⟩ := h
    refine ow_aaload3 (pc' := 17) (t := 103) (val := 22 + 6 * (N1 0 10)) dX11_traceRoad_16 rfl rfl (Eq.mpr (er2 _) vv1) (ea2 _) ?_
    obtain ⟨w, h⟩ := h
    refine ow_getf2 (pc' := 20) (t := 3) (ji := 13) dX11_traceRoad_17 fRX11_265 rfl rfl rfl w ?_
    refine ow_iload_n (pc' := 21) (x := l2) dX11_traceRoad_20 rfl rfl ?_
    obtain ⟨w, h⟩ := h
    refine ow_iaload (pc' := 22) dX11_traceRoad_21 rfl w ?_
    refine ow_istore_n (pc' := 23) (lv' := [(0, (3, 0)), (1, (0, l1)), (2, (0, l2)), (3, (0, ow_gv (EM A L N) N1 (ow_gv (EM A L N) N1 (22 + 6 * (N1 0 10)) 13) l2))]) dX11_traceRoad_22 rfl rfl rfl ?_
    refine ow_aload_n (pc' := 24) (x := 0) dX11_traceRoad_23 rfl rfl ?_
    refine ow_getf3 (pc' := 27) (t := 3) (ji := 15) (val := 58) dX11_traceRoad_24 fRX11_83 rfl rfl rfl (of_eq_true eo0) eg0_15 ?_
    refine ow_iload_n (pc' := 28) (x := ow_gv (EM A L N) N1 (ow_gv (EM A L N) N1 (22 + 6 * (N1 0 10)) 13) l2) dX11_traceRoad_27 rfl rfl ?_
    refine ow_callVv (z := mX9_prepare) (n := 1) (k := 9) (vs := [(0, ow_gv (EM A L N) N1 (ow_gv (EM A L N) N1 (22 + 6 * (N1 0 10)) 13) l2)]) (x := 58) (st := []) (pc' := 31) (b1 := (0, 0)) (b2 := (0, 0)) dX11_traceRoad_28 lRX11_166 kX9_prepare iX9_prepare rfl rfl rfl rfl rfl rfl (of_eq_true eo58) (ow_Sp.mono h (fun r2 N2 h => ?_))
    refine ow_aload_n (pc' := 32) (x := 0) dX11_traceRoad_31 rfl rfl ?_
    refine ow_getf3 (pc' := 35) (t := 3) (ji := 16) (val := 64) dX11_traceRoad_32 fRX11_92 rfl rfl rfl (of_eq_true eo0) eg0_16 ?_
    refine ow_iload_n (pc' := 36) (x := l1) dX11_traceRoad_35 rfl rfl ?_
    refine ow_aload_n (pc' := 37) (x := 0) dX11_traceRoad_36 rfl rfl ?_
    refine ow_getf3 (pc' := 40) (t := 3) (ji := 7) (val := 2) dX11_traceRoad_37 fRX11_19 rfl rfl rfl (of_eq_true eo0) eg0_7 ?_
    refine ow_aload_n (pc' := 41) (x := 0) dX11_traceRoad_40 rfl rfl ?_
    refine ow_getf3 (pc' := 44) (t := 0) (ji := 10) (val := N2 0 10) dX11_traceRoad_41 fRX11_29 rfl rfl rfl (of_eq_true eo0) eg0_10 ?_
    obtain ⟨vv2, h⟩ := h
    refine ow_aaload3 (pc' := 45) (t := 103) (val := 22 + 6 * (N2 0 10)) dX11_traceRoad_44 rfl rfl (Eq.mpr (er2 _) vv2) (ea2 _) ?_
    obtain ⟨w, h⟩ := h
    refine ow_getf2 (pc' := 48) (t := 3) (ji := 12) dX11_traceRoad_45 fRX11_268 rfl rfl rfl w ?_
    refine ow_iload_n (pc' := 49) (x := l2) dX11_traceRoad_48 rfl rfl ?_
    obtain ⟨w, h⟩ := h
    refine ow_iaload (pc' := 50) dX11_traceRoad_49 rfl w ?_
    refine ow_iload_n (pc' := 51) (x := ow_gv (EM A L N) N1 (ow_gv (EM A L N) N1 (22 + 6 * (N1 0 10)) 13) l2) dX11_traceRoad_50 rfl rfl ?_
    refine ow_callVv (z := mX5_trace) (n := 3) (k := 5) (vs := [(0, l1), (0, ow_gv (EM A L N) N2 (ow_gv (EM A L N) N2 (22 + 6 * (N2 0 10)) 12) l2), (0, ow_gv (EM A L N) N1 (ow_gv (EM A L N) N1 (22 + 6 * (N1 0 10)) 13) l2)]) (x := 64) (st := []) (pc' := 54) (b1 := (0, 0)) (b2 := (0, 0)) dX11_traceRoad_51 lRX11_169 kX5_trace iX5_trace rfl rfl rfl rfl rfl rfl (of_eq_true eo64) (ow_Sp.mono h (fun r3 N3 h => ?_))
    exact ow_vret dX11_traceRoad_54 rfl rfl h
theorem fX11_traceRoad {C : ow_C} {A L N : Int} {d : Nat} {M : ow_M} {K : Int → ow_M → Prop} {l1 l2 : Int} (h : ow_Sp C (EM A L N) d mX11_isRoad (0, 0) [(3, 0), (0, l2)] M (fun r1 N1 => (r1 = 0 → K 0 N1) ∧ (r1 ≠ 0 → (0 ≤ (N1 0 10) ∧ (N1 0 10) < 4) ∧ ow_O (EM A L N) N1 (22 + 6 * (N1 0 10)) 7 ∧ ow_R (EM A L N) N1 (ow_gv (EM A L N) N1 (22 + 6 * (N1 0 10)) 13) 100 l2 ∧ ow_Sp C (EM A L N) d mX9_prepare (0, 0) [(3, 58), (0, ow_gv (EM A L N) N1 (ow_gv (EM A L N) N1 (22 + 6 * (N1 0 10)) 13) l2)] N1 (fun r2 N2 => (0 ≤ (N2 0 10) ∧ (N2 0 10) < 4) ∧ ow_O (EM A L N) N2 (22 + 6 * (N2 0 10)) 7 ∧ ow_R (EM A L N) N2 (ow_gv (EM A L N) N2 (22 + 6 * (N2 0 10)) 12) 100 l2 ∧ ow_Sp C (EM A L N) d mX5_trace (0, 0) [(3, 64), (0, l1), (0, ow_gv (EM A L N) N2 (ow_gv (EM A L N) N2 (22 + 6 * (N2 0 10)) 12) l2), (0, ow_gv (EM A L N) N1 (ow_gv (EM A L N) N1 (22 + 6 * (N1 0 10)) 13) l2)] N2 (fun r3 N3 => K 0 N3))))) : ow_Sp C (EM A L N) (d + 1) mX11_traceRoad (0, 0) [(3, 0), (0, l1), (0, l2)] M K := ow_enter (by decide +kernel) rfl rfl (cX11_traceRoad_0 h)
set_option maxRecDepth 20000 in
theorem cX11_leadingWords_0 {C : ow_C} {A L N : Int} {d : Nat} {M : ow_M} {K : Int → ow_M → Prop} (h : ow_At C (EM A L N) (d + 1) mX11_leadingWords 4 [(0, (3, 0)), (1, (1, 0)), (3, (0, 0))] [] (0, 0) M K) : ow_At C (EM A L N) (d + 1) mX11_leadingWords 0 [(0, (3, 0))] [] (0, 0) M K := by
  refine ow_lconst (pc' := 1) (i := 0) dX11_leadingWords_0 rfl rfl ?_
  refine ow_lstore_n (pc' := 2) (lv' := [(0, (3, 0)), (1, (1, 0))]) dX11_leadingWords_1 rfl rfl rfl ?_
  refine ow_iconst (pc' := 3) (n := 0) dX11_leadingWords_2 rfl rfl ?_
  refine ow_istore_n (pc' := 4) (lv' := [(0, (3, 0)), (1, (1, 0)), (3, (0, 0))]) dX11_leadingWords_3 rfl rfl rfl ?_
  exact h
set_option maxRecDepth 20000 in
theorem cX11_leadingWords_4 {C : ow_C} {A L N : Int} {d : Nat} {M : ow_M} {K : Int → ow_M → Prop} {l1 l3 : Int} (h : ((M 6 4) ≤ l3 → K l1 M) ∧ (l3 < (M 6 4) → (0 ≤ l3 ∧ l3 < 40) ∧ ow_Sp C (EM A L N) d mX5_leads (0, 0) [(3, 64), (0, M 7 l3)] M (fun r1 N1 => (r1 = 0 → ow_I (l3 + 1) ∧ ow_At C (EM A L N) (d + 1) mX11_leadingWords 4 [(0, (3, 0)), (1, (1, l1)), (3, (0, l3 + 1))] [] (0, 0) N1 K) ∧ (r1 ≠ 0 → ow_I (l3 + 1) ∧ ow_At C (EM A L N) (d + 1) mX11_leadingWords 4 [(0, (3, 0)), (1, (1, ow_lor l1 (ow_lshl 1 l3))), (3, (0, l3 + 1))] [] (0, 0) N1 K)))) : ow_At C (EM A L N) (d + 1) mX11_leadingWords 4 [(0, (3, 0)), (1, (1, l1)), (3, (0, l3))] [] (0, 0) M K := by
  refine ow_iload_n (pc' := 5) (x := l3) dX11_leadingWords_4 rfl rfl ?_
  refine ow_aload_n (pc' := 6) (x := 0) dX11_leadingWords_5 rfl rfl ?_
  refine ow_getf3 (pc' := 9) (t := 3) (ji := 1) (val := 6) dX11_leadingWords_6 fRX11_55 rfl rfl rfl (of_eq_true eo0) eg0_1 ?_
  refine ow_getf3 (pc' := 12) (t := 0) (ji := 4) (val := M 6 4) dX11_leadingWords_9 fRX11_114 rfl rfl rfl (of_eq_true eo6) eg6_4 ?_
  refine ow_icmpge (pc' := 15) (tg := 46) dX11_leadingWords_12 rfl rfl (fun hc => ?_) (fun hc => ?_)
  · have h := h.1 hc
    refine ow_lload_n (pc' := 47) (x := l1) dX11_leadingWords_46 rfl rfl ?_
    exact ow_lret dX11_leadingWords_47 rfl rfl h
  · have h := h.2 hc
    refine ow_aload_n (pc' := 16) (x := 0) dX11_leadingWords_15 rfl rfl ?_
    refine ow_getf3 (pc' := 19) (t := 3) (ji := 16) (val := 64) dX11_leadingWords_16 fRX11_92 rfl rfl rfl (of_eq_true eo0) eg0_16 ?_
    refine ow_aload_n (pc' := 20) (x := 0) dX11_leadingWords_19 rfl rfl ?_
    refine ow_getf3 (pc' := 23) (t := 3) (ji := 1) (val := 6) dX11_leadingWords_20 fRX11_55 rfl rfl rfl (of_eq_true eo0) eg0_1 ?_
    refine ow_getf3 (pc' := 26) (t := 3) (ji := 1) (val := 7) dX11_leadingWords_23 fRX11_150 rfl rfl rfl (of_eq_true eo6) eg6_1 ?_
    refine ow_iload_n (pc' := 27) (x := l3) dX11_leadingWords_26 rfl rfl ?_
    obtain ⟨vv1, h⟩ := h
    refine ow_iaload3 (pc' := 28) (val := M 7 l3) dX11_leadingWords_27 rfl (Eq.mpr (er7 _) vv1) (ea7 _) ?_
    refine ow_callVp (z := mX5_leads) (n := 1) (k := 5) (vs := [(0, M 7 l3)]) (x := 64) (st := []) (pc' := 31) (b1 := (0, 0)) (b2 := (0, 0)) dX11_leadingWords_28 lRX11_173 kX5_leads iX5_leads rfl rfl rfl rfl rfl rfl (of_eq_true eo64) (ow_Sp.mono h (fun r1 N1 h => ?_))
    refine ow_ifeq (pc' := 34) (tg := 40) dX11_leadingWords_31 rfl rfl (fun hc => ?_) (fun hc => ?_)
    · have h := h.1 hc
      obtain ⟨vv2, h⟩ := h
      refine ow_iinc (pc' := 43) (lv' := [(0, (3, 0)), (1, (1, l1)), (3, (0, l3 + 1))]) dX11_leadingWords_40 rfl vv2 rfl rfl rfl ?_
      refine ow_goto (tg := 4) dX11_leadingWords_43 rfl ?_
      exact h
    · have h := h.2 hc
      refine ow_lload_n (pc' := 35) (x := l1) dX11_leadingWords_34 rfl rfl ?_
      refine ow_lconst (pc' := 36) (i := 1) dX11_leadingWords_35 rfl rfl ?_
      refine ow_iload_n (pc' := 37) (x := l3) dX11_leadingWords_36 rfl rfl ?_
      refine ow_jshl (pc' := 38) dX11_leadingWords_37 rfl ?_
      refine ow_jor (pc' := 39) dX11_leadingWords_38 rfl ?_
      refine ow_lstore_n (pc' := 40) (lv' := [(0, (3, 0)), (1, (1, ow_lor l1 (ow_lshl 1 l3))), (3, (0, l3))]) dX11_leadingWords_39 rfl rfl rfl ?_
      obtain ⟨vv3, h⟩ := h
      refine ow_iinc (pc' := 43) (lv' := [(0, (3, 0)), (1, (1, ow_lor l1 (ow_lshl 1 l3))), (3, (0, l3 + 1))]) dX11_leadingWords_40 rfl vv3 rfl rfl rfl ?_
      refine ow_goto (tg := 4) dX11_leadingWords_43 rfl ?_
      exact h
theorem fX11_leadingWords {C : ow_C} {A L N : Int} {d : Nat} {M : ow_M} {K : Int → ow_M → Prop} (h : ow_At C (EM A L N) (d + 1) mX11_leadingWords 4 [(0, (3, 0)), (1, (1, 0)), (3, (0, 0))] [] (0, 0) M K) : ow_Sp C (EM A L N) (d + 1) mX11_leadingWords (0, 0) [(3, 0)] M K := ow_enter (by decide +kernel) rfl rfl (cX11_leadingWords_0 h)
set_option maxRecDepth 20000 in
theorem cX11_greatestCommon_0 {C : ow_C} {A L N : Int} {d : Nat} {M : ow_M} {K : Int → ow_M → Prop} {l0 l2 : Int} (h : ow_At C (EM A L N) d mX11_greatestCommon 9 [(4, (1, l0)), (6, (1, l2)), (8, (0, 0))] [] (0, 0) M K) : ow_At C (EM A L N) d mX11_greatestCommon 0 [(0, (1, l0)), (2, (1, l2))] [] (0, 0) M K := by
  refine ow_lload_n (pc' := 1) (x := l0) dX11_greatestCommon_0 rfl rfl ?_
  refine ow_lstore (pc' := 3) (lv' := [(0, (1, l0)), (2, (1, l2)), (4, (1, l0))]) dX11_greatestCommon_1 rfl rfl rfl ?_
  refine ow_lload_n (pc' := 4) (x := l2) dX11_greatestCommon_3 rfl rfl ?_
  refine ow_lstore (pc' := 6) (lv' := [(0, (1, l0)), (2, (1, l2)), (4, (1, l0)), (6, (1, l2))]) dX11_greatestCommon_4 rfl rfl rfl ?_
  refine ow_iconst (pc' := 7) (n := 0) dX11_greatestCommon_6 rfl rfl ?_
  refine ow_istore (pc' := 9) (lv' := [(0, (1, l0)), (2, (1, l2)), (4, (1, l0)), (6, (1, l2)), (8, (0, 0))]) dX11_greatestCommon_7 rfl rfl rfl ?_
  refine ow_sub (lv' := [(4, (1, l0)), (6, (1, l2)), (8, (0, 0))]) [2, 3, 4] rfl ?_
  exact h
set_option maxRecDepth 20000 in
theorem cX11_greatestCommon_9 {C : ow_C} {A L N : Int} {d : Nat} {M : ow_M} {K : Int → ow_M → Prop} {l4 l6 l8 : Int} (h : (200 ≤ l8 → K l4 M) ∧ (l8 < 200 → ((ow_lcmp l6 0) = 0 → K l4 M) ∧ ((ow_lcmp l6 0) ≠ 0 → l6 ≠ 0 ∧ ow_L (Int.tdiv l4 l6) ∧ ow_L (Int.tmod l4 l6) ∧ ow_I (l8 + 1) ∧ ow_At C (EM A L N) d mX11_greatestCommon 9 [(4, (1, l6)), (6, (1, Int.tmod l4 l6)), (8, (0, l8 + 1))] [] (0, 0) M K))) : ow_At C (EM A L N) d mX11_greatestCommon 9 [(4, (1, l4)), (6, (1, l6)), (8, (0, l8))] [] (0, 0) M K := by
  refine ow_iload (pc' := 11) (x := l8) dX11_greatestCommon_9 rfl rfl ?_
  refine ow_sipush (pc' := 14) (n := 200) dX11_greatestCommon_11 rfl rfl ?_
  refine ow_icmpge (pc' := 17) (tg := 45) dX11_greatestCommon_14 rfl rfl (fun hc => ?_) (fun hc => ?_)
  · have h := h.1 hc
    refine ow_lload (pc' := 47) (x := l4) dX11_greatestCommon_45 rfl rfl ?_
    exact ow_lret dX11_greatestCommon_47 rfl rfl h
  · have h := h.2 hc
    refine ow_lload (pc' := 19) (x := l6) dX11_greatestCommon_17 rfl rfl ?_
    refine ow_lconst (pc' := 20) (i := 0) dX11_greatestCommon_19 rfl rfl ?_
    refine ow_Lcmp (pc' := 21) dX11_greatestCommon_20 rfl ?_
    refine ow_ifeq (pc' := 24) (tg := 45) dX11_greatestCommon_21 rfl rfl (fun hc => ?_) (fun hc => ?_)
    · have h := h.1 hc
      refine ow_lload (pc' := 47) (x := l4) dX11_greatestCommon_45 rfl rfl ?_
      exact ow_lret dX11_greatestCommon_47 rfl rfl h
    · have h := h.2 hc
      refine ow_lload (pc' := 26) (x := l4) dX11_greatestCommon_24 rfl rfl ?_
      refine ow_lload (pc' := 28) (x := l6) dX11_greatestCommon_26 rfl rfl ?_
      obtain ⟨w0, w, w1, h⟩ := h
      refine ow_lrem (pc' := 29) dX11_greatestCommon_28 w0 w w1 rfl ?_
      refine ow_lstore (pc' := 31) (lv' := [(4, (1, l4)), (6, (1, l6)), (8, (0, l8)), (9, (1, Int.tmod l4 l6))]) dX11_greatestCommon_29 rfl rfl rfl ?_
      refine ow_lload (pc' := 33) (x := l6) dX11_greatestCommon_31 rfl rfl ?_
      refine ow_lstore (pc' := 35) (lv' := [(4, (1, l6)), (6, (1, l6)), (8, (0, l8)), (9, (1, Int.tmod l4 l6))]) dX11_greatestCommon_33 rfl rfl rfl ?_
      refine ow_lload (pc' := 37) (x := Int.tmod l4 l6) dX11_greatestCommon_35 rfl rfl ?_
      refine ow_lstore (pc' := 39) (lv' := [(4, (1, l6)), (6, (1, Int.tmod l4 l6)), (8, (0, l8)), (9, (1, Int.tmod l4 l6))]) dX11_greatestCommon_37 rfl rfl rfl ?_
      obtain ⟨vv1, h⟩ := h
      refine ow_iinc (pc' := 42) (lv' := [(4, (1, l6)), (6, (1, Int.tmod l4 l6)), (8, (0, l8 + 1)), (9, (1, Int.tmod l4 l6))]) dX11_greatestCommon_39 rfl vv1 rfl rfl rfl ?_
      refine ow_goto (tg := 9) dX11_greatestCommon_42 rfl ?_
      refine ow_sub (lv' := [(4, (1, l6)), (6, (1, Int.tmod l4 l6)), (8, (0, l8 + 1))]) [0, 1, 2] rfl ?_
      exact h
theorem fX11_greatestCommon {C : ow_C} {A L N : Int} {d : Nat} {M : ow_M} {K : Int → ow_M → Prop} {l0 l2 : Int} (h : ow_At C (EM A L N) d mX11_greatestCommon 9 [(4, (1, l0)), (6, (1, l2)), (8, (0, 0))] [] (0, 0) M K) : ow_Sp C (EM A L N) d mX11_greatestCommon (0, 0) [(1, l0), (1, l2)] M K := ow_enter (by decide +kernel) rfl rfl (cX11_greatestCommon_0 h)
