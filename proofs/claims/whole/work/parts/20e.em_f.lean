set_option maxRecDepth 20000 in
theorem cX12_work_0 {C : ow_C} {A L N : Int} {d : Nat} {M : ow_M} {K : Int → ow_M → Prop} {l1 : Int} (h : ow_I (680 * (M 84 1)) ∧ ow_I ((680 * (M 84 1)) + 1) ∧ ow_I (3 * l1) ∧ ow_I (((680 * (M 84 1)) + 1) + (3 * l1)) ∧ ow_I ((680 * (M 84 1)) + 75) ∧ ow_I ((((680 * (M 84 1)) + 1) + (3 * l1)) + 1) ∧ (0 ≤ ((((680 * (M 84 1)) + 1) + (3 * l1)) + 1) ∧ ((((680 * (M 84 1)) + 1) + (3 * l1)) + 1) < 2720) ∧ ow_At C (EM A L N) (d + 1) mX12_work 47 [(0, (3, 83)), (2, (0, ((680 * (M 84 1)) + 1) + (3 * l1))), (3, (0, (680 * (M 84 1)) + 75)), (4, (0, 0)), (5, (0, 0)), (6, (0, M 86 ((((680 * (M 84 1)) + 1) + (3 * l1)) + 1)))] [] (0, 0) M K) : ow_At C (EM A L N) (d + 1) mX12_work 0 [(0, (3, 83)), (1, (0, l1))] [] (0, 0) M K := by
  refine ow_sipush (pc' := 3) (n := 680) dX12_work_0 rfl rfl ?_
  refine ow_aload_n (pc' := 4) (x := 83) dX12_work_3 rfl rfl ?_
  refine ow_getf3 (pc' := 7) (t := 3) (ji := 0) (val := 84) dX12_work_4 fRX12_7 rfl rfl rfl (of_eq_true eo83) eg83_0 ?_
  refine ow_iconst (pc' := 8) (n := 1) dX12_work_7 rfl rfl ?_
  refine ow_iaload3 (pc' := 9) (val := M 84 1) dX12_work_8 rfl (Eq.mpr (er84 _) ⟨by decide, by decide⟩) (ea84 _) ?_
  obtain ⟨vv1, h⟩ := h
  refine ow_imul (pc' := 10) dX12_work_9 vv1 rfl ?_
  refine ow_iconst (pc' := 11) (n := 1) dX12_work_10 rfl rfl ?_
  obtain ⟨vv2, h⟩ := h
  refine ow_iadd (pc' := 12) dX12_work_11 vv2 rfl ?_
  refine ow_iconst (pc' := 13) (n := 3) dX12_work_12 rfl rfl ?_
  refine ow_iload_n (pc' := 14) (x := l1) dX12_work_13 rfl rfl ?_
  obtain ⟨vv3, h⟩ := h
  refine ow_imul (pc' := 15) dX12_work_14 vv3 rfl ?_
  obtain ⟨vv4, h⟩ := h
  refine ow_iadd (pc' := 16) dX12_work_15 vv4 rfl ?_
  refine ow_istore_n (pc' := 17) (lv' := [(0, (3, 83)), (1, (0, l1)), (2, (0, ((680 * (M 84 1)) + 1) + (3 * l1)))]) dX12_work_16 rfl rfl rfl ?_
  refine ow_sipush (pc' := 20) (n := 680) dX12_work_17 rfl rfl ?_
  refine ow_aload_n (pc' := 21) (x := 83) dX12_work_20 rfl rfl ?_
  refine ow_getf3 (pc' := 24) (t := 3) (ji := 0) (val := 84) dX12_work_21 fRX12_7 rfl rfl rfl (of_eq_true eo83) eg83_0 ?_
  refine ow_iconst (pc' := 25) (n := 1) dX12_work_24 rfl rfl ?_
  refine ow_iaload3 (pc' := 26) (val := M 84 1) dX12_work_25 rfl (Eq.mpr (er84 _) ⟨by decide, by decide⟩) (ea84 _) ?_
  refine ow_imul (pc' := 27) dX12_work_26 vv1 rfl ?_
  refine ow_bipush (pc' := 29) (n := 75) dX12_work_27 rfl rfl ?_
  obtain ⟨vv5, h⟩ := h
  refine ow_iadd (pc' := 30) dX12_work_29 vv5 rfl ?_
  refine ow_istore_n (pc' := 31) (lv' := [(0, (3, 83)), (1, (0, l1)), (2, (0, ((680 * (M 84 1)) + 1) + (3 * l1))), (3, (0, (680 * (M 84 1)) + 75))]) dX12_work_30 rfl rfl rfl ?_
  refine ow_iconst (pc' := 32) (n := 0) dX12_work_31 rfl rfl ?_
  refine ow_istore (pc' := 34) (lv' := [(0, (3, 83)), (1, (0, l1)), (2, (0, ((680 * (M 84 1)) + 1) + (3 * l1))), (3, (0, (680 * (M 84 1)) + 75)), (4, (0, 0))]) dX12_work_32 rfl rfl rfl ?_
  refine ow_iconst (pc' := 35) (n := 0) dX12_work_34 rfl rfl ?_
  refine ow_istore (pc' := 37) (lv' := [(0, (3, 83)), (1, (0, l1)), (2, (0, ((680 * (M 84 1)) + 1) + (3 * l1))), (3, (0, (680 * (M 84 1)) + 75)), (4, (0, 0)), (5, (0, 0))]) dX12_work_35 rfl rfl rfl ?_
  refine ow_aload_n (pc' := 38) (x := 83) dX12_work_37 rfl rfl ?_
  refine ow_getf3 (pc' := 41) (t := 3) (ji := 5) (val := 86) dX12_work_38 fRX12_16 rfl rfl rfl (of_eq_true eo83) eg83_5 ?_
  refine ow_iload_n (pc' := 42) (x := ((680 * (M 84 1)) + 1) + (3 * l1)) dX12_work_41 rfl rfl ?_
  refine ow_iconst (pc' := 43) (n := 1) dX12_work_42 rfl rfl ?_
  obtain ⟨vv6, h⟩ := h
  refine ow_iadd (pc' := 44) dX12_work_43 vv6 rfl ?_
  obtain ⟨vv7, h⟩ := h
  refine ow_iaload3 (pc' := 45) (val := M 86 ((((680 * (M 84 1)) + 1) + (3 * l1)) + 1)) dX12_work_44 rfl (Eq.mpr (er86 _) vv7) (ea86 _) ?_
  refine ow_istore (pc' := 47) (lv' := [(0, (3, 83)), (1, (0, l1)), (2, (0, ((680 * (M 84 1)) + 1) + (3 * l1))), (3, (0, (680 * (M 84 1)) + 75)), (4, (0, 0)), (5, (0, 0)), (6, (0, M 86 ((((680 * (M 84 1)) + 1) + (3 * l1)) + 1)))]) dX12_work_45 rfl rfl rfl ?_
  refine ow_sub (lv' := [(0, (3, 83)), (2, (0, ((680 * (M 84 1)) + 1) + (3 * l1))), (3, (0, (680 * (M 84 1)) + 75)), (4, (0, 0)), (5, (0, 0)), (6, (0, M 86 ((((680 * (M 84 1)) + 1) + (3 * l1)) + 1)))]) [0, 2, 3, 4, 5, 6] rfl ?_
  exact h
set_option maxRecDepth 20000 in
theorem cX12_work_47 {C : ow_C} {A L N : Int} {d : Nat} {M : ow_M} {K : Int → ow_M → Prop} {l2 l3 l4 l5 l6 : Int} (h : ow_I (l2 + 2) ∧ (0 ≤ (l2 + 2) ∧ (l2 + 2) < 2720) ∧ ((M 86 (l2 + 2)) ≤ l6 → K 0 M) ∧ (l6 < (M 86 (l2 + 2)) → ow_I (2 * l6) ∧ ow_I (l3 + (2 * l6)) ∧ (0 ≤ (l3 + (2 * l6)) ∧ (l3 + (2 * l6)) < 2720) ∧ ow_I ((l3 + (2 * l6)) + 1) ∧ (0 ≤ ((l3 + (2 * l6)) + 1) ∧ ((l3 + (2 * l6)) + 1) < 2720) ∧ (1 < (M 86 (l3 + (2 * l6))) → ((M 86 (l3 + (2 * l6))) ≠ 2 → (10 ≤ (M 86 (l3 + (2 * l6))) → (20 ≤ (M 86 (l3 + (2 * l6))) → ((M 86 (l3 + (2 * l6))) ≠ 20 → ow_I (l5 + (-1)) ∧ ow_I ((l5 + (-1)) - 1) ∧ ((M 86 (l3 + (2 * l6))) ≠ 21 → (0 ≤ ((l5 + (-1)) - 1) ∧ ((l5 + (-1)) - 1) < 330) ∧ ((M 91 ((l5 + (-1)) - 1)) ≠ 0 → ow_At C (EM A L N) (d + 1) mX12_work 352 [(0, (3, 83)), (2, (0, l2)), (3, (0, l3)), (4, (0, l4)), (5, (0, l5 + (-1))), (6, (0, l6))] [(0, 1), (0, (l5 + (-1)) - 1), (3, 91)] (0, 0) M K) ∧ ((M 91 ((l5 + (-1)) - 1)) = 0 → (0 ≤ (l5 + (-1)) ∧ (l5 + (-1)) < 330) ∧ ((M 91 (l5 + (-1))) = 0 → ow_At C (EM A L N) (d + 1) mX12_work 352 [(0, (3, 83)), (2, (0, l2)), (3, (0, l3)), (4, (0, l4)), (5, (0, l5 + (-1))), (6, (0, l6))] [(0, 0), (0, (l5 + (-1)) - 1), (3, 91)] (0, 0) M K) ∧ ((M 91 (l5 + (-1))) ≠ 0 → ow_At C (EM A L N) (d + 1) mX12_work 352 [(0, (3, 83)), (2, (0, l2)), (3, (0, l3)), (4, (0, l4)), (5, (0, l5 + (-1))), (6, (0, l6))] [(0, 1), (0, (l5 + (-1)) - 1), (3, 91)] (0, 0) M K))) ∧ ((M 86 (l3 + (2 * l6))) = 21 → (0 ≤ ((l5 + (-1)) - 1) ∧ ((l5 + (-1)) - 1) < 330) ∧ ((M 91 ((l5 + (-1)) - 1)) = 0 → ow_At C (EM A L N) (d + 1) mX12_work 352 [(0, (3, 83)), (2, (0, l2)), (3, (0, l3)), (4, (0, l4)), (5, (0, l5 + (-1))), (6, (0, l6))] [(0, 0), (0, (l5 + (-1)) - 1), (3, 91)] (0, 0) M K) ∧ ((M 91 ((l5 + (-1)) - 1)) ≠ 0 → (0 ≤ (l5 + (-1)) ∧ (l5 + (-1)) < 330) ∧ ((M 91 (l5 + (-1))) = 0 → ow_At C (EM A L N) (d + 1) mX12_work 352 [(0, (3, 83)), (2, (0, l2)), (3, (0, l3)), (4, (0, l4)), (5, (0, l5 + (-1))), (6, (0, l6))] [(0, 0), (0, (l5 + (-1)) - 1), (3, 91)] (0, 0) M K) ∧ ((M 91 (l5 + (-1))) ≠ 0 → ow_At C (EM A L N) (d + 1) mX12_work 352 [(0, (3, 83)), (2, (0, l2)), (3, (0, l3)), (4, (0, l4)), (5, (0, l5 + (-1))), (6, (0, l6))] [(0, 1), (0, (l5 + (-1)) - 1), (3, 91)] (0, 0) M K)))) ∧ ((M 86 (l3 + (2 * l6))) = 20 → ow_I (l5 - 1) ∧ (0 ≤ (l5 - 1) ∧ (l5 - 1) < 330) ∧ ((M 91 (l5 - 1)) ≠ 0 → ow_At C (EM A L N) (d + 1) mX12_work 273 [(0, (3, 83)), (2, (0, l2)), (3, (0, l3)), (4, (0, l4)), (5, (0, l5)), (6, (0, l6))] [(0, 0), (0, l5 - 1), (3, 91)] (0, 0) M K) ∧ ((M 91 (l5 - 1)) = 0 → ow_At C (EM A L N) (d + 1) mX12_work 273 [(0, (3, 83)), (2, (0, l2)), (3, (0, l3)), (4, (0, l4)), (5, (0, l5)), (6, (0, l6))] [(0, 1), (0, l5 - 1), (3, 91)] (0, 0) M K))) ∧ ((M 86 (l3 + (2 * l6))) < 20 → ow_I (l4 + (-2)) ∧ (0 ≤ (l4 + (-2)) ∧ (l4 + (-2)) < 330) ∧ ow_I ((l4 + (-2)) + 1) ∧ (0 ≤ ((l4 + (-2)) + 1) ∧ ((l4 + (-2)) + 1) < 330) ∧ ow_Sp C (EM A L N) d mX12_isAsked (0, 0) [(0, M 86 (l3 + (2 * l6))), (1, M 90 (l4 + (-2))), (1, M 90 ((l4 + (-2)) + 1))] M (fun r1 N1 => (0 ≤ l5 ∧ l5 < 330) ∧ (r1 = 0 ∨ r1 = 1) ∧ ∀ N2, N2 = ow_up N1 91 l5 r1 → ow_I (l5 + 1) ∧ ow_I (l6 + 1) ∧ ow_At C (EM A L N) (d + 1) mX12_work 47 [(0, (3, 83)), (2, (0, l2)), (3, (0, l3)), (4, (0, l4 + (-2))), (5, (0, l5 + 1)), (6, (0, l6 + 1))] [] (0, 0) N2 K))) ∧ ((M 86 (l3 + (2 * l6))) < 10 → ow_I (l4 + (-1)) ∧ ow_I ((l4 + (-1)) - 1) ∧ (0 ≤ ((l4 + (-1)) - 1) ∧ ((l4 + (-1)) - 1) < 330) ∧ (0 ≤ (l4 + (-1)) ∧ (l4 + (-1)) < 330) ∧ ow_Sp C (EM A L N) d mX12_two (0, 0) [(0, M 86 (l3 + (2 * l6))), (1, M 90 ((l4 + (-1)) - 1)), (1, M 90 (l4 + (-1)))] M (fun r3 N3 => ∀ N4, N4 = ow_up N3 90 ((l4 + (-1)) - 1) r3 → ow_I (l6 + 1) ∧ ow_At C (EM A L N) (d + 1) mX12_work 47 [(0, (3, 83)), (2, (0, l2)), (3, (0, l3)), (4, (0, l4 + (-1))), (5, (0, l5)), (6, (0, l6 + 1))] [] (0, 0) N4 K))) ∧ ((M 86 (l3 + (2 * l6))) = 2 → ow_I (l4 - 1) ∧ (0 ≤ (l4 - 1) ∧ (l4 - 1) < 330) ∧ ow_L (-(M 90 (l4 - 1))) ∧ ∀ N5, N5 = ow_up M 90 (l4 - 1) (-(M 90 (l4 - 1))) → ow_I (l6 + 1) ∧ ow_At C (EM A L N) (d + 1) mX12_work 47 [(0, (3, 83)), (2, (0, l2)), (3, (0, l3)), (4, (0, l4)), (5, (0, l5)), (6, (0, l6 + 1))] [] (0, 0) N5 K)) ∧ ((M 86 (l3 + (2 * l6))) ≤ 1 → ((M 86 (l3 + (2 * l6))) ≠ 0 → (0 ≤ (M 86 ((l3 + (2 * l6)) + 1)) ∧ (M 86 ((l3 + (2 * l6)) + 1)) < 6) ∧ ow_At C (EM A L N) (d + 1) mX12_work 119 [(0, (3, 83)), (2, (0, l2)), (3, (0, l3)), (4, (0, l4)), (5, (0, l5)), (6, (0, l6))] [(1, M 89 (M 86 ((l3 + (2 * l6)) + 1))), (0, l4), (3, 90)] (0, 0) M K) ∧ ((M 86 (l3 + (2 * l6))) = 0 → ow_At C (EM A L N) (d + 1) mX12_work 119 [(0, (3, 83)), (2, (0, l2)), (3, (0, l3)), (4, (0, l4)), (5, (0, l5)), (6, (0, l6))] [(1, M 86 ((l3 + (2 * l6)) + 1)), (0, l4), (3, 90)] (0, 0) M K)))) : ow_At C (EM A L N) (d + 1) mX12_work 47 [(0, (3, 83)), (2, (0, l2)), (3, (0, l3)), (4, (0, l4)), (5, (0, l5)), (6, (0, l6))] [] (0, 0) M K := by
  refine ow_iload (pc' := 49) (x := l6) dX12_work_47 rfl rfl ?_
  refine ow_aload_n (pc' := 50) (x := 83) dX12_work_49 rfl rfl ?_
  refine ow_getf3 (pc' := 53) (t := 3) (ji := 5) (val := 86) dX12_work_50 fRX12_16 rfl rfl rfl (of_eq_true eo83) eg83_5 ?_
  refine ow_iload_n (pc' := 54) (x := l2) dX12_work_53 rfl rfl ?_
  refine ow_iconst (pc' := 55) (n := 2) dX12_work_54 rfl rfl ?_
  obtain ⟨vv1, h⟩ := h
  refine ow_iadd (pc' := 56) dX12_work_55 vv1 rfl ?_
  obtain ⟨vv2, h⟩ := h
  refine ow_iaload3 (pc' := 57) (val := M 86 (l2 + 2)) dX12_work_56 rfl (Eq.mpr (er86 _) vv2) (ea86 _) ?_
  refine ow_icmpge (pc' := 60) (tg := 359) dX12_work_57 rfl rfl (fun hc => ?_) (fun hc => ?_)
  · have h := h.1 hc
    exact ow_vret dX12_work_359 rfl rfl h
  · have h := h.2 hc
    refine ow_aload_n (pc' := 61) (x := 83) dX12_work_60 rfl rfl ?_
    refine ow_getf3 (pc' := 64) (t := 3) (ji := 5) (val := 86) dX12_work_61 fRX12_16 rfl rfl rfl (of_eq_true eo83) eg83_5 ?_
    refine ow_iload_n (pc' := 65) (x := l3) dX12_work_64 rfl rfl ?_
    refine ow_iconst (pc' := 66) (n := 2) dX12_work_65 rfl rfl ?_
    refine ow_iload (pc' := 68) (x := l6) dX12_work_66 rfl rfl ?_
    obtain ⟨vv3, h⟩ := h
    refine ow_imul (pc' := 69) dX12_work_68 vv3 rfl ?_
    obtain ⟨vv4, h⟩ := h
    refine ow_iadd (pc' := 70) dX12_work_69 vv4 rfl ?_
    obtain ⟨vv5, h⟩ := h
    refine ow_iaload3 (pc' := 71) (val := M 86 (l3 + (2 * l6))) dX12_work_70 rfl (Eq.mpr (er86 _) vv5) (ea86 _) ?_
    refine ow_istore (pc' := 73) (lv' := [(0, (3, 83)), (2, (0, l2)), (3, (0, l3)), (4, (0, l4)), (5, (0, l5)), (6, (0, l6)), (7, (0, M 86 (l3 + (2 * l6))))]) dX12_work_71 rfl rfl rfl ?_
    refine ow_aload_n (pc' := 74) (x := 83) dX12_work_73 rfl rfl ?_
    refine ow_getf3 (pc' := 77) (t := 3) (ji := 5) (val := 86) dX12_work_74 fRX12_16 rfl rfl rfl (of_eq_true eo83) eg83_5 ?_
    refine ow_iload_n (pc' := 78) (x := l3) dX12_work_77 rfl rfl ?_
    refine ow_iconst (pc' := 79) (n := 2) dX12_work_78 rfl rfl ?_
    refine ow_iload (pc' := 81) (x := l6) dX12_work_79 rfl rfl ?_
    refine ow_imul (pc' := 82) dX12_work_81 vv3 rfl ?_
    refine ow_iadd (pc' := 83) dX12_work_82 vv4 rfl ?_
    refine ow_iconst (pc' := 84) (n := 1) dX12_work_83 rfl rfl ?_
    obtain ⟨vv6, h⟩ := h
    refine ow_iadd (pc' := 85) dX12_work_84 vv6 rfl ?_
    obtain ⟨vv7, h⟩ := h
    refine ow_iaload3 (pc' := 86) (val := M 86 ((l3 + (2 * l6)) + 1)) dX12_work_85 rfl (Eq.mpr (er86 _) vv7) (ea86 _) ?_
    refine ow_istore (pc' := 88) (lv' := [(0, (3, 83)), (2, (0, l2)), (3, (0, l3)), (4, (0, l4)), (5, (0, l5)), (6, (0, l6)), (7, (0, M 86 (l3 + (2 * l6)))), (8, (0, M 86 ((l3 + (2 * l6)) + 1)))]) dX12_work_86 rfl rfl rfl ?_
    refine ow_iload (pc' := 90) (x := M 86 (l3 + (2 * l6))) dX12_work_88 rfl rfl ?_
    refine ow_iconst (pc' := 91) (n := 1) dX12_work_90 rfl rfl ?_
    refine ow_icmpgt (pc' := 94) (tg := 126) dX12_work_91 rfl rfl (fun hc => ?_) (fun hc => ?_)
    · have h := h.1 hc
      refine ow_iload (pc' := 128) (x := M 86 (l3 + (2 * l6))) dX12_work_126 rfl rfl ?_
      refine ow_iconst (pc' := 129) (n := 2) dX12_work_128 rfl rfl ?_
      refine ow_icmpne (pc' := 132) (tg := 154) dX12_work_129 rfl rfl (fun hc => ?_) (fun hc => ?_)
      · have h := h.1 hc
        refine ow_iload (pc' := 156) (x := M 86 (l3 + (2 * l6))) dX12_work_154 rfl rfl ?_
        refine ow_bipush (pc' := 158) (n := 10) dX12_work_156 rfl rfl ?_
        refine ow_icmpge (pc' := 161) (tg := 197) dX12_work_158 rfl rfl (fun hc => ?_) (fun hc => ?_)
        · have h := h.1 hc
          refine ow_iload (pc' := 199) (x := M 86 (l3 + (2 * l6))) dX12_work_197 rfl rfl ?_
          refine ow_bipush (pc' := 201) (n := 20) dX12_work_199 rfl rfl ?_
          refine ow_icmpge (pc' := 204) (tg := 241) dX12_work_201 rfl rfl (fun hc => ?_) (fun hc => ?_)
          · have h := h.1 hc
            refine ow_iload (pc' := 243) (x := M 86 (l3 + (2 * l6))) dX12_work_241 rfl rfl ?_
            refine ow_bipush (pc' := 245) (n := 20) dX12_work_243 rfl rfl ?_
            refine ow_icmpne (pc' := 248) (tg := 277) dX12_work_245 rfl rfl (fun hc => ?_) (fun hc => ?_)
            · have h := h.1 hc
              obtain ⟨vv8, h⟩ := h
              refine ow_iinc (pc' := 280) (lv' := [(0, (3, 83)), (2, (0, l2)), (3, (0, l3)), (4, (0, l4)), (5, (0, l5 + (-1))), (6, (0, l6)), (7, (0, M 86 (l3 + (2 * l6)))), (8, (0, M 86 ((l3 + (2 * l6)) + 1)))]) dX12_work_277 rfl vv8 rfl rfl rfl ?_
              refine ow_aload_n (pc' := 281) (x := 83) dX12_work_280 rfl rfl ?_
              refine ow_getf3 (pc' := 284) (t := 3) (ji := 26) (val := 91) dX12_work_281 fRX12_39 rfl rfl rfl (of_eq_true eo83) eg83_26 ?_
              refine ow_iload (pc' := 286) (x := l5 + (-1)) dX12_work_284 rfl rfl ?_
              refine ow_iconst (pc' := 287) (n := 1) dX12_work_286 rfl rfl ?_
              obtain ⟨vv9, h⟩ := h
              refine ow_isub (pc' := 288) dX12_work_287 vv9 rfl ?_
              refine ow_iload (pc' := 290) (x := M 86 (l3 + (2 * l6))) dX12_work_288 rfl rfl ?_
              refine ow_bipush (pc' := 292) (n := 21) dX12_work_290 rfl rfl ?_
              refine ow_icmpne (pc' := 295) (tg := 325) dX12_work_292 rfl rfl (fun hc => ?_) (fun hc => ?_)
              · have h := h.1 hc
                refine ow_aload_n (pc' := 326) (x := 83) dX12_work_325 rfl rfl ?_
                refine ow_getf3 (pc' := 329) (t := 3) (ji := 26) (val := 91) dX12_work_326 fRX12_39 rfl rfl rfl (of_eq_true eo83) eg83_26 ?_
                refine ow_iload (pc' := 331) (x := l5 + (-1)) dX12_work_329 rfl rfl ?_
                refine ow_iconst (pc' := 332) (n := 1) dX12_work_331 rfl rfl ?_
                refine ow_isub (pc' := 333) dX12_work_332 vv9 rfl ?_
                obtain ⟨vv10, h⟩ := h
                refine ow_baload3 (pc' := 334) (val := M 91 ((l5 + (-1)) - 1)) dX12_work_333 rfl (Eq.mpr (er91 _) vv10) (ea91 _) ?_
                refine ow_ifne (pc' := 337) (tg := 347) dX12_work_334 rfl rfl (fun hc => ?_) (fun hc => ?_)
                · have h := h.1 hc
                  refine ow_iconst (pc' := 348) (n := 1) dX12_work_347 rfl rfl ?_
                  refine ow_goto (tg := 352) dX12_work_348 rfl ?_
                  refine ow_sub (lv' := [(0, (3, 83)), (2, (0, l2)), (3, (0, l3)), (4, (0, l4)), (5, (0, l5 + (-1))), (6, (0, l6))]) [0, 1, 2, 3, 4, 5] rfl ?_
                  exact h
                · have h := h.2 hc
                  refine ow_aload_n (pc' := 338) (x := 83) dX12_work_337 rfl rfl ?_
                  refine ow_getf3 (pc' := 341) (t := 3) (ji := 26) (val := 91) dX12_work_338 fRX12_39 rfl rfl rfl (of_eq_true eo83) eg83_26 ?_
                  refine ow_iload (pc' := 343) (x := l5 + (-1)) dX12_work_341 rfl rfl ?_
                  obtain ⟨vv11, h⟩ := h
                  refine ow_baload3 (pc' := 344) (val := M 91 (l5 + (-1))) dX12_work_343 rfl (Eq.mpr (er91 _) vv11) (ea91 _) ?_
                  refine ow_ifeq (pc' := 347) (tg := 351) dX12_work_344 rfl rfl (fun hc => ?_) (fun hc => ?_)
                  · have h := h.1 hc
                    refine ow_iconst (pc' := 352) (n := 0) dX12_work_351 rfl rfl ?_
                    refine ow_sub (lv' := [(0, (3, 83)), (2, (0, l2)), (3, (0, l3)), (4, (0, l4)), (5, (0, l5 + (-1))), (6, (0, l6))]) [0, 1, 2, 3, 4, 5] rfl ?_
                    exact h
                  · have h := h.2 hc
                    refine ow_iconst (pc' := 348) (n := 1) dX12_work_347 rfl rfl ?_
                    refine ow_goto (tg := 352) dX12_work_348 rfl ?_
                    refine ow_sub (lv' := [(0, (3, 83)), (2, (0, l2)), (3, (0, l3)), (4, (0, l4)), (5, (0, l5 + (-1))), (6, (0, l6))]) [0, 1, 2, 3, 4, 5] rfl ?_
                    exact h
              · have h := h.2 hc
                refine ow_aload_n (pc' := 296) (x := 83) dX12_work_295 rfl rfl ?_
                refine ow_getf3 (pc' := 299) (t := 3) (ji := 26) (val := 91) dX12_work_296 fRX12_39 rfl rfl rfl (of_eq_true eo83) eg83_26 ?_
                refine ow_iload (pc' := 301) (x := l5 + (-1)) dX12_work_299 rfl rfl ?_
                refine ow_iconst (pc' := 302) (n := 1) dX12_work_301 rfl rfl ?_
                refine ow_isub (pc' := 303) dX12_work_302 vv9 rfl ?_
                obtain ⟨vv12, h⟩ := h
                refine ow_baload3 (pc' := 304) (val := M 91 ((l5 + (-1)) - 1)) dX12_work_303 rfl (Eq.mpr (er91 _) vv12) (ea91 _) ?_
                refine ow_ifeq (pc' := 307) (tg := 321) dX12_work_304 rfl rfl (fun hc => ?_) (fun hc => ?_)
                · have h := h.1 hc
                  refine ow_iconst (pc' := 322) (n := 0) dX12_work_321 rfl rfl ?_
                  refine ow_goto (tg := 352) dX12_work_322 rfl ?_
                  refine ow_sub (lv' := [(0, (3, 83)), (2, (0, l2)), (3, (0, l3)), (4, (0, l4)), (5, (0, l5 + (-1))), (6, (0, l6))]) [0, 1, 2, 3, 4, 5] rfl ?_
                  exact h
                · have h := h.2 hc
                  refine ow_aload_n (pc' := 308) (x := 83) dX12_work_307 rfl rfl ?_
                  refine ow_getf3 (pc' := 311) (t := 3) (ji := 26) (val := 91) dX12_work_308 fRX12_39 rfl rfl rfl (of_eq_true eo83) eg83_26 ?_
                  refine ow_iload (pc' := 313) (x := l5 + (-1)) dX12_work_311 rfl rfl ?_
                  obtain ⟨vv13, h⟩ := h
                  refine ow_baload3 (pc' := 314) (val := M 91 (l5 + (-1))) dX12_work_313 rfl (Eq.mpr (er91 _) vv13) (ea91 _) ?_
                  refine ow_ifeq (pc' := 317) (tg := 321) dX12_work_314 rfl rfl (fun hc => ?_) (fun hc => ?_)
                  · have h := h.1 hc
                    refine ow_iconst (pc' := 322) (n := 0) dX12_work_321 rfl rfl ?_
                    refine ow_goto (tg := 352) dX12_work_322 rfl ?_
                    refine ow_sub (lv' := [(0, (3, 83)), (2, (0, l2)), (3, (0, l3)), (4, (0, l4)), (5, (0, l5 + (-1))), (6, (0, l6))]) [0, 1, 2, 3, 4, 5] rfl ?_
                    exact h
                  · have h := h.2 hc
                    refine ow_iconst (pc' := 318) (n := 1) dX12_work_317 rfl rfl ?_
                    refine ow_goto (tg := 352) dX12_work_318 rfl ?_
                    refine ow_sub (lv' := [(0, (3, 83)), (2, (0, l2)), (3, (0, l3)), (4, (0, l4)), (5, (0, l5 + (-1))), (6, (0, l6))]) [0, 1, 2, 3, 4, 5] rfl ?_
                    exact h
            · have h := h.2 hc
              refine ow_aload_n (pc' := 249) (x := 83) dX12_work_248 rfl rfl ?_
              refine ow_getf3 (pc' := 252) (t := 3) (ji := 26) (val := 91) dX12_work_249 fRX12_39 rfl rfl rfl (of_eq_true eo83) eg83_26 ?_
              refine ow_iload (pc' := 254) (x := l5) dX12_work_252 rfl rfl ?_
              refine ow_iconst (pc' := 255) (n := 1) dX12_work_254 rfl rfl ?_
              obtain ⟨vv14, h⟩ := h
              refine ow_isub (pc' := 256) dX12_work_255 vv14 rfl ?_
              refine ow_aload_n (pc' := 257) (x := 83) dX12_work_256 rfl rfl ?_
              refine ow_getf3 (pc' := 260) (t := 3) (ji := 26) (val := 91) dX12_work_257 fRX12_39 rfl rfl rfl (of_eq_true eo83) eg83_26 ?_
              refine ow_iload (pc' := 262) (x := l5) dX12_work_260 rfl rfl ?_
              refine ow_iconst (pc' := 263) (n := 1) dX12_work_262 rfl rfl ?_
              refine ow_isub (pc' := 264) dX12_work_263 vv14 rfl ?_
              obtain ⟨vv15, h⟩ := h
              refine ow_baload3 (pc' := 265) (val := M 91 (l5 - 1)) dX12_work_264 rfl (Eq.mpr (er91 _) vv15) (ea91 _) ?_
              refine ow_ifne (pc' := 268) (tg := 272) dX12_work_265 rfl rfl (fun hc => ?_) (fun hc => ?_)
              · have h := h.1 hc
                refine ow_iconst (pc' := 273) (n := 0) dX12_work_272 rfl rfl ?_
                refine ow_sub (lv' := [(0, (3, 83)), (2, (0, l2)), (3, (0, l3)), (4, (0, l4)), (5, (0, l5)), (6, (0, l6))]) [0, 1, 2, 3, 4, 5] rfl ?_
                exact h
              · have h := h.2 hc
                refine ow_iconst (pc' := 269) (n := 1) dX12_work_268 rfl rfl ?_
                refine ow_goto (tg := 273) dX12_work_269 rfl ?_
                refine ow_sub (lv' := [(0, (3, 83)), (2, (0, l2)), (3, (0, l3)), (4, (0, l4)), (5, (0, l5)), (6, (0, l6))]) [0, 1, 2, 3, 4, 5] rfl ?_
                exact h
          · have h := h.2 hc
            obtain ⟨vv16, h⟩ := h
            refine ow_iinc (pc' := 207) (lv' := [(0, (3, 83)), (2, (0, l2)), (3, (0, l3)), (4, (0, l4 + (-2))), (5, (0, l5)), (6, (0, l6)), (7, (0, M 86 (l3 + (2 * l6)))), (8, (0, M 86 ((l3 + (2 * l6)) + 1)))]) dX12_work_204 rfl vv16 rfl rfl rfl ?_
            refine ow_aload_n (pc' := 208) (x := 83) dX12_work_207 rfl rfl ?_
            refine ow_getf3 (pc' := 211) (t := 3) (ji := 26) (val := 91) dX12_work_208 fRX12_39 rfl rfl rfl (of_eq_true eo83) eg83_26 ?_
            refine ow_iload (pc' := 213) (x := l5) dX12_work_211 rfl rfl ?_
            refine ow_iload (pc' := 215) (x := M 86 (l3 + (2 * l6))) dX12_work_213 rfl rfl ?_
            refine ow_aload_n (pc' := 216) (x := 83) dX12_work_215 rfl rfl ?_
            refine ow_getf3 (pc' := 219) (t := 3) (ji := 25) (val := 90) dX12_work_216 fRX12_35 rfl rfl rfl (of_eq_true eo83) eg83_25 ?_
            refine ow_iload (pc' := 221) (x := l4 + (-2)) dX12_work_219 rfl rfl ?_
            obtain ⟨vv17, h⟩ := h
            refine ow_laload3 (pc' := 222) (val := M 90 (l4 + (-2))) dX12_work_221 rfl (Eq.mpr (er90 _) vv17) (ea90 _) ?_
            refine ow_aload_n (pc' := 223) (x := 83) dX12_work_222 rfl rfl ?_
            refine ow_getf3 (pc' := 226) (t := 3) (ji := 25) (val := 90) dX12_work_223 fRX12_35 rfl rfl rfl (of_eq_true eo83) eg83_25 ?_
            refine ow_iload (pc' := 228) (x := l4 + (-2)) dX12_work_226 rfl rfl ?_
            refine ow_iconst (pc' := 229) (n := 1) dX12_work_228 rfl rfl ?_
            obtain ⟨vv18, h⟩ := h
            refine ow_iadd (pc' := 230) dX12_work_229 vv18 rfl ?_
            obtain ⟨vv19, h⟩ := h
            refine ow_laload3 (pc' := 231) (val := M 90 ((l4 + (-2)) + 1)) dX12_work_230 rfl (Eq.mpr (er90 _) vv19) (ea90 _) ?_
            refine ow_callSp (z := mX12_isAsked) (n := 3) (vs := [(0, M 86 (l3 + (2 * l6))), (1, M 90 (l4 + (-2))), (1, M 90 ((l4 + (-2)) + 1))]) (st := [(0, l5), (3, 91)]) (pc' := 234) (b1 := (0, 0)) (b2 := (0, 0)) dX12_work_231 lRX12_267 kX12_isAsked zX12_isAsked rfl rfl rfl rfl rfl rfl (ow_Sp.mono h (fun r1 N1 h => ?_))
            obtain ⟨vv20, h⟩ := h
            obtain ⟨w2, h⟩ := h
            refine ow_bastore2 (pc' := 235) dX12_work_234 rfl (Eq.mpr (er91 _) vv20) (of_eq_true (en91 _)) w2 (fun N2 eN2 => ?_)
            have h := h N2 eN2
            obtain ⟨vv21, h⟩ := h
            refine ow_iinc (pc' := 238) (lv' := [(0, (3, 83)), (2, (0, l2)), (3, (0, l3)), (4, (0, l4 + (-2))), (5, (0, l5 + 1)), (6, (0, l6)), (7, (0, M 86 (l3 + (2 * l6)))), (8, (0, M 86 ((l3 + (2 * l6)) + 1)))]) dX12_work_235 rfl vv21 rfl rfl rfl ?_
            refine ow_goto (tg := 353) dX12_work_238 rfl ?_
            obtain ⟨vv22, h⟩ := h
            refine ow_iinc (pc' := 356) (lv' := [(0, (3, 83)), (2, (0, l2)), (3, (0, l3)), (4, (0, l4 + (-2))), (5, (0, l5 + 1)), (6, (0, l6 + 1)), (7, (0, M 86 (l3 + (2 * l6)))), (8, (0, M 86 ((l3 + (2 * l6)) + 1)))]) dX12_work_353 rfl vv22 rfl rfl rfl ?_
            refine ow_goto (tg := 47) dX12_work_356 rfl ?_
            refine ow_sub (lv' := [(0, (3, 83)), (2, (0, l2)), (3, (0, l3)), (4, (0, l4 + (-2))), (5, (0, l5 + 1)), (6, (0, l6 + 1))]) [0, 1, 2, 3, 4, 5] rfl ?_
            exact h
        · have h := h.2 hc
          obtain ⟨vv23, h⟩ := h
          refine ow_iinc (pc' := 164) (lv' := [(0, (3, 83)), (2, (0, l2)), (3, (0, l3)), (4, (0, l4 + (-1))), (5, (0, l5)), (6, (0, l6)), (7, (0, M 86 (l3 + (2 * l6)))), (8, (0, M 86 ((l3 + (2 * l6)) + 1)))]) dX12_work_161 rfl vv23 rfl rfl rfl ?_
          refine ow_aload_n (pc' := 165) (x := 83) dX12_work_164 rfl rfl ?_
          refine ow_getf3 (pc' := 168) (t := 3) (ji := 25) (val := 90) dX12_work_165 fRX12_35 rfl rfl rfl (of_eq_true eo83) eg83_25 ?_
          refine ow_iload (pc' := 170) (x := l4 + (-1)) dX12_work_168 rfl rfl ?_
          refine ow_iconst (pc' := 171) (n := 1) dX12_work_170 rfl rfl ?_
          obtain ⟨vv24, h⟩ := h
          refine ow_isub (pc' := 172) dX12_work_171 vv24 rfl ?_
          refine ow_iload (pc' := 174) (x := M 86 (l3 + (2 * l6))) dX12_work_172 rfl rfl ?_
          refine ow_aload_n (pc' := 175) (x := 83) dX12_work_174 rfl rfl ?_
          refine ow_getf3 (pc' := 178) (t := 3) (ji := 25) (val := 90) dX12_work_175 fRX12_35 rfl rfl rfl (of_eq_true eo83) eg83_25 ?_
          refine ow_iload (pc' := 180) (x := l4 + (-1)) dX12_work_178 rfl rfl ?_
          refine ow_iconst (pc' := 181) (n := 1) dX12_work_180 rfl rfl ?_
          refine ow_isub (pc' := 182) dX12_work_181 vv24 rfl ?_
          obtain ⟨vv25, h⟩ := h
          refine ow_laload3 (pc' := 183) (val := M 90 ((l4 + (-1)) - 1)) dX12_work_182 rfl (Eq.mpr (er90 _) vv25) (ea90 _) ?_
          refine ow_aload_n (pc' := 184) (x := 83) dX12_work_183 rfl rfl ?_
          refine ow_getf3 (pc' := 187) (t := 3) (ji := 25) (val := 90) dX12_work_184 fRX12_35 rfl rfl rfl (of_eq_true eo83) eg83_25 ?_
          refine ow_iload (pc' := 189) (x := l4 + (-1)) dX12_work_187 rfl rfl ?_
          obtain ⟨vv26, h⟩ := h
          refine ow_laload3 (pc' := 190) (val := M 90 (l4 + (-1))) dX12_work_189 rfl (Eq.mpr (er90 _) vv26) (ea90 _) ?_
          refine ow_callSp (z := mX12_two) (n := 3) (vs := [(0, M 86 (l3 + (2 * l6))), (1, M 90 ((l4 + (-1)) - 1)), (1, M 90 (l4 + (-1)))]) (st := [(0, (l4 + (-1)) - 1), (3, 90)]) (pc' := 193) (b1 := (0, 0)) (b2 := (0, 0)) dX12_work_190 lRX12_263 kX12_two zX12_two rfl rfl rfl rfl rfl rfl (ow_Sp.mono h (fun r3 N3 h => ?_))
          refine ow_lastore2 (pc' := 194) dX12_work_193 rfl (Eq.mpr (er90 _) vv25) (of_eq_true (en90 _)) (fun N4 eN4 => ?_)
          have h := h N4 eN4
          refine ow_goto (tg := 353) dX12_work_194 rfl ?_
          obtain ⟨vv27, h⟩ := h
          refine ow_iinc (pc' := 356) (lv' := [(0, (3, 83)), (2, (0, l2)), (3, (0, l3)), (4, (0, l4 + (-1))), (5, (0, l5)), (6, (0, l6 + 1)), (7, (0, M 86 (l3 + (2 * l6)))), (8, (0, M 86 ((l3 + (2 * l6)) + 1)))]) dX12_work_353 rfl vv27 rfl rfl rfl ?_
          refine ow_goto (tg := 47) dX12_work_356 rfl ?_
          refine ow_sub (lv' := [(0, (3, 83)), (2, (0, l2)), (3, (0, l3)), (4, (0, l4 + (-1))), (5, (0, l5)), (6, (0, l6 + 1))]) [0, 1, 2, 3, 4, 5] rfl ?_
          exact h
      · have h := h.2 hc
        refine ow_aload_n (pc' := 133) (x := 83) dX12_work_132 rfl rfl ?_
        refine ow_getf3 (pc' := 136) (t := 3) (ji := 25) (val := 90) dX12_work_133 fRX12_35 rfl rfl rfl (of_eq_true eo83) eg83_25 ?_
        refine ow_iload (pc' := 138) (x := l4) dX12_work_136 rfl rfl ?_
        refine ow_iconst (pc' := 139) (n := 1) dX12_work_138 rfl rfl ?_
        obtain ⟨vv28, h⟩ := h
        refine ow_isub (pc' := 140) dX12_work_139 vv28 rfl ?_
        refine ow_aload_n (pc' := 141) (x := 83) dX12_work_140 rfl rfl ?_
        refine ow_getf3 (pc' := 144) (t := 3) (ji := 25) (val := 90) dX12_work_141 fRX12_35 rfl rfl rfl (of_eq_true eo83) eg83_25 ?_
        refine ow_iload (pc' := 146) (x := l4) dX12_work_144 rfl rfl ?_
        refine ow_iconst (pc' := 147) (n := 1) dX12_work_146 rfl rfl ?_
        refine ow_isub (pc' := 148) dX12_work_147 vv28 rfl ?_
        obtain ⟨vv29, h⟩ := h
        refine ow_laload3 (pc' := 149) (val := M 90 (l4 - 1)) dX12_work_148 rfl (Eq.mpr (er90 _) vv29) (ea90 _) ?_
        obtain ⟨vv30, h⟩ := h
        refine ow_lneg (pc' := 150) dX12_work_149 vv30 rfl ?_
        refine ow_lastore2 (pc' := 151) dX12_work_150 rfl (Eq.mpr (er90 _) vv29) (of_eq_true (en90 _)) (fun N5 eN5 => ?_)
        have h := h N5 eN5
        refine ow_goto (tg := 353) dX12_work_151 rfl ?_
        obtain ⟨vv31, h⟩ := h
        refine ow_iinc (pc' := 356) (lv' := [(0, (3, 83)), (2, (0, l2)), (3, (0, l3)), (4, (0, l4)), (5, (0, l5)), (6, (0, l6 + 1)), (7, (0, M 86 (l3 + (2 * l6)))), (8, (0, M 86 ((l3 + (2 * l6)) + 1)))]) dX12_work_353 rfl vv31 rfl rfl rfl ?_
        refine ow_goto (tg := 47) dX12_work_356 rfl ?_
        refine ow_sub (lv' := [(0, (3, 83)), (2, (0, l2)), (3, (0, l3)), (4, (0, l4)), (5, (0, l5)), (6, (0, l6 + 1))]) [0, 1, 2, 3, 4, 5] rfl ?_
        exact h
    · have h := h.2 hc
      refine ow_aload_n (pc' := 95) (x := 83) dX12_work_94 rfl rfl ?_
      refine ow_getf3 (pc' := 98) (t := 3) (ji := 25) (val := 90) dX12_work_95 fRX12_35 rfl rfl rfl (of_eq_true eo83) eg83_25 ?_
      refine ow_iload (pc' := 100) (x := l4) dX12_work_98 rfl rfl ?_
      refine ow_iload (pc' := 102) (x := M 86 (l3 + (2 * l6))) dX12_work_100 rfl rfl ?_
      refine ow_ifne (pc' := 105) (tg := 111) dX12_work_102 rfl rfl (fun hc => ?_) (fun hc => ?_)
      · have h := h.1 hc
        refine ow_aload_n (pc' := 112) (x := 83) dX12_work_111 rfl rfl ?_
        refine ow_getf3 (pc' := 115) (t := 3) (ji := 24) (val := 89) dX12_work_112 fRX12_32 rfl rfl rfl (of_eq_true eo83) eg83_24 ?_
        refine ow_iload (pc' := 117) (x := M 86 ((l3 + (2 * l6)) + 1)) dX12_work_115 rfl rfl ?_
        obtain ⟨vv32, h⟩ := h
        refine ow_iaload3 (pc' := 118) (val := M 89 (M 86 ((l3 + (2 * l6)) + 1))) dX12_work_117 rfl (Eq.mpr (er89 _) vv32) (ea89 _) ?_
        refine ow_i2L (pc' := 119) dX12_work_118 rfl ?_
        refine ow_sub (lv' := [(0, (3, 83)), (2, (0, l2)), (3, (0, l3)), (4, (0, l4)), (5, (0, l5)), (6, (0, l6))]) [0, 1, 2, 3, 4, 5] rfl ?_
        exact h
      · have h := h.2 hc
        refine ow_iload (pc' := 107) (x := M 86 ((l3 + (2 * l6)) + 1)) dX12_work_105 rfl rfl ?_
        refine ow_i2L (pc' := 108) dX12_work_107 rfl ?_
        refine ow_goto (tg := 119) dX12_work_108 rfl ?_
        refine ow_sub (lv' := [(0, (3, 83)), (2, (0, l2)), (3, (0, l3)), (4, (0, l4)), (5, (0, l5)), (6, (0, l6))]) [0, 1, 2, 3, 4, 5] rfl ?_
        exact h
set_option maxRecDepth 20000 in
theorem cX12_work_352 {C : ow_C} {A L N : Int} {d : Nat} {M : ow_M} {K : Int → ow_M → Prop} {l2 l3 l4 l5 l6 s0 s1 : Int} (h : (0 ≤ s1 ∧ s1 < 330) ∧ (s0 = 0 ∨ s0 = 1) ∧ ∀ N1, N1 = ow_up M 91 s1 s0 → ow_I (l6 + 1) ∧ ow_At C (EM A L N) (d + 1) mX12_work 47 [(0, (3, 83)), (2, (0, l2)), (3, (0, l3)), (4, (0, l4)), (5, (0, l5)), (6, (0, l6 + 1))] [] (0, 0) N1 K) : ow_At C (EM A L N) (d + 1) mX12_work 352 [(0, (3, 83)), (2, (0, l2)), (3, (0, l3)), (4, (0, l4)), (5, (0, l5)), (6, (0, l6))] [(0, s0), (0, s1), (3, 91)] (0, 0) M K := by
  obtain ⟨vv1, h⟩ := h
  obtain ⟨w2, h⟩ := h
  refine ow_bastore2 (pc' := 353) dX12_work_352 rfl (Eq.mpr (er91 _) vv1) (of_eq_true (en91 _)) w2 (fun N1 eN1 => ?_)
  have h := h N1 eN1
  obtain ⟨vv2, h⟩ := h
  refine ow_iinc (pc' := 356) (lv' := [(0, (3, 83)), (2, (0, l2)), (3, (0, l3)), (4, (0, l4)), (5, (0, l5)), (6, (0, l6 + 1))]) dX12_work_353 rfl vv2 rfl rfl rfl ?_
  refine ow_goto (tg := 47) dX12_work_356 rfl ?_
  exact h
set_option maxRecDepth 20000 in
theorem cX12_work_273 {C : ow_C} {A L N : Int} {d : Nat} {M : ow_M} {K : Int → ow_M → Prop} {l2 l3 l4 l5 l6 s0 s1 : Int} (h : (0 ≤ s1 ∧ s1 < 330) ∧ (s0 = 0 ∨ s0 = 1) ∧ ∀ N1, N1 = ow_up M 91 s1 s0 → ow_I (l6 + 1) ∧ ow_At C (EM A L N) (d + 1) mX12_work 47 [(0, (3, 83)), (2, (0, l2)), (3, (0, l3)), (4, (0, l4)), (5, (0, l5)), (6, (0, l6 + 1))] [] (0, 0) N1 K) : ow_At C (EM A L N) (d + 1) mX12_work 273 [(0, (3, 83)), (2, (0, l2)), (3, (0, l3)), (4, (0, l4)), (5, (0, l5)), (6, (0, l6))] [(0, s0), (0, s1), (3, 91)] (0, 0) M K := by
  obtain ⟨vv1, h⟩ := h
  obtain ⟨w2, h⟩ := h
  refine ow_bastore2 (pc' := 274) dX12_work_273 rfl (Eq.mpr (er91 _) vv1) (of_eq_true (en91 _)) w2 (fun N1 eN1 => ?_)
  have h := h N1 eN1
  refine ow_goto (tg := 353) dX12_work_274 rfl ?_
  obtain ⟨vv2, h⟩ := h
  refine ow_iinc (pc' := 356) (lv' := [(0, (3, 83)), (2, (0, l2)), (3, (0, l3)), (4, (0, l4)), (5, (0, l5)), (6, (0, l6 + 1))]) dX12_work_353 rfl vv2 rfl rfl rfl ?_
  refine ow_goto (tg := 47) dX12_work_356 rfl ?_
  exact h
set_option maxRecDepth 20000 in
theorem cX12_work_119 {C : ow_C} {A L N : Int} {d : Nat} {M : ow_M} {K : Int → ow_M → Prop} {l2 l3 l4 l5 l6 s0 s1 : Int} (h : (0 ≤ s1 ∧ s1 < 330) ∧ ∀ N1, N1 = ow_up M 90 s1 s0 → ow_I (l4 + 1) ∧ ow_I (l6 + 1) ∧ ow_At C (EM A L N) (d + 1) mX12_work 47 [(0, (3, 83)), (2, (0, l2)), (3, (0, l3)), (4, (0, l4 + 1)), (5, (0, l5)), (6, (0, l6 + 1))] [] (0, 0) N1 K) : ow_At C (EM A L N) (d + 1) mX12_work 119 [(0, (3, 83)), (2, (0, l2)), (3, (0, l3)), (4, (0, l4)), (5, (0, l5)), (6, (0, l6))] [(1, s0), (0, s1), (3, 90)] (0, 0) M K := by
  obtain ⟨vv1, h⟩ := h
  refine ow_lastore2 (pc' := 120) dX12_work_119 rfl (Eq.mpr (er90 _) vv1) (of_eq_true (en90 _)) (fun N1 eN1 => ?_)
  have h := h N1 eN1
  obtain ⟨vv2, h⟩ := h
  refine ow_iinc (pc' := 123) (lv' := [(0, (3, 83)), (2, (0, l2)), (3, (0, l3)), (4, (0, l4 + 1)), (5, (0, l5)), (6, (0, l6))]) dX12_work_120 rfl vv2 rfl rfl rfl ?_
  refine ow_goto (tg := 353) dX12_work_123 rfl ?_
  obtain ⟨vv3, h⟩ := h
  refine ow_iinc (pc' := 356) (lv' := [(0, (3, 83)), (2, (0, l2)), (3, (0, l3)), (4, (0, l4 + 1)), (5, (0, l5)), (6, (0, l6 + 1))]) dX12_work_353 rfl vv3 rfl rfl rfl ?_
  refine ow_goto (tg := 47) dX12_work_356 rfl ?_
  exact h
theorem fX12_work {C : ow_C} {A L N : Int} {d : Nat} {M : ow_M} {K : Int → ow_M → Prop} {l1 : Int} (h : ow_I (680 * (M 84 1)) ∧ ow_I ((680 * (M 84 1)) + 1) ∧ ow_I (3 * l1) ∧ ow_I (((680 * (M 84 1)) + 1) + (3 * l1)) ∧ ow_I ((680 * (M 84 1)) + 75) ∧ ow_I ((((680 * (M 84 1)) + 1) + (3 * l1)) + 1) ∧ (0 ≤ ((((680 * (M 84 1)) + 1) + (3 * l1)) + 1) ∧ ((((680 * (M 84 1)) + 1) + (3 * l1)) + 1) < 2720) ∧ ow_At C (EM A L N) (d + 1) mX12_work 47 [(0, (3, 83)), (2, (0, ((680 * (M 84 1)) + 1) + (3 * l1))), (3, (0, (680 * (M 84 1)) + 75)), (4, (0, 0)), (5, (0, 0)), (6, (0, M 86 ((((680 * (M 84 1)) + 1) + (3 * l1)) + 1)))] [] (0, 0) M K) : ow_Sp C (EM A L N) (d + 1) mX12_work (0, 0) [(3, 83), (0, l1)] M K := ow_enter (by decide +kernel) rfl rfl (cX12_work_0 h)
set_option maxRecDepth 20000 in
theorem cX12_clauseOf_0 {C : ow_C} {A L N : Int} {d : Nat} {M : ow_M} {K : Int → ow_M → Prop} {l1 : Int} (h : ow_At C (EM A L N) d mX12_clauseOf 2 [(0, (3, 83)), (1, (0, l1)), (2, (0, 0))] [] (0, 0) M K) : ow_At C (EM A L N) d mX12_clauseOf 0 [(0, (3, 83)), (1, (0, l1))] [] (0, 0) M K := by
  refine ow_iconst (pc' := 1) (n := 0) dX12_clauseOf_0 rfl rfl ?_
  refine ow_istore_n (pc' := 2) (lv' := [(0, (3, 83)), (1, (0, l1)), (2, (0, 0))]) dX12_clauseOf_1 rfl rfl rfl ?_
  exact h
set_option maxRecDepth 20000 in
theorem cX12_clauseOf_2 {C : ow_C} {A L N : Int} {d : Nat} {M : ow_M} {K : Int → ow_M → Prop} {l1 l2 : Int} (h : ((M 84 1) < 0 → K ((-1)) M) ∧ (0 ≤ (M 84 1) → ow_I (680 * (M 84 1)) ∧ (0 ≤ (680 * (M 84 1)) ∧ (680 * (M 84 1)) < 2720) ∧ ((M 86 (680 * (M 84 1))) ≤ l2 → K ((-1)) M) ∧ (l2 < (M 86 (680 * (M 84 1))) → ow_I ((680 * (M 84 1)) + 1) ∧ ow_I (3 * l2) ∧ ow_I (((680 * (M 84 1)) + 1) + (3 * l2)) ∧ (0 ≤ (((680 * (M 84 1)) + 1) + (3 * l2)) ∧ (((680 * (M 84 1)) + 1) + (3 * l2)) < 2720) ∧ ((M 86 (((680 * (M 84 1)) + 1) + (3 * l2))) ≠ l1 → ow_I (l2 + 1) ∧ ow_At C (EM A L N) d mX12_clauseOf 2 [(0, (3, 83)), (1, (0, l1)), (2, (0, l2 + 1))] [] (0, 0) M K) ∧ ((M 86 (((680 * (M 84 1)) + 1) + (3 * l2))) = l1 → K l2 M)))) : ow_At C (EM A L N) d mX12_clauseOf 2 [(0, (3, 83)), (1, (0, l1)), (2, (0, l2))] [] (0, 0) M K := by
  refine ow_aload_n (pc' := 3) (x := 83) dX12_clauseOf_2 rfl rfl ?_
  refine ow_getf3 (pc' := 6) (t := 3) (ji := 0) (val := 84) dX12_clauseOf_3 fRX12_7 rfl rfl rfl (of_eq_true eo83) eg83_0 ?_
  refine ow_iconst (pc' := 7) (n := 1) dX12_clauseOf_6 rfl rfl ?_
  refine ow_iaload3 (pc' := 8) (val := M 84 1) dX12_clauseOf_7 rfl (Eq.mpr (er84 _) ⟨by decide, by decide⟩) (ea84 _) ?_
  refine ow_iflt (pc' := 11) (tg := 63) dX12_clauseOf_8 rfl rfl (fun hc => ?_) (fun hc => ?_)
  · have h := h.1 hc
    refine ow_iconst (pc' := 64) (n := (-1)) dX12_clauseOf_63 rfl rfl ?_
    exact ow_iret dX12_clauseOf_64 rfl rfl h
  · have h := h.2 hc
    refine ow_iload_n (pc' := 12) (x := l2) dX12_clauseOf_11 rfl rfl ?_
    refine ow_aload_n (pc' := 13) (x := 83) dX12_clauseOf_12 rfl rfl ?_
    refine ow_getf3 (pc' := 16) (t := 3) (ji := 5) (val := 86) dX12_clauseOf_13 fRX12_16 rfl rfl rfl (of_eq_true eo83) eg83_5 ?_
    refine ow_sipush (pc' := 19) (n := 680) dX12_clauseOf_16 rfl rfl ?_
    refine ow_aload_n (pc' := 20) (x := 83) dX12_clauseOf_19 rfl rfl ?_
    refine ow_getf3 (pc' := 23) (t := 3) (ji := 0) (val := 84) dX12_clauseOf_20 fRX12_7 rfl rfl rfl (of_eq_true eo83) eg83_0 ?_
    refine ow_iconst (pc' := 24) (n := 1) dX12_clauseOf_23 rfl rfl ?_
    refine ow_iaload3 (pc' := 25) (val := M 84 1) dX12_clauseOf_24 rfl (Eq.mpr (er84 _) ⟨by decide, by decide⟩) (ea84 _) ?_
    obtain ⟨vv1, h⟩ := h
    refine ow_imul (pc' := 26) dX12_clauseOf_25 vv1 rfl ?_
    obtain ⟨vv2, h⟩ := h
    refine ow_iaload3 (pc' := 27) (val := M 86 (680 * (M 84 1))) dX12_clauseOf_26 rfl (Eq.mpr (er86 _) vv2) (ea86 _) ?_
    refine ow_icmpge (pc' := 30) (tg := 63) dX12_clauseOf_27 rfl rfl (fun hc => ?_) (fun hc => ?_)
    · have h := h.1 hc
      refine ow_iconst (pc' := 64) (n := (-1)) dX12_clauseOf_63 rfl rfl ?_
      exact ow_iret dX12_clauseOf_64 rfl rfl h
    · have h := h.2 hc
      refine ow_aload_n (pc' := 31) (x := 83) dX12_clauseOf_30 rfl rfl ?_
      refine ow_getf3 (pc' := 34) (t := 3) (ji := 5) (val := 86) dX12_clauseOf_31 fRX12_16 rfl rfl rfl (of_eq_true eo83) eg83_5 ?_
      refine ow_sipush (pc' := 37) (n := 680) dX12_clauseOf_34 rfl rfl ?_
      refine ow_aload_n (pc' := 38) (x := 83) dX12_clauseOf_37 rfl rfl ?_
      refine ow_getf3 (pc' := 41) (t := 3) (ji := 0) (val := 84) dX12_clauseOf_38 fRX12_7 rfl rfl rfl (of_eq_true eo83) eg83_0 ?_
      refine ow_iconst (pc' := 42) (n := 1) dX12_clauseOf_41 rfl rfl ?_
      refine ow_iaload3 (pc' := 43) (val := M 84 1) dX12_clauseOf_42 rfl (Eq.mpr (er84 _) ⟨by decide, by decide⟩) (ea84 _) ?_
      refine ow_imul (pc' := 44) dX12_clauseOf_43 vv1 rfl ?_
      refine ow_iconst (pc' := 45) (n := 1) dX12_clauseOf_44 rfl rfl ?_
      obtain ⟨vv3, h⟩ := h
      refine ow_iadd (pc' := 46) dX12_clauseOf_45 vv3 rfl ?_
      refine ow_iconst (pc' := 47) (n := 3) dX12_clauseOf_46 rfl rfl ?_
      refine ow_iload_n (pc' := 48) (x := l2) dX12_clauseOf_47 rfl rfl ?_
      obtain ⟨vv4, h⟩ := h
      refine ow_imul (pc' := 49) dX12_clauseOf_48 vv4 rfl ?_
      obtain ⟨vv5, h⟩ := h
      refine ow_iadd (pc' := 50) dX12_clauseOf_49 vv5 rfl ?_
      obtain ⟨vv6, h⟩ := h
      refine ow_iaload3 (pc' := 51) (val := M 86 (((680 * (M 84 1)) + 1) + (3 * l2))) dX12_clauseOf_50 rfl (Eq.mpr (er86 _) vv6) (ea86 _) ?_
      refine ow_iload_n (pc' := 52) (x := l1) dX12_clauseOf_51 rfl rfl ?_
      refine ow_icmpne (pc' := 55) (tg := 57) dX12_clauseOf_52 rfl rfl (fun hc => ?_) (fun hc => ?_)
      · have h := h.1 hc
        obtain ⟨vv7, h⟩ := h
        refine ow_iinc (pc' := 60) (lv' := [(0, (3, 83)), (1, (0, l1)), (2, (0, l2 + 1))]) dX12_clauseOf_57 rfl vv7 rfl rfl rfl ?_
        refine ow_goto (tg := 2) dX12_clauseOf_60 rfl ?_
        exact h
      · have h := h.2 hc
        refine ow_iload_n (pc' := 56) (x := l2) dX12_clauseOf_55 rfl rfl ?_
        exact ow_iret dX12_clauseOf_56 rfl rfl h
theorem fX12_clauseOf {C : ow_C} {A L N : Int} {d : Nat} {M : ow_M} {K : Int → ow_M → Prop} {l1 : Int} (h : ow_At C (EM A L N) d mX12_clauseOf 2 [(0, (3, 83)), (1, (0, l1)), (2, (0, 0))] [] (0, 0) M K) : ow_Sp C (EM A L N) d mX12_clauseOf (0, 0) [(3, 83), (0, l1)] M K := ow_enter (by decide +kernel) rfl rfl (cX12_clauseOf_0 h)
set_option maxRecDepth 20000 in
theorem cX12_rule_0 {C : ow_C} {A L N : Int} {d : Nat} {M : ow_M} {K : Int → ow_M → Prop} (h : ow_Sp C (EM A L N) d mX12_clauseOf (0, 0) [(3, 83), (0, 0)] M (fun r1 N1 => ∀ N2, N2 = ow_up N1 83 27 r1 → ow_Sp C (EM A L N) d mX12_clauseOf (0, 0) [(3, 83), (0, 1)] N2 (fun r3 N3 => ∀ N4, N4 = ow_up N3 83 28 r3 → ow_At C (EM A L N) (d + 1) mX12_rule 20 [(0, (3, 83)), (1, (0, 0))] [] (0, 0) N4 K))) : ow_At C (EM A L N) (d + 1) mX12_rule 0 [(0, (3, 83))] [] (0, 0) M K := by
  refine ow_aload_n (pc' := 1) (x := 83) dX12_rule_0 rfl rfl ?_
  refine ow_aload_n (pc' := 2) (x := 83) dX12_rule_1 rfl rfl ?_
  refine ow_iconst (pc' := 3) (n := 0) dX12_rule_2 rfl rfl ?_
  refine ow_callVp (z := mX12_clauseOf) (n := 1) (k := 12) (vs := [(0, 0)]) (x := 83) (st := [(3, 83)]) (pc' := 6) (b1 := (0, 0)) (b2 := (0, 0)) dX12_rule_3 lRX12_271 kX12_clauseOf iX12_clauseOf rfl rfl rfl rfl rfl rfl (of_eq_true eo83) (ow_Sp.mono h (fun r1 N1 h => ?_))
  refine ow_putf2 (pc' := 9) (t := 0) (ji := 27) dX12_rule_6 fRX12_274 rfl rfl rfl rfl (of_eq_true eo83) (of_eq_true en83_27) (fun hz => absurd hz (by decide)) (fun N2 eN2 => ?_)
  have h := h N2 eN2
  refine ow_aload_n (pc' := 10) (x := 83) dX12_rule_9 rfl rfl ?_
  refine ow_aload_n (pc' := 11) (x := 83) dX12_rule_10 rfl rfl ?_
  refine ow_iconst (pc' := 12) (n := 1) dX12_rule_11 rfl rfl ?_
  refine ow_callVp (z := mX12_clauseOf) (n := 1) (k := 12) (vs := [(0, 1)]) (x := 83) (st := [(3, 83)]) (pc' := 15) (b1 := (0, 0)) (b2 := (0, 0)) dX12_rule_12 lRX12_271 kX12_clauseOf iX12_clauseOf rfl rfl rfl rfl rfl rfl (of_eq_true eo83) (ow_Sp.mono h (fun r3 N3 h => ?_))
  refine ow_putf2 (pc' := 18) (t := 0) (ji := 28) dX12_rule_15 fRX12_277 rfl rfl rfl rfl (of_eq_true eo83) (of_eq_true en83_28) (fun hz => absurd hz (by decide)) (fun N4 eN4 => ?_)
  have h := h N4 eN4
  refine ow_iconst (pc' := 19) (n := 0) dX12_rule_18 rfl rfl ?_
  refine ow_istore_n (pc' := 20) (lv' := [(0, (3, 83)), (1, (0, 0))]) dX12_rule_19 rfl rfl rfl ?_
  exact h
set_option maxRecDepth 20000 in
theorem cX12_rule_20 {C : ow_C} {A L N : Int} {d : Nat} {M : ow_M} {K : Int → ow_M → Prop} {l1 : Int} (h : (14400 ≤ l1 → K 0 M) ∧ (l1 < 14400 → (0 ≤ l1 ∧ l1 < 14400) ∧ ∀ N1, N1 = ow_up M 92 l1 ((-1)) → ow_I (l1 + 1) ∧ ow_At C (EM A L N) (d + 1) mX12_rule 20 [(0, (3, 83)), (1, (0, l1 + 1))] [] (0, 0) N1 K)) : ow_At C (EM A L N) (d + 1) mX12_rule 20 [(0, (3, 83)), (1, (0, l1))] [] (0, 0) M K := by
  refine ow_iload_n (pc' := 21) (x := l1) dX12_rule_20 rfl rfl ?_
  refine ow_sipush (pc' := 24) (n := 14400) dX12_rule_21 rfl rfl ?_
  refine ow_icmpge (pc' := 27) (tg := 40) dX12_rule_24 rfl rfl (fun hc => ?_) (fun hc => ?_)
  · have h := h.1 hc
    exact ow_vret dX12_rule_40 rfl rfl h
  · have h := h.2 hc
    refine ow_aload_n (pc' := 28) (x := 83) dX12_rule_27 rfl rfl ?_
    refine ow_getf3 (pc' := 31) (t := 3) (ji := 29) (val := 92) dX12_rule_28 fRX12_43 rfl rfl rfl (of_eq_true eo83) eg83_29 ?_
    refine ow_iload_n (pc' := 32) (x := l1) dX12_rule_31 rfl rfl ?_
    refine ow_iconst (pc' := 33) (n := (-1)) dX12_rule_32 rfl rfl ?_
    obtain ⟨vv1, h⟩ := h
    refine ow_iastore2 (pc' := 34) dX12_rule_33 rfl (Eq.mpr (er92 _) vv1) (of_eq_true (en92 _)) (fun N1 eN1 => ?_)
    have h := h N1 eN1
    obtain ⟨vv2, h⟩ := h
    refine ow_iinc (pc' := 37) (lv' := [(0, (3, 83)), (1, (0, l1 + 1))]) dX12_rule_34 rfl vv2 rfl rfl rfl ?_
    refine ow_goto (tg := 20) dX12_rule_37 rfl ?_
    exact h
theorem fX12_rule {C : ow_C} {A L N : Int} {d : Nat} {M : ow_M} {K : Int → ow_M → Prop} (h : ow_Sp C (EM A L N) d mX12_clauseOf (0, 0) [(3, 83), (0, 0)] M (fun r1 N1 => ∀ N2, N2 = ow_up N1 83 27 r1 → ow_Sp C (EM A L N) d mX12_clauseOf (0, 0) [(3, 83), (0, 1)] N2 (fun r3 N3 => ∀ N4, N4 = ow_up N3 83 28 r3 → ow_At C (EM A L N) (d + 1) mX12_rule 20 [(0, (3, 83)), (1, (0, 0))] [] (0, 0) N4 K))) : ow_Sp C (EM A L N) (d + 1) mX12_rule (0, 0) [(3, 83)] M K := ow_enter (by decide +kernel) rfl rfl (cX12_rule_0 h)
set_option maxRecDepth 20000 in
theorem cX12_name_0 {C : ow_C} {A L N : Int} {d : Nat} {M : ow_M} {K : Int → ow_M → Prop} {l1 l2 l3 l4 l5 : Int} (h : ∀ N1, N1 = ow_up M 89 0 l4 → ow_Sp C (EM A L N) d mX12_letterAt (0, 0) [(3, 83), (0, l2), (0, l4)] N1 (fun r2 N2 => ∀ N3, N3 = ow_up N2 89 1 r2 → ∀ N4, N4 = ow_up N3 89 2 l5 → ∀ N5, N5 = ow_up N4 89 3 l1 → ∀ N6, N6 = ow_up N5 89 4 l3 → (0 ≤ l3 → (l4 ≤ l3 → ow_I (l3 - l4) ∧ ∀ N7, N7 = ow_up N6 89 5 (l3 - l4) → K 0 N7) ∧ (l3 < l4 → ow_I (l4 - l3) ∧ ∀ N8, N8 = ow_up N6 89 5 (l4 - l3) → K 0 N8)) ∧ (l3 < 0 → ∀ N9, N9 = ow_up N6 89 5 0 → K 0 N9))) : ow_At C (EM A L N) (d + 1) mX12_name 0 [(0, (3, 83)), (1, (0, l1)), (2, (0, l2)), (3, (0, l3)), (4, (0, l4)), (5, (0, l5))] [] (0, 0) M K := by
  refine ow_aload_n (pc' := 1) (x := 83) dX12_name_0 rfl rfl ?_
  refine ow_getf3 (pc' := 4) (t := 3) (ji := 24) (val := 89) dX12_name_1 fRX12_32 rfl rfl rfl (of_eq_true eo83) eg83_24 ?_
  refine ow_iconst (pc' := 5) (n := 0) dX12_name_4 rfl rfl ?_
  refine ow_iload (pc' := 7) (x := l4) dX12_name_5 rfl rfl ?_
  refine ow_iastore2 (pc' := 8) dX12_name_7 rfl (Eq.mpr (er89 _) ⟨by decide, by decide⟩) (of_eq_true (en89 _)) (fun N1 eN1 => ?_)
  have h := h N1 eN1
  refine ow_aload_n (pc' := 9) (x := 83) dX12_name_8 rfl rfl ?_
  refine ow_getf3 (pc' := 12) (t := 3) (ji := 24) (val := 89) dX12_name_9 fRX12_32 rfl rfl rfl (of_eq_true eo83) eg83_24 ?_
  refine ow_iconst (pc' := 13) (n := 1) dX12_name_12 rfl rfl ?_
  refine ow_aload_n (pc' := 14) (x := 83) dX12_name_13 rfl rfl ?_
  refine ow_iload_n (pc' := 15) (x := l2) dX12_name_14 rfl rfl ?_
  refine ow_iload (pc' := 17) (x := l4) dX12_name_15 rfl rfl ?_
  refine ow_callVp (z := mX12_letterAt) (n := 2) (k := 12) (vs := [(0, l2), (0, l4)]) (x := 83) (st := [(0, 1), (3, 89)]) (pc' := 20) (b1 := (0, 0)) (b2 := (0, 0)) dX12_name_17 lRX12_95 kX12_letterAt iX12_letterAt rfl rfl rfl rfl rfl rfl (of_eq_true eo83) (ow_Sp.mono h (fun r2 N2 h => ?_))
  refine ow_iastore2 (pc' := 21) dX12_name_20 rfl (Eq.mpr (er89 _) ⟨by decide, by decide⟩) (of_eq_true (en89 _)) (fun N3 eN3 => ?_)
  have h := h N3 eN3
  refine ow_aload_n (pc' := 22) (x := 83) dX12_name_21 rfl rfl ?_
  refine ow_getf3 (pc' := 25) (t := 3) (ji := 24) (val := 89) dX12_name_22 fRX12_32 rfl rfl rfl (of_eq_true eo83) eg83_24 ?_
  refine ow_iconst (pc' := 26) (n := 2) dX12_name_25 rfl rfl ?_
  refine ow_iload (pc' := 28) (x := l5) dX12_name_26 rfl rfl ?_
  refine ow_iastore2 (pc' := 29) dX12_name_28 rfl (Eq.mpr (er89 _) ⟨by decide, by decide⟩) (of_eq_true (en89 _)) (fun N4 eN4 => ?_)
  have h := h N4 eN4
  refine ow_aload_n (pc' := 30) (x := 83) dX12_name_29 rfl rfl ?_
  refine ow_getf3 (pc' := 33) (t := 3) (ji := 24) (val := 89) dX12_name_30 fRX12_32 rfl rfl rfl (of_eq_true eo83) eg83_24 ?_
  refine ow_iconst (pc' := 34) (n := 3) dX12_name_33 rfl rfl ?_
  refine ow_iload_n (pc' := 35) (x := l1) dX12_name_34 rfl rfl ?_
  refine ow_iastore2 (pc' := 36) dX12_name_35 rfl (Eq.mpr (er89 _) ⟨by decide, by decide⟩) (of_eq_true (en89 _)) (fun N5 eN5 => ?_)
  have h := h N5 eN5
  refine ow_aload_n (pc' := 37) (x := 83) dX12_name_36 rfl rfl ?_
  refine ow_getf3 (pc' := 40) (t := 3) (ji := 24) (val := 89) dX12_name_37 fRX12_32 rfl rfl rfl (of_eq_true eo83) eg83_24 ?_
  refine ow_iconst (pc' := 41) (n := 4) dX12_name_40 rfl rfl ?_
  refine ow_iload_n (pc' := 42) (x := l3) dX12_name_41 rfl rfl ?_
  refine ow_iastore2 (pc' := 43) dX12_name_42 rfl (Eq.mpr (er89 _) ⟨by decide, by decide⟩) (of_eq_true (en89 _)) (fun N6 eN6 => ?_)
  have h := h N6 eN6
  refine ow_aload_n (pc' := 44) (x := 83) dX12_name_43 rfl rfl ?_
  refine ow_getf3 (pc' := 47) (t := 3) (ji := 24) (val := 89) dX12_name_44 fRX12_32 rfl rfl rfl (of_eq_true eo83) eg83_24 ?_
  refine ow_iconst (pc' := 48) (n := 5) dX12_name_47 rfl rfl ?_
  refine ow_iload_n (pc' := 49) (x := l3) dX12_name_48 rfl rfl ?_
  refine ow_ifge (pc' := 52) (tg := 56) dX12_name_49 rfl rfl (fun hc => ?_) (fun hc => ?_)
  · have h := h.1 hc
    refine ow_iload (pc' := 58) (x := l4) dX12_name_56 rfl rfl ?_
    refine ow_iload_n (pc' := 59) (x := l3) dX12_name_58 rfl rfl ?_
    refine ow_icmple (pc' := 62) (tg := 69) dX12_name_59 rfl rfl (fun hc => ?_) (fun hc => ?_)
    · have h := h.1 hc
      refine ow_iload_n (pc' := 70) (x := l3) dX12_name_69 rfl rfl ?_
      refine ow_iload (pc' := 72) (x := l4) dX12_name_70 rfl rfl ?_
      obtain ⟨vv1, h⟩ := h
      refine ow_isub (pc' := 73) dX12_name_72 vv1 rfl ?_
      refine ow_iastore2 (pc' := 74) dX12_name_73 rfl (Eq.mpr (er89 _) ⟨by decide, by decide⟩) (of_eq_true (en89 _)) (fun N7 eN7 => ?_)
      have h := h N7 eN7
      exact ow_vret dX12_name_74 rfl rfl h
    · have h := h.2 hc
      refine ow_iload (pc' := 64) (x := l4) dX12_name_62 rfl rfl ?_
      refine ow_iload_n (pc' := 65) (x := l3) dX12_name_64 rfl rfl ?_
      obtain ⟨vv2, h⟩ := h
      refine ow_isub (pc' := 66) dX12_name_65 vv2 rfl ?_
      refine ow_goto (tg := 73) dX12_name_66 rfl ?_
      refine ow_iastore2 (pc' := 74) dX12_name_73 rfl (Eq.mpr (er89 _) ⟨by decide, by decide⟩) (of_eq_true (en89 _)) (fun N8 eN8 => ?_)
      have h := h N8 eN8
      exact ow_vret dX12_name_74 rfl rfl h
  · have h := h.2 hc
    refine ow_iconst (pc' := 53) (n := 0) dX12_name_52 rfl rfl ?_
    refine ow_goto (tg := 73) dX12_name_53 rfl ?_
    refine ow_iastore2 (pc' := 74) dX12_name_73 rfl (Eq.mpr (er89 _) ⟨by decide, by decide⟩) (of_eq_true (en89 _)) (fun N9 eN9 => ?_)
    have h := h N9 eN9
    exact ow_vret dX12_name_74 rfl rfl h
theorem fX12_name {C : ow_C} {A L N : Int} {d : Nat} {M : ow_M} {K : Int → ow_M → Prop} {l1 l2 l3 l4 l5 : Int} (h : ∀ N1, N1 = ow_up M 89 0 l4 → ow_Sp C (EM A L N) d mX12_letterAt (0, 0) [(3, 83), (0, l2), (0, l4)] N1 (fun r2 N2 => ∀ N3, N3 = ow_up N2 89 1 r2 → ∀ N4, N4 = ow_up N3 89 2 l5 → ∀ N5, N5 = ow_up N4 89 3 l1 → ∀ N6, N6 = ow_up N5 89 4 l3 → (0 ≤ l3 → (l4 ≤ l3 → ow_I (l3 - l4) ∧ ∀ N7, N7 = ow_up N6 89 5 (l3 - l4) → K 0 N7) ∧ (l3 < l4 → ow_I (l4 - l3) ∧ ∀ N8, N8 = ow_up N6 89 5 (l4 - l3) → K 0 N8)) ∧ (l3 < 0 → ∀ N9, N9 = ow_up N6 89 5 0 → K 0 N9))) : ow_Sp C (EM A L N) (d + 1) mX12_name (0, 0) [(3, 83), (0, l1), (0, l2), (0, l3), (0, l4), (0, l5)] M K := ow_enter (by decide +kernel) rfl rfl (cX12_name_0 h)
set_option maxRecDepth 20000 in
theorem cX12_changeBy_0 {C : ow_C} {A L N : Int} {d : Nat} {M : ow_M} {K : Int → ow_M → Prop} {l1 l2 l3 l4 l5 : Int} (h : ow_Sp C (EM A L N) d mX12_letterAt (0, 0) [(3, 83), (0, l2), (0, l4)] M (fun r1 N1 => (r1 ≠ l5 → ow_I (l1 * 9) ∧ ow_I ((l1 * 9) + l3) ∧ ow_I (((l1 * 9) + l3) + 1) ∧ ow_I ((((l1 * 9) + l3) + 1) * 8) ∧ ow_I (((((l1 * 9) + l3) + 1) * 8) + l4) ∧ ow_I ((((((l1 * 9) + l3) + 1) * 8) + l4) * 25) ∧ ow_Sp C (EM A L N) d mX12_letterAt (0, 0) [(3, 83), (0, l2), (0, l4)] N1 (fun r2 N2 => ow_I (5 * r2) ∧ ow_I (((((((l1 * 9) + l3) + 1) * 8) + l4) * 25) + (5 * r2)) ∧ ow_I ((((((((l1 * 9) + l3) + 1) * 8) + l4) * 25) + (5 * r2)) + l5) ∧ (0 ≤ ((((((((l1 * 9) + l3) + 1) * 8) + l4) * 25) + (5 * r2)) + l5) ∧ ((((((((l1 * 9) + l3) + 1) * 8) + l4) * 25) + (5 * r2)) + l5) < 14400) ∧ ((N2 92 ((((((((l1 * 9) + l3) + 1) * 8) + l4) * 25) + (5 * r2)) + l5)) < 0 → ow_Sp C (EM A L N) d mX12_name (0, 0) [(3, 83), (0, l1), (0, l2), (0, l3), (0, l4), (0, l5)] N2 (fun r3 N3 => ((N3 83 27) < 0 → ow_At C (EM A L N) (d + 1) mX12_changeBy 101 [(0, (3, 83)), (6, (0, (((((((l1 * 9) + l3) + 1) * 8) + l4) * 25) + (5 * r2)) + l5)), (7, (0, 1))] [] (0, 0) N3 K) ∧ (0 ≤ (N3 83 27) → ow_Sp C (EM A L N) d mX12_work (0, 0) [(3, 83), (0, N3 83 27)] N3 (fun r4 N4 => ow_At C (EM A L N) (d + 1) mX12_changeBy 101 [(0, (3, 83)), (6, (0, (((((((l1 * 9) + l3) + 1) * 8) + l4) * 25) + (5 * r2)) + l5)), (7, (0, N4 91 0))] [] (0, 0) N4 K)))) ∧ (0 ≤ (N2 92 ((((((((l1 * 9) + l3) + 1) * 8) + l4) * 25) + (5 * r2)) + l5)) → K (N2 92 ((((((((l1 * 9) + l3) + 1) * 8) + l4) * 25) + (5 * r2)) + l5)) N2))) ∧ (r1 = l5 → K 0 N1))) : ow_At C (EM A L N) (d + 1) mX12_changeBy 0 [(0, (3, 83)), (1, (0, l1)), (2, (0, l2)), (3, (0, l3)), (4, (0, l4)), (5, (0, l5))] [] (0, 0) M K := by
  refine ow_aload_n (pc' := 1) (x := 83) dX12_changeBy_0 rfl rfl ?_
  refine ow_iload_n (pc' := 2) (x := l2) dX12_changeBy_1 rfl rfl ?_
  refine ow_iload (pc' := 4) (x := l4) dX12_changeBy_2 rfl rfl ?_
  refine ow_callVp (z := mX12_letterAt) (n := 2) (k := 12) (vs := [(0, l2), (0, l4)]) (x := 83) (st := []) (pc' := 7) (b1 := (0, 0)) (b2 := (0, 0)) dX12_changeBy_4 lRX12_95 kX12_letterAt iX12_letterAt rfl rfl rfl rfl rfl rfl (of_eq_true eo83) (ow_Sp.mono h (fun r1 N1 h => ?_))
  refine ow_iload (pc' := 9) (x := l5) dX12_changeBy_7 rfl rfl ?_
  refine ow_icmpne (pc' := 12) (tg := 14) dX12_changeBy_9 rfl rfl (fun hc => ?_) (fun hc => ?_)
  · have h := h.1 hc
    refine ow_iload_n (pc' := 15) (x := l1) dX12_changeBy_14 rfl rfl ?_
    refine ow_bipush (pc' := 17) (n := 9) dX12_changeBy_15 rfl rfl ?_
    obtain ⟨vv1, h⟩ := h
    refine ow_imul (pc' := 18) dX12_changeBy_17 vv1 rfl ?_
    refine ow_iload_n (pc' := 19) (x := l3) dX12_changeBy_18 rfl rfl ?_
    obtain ⟨vv2, h⟩ := h
    refine ow_iadd (pc' := 20) dX12_changeBy_19 vv2 rfl ?_
    refine ow_iconst (pc' := 21) (n := 1) dX12_changeBy_20 rfl rfl ?_
    obtain ⟨vv3, h⟩ := h
    refine ow_iadd (pc' := 22) dX12_changeBy_21 vv3 rfl ?_
    refine ow_bipush (pc' := 24) (n := 8) dX12_changeBy_22 rfl rfl ?_
    obtain ⟨vv4, h⟩ := h
    refine ow_imul (pc' := 25) dX12_changeBy_24 vv4 rfl ?_
    refine ow_iload (pc' := 27) (x := l4) dX12_changeBy_25 rfl rfl ?_
    obtain ⟨vv5, h⟩ := h
    refine ow_iadd (pc' := 28) dX12_changeBy_27 vv5 rfl ?_
    refine ow_bipush (pc' := 30) (n := 25) dX12_changeBy_28 rfl rfl ?_
    obtain ⟨vv6, h⟩ := h
    refine ow_imul (pc' := 31) dX12_changeBy_30 vv6 rfl ?_
    refine ow_iconst (pc' := 32) (n := 5) dX12_changeBy_31 rfl rfl ?_
    refine ow_aload_n (pc' := 33) (x := 83) dX12_changeBy_32 rfl rfl ?_
    refine ow_iload_n (pc' := 34) (x := l2) dX12_changeBy_33 rfl rfl ?_
    refine ow_iload (pc' := 36) (x := l4) dX12_changeBy_34 rfl rfl ?_
    refine ow_callVp (z := mX12_letterAt) (n := 2) (k := 12) (vs := [(0, l2), (0, l4)]) (x := 83) (st := [(0, 5), (0, (((((l1 * 9) + l3) + 1) * 8) + l4) * 25)]) (pc' := 39) (b1 := (0, 0)) (b2 := (0, 0)) dX12_changeBy_36 lRX12_95 kX12_letterAt iX12_letterAt rfl rfl rfl rfl rfl rfl (of_eq_true eo83) (ow_Sp.mono h (fun r2 N2 h => ?_))
    obtain ⟨vv7, h⟩ := h
    refine ow_imul (pc' := 40) dX12_changeBy_39 vv7 rfl ?_
    obtain ⟨vv8, h⟩ := h
    refine ow_iadd (pc' := 41) dX12_changeBy_40 vv8 rfl ?_
    refine ow_iload (pc' := 43) (x := l5) dX12_changeBy_41 rfl rfl ?_
    obtain ⟨vv9, h⟩ := h
    refine ow_iadd (pc' := 44) dX12_changeBy_43 vv9 rfl ?_
    refine ow_istore (pc' := 46) (lv' := [(0, (3, 83)), (1, (0, l1)), (2, (0, l2)), (3, (0, l3)), (4, (0, l4)), (5, (0, l5)), (6, (0, (((((((l1 * 9) + l3) + 1) * 8) + l4) * 25) + (5 * r2)) + l5))]) dX12_changeBy_44 rfl rfl rfl ?_
    refine ow_aload_n (pc' := 47) (x := 83) dX12_changeBy_46 rfl rfl ?_
    refine ow_getf3 (pc' := 50) (t := 3) (ji := 29) (val := 92) dX12_changeBy_47 fRX12_43 rfl rfl rfl (of_eq_true eo83) eg83_29 ?_
    refine ow_iload (pc' := 52) (x := (((((((l1 * 9) + l3) + 1) * 8) + l4) * 25) + (5 * r2)) + l5) dX12_changeBy_50 rfl rfl ?_
    obtain ⟨vv10, h⟩ := h
    refine ow_iaload3 (pc' := 53) (val := N2 92 ((((((((l1 * 9) + l3) + 1) * 8) + l4) * 25) + (5 * r2)) + l5)) dX12_changeBy_52 rfl (Eq.mpr (er92 _) vv10) (ea92 _) ?_
    refine ow_iflt (pc' := 56) (tg := 64) dX12_changeBy_53 rfl rfl (fun hc => ?_) (fun hc => ?_)
    · have h := h.1 hc
      refine ow_aload_n (pc' := 65) (x := 83) dX12_changeBy_64 rfl rfl ?_
      refine ow_iload_n (pc' := 66) (x := l1) dX12_changeBy_65 rfl rfl ?_
      refine ow_iload_n (pc' := 67) (x := l2) dX12_changeBy_66 rfl rfl ?_
      refine ow_iload_n (pc' := 68) (x := l3) dX12_changeBy_67 rfl rfl ?_
      refine ow_iload (pc' := 70) (x := l4) dX12_changeBy_68 rfl rfl ?_
      refine ow_iload (pc' := 72) (x := l5) dX12_changeBy_70 rfl rfl ?_
      refine ow_callVv (z := mX12_name) (n := 5) (k := 12) (vs := [(0, l1), (0, l2), (0, l3), (0, l4), (0, l5)]) (x := 83) (st := []) (pc' := 75) (b1 := (0, 0)) (b2 := (0, 0)) dX12_changeBy_72 lRX12_280 kX12_name iX12_name rfl rfl rfl rfl rfl rfl (of_eq_true eo83) (ow_Sp.mono h (fun r3 N3 h => ?_))
      refine ow_iconst (pc' := 76) (n := 1) dX12_changeBy_75 rfl rfl ?_
      refine ow_istore (pc' := 78) (lv' := [(0, (3, 83)), (1, (0, l1)), (2, (0, l2)), (3, (0, l3)), (4, (0, l4)), (5, (0, l5)), (6, (0, (((((((l1 * 9) + l3) + 1) * 8) + l4) * 25) + (5 * r2)) + l5)), (7, (0, 1))]) dX12_changeBy_76 rfl rfl rfl ?_
      refine ow_aload_n (pc' := 79) (x := 83) dX12_changeBy_78 rfl rfl ?_
      refine ow_getf3 (pc' := 82) (t := 0) (ji := 27) (val := N3 83 27) dX12_changeBy_79 fRX12_274 rfl rfl rfl (of_eq_true eo83) eg83_27 ?_
      refine ow_iflt (pc' := 85) (tg := 101) dX12_changeBy_82 rfl rfl (fun hc => ?_) (fun hc => ?_)
      · have h := h.1 hc
        refine ow_sub (lv' := [(0, (3, 83)), (6, (0, (((((((l1 * 9) + l3) + 1) * 8) + l4) * 25) + (5 * r2)) + l5)), (7, (0, 1))]) [0, 6, 7] rfl ?_
        exact h
      · have h := h.2 hc
        refine ow_aload_n (pc' := 86) (x := 83) dX12_changeBy_85 rfl rfl ?_
        refine ow_aload_n (pc' := 87) (x := 83) dX12_changeBy_86 rfl rfl ?_
        refine ow_getf3 (pc' := 90) (t := 0) (ji := 27) (val := N3 83 27) dX12_changeBy_87 fRX12_274 rfl rfl rfl (of_eq_true eo83) eg83_27 ?_
        refine ow_callVv (z := mX12_work) (n := 1) (k := 12) (vs := [(0, N3 83 27)]) (x := 83) (st := []) (pc' := 93) (b1 := (0, 0)) (b2 := (0, 0)) dX12_changeBy_90 lRX12_284 kX12_work iX12_work rfl rfl rfl rfl rfl rfl (of_eq_true eo83) (ow_Sp.mono h (fun r4 N4 h => ?_))
        refine ow_aload_n (pc' := 94) (x := 83) dX12_changeBy_93 rfl rfl ?_
        refine ow_getf3 (pc' := 97) (t := 3) (ji := 26) (val := 91) dX12_changeBy_94 fRX12_39 rfl rfl rfl (of_eq_true eo83) eg83_26 ?_
        refine ow_iconst (pc' := 98) (n := 0) dX12_changeBy_97 rfl rfl ?_
        refine ow_baload3 (pc' := 99) (val := N4 91 0) dX12_changeBy_98 rfl (Eq.mpr (er91 _) ⟨by decide, by decide⟩) (ea91 _) ?_
        refine ow_istore (pc' := 101) (lv' := [(0, (3, 83)), (1, (0, l1)), (2, (0, l2)), (3, (0, l3)), (4, (0, l4)), (5, (0, l5)), (6, (0, (((((((l1 * 9) + l3) + 1) * 8) + l4) * 25) + (5 * r2)) + l5)), (7, (0, N4 91 0))]) dX12_changeBy_99 rfl rfl rfl ?_
        refine ow_sub (lv' := [(0, (3, 83)), (6, (0, (((((((l1 * 9) + l3) + 1) * 8) + l4) * 25) + (5 * r2)) + l5)), (7, (0, N4 91 0))]) [0, 6, 7] rfl ?_
        exact h
    · have h := h.2 hc
      refine ow_aload_n (pc' := 57) (x := 83) dX12_changeBy_56 rfl rfl ?_
      refine ow_getf3 (pc' := 60) (t := 3) (ji := 29) (val := 92) dX12_changeBy_57 fRX12_43 rfl rfl rfl (of_eq_true eo83) eg83_29 ?_
      refine ow_iload (pc' := 62) (x := (((((((l1 * 9) + l3) + 1) * 8) + l4) * 25) + (5 * r2)) + l5) dX12_changeBy_60 rfl rfl ?_
      refine ow_iaload3 (pc' := 63) (val := N2 92 ((((((((l1 * 9) + l3) + 1) * 8) + l4) * 25) + (5 * r2)) + l5)) dX12_changeBy_62 rfl (Eq.mpr (er92 _) vv10) (ea92 _) ?_
      exact ow_iret dX12_changeBy_63 rfl rfl h
  · have h := h.2 hc
    refine ow_iconst (pc' := 13) (n := 0) dX12_changeBy_12 rfl rfl ?_
    exact ow_iret dX12_changeBy_13 rfl rfl h
set_option maxRecDepth 20000 in
theorem cX12_changeBy_101 {C : ow_C} {A L N : Int} {d : Nat} {M : ow_M} {K : Int → ow_M → Prop} {l6 l7 : Int} (h : (l7 = 0 → (0 ≤ l6 ∧ l6 < 14400) ∧ ∀ N1, N1 = ow_up M 92 l6 0 → K (N1 92 l6) N1) ∧ (l7 ≠ 0 → ow_Sp C (EM A L N) d mX12_weightNow (0, 0) [(3, 83)] M (fun r2 N2 => (0 ≤ l6 ∧ l6 < 14400) ∧ ∀ N3, N3 = ow_up N2 92 l6 r2 → K (N3 92 l6) N3))) : ow_At C (EM A L N) (d + 1) mX12_changeBy 101 [(0, (3, 83)), (6, (0, l6)), (7, (0, l7))] [] (0, 0) M K := by
  refine ow_aload_n (pc' := 102) (x := 83) dX12_changeBy_101 rfl rfl ?_
  refine ow_getf3 (pc' := 105) (t := 3) (ji := 29) (val := 92) dX12_changeBy_102 fRX12_43 rfl rfl rfl (of_eq_true eo83) eg83_29 ?_
  refine ow_iload (pc' := 107) (x := l6) dX12_changeBy_105 rfl rfl ?_
  refine ow_iload (pc' := 109) (x := l7) dX12_changeBy_107 rfl rfl ?_
  refine ow_ifeq (pc' := 112) (tg := 119) dX12_changeBy_109 rfl rfl (fun hc => ?_) (fun hc => ?_)
  · have h := h.1 hc
    refine ow_iconst (pc' := 120) (n := 0) dX12_changeBy_119 rfl rfl ?_
    obtain ⟨vv1, h⟩ := h
    refine ow_iastore2 (pc' := 121) dX12_changeBy_120 rfl (Eq.mpr (er92 _) vv1) (of_eq_true (en92 _)) (fun N1 eN1 => ?_)
    have h := h N1 eN1
    refine ow_aload_n (pc' := 122) (x := 83) dX12_changeBy_121 rfl rfl ?_
    refine ow_getf3 (pc' := 125) (t := 3) (ji := 29) (val := 92) dX12_changeBy_122 fRX12_43 rfl rfl rfl (of_eq_true eo83) eg83_29 ?_
    refine ow_iload (pc' := 127) (x := l6) dX12_changeBy_125 rfl rfl ?_
    refine ow_iaload3 (pc' := 128) (val := N1 92 l6) dX12_changeBy_127 rfl (Eq.mpr (er92 _) vv1) (ea92 _) ?_
    exact ow_iret dX12_changeBy_128 rfl rfl h
  · have h := h.2 hc
    refine ow_aload_n (pc' := 113) (x := 83) dX12_changeBy_112 rfl rfl ?_
    refine ow_callVp (z := mX12_weightNow) (n := 0) (k := 12) (vs := []) (x := 83) (st := [(0, l6), (3, 92)]) (pc' := 116) (b1 := (0, 0)) (b2 := (0, 0)) dX12_changeBy_113 lRX12_287 kX12_weightNow iX12_weightNow rfl rfl rfl rfl rfl rfl (of_eq_true eo83) (ow_Sp.mono h (fun r2 N2 h => ?_))
    refine ow_goto (tg := 120) dX12_changeBy_116 rfl ?_
    obtain ⟨vv2, h⟩ := h
    refine ow_iastore2 (pc' := 121) dX12_changeBy_120 rfl (Eq.mpr (er92 _) vv2) (of_eq_true (en92 _)) (fun N3 eN3 => ?_)
    have h := h N3 eN3
    refine ow_aload_n (pc' := 122) (x := 83) dX12_changeBy_121 rfl rfl ?_
    refine ow_getf3 (pc' := 125) (t := 3) (ji := 29) (val := 92) dX12_changeBy_122 fRX12_43 rfl rfl rfl (of_eq_true eo83) eg83_29 ?_
    refine ow_iload (pc' := 127) (x := l6) dX12_changeBy_125 rfl rfl ?_
    refine ow_iaload3 (pc' := 128) (val := N3 92 l6) dX12_changeBy_127 rfl (Eq.mpr (er92 _) vv2) (ea92 _) ?_
    exact ow_iret dX12_changeBy_128 rfl rfl h
theorem fX12_changeBy {C : ow_C} {A L N : Int} {d : Nat} {M : ow_M} {K : Int → ow_M → Prop} {l1 l2 l3 l4 l5 : Int} (h : ow_Sp C (EM A L N) d mX12_letterAt (0, 0) [(3, 83), (0, l2), (0, l4)] M (fun r1 N1 => (r1 ≠ l5 → ow_I (l1 * 9) ∧ ow_I ((l1 * 9) + l3) ∧ ow_I (((l1 * 9) + l3) + 1) ∧ ow_I ((((l1 * 9) + l3) + 1) * 8) ∧ ow_I (((((l1 * 9) + l3) + 1) * 8) + l4) ∧ ow_I ((((((l1 * 9) + l3) + 1) * 8) + l4) * 25) ∧ ow_Sp C (EM A L N) d mX12_letterAt (0, 0) [(3, 83), (0, l2), (0, l4)] N1 (fun r2 N2 => ow_I (5 * r2) ∧ ow_I (((((((l1 * 9) + l3) + 1) * 8) + l4) * 25) + (5 * r2)) ∧ ow_I ((((((((l1 * 9) + l3) + 1) * 8) + l4) * 25) + (5 * r2)) + l5) ∧ (0 ≤ ((((((((l1 * 9) + l3) + 1) * 8) + l4) * 25) + (5 * r2)) + l5) ∧ ((((((((l1 * 9) + l3) + 1) * 8) + l4) * 25) + (5 * r2)) + l5) < 14400) ∧ ((N2 92 ((((((((l1 * 9) + l3) + 1) * 8) + l4) * 25) + (5 * r2)) + l5)) < 0 → ow_Sp C (EM A L N) d mX12_name (0, 0) [(3, 83), (0, l1), (0, l2), (0, l3), (0, l4), (0, l5)] N2 (fun r3 N3 => ((N3 83 27) < 0 → ow_At C (EM A L N) (d + 1) mX12_changeBy 101 [(0, (3, 83)), (6, (0, (((((((l1 * 9) + l3) + 1) * 8) + l4) * 25) + (5 * r2)) + l5)), (7, (0, 1))] [] (0, 0) N3 K) ∧ (0 ≤ (N3 83 27) → ow_Sp C (EM A L N) d mX12_work (0, 0) [(3, 83), (0, N3 83 27)] N3 (fun r4 N4 => ow_At C (EM A L N) (d + 1) mX12_changeBy 101 [(0, (3, 83)), (6, (0, (((((((l1 * 9) + l3) + 1) * 8) + l4) * 25) + (5 * r2)) + l5)), (7, (0, N4 91 0))] [] (0, 0) N4 K)))) ∧ (0 ≤ (N2 92 ((((((((l1 * 9) + l3) + 1) * 8) + l4) * 25) + (5 * r2)) + l5)) → K (N2 92 ((((((((l1 * 9) + l3) + 1) * 8) + l4) * 25) + (5 * r2)) + l5)) N2))) ∧ (r1 = l5 → K 0 N1))) : ow_Sp C (EM A L N) (d + 1) mX12_changeBy (0, 0) [(3, 83), (0, l1), (0, l2), (0, l3), (0, l4), (0, l5)] M K := ow_enter (by decide +kernel) rfl rfl (cX12_changeBy_0 h)
set_option maxRecDepth 20000 in
theorem cX12_may_0 {C : ow_C} {A L N : Int} {d : Nat} {M : ow_M} {K : Int → ow_M → Prop} {l1 l2 l3 l4 l5 : Int} (h : ow_Sp C (EM A L N) d mX12_changeBy (0, 0) [(3, 83), (0, l1), (0, l2), (0, l3), (0, l4), (0, l5)] M (fun r1 N1 => (r1 ≤ 0 → K 0 N1) ∧ (0 < r1 → K 1 N1))) : ow_At C (EM A L N) (d + 1) mX12_may 0 [(0, (3, 83)), (1, (0, l1)), (2, (0, l2)), (3, (0, l3)), (4, (0, l4)), (5, (0, l5))] [] (0, 0) M K := by
  refine ow_aload_n (pc' := 1) (x := 83) dX12_may_0 rfl rfl ?_
  refine ow_iload_n (pc' := 2) (x := l1) dX12_may_1 rfl rfl ?_
  refine ow_iload_n (pc' := 3) (x := l2) dX12_may_2 rfl rfl ?_
  refine ow_iload_n (pc' := 4) (x := l3) dX12_may_3 rfl rfl ?_
  refine ow_iload (pc' := 6) (x := l4) dX12_may_4 rfl rfl ?_
  refine ow_iload (pc' := 8) (x := l5) dX12_may_6 rfl rfl ?_
  refine ow_callVp (z := mX12_changeBy) (n := 5) (k := 12) (vs := [(0, l1), (0, l2), (0, l3), (0, l4), (0, l5)]) (x := 83) (st := []) (pc' := 11) (b1 := (0, 0)) (b2 := (0, 0)) dX12_may_8 lRX12_290 kX12_changeBy iX12_changeBy rfl rfl rfl rfl rfl rfl (of_eq_true eo83) (ow_Sp.mono h (fun r1 N1 h => ?_))
  refine ow_ifle (pc' := 14) (tg := 18) dX12_may_11 rfl rfl (fun hc => ?_) (fun hc => ?_)
  · have h := h.1 hc
    refine ow_iconst (pc' := 19) (n := 0) dX12_may_18 rfl rfl ?_
    exact ow_zret dX12_may_19 rfl rfl (Or.inl rfl) h
  · have h := h.2 hc
    refine ow_iconst (pc' := 15) (n := 1) dX12_may_14 rfl rfl ?_
    refine ow_goto (tg := 19) dX12_may_15 rfl ?_
    exact ow_zret dX12_may_19 rfl rfl (Or.inr rfl) h
theorem fX12_may {C : ow_C} {A L N : Int} {d : Nat} {M : ow_M} {K : Int → ow_M → Prop} {l1 l2 l3 l4 l5 : Int} (h : ow_Sp C (EM A L N) d mX12_changeBy (0, 0) [(3, 83), (0, l1), (0, l2), (0, l3), (0, l4), (0, l5)] M (fun r1 N1 => (r1 ≤ 0 → K 0 N1) ∧ (0 < r1 → K 1 N1))) : ow_Sp C (EM A L N) (d + 1) mX12_may (0, 0) [(3, 83), (0, l1), (0, l2), (0, l3), (0, l4), (0, l5)] M K := ow_enter (by decide +kernel) rfl rfl (cX12_may_0 h)
set_option maxRecDepth 20000 in
theorem cX12_weightNow_0 {C : ow_C} {A L N : Int} {d : Nat} {M : ow_M} {K : Int → ow_M → Prop} (h : (0 ≤ (M 83 28) → ow_Sp C (EM A L N) d mX12_work (0, 0) [(3, 83), (0, M 83 28)] M (fun r1 N1 => ow_Sp C (EM A L N) d mX12_held (0, 0) [(1, N1 90 0), (0, 1), (0, 9)] N1 (fun r2 N2 => K r2 N2))) ∧ ((M 83 28) < 0 → K 1 M)) : ow_At C (EM A L N) (d + 1) mX12_weightNow 0 [(0, (3, 83))] [] (0, 0) M K := by
  refine ow_aload_n (pc' := 1) (x := 83) dX12_weightNow_0 rfl rfl ?_
  refine ow_getf3 (pc' := 4) (t := 0) (ji := 28) (val := M 83 28) dX12_weightNow_1 fRX12_277 rfl rfl rfl (of_eq_true eo83) eg83_28 ?_
  refine ow_ifge (pc' := 7) (tg := 9) dX12_weightNow_4 rfl rfl (fun hc => ?_) (fun hc => ?_)
  · have h := h.1 hc
    refine ow_aload_n (pc' := 10) (x := 83) dX12_weightNow_9 rfl rfl ?_
    refine ow_aload_n (pc' := 11) (x := 83) dX12_weightNow_10 rfl rfl ?_
    refine ow_getf3 (pc' := 14) (t := 0) (ji := 28) (val := M 83 28) dX12_weightNow_11 fRX12_277 rfl rfl rfl (of_eq_true eo83) eg83_28 ?_
    refine ow_callVv (z := mX12_work) (n := 1) (k := 12) (vs := [(0, M 83 28)]) (x := 83) (st := []) (pc' := 17) (b1 := (0, 0)) (b2 := (0, 0)) dX12_weightNow_14 lRX12_284 kX12_work iX12_work rfl rfl rfl rfl rfl rfl (of_eq_true eo83) (ow_Sp.mono h (fun r1 N1 h => ?_))
    refine ow_aload_n (pc' := 18) (x := 83) dX12_weightNow_17 rfl rfl ?_
    refine ow_getf3 (pc' := 21) (t := 3) (ji := 25) (val := 90) dX12_weightNow_18 fRX12_35 rfl rfl rfl (of_eq_true eo83) eg83_25 ?_
    refine ow_iconst (pc' := 22) (n := 0) dX12_weightNow_21 rfl rfl ?_
    refine ow_laload3 (pc' := 23) (val := N1 90 0) dX12_weightNow_22 rfl (Eq.mpr (er90 _) ⟨by decide, by decide⟩) (ea90 _) ?_
    refine ow_iconst (pc' := 24) (n := 1) dX12_weightNow_23 rfl rfl ?_
    refine ow_bipush (pc' := 26) (n := 9) dX12_weightNow_24 rfl rfl ?_
    refine ow_callSp (z := mX12_held) (n := 3) (vs := [(1, N1 90 0), (0, 1), (0, 9)]) (st := []) (pc' := 29) (b1 := (0, 0)) (b2 := (0, 0)) dX12_weightNow_26 lRX12_294 kX12_held zX12_held rfl rfl rfl rfl rfl rfl (ow_Sp.mono h (fun r2 N2 h => ?_))
    exact ow_iret dX12_weightNow_29 rfl rfl h
  · have h := h.2 hc
    refine ow_iconst (pc' := 8) (n := 1) dX12_weightNow_7 rfl rfl ?_
    exact ow_iret dX12_weightNow_8 rfl rfl h
theorem fX12_weightNow {C : ow_C} {A L N : Int} {d : Nat} {M : ow_M} {K : Int → ow_M → Prop} (h : (0 ≤ (M 83 28) → ow_Sp C (EM A L N) d mX12_work (0, 0) [(3, 83), (0, M 83 28)] M (fun r1 N1 => ow_Sp C (EM A L N) d mX12_held (0, 0) [(1, N1 90 0), (0, 1), (0, 9)] N1 (fun r2 N2 => K r2 N2))) ∧ ((M 83 28) < 0 → K 1 M)) : ow_Sp C (EM A L N) (d + 1) mX12_weightNow (0, 0) [(3, 83)] M K := ow_enter (by decide +kernel) rfl rfl (cX12_weightNow_0 h)
set_option maxRecDepth 20000 in
theorem cX12_begin_0 {C : ow_C} {A L N : Int} {d : Nat} {M : ow_M} {K : Int → ow_M → Prop} {l1 : Int} (h : ow_At C (EM A L N) d mX12_begin 2 [(0, (3, 83)), (1, (0, l1)), (2, (0, 0))] [] (0, 0) M K) : ow_At C (EM A L N) d mX12_begin 0 [(0, (3, 83)), (1, (0, l1))] [] (0, 0) M K := by
  refine ow_iconst (pc' := 1) (n := 0) dX12_begin_0 rfl rfl ?_
  refine ow_istore_n (pc' := 2) (lv' := [(0, (3, 83)), (1, (0, l1)), (2, (0, 0))]) dX12_begin_1 rfl rfl rfl ?_
  exact h
set_option maxRecDepth 20000 in
theorem cX12_begin_2 {C : ow_C} {A L N : Int} {d : Nat} {M : ow_M} {K : Int → ow_M → Prop} {l1 l2 : Int} (h : (2304 ≤ l2 → ow_I (9 * l1) ∧ (0 ≤ (9 * l1) ∧ (9 * l1) < 2304) ∧ ∀ N1, N1 = ow_up M 93 (9 * l1) 1 → K 0 N1) ∧ (l2 < 2304 → (0 ≤ l2 ∧ l2 < 2304) ∧ ∀ N2, N2 = ow_up M 93 l2 0 → ow_I (l2 + 1) ∧ ow_At C (EM A L N) d mX12_begin 2 [(0, (3, 83)), (1, (0, l1)), (2, (0, l2 + 1))] [] (0, 0) N2 K)) : ow_At C (EM A L N) d mX12_begin 2 [(0, (3, 83)), (1, (0, l1)), (2, (0, l2))] [] (0, 0) M K := by
  refine ow_iload_n (pc' := 3) (x := l2) dX12_begin_2 rfl rfl ?_
  refine ow_sipush (pc' := 6) (n := 2304) dX12_begin_3 rfl rfl ?_
  refine ow_icmpge (pc' := 9) (tg := 22) dX12_begin_6 rfl rfl (fun hc => ?_) (fun hc => ?_)
  · have h := h.1 hc
    refine ow_aload_n (pc' := 23) (x := 83) dX12_begin_22 rfl rfl ?_
    refine ow_getf3 (pc' := 26) (t := 3) (ji := 30) (val := 93) dX12_begin_23 fRX12_46 rfl rfl rfl (of_eq_true eo83) eg83_30 ?_
    refine ow_bipush (pc' := 28) (n := 9) dX12_begin_26 rfl rfl ?_
    refine ow_iload_n (pc' := 29) (x := l1) dX12_begin_28 rfl rfl ?_
    obtain ⟨vv1, h⟩ := h
    refine ow_imul (pc' := 30) dX12_begin_29 vv1 rfl ?_
    refine ow_lconst (pc' := 31) (i := 1) dX12_begin_30 rfl rfl ?_
    obtain ⟨vv2, h⟩ := h
    refine ow_lastore2 (pc' := 32) dX12_begin_31 rfl (Eq.mpr (er93 _) vv2) (of_eq_true (en93 _)) (fun N1 eN1 => ?_)
    have h := h N1 eN1
    exact ow_vret dX12_begin_32 rfl rfl h
  · have h := h.2 hc
    refine ow_aload_n (pc' := 10) (x := 83) dX12_begin_9 rfl rfl ?_
    refine ow_getf3 (pc' := 13) (t := 3) (ji := 30) (val := 93) dX12_begin_10 fRX12_46 rfl rfl rfl (of_eq_true eo83) eg83_30 ?_
    refine ow_iload_n (pc' := 14) (x := l2) dX12_begin_13 rfl rfl ?_
    refine ow_lconst (pc' := 15) (i := 0) dX12_begin_14 rfl rfl ?_
    obtain ⟨vv3, h⟩ := h
    refine ow_lastore2 (pc' := 16) dX12_begin_15 rfl (Eq.mpr (er93 _) vv3) (of_eq_true (en93 _)) (fun N2 eN2 => ?_)
    have h := h N2 eN2
    obtain ⟨vv4, h⟩ := h
    refine ow_iinc (pc' := 19) (lv' := [(0, (3, 83)), (1, (0, l1)), (2, (0, l2 + 1))]) dX12_begin_16 rfl vv4 rfl rfl rfl ?_
    refine ow_goto (tg := 2) dX12_begin_19 rfl ?_
    exact h
theorem fX12_begin {C : ow_C} {A L N : Int} {d : Nat} {M : ow_M} {K : Int → ow_M → Prop} {l1 : Int} (h : ow_At C (EM A L N) d mX12_begin 2 [(0, (3, 83)), (1, (0, l1)), (2, (0, 0))] [] (0, 0) M K) : ow_Sp C (EM A L N) d mX12_begin (0, 0) [(3, 83), (0, l1)] M K := ow_enter (by decide +kernel) rfl rfl (cX12_begin_0 h)
set_option maxRecDepth 20000 in
theorem cX12_goOn_0 {C : ow_C} {A L N : Int} {d : Nat} {M : ow_M} {K : Int → ow_M → Prop} {l1 : Int} (h : ow_At C (EM A L N) (d + 1) mX12_goOn 2 [(0, (3, 83)), (1, (0, l1)), (2, (0, 0))] [] (0, 0) M K) : ow_At C (EM A L N) (d + 1) mX12_goOn 0 [(0, (3, 83)), (1, (0, l1))] [] (0, 0) M K := by
  refine ow_iconst (pc' := 1) (n := 0) dX12_goOn_0 rfl rfl ?_
  refine ow_istore_n (pc' := 2) (lv' := [(0, (3, 83)), (1, (0, l1)), (2, (0, 0))]) dX12_goOn_1 rfl rfl rfl ?_
  exact h
set_option maxRecDepth 20000 in
theorem cX12_goOn_2 {C : ow_C} {A L N : Int} {d : Nat} {M : ow_M} {K : Int → ow_M → Prop} {l1 l2 : Int} (h : (2304 ≤ l2 → ow_At C (EM A L N) (d + 1) mX12_goOn 24 [(0, (3, 83)), (1, (0, l1)), (2, (0, 0))] [] (0, 0) M K) ∧ (l2 < 2304 → (0 ≤ l2 ∧ l2 < 2304) ∧ ∀ N1, N1 = ow_up M 94 l2 0 → ow_I (l2 + 1) ∧ ow_At C (EM A L N) (d + 1) mX12_goOn 2 [(0, (3, 83)), (1, (0, l1)), (2, (0, l2 + 1))] [] (0, 0) N1 K)) : ow_At C (EM A L N) (d + 1) mX12_goOn 2 [(0, (3, 83)), (1, (0, l1)), (2, (0, l2))] [] (0, 0) M K := by
  refine ow_iload_n (pc' := 3) (x := l2) dX12_goOn_2 rfl rfl ?_
  refine ow_sipush (pc' := 6) (n := 2304) dX12_goOn_3 rfl rfl ?_
  refine ow_icmpge (pc' := 9) (tg := 22) dX12_goOn_6 rfl rfl (fun hc => ?_) (fun hc => ?_)
  · have h := h.1 hc
    refine ow_iconst (pc' := 23) (n := 0) dX12_goOn_22 rfl rfl ?_
    refine ow_istore_n (pc' := 24) (lv' := [(0, (3, 83)), (1, (0, l1)), (2, (0, 0))]) dX12_goOn_23 rfl rfl rfl ?_
    exact h
  · have h := h.2 hc
    refine ow_aload_n (pc' := 10) (x := 83) dX12_goOn_9 rfl rfl ?_
    refine ow_getf3 (pc' := 13) (t := 3) (ji := 31) (val := 94) dX12_goOn_10 fRX12_49 rfl rfl rfl (of_eq_true eo83) eg83_31 ?_
    refine ow_iload_n (pc' := 14) (x := l2) dX12_goOn_13 rfl rfl ?_
    refine ow_lconst (pc' := 15) (i := 0) dX12_goOn_14 rfl rfl ?_
    obtain ⟨vv1, h⟩ := h
    refine ow_lastore2 (pc' := 16) dX12_goOn_15 rfl (Eq.mpr (er94 _) vv1) (of_eq_true (en94 _)) (fun N1 eN1 => ?_)
    have h := h N1 eN1
    obtain ⟨vv2, h⟩ := h
    refine ow_iinc (pc' := 19) (lv' := [(0, (3, 83)), (1, (0, l1)), (2, (0, l2 + 1))]) dX12_goOn_16 rfl vv2 rfl rfl rfl ?_
    refine ow_goto (tg := 2) dX12_goOn_19 rfl ?_
    exact h
set_option maxRecDepth 20000 in
theorem cX12_goOn_24 {C : ow_C} {A L N : Int} {d : Nat} {M : ow_M} {K : Int → ow_M → Prop} {l1 l2 : Int} (h : (N ≤ l2 → ow_At C (EM A L N) (d + 1) mX12_goOn 79 [(0, (3, 83)), (2, (0, 0))] [] (0, 0) M K) ∧ (l2 < N → ow_At C (EM A L N) (d + 1) mX12_goOn 34 [(0, (3, 83)), (1, (0, l1)), (2, (0, l2)), (3, (0, 0))] [] (0, 0) M K)) : ow_At C (EM A L N) (d + 1) mX12_goOn 24 [(0, (3, 83)), (1, (0, l1)), (2, (0, l2))] [] (0, 0) M K := by
  refine ow_iload_n (pc' := 25) (x := l2) dX12_goOn_24 rfl rfl ?_
  refine ow_aload_n (pc' := 26) (x := 83) dX12_goOn_25 rfl rfl ?_
  refine ow_getf3 (pc' := 29) (t := 0) (ji := 4) (val := N) dX12_goOn_26 fRX12_84 rfl rfl rfl (of_eq_true eo83) eg83_4 ?_
  refine ow_icmpge (pc' := 32) (tg := 77) dX12_goOn_29 rfl rfl (fun hc => ?_) (fun hc => ?_)
  · have h := h.1 hc
    refine ow_iconst (pc' := 78) (n := 0) dX12_goOn_77 rfl rfl ?_
    refine ow_istore_n (pc' := 79) (lv' := [(0, (3, 83)), (1, (0, l1)), (2, (0, 0))]) dX12_goOn_78 rfl rfl rfl ?_
    refine ow_sub (lv' := [(0, (3, 83)), (2, (0, 0))]) [0, 2] rfl ?_
    exact h
  · have h := h.2 hc
    refine ow_iconst (pc' := 33) (n := 0) dX12_goOn_32 rfl rfl ?_
    refine ow_istore_n (pc' := 34) (lv' := [(0, (3, 83)), (1, (0, l1)), (2, (0, l2)), (3, (0, 0))]) dX12_goOn_33 rfl rfl rfl ?_
    exact h
set_option maxRecDepth 20000 in
theorem cX12_goOn_79 {C : ow_C} {A L N : Int} {d : Nat} {M : ow_M} {K : Int → ow_M → Prop} {l2 : Int} (h : (2304 ≤ l2 → K 0 M) ∧ (l2 < 2304 → (0 ≤ l2 ∧ l2 < 2304) ∧ ∀ N1, N1 = ow_up M 93 l2 (M 94 l2) → ow_I (l2 + 1) ∧ ow_At C (EM A L N) (d + 1) mX12_goOn 79 [(0, (3, 83)), (2, (0, l2 + 1))] [] (0, 0) N1 K)) : ow_At C (EM A L N) (d + 1) mX12_goOn 79 [(0, (3, 83)), (2, (0, l2))] [] (0, 0) M K := by
  refine ow_iload_n (pc' := 80) (x := l2) dX12_goOn_79 rfl rfl ?_
  refine ow_sipush (pc' := 83) (n := 2304) dX12_goOn_80 rfl rfl ?_
  refine ow_icmpge (pc' := 86) (tg := 104) dX12_goOn_83 rfl rfl (fun hc => ?_) (fun hc => ?_)
  · have h := h.1 hc
    exact ow_vret dX12_goOn_104 rfl rfl h
  · have h := h.2 hc
    refine ow_aload_n (pc' := 87) (x := 83) dX12_goOn_86 rfl rfl ?_
    refine ow_getf3 (pc' := 90) (t := 3) (ji := 30) (val := 93) dX12_goOn_87 fRX12_46 rfl rfl rfl (of_eq_true eo83) eg83_30 ?_
    refine ow_iload_n (pc' := 91) (x := l2) dX12_goOn_90 rfl rfl ?_
    refine ow_aload_n (pc' := 92) (x := 83) dX12_goOn_91 rfl rfl ?_
    refine ow_getf3 (pc' := 95) (t := 3) (ji := 31) (val := 94) dX12_goOn_92 fRX12_49 rfl rfl rfl (of_eq_true eo83) eg83_31 ?_
    refine ow_iload_n (pc' := 96) (x := l2) dX12_goOn_95 rfl rfl ?_
    obtain ⟨vv1, h⟩ := h
    refine ow_laload3 (pc' := 97) (val := M 94 l2) dX12_goOn_96 rfl (Eq.mpr (er94 _) vv1) (ea94 _) ?_
    refine ow_lastore2 (pc' := 98) dX12_goOn_97 rfl (Eq.mpr (er93 _) vv1) (of_eq_true (en93 _)) (fun N1 eN1 => ?_)
    have h := h N1 eN1
    obtain ⟨vv2, h⟩ := h
    refine ow_iinc (pc' := 101) (lv' := [(0, (3, 83)), (2, (0, l2 + 1))]) dX12_goOn_98 rfl vv2 rfl rfl rfl ?_
    refine ow_goto (tg := 79) dX12_goOn_101 rfl ?_
    exact h
set_option maxRecDepth 20000 in
theorem cX12_goOn_34 {C : ow_C} {A L N : Int} {d : Nat} {M : ow_M} {K : Int → ow_M → Prop} {l1 l2 l3 : Int} (h : (L < l3 → ow_I (l2 + 1) ∧ ow_At C (EM A L N) (d + 1) mX12_goOn 24 [(0, (3, 83)), (1, (0, l1)), (2, (0, l2 + 1))] [] (0, 0) M K) ∧ (l3 ≤ L → ow_I (9 * l2) ∧ ow_I ((9 * l2) + l3) ∧ (0 ≤ ((9 * l2) + l3) ∧ ((9 * l2) + l3) < 2304) ∧ ((ow_lcmp (M 93 ((9 * l2) + l3)) 0) ≤ 0 → ow_I (l3 + 1) ∧ ow_At C (EM A L N) (d + 1) mX12_goOn 34 [(0, (3, 83)), (1, (0, l1)), (2, (0, l2)), (3, (0, l3 + 1))] [] (0, 0) M K) ∧ (0 < (ow_lcmp (M 93 ((9 * l2) + l3)) 0) → ow_Sp C (EM A L N) d mX12_spread (0, 0) [(3, 83), (0, l1), (0, l2), (0, l3)] M (fun r1 N1 => ow_I (l3 + 1) ∧ ow_At C (EM A L N) (d + 1) mX12_goOn 34 [(0, (3, 83)), (1, (0, l1)), (2, (0, l2)), (3, (0, l3 + 1))] [] (0, 0) N1 K)))) : ow_At C (EM A L N) (d + 1) mX12_goOn 34 [(0, (3, 83)), (1, (0, l1)), (2, (0, l2)), (3, (0, l3))] [] (0, 0) M K := by
  refine ow_iload_n (pc' := 35) (x := l3) dX12_goOn_34 rfl rfl ?_
  refine ow_aload_n (pc' := 36) (x := 83) dX12_goOn_35 rfl rfl ?_
  refine ow_getf3 (pc' := 39) (t := 0) (ji := 3) (val := L) dX12_goOn_36 fRX12_81 rfl rfl rfl (of_eq_true eo83) eg83_3 ?_
  refine ow_icmpgt (pc' := 42) (tg := 71) dX12_goOn_39 rfl rfl (fun hc => ?_) (fun hc => ?_)
  · have h := h.1 hc
    obtain ⟨vv1, h⟩ := h
    refine ow_iinc (pc' := 74) (lv' := [(0, (3, 83)), (1, (0, l1)), (2, (0, l2 + 1)), (3, (0, l3))]) dX12_goOn_71 rfl vv1 rfl rfl rfl ?_
    refine ow_goto (tg := 24) dX12_goOn_74 rfl ?_
    refine ow_sub (lv' := [(0, (3, 83)), (1, (0, l1)), (2, (0, l2 + 1))]) [0, 1, 2] rfl ?_
    exact h
  · have h := h.2 hc
    refine ow_aload_n (pc' := 43) (x := 83) dX12_goOn_42 rfl rfl ?_
    refine ow_getf3 (pc' := 46) (t := 3) (ji := 30) (val := 93) dX12_goOn_43 fRX12_46 rfl rfl rfl (of_eq_true eo83) eg83_30 ?_
    refine ow_bipush (pc' := 48) (n := 9) dX12_goOn_46 rfl rfl ?_
    refine ow_iload_n (pc' := 49) (x := l2) dX12_goOn_48 rfl rfl ?_
    obtain ⟨vv2, h⟩ := h
    refine ow_imul (pc' := 50) dX12_goOn_49 vv2 rfl ?_
    refine ow_iload_n (pc' := 51) (x := l3) dX12_goOn_50 rfl rfl ?_
    obtain ⟨vv3, h⟩ := h
    refine ow_iadd (pc' := 52) dX12_goOn_51 vv3 rfl ?_
    obtain ⟨vv4, h⟩ := h
    refine ow_laload3 (pc' := 53) (val := M 93 ((9 * l2) + l3)) dX12_goOn_52 rfl (Eq.mpr (er93 _) vv4) (ea93 _) ?_
    refine ow_lconst (pc' := 54) (i := 0) dX12_goOn_53 rfl rfl ?_
    refine ow_Lcmp (pc' := 55) dX12_goOn_54 rfl ?_
    refine ow_ifle (pc' := 58) (tg := 65) dX12_goOn_55 rfl rfl (fun hc => ?_) (fun hc => ?_)
    · have h := h.1 hc
      obtain ⟨vv5, h⟩ := h
      refine ow_iinc (pc' := 68) (lv' := [(0, (3, 83)), (1, (0, l1)), (2, (0, l2)), (3, (0, l3 + 1))]) dX12_goOn_65 rfl vv5 rfl rfl rfl ?_
      refine ow_goto (tg := 34) dX12_goOn_68 rfl ?_
      exact h
    · have h := h.2 hc
      refine ow_aload_n (pc' := 59) (x := 83) dX12_goOn_58 rfl rfl ?_
      refine ow_iload_n (pc' := 60) (x := l1) dX12_goOn_59 rfl rfl ?_
      refine ow_iload_n (pc' := 61) (x := l2) dX12_goOn_60 rfl rfl ?_
      refine ow_iload_n (pc' := 62) (x := l3) dX12_goOn_61 rfl rfl ?_
      refine ow_callVv (z := mX12_spread) (n := 3) (k := 12) (vs := [(0, l1), (0, l2), (0, l3)]) (x := 83) (st := []) (pc' := 65) (b1 := (0, 0)) (b2 := (0, 0)) dX12_goOn_62 lRX12_298 kX12_spread iX12_spread rfl rfl rfl rfl rfl rfl (of_eq_true eo83) (ow_Sp.mono h (fun r1 N1 h => ?_))
      obtain ⟨vv6, h⟩ := h
      refine ow_iinc (pc' := 68) (lv' := [(0, (3, 83)), (1, (0, l1)), (2, (0, l2)), (3, (0, l3 + 1))]) dX12_goOn_65 rfl vv6 rfl rfl rfl ?_
      refine ow_goto (tg := 34) dX12_goOn_68 rfl ?_
      exact h
theorem fX12_goOn {C : ow_C} {A L N : Int} {d : Nat} {M : ow_M} {K : Int → ow_M → Prop} {l1 : Int} (h : ow_At C (EM A L N) (d + 1) mX12_goOn 2 [(0, (3, 83)), (1, (0, l1)), (2, (0, 0))] [] (0, 0) M K) : ow_Sp C (EM A L N) (d + 1) mX12_goOn (0, 0) [(3, 83), (0, l1)] M K := ow_enter (by decide +kernel) rfl rfl (cX12_goOn_0 h)
set_option maxRecDepth 20000 in
theorem cX12_spread_0 {C : ow_C} {A L N : Int} {d : Nat} {M : ow_M} {K : Int → ow_M → Prop} {l1 l2 l3 : Int} (h : ow_At C (EM A L N) (d + 1) mX12_spread 3 [(0, (3, 83)), (1, (0, l1)), (2, (0, l2)), (3, (0, l3)), (4, (0, 0))] [] (0, 0) M K) : ow_At C (EM A L N) (d + 1) mX12_spread 0 [(0, (3, 83)), (1, (0, l1)), (2, (0, l2)), (3, (0, l3))] [] (0, 0) M K := by
  refine ow_iconst (pc' := 1) (n := 0) dX12_spread_0 rfl rfl ?_
  refine ow_istore (pc' := 3) (lv' := [(0, (3, 83)), (1, (0, l1)), (2, (0, l2)), (3, (0, l3)), (4, (0, 0))]) dX12_spread_1 rfl rfl rfl ?_
  exact h
set_option maxRecDepth 20000 in
theorem cX12_spread_3 {C : ow_C} {A L N : Int} {d : Nat} {M : ow_M} {K : Int → ow_M → Prop} {l1 l2 l3 l4 : Int} (h : (L ≤ l4 → K 0 M) ∧ (l4 < L → ow_At C (EM A L N) (d + 1) mX12_spread 15 [(0, (3, 83)), (1, (0, l1)), (2, (0, l2)), (3, (0, l3)), (4, (0, l4)), (5, (0, 0))] [] (0, 0) M K)) : ow_At C (EM A L N) (d + 1) mX12_spread 3 [(0, (3, 83)), (1, (0, l1)), (2, (0, l2)), (3, (0, l3)), (4, (0, l4))] [] (0, 0) M K := by
  refine ow_iload (pc' := 5) (x := l4) dX12_spread_3 rfl rfl ?_
  refine ow_aload_n (pc' := 6) (x := 83) dX12_spread_5 rfl rfl ?_
  refine ow_getf3 (pc' := 9) (t := 0) (ji := 3) (val := L) dX12_spread_6 fRX12_81 rfl rfl rfl (of_eq_true eo83) eg83_3 ?_
  refine ow_icmpge (pc' := 12) (tg := 96) dX12_spread_9 rfl rfl (fun hc => ?_) (fun hc => ?_)
  · have h := h.1 hc
    exact ow_vret dX12_spread_96 rfl rfl h
  · have h := h.2 hc
    refine ow_iconst (pc' := 13) (n := 0) dX12_spread_12 rfl rfl ?_
    refine ow_istore (pc' := 15) (lv' := [(0, (3, 83)), (1, (0, l1)), (2, (0, l2)), (3, (0, l3)), (4, (0, l4)), (5, (0, 0))]) dX12_spread_13 rfl rfl rfl ?_
    exact h
set_option maxRecDepth 20000 in
theorem cX12_spread_15 {C : ow_C} {A L N : Int} {d : Nat} {M : ow_M} {K : Int → ow_M → Prop} {l1 l2 l3 l4 l5 : Int} (h : (A ≤ l5 → ow_I (l4 + 1) ∧ ow_At C (EM A L N) (d + 1) mX12_spread 3 [(0, (3, 83)), (1, (0, l1)), (2, (0, l2)), (3, (0, l3)), (4, (0, l4 + 1))] [] (0, 0) M K) ∧ (l5 < A → ow_I (l3 - 1) ∧ ow_Sp C (EM A L N) d mX12_changeBy (0, 0) [(3, 83), (0, l1), (0, l2), (0, l3 - 1), (0, l4), (0, l5)] M (fun r1 N1 => (r1 ≤ 0 → ow_I (l5 + 1) ∧ ow_At C (EM A L N) (d + 1) mX12_spread 15 [(0, (3, 83)), (1, (0, l1)), (2, (0, l2)), (3, (0, l3)), (4, (0, l4)), (5, (0, l5 + 1))] [] (0, 0) N1 K) ∧ (0 < r1 → ow_Sp C (EM A L N) d mX12_changed (0, 0) [(3, 83), (0, l2), (0, l4), (0, l5)] N1 (fun r2 N2 => ow_I (9 * r2) ∧ ow_I ((9 * r2) + l4) ∧ ow_I (((9 * r2) + l4) + 1) ∧ (0 ≤ (((9 * r2) + l4) + 1) ∧ (((9 * r2) + l4) + 1) < 2304) ∧ ow_I (9 * l2) ∧ ow_I ((9 * l2) + l3) ∧ (0 ≤ ((9 * l2) + l3) ∧ ((9 * l2) + l3) < 2304) ∧ ow_L ((N2 93 ((9 * l2) + l3)) * r1) ∧ ow_L ((N2 94 (((9 * r2) + l4) + 1)) + ((N2 93 ((9 * l2) + l3)) * r1)) ∧ ∀ N3, N3 = ow_up N2 94 (((9 * r2) + l4) + 1) ((N2 94 (((9 * r2) + l4) + 1)) + ((N2 93 ((9 * l2) + l3)) * r1)) → ow_I (l5 + 1) ∧ ow_At C (EM A L N) (d + 1) mX12_spread 15 [(0, (3, 83)), (1, (0, l1)), (2, (0, l2)), (3, (0, l3)), (4, (0, l4)), (5, (0, l5 + 1))] [] (0, 0) N3 K))))) : ow_At C (EM A L N) (d + 1) mX12_spread 15 [(0, (3, 83)), (1, (0, l1)), (2, (0, l2)), (3, (0, l3)), (4, (0, l4)), (5, (0, l5))] [] (0, 0) M K := by
  refine ow_iload (pc' := 17) (x := l5) dX12_spread_15 rfl rfl ?_
  refine ow_aload_n (pc' := 18) (x := 83) dX12_spread_17 rfl rfl ?_
  refine ow_getf3 (pc' := 21) (t := 0) (ji := 2) (val := A) dX12_spread_18 fRX12_74 rfl rfl rfl (of_eq_true eo83) eg83_2 ?_
  refine ow_icmpge (pc' := 24) (tg := 90) dX12_spread_21 rfl rfl (fun hc => ?_) (fun hc => ?_)
  · have h := h.1 hc
    obtain ⟨vv1, h⟩ := h
    refine ow_iinc (pc' := 93) (lv' := [(0, (3, 83)), (1, (0, l1)), (2, (0, l2)), (3, (0, l3)), (4, (0, l4 + 1)), (5, (0, l5))]) dX12_spread_90 rfl vv1 rfl rfl rfl ?_
    refine ow_goto (tg := 3) dX12_spread_93 rfl ?_
    refine ow_sub (lv' := [(0, (3, 83)), (1, (0, l1)), (2, (0, l2)), (3, (0, l3)), (4, (0, l4 + 1))]) [0, 1, 2, 3, 4] rfl ?_
    exact h
  · have h := h.2 hc
    refine ow_aload_n (pc' := 25) (x := 83) dX12_spread_24 rfl rfl ?_
    refine ow_iload_n (pc' := 26) (x := l1) dX12_spread_25 rfl rfl ?_
    refine ow_iload_n (pc' := 27) (x := l2) dX12_spread_26 rfl rfl ?_
    refine ow_iload_n (pc' := 28) (x := l3) dX12_spread_27 rfl rfl ?_
    refine ow_iconst (pc' := 29) (n := 1) dX12_spread_28 rfl rfl ?_
    obtain ⟨vv2, h⟩ := h
    refine ow_isub (pc' := 30) dX12_spread_29 vv2 rfl ?_
    refine ow_iload (pc' := 32) (x := l4) dX12_spread_30 rfl rfl ?_
    refine ow_iload (pc' := 34) (x := l5) dX12_spread_32 rfl rfl ?_
    refine ow_callVp (z := mX12_changeBy) (n := 5) (k := 12) (vs := [(0, l1), (0, l2), (0, l3 - 1), (0, l4), (0, l5)]) (x := 83) (st := []) (pc' := 37) (b1 := (0, 0)) (b2 := (0, 0)) dX12_spread_34 lRX12_290 kX12_changeBy iX12_changeBy rfl rfl rfl rfl rfl rfl (of_eq_true eo83) (ow_Sp.mono h (fun r1 N1 h => ?_))
    refine ow_istore (pc' := 39) (lv' := [(0, (3, 83)), (1, (0, l1)), (2, (0, l2)), (3, (0, l3)), (4, (0, l4)), (5, (0, l5)), (6, (0, r1))]) dX12_spread_37 rfl rfl rfl ?_
    refine ow_iload (pc' := 41) (x := r1) dX12_spread_39 rfl rfl ?_
    refine ow_ifle (pc' := 44) (tg := 84) dX12_spread_41 rfl rfl (fun hc => ?_) (fun hc => ?_)
    · have h := h.1 hc
      obtain ⟨vv3, h⟩ := h
      refine ow_iinc (pc' := 87) (lv' := [(0, (3, 83)), (1, (0, l1)), (2, (0, l2)), (3, (0, l3)), (4, (0, l4)), (5, (0, l5 + 1)), (6, (0, r1))]) dX12_spread_84 rfl vv3 rfl rfl rfl ?_
      refine ow_goto (tg := 15) dX12_spread_87 rfl ?_
      refine ow_sub (lv' := [(0, (3, 83)), (1, (0, l1)), (2, (0, l2)), (3, (0, l3)), (4, (0, l4)), (5, (0, l5 + 1))]) [0, 1, 2, 3, 4, 5] rfl ?_
      exact h
    · have h := h.2 hc
      refine ow_aload_n (pc' := 45) (x := 83) dX12_spread_44 rfl rfl ?_
      refine ow_getf3 (pc' := 48) (t := 3) (ji := 31) (val := 94) dX12_spread_45 fRX12_49 rfl rfl rfl (of_eq_true eo83) eg83_31 ?_
      refine ow_bipush (pc' := 50) (n := 9) dX12_spread_48 rfl rfl ?_
      refine ow_aload_n (pc' := 51) (x := 83) dX12_spread_50 rfl rfl ?_
      refine ow_iload_n (pc' := 52) (x := l2) dX12_spread_51 rfl rfl ?_
      refine ow_iload (pc' := 54) (x := l4) dX12_spread_52 rfl rfl ?_
      refine ow_iload (pc' := 56) (x := l5) dX12_spread_54 rfl rfl ?_
      refine ow_callVp (z := mX12_changed) (n := 3) (k := 12) (vs := [(0, l2), (0, l4), (0, l5)]) (x := 83) (st := [(0, 9), (3, 94)]) (pc' := 59) (b1 := (0, 0)) (b2 := (0, 0)) dX12_spread_56 lRX12_302 kX12_changed iX12_changed rfl rfl rfl rfl rfl rfl (of_eq_true eo83) (ow_Sp.mono h (fun r2 N2 h => ?_))
      obtain ⟨vv4, h⟩ := h
      refine ow_imul (pc' := 60) dX12_spread_59 vv4 rfl ?_
      refine ow_iload (pc' := 62) (x := l4) dX12_spread_60 rfl rfl ?_
      obtain ⟨vv5, h⟩ := h
      refine ow_iadd (pc' := 63) dX12_spread_62 vv5 rfl ?_
      refine ow_iconst (pc' := 64) (n := 1) dX12_spread_63 rfl rfl ?_
      obtain ⟨vv6, h⟩ := h
      refine ow_iadd (pc' := 65) dX12_spread_64 vv6 rfl ?_
      refine ow_dup2 (pc' := 66) dX12_spread_65 rfl rfl rfl ?_
      obtain ⟨vv7, h⟩ := h
      refine ow_laload3 (pc' := 67) (val := N2 94 (((9 * r2) + l4) + 1)) dX12_spread_66 rfl (Eq.mpr (er94 _) vv7) (ea94 _) ?_
      refine ow_aload_n (pc' := 68) (x := 83) dX12_spread_67 rfl rfl ?_
      refine ow_getf3 (pc' := 71) (t := 3) (ji := 30) (val := 93) dX12_spread_68 fRX12_46 rfl rfl rfl (of_eq_true eo83) eg83_30 ?_
      refine ow_bipush (pc' := 73) (n := 9) dX12_spread_71 rfl rfl ?_
      refine ow_iload_n (pc' := 74) (x := l2) dX12_spread_73 rfl rfl ?_
      obtain ⟨vv8, h⟩ := h
      refine ow_imul (pc' := 75) dX12_spread_74 vv8 rfl ?_
      refine ow_iload_n (pc' := 76) (x := l3) dX12_spread_75 rfl rfl ?_
      obtain ⟨vv9, h⟩ := h
      refine ow_iadd (pc' := 77) dX12_spread_76 vv9 rfl ?_
      obtain ⟨vv10, h⟩ := h
      refine ow_laload3 (pc' := 78) (val := N2 93 ((9 * l2) + l3)) dX12_spread_77 rfl (Eq.mpr (er93 _) vv10) (ea93 _) ?_
      refine ow_iload (pc' := 80) (x := r1) dX12_spread_78 rfl rfl ?_
      refine ow_i2L (pc' := 81) dX12_spread_80 rfl ?_
      obtain ⟨vv11, h⟩ := h
      refine ow_lmul (pc' := 82) dX12_spread_81 vv11 rfl ?_
      obtain ⟨vv12, h⟩ := h
      refine ow_ladd (pc' := 83) dX12_spread_82 vv12 rfl ?_
      refine ow_lastore2 (pc' := 84) dX12_spread_83 rfl (Eq.mpr (er94 _) vv7) (of_eq_true (en94 _)) (fun N3 eN3 => ?_)
      have h := h N3 eN3
      obtain ⟨vv13, h⟩ := h
      refine ow_iinc (pc' := 87) (lv' := [(0, (3, 83)), (1, (0, l1)), (2, (0, l2)), (3, (0, l3)), (4, (0, l4)), (5, (0, l5 + 1)), (6, (0, r1))]) dX12_spread_84 rfl vv13 rfl rfl rfl ?_
      refine ow_goto (tg := 15) dX12_spread_87 rfl ?_
      refine ow_sub (lv' := [(0, (3, 83)), (1, (0, l1)), (2, (0, l2)), (3, (0, l3)), (4, (0, l4)), (5, (0, l5 + 1))]) [0, 1, 2, 3, 4, 5] rfl ?_
      exact h
theorem fX12_spread {C : ow_C} {A L N : Int} {d : Nat} {M : ow_M} {K : Int → ow_M → Prop} {l1 l2 l3 : Int} (h : ow_At C (EM A L N) (d + 1) mX12_spread 3 [(0, (3, 83)), (1, (0, l1)), (2, (0, l2)), (3, (0, l3)), (4, (0, 0))] [] (0, 0) M K) : ow_Sp C (EM A L N) (d + 1) mX12_spread (0, 0) [(3, 83), (0, l1), (0, l2), (0, l3)] M K := ow_enter (by decide +kernel) rfl rfl (cX12_spread_0 h)
set_option maxRecDepth 20000 in
theorem cX12_waysTo_0 {C : ow_C} {A L N : Int} {d : Nat} {M : ow_M} {K : Int → ow_M → Prop} {l1 : Int} (h : ow_At C (EM A L N) d mX12_waysTo 5 [(0, (3, 83)), (1, (0, l1)), (2, (1, 0)), (4, (0, 0))] [] (0, 0) M K) : ow_At C (EM A L N) d mX12_waysTo 0 [(0, (3, 83)), (1, (0, l1))] [] (0, 0) M K := by
  refine ow_lconst (pc' := 1) (i := 0) dX12_waysTo_0 rfl rfl ?_
  refine ow_lstore_n (pc' := 2) (lv' := [(0, (3, 83)), (1, (0, l1)), (2, (1, 0))]) dX12_waysTo_1 rfl rfl rfl ?_
  refine ow_iconst (pc' := 3) (n := 0) dX12_waysTo_2 rfl rfl ?_
  refine ow_istore (pc' := 5) (lv' := [(0, (3, 83)), (1, (0, l1)), (2, (1, 0)), (4, (0, 0))]) dX12_waysTo_3 rfl rfl rfl ?_
  exact h
set_option maxRecDepth 20000 in
theorem cX12_waysTo_5 {C : ow_C} {A L N : Int} {d : Nat} {M : ow_M} {K : Int → ow_M → Prop} {l1 l2 l4 : Int} (h : (L < l4 → K l2 M) ∧ (l4 ≤ L → ow_I (9 * l1) ∧ ow_I ((9 * l1) + l4) ∧ (0 ≤ ((9 * l1) + l4) ∧ ((9 * l1) + l4) < 2304) ∧ ow_L (l2 + (M 93 ((9 * l1) + l4))) ∧ ow_I (l4 + 1) ∧ ow_At C (EM A L N) d mX12_waysTo 5 [(0, (3, 83)), (1, (0, l1)), (2, (1, l2 + (M 93 ((9 * l1) + l4)))), (4, (0, l4 + 1))] [] (0, 0) M K)) : ow_At C (EM A L N) d mX12_waysTo 5 [(0, (3, 83)), (1, (0, l1)), (2, (1, l2)), (4, (0, l4))] [] (0, 0) M K := by
  refine ow_iload (pc' := 7) (x := l4) dX12_waysTo_5 rfl rfl ?_
  refine ow_aload_n (pc' := 8) (x := 83) dX12_waysTo_7 rfl rfl ?_
  refine ow_getf3 (pc' := 11) (t := 0) (ji := 3) (val := L) dX12_waysTo_8 fRX12_81 rfl rfl rfl (of_eq_true eo83) eg83_3 ?_
  refine ow_icmpgt (pc' := 14) (tg := 35) dX12_waysTo_11 rfl rfl (fun hc => ?_) (fun hc => ?_)
  · have h := h.1 hc
    refine ow_lload_n (pc' := 36) (x := l2) dX12_waysTo_35 rfl rfl ?_
    exact ow_lret dX12_waysTo_36 rfl rfl h
  · have h := h.2 hc
    refine ow_lload_n (pc' := 15) (x := l2) dX12_waysTo_14 rfl rfl ?_
    refine ow_aload_n (pc' := 16) (x := 83) dX12_waysTo_15 rfl rfl ?_
    refine ow_getf3 (pc' := 19) (t := 3) (ji := 30) (val := 93) dX12_waysTo_16 fRX12_46 rfl rfl rfl (of_eq_true eo83) eg83_30 ?_
    refine ow_bipush (pc' := 21) (n := 9) dX12_waysTo_19 rfl rfl ?_
    refine ow_iload_n (pc' := 22) (x := l1) dX12_waysTo_21 rfl rfl ?_
    obtain ⟨vv1, h⟩ := h
    refine ow_imul (pc' := 23) dX12_waysTo_22 vv1 rfl ?_
    refine ow_iload (pc' := 25) (x := l4) dX12_waysTo_23 rfl rfl ?_
    obtain ⟨vv2, h⟩ := h
    refine ow_iadd (pc' := 26) dX12_waysTo_25 vv2 rfl ?_
    obtain ⟨vv3, h⟩ := h
    refine ow_laload3 (pc' := 27) (val := M 93 ((9 * l1) + l4)) dX12_waysTo_26 rfl (Eq.mpr (er93 _) vv3) (ea93 _) ?_
    obtain ⟨vv4, h⟩ := h
    refine ow_ladd (pc' := 28) dX12_waysTo_27 vv4 rfl ?_
    refine ow_lstore_n (pc' := 29) (lv' := [(0, (3, 83)), (1, (0, l1)), (2, (1, l2 + (M 93 ((9 * l1) + l4)))), (4, (0, l4))]) dX12_waysTo_28 rfl rfl rfl ?_
    obtain ⟨vv5, h⟩ := h
    refine ow_iinc (pc' := 32) (lv' := [(0, (3, 83)), (1, (0, l1)), (2, (1, l2 + (M 93 ((9 * l1) + l4)))), (4, (0, l4 + 1))]) dX12_waysTo_29 rfl vv5 rfl rfl rfl ?_
    refine ow_goto (tg := 5) dX12_waysTo_32 rfl ?_
    exact h
theorem fX12_waysTo {C : ow_C} {A L N : Int} {d : Nat} {M : ow_M} {K : Int → ow_M → Prop} {l1 : Int} (h : ow_At C (EM A L N) d mX12_waysTo 5 [(0, (3, 83)), (1, (0, l1)), (2, (1, 0)), (4, (0, 0))] [] (0, 0) M K) : ow_Sp C (EM A L N) d mX12_waysTo (0, 0) [(3, 83), (0, l1)] M K := ow_enter (by decide +kernel) rfl rfl (cX12_waysTo_0 h)
set_option maxRecDepth 20000 in
theorem cX12_waysOf_0 {C : ow_C} {A L N : Int} {d : Nat} {M : ow_M} {K : Int → ow_M → Prop} {l1 l2 l3 : Int} (h : ow_Sp C (EM A L N) d mX12_begin (0, 0) [(3, 83), (0, l1)] M (fun r1 N1 => ow_At C (EM A L N) (d + 1) mX12_waysOf 8 [(0, (3, 83)), (2, (0, l2)), (3, (0, l3)), (4, (0, 0))] [] (0, 0) N1 K)) : ow_At C (EM A L N) (d + 1) mX12_waysOf 0 [(0, (3, 83)), (1, (0, l1)), (2, (0, l2)), (3, (0, l3))] [] (0, 0) M K := by
  refine ow_aload_n (pc' := 1) (x := 83) dX12_waysOf_0 rfl rfl ?_
  refine ow_iload_n (pc' := 2) (x := l1) dX12_waysOf_1 rfl rfl ?_
  refine ow_callVv (z := mX12_begin) (n := 1) (k := 12) (vs := [(0, l1)]) (x := 83) (st := []) (pc' := 5) (b1 := (0, 0)) (b2 := (0, 0)) dX12_waysOf_2 lRX12_305 kX12_begin iX12_begin rfl rfl rfl rfl rfl rfl (of_eq_true eo83) (ow_Sp.mono h (fun r1 N1 h => ?_))
  refine ow_iconst (pc' := 6) (n := 0) dX12_waysOf_5 rfl rfl ?_
  refine ow_istore (pc' := 8) (lv' := [(0, (3, 83)), (1, (0, l1)), (2, (0, l2)), (3, (0, l3)), (4, (0, 0))]) dX12_waysOf_6 rfl rfl rfl ?_
  refine ow_sub (lv' := [(0, (3, 83)), (2, (0, l2)), (3, (0, l3)), (4, (0, 0))]) [0, 2, 3, 4] rfl ?_
  exact h
set_option maxRecDepth 20000 in
theorem cX12_waysOf_8 {C : ow_C} {A L N : Int} {d : Nat} {M : ow_M} {K : Int → ow_M → Prop} {l2 l3 l4 : Int} (h : (l3 ≤ l4 → ow_Sp C (EM A L N) d mX12_waysTo (0, 0) [(3, 83), (0, l2)] M (fun r1 N1 => K r1 N1)) ∧ (l4 < l3 → ow_Sp C (EM A L N) d mX12_goOn (0, 0) [(3, 83), (0, l4)] M (fun r2 N2 => ow_I (l4 + 1) ∧ ow_At C (EM A L N) (d + 1) mX12_waysOf 8 [(0, (3, 83)), (2, (0, l2)), (3, (0, l3)), (4, (0, l4 + 1))] [] (0, 0) N2 K))) : ow_At C (EM A L N) (d + 1) mX12_waysOf 8 [(0, (3, 83)), (2, (0, l2)), (3, (0, l3)), (4, (0, l4))] [] (0, 0) M K := by
  refine ow_iload (pc' := 10) (x := l4) dX12_waysOf_8 rfl rfl ?_
  refine ow_iload_n (pc' := 11) (x := l3) dX12_waysOf_10 rfl rfl ?_
  refine ow_icmpge (pc' := 14) (tg := 26) dX12_waysOf_11 rfl rfl (fun hc => ?_) (fun hc => ?_)
  · have h := h.1 hc
    refine ow_aload_n (pc' := 27) (x := 83) dX12_waysOf_26 rfl rfl ?_
    refine ow_iload_n (pc' := 28) (x := l2) dX12_waysOf_27 rfl rfl ?_
    refine ow_callVp (z := mX12_waysTo) (n := 1) (k := 12) (vs := [(0, l2)]) (x := 83) (st := []) (pc' := 31) (b1 := (0, 0)) (b2 := (0, 0)) dX12_waysOf_28 lRX12_311 kX12_waysTo iX12_waysTo rfl rfl rfl rfl rfl rfl (of_eq_true eo83) (ow_Sp.mono h (fun r1 N1 h => ?_))
    exact ow_lret dX12_waysOf_31 rfl rfl h
  · have h := h.2 hc
    refine ow_aload_n (pc' := 15) (x := 83) dX12_waysOf_14 rfl rfl ?_
    refine ow_iload (pc' := 17) (x := l4) dX12_waysOf_15 rfl rfl ?_
    refine ow_callVv (z := mX12_goOn) (n := 1) (k := 12) (vs := [(0, l4)]) (x := 83) (st := []) (pc' := 20) (b1 := (0, 0)) (b2 := (0, 0)) dX12_waysOf_17 lRX12_308 kX12_goOn iX12_goOn rfl rfl rfl rfl rfl rfl (of_eq_true eo83) (ow_Sp.mono h (fun r2 N2 h => ?_))
    obtain ⟨vv1, h⟩ := h
    refine ow_iinc (pc' := 23) (lv' := [(0, (3, 83)), (2, (0, l2)), (3, (0, l3)), (4, (0, l4 + 1))]) dX12_waysOf_20 rfl vv1 rfl rfl rfl ?_
    refine ow_goto (tg := 8) dX12_waysOf_23 rfl ?_
    exact h
theorem fX12_waysOf {C : ow_C} {A L N : Int} {d : Nat} {M : ow_M} {K : Int → ow_M → Prop} {l1 l2 l3 : Int} (h : ow_Sp C (EM A L N) d mX12_begin (0, 0) [(3, 83), (0, l1)] M (fun r1 N1 => ow_At C (EM A L N) (d + 1) mX12_waysOf 8 [(0, (3, 83)), (2, (0, l2)), (3, (0, l3)), (4, (0, 0))] [] (0, 0) N1 K)) : ow_Sp C (EM A L N) (d + 1) mX12_waysOf (0, 0) [(3, 83), (0, l1), (0, l2), (0, l3)] M K := ow_enter (by decide +kernel) rfl rfl (cX12_waysOf_0 h)
set_option maxRecDepth 20000 in
theorem cX12_areAsked_0 {C : ow_C} {A L N : Int} {d : Nat} {M : ow_M} {K : Int → ow_M → Prop} {l1 l2 l3 : Int} (h : ow_Sp C (EM A L N) d mX12_isWord0 (0, 0) [(3, 83), (0, l1)] M (fun r1 N1 => (r1 = 0 → K 0 N1) ∧ (r1 ≠ 0 → ow_Sp C (EM A L N) d mX12_isWord0 (0, 0) [(3, 83), (0, l2)] N1 (fun r2 N2 => (r2 = 0 → K 0 N2) ∧ (r2 ≠ 0 → ow_Sp C (EM A L N) d mX12_isIn (0, 0) [(0, l3), (0, 0), (0, 8)] N2 (fun r3 N3 => (r3 = 0 → K 0 N3) ∧ (r3 ≠ 0 → K 1 N3))))))) : ow_At C (EM A L N) (d + 1) mX12_areAsked 0 [(0, (3, 83)), (1, (0, l1)), (2, (0, l2)), (3, (0, l3))] [] (0, 0) M K := by
  refine ow_aload_n (pc' := 1) (x := 83) dX12_areAsked_0 rfl rfl ?_
  refine ow_iload_n (pc' := 2) (x := l1) dX12_areAsked_1 rfl rfl ?_
  refine ow_callVp (z := mX12_isWord0) (n := 1) (k := 12) (vs := [(0, l1)]) (x := 83) (st := []) (pc' := 5) (b1 := (0, 0)) (b2 := (0, 0)) dX12_areAsked_2 lRX12_102 kX12_isWord0 iX12_isWord0 rfl rfl rfl rfl rfl rfl (of_eq_true eo83) (ow_Sp.mono h (fun r1 N1 h => ?_))
  refine ow_ifeq (pc' := 8) (tg := 30) dX12_areAsked_5 rfl rfl (fun hc => ?_) (fun hc => ?_)
  · have h := h.1 hc
    refine ow_iconst (pc' := 31) (n := 0) dX12_areAsked_30 rfl rfl ?_
    exact ow_zret dX12_areAsked_31 rfl rfl (Or.inl rfl) h
  · have h := h.2 hc
    refine ow_aload_n (pc' := 9) (x := 83) dX12_areAsked_8 rfl rfl ?_
    refine ow_iload_n (pc' := 10) (x := l2) dX12_areAsked_9 rfl rfl ?_
    refine ow_callVp (z := mX12_isWord0) (n := 1) (k := 12) (vs := [(0, l2)]) (x := 83) (st := []) (pc' := 13) (b1 := (0, 0)) (b2 := (0, 0)) dX12_areAsked_10 lRX12_102 kX12_isWord0 iX12_isWord0 rfl rfl rfl rfl rfl rfl (of_eq_true eo83) (ow_Sp.mono h (fun r2 N2 h => ?_))
    refine ow_ifeq (pc' := 16) (tg := 30) dX12_areAsked_13 rfl rfl (fun hc => ?_) (fun hc => ?_)
    · have h := h.1 hc
      refine ow_iconst (pc' := 31) (n := 0) dX12_areAsked_30 rfl rfl ?_
      exact ow_zret dX12_areAsked_31 rfl rfl (Or.inl rfl) h
    · have h := h.2 hc
      refine ow_iload_n (pc' := 17) (x := l3) dX12_areAsked_16 rfl rfl ?_
      refine ow_iconst (pc' := 18) (n := 0) dX12_areAsked_17 rfl rfl ?_
      refine ow_bipush (pc' := 20) (n := 8) dX12_areAsked_18 rfl rfl ?_
      refine ow_callSp (z := mX12_isIn) (n := 3) (vs := [(0, l3), (0, 0), (0, 8)]) (st := []) (pc' := 23) (b1 := (0, 0)) (b2 := (0, 0)) dX12_areAsked_20 lRX12_91 kX12_isIn zX12_isIn rfl rfl rfl rfl rfl rfl (ow_Sp.mono h (fun r3 N3 h => ?_))
      refine ow_ifeq (pc' := 26) (tg := 30) dX12_areAsked_23 rfl rfl (fun hc => ?_) (fun hc => ?_)
      · have h := h.1 hc
        refine ow_iconst (pc' := 31) (n := 0) dX12_areAsked_30 rfl rfl ?_
        exact ow_zret dX12_areAsked_31 rfl rfl (Or.inl rfl) h
      · have h := h.2 hc
        refine ow_iconst (pc' := 27) (n := 1) dX12_areAsked_26 rfl rfl ?_
        refine ow_goto (tg := 31) dX12_areAsked_27 rfl ?_
        exact ow_zret dX12_areAsked_31 rfl rfl (Or.inr rfl) h
theorem fX12_areAsked {C : ow_C} {A L N : Int} {d : Nat} {M : ow_M} {K : Int → ow_M → Prop} {l1 l2 l3 : Int} (h : ow_Sp C (EM A L N) d mX12_isWord0 (0, 0) [(3, 83), (0, l1)] M (fun r1 N1 => (r1 = 0 → K 0 N1) ∧ (r1 ≠ 0 → ow_Sp C (EM A L N) d mX12_isWord0 (0, 0) [(3, 83), (0, l2)] N1 (fun r2 N2 => (r2 = 0 → K 0 N2) ∧ (r2 ≠ 0 → ow_Sp C (EM A L N) d mX12_isIn (0, 0) [(0, l3), (0, 0), (0, 8)] N2 (fun r3 N3 => (r3 = 0 → K 0 N3) ∧ (r3 ≠ 0 → K 1 N3))))))) : ow_Sp C (EM A L N) (d + 1) mX12_areAsked (0, 0) [(3, 83), (0, l1), (0, l2), (0, l3)] M K := ow_enter (by decide +kernel) rfl rfl (cX12_areAsked_0 h)
set_option maxRecDepth 20000 in
theorem cX12_isFree_0 {C : ow_C} {A L N : Int} {d : Nat} {M : ow_M} {K : Int → ow_M → Prop} {l1 l2 l3 : Int} (h : ∀ N1, N1 = ow_up M 83 27 ((-1)) → ∀ N2, N2 = ow_up N1 83 28 ((-1)) → ow_At C (EM A L N) (d + 1) mX12_isFree 13 [(0, (3, 83)), (1, (0, l1)), (2, (0, l2)), (3, (0, l3)), (4, (0, 0))] [] (0, 0) N2 K) : ow_At C (EM A L N) (d + 1) mX12_isFree 0 [(0, (3, 83)), (1, (0, l1)), (2, (0, l2)), (3, (0, l3))] [] (0, 0) M K := by
  refine ow_aload_n (pc' := 1) (x := 83) dX12_isFree_0 rfl rfl ?_
  refine ow_iconst (pc' := 2) (n := (-1)) dX12_isFree_1 rfl rfl ?_
  refine ow_putf2 (pc' := 5) (t := 0) (ji := 27) dX12_isFree_2 fRX12_274 rfl rfl rfl rfl (of_eq_true eo83) (of_eq_true en83_27) (fun hz => absurd hz (by decide)) (fun N1 eN1 => ?_)
  have h := h N1 eN1
  refine ow_aload_n (pc' := 6) (x := 83) dX12_isFree_5 rfl rfl ?_
  refine ow_iconst (pc' := 7) (n := (-1)) dX12_isFree_6 rfl rfl ?_
  refine ow_putf2 (pc' := 10) (t := 0) (ji := 28) dX12_isFree_7 fRX12_277 rfl rfl rfl rfl (of_eq_true eo83) (of_eq_true en83_28) (fun hz => absurd hz (by decide)) (fun N2 eN2 => ?_)
  have h := h N2 eN2
  refine ow_iconst (pc' := 11) (n := 0) dX12_isFree_10 rfl rfl ?_
  refine ow_istore (pc' := 13) (lv' := [(0, (3, 83)), (1, (0, l1)), (2, (0, l2)), (3, (0, l3)), (4, (0, 0))]) dX12_isFree_11 rfl rfl rfl ?_
  exact h
set_option maxRecDepth 20000 in
theorem cX12_isFree_13 {C : ow_C} {A L N : Int} {d : Nat} {M : ow_M} {K : Int → ow_M → Prop} {l1 l2 l3 l4 : Int} (h : (14400 ≤ l4 → ow_Sp C (EM A L N) d mX12_waysOf (0, 0) [(3, 83), (0, l1), (0, l2), (0, l3)] M (fun r1 N1 => ((ow_lcmp r1 0) ≤ 0 → K 0 N1) ∧ (0 < (ow_lcmp r1 0) → K 1 N1))) ∧ (l4 < 14400 → (0 ≤ l4 ∧ l4 < 14400) ∧ ∀ N2, N2 = ow_up M 92 l4 ((-1)) → ow_I (l4 + 1) ∧ ow_At C (EM A L N) (d + 1) mX12_isFree 13 [(0, (3, 83)), (1, (0, l1)), (2, (0, l2)), (3, (0, l3)), (4, (0, l4 + 1))] [] (0, 0) N2 K)) : ow_At C (EM A L N) (d + 1) mX12_isFree 13 [(0, (3, 83)), (1, (0, l1)), (2, (0, l2)), (3, (0, l3)), (4, (0, l4))] [] (0, 0) M K := by
  refine ow_iload (pc' := 15) (x := l4) dX12_isFree_13 rfl rfl ?_
  refine ow_sipush (pc' := 18) (n := 14400) dX12_isFree_15 rfl rfl ?_
  refine ow_icmpge (pc' := 21) (tg := 35) dX12_isFree_18 rfl rfl (fun hc => ?_) (fun hc => ?_)
  · have h := h.1 hc
    refine ow_aload_n (pc' := 36) (x := 83) dX12_isFree_35 rfl rfl ?_
    refine ow_iload_n (pc' := 37) (x := l1) dX12_isFree_36 rfl rfl ?_
    refine ow_iload_n (pc' := 38) (x := l2) dX12_isFree_37 rfl rfl ?_
    refine ow_iload_n (pc' := 39) (x := l3) dX12_isFree_38 rfl rfl ?_
    refine ow_callVp (z := mX12_waysOf) (n := 3) (k := 12) (vs := [(0, l1), (0, l2), (0, l3)]) (x := 83) (st := []) (pc' := 42) (b1 := (0, 0)) (b2 := (0, 0)) dX12_isFree_39 lRX12_315 kX12_waysOf iX12_waysOf rfl rfl rfl rfl rfl rfl (of_eq_true eo83) (ow_Sp.mono h (fun r1 N1 h => ?_))
    refine ow_lconst (pc' := 43) (i := 0) dX12_isFree_42 rfl rfl ?_
    refine ow_Lcmp (pc' := 44) dX12_isFree_43 rfl ?_
    refine ow_ifle (pc' := 47) (tg := 51) dX12_isFree_44 rfl rfl (fun hc => ?_) (fun hc => ?_)
    · have h := h.1 hc
      refine ow_iconst (pc' := 52) (n := 0) dX12_isFree_51 rfl rfl ?_
      exact ow_zret dX12_isFree_52 rfl rfl (Or.inl rfl) h
    · have h := h.2 hc
      refine ow_iconst (pc' := 48) (n := 1) dX12_isFree_47 rfl rfl ?_
      refine ow_goto (tg := 52) dX12_isFree_48 rfl ?_
      exact ow_zret dX12_isFree_52 rfl rfl (Or.inr rfl) h
  · have h := h.2 hc
    refine ow_aload_n (pc' := 22) (x := 83) dX12_isFree_21 rfl rfl ?_
    refine ow_getf3 (pc' := 25) (t := 3) (ji := 29) (val := 92) dX12_isFree_22 fRX12_43 rfl rfl rfl (of_eq_true eo83) eg83_29 ?_
    refine ow_iload (pc' := 27) (x := l4) dX12_isFree_25 rfl rfl ?_
    refine ow_iconst (pc' := 28) (n := (-1)) dX12_isFree_27 rfl rfl ?_
    obtain ⟨vv1, h⟩ := h
    refine ow_iastore2 (pc' := 29) dX12_isFree_28 rfl (Eq.mpr (er92 _) vv1) (of_eq_true (en92 _)) (fun N2 eN2 => ?_)
    have h := h N2 eN2
    obtain ⟨vv2, h⟩ := h
    refine ow_iinc (pc' := 32) (lv' := [(0, (3, 83)), (1, (0, l1)), (2, (0, l2)), (3, (0, l3)), (4, (0, l4 + 1))]) dX12_isFree_29 rfl vv2 rfl rfl rfl ?_
    refine ow_goto (tg := 13) dX12_isFree_32 rfl ?_
    exact h
theorem fX12_isFree {C : ow_C} {A L N : Int} {d : Nat} {M : ow_M} {K : Int → ow_M → Prop} {l1 l2 l3 : Int} (h : ∀ N1, N1 = ow_up M 83 27 ((-1)) → ∀ N2, N2 = ow_up N1 83 28 ((-1)) → ow_At C (EM A L N) (d + 1) mX12_isFree 13 [(0, (3, 83)), (1, (0, l1)), (2, (0, l2)), (3, (0, l3)), (4, (0, 0))] [] (0, 0) N2 K) : ow_Sp C (EM A L N) (d + 1) mX12_isFree (0, 0) [(3, 83), (0, l1), (0, l2), (0, l3)] M K := ow_enter (by decide +kernel) rfl rfl (cX12_isFree_0 h)
set_option maxRecDepth 20000 in
theorem cX12_bars_0 {C : ow_C} {A L N : Int} {d : Nat} {M : ow_M} {K : Int → ow_M → Prop} {l1 l2 l3 : Int} (h : ow_Sp C (EM A L N) d mX12_areAsked (0, 0) [(3, 83), (0, l1), (0, l2), (0, l3)] M (fun r1 N1 => (r1 ≠ 0 → ow_Sp C (EM A L N) d mX12_rule (0, 0) [(3, 83)] N1 (fun r2 N2 => ow_Sp C (EM A L N) d mX12_waysOf (0, 0) [(3, 83), (0, l1), (0, l2), (0, l3)] N2 (fun r3 N3 => ((ow_lcmp r3 0) ≤ 0 → ow_Sp C (EM A L N) d mX12_isFree (0, 0) [(3, 83), (0, l1), (0, l2), (0, l3)] N3 (fun r4 N4 => (r4 = 0 → K 1 N4) ∧ (r4 ≠ 0 → K 2 N4))) ∧ (0 < (ow_lcmp r3 0) → K 0 N3)))) ∧ (r1 = 0 → K ((-1)) N1))) : ow_At C (EM A L N) (d + 1) mX12_bars 0 [(0, (3, 83)), (1, (0, l1)), (2, (0, l2)), (3, (0, l3))] [] (0, 0) M K := by
  refine ow_aload_n (pc' := 1) (x := 83) dX12_bars_0 rfl rfl ?_
  refine ow_iload_n (pc' := 2) (x := l1) dX12_bars_1 rfl rfl ?_
  refine ow_iload_n (pc' := 3) (x := l2) dX12_bars_2 rfl rfl ?_
  refine ow_iload_n (pc' := 4) (x := l3) dX12_bars_3 rfl rfl ?_
  refine ow_callVp (z := mX12_areAsked) (n := 3) (k := 12) (vs := [(0, l1), (0, l2), (0, l3)]) (x := 83) (st := []) (pc' := 7) (b1 := (0, 0)) (b2 := (0, 0)) dX12_bars_4 lRX12_318 kX12_areAsked iX12_areAsked rfl rfl rfl rfl rfl rfl (of_eq_true eo83) (ow_Sp.mono h (fun r1 N1 h => ?_))
  refine ow_ifne (pc' := 10) (tg := 12) dX12_bars_7 rfl rfl (fun hc => ?_) (fun hc => ?_)
  · have h := h.1 hc
    refine ow_aload_n (pc' := 13) (x := 83) dX12_bars_12 rfl rfl ?_
    refine ow_callVv (z := mX12_rule) (n := 0) (k := 12) (vs := []) (x := 83) (st := []) (pc' := 16) (b1 := (0, 0)) (b2 := (0, 0)) dX12_bars_13 lRX12_321 kX12_rule iX12_rule rfl rfl rfl rfl rfl rfl (of_eq_true eo83) (ow_Sp.mono h (fun r2 N2 h => ?_))
    refine ow_aload_n (pc' := 17) (x := 83) dX12_bars_16 rfl rfl ?_
    refine ow_iload_n (pc' := 18) (x := l1) dX12_bars_17 rfl rfl ?_
    refine ow_iload_n (pc' := 19) (x := l2) dX12_bars_18 rfl rfl ?_
    refine ow_iload_n (pc' := 20) (x := l3) dX12_bars_19 rfl rfl ?_
    refine ow_callVp (z := mX12_waysOf) (n := 3) (k := 12) (vs := [(0, l1), (0, l2), (0, l3)]) (x := 83) (st := []) (pc' := 23) (b1 := (0, 0)) (b2 := (0, 0)) dX12_bars_20 lRX12_315 kX12_waysOf iX12_waysOf rfl rfl rfl rfl rfl rfl (of_eq_true eo83) (ow_Sp.mono h (fun r3 N3 h => ?_))
    refine ow_lconst (pc' := 24) (i := 0) dX12_bars_23 rfl rfl ?_
    refine ow_Lcmp (pc' := 25) dX12_bars_24 rfl ?_
    refine ow_ifle (pc' := 28) (tg := 30) dX12_bars_25 rfl rfl (fun hc => ?_) (fun hc => ?_)
    · have h := h.1 hc
      refine ow_aload_n (pc' := 31) (x := 83) dX12_bars_30 rfl rfl ?_
      refine ow_iload_n (pc' := 32) (x := l1) dX12_bars_31 rfl rfl ?_
      refine ow_iload_n (pc' := 33) (x := l2) dX12_bars_32 rfl rfl ?_
      refine ow_iload_n (pc' := 34) (x := l3) dX12_bars_33 rfl rfl ?_
      refine ow_callVp (z := mX12_isFree) (n := 3) (k := 12) (vs := [(0, l1), (0, l2), (0, l3)]) (x := 83) (st := []) (pc' := 37) (b1 := (0, 0)) (b2 := (0, 0)) dX12_bars_34 lRX12_324 kX12_isFree iX12_isFree rfl rfl rfl rfl rfl rfl (of_eq_true eo83) (ow_Sp.mono h (fun r4 N4 h => ?_))
      refine ow_ifeq (pc' := 40) (tg := 44) dX12_bars_37 rfl rfl (fun hc => ?_) (fun hc => ?_)
      · have h := h.1 hc
        refine ow_iconst (pc' := 45) (n := 1) dX12_bars_44 rfl rfl ?_
        exact ow_iret dX12_bars_45 rfl rfl h
      · have h := h.2 hc
        refine ow_iconst (pc' := 41) (n := 2) dX12_bars_40 rfl rfl ?_
        refine ow_goto (tg := 45) dX12_bars_41 rfl ?_
        exact ow_iret dX12_bars_45 rfl rfl h
    · have h := h.2 hc
      refine ow_iconst (pc' := 29) (n := 0) dX12_bars_28 rfl rfl ?_
      exact ow_iret dX12_bars_29 rfl rfl h
  · have h := h.2 hc
    refine ow_iconst (pc' := 11) (n := (-1)) dX12_bars_10 rfl rfl ?_
    exact ow_iret dX12_bars_11 rfl rfl h
theorem fX12_bars {C : ow_C} {A L N : Int} {d : Nat} {M : ow_M} {K : Int → ow_M → Prop} {l1 l2 l3 : Int} (h : ow_Sp C (EM A L N) d mX12_areAsked (0, 0) [(3, 83), (0, l1), (0, l2), (0, l3)] M (fun r1 N1 => (r1 ≠ 0 → ow_Sp C (EM A L N) d mX12_rule (0, 0) [(3, 83)] N1 (fun r2 N2 => ow_Sp C (EM A L N) d mX12_waysOf (0, 0) [(3, 83), (0, l1), (0, l2), (0, l3)] N2 (fun r3 N3 => ((ow_lcmp r3 0) ≤ 0 → ow_Sp C (EM A L N) d mX12_isFree (0, 0) [(3, 83), (0, l1), (0, l2), (0, l3)] N3 (fun r4 N4 => (r4 = 0 → K 1 N4) ∧ (r4 ≠ 0 → K 2 N4))) ∧ (0 < (ow_lcmp r3 0) → K 0 N3)))) ∧ (r1 = 0 → K ((-1)) N1))) : ow_Sp C (EM A L N) (d + 1) mX12_bars (0, 0) [(3, 83), (0, l1), (0, l2), (0, l3)] M K := ow_enter (by decide +kernel) rfl rfl (cX12_bars_0 h)
set_option maxRecDepth 20000 in
theorem cX12_ways_0 {C : ow_C} {A L N : Int} {d : Nat} {M : ow_M} {K : Int → ow_M → Prop} {l1 l2 l3 : Int} (h : ow_Sp C (EM A L N) d mX12_areAsked (0, 0) [(3, 83), (0, l1), (0, l2), (0, l3)] M (fun r1 N1 => (r1 ≠ 0 → ow_Sp C (EM A L N) d mX12_rule (0, 0) [(3, 83)] N1 (fun r2 N2 => ow_Sp C (EM A L N) d mX12_waysOf (0, 0) [(3, 83), (0, l1), (0, l2), (0, l3)] N2 (fun r3 N3 => K r3 N3))) ∧ (r1 = 0 → K ((-1)) N1))) : ow_At C (EM A L N) (d + 1) mX12_ways 0 [(0, (3, 83)), (1, (0, l1)), (2, (0, l2)), (3, (0, l3))] [] (0, 0) M K := by
  refine ow_aload_n (pc' := 1) (x := 83) dX12_ways_0 rfl rfl ?_
  refine ow_iload_n (pc' := 2) (x := l1) dX12_ways_1 rfl rfl ?_
  refine ow_iload_n (pc' := 3) (x := l2) dX12_ways_2 rfl rfl ?_
  refine ow_iload_n (pc' := 4) (x := l3) dX12_ways_3 rfl rfl ?_
  refine ow_callVp (z := mX12_areAsked) (n := 3) (k := 12) (vs := [(0, l1), (0, l2), (0, l3)]) (x := 83) (st := []) (pc' := 7) (b1 := (0, 0)) (b2 := (0, 0)) dX12_ways_4 lRX12_318 kX12_areAsked iX12_areAsked rfl rfl rfl rfl rfl rfl (of_eq_true eo83) (ow_Sp.mono h (fun r1 N1 h => ?_))
  refine ow_ifne (pc' := 10) (tg := 14) dX12_ways_7 rfl rfl (fun hc => ?_) (fun hc => ?_)
  · have h := h.1 hc
    refine ow_aload_n (pc' := 15) (x := 83) dX12_ways_14 rfl rfl ?_
    refine ow_callVv (z := mX12_rule) (n := 0) (k := 12) (vs := []) (x := 83) (st := []) (pc' := 18) (b1 := (0, 0)) (b2 := (0, 0)) dX12_ways_15 lRX12_321 kX12_rule iX12_rule rfl rfl rfl rfl rfl rfl (of_eq_true eo83) (ow_Sp.mono h (fun r2 N2 h => ?_))
    refine ow_aload_n (pc' := 19) (x := 83) dX12_ways_18 rfl rfl ?_
    refine ow_iload_n (pc' := 20) (x := l1) dX12_ways_19 rfl rfl ?_
    refine ow_iload_n (pc' := 21) (x := l2) dX12_ways_20 rfl rfl ?_
    refine ow_iload_n (pc' := 22) (x := l3) dX12_ways_21 rfl rfl ?_
    refine ow_callVp (z := mX12_waysOf) (n := 3) (k := 12) (vs := [(0, l1), (0, l2), (0, l3)]) (x := 83) (st := []) (pc' := 25) (b1 := (0, 0)) (b2 := (0, 0)) dX12_ways_22 lRX12_315 kX12_waysOf iX12_waysOf rfl rfl rfl rfl rfl rfl (of_eq_true eo83) (ow_Sp.mono h (fun r3 N3 h => ?_))
    exact ow_lret dX12_ways_25 rfl rfl h
  · have h := h.2 hc
    refine ow_ldc2 (pc' := 13) (n := (-1)) dX12_ways_10 cRX12_327 rfl rfl ?_
    exact ow_lret dX12_ways_13 rfl rfl h
theorem fX12_ways {C : ow_C} {A L N : Int} {d : Nat} {M : ow_M} {K : Int → ow_M → Prop} {l1 l2 l3 : Int} (h : ow_Sp C (EM A L N) d mX12_areAsked (0, 0) [(3, 83), (0, l1), (0, l2), (0, l3)] M (fun r1 N1 => (r1 ≠ 0 → ow_Sp C (EM A L N) d mX12_rule (0, 0) [(3, 83)] N1 (fun r2 N2 => ow_Sp C (EM A L N) d mX12_waysOf (0, 0) [(3, 83), (0, l1), (0, l2), (0, l3)] N2 (fun r3 N3 => K r3 N3))) ∧ (r1 = 0 → K ((-1)) N1))) : ow_Sp C (EM A L N) (d + 1) mX12_ways (0, 0) [(3, 83), (0, l1), (0, l2), (0, l3)] M K := ow_enter (by decide +kernel) rfl rfl (cX12_ways_0 h)
set_option maxRecDepth 20000 in
theorem cX12_isLed_0 {C : ow_C} {A L N : Int} {d : Nat} {M : ow_M} {K : Int → ow_M → Prop} {l1 l2 l3 : Int} (h : ow_At C (EM A L N) (d + 1) mX12_isLed 3 [(0, (3, 83)), (1, (0, l1)), (2, (0, l2)), (3, (0, l3)), (4, (0, 0))] [] (0, 0) M K) : ow_At C (EM A L N) (d + 1) mX12_isLed 0 [(0, (3, 83)), (1, (0, l1)), (2, (0, l2)), (3, (0, l3))] [] (0, 0) M K := by
  refine ow_iconst (pc' := 1) (n := 0) dX12_isLed_0 rfl rfl ?_
  refine ow_istore (pc' := 3) (lv' := [(0, (3, 83)), (1, (0, l1)), (2, (0, l2)), (3, (0, l3)), (4, (0, 0))]) dX12_isLed_1 rfl rfl rfl ?_
  exact h
set_option maxRecDepth 20000 in
theorem cX12_isLed_3 {C : ow_C} {A L N : Int} {d : Nat} {M : ow_M} {K : Int → ow_M → Prop} {l1 l2 l3 l4 : Int} (h : (L ≤ l4 → K 0 M) ∧ (l4 < L → ow_At C (EM A L N) (d + 1) mX12_isLed 15 [(0, (3, 83)), (1, (0, l1)), (2, (0, l2)), (3, (0, l3)), (4, (0, l4)), (5, (0, 0))] [] (0, 0) M K)) : ow_At C (EM A L N) (d + 1) mX12_isLed 3 [(0, (3, 83)), (1, (0, l1)), (2, (0, l2)), (3, (0, l3)), (4, (0, l4))] [] (0, 0) M K := by
  refine ow_iload (pc' := 5) (x := l4) dX12_isLed_3 rfl rfl ?_
  refine ow_aload_n (pc' := 6) (x := 83) dX12_isLed_5 rfl rfl ?_
  refine ow_getf3 (pc' := 9) (t := 0) (ji := 3) (val := L) dX12_isLed_6 fRX12_81 rfl rfl rfl (of_eq_true eo83) eg83_3 ?_
  refine ow_icmpge (pc' := 12) (tg := 87) dX12_isLed_9 rfl rfl (fun hc => ?_) (fun hc => ?_)
  · have h := h.1 hc
    refine ow_iconst (pc' := 88) (n := 0) dX12_isLed_87 rfl rfl ?_
    exact ow_zret dX12_isLed_88 rfl rfl (Or.inl rfl) h
  · have h := h.2 hc
    refine ow_iconst (pc' := 13) (n := 0) dX12_isLed_12 rfl rfl ?_
    refine ow_istore (pc' := 15) (lv' := [(0, (3, 83)), (1, (0, l1)), (2, (0, l2)), (3, (0, l3)), (4, (0, l4)), (5, (0, 0))]) dX12_isLed_13 rfl rfl rfl ?_
    exact h
set_option maxRecDepth 20000 in
theorem cX12_isLed_15 {C : ow_C} {A L N : Int} {d : Nat} {M : ow_M} {K : Int → ow_M → Prop} {l1 l2 l3 l4 l5 : Int} (h : (A ≤ l5 → ow_I (l4 + 1) ∧ ow_At C (EM A L N) (d + 1) mX12_isLed 3 [(0, (3, 83)), (1, (0, l1)), (2, (0, l2)), (3, (0, l3)), (4, (0, l4 + 1))] [] (0, 0) M K) ∧ (l5 < A → ow_I (l3 - 1) ∧ ow_Sp C (EM A L N) d mX12_may (0, 0) [(3, 83), (0, l1), (0, l2), (0, l3 - 1), (0, l4), (0, l5)] M (fun r1 N1 => (r1 = 0 → ow_I (l5 + 1) ∧ ow_At C (EM A L N) (d + 1) mX12_isLed 15 [(0, (3, 83)), (1, (0, l1)), (2, (0, l2)), (3, (0, l3)), (4, (0, l4)), (5, (0, l5 + 1))] [] (0, 0) N1 K) ∧ (r1 ≠ 0 → ow_I (l1 + 1) ∧ ow_I (2304 * (l1 + 1)) ∧ ow_Sp C (EM A L N) d mX12_changed (0, 0) [(3, 83), (0, l2), (0, l4), (0, l5)] N1 (fun r2 N2 => ow_I (9 * r2) ∧ ow_I ((2304 * (l1 + 1)) + (9 * r2)) ∧ ow_I (((2304 * (l1 + 1)) + (9 * r2)) + l4) ∧ ow_I ((((2304 * (l1 + 1)) + (9 * r2)) + l4) + 1) ∧ (0 ≤ ((((2304 * (l1 + 1)) + (9 * r2)) + l4) + 1) ∧ ((((2304 * (l1 + 1)) + (9 * r2)) + l4) + 1) < 20736) ∧ ((N2 95 ((((2304 * (l1 + 1)) + (9 * r2)) + l4) + 1)) = 0 → ow_I (l5 + 1) ∧ ow_At C (EM A L N) (d + 1) mX12_isLed 15 [(0, (3, 83)), (1, (0, l1)), (2, (0, l2)), (3, (0, l3)), (4, (0, l4)), (5, (0, l5 + 1))] [] (0, 0) N2 K) ∧ ((N2 95 ((((2304 * (l1 + 1)) + (9 * r2)) + l4) + 1)) ≠ 0 → K 1 N2)))))) : ow_At C (EM A L N) (d + 1) mX12_isLed 15 [(0, (3, 83)), (1, (0, l1)), (2, (0, l2)), (3, (0, l3)), (4, (0, l4)), (5, (0, l5))] [] (0, 0) M K := by
  refine ow_iload (pc' := 17) (x := l5) dX12_isLed_15 rfl rfl ?_
  refine ow_aload_n (pc' := 18) (x := 83) dX12_isLed_17 rfl rfl ?_
  refine ow_getf3 (pc' := 21) (t := 0) (ji := 2) (val := A) dX12_isLed_18 fRX12_74 rfl rfl rfl (of_eq_true eo83) eg83_2 ?_
  refine ow_icmpge (pc' := 24) (tg := 81) dX12_isLed_21 rfl rfl (fun hc => ?_) (fun hc => ?_)
  · have h := h.1 hc
    obtain ⟨vv1, h⟩ := h
    refine ow_iinc (pc' := 84) (lv' := [(0, (3, 83)), (1, (0, l1)), (2, (0, l2)), (3, (0, l3)), (4, (0, l4 + 1)), (5, (0, l5))]) dX12_isLed_81 rfl vv1 rfl rfl rfl ?_
    refine ow_goto (tg := 3) dX12_isLed_84 rfl ?_
    refine ow_sub (lv' := [(0, (3, 83)), (1, (0, l1)), (2, (0, l2)), (3, (0, l3)), (4, (0, l4 + 1))]) [0, 1, 2, 3, 4] rfl ?_
    exact h
  · have h := h.2 hc
    refine ow_aload_n (pc' := 25) (x := 83) dX12_isLed_24 rfl rfl ?_
    refine ow_iload_n (pc' := 26) (x := l1) dX12_isLed_25 rfl rfl ?_
    refine ow_iload_n (pc' := 27) (x := l2) dX12_isLed_26 rfl rfl ?_
    refine ow_iload_n (pc' := 28) (x := l3) dX12_isLed_27 rfl rfl ?_
    refine ow_iconst (pc' := 29) (n := 1) dX12_isLed_28 rfl rfl ?_
    obtain ⟨vv2, h⟩ := h
    refine ow_isub (pc' := 30) dX12_isLed_29 vv2 rfl ?_
    refine ow_iload (pc' := 32) (x := l4) dX12_isLed_30 rfl rfl ?_
    refine ow_iload (pc' := 34) (x := l5) dX12_isLed_32 rfl rfl ?_
    refine ow_callVp (z := mX12_may) (n := 5) (k := 12) (vs := [(0, l1), (0, l2), (0, l3 - 1), (0, l4), (0, l5)]) (x := 83) (st := []) (pc' := 37) (b1 := (0, 0)) (b2 := (0, 0)) dX12_isLed_34 lRX12_329 kX12_may iX12_may rfl rfl rfl rfl rfl rfl (of_eq_true eo83) (ow_Sp.mono h (fun r1 N1 h => ?_))
    refine ow_ifeq (pc' := 40) (tg := 75) dX12_isLed_37 rfl rfl (fun hc => ?_) (fun hc => ?_)
    · have h := h.1 hc
      obtain ⟨vv3, h⟩ := h
      refine ow_iinc (pc' := 78) (lv' := [(0, (3, 83)), (1, (0, l1)), (2, (0, l2)), (3, (0, l3)), (4, (0, l4)), (5, (0, l5 + 1))]) dX12_isLed_75 rfl vv3 rfl rfl rfl ?_
      refine ow_goto (tg := 15) dX12_isLed_78 rfl ?_
      exact h
    · have h := h.2 hc
      refine ow_aload_n (pc' := 41) (x := 83) dX12_isLed_40 rfl rfl ?_
      refine ow_getf3 (pc' := 44) (t := 3) (ji := 32) (val := 95) dX12_isLed_41 fRX12_52 rfl rfl rfl (of_eq_true eo83) eg83_32 ?_
      refine ow_sipush (pc' := 47) (n := 2304) dX12_isLed_44 rfl rfl ?_
      refine ow_iload_n (pc' := 48) (x := l1) dX12_isLed_47 rfl rfl ?_
      refine ow_iconst (pc' := 49) (n := 1) dX12_isLed_48 rfl rfl ?_
      obtain ⟨vv4, h⟩ := h
      refine ow_iadd (pc' := 50) dX12_isLed_49 vv4 rfl ?_
      obtain ⟨vv5, h⟩ := h
      refine ow_imul (pc' := 51) dX12_isLed_50 vv5 rfl ?_
      refine ow_bipush (pc' := 53) (n := 9) dX12_isLed_51 rfl rfl ?_
      refine ow_aload_n (pc' := 54) (x := 83) dX12_isLed_53 rfl rfl ?_
      refine ow_iload_n (pc' := 55) (x := l2) dX12_isLed_54 rfl rfl ?_
      refine ow_iload (pc' := 57) (x := l4) dX12_isLed_55 rfl rfl ?_
      refine ow_iload (pc' := 59) (x := l5) dX12_isLed_57 rfl rfl ?_
      refine ow_callVp (z := mX12_changed) (n := 3) (k := 12) (vs := [(0, l2), (0, l4), (0, l5)]) (x := 83) (st := [(0, 9), (0, 2304 * (l1 + 1)), (3, 95)]) (pc' := 62) (b1 := (0, 0)) (b2 := (0, 0)) dX12_isLed_59 lRX12_302 kX12_changed iX12_changed rfl rfl rfl rfl rfl rfl (of_eq_true eo83) (ow_Sp.mono h (fun r2 N2 h => ?_))
      obtain ⟨vv6, h⟩ := h
      refine ow_imul (pc' := 63) dX12_isLed_62 vv6 rfl ?_
      obtain ⟨vv7, h⟩ := h
      refine ow_iadd (pc' := 64) dX12_isLed_63 vv7 rfl ?_
      refine ow_iload (pc' := 66) (x := l4) dX12_isLed_64 rfl rfl ?_
      obtain ⟨vv8, h⟩ := h
      refine ow_iadd (pc' := 67) dX12_isLed_66 vv8 rfl ?_
      refine ow_iconst (pc' := 68) (n := 1) dX12_isLed_67 rfl rfl ?_
      obtain ⟨vv9, h⟩ := h
      refine ow_iadd (pc' := 69) dX12_isLed_68 vv9 rfl ?_
      obtain ⟨vv10, h⟩ := h
      refine ow_baload3 (pc' := 70) (val := N2 95 ((((2304 * (l1 + 1)) + (9 * r2)) + l4) + 1)) dX12_isLed_69 rfl (Eq.mpr (er95 _) vv10) (ea95 _) ?_
      refine ow_ifeq (pc' := 73) (tg := 75) dX12_isLed_70 rfl rfl (fun hc => ?_) (fun hc => ?_)
      · have h := h.1 hc
        obtain ⟨vv11, h⟩ := h
        refine ow_iinc (pc' := 78) (lv' := [(0, (3, 83)), (1, (0, l1)), (2, (0, l2)), (3, (0, l3)), (4, (0, l4)), (5, (0, l5 + 1))]) dX12_isLed_75 rfl vv11 rfl rfl rfl ?_
        refine ow_goto (tg := 15) dX12_isLed_78 rfl ?_
        exact h
      · have h := h.2 hc
        refine ow_iconst (pc' := 74) (n := 1) dX12_isLed_73 rfl rfl ?_
        exact ow_zret dX12_isLed_74 rfl rfl (Or.inr rfl) h
theorem fX12_isLed {C : ow_C} {A L N : Int} {d : Nat} {M : ow_M} {K : Int → ow_M → Prop} {l1 l2 l3 : Int} (h : ow_At C (EM A L N) (d + 1) mX12_isLed 3 [(0, (3, 83)), (1, (0, l1)), (2, (0, l2)), (3, (0, l3)), (4, (0, 0))] [] (0, 0) M K) : ow_Sp C (EM A L N) (d + 1) mX12_isLed (0, 0) [(3, 83), (0, l1), (0, l2), (0, l3)] M K := ow_enter (by decide +kernel) rfl rfl (cX12_isLed_0 h)
set_option maxRecDepth 20000 in
theorem cX12_findCan_0 {C : ow_C} {A L N : Int} {d : Nat} {M : ow_M} {K : Int → ow_M → Prop} {l1 l2 : Int} (h : ow_At C (EM A L N) (d + 1) mX12_findCan 2 [(0, (3, 83)), (1, (0, l1)), (2, (0, l2)), (3, (0, 0))] [] (0, 0) M K) : ow_At C (EM A L N) (d + 1) mX12_findCan 0 [(0, (3, 83)), (1, (0, l1)), (2, (0, l2))] [] (0, 0) M K := by
  refine ow_iconst (pc' := 1) (n := 0) dX12_findCan_0 rfl rfl ?_
  refine ow_istore_n (pc' := 2) (lv' := [(0, (3, 83)), (1, (0, l1)), (2, (0, l2)), (3, (0, 0))]) dX12_findCan_1 rfl rfl rfl ?_
  exact h
set_option maxRecDepth 20000 in
theorem cX12_findCan_2 {C : ow_C} {A L N : Int} {d : Nat} {M : ow_M} {K : Int → ow_M → Prop} {l1 l2 l3 : Int} (h : (2304 ≤ l3 → ow_I (l2 - 1) ∧ ow_At C (EM A L N) (d + 1) mX12_findCan 44 [(0, (3, 83)), (3, (0, l2 - 1))] [] (0, 0) M K) ∧ (l3 < 2304 → ow_I (2304 * l2) ∧ ow_I ((2304 * l2) + l3) ∧ (9 : Int) ≠ 0 ∧ ow_I (Int.tdiv l3 9) ∧ ((Int.tdiv l3 9) ≠ l1 → (0 ≤ ((2304 * l2) + l3) ∧ ((2304 * l2) + l3) < 20736) ∧ ∀ N1, N1 = ow_up M 95 ((2304 * l2) + l3) 0 → ow_I (l3 + 1) ∧ ow_At C (EM A L N) (d + 1) mX12_findCan 2 [(0, (3, 83)), (1, (0, l1)), (2, (0, l2)), (3, (0, l3 + 1))] [] (0, 0) N1 K) ∧ ((Int.tdiv l3 9) = l1 → (0 ≤ ((2304 * l2) + l3) ∧ ((2304 * l2) + l3) < 20736) ∧ ∀ N2, N2 = ow_up M 95 ((2304 * l2) + l3) 1 → ow_I (l3 + 1) ∧ ow_At C (EM A L N) (d + 1) mX12_findCan 2 [(0, (3, 83)), (1, (0, l1)), (2, (0, l2)), (3, (0, l3 + 1))] [] (0, 0) N2 K))) : ow_At C (EM A L N) (d + 1) mX12_findCan 2 [(0, (3, 83)), (1, (0, l1)), (2, (0, l2)), (3, (0, l3))] [] (0, 0) M K := by
  refine ow_iload_n (pc' := 3) (x := l3) dX12_findCan_2 rfl rfl ?_
  refine ow_sipush (pc' := 6) (n := 2304) dX12_findCan_3 rfl rfl ?_
  refine ow_icmpge (pc' := 9) (tg := 40) dX12_findCan_6 rfl rfl (fun hc => ?_) (fun hc => ?_)
  · have h := h.1 hc
    refine ow_iload_n (pc' := 41) (x := l2) dX12_findCan_40 rfl rfl ?_
    refine ow_iconst (pc' := 42) (n := 1) dX12_findCan_41 rfl rfl ?_
    obtain ⟨vv1, h⟩ := h
    refine ow_isub (pc' := 43) dX12_findCan_42 vv1 rfl ?_
    refine ow_istore_n (pc' := 44) (lv' := [(0, (3, 83)), (1, (0, l1)), (2, (0, l2)), (3, (0, l2 - 1))]) dX12_findCan_43 rfl rfl rfl ?_
    refine ow_sub (lv' := [(0, (3, 83)), (3, (0, l2 - 1))]) [0, 3] rfl ?_
    exact h
  · have h := h.2 hc
    refine ow_aload_n (pc' := 10) (x := 83) dX12_findCan_9 rfl rfl ?_
    refine ow_getf3 (pc' := 13) (t := 3) (ji := 32) (val := 95) dX12_findCan_10 fRX12_52 rfl rfl rfl (of_eq_true eo83) eg83_32 ?_
    refine ow_sipush (pc' := 16) (n := 2304) dX12_findCan_13 rfl rfl ?_
    refine ow_iload_n (pc' := 17) (x := l2) dX12_findCan_16 rfl rfl ?_
    obtain ⟨vv2, h⟩ := h
    refine ow_imul (pc' := 18) dX12_findCan_17 vv2 rfl ?_
    refine ow_iload_n (pc' := 19) (x := l3) dX12_findCan_18 rfl rfl ?_
    obtain ⟨vv3, h⟩ := h
    refine ow_iadd (pc' := 20) dX12_findCan_19 vv3 rfl ?_
    refine ow_iload_n (pc' := 21) (x := l3) dX12_findCan_20 rfl rfl ?_
    refine ow_bipush (pc' := 23) (n := 9) dX12_findCan_21 rfl rfl ?_
    obtain ⟨w0, w, h⟩ := h
    refine ow_idiv (pc' := 24) dX12_findCan_23 w0 w rfl ?_
    refine ow_iload_n (pc' := 25) (x := l1) dX12_findCan_24 rfl rfl ?_
    refine ow_icmpne (pc' := 28) (tg := 32) dX12_findCan_25 rfl rfl (fun hc => ?_) (fun hc => ?_)
    · have h := h.1 hc
      refine ow_iconst (pc' := 33) (n := 0) dX12_findCan_32 rfl rfl ?_
      obtain ⟨vv4, h⟩ := h
      refine ow_bastore2 (pc' := 34) dX12_findCan_33 rfl (Eq.mpr (er95 _) vv4) (of_eq_true (en95 _)) (Or.inl rfl) (fun N1 eN1 => ?_)
      have h := h N1 eN1
      obtain ⟨vv5, h⟩ := h
      refine ow_iinc (pc' := 37) (lv' := [(0, (3, 83)), (1, (0, l1)), (2, (0, l2)), (3, (0, l3 + 1))]) dX12_findCan_34 rfl vv5 rfl rfl rfl ?_
      refine ow_goto (tg := 2) dX12_findCan_37 rfl ?_
      exact h
    · have h := h.2 hc
      refine ow_iconst (pc' := 29) (n := 1) dX12_findCan_28 rfl rfl ?_
      refine ow_goto (tg := 33) dX12_findCan_29 rfl ?_
      obtain ⟨vv6, h⟩ := h
      refine ow_bastore2 (pc' := 34) dX12_findCan_33 rfl (Eq.mpr (er95 _) vv6) (of_eq_true (en95 _)) (Or.inr rfl) (fun N2 eN2 => ?_)
      have h := h N2 eN2
      obtain ⟨vv7, h⟩ := h
      refine ow_iinc (pc' := 37) (lv' := [(0, (3, 83)), (1, (0, l1)), (2, (0, l2)), (3, (0, l3 + 1))]) dX12_findCan_34 rfl vv7 rfl rfl rfl ?_
      refine ow_goto (tg := 2) dX12_findCan_37 rfl ?_
      exact h
set_option maxRecDepth 20000 in
theorem cX12_findCan_44 {C : ow_C} {A L N : Int} {d : Nat} {M : ow_M} {K : Int → ow_M → Prop} {l3 : Int} (h : (l3 < 0 → K 0 M) ∧ (0 ≤ l3 → ow_At C (EM A L N) (d + 1) mX12_findCan 51 [(0, (3, 83)), (3, (0, l3)), (4, (0, 0))] [] (0, 0) M K)) : ow_At C (EM A L N) (d + 1) mX12_findCan 44 [(0, (3, 83)), (3, (0, l3))] [] (0, 0) M K := by
  refine ow_iload_n (pc' := 45) (x := l3) dX12_findCan_44 rfl rfl ?_
  refine ow_iflt (pc' := 48) (tg := 118) dX12_findCan_45 rfl rfl (fun hc => ?_) (fun hc => ?_)
  · have h := h.1 hc
    exact ow_vret dX12_findCan_118 rfl rfl h
  · have h := h.2 hc
    refine ow_iconst (pc' := 49) (n := 0) dX12_findCan_48 rfl rfl ?_
    refine ow_istore (pc' := 51) (lv' := [(0, (3, 83)), (3, (0, l3)), (4, (0, 0))]) dX12_findCan_49 rfl rfl rfl ?_
    exact h
set_option maxRecDepth 20000 in
theorem cX12_findCan_51 {C : ow_C} {A L N : Int} {d : Nat} {M : ow_M} {K : Int → ow_M → Prop} {l3 l4 : Int} (h : (N ≤ l4 → ow_I (l3 + (-1)) ∧ ow_At C (EM A L N) (d + 1) mX12_findCan 44 [(0, (3, 83)), (3, (0, l3 + (-1)))] [] (0, 0) M K) ∧ (l4 < N → ow_At C (EM A L N) (d + 1) mX12_findCan 63 [(0, (3, 83)), (3, (0, l3)), (4, (0, l4)), (5, (0, 0))] [] (0, 0) M K)) : ow_At C (EM A L N) (d + 1) mX12_findCan 51 [(0, (3, 83)), (3, (0, l3)), (4, (0, l4))] [] (0, 0) M K := by
  refine ow_iload (pc' := 53) (x := l4) dX12_findCan_51 rfl rfl ?_
  refine ow_aload_n (pc' := 54) (x := 83) dX12_findCan_53 rfl rfl ?_
  refine ow_getf3 (pc' := 57) (t := 0) (ji := 4) (val := N) dX12_findCan_54 fRX12_84 rfl rfl rfl (of_eq_true eo83) eg83_4 ?_
  refine ow_icmpge (pc' := 60) (tg := 112) dX12_findCan_57 rfl rfl (fun hc => ?_) (fun hc => ?_)
  · have h := h.1 hc
    obtain ⟨vv1, h⟩ := h
    refine ow_iinc (pc' := 115) (lv' := [(0, (3, 83)), (3, (0, l3 + (-1))), (4, (0, l4))]) dX12_findCan_112 rfl vv1 rfl rfl rfl ?_
    refine ow_goto (tg := 44) dX12_findCan_115 rfl ?_
    refine ow_sub (lv' := [(0, (3, 83)), (3, (0, l3 + (-1)))]) [0, 1] rfl ?_
    exact h
  · have h := h.2 hc
    refine ow_iconst (pc' := 61) (n := 0) dX12_findCan_60 rfl rfl ?_
    refine ow_istore (pc' := 63) (lv' := [(0, (3, 83)), (3, (0, l3)), (4, (0, l4)), (5, (0, 0))]) dX12_findCan_61 rfl rfl rfl ?_
    exact h
set_option maxRecDepth 20000 in
theorem cX12_findCan_63 {C : ow_C} {A L N : Int} {d : Nat} {M : ow_M} {K : Int → ow_M → Prop} {l3 l4 l5 : Int} (h : (L < l5 → ow_I (l4 + 1) ∧ ow_At C (EM A L N) (d + 1) mX12_findCan 51 [(0, (3, 83)), (3, (0, l3)), (4, (0, l4 + 1))] [] (0, 0) M K) ∧ (l5 ≤ L → ow_I (2304 * l3) ∧ ow_I (9 * l4) ∧ ow_I ((2304 * l3) + (9 * l4)) ∧ ow_I (((2304 * l3) + (9 * l4)) + l5) ∧ ow_Sp C (EM A L N) d mX12_isLed (0, 0) [(3, 83), (0, l3), (0, l4), (0, l5)] M (fun r1 N1 => (0 ≤ (((2304 * l3) + (9 * l4)) + l5) ∧ (((2304 * l3) + (9 * l4)) + l5) < 20736) ∧ (r1 = 0 ∨ r1 = 1) ∧ ∀ N2, N2 = ow_up N1 95 (((2304 * l3) + (9 * l4)) + l5) r1 → ow_I (l5 + 1) ∧ ow_At C (EM A L N) (d + 1) mX12_findCan 63 [(0, (3, 83)), (3, (0, l3)), (4, (0, l4)), (5, (0, l5 + 1))] [] (0, 0) N2 K))) : ow_At C (EM A L N) (d + 1) mX12_findCan 63 [(0, (3, 83)), (3, (0, l3)), (4, (0, l4)), (5, (0, l5))] [] (0, 0) M K := by
  refine ow_iload (pc' := 65) (x := l5) dX12_findCan_63 rfl rfl ?_
  refine ow_aload_n (pc' := 66) (x := 83) dX12_findCan_65 rfl rfl ?_
  refine ow_getf3 (pc' := 69) (t := 0) (ji := 3) (val := L) dX12_findCan_66 fRX12_81 rfl rfl rfl (of_eq_true eo83) eg83_3 ?_
  refine ow_icmpgt (pc' := 72) (tg := 106) dX12_findCan_69 rfl rfl (fun hc => ?_) (fun hc => ?_)
  · have h := h.1 hc
    obtain ⟨vv1, h⟩ := h
    refine ow_iinc (pc' := 109) (lv' := [(0, (3, 83)), (3, (0, l3)), (4, (0, l4 + 1)), (5, (0, l5))]) dX12_findCan_106 rfl vv1 rfl rfl rfl ?_
    refine ow_goto (tg := 51) dX12_findCan_109 rfl ?_
    refine ow_sub (lv' := [(0, (3, 83)), (3, (0, l3)), (4, (0, l4 + 1))]) [0, 1, 2] rfl ?_
    exact h
  · have h := h.2 hc
    refine ow_aload_n (pc' := 73) (x := 83) dX12_findCan_72 rfl rfl ?_
    refine ow_getf3 (pc' := 76) (t := 3) (ji := 32) (val := 95) dX12_findCan_73 fRX12_52 rfl rfl rfl (of_eq_true eo83) eg83_32 ?_
    refine ow_sipush (pc' := 79) (n := 2304) dX12_findCan_76 rfl rfl ?_
    refine ow_iload_n (pc' := 80) (x := l3) dX12_findCan_79 rfl rfl ?_
    obtain ⟨vv2, h⟩ := h
    refine ow_imul (pc' := 81) dX12_findCan_80 vv2 rfl ?_
    refine ow_bipush (pc' := 83) (n := 9) dX12_findCan_81 rfl rfl ?_
    refine ow_iload (pc' := 85) (x := l4) dX12_findCan_83 rfl rfl ?_
    obtain ⟨vv3, h⟩ := h
    refine ow_imul (pc' := 86) dX12_findCan_85 vv3 rfl ?_
    obtain ⟨vv4, h⟩ := h
    refine ow_iadd (pc' := 87) dX12_findCan_86 vv4 rfl ?_
    refine ow_iload (pc' := 89) (x := l5) dX12_findCan_87 rfl rfl ?_
    obtain ⟨vv5, h⟩ := h
    refine ow_iadd (pc' := 90) dX12_findCan_89 vv5 rfl ?_
    refine ow_aload_n (pc' := 91) (x := 83) dX12_findCan_90 rfl rfl ?_
    refine ow_iload_n (pc' := 92) (x := l3) dX12_findCan_91 rfl rfl ?_
    refine ow_iload (pc' := 94) (x := l4) dX12_findCan_92 rfl rfl ?_
    refine ow_iload (pc' := 96) (x := l5) dX12_findCan_94 rfl rfl ?_
    refine ow_callVp (z := mX12_isLed) (n := 3) (k := 12) (vs := [(0, l3), (0, l4), (0, l5)]) (x := 83) (st := [(0, ((2304 * l3) + (9 * l4)) + l5), (3, 95)]) (pc' := 99) (b1 := (0, 0)) (b2 := (0, 0)) dX12_findCan_96 lRX12_333 kX12_isLed iX12_isLed rfl rfl rfl rfl rfl rfl (of_eq_true eo83) (ow_Sp.mono h (fun r1 N1 h => ?_))
    obtain ⟨vv6, h⟩ := h
    obtain ⟨w2, h⟩ := h
    refine ow_bastore2 (pc' := 100) dX12_findCan_99 rfl (Eq.mpr (er95 _) vv6) (of_eq_true (en95 _)) w2 (fun N2 eN2 => ?_)
    have h := h N2 eN2
    obtain ⟨vv7, h⟩ := h
    refine ow_iinc (pc' := 103) (lv' := [(0, (3, 83)), (3, (0, l3)), (4, (0, l4)), (5, (0, l5 + 1))]) dX12_findCan_100 rfl vv7 rfl rfl rfl ?_
    refine ow_goto (tg := 63) dX12_findCan_103 rfl ?_
    exact h
theorem fX12_findCan {C : ow_C} {A L N : Int} {d : Nat} {M : ow_M} {K : Int → ow_M → Prop} {l1 l2 : Int} (h : ow_At C (EM A L N) (d + 1) mX12_findCan 2 [(0, (3, 83)), (1, (0, l1)), (2, (0, l2)), (3, (0, 0))] [] (0, 0) M K) : ow_Sp C (EM A L N) (d + 1) mX12_findCan (0, 0) [(3, 83), (0, l1), (0, l2)] M K := ow_enter (by decide +kernel) rfl rfl (cX12_findCan_0 h)
set_option maxRecDepth 20000 in
theorem cX12_row_0 {C : ow_C} {A L N : Int} {d : Nat} {M : ow_M} {K : Int → ow_M → Prop} {l1 l2 l3 l4 : Int} (h : ow_Sp C (EM A L N) d mX12_areAsked (0, 0) [(3, 83), (0, l1), (0, l2), (0, l3)] M (fun r1 N1 => (r1 = 0 → K ((-1)) N1) ∧ (r1 ≠ 0 → ow_I (l3 - 1) ∧ ow_Sp C (EM A L N) d mX12_isIn (0, 0) [(0, l4), (0, 0), (0, l3 - 1)] N1 (fun r2 N2 => (r2 ≠ 0 → ow_Sp C (EM A L N) d mX12_rule (0, 0) [(3, 83)] N2 (fun r3 N3 => ow_Sp C (EM A L N) d mX12_findCan (0, 0) [(3, 83), (0, l2), (0, l3)] N3 (fun r4 N4 => ow_I (9 * l1) ∧ (0 ≤ (9 * l1) ∧ (9 * l1) < 20736) ∧ ((N4 95 (9 * l1)) ≠ 0 → ow_At C (EM A L N) (d + 1) mX12_row 60 [(0, (3, 83)), (4, (0, l4)), (5, (0, l1)), (6, (0, 0)), (7, (0, (-1))), (8, (0, 0))] [] (0, 0) N4 K) ∧ ((N4 95 (9 * l1)) = 0 → K ((-1)) N4)))) ∧ (r2 = 0 → K ((-1)) N2))))) : ow_At C (EM A L N) (d + 1) mX12_row 0 [(0, (3, 83)), (1, (0, l1)), (2, (0, l2)), (3, (0, l3)), (4, (0, l4))] [] (0, 0) M K := by
  refine ow_aload_n (pc' := 1) (x := 83) dX12_row_0 rfl rfl ?_
  refine ow_iload_n (pc' := 2) (x := l1) dX12_row_1 rfl rfl ?_
  refine ow_iload_n (pc' := 3) (x := l2) dX12_row_2 rfl rfl ?_
  refine ow_iload_n (pc' := 4) (x := l3) dX12_row_3 rfl rfl ?_
  refine ow_callVp (z := mX12_areAsked) (n := 3) (k := 12) (vs := [(0, l1), (0, l2), (0, l3)]) (x := 83) (st := []) (pc' := 7) (b1 := (0, 0)) (b2 := (0, 0)) dX12_row_4 lRX12_318 kX12_areAsked iX12_areAsked rfl rfl rfl rfl rfl rfl (of_eq_true eo83) (ow_Sp.mono h (fun r1 N1 h => ?_))
  refine ow_ifeq (pc' := 10) (tg := 22) dX12_row_7 rfl rfl (fun hc => ?_) (fun hc => ?_)
  · have h := h.1 hc
    refine ow_iconst (pc' := 23) (n := (-1)) dX12_row_22 rfl rfl ?_
    exact ow_iret dX12_row_23 rfl rfl h
  · have h := h.2 hc
    refine ow_iload (pc' := 12) (x := l4) dX12_row_10 rfl rfl ?_
    refine ow_iconst (pc' := 13) (n := 0) dX12_row_12 rfl rfl ?_
    refine ow_iload_n (pc' := 14) (x := l3) dX12_row_13 rfl rfl ?_
    refine ow_iconst (pc' := 15) (n := 1) dX12_row_14 rfl rfl ?_
    obtain ⟨vv1, h⟩ := h
    refine ow_isub (pc' := 16) dX12_row_15 vv1 rfl ?_
    refine ow_callSp (z := mX12_isIn) (n := 3) (vs := [(0, l4), (0, 0), (0, l3 - 1)]) (st := []) (pc' := 19) (b1 := (0, 0)) (b2 := (0, 0)) dX12_row_16 lRX12_91 kX12_isIn zX12_isIn rfl rfl rfl rfl rfl rfl (ow_Sp.mono h (fun r2 N2 h => ?_))
    refine ow_ifne (pc' := 22) (tg := 24) dX12_row_19 rfl rfl (fun hc => ?_) (fun hc => ?_)
    · have h := h.1 hc
      refine ow_aload_n (pc' := 25) (x := 83) dX12_row_24 rfl rfl ?_
      refine ow_callVv (z := mX12_rule) (n := 0) (k := 12) (vs := []) (x := 83) (st := []) (pc' := 28) (b1 := (0, 0)) (b2 := (0, 0)) dX12_row_25 lRX12_321 kX12_rule iX12_rule rfl rfl rfl rfl rfl rfl (of_eq_true eo83) (ow_Sp.mono h (fun r3 N3 h => ?_))
      refine ow_aload_n (pc' := 29) (x := 83) dX12_row_28 rfl rfl ?_
      refine ow_iload_n (pc' := 30) (x := l2) dX12_row_29 rfl rfl ?_
      refine ow_iload_n (pc' := 31) (x := l3) dX12_row_30 rfl rfl ?_
      refine ow_callVv (z := mX12_findCan) (n := 2) (k := 12) (vs := [(0, l2), (0, l3)]) (x := 83) (st := []) (pc' := 34) (b1 := (0, 0)) (b2 := (0, 0)) dX12_row_31 lRX12_336 kX12_findCan iX12_findCan rfl rfl rfl rfl rfl rfl (of_eq_true eo83) (ow_Sp.mono h (fun r4 N4 h => ?_))
      refine ow_aload_n (pc' := 35) (x := 83) dX12_row_34 rfl rfl ?_
      refine ow_getf3 (pc' := 38) (t := 3) (ji := 32) (val := 95) dX12_row_35 fRX12_52 rfl rfl rfl (of_eq_true eo83) eg83_32 ?_
      refine ow_bipush (pc' := 40) (n := 9) dX12_row_38 rfl rfl ?_
      refine ow_iload_n (pc' := 41) (x := l1) dX12_row_40 rfl rfl ?_
      obtain ⟨vv2, h⟩ := h
      refine ow_imul (pc' := 42) dX12_row_41 vv2 rfl ?_
      obtain ⟨vv3, h⟩ := h
      refine ow_baload3 (pc' := 43) (val := N4 95 (9 * l1)) dX12_row_42 rfl (Eq.mpr (er95 _) vv3) (ea95 _) ?_
      refine ow_ifne (pc' := 46) (tg := 48) dX12_row_43 rfl rfl (fun hc => ?_) (fun hc => ?_)
      · have h := h.1 hc
        refine ow_iload_n (pc' := 49) (x := l1) dX12_row_48 rfl rfl ?_
        refine ow_istore (pc' := 51) (lv' := [(0, (3, 83)), (1, (0, l1)), (2, (0, l2)), (3, (0, l3)), (4, (0, l4)), (5, (0, l1))]) dX12_row_49 rfl rfl rfl ?_
        refine ow_iconst (pc' := 52) (n := 0) dX12_row_51 rfl rfl ?_
        refine ow_istore (pc' := 54) (lv' := [(0, (3, 83)), (1, (0, l1)), (2, (0, l2)), (3, (0, l3)), (4, (0, l4)), (5, (0, l1)), (6, (0, 0))]) dX12_row_52 rfl rfl rfl ?_
        refine ow_iconst (pc' := 55) (n := (-1)) dX12_row_54 rfl rfl ?_
        refine ow_istore (pc' := 57) (lv' := [(0, (3, 83)), (1, (0, l1)), (2, (0, l2)), (3, (0, l3)), (4, (0, l4)), (5, (0, l1)), (6, (0, 0)), (7, (0, (-1)))]) dX12_row_55 rfl rfl rfl ?_
        refine ow_iconst (pc' := 58) (n := 0) dX12_row_57 rfl rfl ?_
        refine ow_istore (pc' := 60) (lv' := [(0, (3, 83)), (1, (0, l1)), (2, (0, l2)), (3, (0, l3)), (4, (0, l4)), (5, (0, l1)), (6, (0, 0)), (7, (0, (-1))), (8, (0, 0))]) dX12_row_58 rfl rfl rfl ?_
        refine ow_sub (lv' := [(0, (3, 83)), (4, (0, l4)), (5, (0, l1)), (6, (0, 0)), (7, (0, (-1))), (8, (0, 0))]) [0, 4, 5, 6, 7, 8] rfl ?_
        exact h
      · have h := h.2 hc
        refine ow_iconst (pc' := 47) (n := (-1)) dX12_row_46 rfl rfl ?_
        exact ow_iret dX12_row_47 rfl rfl h
    · have h := h.2 hc
      refine ow_iconst (pc' := 23) (n := (-1)) dX12_row_22 rfl rfl ?_
      exact ow_iret dX12_row_23 rfl rfl h
set_option maxRecDepth 20000 in
theorem cX12_row_60 {C : ow_C} {A L N : Int} {d : Nat} {M : ow_M} {K : Int → ow_M → Prop} {l4 l5 l6 l7 l8 : Int} (h : (l4 < l8 → K l7 M) ∧ (l8 ≤ l4 → ow_Sp C (EM A L N) d mX12_firstOf (0, 0) [(3, 83), (0, l8), (0, l5), (0, l6)] M (fun r1 N1 => (10 : Int) ≠ 0 ∧ ow_I (Int.tdiv r1 10) ∧ (10 : Int) ≠ 0 ∧ ow_I (Int.tdiv r1 10) ∧ ow_I (Int.tmod r1 10) ∧ ow_Sp C (EM A L N) d mX12_changed (0, 0) [(3, 83), (0, l5), (0, Int.tdiv r1 10), (0, Int.tmod r1 10)] N1 (fun r2 N2 => (10 : Int) ≠ 0 ∧ ow_I (Int.tdiv r1 10) ∧ ow_I ((Int.tdiv r1 10) + 1) ∧ ow_I (l8 + 1) ∧ ow_At C (EM A L N) (d + 1) mX12_row 60 [(0, (3, 83)), (4, (0, l4)), (5, (0, r2)), (6, (0, (Int.tdiv r1 10) + 1)), (7, (0, r1)), (8, (0, l8 + 1))] [] (0, 0) N2 K)))) : ow_At C (EM A L N) (d + 1) mX12_row 60 [(0, (3, 83)), (4, (0, l4)), (5, (0, l5)), (6, (0, l6)), (7, (0, l7)), (8, (0, l8))] [] (0, 0) M K := by
  refine ow_iload (pc' := 62) (x := l8) dX12_row_60 rfl rfl ?_
  refine ow_iload (pc' := 64) (x := l4) dX12_row_62 rfl rfl ?_
  refine ow_icmpgt (pc' := 67) (tg := 112) dX12_row_64 rfl rfl (fun hc => ?_) (fun hc => ?_)
  · have h := h.1 hc
    refine ow_iload (pc' := 114) (x := l7) dX12_row_112 rfl rfl ?_
    exact ow_iret dX12_row_114 rfl rfl h
  · have h := h.2 hc
    refine ow_aload_n (pc' := 68) (x := 83) dX12_row_67 rfl rfl ?_
    refine ow_iload (pc' := 70) (x := l8) dX12_row_68 rfl rfl ?_
    refine ow_iload (pc' := 72) (x := l5) dX12_row_70 rfl rfl ?_
    refine ow_iload (pc' := 74) (x := l6) dX12_row_72 rfl rfl ?_
    refine ow_callVp (z := mX12_firstOf) (n := 3) (k := 12) (vs := [(0, l8), (0, l5), (0, l6)]) (x := 83) (st := []) (pc' := 77) (b1 := (0, 0)) (b2 := (0, 0)) dX12_row_74 lRX12_339 kX12_firstOf iX12_firstOf rfl rfl rfl rfl rfl rfl (of_eq_true eo83) (ow_Sp.mono h (fun r1 N1 h => ?_))
    refine ow_istore (pc' := 79) (lv' := [(0, (3, 83)), (4, (0, l4)), (5, (0, l5)), (6, (0, l6)), (7, (0, r1)), (8, (0, l8))]) dX12_row_77 rfl rfl rfl ?_
    refine ow_aload_n (pc' := 80) (x := 83) dX12_row_79 rfl rfl ?_
    refine ow_iload (pc' := 82) (x := l5) dX12_row_80 rfl rfl ?_
    refine ow_iload (pc' := 84) (x := r1) dX12_row_82 rfl rfl ?_
    refine ow_bipush (pc' := 86) (n := 10) dX12_row_84 rfl rfl ?_
    obtain ⟨w0, w, h⟩ := h
    refine ow_idiv (pc' := 87) dX12_row_86 w0 w rfl ?_
    refine ow_iload (pc' := 89) (x := r1) dX12_row_87 rfl rfl ?_
    refine ow_bipush (pc' := 91) (n := 10) dX12_row_89 rfl rfl ?_
    obtain ⟨w0, w, w1, h⟩ := h
    refine ow_irem (pc' := 92) dX12_row_91 w0 w w1 rfl ?_
    refine ow_callVp (z := mX12_changed) (n := 3) (k := 12) (vs := [(0, l5), (0, Int.tdiv r1 10), (0, Int.tmod r1 10)]) (x := 83) (st := []) (pc' := 95) (b1 := (0, 0)) (b2 := (0, 0)) dX12_row_92 lRX12_302 kX12_changed iX12_changed rfl rfl rfl rfl rfl rfl (of_eq_true eo83) (ow_Sp.mono h (fun r2 N2 h => ?_))
    refine ow_istore (pc' := 97) (lv' := [(0, (3, 83)), (4, (0, l4)), (5, (0, r2)), (6, (0, l6)), (7, (0, r1)), (8, (0, l8))]) dX12_row_95 rfl rfl rfl ?_
    refine ow_iload (pc' := 99) (x := r1) dX12_row_97 rfl rfl ?_
    refine ow_bipush (pc' := 101) (n := 10) dX12_row_99 rfl rfl ?_
    obtain ⟨w0, w, h⟩ := h
    refine ow_idiv (pc' := 102) dX12_row_101 w0 w rfl ?_
    refine ow_iconst (pc' := 103) (n := 1) dX12_row_102 rfl rfl ?_
    obtain ⟨vv1, h⟩ := h
    refine ow_iadd (pc' := 104) dX12_row_103 vv1 rfl ?_
    refine ow_istore (pc' := 106) (lv' := [(0, (3, 83)), (4, (0, l4)), (5, (0, r2)), (6, (0, (Int.tdiv r1 10) + 1)), (7, (0, r1)), (8, (0, l8))]) dX12_row_104 rfl rfl rfl ?_
    obtain ⟨vv2, h⟩ := h
    refine ow_iinc (pc' := 109) (lv' := [(0, (3, 83)), (4, (0, l4)), (5, (0, r2)), (6, (0, (Int.tdiv r1 10) + 1)), (7, (0, r1)), (8, (0, l8 + 1))]) dX12_row_106 rfl vv2 rfl rfl rfl ?_
    refine ow_goto (tg := 60) dX12_row_109 rfl ?_
    exact h
theorem fX12_row {C : ow_C} {A L N : Int} {d : Nat} {M : ow_M} {K : Int → ow_M → Prop} {l1 l2 l3 l4 : Int} (h : ow_Sp C (EM A L N) d mX12_areAsked (0, 0) [(3, 83), (0, l1), (0, l2), (0, l3)] M (fun r1 N1 => (r1 = 0 → K ((-1)) N1) ∧ (r1 ≠ 0 → ow_I (l3 - 1) ∧ ow_Sp C (EM A L N) d mX12_isIn (0, 0) [(0, l4), (0, 0), (0, l3 - 1)] N1 (fun r2 N2 => (r2 ≠ 0 → ow_Sp C (EM A L N) d mX12_rule (0, 0) [(3, 83)] N2 (fun r3 N3 => ow_Sp C (EM A L N) d mX12_findCan (0, 0) [(3, 83), (0, l2), (0, l3)] N3 (fun r4 N4 => ow_I (9 * l1) ∧ (0 ≤ (9 * l1) ∧ (9 * l1) < 20736) ∧ ((N4 95 (9 * l1)) ≠ 0 → ow_At C (EM A L N) (d + 1) mX12_row 60 [(0, (3, 83)), (4, (0, l4)), (5, (0, l1)), (6, (0, 0)), (7, (0, (-1))), (8, (0, 0))] [] (0, 0) N4 K) ∧ ((N4 95 (9 * l1)) = 0 → K ((-1)) N4)))) ∧ (r2 = 0 → K ((-1)) N2))))) : ow_Sp C (EM A L N) (d + 1) mX12_row (0, 0) [(3, 83), (0, l1), (0, l2), (0, l3), (0, l4)] M K := ow_enter (by decide +kernel) rfl rfl (cX12_row_0 h)
set_option maxRecDepth 20000 in
theorem cX12_firstOf_0 {C : ow_C} {A L N : Int} {d : Nat} {M : ow_M} {K : Int → ow_M → Prop} {l1 l2 l3 : Int} (h : ow_At C (EM A L N) (d + 1) mX12_firstOf 3 [(0, (3, 83)), (1, (0, l1)), (2, (0, l2)), (3, (0, l3)), (4, (0, 0))] [] (0, 0) M K) : ow_At C (EM A L N) (d + 1) mX12_firstOf 0 [(0, (3, 83)), (1, (0, l1)), (2, (0, l2)), (3, (0, l3))] [] (0, 0) M K := by
  refine ow_iconst (pc' := 1) (n := 0) dX12_firstOf_0 rfl rfl ?_
  refine ow_istore (pc' := 3) (lv' := [(0, (3, 83)), (1, (0, l1)), (2, (0, l2)), (3, (0, l3)), (4, (0, 0))]) dX12_firstOf_1 rfl rfl rfl ?_
  exact h
set_option maxRecDepth 20000 in
theorem cX12_firstOf_3 {C : ow_C} {A L N : Int} {d : Nat} {M : ow_M} {K : Int → ow_M → Prop} {l1 l2 l3 l4 : Int} (h : (L ≤ l4 → K ((-1)) M) ∧ (l4 < L → ow_At C (EM A L N) (d + 1) mX12_firstOf 15 [(0, (3, 83)), (1, (0, l1)), (2, (0, l2)), (3, (0, l3)), (4, (0, l4)), (5, (0, 0))] [] (0, 0) M K)) : ow_At C (EM A L N) (d + 1) mX12_firstOf 3 [(0, (3, 83)), (1, (0, l1)), (2, (0, l2)), (3, (0, l3)), (4, (0, l4))] [] (0, 0) M K := by
  refine ow_iload (pc' := 5) (x := l4) dX12_firstOf_3 rfl rfl ?_
  refine ow_aload_n (pc' := 6) (x := 83) dX12_firstOf_5 rfl rfl ?_
  refine ow_getf3 (pc' := 9) (t := 0) (ji := 3) (val := L) dX12_firstOf_6 fRX12_81 rfl rfl rfl (of_eq_true eo83) eg83_3 ?_
  refine ow_icmpge (pc' := 12) (tg := 94) dX12_firstOf_9 rfl rfl (fun hc => ?_) (fun hc => ?_)
  · have h := h.1 hc
    refine ow_iconst (pc' := 95) (n := (-1)) dX12_firstOf_94 rfl rfl ?_
    exact ow_iret dX12_firstOf_95 rfl rfl h
  · have h := h.2 hc
    refine ow_iconst (pc' := 13) (n := 0) dX12_firstOf_12 rfl rfl ?_
    refine ow_istore (pc' := 15) (lv' := [(0, (3, 83)), (1, (0, l1)), (2, (0, l2)), (3, (0, l3)), (4, (0, l4)), (5, (0, 0))]) dX12_firstOf_13 rfl rfl rfl ?_
    exact h
set_option maxRecDepth 20000 in
theorem cX12_firstOf_15 {C : ow_C} {A L N : Int} {d : Nat} {M : ow_M} {K : Int → ow_M → Prop} {l1 l2 l3 l4 l5 : Int} (h : (A ≤ l5 → ow_I (l4 + 1) ∧ ow_At C (EM A L N) (d + 1) mX12_firstOf 3 [(0, (3, 83)), (1, (0, l1)), (2, (0, l2)), (3, (0, l3)), (4, (0, l4 + 1))] [] (0, 0) M K) ∧ (l5 < A → ow_I (l3 - 1) ∧ ow_Sp C (EM A L N) d mX12_may (0, 0) [(3, 83), (0, l1), (0, l2), (0, l3 - 1), (0, l4), (0, l5)] M (fun r1 N1 => (r1 = 0 → ow_I (l5 + 1) ∧ ow_At C (EM A L N) (d + 1) mX12_firstOf 15 [(0, (3, 83)), (1, (0, l1)), (2, (0, l2)), (3, (0, l3)), (4, (0, l4)), (5, (0, l5 + 1))] [] (0, 0) N1 K) ∧ (r1 ≠ 0 → ow_I (l1 + 1) ∧ ow_I (2304 * (l1 + 1)) ∧ ow_Sp C (EM A L N) d mX12_changed (0, 0) [(3, 83), (0, l2), (0, l4), (0, l5)] N1 (fun r2 N2 => ow_I (9 * r2) ∧ ow_I ((2304 * (l1 + 1)) + (9 * r2)) ∧ ow_I (((2304 * (l1 + 1)) + (9 * r2)) + l4) ∧ ow_I ((((2304 * (l1 + 1)) + (9 * r2)) + l4) + 1) ∧ (0 ≤ ((((2304 * (l1 + 1)) + (9 * r2)) + l4) + 1) ∧ ((((2304 * (l1 + 1)) + (9 * r2)) + l4) + 1) < 20736) ∧ ((N2 95 ((((2304 * (l1 + 1)) + (9 * r2)) + l4) + 1)) = 0 → ow_I (l5 + 1) ∧ ow_At C (EM A L N) (d + 1) mX12_firstOf 15 [(0, (3, 83)), (1, (0, l1)), (2, (0, l2)), (3, (0, l3)), (4, (0, l4)), (5, (0, l5 + 1))] [] (0, 0) N2 K) ∧ ((N2 95 ((((2304 * (l1 + 1)) + (9 * r2)) + l4) + 1)) ≠ 0 → ow_I (10 * l4) ∧ ow_I ((10 * l4) + l5) ∧ K ((10 * l4) + l5) N2)))))) : ow_At C (EM A L N) (d + 1) mX12_firstOf 15 [(0, (3, 83)), (1, (0, l1)), (2, (0, l2)), (3, (0, l3)), (4, (0, l4)), (5, (0, l5))] [] (0, 0) M K := by
  refine ow_iload (pc' := 17) (x := l5) dX12_firstOf_15 rfl rfl ?_
  refine ow_aload_n (pc' := 18) (x := 83) dX12_firstOf_17 rfl rfl ?_
  refine ow_getf3 (pc' := 21) (t := 0) (ji := 2) (val := A) dX12_firstOf_18 fRX12_74 rfl rfl rfl (of_eq_true eo83) eg83_2 ?_
  refine ow_icmpge (pc' := 24) (tg := 88) dX12_firstOf_21 rfl rfl (fun hc => ?_) (fun hc => ?_)
  · have h := h.1 hc
    obtain ⟨vv1, h⟩ := h
    refine ow_iinc (pc' := 91) (lv' := [(0, (3, 83)), (1, (0, l1)), (2, (0, l2)), (3, (0, l3)), (4, (0, l4 + 1)), (5, (0, l5))]) dX12_firstOf_88 rfl vv1 rfl rfl rfl ?_
    refine ow_goto (tg := 3) dX12_firstOf_91 rfl ?_
    refine ow_sub (lv' := [(0, (3, 83)), (1, (0, l1)), (2, (0, l2)), (3, (0, l3)), (4, (0, l4 + 1))]) [0, 1, 2, 3, 4] rfl ?_
    exact h
  · have h := h.2 hc
    refine ow_aload_n (pc' := 25) (x := 83) dX12_firstOf_24 rfl rfl ?_
    refine ow_iload_n (pc' := 26) (x := l1) dX12_firstOf_25 rfl rfl ?_
    refine ow_iload_n (pc' := 27) (x := l2) dX12_firstOf_26 rfl rfl ?_
    refine ow_iload_n (pc' := 28) (x := l3) dX12_firstOf_27 rfl rfl ?_
    refine ow_iconst (pc' := 29) (n := 1) dX12_firstOf_28 rfl rfl ?_
    obtain ⟨vv2, h⟩ := h
    refine ow_isub (pc' := 30) dX12_firstOf_29 vv2 rfl ?_
    refine ow_iload (pc' := 32) (x := l4) dX12_firstOf_30 rfl rfl ?_
    refine ow_iload (pc' := 34) (x := l5) dX12_firstOf_32 rfl rfl ?_
    refine ow_callVp (z := mX12_may) (n := 5) (k := 12) (vs := [(0, l1), (0, l2), (0, l3 - 1), (0, l4), (0, l5)]) (x := 83) (st := []) (pc' := 37) (b1 := (0, 0)) (b2 := (0, 0)) dX12_firstOf_34 lRX12_329 kX12_may iX12_may rfl rfl rfl rfl rfl rfl (of_eq_true eo83) (ow_Sp.mono h (fun r1 N1 h => ?_))
    refine ow_ifeq (pc' := 40) (tg := 82) dX12_firstOf_37 rfl rfl (fun hc => ?_) (fun hc => ?_)
    · have h := h.1 hc
      obtain ⟨vv3, h⟩ := h
      refine ow_iinc (pc' := 85) (lv' := [(0, (3, 83)), (1, (0, l1)), (2, (0, l2)), (3, (0, l3)), (4, (0, l4)), (5, (0, l5 + 1))]) dX12_firstOf_82 rfl vv3 rfl rfl rfl ?_
      refine ow_goto (tg := 15) dX12_firstOf_85 rfl ?_
      exact h
    · have h := h.2 hc
      refine ow_aload_n (pc' := 41) (x := 83) dX12_firstOf_40 rfl rfl ?_
      refine ow_getf3 (pc' := 44) (t := 3) (ji := 32) (val := 95) dX12_firstOf_41 fRX12_52 rfl rfl rfl (of_eq_true eo83) eg83_32 ?_
      refine ow_sipush (pc' := 47) (n := 2304) dX12_firstOf_44 rfl rfl ?_
      refine ow_iload_n (pc' := 48) (x := l1) dX12_firstOf_47 rfl rfl ?_
      refine ow_iconst (pc' := 49) (n := 1) dX12_firstOf_48 rfl rfl ?_
      obtain ⟨vv4, h⟩ := h
      refine ow_iadd (pc' := 50) dX12_firstOf_49 vv4 rfl ?_
      obtain ⟨vv5, h⟩ := h
      refine ow_imul (pc' := 51) dX12_firstOf_50 vv5 rfl ?_
      refine ow_bipush (pc' := 53) (n := 9) dX12_firstOf_51 rfl rfl ?_
      refine ow_aload_n (pc' := 54) (x := 83) dX12_firstOf_53 rfl rfl ?_
      refine ow_iload_n (pc' := 55) (x := l2) dX12_firstOf_54 rfl rfl ?_
      refine ow_iload (pc' := 57) (x := l4) dX12_firstOf_55 rfl rfl ?_
      refine ow_iload (pc' := 59) (x := l5) dX12_firstOf_57 rfl rfl ?_
      refine ow_callVp (z := mX12_changed) (n := 3) (k := 12) (vs := [(0, l2), (0, l4), (0, l5)]) (x := 83) (st := [(0, 9), (0, 2304 * (l1 + 1)), (3, 95)]) (pc' := 62) (b1 := (0, 0)) (b2 := (0, 0)) dX12_firstOf_59 lRX12_302 kX12_changed iX12_changed rfl rfl rfl rfl rfl rfl (of_eq_true eo83) (ow_Sp.mono h (fun r2 N2 h => ?_))
      obtain ⟨vv6, h⟩ := h
      refine ow_imul (pc' := 63) dX12_firstOf_62 vv6 rfl ?_
      obtain ⟨vv7, h⟩ := h
      refine ow_iadd (pc' := 64) dX12_firstOf_63 vv7 rfl ?_
      refine ow_iload (pc' := 66) (x := l4) dX12_firstOf_64 rfl rfl ?_
      obtain ⟨vv8, h⟩ := h
      refine ow_iadd (pc' := 67) dX12_firstOf_66 vv8 rfl ?_
      refine ow_iconst (pc' := 68) (n := 1) dX12_firstOf_67 rfl rfl ?_
      obtain ⟨vv9, h⟩ := h
      refine ow_iadd (pc' := 69) dX12_firstOf_68 vv9 rfl ?_
      obtain ⟨vv10, h⟩ := h
      refine ow_baload3 (pc' := 70) (val := N2 95 ((((2304 * (l1 + 1)) + (9 * r2)) + l4) + 1)) dX12_firstOf_69 rfl (Eq.mpr (er95 _) vv10) (ea95 _) ?_
      refine ow_ifeq (pc' := 73) (tg := 82) dX12_firstOf_70 rfl rfl (fun hc => ?_) (fun hc => ?_)
      · have h := h.1 hc
        obtain ⟨vv11, h⟩ := h
        refine ow_iinc (pc' := 85) (lv' := [(0, (3, 83)), (1, (0, l1)), (2, (0, l2)), (3, (0, l3)), (4, (0, l4)), (5, (0, l5 + 1))]) dX12_firstOf_82 rfl vv11 rfl rfl rfl ?_
        refine ow_goto (tg := 15) dX12_firstOf_85 rfl ?_
        exact h
      · have h := h.2 hc
        refine ow_bipush (pc' := 75) (n := 10) dX12_firstOf_73 rfl rfl ?_
        refine ow_iload (pc' := 77) (x := l4) dX12_firstOf_75 rfl rfl ?_
        obtain ⟨vv12, h⟩ := h
        refine ow_imul (pc' := 78) dX12_firstOf_77 vv12 rfl ?_
        refine ow_iload (pc' := 80) (x := l5) dX12_firstOf_78 rfl rfl ?_
        obtain ⟨vv13, h⟩ := h
        refine ow_iadd (pc' := 81) dX12_firstOf_80 vv13 rfl ?_
        exact ow_iret dX12_firstOf_81 rfl rfl h
theorem fX12_firstOf {C : ow_C} {A L N : Int} {d : Nat} {M : ow_M} {K : Int → ow_M → Prop} {l1 l2 l3 : Int} (h : ow_At C (EM A L N) (d + 1) mX12_firstOf 3 [(0, (3, 83)), (1, (0, l1)), (2, (0, l2)), (3, (0, l3)), (4, (0, 0))] [] (0, 0) M K) : ow_Sp C (EM A L N) (d + 1) mX12_firstOf (0, 0) [(3, 83), (0, l1), (0, l2), (0, l3)] M K := ow_enter (by decide +kernel) rfl rfl (cX12_firstOf_0 h)
set_option maxRecDepth 20000 in
theorem cX12_heard_0 {C : ow_C} {A L N : Int} {d : Nat} {M : ow_M} {K : Int → ow_M → Prop} {l1 l2 l3 : Int} (h : ow_Sp C (EM A L N) d mX12_isWord0 (0, 0) [(3, 83), (0, l1)] M (fun r1 N1 => (r1 = 0 → K ((-1)) N1) ∧ (r1 ≠ 0 → ow_Sp C (EM A L N) d mX12_isIn (0, 0) [(0, l2), (0, 0), (0, 8)] N1 (fun r2 N2 => (r2 = 0 → K ((-1)) N2) ∧ (r2 ≠ 0 → (((-1)) ≤ l3 → ow_Sp C (EM A L N) d mX12_rule (0, 0) [(3, 83)] N2 (fun r3 N3 => ow_Sp C (EM A L N) d mX12_waysOf (0, 0) [(3, 83), (0, l1), (0, 0), (0, l2)] N3 (fun r4 N4 => ow_At C (EM A L N) (d + 1) mX12_heard 44 [(0, (3, 83)), (3, (0, l3)), (6, (0, 0)), (7, (0, 0))] [] (0, 0) N4 K))) ∧ (l3 < ((-1)) → K ((-1)) N2)))))) : ow_At C (EM A L N) (d + 1) mX12_heard 0 [(0, (3, 83)), (1, (0, l1)), (2, (0, l2)), (3, (0, l3))] [] (0, 0) M K := by
  refine ow_aload_n (pc' := 1) (x := 83) dX12_heard_0 rfl rfl ?_
  refine ow_iload_n (pc' := 2) (x := l1) dX12_heard_1 rfl rfl ?_
  refine ow_callVp (z := mX12_isWord0) (n := 1) (k := 12) (vs := [(0, l1)]) (x := 83) (st := []) (pc' := 5) (b1 := (0, 0)) (b2 := (0, 0)) dX12_heard_2 lRX12_102 kX12_isWord0 iX12_isWord0 rfl rfl rfl rfl rfl rfl (of_eq_true eo83) (ow_Sp.mono h (fun r1 N1 h => ?_))
  refine ow_ifeq (pc' := 8) (tg := 23) dX12_heard_5 rfl rfl (fun hc => ?_) (fun hc => ?_)
  · have h := h.1 hc
    refine ow_iconst (pc' := 24) (n := (-1)) dX12_heard_23 rfl rfl ?_
    exact ow_iret dX12_heard_24 rfl rfl h
  · have h := h.2 hc
    refine ow_iload_n (pc' := 9) (x := l2) dX12_heard_8 rfl rfl ?_
    refine ow_iconst (pc' := 10) (n := 0) dX12_heard_9 rfl rfl ?_
    refine ow_bipush (pc' := 12) (n := 8) dX12_heard_10 rfl rfl ?_
    refine ow_callSp (z := mX12_isIn) (n := 3) (vs := [(0, l2), (0, 0), (0, 8)]) (st := []) (pc' := 15) (b1 := (0, 0)) (b2 := (0, 0)) dX12_heard_12 lRX12_91 kX12_isIn zX12_isIn rfl rfl rfl rfl rfl rfl (ow_Sp.mono h (fun r2 N2 h => ?_))
    refine ow_ifeq (pc' := 18) (tg := 23) dX12_heard_15 rfl rfl (fun hc => ?_) (fun hc => ?_)
    · have h := h.1 hc
      refine ow_iconst (pc' := 24) (n := (-1)) dX12_heard_23 rfl rfl ?_
      exact ow_iret dX12_heard_24 rfl rfl h
    · have h := h.2 hc
      refine ow_iload_n (pc' := 19) (x := l3) dX12_heard_18 rfl rfl ?_
      refine ow_iconst (pc' := 20) (n := (-1)) dX12_heard_19 rfl rfl ?_
      refine ow_icmpge (pc' := 23) (tg := 25) dX12_heard_20 rfl rfl (fun hc => ?_) (fun hc => ?_)
      · have h := h.1 hc
        refine ow_aload_n (pc' := 26) (x := 83) dX12_heard_25 rfl rfl ?_
        refine ow_callVv (z := mX12_rule) (n := 0) (k := 12) (vs := []) (x := 83) (st := []) (pc' := 29) (b1 := (0, 0)) (b2 := (0, 0)) dX12_heard_26 lRX12_321 kX12_rule iX12_rule rfl rfl rfl rfl rfl rfl (of_eq_true eo83) (ow_Sp.mono h (fun r3 N3 h => ?_))
        refine ow_aload_n (pc' := 30) (x := 83) dX12_heard_29 rfl rfl ?_
        refine ow_iload_n (pc' := 31) (x := l1) dX12_heard_30 rfl rfl ?_
        refine ow_iconst (pc' := 32) (n := 0) dX12_heard_31 rfl rfl ?_
        refine ow_iload_n (pc' := 33) (x := l2) dX12_heard_32 rfl rfl ?_
        refine ow_callVp (z := mX12_waysOf) (n := 3) (k := 12) (vs := [(0, l1), (0, 0), (0, l2)]) (x := 83) (st := []) (pc' := 36) (b1 := (0, 0)) (b2 := (0, 0)) dX12_heard_33 lRX12_315 kX12_waysOf iX12_waysOf rfl rfl rfl rfl rfl rfl (of_eq_true eo83) (ow_Sp.mono h (fun r4 N4 h => ?_))
        refine ow_lstore (pc' := 38) (lv' := [(0, (3, 83)), (1, (0, l1)), (2, (0, l2)), (3, (0, l3)), (4, (1, r4))]) dX12_heard_36 rfl rfl rfl ?_
        refine ow_iconst (pc' := 39) (n := 0) dX12_heard_38 rfl rfl ?_
        refine ow_istore (pc' := 41) (lv' := [(0, (3, 83)), (1, (0, l1)), (2, (0, l2)), (3, (0, l3)), (4, (1, r4)), (6, (0, 0))]) dX12_heard_39 rfl rfl rfl ?_
        refine ow_iconst (pc' := 42) (n := 0) dX12_heard_41 rfl rfl ?_
        refine ow_istore (pc' := 44) (lv' := [(0, (3, 83)), (1, (0, l1)), (2, (0, l2)), (3, (0, l3)), (4, (1, r4)), (6, (0, 0)), (7, (0, 0))]) dX12_heard_42 rfl rfl rfl ?_
        refine ow_sub (lv' := [(0, (3, 83)), (3, (0, l3)), (6, (0, 0)), (7, (0, 0))]) [0, 3, 5, 6] rfl ?_
        exact h
      · have h := h.2 hc
        refine ow_iconst (pc' := 24) (n := (-1)) dX12_heard_23 rfl rfl ?_
        exact ow_iret dX12_heard_24 rfl rfl h
set_option maxRecDepth 20000 in
theorem cX12_heard_44 {C : ow_C} {A L N : Int} {d : Nat} {M : ow_M} {K : Int → ow_M → Prop} {l3 l6 l7 : Int} (h : (N ≤ l7 → (l3 ≠ ((-1)) → K ((-1)) M) ∧ (l3 = ((-1)) → K l6 M)) ∧ (l7 < N → ow_Sp C (EM A L N) d mX12_waysTo (0, 0) [(3, 83), (0, l7)] M (fun r1 N1 => ((ow_lcmp r1 0) ≠ 0 → (l6 ≠ l3 → ow_I (l6 + 1) ∧ ow_I (l7 + 1) ∧ ow_At C (EM A L N) (d + 1) mX12_heard 44 [(0, (3, 83)), (3, (0, l3)), (6, (0, l6 + 1)), (7, (0, l7 + 1))] [] (0, 0) N1 K) ∧ (l6 = l3 → K l7 N1)) ∧ ((ow_lcmp r1 0) = 0 → ow_I (l7 + 1) ∧ ow_At C (EM A L N) (d + 1) mX12_heard 44 [(0, (3, 83)), (3, (0, l3)), (6, (0, l6)), (7, (0, l7 + 1))] [] (0, 0) N1 K)))) : ow_At C (EM A L N) (d + 1) mX12_heard 44 [(0, (3, 83)), (3, (0, l3)), (6, (0, l6)), (7, (0, l7))] [] (0, 0) M K := by
  refine ow_iload (pc' := 46) (x := l7) dX12_heard_44 rfl rfl ?_
  refine ow_aload_n (pc' := 47) (x := 83) dX12_heard_46 rfl rfl ?_
  refine ow_getf3 (pc' := 50) (t := 0) (ji := 4) (val := N) dX12_heard_47 fRX12_84 rfl rfl rfl (of_eq_true eo83) eg83_4 ?_
  refine ow_icmpge (pc' := 53) (tg := 85) dX12_heard_50 rfl rfl (fun hc => ?_) (fun hc => ?_)
  · have h := h.1 hc
    refine ow_iload_n (pc' := 86) (x := l3) dX12_heard_85 rfl rfl ?_
    refine ow_iconst (pc' := 87) (n := (-1)) dX12_heard_86 rfl rfl ?_
    refine ow_icmpne (pc' := 90) (tg := 95) dX12_heard_87 rfl rfl (fun hc => ?_) (fun hc => ?_)
    · have h := h.1 hc
      refine ow_iconst (pc' := 96) (n := (-1)) dX12_heard_95 rfl rfl ?_
      exact ow_iret dX12_heard_96 rfl rfl h
    · have h := h.2 hc
      refine ow_iload (pc' := 92) (x := l6) dX12_heard_90 rfl rfl ?_
      refine ow_goto (tg := 96) dX12_heard_92 rfl ?_
      exact ow_iret dX12_heard_96 rfl rfl h
  · have h := h.2 hc
    refine ow_aload_n (pc' := 54) (x := 83) dX12_heard_53 rfl rfl ?_
    refine ow_iload (pc' := 56) (x := l7) dX12_heard_54 rfl rfl ?_
    refine ow_callVp (z := mX12_waysTo) (n := 1) (k := 12) (vs := [(0, l7)]) (x := 83) (st := []) (pc' := 59) (b1 := (0, 0)) (b2 := (0, 0)) dX12_heard_56 lRX12_311 kX12_waysTo iX12_waysTo rfl rfl rfl rfl rfl rfl (of_eq_true eo83) (ow_Sp.mono h (fun r1 N1 h => ?_))
    refine ow_lconst (pc' := 60) (i := 0) dX12_heard_59 rfl rfl ?_
    refine ow_Lcmp (pc' := 61) dX12_heard_60 rfl ?_
    refine ow_ifne (pc' := 64) (tg := 67) dX12_heard_61 rfl rfl (fun hc => ?_) (fun hc => ?_)
    · have h := h.1 hc
      refine ow_iload (pc' := 69) (x := l6) dX12_heard_67 rfl rfl ?_
      refine ow_iload_n (pc' := 70) (x := l3) dX12_heard_69 rfl rfl ?_
      refine ow_icmpne (pc' := 73) (tg := 76) dX12_heard_70 rfl rfl (fun hc => ?_) (fun hc => ?_)
      · have h := h.1 hc
        obtain ⟨vv1, h⟩ := h
        refine ow_iinc (pc' := 79) (lv' := [(0, (3, 83)), (3, (0, l3)), (6, (0, l6 + 1)), (7, (0, l7))]) dX12_heard_76 rfl vv1 rfl rfl rfl ?_
        obtain ⟨vv2, h⟩ := h
        refine ow_iinc (pc' := 82) (lv' := [(0, (3, 83)), (3, (0, l3)), (6, (0, l6 + 1)), (7, (0, l7 + 1))]) dX12_heard_79 rfl vv2 rfl rfl rfl ?_
        refine ow_goto (tg := 44) dX12_heard_82 rfl ?_
        exact h
      · have h := h.2 hc
        refine ow_iload (pc' := 75) (x := l7) dX12_heard_73 rfl rfl ?_
        exact ow_iret dX12_heard_75 rfl rfl h
    · have h := h.2 hc
      refine ow_goto (tg := 79) dX12_heard_64 rfl ?_
      obtain ⟨vv3, h⟩ := h
      refine ow_iinc (pc' := 82) (lv' := [(0, (3, 83)), (3, (0, l3)), (6, (0, l6)), (7, (0, l7 + 1))]) dX12_heard_79 rfl vv3 rfl rfl rfl ?_
      refine ow_goto (tg := 44) dX12_heard_82 rfl ?_
      exact h
theorem fX12_heard {C : ow_C} {A L N : Int} {d : Nat} {M : ow_M} {K : Int → ow_M → Prop} {l1 l2 l3 : Int} (h : ow_Sp C (EM A L N) d mX12_isWord0 (0, 0) [(3, 83), (0, l1)] M (fun r1 N1 => (r1 = 0 → K ((-1)) N1) ∧ (r1 ≠ 0 → ow_Sp C (EM A L N) d mX12_isIn (0, 0) [(0, l2), (0, 0), (0, 8)] N1 (fun r2 N2 => (r2 = 0 → K ((-1)) N2) ∧ (r2 ≠ 0 → (((-1)) ≤ l3 → ow_Sp C (EM A L N) d mX12_rule (0, 0) [(3, 83)] N2 (fun r3 N3 => ow_Sp C (EM A L N) d mX12_waysOf (0, 0) [(3, 83), (0, l1), (0, 0), (0, l2)] N3 (fun r4 N4 => ow_At C (EM A L N) (d + 1) mX12_heard 44 [(0, (3, 83)), (3, (0, l3)), (6, (0, 0)), (7, (0, 0))] [] (0, 0) N4 K))) ∧ (l3 < ((-1)) → K ((-1)) N2)))))) : ow_Sp C (EM A L N) (d + 1) mX12_heard (0, 0) [(3, 83), (0, l1), (0, l2), (0, l3)] M K := ow_enter (by decide +kernel) rfl rfl (cX12_heard_0 h)
set_option maxRecDepth 20000 in
theorem cX12_common_0 {C : ow_C} {A L N : Int} {d : Nat} {M : ow_M} {K : Int → ow_M → Prop} {l0 l2 : Int} (h : ow_At C (EM A L N) d mX12_common 6 [(4, (1, l0)), (6, (1, l2))] [] (0, 0) M K) : ow_At C (EM A L N) d mX12_common 0 [(0, (1, l0)), (2, (1, l2))] [] (0, 0) M K := by
  refine ow_lload_n (pc' := 1) (x := l0) dX12_common_0 rfl rfl ?_
  refine ow_lstore (pc' := 3) (lv' := [(0, (1, l0)), (2, (1, l2)), (4, (1, l0))]) dX12_common_1 rfl rfl rfl ?_
  refine ow_lload_n (pc' := 4) (x := l2) dX12_common_3 rfl rfl ?_
  refine ow_lstore (pc' := 6) (lv' := [(0, (1, l0)), (2, (1, l2)), (4, (1, l0)), (6, (1, l2))]) dX12_common_4 rfl rfl rfl ?_
  refine ow_sub (lv' := [(4, (1, l0)), (6, (1, l2))]) [2, 3] rfl ?_
  exact h
set_option maxRecDepth 20000 in
theorem cX12_common_6 {C : ow_C} {A L N : Int} {d : Nat} {M : ow_M} {K : Int → ow_M → Prop} {l4 l6 : Int} (h : ((ow_lcmp l6 0) = 0 → K l4 M) ∧ ((ow_lcmp l6 0) ≠ 0 → l6 ≠ 0 ∧ ow_L (Int.tdiv l4 l6) ∧ ow_L (Int.tmod l4 l6) ∧ ow_At C (EM A L N) d mX12_common 6 [(4, (1, l6)), (6, (1, Int.tmod l4 l6))] [] (0, 0) M K)) : ow_At C (EM A L N) d mX12_common 6 [(4, (1, l4)), (6, (1, l6))] [] (0, 0) M K := by
  refine ow_lload (pc' := 8) (x := l6) dX12_common_6 rfl rfl ?_
  refine ow_lconst (pc' := 9) (i := 0) dX12_common_8 rfl rfl ?_
  refine ow_Lcmp (pc' := 10) dX12_common_9 rfl ?_
  refine ow_ifeq (pc' := 13) (tg := 31) dX12_common_10 rfl rfl (fun hc => ?_) (fun hc => ?_)
  · have h := h.1 hc
    refine ow_lload (pc' := 33) (x := l4) dX12_common_31 rfl rfl ?_
    exact ow_lret dX12_common_33 rfl rfl h
  · have h := h.2 hc
    refine ow_lload (pc' := 15) (x := l4) dX12_common_13 rfl rfl ?_
    refine ow_lload (pc' := 17) (x := l6) dX12_common_15 rfl rfl ?_
    obtain ⟨w0, w, w1, h⟩ := h
    refine ow_lrem (pc' := 18) dX12_common_17 w0 w w1 rfl ?_
    refine ow_lstore (pc' := 20) (lv' := [(4, (1, l4)), (6, (1, l6)), (8, (1, Int.tmod l4 l6))]) dX12_common_18 rfl rfl rfl ?_
    refine ow_lload (pc' := 22) (x := l6) dX12_common_20 rfl rfl ?_
    refine ow_lstore (pc' := 24) (lv' := [(4, (1, l6)), (6, (1, l6)), (8, (1, Int.tmod l4 l6))]) dX12_common_22 rfl rfl rfl ?_
    refine ow_lload (pc' := 26) (x := Int.tmod l4 l6) dX12_common_24 rfl rfl ?_
    refine ow_lstore (pc' := 28) (lv' := [(4, (1, l6)), (6, (1, Int.tmod l4 l6)), (8, (1, Int.tmod l4 l6))]) dX12_common_26 rfl rfl rfl ?_
    refine ow_goto (tg := 6) dX12_common_28 rfl ?_
    refine ow_sub (lv' := [(4, (1, l6)), (6, (1, Int.tmod l4 l6))]) [0, 1] rfl ?_
    exact h
theorem fX12_common {C : ow_C} {A L N : Int} {d : Nat} {M : ow_M} {K : Int → ow_M → Prop} {l0 l2 : Int} (h : ow_At C (EM A L N) d mX12_common 6 [(4, (1, l0)), (6, (1, l2))] [] (0, 0) M K) : ow_Sp C (EM A L N) d mX12_common (0, 0) [(1, l0), (1, l2)] M K := ow_enter (by decide +kernel) rfl rfl (cX12_common_0 h)
set_option maxRecDepth 20000 in
theorem cX12_odds_0 {C : ow_C} {A L N : Int} {d : Nat} {M : ow_M} {K : Int → ow_M → Prop} {l1 l2 l3 l4 : Int} (h : ow_Sp C (EM A L N) d mX12_isWord0 (0, 0) [(3, 83), (0, l1)] M (fun r1 N1 => (r1 = 0 → K ((-1)) N1) ∧ (r1 ≠ 0 → ow_Sp C (EM A L N) d mX12_isIn (0, 0) [(0, l2), (0, 0), (0, 8)] N1 (fun r2 N2 => (r2 = 0 → K ((-1)) N2) ∧ (r2 ≠ 0 → ow_I ((N2 84 2) - 1) ∧ ow_Sp C (EM A L N) d mX12_isIn (0, 0) [(0, l3), (0, 0), (0, (N2 84 2) - 1)] N2 (fun r3 N3 => (r3 = 0 → K ((-1)) N3) ∧ (r3 ≠ 0 → ow_Sp C (EM A L N) d mX12_isIn (0, 0) [(0, l4), (0, 0), (0, 1)] N3 (fun r4 N4 => (r4 ≠ 0 → ow_Sp C (EM A L N) d mX12_rule (0, 0) [(3, 83)] N4 (fun r5 N5 => ow_At C (EM A L N) (d + 1) mX12_odds 61 [(0, (3, 83)), (1, (0, l1)), (2, (0, l2)), (3, (0, l3)), (4, (0, l4)), (5, (1, 0)), (7, (1, 0)), (9, (0, 0))] [] (0, 0) N5 K)) ∧ (r4 = 0 → K ((-1)) N4))))))))) : ow_At C (EM A L N) (d + 1) mX12_odds 0 [(0, (3, 83)), (1, (0, l1)), (2, (0, l2)), (3, (0, l3)), (4, (0, l4))] [] (0, 0) M K := by
  refine ow_aload_n (pc' := 1) (x := 83) dX12_odds_0 rfl rfl ?_
  refine ow_iload_n (pc' := 2) (x := l1) dX12_odds_1 rfl rfl ?_
  refine ow_callVp (z := mX12_isWord0) (n := 1) (k := 12) (vs := [(0, l1)]) (x := 83) (st := []) (pc' := 5) (b1 := (0, 0)) (b2 := (0, 0)) dX12_odds_2 lRX12_102 kX12_isWord0 iX12_isWord0 rfl rfl rfl rfl rfl rfl (of_eq_true eo83) (ow_Sp.mono h (fun r1 N1 h => ?_))
  refine ow_ifeq (pc' := 8) (tg := 44) dX12_odds_5 rfl rfl (fun hc => ?_) (fun hc => ?_)
  · have h := h.1 hc
    refine ow_ldc2 (pc' := 47) (n := (-1)) dX12_odds_44 cRX12_327 rfl rfl ?_
    exact ow_lret dX12_odds_47 rfl rfl h
  · have h := h.2 hc
    refine ow_iload_n (pc' := 9) (x := l2) dX12_odds_8 rfl rfl ?_
    refine ow_iconst (pc' := 10) (n := 0) dX12_odds_9 rfl rfl ?_
    refine ow_bipush (pc' := 12) (n := 8) dX12_odds_10 rfl rfl ?_
    refine ow_callSp (z := mX12_isIn) (n := 3) (vs := [(0, l2), (0, 0), (0, 8)]) (st := []) (pc' := 15) (b1 := (0, 0)) (b2 := (0, 0)) dX12_odds_12 lRX12_91 kX12_isIn zX12_isIn rfl rfl rfl rfl rfl rfl (ow_Sp.mono h (fun r2 N2 h => ?_))
    refine ow_ifeq (pc' := 18) (tg := 44) dX12_odds_15 rfl rfl (fun hc => ?_) (fun hc => ?_)
    · have h := h.1 hc
      refine ow_ldc2 (pc' := 47) (n := (-1)) dX12_odds_44 cRX12_327 rfl rfl ?_
      exact ow_lret dX12_odds_47 rfl rfl h
    · have h := h.2 hc
      refine ow_iload_n (pc' := 19) (x := l3) dX12_odds_18 rfl rfl ?_
      refine ow_iconst (pc' := 20) (n := 0) dX12_odds_19 rfl rfl ?_
      refine ow_aload_n (pc' := 21) (x := 83) dX12_odds_20 rfl rfl ?_
      refine ow_getf3 (pc' := 24) (t := 3) (ji := 0) (val := 84) dX12_odds_21 fRX12_7 rfl rfl rfl (of_eq_true eo83) eg83_0 ?_
      refine ow_iconst (pc' := 25) (n := 2) dX12_odds_24 rfl rfl ?_
      refine ow_iaload3 (pc' := 26) (val := N2 84 2) dX12_odds_25 rfl (Eq.mpr (er84 _) ⟨by decide, by decide⟩) (ea84 _) ?_
      refine ow_iconst (pc' := 27) (n := 1) dX12_odds_26 rfl rfl ?_
      obtain ⟨vv1, h⟩ := h
      refine ow_isub (pc' := 28) dX12_odds_27 vv1 rfl ?_
      refine ow_callSp (z := mX12_isIn) (n := 3) (vs := [(0, l3), (0, 0), (0, (N2 84 2) - 1)]) (st := []) (pc' := 31) (b1 := (0, 0)) (b2 := (0, 0)) dX12_odds_28 lRX12_91 kX12_isIn zX12_isIn rfl rfl rfl rfl rfl rfl (ow_Sp.mono h (fun r3 N3 h => ?_))
      refine ow_ifeq (pc' := 34) (tg := 44) dX12_odds_31 rfl rfl (fun hc => ?_) (fun hc => ?_)
      · have h := h.1 hc
        refine ow_ldc2 (pc' := 47) (n := (-1)) dX12_odds_44 cRX12_327 rfl rfl ?_
        exact ow_lret dX12_odds_47 rfl rfl h
      · have h := h.2 hc
        refine ow_iload (pc' := 36) (x := l4) dX12_odds_34 rfl rfl ?_
        refine ow_iconst (pc' := 37) (n := 0) dX12_odds_36 rfl rfl ?_
        refine ow_iconst (pc' := 38) (n := 1) dX12_odds_37 rfl rfl ?_
        refine ow_callSp (z := mX12_isIn) (n := 3) (vs := [(0, l4), (0, 0), (0, 1)]) (st := []) (pc' := 41) (b1 := (0, 0)) (b2 := (0, 0)) dX12_odds_38 lRX12_91 kX12_isIn zX12_isIn rfl rfl rfl rfl rfl rfl (ow_Sp.mono h (fun r4 N4 h => ?_))
        refine ow_ifne (pc' := 44) (tg := 48) dX12_odds_41 rfl rfl (fun hc => ?_) (fun hc => ?_)
        · have h := h.1 hc
          refine ow_aload_n (pc' := 49) (x := 83) dX12_odds_48 rfl rfl ?_
          refine ow_callVv (z := mX12_rule) (n := 0) (k := 12) (vs := []) (x := 83) (st := []) (pc' := 52) (b1 := (0, 0)) (b2 := (0, 0)) dX12_odds_49 lRX12_321 kX12_rule iX12_rule rfl rfl rfl rfl rfl rfl (of_eq_true eo83) (ow_Sp.mono h (fun r5 N5 h => ?_))
          refine ow_lconst (pc' := 53) (i := 0) dX12_odds_52 rfl rfl ?_
          refine ow_lstore (pc' := 55) (lv' := [(0, (3, 83)), (1, (0, l1)), (2, (0, l2)), (3, (0, l3)), (4, (0, l4)), (5, (1, 0))]) dX12_odds_53 rfl rfl rfl ?_
          refine ow_lconst (pc' := 56) (i := 0) dX12_odds_55 rfl rfl ?_
          refine ow_lstore (pc' := 58) (lv' := [(0, (3, 83)), (1, (0, l1)), (2, (0, l2)), (3, (0, l3)), (4, (0, l4)), (5, (1, 0)), (7, (1, 0))]) dX12_odds_56 rfl rfl rfl ?_
          refine ow_iconst (pc' := 59) (n := 0) dX12_odds_58 rfl rfl ?_
          refine ow_istore (pc' := 61) (lv' := [(0, (3, 83)), (1, (0, l1)), (2, (0, l2)), (3, (0, l3)), (4, (0, l4)), (5, (1, 0)), (7, (1, 0)), (9, (0, 0))]) dX12_odds_59 rfl rfl rfl ?_
          exact h
        · have h := h.2 hc
          refine ow_ldc2 (pc' := 47) (n := (-1)) dX12_odds_44 cRX12_327 rfl rfl ?_
          exact ow_lret dX12_odds_47 rfl rfl h
set_option maxRecDepth 20000 in
theorem cX12_odds_61 {C : ow_C} {A L N : Int} {d : Nat} {M : ow_M} {K : Int → ow_M → Prop} {l1 l2 l3 l4 l5 l7 l9 : Int} (h : ((M 84 2) ≤ l9 → ((ow_lcmp l5 0) ≠ 0 → (l4 ≠ 0 → ow_At C (EM A L N) (d + 1) mX12_odds 153 [(5, (1, l5)), (7, (1, l7))] [(1, l5)] (0, 0) M K) ∧ (l4 = 0 → ow_At C (EM A L N) (d + 1) mX12_odds 153 [(5, (1, l5)), (7, (1, l7))] [(1, l7)] (0, 0) M K)) ∧ ((ow_lcmp l5 0) = 0 → K ((-1)) M)) ∧ (l9 < (M 84 2) → ow_I (2 * l9) ∧ ow_I (10 + (2 * l9)) ∧ ow_I ((10 + (2 * l9)) + 1) ∧ (0 ≤ ((10 + (2 * l9)) + 1) ∧ ((10 + (2 * l9)) + 1) < 215) ∧ ow_Sp C (EM A L N) d mX12_wordOf (0, 0) [(3, 83), (0, l9)] M (fun r1 N1 => ow_Sp C (EM A L N) d mX12_waysOf (0, 0) [(3, 83), (0, r1), (0, l1), (0, l2)] N1 (fun r2 N2 => ow_L ((M 84 ((10 + (2 * l9)) + 1)) * r2) ∧ ow_L (l5 + ((M 84 ((10 + (2 * l9)) + 1)) * r2)) ∧ (l9 ≠ l3 → ow_I (l9 + 1) ∧ ow_At C (EM A L N) (d + 1) mX12_odds 61 [(0, (3, 83)), (1, (0, l1)), (2, (0, l2)), (3, (0, l3)), (4, (0, l4)), (5, (1, l5 + ((M 84 ((10 + (2 * l9)) + 1)) * r2))), (7, (1, l7)), (9, (0, l9 + 1))] [] (0, 0) N2 K) ∧ (l9 = l3 → ow_I (l9 + 1) ∧ ow_At C (EM A L N) (d + 1) mX12_odds 61 [(0, (3, 83)), (1, (0, l1)), (2, (0, l2)), (3, (0, l3)), (4, (0, l4)), (5, (1, l5 + ((M 84 ((10 + (2 * l9)) + 1)) * r2))), (7, (1, (M 84 ((10 + (2 * l9)) + 1)) * r2)), (9, (0, l9 + 1))] [] (0, 0) N2 K))))) : ow_At C (EM A L N) (d + 1) mX12_odds 61 [(0, (3, 83)), (1, (0, l1)), (2, (0, l2)), (3, (0, l3)), (4, (0, l4)), (5, (1, l5)), (7, (1, l7)), (9, (0, l9))] [] (0, 0) M K := by
  refine ow_iload (pc' := 63) (x := l9) dX12_odds_61 rfl rfl ?_
  refine ow_aload_n (pc' := 64) (x := 83) dX12_odds_63 rfl rfl ?_
  refine ow_getf3 (pc' := 67) (t := 3) (ji := 0) (val := 84) dX12_odds_64 fRX12_7 rfl rfl rfl (of_eq_true eo83) eg83_0 ?_
  refine ow_iconst (pc' := 68) (n := 2) dX12_odds_67 rfl rfl ?_
  refine ow_iaload3 (pc' := 69) (val := M 84 2) dX12_odds_68 rfl (Eq.mpr (er84 _) ⟨by decide, by decide⟩) (ea84 _) ?_
  refine ow_icmpge (pc' := 72) (tg := 130) dX12_odds_69 rfl rfl (fun hc => ?_) (fun hc => ?_)
  · have h := h.1 hc
    refine ow_lload (pc' := 132) (x := l5) dX12_odds_130 rfl rfl ?_
    refine ow_lconst (pc' := 133) (i := 0) dX12_odds_132 rfl rfl ?_
    refine ow_Lcmp (pc' := 134) dX12_odds_133 rfl ?_
    refine ow_ifne (pc' := 137) (tg := 141) dX12_odds_134 rfl rfl (fun hc => ?_) (fun hc => ?_)
    · have h := h.1 hc
      refine ow_iload (pc' := 143) (x := l4) dX12_odds_141 rfl rfl ?_
      refine ow_ifne (pc' := 146) (tg := 151) dX12_odds_143 rfl rfl (fun hc => ?_) (fun hc => ?_)
      · have h := h.1 hc
        refine ow_lload (pc' := 153) (x := l5) dX12_odds_151 rfl rfl ?_
        refine ow_sub (lv' := [(5, (1, l5)), (7, (1, l7))]) [5, 6] rfl ?_
        exact h
      · have h := h.2 hc
        refine ow_lload (pc' := 148) (x := l7) dX12_odds_146 rfl rfl ?_
        refine ow_goto (tg := 153) dX12_odds_148 rfl ?_
        refine ow_sub (lv' := [(5, (1, l5)), (7, (1, l7))]) [5, 6] rfl ?_
        exact h
    · have h := h.2 hc
      refine ow_ldc2 (pc' := 140) (n := (-1)) dX12_odds_137 cRX12_327 rfl rfl ?_
      exact ow_lret dX12_odds_140 rfl rfl h
  · have h := h.2 hc
    refine ow_aload_n (pc' := 73) (x := 83) dX12_odds_72 rfl rfl ?_
    refine ow_getf3 (pc' := 76) (t := 3) (ji := 0) (val := 84) dX12_odds_73 fRX12_7 rfl rfl rfl (of_eq_true eo83) eg83_0 ?_
    refine ow_bipush (pc' := 78) (n := 10) dX12_odds_76 rfl rfl ?_
    refine ow_iconst (pc' := 79) (n := 2) dX12_odds_78 rfl rfl ?_
    refine ow_iload (pc' := 81) (x := l9) dX12_odds_79 rfl rfl ?_
    obtain ⟨vv1, h⟩ := h
    refine ow_imul (pc' := 82) dX12_odds_81 vv1 rfl ?_
    obtain ⟨vv2, h⟩ := h
    refine ow_iadd (pc' := 83) dX12_odds_82 vv2 rfl ?_
    refine ow_iconst (pc' := 84) (n := 1) dX12_odds_83 rfl rfl ?_
    obtain ⟨vv3, h⟩ := h
    refine ow_iadd (pc' := 85) dX12_odds_84 vv3 rfl ?_
    obtain ⟨vv4, h⟩ := h
    refine ow_iaload3 (pc' := 86) (val := M 84 ((10 + (2 * l9)) + 1)) dX12_odds_85 rfl (Eq.mpr (er84 _) vv4) (ea84 _) ?_
    refine ow_i2L (pc' := 87) dX12_odds_86 rfl ?_
    refine ow_aload_n (pc' := 88) (x := 83) dX12_odds_87 rfl rfl ?_
    refine ow_aload_n (pc' := 89) (x := 83) dX12_odds_88 rfl rfl ?_
    refine ow_iload (pc' := 91) (x := l9) dX12_odds_89 rfl rfl ?_
    refine ow_callVp (z := mX12_wordOf) (n := 1) (k := 12) (vs := [(0, l9)]) (x := 83) (st := [(3, 83), (1, M 84 ((10 + (2 * l9)) + 1))]) (pc' := 94) (b1 := (0, 0)) (b2 := (0, 0)) dX12_odds_91 lRX12_98 kX12_wordOf iX12_wordOf rfl rfl rfl rfl rfl rfl (of_eq_true eo83) (ow_Sp.mono h (fun r1 N1 h => ?_))
    refine ow_iload_n (pc' := 95) (x := l1) dX12_odds_94 rfl rfl ?_
    refine ow_iload_n (pc' := 96) (x := l2) dX12_odds_95 rfl rfl ?_
    refine ow_callVp (z := mX12_waysOf) (n := 3) (k := 12) (vs := [(0, r1), (0, l1), (0, l2)]) (x := 83) (st := [(1, M 84 ((10 + (2 * l9)) + 1))]) (pc' := 99) (b1 := (0, 0)) (b2 := (0, 0)) dX12_odds_96 lRX12_315 kX12_waysOf iX12_waysOf rfl rfl rfl rfl rfl rfl (of_eq_true eo83) (ow_Sp.mono h (fun r2 N2 h => ?_))
    obtain ⟨vv5, h⟩ := h
    refine ow_lmul (pc' := 100) dX12_odds_99 vv5 rfl ?_
    refine ow_lstore (pc' := 102) (lv' := [(0, (3, 83)), (1, (0, l1)), (2, (0, l2)), (3, (0, l3)), (4, (0, l4)), (5, (1, l5)), (7, (1, l7)), (9, (0, l9)), (10, (1, (M 84 ((10 + (2 * l9)) + 1)) * r2))]) dX12_odds_100 rfl rfl rfl ?_
    refine ow_lload (pc' := 104) (x := l5) dX12_odds_102 rfl rfl ?_
    refine ow_lload (pc' := 106) (x := (M 84 ((10 + (2 * l9)) + 1)) * r2) dX12_odds_104 rfl rfl ?_
    obtain ⟨vv6, h⟩ := h
    refine ow_ladd (pc' := 107) dX12_odds_106 vv6 rfl ?_
    refine ow_lstore (pc' := 109) (lv' := [(0, (3, 83)), (1, (0, l1)), (2, (0, l2)), (3, (0, l3)), (4, (0, l4)), (5, (1, l5 + ((M 84 ((10 + (2 * l9)) + 1)) * r2))), (7, (1, l7)), (9, (0, l9)), (10, (1, (M 84 ((10 + (2 * l9)) + 1)) * r2))]) dX12_odds_107 rfl rfl rfl ?_
    refine ow_iload (pc' := 111) (x := l9) dX12_odds_109 rfl rfl ?_
    refine ow_iload_n (pc' := 112) (x := l3) dX12_odds_111 rfl rfl ?_
    refine ow_icmpne (pc' := 115) (tg := 120) dX12_odds_112 rfl rfl (fun hc => ?_) (fun hc => ?_)
    · have h := h.1 hc
      refine ow_lload (pc' := 122) (x := l7) dX12_odds_120 rfl rfl ?_
      refine ow_lstore (pc' := 124) (lv' := [(0, (3, 83)), (1, (0, l1)), (2, (0, l2)), (3, (0, l3)), (4, (0, l4)), (5, (1, l5 + ((M 84 ((10 + (2 * l9)) + 1)) * r2))), (7, (1, l7)), (9, (0, l9)), (10, (1, (M 84 ((10 + (2 * l9)) + 1)) * r2))]) dX12_odds_122 rfl rfl rfl ?_
      obtain ⟨vv7, h⟩ := h
      refine ow_iinc (pc' := 127) (lv' := [(0, (3, 83)), (1, (0, l1)), (2, (0, l2)), (3, (0, l3)), (4, (0, l4)), (5, (1, l5 + ((M 84 ((10 + (2 * l9)) + 1)) * r2))), (7, (1, l7)), (9, (0, l9 + 1)), (10, (1, (M 84 ((10 + (2 * l9)) + 1)) * r2))]) dX12_odds_124 rfl vv7 rfl rfl rfl ?_
      refine ow_goto (tg := 61) dX12_odds_127 rfl ?_
      refine ow_sub (lv' := [(0, (3, 83)), (1, (0, l1)), (2, (0, l2)), (3, (0, l3)), (4, (0, l4)), (5, (1, l5 + ((M 84 ((10 + (2 * l9)) + 1)) * r2))), (7, (1, l7)), (9, (0, l9 + 1))]) [0, 1, 2, 3, 4, 5, 6, 7] rfl ?_
      exact h
    · have h := h.2 hc
      refine ow_lload (pc' := 117) (x := (M 84 ((10 + (2 * l9)) + 1)) * r2) dX12_odds_115 rfl rfl ?_
      refine ow_goto (tg := 122) dX12_odds_117 rfl ?_
      refine ow_lstore (pc' := 124) (lv' := [(0, (3, 83)), (1, (0, l1)), (2, (0, l2)), (3, (0, l3)), (4, (0, l4)), (5, (1, l5 + ((M 84 ((10 + (2 * l9)) + 1)) * r2))), (7, (1, (M 84 ((10 + (2 * l9)) + 1)) * r2)), (9, (0, l9)), (10, (1, (M 84 ((10 + (2 * l9)) + 1)) * r2))]) dX12_odds_122 rfl rfl rfl ?_
      obtain ⟨vv8, h⟩ := h
      refine ow_iinc (pc' := 127) (lv' := [(0, (3, 83)), (1, (0, l1)), (2, (0, l2)), (3, (0, l3)), (4, (0, l4)), (5, (1, l5 + ((M 84 ((10 + (2 * l9)) + 1)) * r2))), (7, (1, (M 84 ((10 + (2 * l9)) + 1)) * r2)), (9, (0, l9 + 1)), (10, (1, (M 84 ((10 + (2 * l9)) + 1)) * r2))]) dX12_odds_124 rfl vv8 rfl rfl rfl ?_
      refine ow_goto (tg := 61) dX12_odds_127 rfl ?_
      refine ow_sub (lv' := [(0, (3, 83)), (1, (0, l1)), (2, (0, l2)), (3, (0, l3)), (4, (0, l4)), (5, (1, l5 + ((M 84 ((10 + (2 * l9)) + 1)) * r2))), (7, (1, (M 84 ((10 + (2 * l9)) + 1)) * r2)), (9, (0, l9 + 1))]) [0, 1, 2, 3, 4, 5, 6, 7] rfl ?_
      exact h
set_option maxRecDepth 20000 in
theorem cX12_odds_153 {C : ow_C} {A L N : Int} {d : Nat} {M : ow_M} {K : Int → ow_M → Prop} {l5 l7 s0 : Int} (h : ow_Sp C (EM A L N) d mX12_common (0, 0) [(1, l7), (1, l5)] M (fun r1 N1 => r1 ≠ 0 ∧ ow_L (Int.tdiv s0 r1) ∧ K (Int.tdiv s0 r1) N1)) : ow_At C (EM A L N) (d + 1) mX12_odds 153 [(5, (1, l5)), (7, (1, l7))] [(1, s0)] (0, 0) M K := by
  refine ow_lload (pc' := 155) (x := l7) dX12_odds_153 rfl rfl ?_
  refine ow_lload (pc' := 157) (x := l5) dX12_odds_155 rfl rfl ?_
  refine ow_callSp (z := mX12_common) (n := 2) (vs := [(1, l7), (1, l5)]) (st := [(1, s0)]) (pc' := 160) (b1 := (0, 0)) (b2 := (0, 0)) dX12_odds_157 lRX12_342 kX12_common zX12_common rfl rfl rfl rfl rfl rfl (ow_Sp.mono h (fun r1 N1 h => ?_))
  obtain ⟨w0, w, h⟩ := h
  refine ow_ldiv (pc' := 161) dX12_odds_160 w0 w rfl ?_
  exact ow_lret dX12_odds_161 rfl rfl h
theorem fX12_odds {C : ow_C} {A L N : Int} {d : Nat} {M : ow_M} {K : Int → ow_M → Prop} {l1 l2 l3 l4 : Int} (h : ow_Sp C (EM A L N) d mX12_isWord0 (0, 0) [(3, 83), (0, l1)] M (fun r1 N1 => (r1 = 0 → K ((-1)) N1) ∧ (r1 ≠ 0 → ow_Sp C (EM A L N) d mX12_isIn (0, 0) [(0, l2), (0, 0), (0, 8)] N1 (fun r2 N2 => (r2 = 0 → K ((-1)) N2) ∧ (r2 ≠ 0 → ow_I ((N2 84 2) - 1) ∧ ow_Sp C (EM A L N) d mX12_isIn (0, 0) [(0, l3), (0, 0), (0, (N2 84 2) - 1)] N2 (fun r3 N3 => (r3 = 0 → K ((-1)) N3) ∧ (r3 ≠ 0 → ow_Sp C (EM A L N) d mX12_isIn (0, 0) [(0, l4), (0, 0), (0, 1)] N3 (fun r4 N4 => (r4 ≠ 0 → ow_Sp C (EM A L N) d mX12_rule (0, 0) [(3, 83)] N4 (fun r5 N5 => ow_At C (EM A L N) (d + 1) mX12_odds 61 [(0, (3, 83)), (1, (0, l1)), (2, (0, l2)), (3, (0, l3)), (4, (0, l4)), (5, (1, 0)), (7, (1, 0)), (9, (0, 0))] [] (0, 0) N5 K)) ∧ (r4 = 0 → K ((-1)) N4))))))))) : ow_Sp C (EM A L N) (d + 1) mX12_odds (0, 0) [(3, 83), (0, l1), (0, l2), (0, l3), (0, l4)] M K := ow_enter (by decide +kernel) rfl rfl (cX12_odds_0 h)
set_option maxRecDepth 20000 in
theorem cX12_roads_0 {C : ow_C} {A L N : Int} {d : Nat} {M : ow_M} {K : Int → ow_M → Prop} (h : ow_At C (EM A L N) d mX12_roads 4 [(0, (3, 83)), (1, (0, 0)), (2, (0, 0))] [] (0, 0) M K) : ow_At C (EM A L N) d mX12_roads 0 [(0, (3, 83))] [] (0, 0) M K := by
  refine ow_iconst (pc' := 1) (n := 0) dX12_roads_0 rfl rfl ?_
  refine ow_istore_n (pc' := 2) (lv' := [(0, (3, 83)), (1, (0, 0))]) dX12_roads_1 rfl rfl rfl ?_
  refine ow_iconst (pc' := 3) (n := 0) dX12_roads_2 rfl rfl ?_
  refine ow_istore_n (pc' := 4) (lv' := [(0, (3, 83)), (1, (0, 0)), (2, (0, 0))]) dX12_roads_3 rfl rfl rfl ?_
  exact h
set_option maxRecDepth 20000 in
theorem cX12_roads_4 {C : ow_C} {A L N : Int} {d : Nat} {M : ow_M} {K : Int → ow_M → Prop} {l1 l2 : Int} (h : ((M 84 1) < 0 → K l1 M) ∧ (0 ≤ (M 84 1) → ow_I (680 * (M 84 1)) ∧ (0 ≤ (680 * (M 84 1)) ∧ (680 * (M 84 1)) < 2720) ∧ ((M 86 (680 * (M 84 1))) ≤ l2 → K l1 M) ∧ (l2 < (M 86 (680 * (M 84 1))) → ow_I ((680 * (M 84 1)) + 1) ∧ ow_I (3 * l2) ∧ ow_I (((680 * (M 84 1)) + 1) + (3 * l2)) ∧ (0 ≤ (((680 * (M 84 1)) + 1) + (3 * l2)) ∧ (((680 * (M 84 1)) + 1) + (3 * l2)) < 2720) ∧ ((M 86 (((680 * (M 84 1)) + 1) + (3 * l2))) ≠ 3 → ow_I (l1 + 0) ∧ ow_I (l2 + 1) ∧ ow_At C (EM A L N) d mX12_roads 4 [(0, (3, 83)), (1, (0, l1 + 0)), (2, (0, l2 + 1))] [] (0, 0) M K) ∧ ((M 86 (((680 * (M 84 1)) + 1) + (3 * l2))) = 3 → ow_I (l1 + 1) ∧ ow_I (l2 + 1) ∧ ow_At C (EM A L N) d mX12_roads 4 [(0, (3, 83)), (1, (0, l1 + 1)), (2, (0, l2 + 1))] [] (0, 0) M K)))) : ow_At C (EM A L N) d mX12_roads 4 [(0, (3, 83)), (1, (0, l1)), (2, (0, l2))] [] (0, 0) M K := by
  refine ow_aload_n (pc' := 5) (x := 83) dX12_roads_4 rfl rfl ?_
  refine ow_getf3 (pc' := 8) (t := 3) (ji := 0) (val := 84) dX12_roads_5 fRX12_7 rfl rfl rfl (of_eq_true eo83) eg83_0 ?_
  refine ow_iconst (pc' := 9) (n := 1) dX12_roads_8 rfl rfl ?_
  refine ow_iaload3 (pc' := 10) (val := M 84 1) dX12_roads_9 rfl (Eq.mpr (er84 _) ⟨by decide, by decide⟩) (ea84 _) ?_
  refine ow_iflt (pc' := 13) (tg := 71) dX12_roads_10 rfl rfl (fun hc => ?_) (fun hc => ?_)
  · have h := h.1 hc
    refine ow_iload_n (pc' := 72) (x := l1) dX12_roads_71 rfl rfl ?_
    exact ow_iret dX12_roads_72 rfl rfl h
  · have h := h.2 hc
    refine ow_iload_n (pc' := 14) (x := l2) dX12_roads_13 rfl rfl ?_
    refine ow_aload_n (pc' := 15) (x := 83) dX12_roads_14 rfl rfl ?_
    refine ow_getf3 (pc' := 18) (t := 3) (ji := 5) (val := 86) dX12_roads_15 fRX12_16 rfl rfl rfl (of_eq_true eo83) eg83_5 ?_
    refine ow_sipush (pc' := 21) (n := 680) dX12_roads_18 rfl rfl ?_
    refine ow_aload_n (pc' := 22) (x := 83) dX12_roads_21 rfl rfl ?_
    refine ow_getf3 (pc' := 25) (t := 3) (ji := 0) (val := 84) dX12_roads_22 fRX12_7 rfl rfl rfl (of_eq_true eo83) eg83_0 ?_
    refine ow_iconst (pc' := 26) (n := 1) dX12_roads_25 rfl rfl ?_
    refine ow_iaload3 (pc' := 27) (val := M 84 1) dX12_roads_26 rfl (Eq.mpr (er84 _) ⟨by decide, by decide⟩) (ea84 _) ?_
    obtain ⟨vv1, h⟩ := h
    refine ow_imul (pc' := 28) dX12_roads_27 vv1 rfl ?_
    obtain ⟨vv2, h⟩ := h
    refine ow_iaload3 (pc' := 29) (val := M 86 (680 * (M 84 1))) dX12_roads_28 rfl (Eq.mpr (er86 _) vv2) (ea86 _) ?_
    refine ow_icmpge (pc' := 32) (tg := 71) dX12_roads_29 rfl rfl (fun hc => ?_) (fun hc => ?_)
    · have h := h.1 hc
      refine ow_iload_n (pc' := 72) (x := l1) dX12_roads_71 rfl rfl ?_
      exact ow_iret dX12_roads_72 rfl rfl h
    · have h := h.2 hc
      refine ow_iload_n (pc' := 33) (x := l1) dX12_roads_32 rfl rfl ?_
      refine ow_aload_n (pc' := 34) (x := 83) dX12_roads_33 rfl rfl ?_
      refine ow_getf3 (pc' := 37) (t := 3) (ji := 5) (val := 86) dX12_roads_34 fRX12_16 rfl rfl rfl (of_eq_true eo83) eg83_5 ?_
      refine ow_sipush (pc' := 40) (n := 680) dX12_roads_37 rfl rfl ?_
      refine ow_aload_n (pc' := 41) (x := 83) dX12_roads_40 rfl rfl ?_
      refine ow_getf3 (pc' := 44) (t := 3) (ji := 0) (val := 84) dX12_roads_41 fRX12_7 rfl rfl rfl (of_eq_true eo83) eg83_0 ?_
      refine ow_iconst (pc' := 45) (n := 1) dX12_roads_44 rfl rfl ?_
      refine ow_iaload3 (pc' := 46) (val := M 84 1) dX12_roads_45 rfl (Eq.mpr (er84 _) ⟨by decide, by decide⟩) (ea84 _) ?_
      refine ow_imul (pc' := 47) dX12_roads_46 vv1 rfl ?_
      refine ow_iconst (pc' := 48) (n := 1) dX12_roads_47 rfl rfl ?_
      obtain ⟨vv3, h⟩ := h
      refine ow_iadd (pc' := 49) dX12_roads_48 vv3 rfl ?_
      refine ow_iconst (pc' := 50) (n := 3) dX12_roads_49 rfl rfl ?_
      refine ow_iload_n (pc' := 51) (x := l2) dX12_roads_50 rfl rfl ?_
      obtain ⟨vv4, h⟩ := h
      refine ow_imul (pc' := 52) dX12_roads_51 vv4 rfl ?_
      obtain ⟨vv5, h⟩ := h
      refine ow_iadd (pc' := 53) dX12_roads_52 vv5 rfl ?_
      obtain ⟨vv6, h⟩ := h
      refine ow_iaload3 (pc' := 54) (val := M 86 (((680 * (M 84 1)) + 1) + (3 * l2))) dX12_roads_53 rfl (Eq.mpr (er86 _) vv6) (ea86 _) ?_
      refine ow_iconst (pc' := 55) (n := 3) dX12_roads_54 rfl rfl ?_
      refine ow_icmpne (pc' := 58) (tg := 62) dX12_roads_55 rfl rfl (fun hc => ?_) (fun hc => ?_)
      · have h := h.1 hc
        refine ow_iconst (pc' := 63) (n := 0) dX12_roads_62 rfl rfl ?_
        obtain ⟨vv7, h⟩ := h
        refine ow_iadd (pc' := 64) dX12_roads_63 vv7 rfl ?_
        refine ow_istore_n (pc' := 65) (lv' := [(0, (3, 83)), (1, (0, l1 + 0)), (2, (0, l2))]) dX12_roads_64 rfl rfl rfl ?_
        obtain ⟨vv8, h⟩ := h
        refine ow_iinc (pc' := 68) (lv' := [(0, (3, 83)), (1, (0, l1 + 0)), (2, (0, l2 + 1))]) dX12_roads_65 rfl vv8 rfl rfl rfl ?_
        refine ow_goto (tg := 4) dX12_roads_68 rfl ?_
        exact h
      · have h := h.2 hc
        refine ow_iconst (pc' := 59) (n := 1) dX12_roads_58 rfl rfl ?_
        refine ow_goto (tg := 63) dX12_roads_59 rfl ?_
        obtain ⟨vv9, h⟩ := h
        refine ow_iadd (pc' := 64) dX12_roads_63 vv9 rfl ?_
        refine ow_istore_n (pc' := 65) (lv' := [(0, (3, 83)), (1, (0, l1 + 1)), (2, (0, l2))]) dX12_roads_64 rfl rfl rfl ?_
        obtain ⟨vv10, h⟩ := h
        refine ow_iinc (pc' := 68) (lv' := [(0, (3, 83)), (1, (0, l1 + 1)), (2, (0, l2 + 1))]) dX12_roads_65 rfl vv10 rfl rfl rfl ?_
        refine ow_goto (tg := 4) dX12_roads_68 rfl ?_
        exact h
theorem fX12_roads {C : ow_C} {A L N : Int} {d : Nat} {M : ow_M} {K : Int → ow_M → Prop} (h : ow_At C (EM A L N) d mX12_roads 4 [(0, (3, 83)), (1, (0, 0)), (2, (0, 0))] [] (0, 0) M K) : ow_Sp C (EM A L N) d mX12_roads (0, 0) [(3, 83)] M K := ow_enter (by decide +kernel) rfl rfl (cX12_roads_0 h)
set_option maxRecDepth 20000 in
theorem cX12_roadAt_0 {C : ow_C} {A L N : Int} {d : Nat} {M : ow_M} {K : Int → ow_M → Prop} {l1 : Int} (h : ow_I (680 * (M 84 1)) ∧ ow_I ((680 * (M 84 1)) + 1) ∧ ow_At C (EM A L N) d mX12_roadAt 15 [(0, (3, 83)), (1, (0, l1)), (2, (0, (-1))), (3, (0, (680 * (M 84 1)) + 1))] [] (0, 0) M K) : ow_At C (EM A L N) d mX12_roadAt 0 [(0, (3, 83)), (1, (0, l1))] [] (0, 0) M K := by
  refine ow_iconst (pc' := 1) (n := (-1)) dX12_roadAt_0 rfl rfl ?_
  refine ow_istore_n (pc' := 2) (lv' := [(0, (3, 83)), (1, (0, l1)), (2, (0, (-1)))]) dX12_roadAt_1 rfl rfl rfl ?_
  refine ow_sipush (pc' := 5) (n := 680) dX12_roadAt_2 rfl rfl ?_
  refine ow_aload_n (pc' := 6) (x := 83) dX12_roadAt_5 rfl rfl ?_
  refine ow_getf3 (pc' := 9) (t := 3) (ji := 0) (val := 84) dX12_roadAt_6 fRX12_7 rfl rfl rfl (of_eq_true eo83) eg83_0 ?_
  refine ow_iconst (pc' := 10) (n := 1) dX12_roadAt_9 rfl rfl ?_
  refine ow_iaload3 (pc' := 11) (val := M 84 1) dX12_roadAt_10 rfl (Eq.mpr (er84 _) ⟨by decide, by decide⟩) (ea84 _) ?_
  obtain ⟨vv1, h⟩ := h
  refine ow_imul (pc' := 12) dX12_roadAt_11 vv1 rfl ?_
  refine ow_iconst (pc' := 13) (n := 1) dX12_roadAt_12 rfl rfl ?_
  obtain ⟨vv2, h⟩ := h
  refine ow_iadd (pc' := 14) dX12_roadAt_13 vv2 rfl ?_
  refine ow_istore_n (pc' := 15) (lv' := [(0, (3, 83)), (1, (0, l1)), (2, (0, (-1))), (3, (0, (680 * (M 84 1)) + 1))]) dX12_roadAt_14 rfl rfl rfl ?_
  exact h
set_option maxRecDepth 20000 in
theorem cX12_roadAt_15 {C : ow_C} {A L N : Int} {d : Nat} {M : ow_M} {K : Int → ow_M → Prop} {l1 l2 l3 : Int} (h : (0 ≤ l3 ∧ l3 < 2720) ∧ ((M 86 l3) ≠ 3 → ow_At C (EM A L N) d mX12_roadAt 31 [(0, (3, 83)), (1, (0, l1)), (3, (0, l3))] [(0, 0), (0, l2)] (0, 0) M K) ∧ ((M 86 l3) = 3 → ow_At C (EM A L N) d mX12_roadAt 31 [(0, (3, 83)), (1, (0, l1)), (3, (0, l3))] [(0, 1), (0, l2)] (0, 0) M K)) : ow_At C (EM A L N) d mX12_roadAt 15 [(0, (3, 83)), (1, (0, l1)), (2, (0, l2)), (3, (0, l3))] [] (0, 0) M K := by
  refine ow_iload_n (pc' := 16) (x := l2) dX12_roadAt_15 rfl rfl ?_
  refine ow_aload_n (pc' := 17) (x := 83) dX12_roadAt_16 rfl rfl ?_
  refine ow_getf3 (pc' := 20) (t := 3) (ji := 5) (val := 86) dX12_roadAt_17 fRX12_16 rfl rfl rfl (of_eq_true eo83) eg83_5 ?_
  refine ow_iload_n (pc' := 21) (x := l3) dX12_roadAt_20 rfl rfl ?_
  obtain ⟨vv1, h⟩ := h
  refine ow_iaload3 (pc' := 22) (val := M 86 l3) dX12_roadAt_21 rfl (Eq.mpr (er86 _) vv1) (ea86 _) ?_
  refine ow_iconst (pc' := 23) (n := 3) dX12_roadAt_22 rfl rfl ?_
  refine ow_icmpne (pc' := 26) (tg := 30) dX12_roadAt_23 rfl rfl (fun hc => ?_) (fun hc => ?_)
  · have h := h.1 hc
    refine ow_iconst (pc' := 31) (n := 0) dX12_roadAt_30 rfl rfl ?_
    refine ow_sub (lv' := [(0, (3, 83)), (1, (0, l1)), (3, (0, l3))]) [0, 1, 3] rfl ?_
    exact h
  · have h := h.2 hc
    refine ow_iconst (pc' := 27) (n := 1) dX12_roadAt_26 rfl rfl ?_
    refine ow_goto (tg := 31) dX12_roadAt_27 rfl ?_
    refine ow_sub (lv' := [(0, (3, 83)), (1, (0, l1)), (3, (0, l3))]) [0, 1, 3] rfl ?_
    exact h
set_option maxRecDepth 20000 in
theorem cX12_roadAt_31 {C : ow_C} {A L N : Int} {d : Nat} {M : ow_M} {K : Int → ow_M → Prop} {l1 l3 s0 s1 : Int} (h : ow_I (s1 + s0) ∧ ((s1 + s0) ≠ l1 → ow_I (l3 + 3) ∧ ow_At C (EM A L N) d mX12_roadAt 15 [(0, (3, 83)), (1, (0, l1)), (2, (0, s1 + s0)), (3, (0, l3 + 3))] [] (0, 0) M K) ∧ ((s1 + s0) = l1 → K l3 M)) : ow_At C (EM A L N) d mX12_roadAt 31 [(0, (3, 83)), (1, (0, l1)), (3, (0, l3))] [(0, s0), (0, s1)] (0, 0) M K := by
  obtain ⟨vv1, h⟩ := h
  refine ow_iadd (pc' := 32) dX12_roadAt_31 vv1 rfl ?_
  refine ow_istore_n (pc' := 33) (lv' := [(0, (3, 83)), (1, (0, l1)), (2, (0, s1 + s0)), (3, (0, l3))]) dX12_roadAt_32 rfl rfl rfl ?_
  refine ow_iload_n (pc' := 34) (x := s1 + s0) dX12_roadAt_33 rfl rfl ?_
  refine ow_iload_n (pc' := 35) (x := l1) dX12_roadAt_34 rfl rfl ?_
  refine ow_icmpne (pc' := 38) (tg := 40) dX12_roadAt_35 rfl rfl (fun hc => ?_) (fun hc => ?_)
  · have h := h.1 hc
    obtain ⟨vv2, h⟩ := h
    refine ow_iinc (pc' := 43) (lv' := [(0, (3, 83)), (1, (0, l1)), (2, (0, s1 + s0)), (3, (0, l3 + 3))]) dX12_roadAt_40 rfl vv2 rfl rfl rfl ?_
    refine ow_goto (tg := 15) dX12_roadAt_43 rfl ?_
    exact h
  · have h := h.2 hc
    refine ow_iload_n (pc' := 39) (x := l3) dX12_roadAt_38 rfl rfl ?_
    exact ow_iret dX12_roadAt_39 rfl rfl h
theorem fX12_roadAt {C : ow_C} {A L N : Int} {d : Nat} {M : ow_M} {K : Int → ow_M → Prop} {l1 : Int} (h : ow_I (680 * (M 84 1)) ∧ ow_I ((680 * (M 84 1)) + 1) ∧ ow_At C (EM A L N) d mX12_roadAt 15 [(0, (3, 83)), (1, (0, l1)), (2, (0, (-1))), (3, (0, (680 * (M 84 1)) + 1))] [] (0, 0) M K) : ow_Sp C (EM A L N) d mX12_roadAt (0, 0) [(3, 83), (0, l1)] M K := ow_enter (by decide +kernel) rfl rfl (cX12_roadAt_0 h)
set_option maxRecDepth 20000 in
theorem cX12_comesBy_0 {C : ow_C} {A L N : Int} {d : Nat} {M : ow_M} {K : Int → ow_M → Prop} {l1 l2 l3 : Int} (h : ow_Sp C (EM A L N) d mX12_roadAt (0, 0) [(3, 83), (0, l3)] M (fun r1 N1 => ow_Sp C (EM A L N) d mX12_begin (0, 0) [(3, 83), (0, l1)] N1 (fun r2 N2 => ow_At C (EM A L N) (d + 1) mX12_comesBy 15 [(0, (3, 83)), (2, (0, l2)), (4, (0, r1)), (5, (0, 0))] [] (0, 0) N2 K))) : ow_At C (EM A L N) (d + 1) mX12_comesBy 0 [(0, (3, 83)), (1, (0, l1)), (2, (0, l2)), (3, (0, l3))] [] (0, 0) M K := by
  refine ow_aload_n (pc' := 1) (x := 83) dX12_comesBy_0 rfl rfl ?_
  refine ow_iload_n (pc' := 2) (x := l3) dX12_comesBy_1 rfl rfl ?_
  refine ow_callVp (z := mX12_roadAt) (n := 1) (k := 12) (vs := [(0, l3)]) (x := 83) (st := []) (pc' := 5) (b1 := (0, 0)) (b2 := (0, 0)) dX12_comesBy_2 lRX12_346 kX12_roadAt iX12_roadAt rfl rfl rfl rfl rfl rfl (of_eq_true eo83) (ow_Sp.mono h (fun r1 N1 h => ?_))
  refine ow_istore (pc' := 7) (lv' := [(0, (3, 83)), (1, (0, l1)), (2, (0, l2)), (3, (0, l3)), (4, (0, r1))]) dX12_comesBy_5 rfl rfl rfl ?_
  refine ow_aload_n (pc' := 8) (x := 83) dX12_comesBy_7 rfl rfl ?_
  refine ow_iload_n (pc' := 9) (x := l1) dX12_comesBy_8 rfl rfl ?_
  refine ow_callVv (z := mX12_begin) (n := 1) (k := 12) (vs := [(0, l1)]) (x := 83) (st := []) (pc' := 12) (b1 := (0, 0)) (b2 := (0, 0)) dX12_comesBy_9 lRX12_305 kX12_begin iX12_begin rfl rfl rfl rfl rfl rfl (of_eq_true eo83) (ow_Sp.mono h (fun r2 N2 h => ?_))
  refine ow_iconst (pc' := 13) (n := 0) dX12_comesBy_12 rfl rfl ?_
  refine ow_istore (pc' := 15) (lv' := [(0, (3, 83)), (1, (0, l1)), (2, (0, l2)), (3, (0, l3)), (4, (0, r1)), (5, (0, 0))]) dX12_comesBy_13 rfl rfl rfl ?_
  refine ow_sub (lv' := [(0, (3, 83)), (2, (0, l2)), (4, (0, r1)), (5, (0, 0))]) [0, 2, 4, 5] rfl ?_
  exact h
set_option maxRecDepth 20000 in
theorem cX12_comesBy_15 {C : ow_C} {A L N : Int} {d : Nat} {M : ow_M} {K : Int → ow_M → Prop} {l2 l4 l5 : Int} (h : ow_I (l4 + 2) ∧ (0 ≤ (l4 + 2) ∧ (l4 + 2) < 2720) ∧ ((M 86 (l4 + 2)) < l5 → K 0 M) ∧ (l5 ≤ (M 86 (l4 + 2)) → ow_I (l4 + 1) ∧ (0 ≤ (l4 + 1) ∧ (l4 + 1) < 2720) ∧ (l5 < (M 86 (l4 + 1)) → ow_At C (EM A L N) (d + 1) mX12_comesBy 55 [(0, (3, 83)), (2, (0, l2)), (4, (0, l4)), (5, (0, l5))] [] (0, 0) M K) ∧ ((M 86 (l4 + 1)) ≤ l5 → ow_Sp C (EM A L N) d mX12_waysTo (0, 0) [(3, 83), (0, l2)] M (fun r1 N1 => ((ow_lcmp r1 0) ≤ 0 → ow_At C (EM A L N) (d + 1) mX12_comesBy 55 [(0, (3, 83)), (2, (0, l2)), (4, (0, l4)), (5, (0, l5))] [] (0, 0) N1 K) ∧ (0 < (ow_lcmp r1 0) → K 1 N1))))) : ow_At C (EM A L N) (d + 1) mX12_comesBy 15 [(0, (3, 83)), (2, (0, l2)), (4, (0, l4)), (5, (0, l5))] [] (0, 0) M K := by
  refine ow_iload (pc' := 17) (x := l5) dX12_comesBy_15 rfl rfl ?_
  refine ow_aload_n (pc' := 18) (x := 83) dX12_comesBy_17 rfl rfl ?_
  refine ow_getf3 (pc' := 21) (t := 3) (ji := 5) (val := 86) dX12_comesBy_18 fRX12_16 rfl rfl rfl (of_eq_true eo83) eg83_5 ?_
  refine ow_iload (pc' := 23) (x := l4) dX12_comesBy_21 rfl rfl ?_
  refine ow_iconst (pc' := 24) (n := 2) dX12_comesBy_23 rfl rfl ?_
  obtain ⟨vv1, h⟩ := h
  refine ow_iadd (pc' := 25) dX12_comesBy_24 vv1 rfl ?_
  obtain ⟨vv2, h⟩ := h
  refine ow_iaload3 (pc' := 26) (val := M 86 (l4 + 2)) dX12_comesBy_25 rfl (Eq.mpr (er86 _) vv2) (ea86 _) ?_
  refine ow_icmpgt (pc' := 29) (tg := 81) dX12_comesBy_26 rfl rfl (fun hc => ?_) (fun hc => ?_)
  · have h := h.1 hc
    refine ow_iconst (pc' := 82) (n := 0) dX12_comesBy_81 rfl rfl ?_
    exact ow_zret dX12_comesBy_82 rfl rfl (Or.inl rfl) h
  · have h := h.2 hc
    refine ow_iload (pc' := 31) (x := l5) dX12_comesBy_29 rfl rfl ?_
    refine ow_aload_n (pc' := 32) (x := 83) dX12_comesBy_31 rfl rfl ?_
    refine ow_getf3 (pc' := 35) (t := 3) (ji := 5) (val := 86) dX12_comesBy_32 fRX12_16 rfl rfl rfl (of_eq_true eo83) eg83_5 ?_
    refine ow_iload (pc' := 37) (x := l4) dX12_comesBy_35 rfl rfl ?_
    refine ow_iconst (pc' := 38) (n := 1) dX12_comesBy_37 rfl rfl ?_
    obtain ⟨vv3, h⟩ := h
    refine ow_iadd (pc' := 39) dX12_comesBy_38 vv3 rfl ?_
    obtain ⟨vv4, h⟩ := h
    refine ow_iaload3 (pc' := 40) (val := M 86 (l4 + 1)) dX12_comesBy_39 rfl (Eq.mpr (er86 _) vv4) (ea86 _) ?_
    refine ow_icmplt (pc' := 43) (tg := 55) dX12_comesBy_40 rfl rfl (fun hc => ?_) (fun hc => ?_)
    · have h := h.1 hc
      exact h
    · have h := h.2 hc
      refine ow_aload_n (pc' := 44) (x := 83) dX12_comesBy_43 rfl rfl ?_
      refine ow_iload_n (pc' := 45) (x := l2) dX12_comesBy_44 rfl rfl ?_
      refine ow_callVp (z := mX12_waysTo) (n := 1) (k := 12) (vs := [(0, l2)]) (x := 83) (st := []) (pc' := 48) (b1 := (0, 0)) (b2 := (0, 0)) dX12_comesBy_45 lRX12_311 kX12_waysTo iX12_waysTo rfl rfl rfl rfl rfl rfl (of_eq_true eo83) (ow_Sp.mono h (fun r1 N1 h => ?_))
      refine ow_lconst (pc' := 49) (i := 0) dX12_comesBy_48 rfl rfl ?_
      refine ow_Lcmp (pc' := 50) dX12_comesBy_49 rfl ?_
      refine ow_ifle (pc' := 53) (tg := 55) dX12_comesBy_50 rfl rfl (fun hc => ?_) (fun hc => ?_)
      · have h := h.1 hc
        exact h
      · have h := h.2 hc
        refine ow_iconst (pc' := 54) (n := 1) dX12_comesBy_53 rfl rfl ?_
        exact ow_zret dX12_comesBy_54 rfl rfl (Or.inr rfl) h
set_option maxRecDepth 20000 in
theorem cX12_comesBy_55 {C : ow_C} {A L N : Int} {d : Nat} {M : ow_M} {K : Int → ow_M → Prop} {l2 l4 l5 : Int} (h : ow_I (l4 + 2) ∧ (0 ≤ (l4 + 2) ∧ (l4 + 2) < 2720) ∧ ((M 86 (l4 + 2)) ≤ l5 → ow_I (l5 + 1) ∧ ow_At C (EM A L N) (d + 1) mX12_comesBy 15 [(0, (3, 83)), (2, (0, l2)), (4, (0, l4)), (5, (0, l5 + 1))] [] (0, 0) M K) ∧ (l5 < (M 86 (l4 + 2)) → ow_Sp C (EM A L N) d mX12_goOn (0, 0) [(3, 83), (0, l5)] M (fun r1 N1 => ow_I (l5 + 1) ∧ ow_At C (EM A L N) (d + 1) mX12_comesBy 15 [(0, (3, 83)), (2, (0, l2)), (4, (0, l4)), (5, (0, l5 + 1))] [] (0, 0) N1 K))) : ow_At C (EM A L N) (d + 1) mX12_comesBy 55 [(0, (3, 83)), (2, (0, l2)), (4, (0, l4)), (5, (0, l5))] [] (0, 0) M K := by
  refine ow_iload (pc' := 57) (x := l5) dX12_comesBy_55 rfl rfl ?_
  refine ow_aload_n (pc' := 58) (x := 83) dX12_comesBy_57 rfl rfl ?_
  refine ow_getf3 (pc' := 61) (t := 3) (ji := 5) (val := 86) dX12_comesBy_58 fRX12_16 rfl rfl rfl (of_eq_true eo83) eg83_5 ?_
  refine ow_iload (pc' := 63) (x := l4) dX12_comesBy_61 rfl rfl ?_
  refine ow_iconst (pc' := 64) (n := 2) dX12_comesBy_63 rfl rfl ?_
  obtain ⟨vv1, h⟩ := h
  refine ow_iadd (pc' := 65) dX12_comesBy_64 vv1 rfl ?_
  obtain ⟨vv2, h⟩ := h
  refine ow_iaload3 (pc' := 66) (val := M 86 (l4 + 2)) dX12_comesBy_65 rfl (Eq.mpr (er86 _) vv2) (ea86 _) ?_
  refine ow_icmpge (pc' := 69) (tg := 75) dX12_comesBy_66 rfl rfl (fun hc => ?_) (fun hc => ?_)
  · have h := h.1 hc
    obtain ⟨vv3, h⟩ := h
    refine ow_iinc (pc' := 78) (lv' := [(0, (3, 83)), (2, (0, l2)), (4, (0, l4)), (5, (0, l5 + 1))]) dX12_comesBy_75 rfl vv3 rfl rfl rfl ?_
    refine ow_goto (tg := 15) dX12_comesBy_78 rfl ?_
    exact h
  · have h := h.2 hc
    refine ow_aload_n (pc' := 70) (x := 83) dX12_comesBy_69 rfl rfl ?_
    refine ow_iload (pc' := 72) (x := l5) dX12_comesBy_70 rfl rfl ?_
    refine ow_callVv (z := mX12_goOn) (n := 1) (k := 12) (vs := [(0, l5)]) (x := 83) (st := []) (pc' := 75) (b1 := (0, 0)) (b2 := (0, 0)) dX12_comesBy_72 lRX12_308 kX12_goOn iX12_goOn rfl rfl rfl rfl rfl rfl (of_eq_true eo83) (ow_Sp.mono h (fun r1 N1 h => ?_))
    obtain ⟨vv4, h⟩ := h
    refine ow_iinc (pc' := 78) (lv' := [(0, (3, 83)), (2, (0, l2)), (4, (0, l4)), (5, (0, l5 + 1))]) dX12_comesBy_75 rfl vv4 rfl rfl rfl ?_
    refine ow_goto (tg := 15) dX12_comesBy_78 rfl ?_
    exact h
theorem fX12_comesBy {C : ow_C} {A L N : Int} {d : Nat} {M : ow_M} {K : Int → ow_M → Prop} {l1 l2 l3 : Int} (h : ow_Sp C (EM A L N) d mX12_roadAt (0, 0) [(3, 83), (0, l3)] M (fun r1 N1 => ow_Sp C (EM A L N) d mX12_begin (0, 0) [(3, 83), (0, l1)] N1 (fun r2 N2 => ow_At C (EM A L N) (d + 1) mX12_comesBy 15 [(0, (3, 83)), (2, (0, l2)), (4, (0, r1)), (5, (0, 0))] [] (0, 0) N2 K))) : ow_Sp C (EM A L N) (d + 1) mX12_comesBy (0, 0) [(3, 83), (0, l1), (0, l2), (0, l3)] M K := ow_enter (by decide +kernel) rfl rfl (cX12_comesBy_0 h)
set_option maxRecDepth 20000 in
theorem cX12_road_0 {C : ow_C} {A L N : Int} {d : Nat} {M : ow_M} {K : Int → ow_M → Prop} {l1 l2 l3 : Int} (h : ow_Sp C (EM A L N) d mX12_isWord0 (0, 0) [(3, 83), (0, l1)] M (fun r1 N1 => (r1 = 0 → K 0 N1) ∧ (r1 ≠ 0 → ow_Sp C (EM A L N) d mX12_isWord0 (0, 0) [(3, 83), (0, l2)] N1 (fun r2 N2 => (r2 = 0 → K 0 N2) ∧ (r2 ≠ 0 → ow_Sp C (EM A L N) d mX12_roads (0, 0) [(3, 83)] N2 (fun r3 N3 => ow_I (r3 - 1) ∧ ow_Sp C (EM A L N) d mX12_isIn (0, 0) [(0, l3), (0, 0), (0, r3 - 1)] N3 (fun r4 N4 => (r4 ≠ 0 → ow_Sp C (EM A L N) d mX12_rule (0, 0) [(3, 83)] N4 (fun r5 N5 => ow_Sp C (EM A L N) d mX12_comesBy (0, 0) [(3, 83), (0, l1), (0, l2), (0, l3)] N5 (fun r6 N6 => (r6 = 0 ∨ r6 = 1) ∧ K r6 N6))) ∧ (r4 = 0 → K 0 N4)))))))) : ow_At C (EM A L N) (d + 1) mX12_road 0 [(0, (3, 83)), (1, (0, l1)), (2, (0, l2)), (3, (0, l3))] [] (0, 0) M K := by
  refine ow_aload_n (pc' := 1) (x := 83) dX12_road_0 rfl rfl ?_
  refine ow_iload_n (pc' := 2) (x := l1) dX12_road_1 rfl rfl ?_
  refine ow_callVp (z := mX12_isWord0) (n := 1) (k := 12) (vs := [(0, l1)]) (x := 83) (st := []) (pc' := 5) (b1 := (0, 0)) (b2 := (0, 0)) dX12_road_2 lRX12_102 kX12_isWord0 iX12_isWord0 rfl rfl rfl rfl rfl rfl (of_eq_true eo83) (ow_Sp.mono h (fun r1 N1 h => ?_))
  refine ow_ifeq (pc' := 8) (tg := 30) dX12_road_5 rfl rfl (fun hc => ?_) (fun hc => ?_)
  · have h := h.1 hc
    refine ow_iconst (pc' := 31) (n := 0) dX12_road_30 rfl rfl ?_
    exact ow_zret dX12_road_31 rfl rfl (Or.inl rfl) h
  · have h := h.2 hc
    refine ow_aload_n (pc' := 9) (x := 83) dX12_road_8 rfl rfl ?_
    refine ow_iload_n (pc' := 10) (x := l2) dX12_road_9 rfl rfl ?_
    refine ow_callVp (z := mX12_isWord0) (n := 1) (k := 12) (vs := [(0, l2)]) (x := 83) (st := []) (pc' := 13) (b1 := (0, 0)) (b2 := (0, 0)) dX12_road_10 lRX12_102 kX12_isWord0 iX12_isWord0 rfl rfl rfl rfl rfl rfl (of_eq_true eo83) (ow_Sp.mono h (fun r2 N2 h => ?_))
    refine ow_ifeq (pc' := 16) (tg := 30) dX12_road_13 rfl rfl (fun hc => ?_) (fun hc => ?_)
    · have h := h.1 hc
      refine ow_iconst (pc' := 31) (n := 0) dX12_road_30 rfl rfl ?_
      exact ow_zret dX12_road_31 rfl rfl (Or.inl rfl) h
    · have h := h.2 hc
      refine ow_iload_n (pc' := 17) (x := l3) dX12_road_16 rfl rfl ?_
      refine ow_iconst (pc' := 18) (n := 0) dX12_road_17 rfl rfl ?_
      refine ow_aload_n (pc' := 19) (x := 83) dX12_road_18 rfl rfl ?_
      refine ow_callVp (z := mX12_roads) (n := 0) (k := 12) (vs := []) (x := 83) (st := [(0, 0), (0, l3)]) (pc' := 22) (b1 := (0, 0)) (b2 := (0, 0)) dX12_road_19 lRX12_349 kX12_roads iX12_roads rfl rfl rfl rfl rfl rfl (of_eq_true eo83) (ow_Sp.mono h (fun r3 N3 h => ?_))
      refine ow_iconst (pc' := 23) (n := 1) dX12_road_22 rfl rfl ?_
      obtain ⟨vv1, h⟩ := h
      refine ow_isub (pc' := 24) dX12_road_23 vv1 rfl ?_
      refine ow_callSp (z := mX12_isIn) (n := 3) (vs := [(0, l3), (0, 0), (0, r3 - 1)]) (st := []) (pc' := 27) (b1 := (0, 0)) (b2 := (0, 0)) dX12_road_24 lRX12_91 kX12_isIn zX12_isIn rfl rfl rfl rfl rfl rfl (ow_Sp.mono h (fun r4 N4 h => ?_))
      refine ow_ifne (pc' := 30) (tg := 32) dX12_road_27 rfl rfl (fun hc => ?_) (fun hc => ?_)
      · have h := h.1 hc
        refine ow_aload_n (pc' := 33) (x := 83) dX12_road_32 rfl rfl ?_
        refine ow_callVv (z := mX12_rule) (n := 0) (k := 12) (vs := []) (x := 83) (st := []) (pc' := 36) (b1 := (0, 0)) (b2 := (0, 0)) dX12_road_33 lRX12_321 kX12_rule iX12_rule rfl rfl rfl rfl rfl rfl (of_eq_true eo83) (ow_Sp.mono h (fun r5 N5 h => ?_))
        refine ow_aload_n (pc' := 37) (x := 83) dX12_road_36 rfl rfl ?_
        refine ow_iload_n (pc' := 38) (x := l1) dX12_road_37 rfl rfl ?_
        refine ow_iload_n (pc' := 39) (x := l2) dX12_road_38 rfl rfl ?_
        refine ow_iload_n (pc' := 40) (x := l3) dX12_road_39 rfl rfl ?_
        refine ow_callVp (z := mX12_comesBy) (n := 3) (k := 12) (vs := [(0, l1), (0, l2), (0, l3)]) (x := 83) (st := []) (pc' := 43) (b1 := (0, 0)) (b2 := (0, 0)) dX12_road_40 lRX12_352 kX12_comesBy iX12_comesBy rfl rfl rfl rfl rfl rfl (of_eq_true eo83) (ow_Sp.mono h (fun r6 N6 h => ?_))
        exact ow_zret dX12_road_43 rfl rfl h.1 h.2
      · have h := h.2 hc
        refine ow_iconst (pc' := 31) (n := 0) dX12_road_30 rfl rfl ?_
        exact ow_zret dX12_road_31 rfl rfl (Or.inl rfl) h
theorem fX12_road {C : ow_C} {A L N : Int} {d : Nat} {M : ow_M} {K : Int → ow_M → Prop} {l1 l2 l3 : Int} (h : ow_Sp C (EM A L N) d mX12_isWord0 (0, 0) [(3, 83), (0, l1)] M (fun r1 N1 => (r1 = 0 → K 0 N1) ∧ (r1 ≠ 0 → ow_Sp C (EM A L N) d mX12_isWord0 (0, 0) [(3, 83), (0, l2)] N1 (fun r2 N2 => (r2 = 0 → K 0 N2) ∧ (r2 ≠ 0 → ow_Sp C (EM A L N) d mX12_roads (0, 0) [(3, 83)] N2 (fun r3 N3 => ow_I (r3 - 1) ∧ ow_Sp C (EM A L N) d mX12_isIn (0, 0) [(0, l3), (0, 0), (0, r3 - 1)] N3 (fun r4 N4 => (r4 ≠ 0 → ow_Sp C (EM A L N) d mX12_rule (0, 0) [(3, 83)] N4 (fun r5 N5 => ow_Sp C (EM A L N) d mX12_comesBy (0, 0) [(3, 83), (0, l1), (0, l2), (0, l3)] N5 (fun r6 N6 => (r6 = 0 ∨ r6 = 1) ∧ K r6 N6))) ∧ (r4 = 0 → K 0 N4)))))))) : ow_Sp C (EM A L N) (d + 1) mX12_road (0, 0) [(3, 83), (0, l1), (0, l2), (0, l3)] M K := ow_enter (by decide +kernel) rfl rfl (cX12_road_0 h)
set_option maxRecDepth 20000 in
theorem cX12_fits_0 {C : ow_C} {A L N : Int} {d : Nat} {M : ow_M} {K : Int → ow_M → Prop} {l1 l2 l3 l4 l5 : Int} (h : ow_Sp C (EM A L N) d mX12_isWord0 (0, 0) [(3, 83), (0, l1)] M (fun r1 N1 => (r1 = 0 → K ((-1)) N1) ∧ (r1 ≠ 0 → ow_Sp C (EM A L N) d mX12_isWord0 (0, 0) [(3, 83), (0, l3)] N1 (fun r2 N2 => (r2 = 0 → K ((-1)) N2) ∧ (r2 ≠ 0 → ow_Sp C (EM A L N) d mX12_roads (0, 0) [(3, 83)] N2 (fun r3 N3 => ow_I (r3 - 1) ∧ ow_Sp C (EM A L N) d mX12_isIn (0, 0) [(0, l2), (0, 0), (0, r3 - 1)] N3 (fun r4 N4 => (r4 = 0 → K ((-1)) N4) ∧ (r4 ≠ 0 → ow_Sp C (EM A L N) d mX12_roads (0, 0) [(3, 83)] N4 (fun r5 N5 => ow_I (r5 - 1) ∧ ow_Sp C (EM A L N) d mX12_isIn (0, 0) [(0, l4), (0, 0), (0, r5 - 1)] N5 (fun r6 N6 => (r6 = 0 → K ((-1)) N6) ∧ (r6 ≠ 0 → (((-1)) ≤ l5 → ow_Sp C (EM A L N) d mX12_rule (0, 0) [(3, 83)] N6 (fun r7 N7 => ow_At C (EM A L N) (d + 1) mX12_fits 63 [(0, (3, 83)), (1, (0, l1)), (2, (0, l2)), (3, (0, l3)), (4, (0, l4)), (5, (0, l5)), (6, (0, 0)), (7, (0, 0))] [] (0, 0) N7 K)) ∧ (l5 < ((-1)) → K ((-1)) N6)))))))))))) : ow_At C (EM A L N) (d + 1) mX12_fits 0 [(0, (3, 83)), (1, (0, l1)), (2, (0, l2)), (3, (0, l3)), (4, (0, l4)), (5, (0, l5))] [] (0, 0) M K := by
  refine ow_aload_n (pc' := 1) (x := 83) dX12_fits_0 rfl rfl ?_
  refine ow_iload_n (pc' := 2) (x := l1) dX12_fits_1 rfl rfl ?_
  refine ow_callVp (z := mX12_isWord0) (n := 1) (k := 12) (vs := [(0, l1)]) (x := 83) (st := []) (pc' := 5) (b1 := (0, 0)) (b2 := (0, 0)) dX12_fits_2 lRX12_102 kX12_isWord0 iX12_isWord0 rfl rfl rfl rfl rfl rfl (of_eq_true eo83) (ow_Sp.mono h (fun r1 N1 h => ?_))
  refine ow_ifeq (pc' := 8) (tg := 51) dX12_fits_5 rfl rfl (fun hc => ?_) (fun hc => ?_)
  · have h := h.1 hc
    refine ow_iconst (pc' := 52) (n := (-1)) dX12_fits_51 rfl rfl ?_
    exact ow_iret dX12_fits_52 rfl rfl h
  · have h := h.2 hc
    refine ow_aload_n (pc' := 9) (x := 83) dX12_fits_8 rfl rfl ?_
    refine ow_iload_n (pc' := 10) (x := l3) dX12_fits_9 rfl rfl ?_
    refine ow_callVp (z := mX12_isWord0) (n := 1) (k := 12) (vs := [(0, l3)]) (x := 83) (st := []) (pc' := 13) (b1 := (0, 0)) (b2 := (0, 0)) dX12_fits_10 lRX12_102 kX12_isWord0 iX12_isWord0 rfl rfl rfl rfl rfl rfl (of_eq_true eo83) (ow_Sp.mono h (fun r2 N2 h => ?_))
    refine ow_ifeq (pc' := 16) (tg := 51) dX12_fits_13 rfl rfl (fun hc => ?_) (fun hc => ?_)
    · have h := h.1 hc
      refine ow_iconst (pc' := 52) (n := (-1)) dX12_fits_51 rfl rfl ?_
      exact ow_iret dX12_fits_52 rfl rfl h
    · have h := h.2 hc
      refine ow_iload_n (pc' := 17) (x := l2) dX12_fits_16 rfl rfl ?_
      refine ow_iconst (pc' := 18) (n := 0) dX12_fits_17 rfl rfl ?_
      refine ow_aload_n (pc' := 19) (x := 83) dX12_fits_18 rfl rfl ?_
      refine ow_callVp (z := mX12_roads) (n := 0) (k := 12) (vs := []) (x := 83) (st := [(0, 0), (0, l2)]) (pc' := 22) (b1 := (0, 0)) (b2 := (0, 0)) dX12_fits_19 lRX12_349 kX12_roads iX12_roads rfl rfl rfl rfl rfl rfl (of_eq_true eo83) (ow_Sp.mono h (fun r3 N3 h => ?_))
      refine ow_iconst (pc' := 23) (n := 1) dX12_fits_22 rfl rfl ?_
      obtain ⟨vv1, h⟩ := h
      refine ow_isub (pc' := 24) dX12_fits_23 vv1 rfl ?_
      refine ow_callSp (z := mX12_isIn) (n := 3) (vs := [(0, l2), (0, 0), (0, r3 - 1)]) (st := []) (pc' := 27) (b1 := (0, 0)) (b2 := (0, 0)) dX12_fits_24 lRX12_91 kX12_isIn zX12_isIn rfl rfl rfl rfl rfl rfl (ow_Sp.mono h (fun r4 N4 h => ?_))
      refine ow_ifeq (pc' := 30) (tg := 51) dX12_fits_27 rfl rfl (fun hc => ?_) (fun hc => ?_)
      · have h := h.1 hc
        refine ow_iconst (pc' := 52) (n := (-1)) dX12_fits_51 rfl rfl ?_
        exact ow_iret dX12_fits_52 rfl rfl h
      · have h := h.2 hc
        refine ow_iload (pc' := 32) (x := l4) dX12_fits_30 rfl rfl ?_
        refine ow_iconst (pc' := 33) (n := 0) dX12_fits_32 rfl rfl ?_
        refine ow_aload_n (pc' := 34) (x := 83) dX12_fits_33 rfl rfl ?_
        refine ow_callVp (z := mX12_roads) (n := 0) (k := 12) (vs := []) (x := 83) (st := [(0, 0), (0, l4)]) (pc' := 37) (b1 := (0, 0)) (b2 := (0, 0)) dX12_fits_34 lRX12_349 kX12_roads iX12_roads rfl rfl rfl rfl rfl rfl (of_eq_true eo83) (ow_Sp.mono h (fun r5 N5 h => ?_))
        refine ow_iconst (pc' := 38) (n := 1) dX12_fits_37 rfl rfl ?_
        obtain ⟨vv2, h⟩ := h
        refine ow_isub (pc' := 39) dX12_fits_38 vv2 rfl ?_
        refine ow_callSp (z := mX12_isIn) (n := 3) (vs := [(0, l4), (0, 0), (0, r5 - 1)]) (st := []) (pc' := 42) (b1 := (0, 0)) (b2 := (0, 0)) dX12_fits_39 lRX12_91 kX12_isIn zX12_isIn rfl rfl rfl rfl rfl rfl (ow_Sp.mono h (fun r6 N6 h => ?_))
        refine ow_ifeq (pc' := 45) (tg := 51) dX12_fits_42 rfl rfl (fun hc => ?_) (fun hc => ?_)
        · have h := h.1 hc
          refine ow_iconst (pc' := 52) (n := (-1)) dX12_fits_51 rfl rfl ?_
          exact ow_iret dX12_fits_52 rfl rfl h
        · have h := h.2 hc
          refine ow_iload (pc' := 47) (x := l5) dX12_fits_45 rfl rfl ?_
          refine ow_iconst (pc' := 48) (n := (-1)) dX12_fits_47 rfl rfl ?_
          refine ow_icmpge (pc' := 51) (tg := 53) dX12_fits_48 rfl rfl (fun hc => ?_) (fun hc => ?_)
          · have h := h.1 hc
            refine ow_aload_n (pc' := 54) (x := 83) dX12_fits_53 rfl rfl ?_
            refine ow_callVv (z := mX12_rule) (n := 0) (k := 12) (vs := []) (x := 83) (st := []) (pc' := 57) (b1 := (0, 0)) (b2 := (0, 0)) dX12_fits_54 lRX12_321 kX12_rule iX12_rule rfl rfl rfl rfl rfl rfl (of_eq_true eo83) (ow_Sp.mono h (fun r7 N7 h => ?_))
            refine ow_iconst (pc' := 58) (n := 0) dX12_fits_57 rfl rfl ?_
            refine ow_istore (pc' := 60) (lv' := [(0, (3, 83)), (1, (0, l1)), (2, (0, l2)), (3, (0, l3)), (4, (0, l4)), (5, (0, l5)), (6, (0, 0))]) dX12_fits_58 rfl rfl rfl ?_
            refine ow_iconst (pc' := 61) (n := 0) dX12_fits_60 rfl rfl ?_
            refine ow_istore (pc' := 63) (lv' := [(0, (3, 83)), (1, (0, l1)), (2, (0, l2)), (3, (0, l3)), (4, (0, l4)), (5, (0, l5)), (6, (0, 0)), (7, (0, 0))]) dX12_fits_61 rfl rfl rfl ?_
            exact h
          · have h := h.2 hc
            refine ow_iconst (pc' := 52) (n := (-1)) dX12_fits_51 rfl rfl ?_
            exact ow_iret dX12_fits_52 rfl rfl h
set_option maxRecDepth 20000 in
theorem cX12_fits_63 {C : ow_C} {A L N : Int} {d : Nat} {M : ow_M} {K : Int → ow_M → Prop} {l1 l2 l3 l4 l5 l6 l7 : Int} (h : ((M 84 2) ≤ l7 → (l5 ≠ ((-1)) → K ((-1)) M) ∧ (l5 = ((-1)) → K l6 M)) ∧ (l7 < (M 84 2) → ow_Sp C (EM A L N) d mX12_wordOf (0, 0) [(3, 83), (0, l7)] M (fun r1 N1 => ow_Sp C (EM A L N) d mX12_comesBy (0, 0) [(3, 83), (0, r1), (0, l1), (0, l2)] N1 (fun r2 N2 => (r2 = 0 → ow_I (l7 + 1) ∧ ow_At C (EM A L N) (d + 1) mX12_fits 63 [(0, (3, 83)), (1, (0, l1)), (2, (0, l2)), (3, (0, l3)), (4, (0, l4)), (5, (0, l5)), (6, (0, l6)), (7, (0, l7 + 1))] [] (0, 0) N2 K) ∧ (r2 ≠ 0 → ow_Sp C (EM A L N) d mX12_wordOf (0, 0) [(3, 83), (0, l7)] N2 (fun r3 N3 => ow_Sp C (EM A L N) d mX12_comesBy (0, 0) [(3, 83), (0, r3), (0, l3), (0, l4)] N3 (fun r4 N4 => (r4 ≠ 0 → (l6 ≠ l5 → ow_I (l6 + 1) ∧ ow_I (l7 + 1) ∧ ow_At C (EM A L N) (d + 1) mX12_fits 63 [(0, (3, 83)), (1, (0, l1)), (2, (0, l2)), (3, (0, l3)), (4, (0, l4)), (5, (0, l5)), (6, (0, l6 + 1)), (7, (0, l7 + 1))] [] (0, 0) N4 K) ∧ (l6 = l5 → ow_Sp C (EM A L N) d mX12_wordOf (0, 0) [(3, 83), (0, l7)] N4 (fun r5 N5 => K r5 N5))) ∧ (r4 = 0 → ow_I (l7 + 1) ∧ ow_At C (EM A L N) (d + 1) mX12_fits 63 [(0, (3, 83)), (1, (0, l1)), (2, (0, l2)), (3, (0, l3)), (4, (0, l4)), (5, (0, l5)), (6, (0, l6)), (7, (0, l7 + 1))] [] (0, 0) N4 K)))))))) : ow_At C (EM A L N) (d + 1) mX12_fits 63 [(0, (3, 83)), (1, (0, l1)), (2, (0, l2)), (3, (0, l3)), (4, (0, l4)), (5, (0, l5)), (6, (0, l6)), (7, (0, l7))] [] (0, 0) M K := by
  refine ow_iload (pc' := 65) (x := l7) dX12_fits_63 rfl rfl ?_
  refine ow_aload_n (pc' := 66) (x := 83) dX12_fits_65 rfl rfl ?_
  refine ow_getf3 (pc' := 69) (t := 3) (ji := 0) (val := 84) dX12_fits_66 fRX12_7 rfl rfl rfl (of_eq_true eo83) eg83_0 ?_
  refine ow_iconst (pc' := 70) (n := 2) dX12_fits_69 rfl rfl ?_
  refine ow_iaload3 (pc' := 71) (val := M 84 2) dX12_fits_70 rfl (Eq.mpr (er84 _) ⟨by decide, by decide⟩) (ea84 _) ?_
  refine ow_icmpge (pc' := 74) (tg := 131) dX12_fits_71 rfl rfl (fun hc => ?_) (fun hc => ?_)
  · have h := h.1 hc
    refine ow_iload (pc' := 133) (x := l5) dX12_fits_131 rfl rfl ?_
    refine ow_iconst (pc' := 134) (n := (-1)) dX12_fits_133 rfl rfl ?_
    refine ow_icmpne (pc' := 137) (tg := 142) dX12_fits_134 rfl rfl (fun hc => ?_) (fun hc => ?_)
    · have h := h.1 hc
      refine ow_iconst (pc' := 143) (n := (-1)) dX12_fits_142 rfl rfl ?_
      exact ow_iret dX12_fits_143 rfl rfl h
    · have h := h.2 hc
      refine ow_iload (pc' := 139) (x := l6) dX12_fits_137 rfl rfl ?_
      refine ow_goto (tg := 143) dX12_fits_139 rfl ?_
      exact ow_iret dX12_fits_143 rfl rfl h
  · have h := h.2 hc
    refine ow_aload_n (pc' := 75) (x := 83) dX12_fits_74 rfl rfl ?_
    refine ow_aload_n (pc' := 76) (x := 83) dX12_fits_75 rfl rfl ?_
    refine ow_iload (pc' := 78) (x := l7) dX12_fits_76 rfl rfl ?_
    refine ow_callVp (z := mX12_wordOf) (n := 1) (k := 12) (vs := [(0, l7)]) (x := 83) (st := [(3, 83)]) (pc' := 81) (b1 := (0, 0)) (b2 := (0, 0)) dX12_fits_78 lRX12_98 kX12_wordOf iX12_wordOf rfl rfl rfl rfl rfl rfl (of_eq_true eo83) (ow_Sp.mono h (fun r1 N1 h => ?_))
    refine ow_iload_n (pc' := 82) (x := l1) dX12_fits_81 rfl rfl ?_
    refine ow_iload_n (pc' := 83) (x := l2) dX12_fits_82 rfl rfl ?_
    refine ow_callVp (z := mX12_comesBy) (n := 3) (k := 12) (vs := [(0, r1), (0, l1), (0, l2)]) (x := 83) (st := []) (pc' := 86) (b1 := (0, 0)) (b2 := (0, 0)) dX12_fits_83 lRX12_352 kX12_comesBy iX12_comesBy rfl rfl rfl rfl rfl rfl (of_eq_true eo83) (ow_Sp.mono h (fun r2 N2 h => ?_))
    refine ow_ifeq (pc' := 89) (tg := 125) dX12_fits_86 rfl rfl (fun hc => ?_) (fun hc => ?_)
    · have h := h.1 hc
      obtain ⟨vv1, h⟩ := h
      refine ow_iinc (pc' := 128) (lv' := [(0, (3, 83)), (1, (0, l1)), (2, (0, l2)), (3, (0, l3)), (4, (0, l4)), (5, (0, l5)), (6, (0, l6)), (7, (0, l7 + 1))]) dX12_fits_125 rfl vv1 rfl rfl rfl ?_
      refine ow_goto (tg := 63) dX12_fits_128 rfl ?_
      exact h
    · have h := h.2 hc
      refine ow_aload_n (pc' := 90) (x := 83) dX12_fits_89 rfl rfl ?_
      refine ow_aload_n (pc' := 91) (x := 83) dX12_fits_90 rfl rfl ?_
      refine ow_iload (pc' := 93) (x := l7) dX12_fits_91 rfl rfl ?_
      refine ow_callVp (z := mX12_wordOf) (n := 1) (k := 12) (vs := [(0, l7)]) (x := 83) (st := [(3, 83)]) (pc' := 96) (b1 := (0, 0)) (b2 := (0, 0)) dX12_fits_93 lRX12_98 kX12_wordOf iX12_wordOf rfl rfl rfl rfl rfl rfl (of_eq_true eo83) (ow_Sp.mono h (fun r3 N3 h => ?_))
      refine ow_iload_n (pc' := 97) (x := l3) dX12_fits_96 rfl rfl ?_
      refine ow_iload (pc' := 99) (x := l4) dX12_fits_97 rfl rfl ?_
      refine ow_callVp (z := mX12_comesBy) (n := 3) (k := 12) (vs := [(0, r3), (0, l3), (0, l4)]) (x := 83) (st := []) (pc' := 102) (b1 := (0, 0)) (b2 := (0, 0)) dX12_fits_99 lRX12_352 kX12_comesBy iX12_comesBy rfl rfl rfl rfl rfl rfl (of_eq_true eo83) (ow_Sp.mono h (fun r4 N4 h => ?_))
      refine ow_ifne (pc' := 105) (tg := 108) dX12_fits_102 rfl rfl (fun hc => ?_) (fun hc => ?_)
      · have h := h.1 hc
        refine ow_iload (pc' := 110) (x := l6) dX12_fits_108 rfl rfl ?_
        refine ow_iload (pc' := 112) (x := l5) dX12_fits_110 rfl rfl ?_
        refine ow_icmpne (pc' := 115) (tg := 122) dX12_fits_112 rfl rfl (fun hc => ?_) (fun hc => ?_)
        · have h := h.1 hc
          obtain ⟨vv2, h⟩ := h
          refine ow_iinc (pc' := 125) (lv' := [(0, (3, 83)), (1, (0, l1)), (2, (0, l2)), (3, (0, l3)), (4, (0, l4)), (5, (0, l5)), (6, (0, l6 + 1)), (7, (0, l7))]) dX12_fits_122 rfl vv2 rfl rfl rfl ?_
          obtain ⟨vv3, h⟩ := h
          refine ow_iinc (pc' := 128) (lv' := [(0, (3, 83)), (1, (0, l1)), (2, (0, l2)), (3, (0, l3)), (4, (0, l4)), (5, (0, l5)), (6, (0, l6 + 1)), (7, (0, l7 + 1))]) dX12_fits_125 rfl vv3 rfl rfl rfl ?_
          refine ow_goto (tg := 63) dX12_fits_128 rfl ?_
          exact h
        · have h := h.2 hc
          refine ow_aload_n (pc' := 116) (x := 83) dX12_fits_115 rfl rfl ?_
          refine ow_iload (pc' := 118) (x := l7) dX12_fits_116 rfl rfl ?_
          refine ow_callVp (z := mX12_wordOf) (n := 1) (k := 12) (vs := [(0, l7)]) (x := 83) (st := []) (pc' := 121) (b1 := (0, 0)) (b2 := (0, 0)) dX12_fits_118 lRX12_98 kX12_wordOf iX12_wordOf rfl rfl rfl rfl rfl rfl (of_eq_true eo83) (ow_Sp.mono h (fun r5 N5 h => ?_))
          exact ow_iret dX12_fits_121 rfl rfl h
      · have h := h.2 hc
        refine ow_goto (tg := 125) dX12_fits_105 rfl ?_
        obtain ⟨vv4, h⟩ := h
        refine ow_iinc (pc' := 128) (lv' := [(0, (3, 83)), (1, (0, l1)), (2, (0, l2)), (3, (0, l3)), (4, (0, l4)), (5, (0, l5)), (6, (0, l6)), (7, (0, l7 + 1))]) dX12_fits_125 rfl vv4 rfl rfl rfl ?_
        refine ow_goto (tg := 63) dX12_fits_128 rfl ?_
        exact h
theorem fX12_fits {C : ow_C} {A L N : Int} {d : Nat} {M : ow_M} {K : Int → ow_M → Prop} {l1 l2 l3 l4 l5 : Int} (h : ow_Sp C (EM A L N) d mX12_isWord0 (0, 0) [(3, 83), (0, l1)] M (fun r1 N1 => (r1 = 0 → K ((-1)) N1) ∧ (r1 ≠ 0 → ow_Sp C (EM A L N) d mX12_isWord0 (0, 0) [(3, 83), (0, l3)] N1 (fun r2 N2 => (r2 = 0 → K ((-1)) N2) ∧ (r2 ≠ 0 → ow_Sp C (EM A L N) d mX12_roads (0, 0) [(3, 83)] N2 (fun r3 N3 => ow_I (r3 - 1) ∧ ow_Sp C (EM A L N) d mX12_isIn (0, 0) [(0, l2), (0, 0), (0, r3 - 1)] N3 (fun r4 N4 => (r4 = 0 → K ((-1)) N4) ∧ (r4 ≠ 0 → ow_Sp C (EM A L N) d mX12_roads (0, 0) [(3, 83)] N4 (fun r5 N5 => ow_I (r5 - 1) ∧ ow_Sp C (EM A L N) d mX12_isIn (0, 0) [(0, l4), (0, 0), (0, r5 - 1)] N5 (fun r6 N6 => (r6 = 0 → K ((-1)) N6) ∧ (r6 ≠ 0 → (((-1)) ≤ l5 → ow_Sp C (EM A L N) d mX12_rule (0, 0) [(3, 83)] N6 (fun r7 N7 => ow_At C (EM A L N) (d + 1) mX12_fits 63 [(0, (3, 83)), (1, (0, l1)), (2, (0, l2)), (3, (0, l3)), (4, (0, l4)), (5, (0, l5)), (6, (0, 0)), (7, (0, 0))] [] (0, 0) N7 K)) ∧ (l5 < ((-1)) → K ((-1)) N6)))))))))))) : ow_Sp C (EM A L N) (d + 1) mX12_fits (0, 0) [(3, 83), (0, l1), (0, l2), (0, l3), (0, l4), (0, l5)] M K := ow_enter (by decide +kernel) rfl rfl (cX12_fits_0 h)
set_option maxRecDepth 20000 in
theorem cX12_findBook_0 {C : ow_C} {A L N : Int} {d : Nat} {M : ow_M} {K : Int → ow_M → Prop} (h : ow_At C (EM A L N) (d + 1) mX12_findBook 2 [(0, (3, 83)), (1, (0, 0))] [] (0, 0) M K) : ow_At C (EM A L N) (d + 1) mX12_findBook 0 [(0, (3, 83))] [] (0, 0) M K := by
  refine ow_iconst (pc' := 1) (n := 0) dX12_findBook_0 rfl rfl ?_
  refine ow_istore_n (pc' := 2) (lv' := [(0, (3, 83)), (1, (0, 0))]) dX12_findBook_1 rfl rfl rfl ?_
  exact h
set_option maxRecDepth 20000 in
theorem cX12_findBook_2 {C : ow_C} {A L N : Int} {d : Nat} {M : ow_M} {K : Int → ow_M → Prop} {l1 : Int} (h : (N ≤ l1 → K 0 M) ∧ (l1 < N → ow_Sp C (EM A L N) d mX12_placeIn (0, 0) [(3, 83), (0, l1)] M (fun r1 N1 => (r1 < 0 → (0 ≤ l1 ∧ l1 < 256) ∧ ∀ N2, N2 = ow_up N1 96 l1 0 → ow_I (l1 + 1) ∧ ow_At C (EM A L N) (d + 1) mX12_findBook 2 [(0, (3, 83)), (1, (0, l1 + 1))] [] (0, 0) N2 K) ∧ (0 ≤ r1 → (0 ≤ l1 ∧ l1 < 256) ∧ ∀ N3, N3 = ow_up N1 96 l1 1 → ow_I (l1 + 1) ∧ ow_At C (EM A L N) (d + 1) mX12_findBook 2 [(0, (3, 83)), (1, (0, l1 + 1))] [] (0, 0) N3 K)))) : ow_At C (EM A L N) (d + 1) mX12_findBook 2 [(0, (3, 83)), (1, (0, l1))] [] (0, 0) M K := by
  refine ow_iload_n (pc' := 3) (x := l1) dX12_findBook_2 rfl rfl ?_
  refine ow_aload_n (pc' := 4) (x := 83) dX12_findBook_3 rfl rfl ?_
  refine ow_getf3 (pc' := 7) (t := 0) (ji := 4) (val := N) dX12_findBook_4 fRX12_84 rfl rfl rfl (of_eq_true eo83) eg83_4 ?_
  refine ow_icmpge (pc' := 10) (tg := 35) dX12_findBook_7 rfl rfl (fun hc => ?_) (fun hc => ?_)
  · have h := h.1 hc
    exact ow_vret dX12_findBook_35 rfl rfl h
  · have h := h.2 hc
    refine ow_aload_n (pc' := 11) (x := 83) dX12_findBook_10 rfl rfl ?_
    refine ow_getf3 (pc' := 14) (t := 3) (ji := 33) (val := 96) dX12_findBook_11 fRX12_55 rfl rfl rfl (of_eq_true eo83) eg83_33 ?_
    refine ow_iload_n (pc' := 15) (x := l1) dX12_findBook_14 rfl rfl ?_
    refine ow_aload_n (pc' := 16) (x := 83) dX12_findBook_15 rfl rfl ?_
    refine ow_iload_n (pc' := 17) (x := l1) dX12_findBook_16 rfl rfl ?_
    refine ow_callVp (z := mX12_placeIn) (n := 1) (k := 12) (vs := [(0, l1)]) (x := 83) (st := [(0, l1), (3, 96)]) (pc' := 20) (b1 := (0, 0)) (b2 := (0, 0)) dX12_findBook_17 lRX12_106 kX12_placeIn iX12_placeIn rfl rfl rfl rfl rfl rfl (of_eq_true eo83) (ow_Sp.mono h (fun r1 N1 h => ?_))
    refine ow_iflt (pc' := 23) (tg := 27) dX12_findBook_20 rfl rfl (fun hc => ?_) (fun hc => ?_)
    · have h := h.1 hc
      refine ow_iconst (pc' := 28) (n := 0) dX12_findBook_27 rfl rfl ?_
      obtain ⟨vv1, h⟩ := h
      refine ow_bastore2 (pc' := 29) dX12_findBook_28 rfl (Eq.mpr (er96 _) vv1) (of_eq_true (en96 _)) (Or.inl rfl) (fun N2 eN2 => ?_)
      have h := h N2 eN2
      obtain ⟨vv2, h⟩ := h
      refine ow_iinc (pc' := 32) (lv' := [(0, (3, 83)), (1, (0, l1 + 1))]) dX12_findBook_29 rfl vv2 rfl rfl rfl ?_
      refine ow_goto (tg := 2) dX12_findBook_32 rfl ?_
      exact h
    · have h := h.2 hc
      refine ow_iconst (pc' := 24) (n := 1) dX12_findBook_23 rfl rfl ?_
      refine ow_goto (tg := 28) dX12_findBook_24 rfl ?_
      obtain ⟨vv3, h⟩ := h
      refine ow_bastore2 (pc' := 29) dX12_findBook_28 rfl (Eq.mpr (er96 _) vv3) (of_eq_true (en96 _)) (Or.inr rfl) (fun N3 eN3 => ?_)
      have h := h N3 eN3
      obtain ⟨vv4, h⟩ := h
      refine ow_iinc (pc' := 32) (lv' := [(0, (3, 83)), (1, (0, l1 + 1))]) dX12_findBook_29 rfl vv4 rfl rfl rfl ?_
      refine ow_goto (tg := 2) dX12_findBook_32 rfl ?_
      exact h
theorem fX12_findBook {C : ow_C} {A L N : Int} {d : Nat} {M : ow_M} {K : Int → ow_M → Prop} (h : ow_At C (EM A L N) (d + 1) mX12_findBook 2 [(0, (3, 83)), (1, (0, 0))] [] (0, 0) M K) : ow_Sp C (EM A L N) (d + 1) mX12_findBook (0, 0) [(3, 83)] M K := ow_enter (by decide +kernel) rfl rfl (cX12_findBook_0 h)
set_option maxRecDepth 20000 in
theorem cX12_areOne_0 {C : ow_C} {A L N : Int} {d : Nat} {M : ow_M} {K : Int → ow_M → Prop} {l1 l2 l3 : Int} (h : ow_I (L - l3) ∧ ow_Sp C (EM A L N) d mX12_powerOf (0, 0) [(0, A), (0, L - l3)] M (fun r1 N1 => ow_At C (EM A L N) (d + 1) mX12_areOne 18 [(0, (3, 83)), (1, (0, l1)), (2, (0, l2)), (4, (0, r1)), (5, (0, 0))] [] (0, 0) N1 K)) : ow_At C (EM A L N) (d + 1) mX12_areOne 0 [(0, (3, 83)), (1, (0, l1)), (2, (0, l2)), (3, (0, l3))] [] (0, 0) M K := by
  refine ow_aload_n (pc' := 1) (x := 83) dX12_areOne_0 rfl rfl ?_
  refine ow_getf3 (pc' := 4) (t := 0) (ji := 2) (val := A) dX12_areOne_1 fRX12_74 rfl rfl rfl (of_eq_true eo83) eg83_2 ?_
  refine ow_aload_n (pc' := 5) (x := 83) dX12_areOne_4 rfl rfl ?_
  refine ow_getf3 (pc' := 8) (t := 0) (ji := 3) (val := L) dX12_areOne_5 fRX12_81 rfl rfl rfl (of_eq_true eo83) eg83_3 ?_
  refine ow_iload_n (pc' := 9) (x := l3) dX12_areOne_8 rfl rfl ?_
  obtain ⟨vv1, h⟩ := h
  refine ow_isub (pc' := 10) dX12_areOne_9 vv1 rfl ?_
  refine ow_callSp (z := mX12_powerOf) (n := 2) (vs := [(0, A), (0, L - l3)]) (st := []) (pc' := 13) (b1 := (0, 0)) (b2 := (0, 0)) dX12_areOne_10 lRX12_77 kX12_powerOf zX12_powerOf rfl rfl rfl rfl rfl rfl (ow_Sp.mono h (fun r1 N1 h => ?_))
  refine ow_istore (pc' := 15) (lv' := [(0, (3, 83)), (1, (0, l1)), (2, (0, l2)), (3, (0, l3)), (4, (0, r1))]) dX12_areOne_13 rfl rfl rfl ?_
  refine ow_iconst (pc' := 16) (n := 0) dX12_areOne_15 rfl rfl ?_
  refine ow_istore (pc' := 18) (lv' := [(0, (3, 83)), (1, (0, l1)), (2, (0, l2)), (3, (0, l3)), (4, (0, r1)), (5, (0, 0))]) dX12_areOne_16 rfl rfl rfl ?_
  refine ow_sub (lv' := [(0, (3, 83)), (1, (0, l1)), (2, (0, l2)), (4, (0, r1)), (5, (0, 0))]) [0, 1, 2, 4, 5] rfl ?_
  exact h
set_option maxRecDepth 20000 in
theorem cX12_areOne_18 {C : ow_C} {A L N : Int} {d : Nat} {M : ow_M} {K : Int → ow_M → Prop} {l1 l2 l4 l5 : Int} (h : (l4 ≤ l5 → K 1 M) ∧ (l5 < l4 → l4 ≠ 0 ∧ ow_I (Int.tdiv l1 l4) ∧ ow_I ((Int.tdiv l1 l4) * l4) ∧ ow_I (((Int.tdiv l1 l4) * l4) + l5) ∧ (0 ≤ (((Int.tdiv l1 l4) * l4) + l5) ∧ (((Int.tdiv l1 l4) * l4) + l5) < 256) ∧ l4 ≠ 0 ∧ ow_I (Int.tdiv l2 l4) ∧ ow_I ((Int.tdiv l2 l4) * l4) ∧ ow_I (((Int.tdiv l2 l4) * l4) + l5) ∧ (0 ≤ (((Int.tdiv l2 l4) * l4) + l5) ∧ (((Int.tdiv l2 l4) * l4) + l5) < 256) ∧ ((M 96 (((Int.tdiv l1 l4) * l4) + l5)) = (M 96 (((Int.tdiv l2 l4) * l4) + l5)) → ow_I (l5 + 1) ∧ ow_At C (EM A L N) (d + 1) mX12_areOne 18 [(0, (3, 83)), (1, (0, l1)), (2, (0, l2)), (4, (0, l4)), (5, (0, l5 + 1))] [] (0, 0) M K) ∧ ((M 96 (((Int.tdiv l1 l4) * l4) + l5)) ≠ (M 96 (((Int.tdiv l2 l4) * l4) + l5)) → K 0 M))) : ow_At C (EM A L N) (d + 1) mX12_areOne 18 [(0, (3, 83)), (1, (0, l1)), (2, (0, l2)), (4, (0, l4)), (5, (0, l5))] [] (0, 0) M K := by
  refine ow_iload (pc' := 20) (x := l5) dX12_areOne_18 rfl rfl ?_
  refine ow_iload (pc' := 22) (x := l4) dX12_areOne_20 rfl rfl ?_
  refine ow_icmpge (pc' := 25) (tg := 66) dX12_areOne_22 rfl rfl (fun hc => ?_) (fun hc => ?_)
  · have h := h.1 hc
    refine ow_iconst (pc' := 67) (n := 1) dX12_areOne_66 rfl rfl ?_
    exact ow_zret dX12_areOne_67 rfl rfl (Or.inr rfl) h
  · have h := h.2 hc
    refine ow_aload_n (pc' := 26) (x := 83) dX12_areOne_25 rfl rfl ?_
    refine ow_getf3 (pc' := 29) (t := 3) (ji := 33) (val := 96) dX12_areOne_26 fRX12_55 rfl rfl rfl (of_eq_true eo83) eg83_33 ?_
    refine ow_iload_n (pc' := 30) (x := l1) dX12_areOne_29 rfl rfl ?_
    refine ow_iload (pc' := 32) (x := l4) dX12_areOne_30 rfl rfl ?_
    obtain ⟨w0, w, h⟩ := h
    refine ow_idiv (pc' := 33) dX12_areOne_32 w0 w rfl ?_
    refine ow_iload (pc' := 35) (x := l4) dX12_areOne_33 rfl rfl ?_
    obtain ⟨vv1, h⟩ := h
    refine ow_imul (pc' := 36) dX12_areOne_35 vv1 rfl ?_
    refine ow_iload (pc' := 38) (x := l5) dX12_areOne_36 rfl rfl ?_
    obtain ⟨vv2, h⟩ := h
    refine ow_iadd (pc' := 39) dX12_areOne_38 vv2 rfl ?_
    obtain ⟨vv3, h⟩ := h
    refine ow_baload3 (pc' := 40) (val := M 96 (((Int.tdiv l1 l4) * l4) + l5)) dX12_areOne_39 rfl (Eq.mpr (er96 _) vv3) (ea96 _) ?_
    refine ow_aload_n (pc' := 41) (x := 83) dX12_areOne_40 rfl rfl ?_
    refine ow_getf3 (pc' := 44) (t := 3) (ji := 33) (val := 96) dX12_areOne_41 fRX12_55 rfl rfl rfl (of_eq_true eo83) eg83_33 ?_
    refine ow_iload_n (pc' := 45) (x := l2) dX12_areOne_44 rfl rfl ?_
    refine ow_iload (pc' := 47) (x := l4) dX12_areOne_45 rfl rfl ?_
    obtain ⟨w0, w, h⟩ := h
    refine ow_idiv (pc' := 48) dX12_areOne_47 w0 w rfl ?_
    refine ow_iload (pc' := 50) (x := l4) dX12_areOne_48 rfl rfl ?_
    obtain ⟨vv4, h⟩ := h
    refine ow_imul (pc' := 51) dX12_areOne_50 vv4 rfl ?_
    refine ow_iload (pc' := 53) (x := l5) dX12_areOne_51 rfl rfl ?_
    obtain ⟨vv5, h⟩ := h
    refine ow_iadd (pc' := 54) dX12_areOne_53 vv5 rfl ?_
    obtain ⟨vv6, h⟩ := h
    refine ow_baload3 (pc' := 55) (val := M 96 (((Int.tdiv l2 l4) * l4) + l5)) dX12_areOne_54 rfl (Eq.mpr (er96 _) vv6) (ea96 _) ?_
    refine ow_icmpeq (pc' := 58) (tg := 60) dX12_areOne_55 rfl rfl (fun hc => ?_) (fun hc => ?_)
    · have h := h.1 hc
      obtain ⟨vv7, h⟩ := h
      refine ow_iinc (pc' := 63) (lv' := [(0, (3, 83)), (1, (0, l1)), (2, (0, l2)), (4, (0, l4)), (5, (0, l5 + 1))]) dX12_areOne_60 rfl vv7 rfl rfl rfl ?_
      refine ow_goto (tg := 18) dX12_areOne_63 rfl ?_
      exact h
    · have h := h.2 hc
      refine ow_iconst (pc' := 59) (n := 0) dX12_areOne_58 rfl rfl ?_
      exact ow_zret dX12_areOne_59 rfl rfl (Or.inl rfl) h
theorem fX12_areOne {C : ow_C} {A L N : Int} {d : Nat} {M : ow_M} {K : Int → ow_M → Prop} {l1 l2 l3 : Int} (h : ow_I (L - l3) ∧ ow_Sp C (EM A L N) d mX12_powerOf (0, 0) [(0, A), (0, L - l3)] M (fun r1 N1 => ow_At C (EM A L N) (d + 1) mX12_areOne 18 [(0, (3, 83)), (1, (0, l1)), (2, (0, l2)), (4, (0, r1)), (5, (0, 0))] [] (0, 0) N1 K)) : ow_Sp C (EM A L N) (d + 1) mX12_areOne (0, 0) [(3, 83), (0, l1), (0, l2), (0, l3)] M K := ow_enter (by decide +kernel) rfl rfl (cX12_areOne_0 h)
set_option maxRecDepth 20000 in
theorem cX12_isFirst_0 {C : ow_C} {A L N : Int} {d : Nat} {M : ow_M} {K : Int → ow_M → Prop} {l1 l2 : Int} (h : ow_At C (EM A L N) (d + 1) mX12_isFirst 2 [(0, (3, 83)), (1, (0, l1)), (2, (0, l2)), (3, (0, 0))] [] (0, 0) M K) : ow_At C (EM A L N) (d + 1) mX12_isFirst 0 [(0, (3, 83)), (1, (0, l1)), (2, (0, l2))] [] (0, 0) M K := by
  refine ow_iconst (pc' := 1) (n := 0) dX12_isFirst_0 rfl rfl ?_
  refine ow_istore_n (pc' := 2) (lv' := [(0, (3, 83)), (1, (0, l1)), (2, (0, l2)), (3, (0, 0))]) dX12_isFirst_1 rfl rfl rfl ?_
  exact h
set_option maxRecDepth 20000 in
theorem cX12_isFirst_2 {C : ow_C} {A L N : Int} {d : Nat} {M : ow_M} {K : Int → ow_M → Prop} {l1 l2 l3 : Int} (h : (l1 ≤ l3 → K 1 M) ∧ (l3 < l1 → ow_Sp C (EM A L N) d mX12_wordOf (0, 0) [(3, 83), (0, l1)] M (fun r1 N1 => ow_Sp C (EM A L N) d mX12_wordOf (0, 0) [(3, 83), (0, l3)] N1 (fun r2 N2 => ow_Sp C (EM A L N) d mX12_areOne (0, 0) [(3, 83), (0, r1), (0, r2), (0, l2)] N2 (fun r3 N3 => (r3 = 0 → ow_I (l3 + 1) ∧ ow_At C (EM A L N) (d + 1) mX12_isFirst 2 [(0, (3, 83)), (1, (0, l1)), (2, (0, l2)), (3, (0, l3 + 1))] [] (0, 0) N3 K) ∧ (r3 ≠ 0 → K 0 N3)))))) : ow_At C (EM A L N) (d + 1) mX12_isFirst 2 [(0, (3, 83)), (1, (0, l1)), (2, (0, l2)), (3, (0, l3))] [] (0, 0) M K := by
  refine ow_iload_n (pc' := 3) (x := l3) dX12_isFirst_2 rfl rfl ?_
  refine ow_iload_n (pc' := 4) (x := l1) dX12_isFirst_3 rfl rfl ?_
  refine ow_icmpge (pc' := 7) (tg := 33) dX12_isFirst_4 rfl rfl (fun hc => ?_) (fun hc => ?_)
  · have h := h.1 hc
    refine ow_iconst (pc' := 34) (n := 1) dX12_isFirst_33 rfl rfl ?_
    exact ow_zret dX12_isFirst_34 rfl rfl (Or.inr rfl) h
  · have h := h.2 hc
    refine ow_aload_n (pc' := 8) (x := 83) dX12_isFirst_7 rfl rfl ?_
    refine ow_aload_n (pc' := 9) (x := 83) dX12_isFirst_8 rfl rfl ?_
    refine ow_iload_n (pc' := 10) (x := l1) dX12_isFirst_9 rfl rfl ?_
    refine ow_callVp (z := mX12_wordOf) (n := 1) (k := 12) (vs := [(0, l1)]) (x := 83) (st := [(3, 83)]) (pc' := 13) (b1 := (0, 0)) (b2 := (0, 0)) dX12_isFirst_10 lRX12_98 kX12_wordOf iX12_wordOf rfl rfl rfl rfl rfl rfl (of_eq_true eo83) (ow_Sp.mono h (fun r1 N1 h => ?_))
    refine ow_aload_n (pc' := 14) (x := 83) dX12_isFirst_13 rfl rfl ?_
    refine ow_iload_n (pc' := 15) (x := l3) dX12_isFirst_14 rfl rfl ?_
    refine ow_callVp (z := mX12_wordOf) (n := 1) (k := 12) (vs := [(0, l3)]) (x := 83) (st := [(0, r1), (3, 83)]) (pc' := 18) (b1 := (0, 0)) (b2 := (0, 0)) dX12_isFirst_15 lRX12_98 kX12_wordOf iX12_wordOf rfl rfl rfl rfl rfl rfl (of_eq_true eo83) (ow_Sp.mono h (fun r2 N2 h => ?_))
    refine ow_iload_n (pc' := 19) (x := l2) dX12_isFirst_18 rfl rfl ?_
    refine ow_callVp (z := mX12_areOne) (n := 3) (k := 12) (vs := [(0, r1), (0, r2), (0, l2)]) (x := 83) (st := []) (pc' := 22) (b1 := (0, 0)) (b2 := (0, 0)) dX12_isFirst_19 lRX12_355 kX12_areOne iX12_areOne rfl rfl rfl rfl rfl rfl (of_eq_true eo83) (ow_Sp.mono h (fun r3 N3 h => ?_))
    refine ow_ifeq (pc' := 25) (tg := 27) dX12_isFirst_22 rfl rfl (fun hc => ?_) (fun hc => ?_)
    · have h := h.1 hc
      obtain ⟨vv1, h⟩ := h
      refine ow_iinc (pc' := 30) (lv' := [(0, (3, 83)), (1, (0, l1)), (2, (0, l2)), (3, (0, l3 + 1))]) dX12_isFirst_27 rfl vv1 rfl rfl rfl ?_
      refine ow_goto (tg := 2) dX12_isFirst_30 rfl ?_
      exact h
    · have h := h.2 hc
      refine ow_iconst (pc' := 26) (n := 0) dX12_isFirst_25 rfl rfl ?_
      exact ow_zret dX12_isFirst_26 rfl rfl (Or.inl rfl) h
theorem fX12_isFirst {C : ow_C} {A L N : Int} {d : Nat} {M : ow_M} {K : Int → ow_M → Prop} {l1 l2 : Int} (h : ow_At C (EM A L N) (d + 1) mX12_isFirst 2 [(0, (3, 83)), (1, (0, l1)), (2, (0, l2)), (3, (0, 0))] [] (0, 0) M K) : ow_Sp C (EM A L N) (d + 1) mX12_isFirst (0, 0) [(3, 83), (0, l1), (0, l2)] M K := ow_enter (by decide +kernel) rfl rfl (cX12_isFirst_0 h)
set_option maxRecDepth 20000 in
theorem cX12_arcsOf_0 {C : ow_C} {A L N : Int} {d : Nat} {M : ow_M} {K : Int → ow_M → Prop} {l1 l2 : Int} (h : ow_I (L - l2) ∧ ow_Sp C (EM A L N) d mX12_powerOf (0, 0) [(0, A), (0, L - l2)] M (fun r1 N1 => ow_At C (EM A L N) (d + 1) mX12_arcsOf 20 [(0, (3, 83)), (1, (0, l1)), (3, (0, r1)), (4, (0, 0)), (5, (0, 0))] [] (0, 0) N1 K)) : ow_At C (EM A L N) (d + 1) mX12_arcsOf 0 [(0, (3, 83)), (1, (0, l1)), (2, (0, l2))] [] (0, 0) M K := by
  refine ow_aload_n (pc' := 1) (x := 83) dX12_arcsOf_0 rfl rfl ?_
  refine ow_getf3 (pc' := 4) (t := 0) (ji := 2) (val := A) dX12_arcsOf_1 fRX12_74 rfl rfl rfl (of_eq_true eo83) eg83_2 ?_
  refine ow_aload_n (pc' := 5) (x := 83) dX12_arcsOf_4 rfl rfl ?_
  refine ow_getf3 (pc' := 8) (t := 0) (ji := 3) (val := L) dX12_arcsOf_5 fRX12_81 rfl rfl rfl (of_eq_true eo83) eg83_3 ?_
  refine ow_iload_n (pc' := 9) (x := l2) dX12_arcsOf_8 rfl rfl ?_
  obtain ⟨vv1, h⟩ := h
  refine ow_isub (pc' := 10) dX12_arcsOf_9 vv1 rfl ?_
  refine ow_callSp (z := mX12_powerOf) (n := 2) (vs := [(0, A), (0, L - l2)]) (st := []) (pc' := 13) (b1 := (0, 0)) (b2 := (0, 0)) dX12_arcsOf_10 lRX12_77 kX12_powerOf zX12_powerOf rfl rfl rfl rfl rfl rfl (ow_Sp.mono h (fun r1 N1 h => ?_))
  refine ow_istore_n (pc' := 14) (lv' := [(0, (3, 83)), (1, (0, l1)), (2, (0, l2)), (3, (0, r1))]) dX12_arcsOf_13 rfl rfl rfl ?_
  refine ow_iconst (pc' := 15) (n := 0) dX12_arcsOf_14 rfl rfl ?_
  refine ow_istore (pc' := 17) (lv' := [(0, (3, 83)), (1, (0, l1)), (2, (0, l2)), (3, (0, r1)), (4, (0, 0))]) dX12_arcsOf_15 rfl rfl rfl ?_
  refine ow_iconst (pc' := 18) (n := 0) dX12_arcsOf_17 rfl rfl ?_
  refine ow_istore (pc' := 20) (lv' := [(0, (3, 83)), (1, (0, l1)), (2, (0, l2)), (3, (0, r1)), (4, (0, 0)), (5, (0, 0))]) dX12_arcsOf_18 rfl rfl rfl ?_
  refine ow_sub (lv' := [(0, (3, 83)), (1, (0, l1)), (3, (0, r1)), (4, (0, 0)), (5, (0, 0))]) [0, 1, 3, 4, 5] rfl ?_
  exact h
set_option maxRecDepth 20000 in
theorem cX12_arcsOf_20 {C : ow_C} {A L N : Int} {d : Nat} {M : ow_M} {K : Int → ow_M → Prop} {l1 l3 l4 l5 : Int} (h : (A ≤ l5 → K l4 M) ∧ (l5 < A → ow_At C (EM A L N) (d + 1) mX12_arcsOf 35 [(0, (3, 83)), (1, (0, l1)), (3, (0, l3)), (4, (0, l4)), (5, (0, l5)), (6, (0, 0)), (7, (0, 0))] [] (0, 0) M K)) : ow_At C (EM A L N) (d + 1) mX12_arcsOf 20 [(0, (3, 83)), (1, (0, l1)), (3, (0, l3)), (4, (0, l4)), (5, (0, l5))] [] (0, 0) M K := by
  refine ow_iload (pc' := 22) (x := l5) dX12_arcsOf_20 rfl rfl ?_
  refine ow_aload_n (pc' := 23) (x := 83) dX12_arcsOf_22 rfl rfl ?_
  refine ow_getf3 (pc' := 26) (t := 0) (ji := 2) (val := A) dX12_arcsOf_23 fRX12_74 rfl rfl rfl (of_eq_true eo83) eg83_2 ?_
  refine ow_icmpge (pc' := 29) (tg := 110) dX12_arcsOf_26 rfl rfl (fun hc => ?_) (fun hc => ?_)
  · have h := h.1 hc
    refine ow_iload (pc' := 112) (x := l4) dX12_arcsOf_110 rfl rfl ?_
    exact ow_iret dX12_arcsOf_112 rfl rfl h
  · have h := h.2 hc
    refine ow_iconst (pc' := 30) (n := 0) dX12_arcsOf_29 rfl rfl ?_
    refine ow_istore (pc' := 32) (lv' := [(0, (3, 83)), (1, (0, l1)), (3, (0, l3)), (4, (0, l4)), (5, (0, l5)), (6, (0, 0))]) dX12_arcsOf_30 rfl rfl rfl ?_
    refine ow_iconst (pc' := 33) (n := 0) dX12_arcsOf_32 rfl rfl ?_
    refine ow_istore (pc' := 35) (lv' := [(0, (3, 83)), (1, (0, l1)), (3, (0, l3)), (4, (0, l4)), (5, (0, l5)), (6, (0, 0)), (7, (0, 0))]) dX12_arcsOf_33 rfl rfl rfl ?_
    exact h
set_option maxRecDepth 20000 in
theorem cX12_arcsOf_35 {C : ow_C} {A L N : Int} {d : Nat} {M : ow_M} {K : Int → ow_M → Prop} {l1 l3 l4 l5 l6 l7 : Int} (h : (l3 ≤ l7 → (l6 = 0 → ow_I (l4 + 0) ∧ ow_I (l5 + 1) ∧ ow_At C (EM A L N) (d + 1) mX12_arcsOf 20 [(0, (3, 83)), (1, (0, l1)), (3, (0, l3)), (4, (0, l4 + 0)), (5, (0, l5 + 1))] [] (0, 0) M K) ∧ (l6 ≠ 0 → ow_I (l4 + 1) ∧ ow_I (l5 + 1) ∧ ow_At C (EM A L N) (d + 1) mX12_arcsOf 20 [(0, (3, 83)), (1, (0, l1)), (3, (0, l3)), (4, (0, l4 + 1)), (5, (0, l5 + 1))] [] (0, 0) M K)) ∧ (l7 < l3 → (l6 ≠ 0 → ow_At C (EM A L N) (d + 1) mX12_arcsOf 76 [(0, (3, 83)), (1, (0, l1)), (3, (0, l3)), (4, (0, l4)), (5, (0, l5)), (7, (0, l7))] [] (0, 0) M K) ∧ (l6 = 0 → A ≠ 0 ∧ ow_I (Int.tdiv l3 A) ∧ (Int.tdiv l3 A) ≠ 0 ∧ ow_I (Int.tdiv l7 (Int.tdiv l3 A)) ∧ ((Int.tdiv l7 (Int.tdiv l3 A)) ≠ l5 → ow_At C (EM A L N) (d + 1) mX12_arcsOf 80 [(0, (3, 83)), (1, (0, l1)), (3, (0, l3)), (4, (0, l4)), (5, (0, l5)), (7, (0, l7))] [] (0, 0) M K) ∧ ((Int.tdiv l7 (Int.tdiv l3 A)) = l5 → l3 ≠ 0 ∧ ow_I (Int.tdiv l1 l3) ∧ ow_I ((Int.tdiv l1 l3) * l3) ∧ ow_I (((Int.tdiv l1 l3) * l3) + l7) ∧ (0 ≤ (((Int.tdiv l1 l3) * l3) + l7) ∧ (((Int.tdiv l1 l3) * l3) + l7) < 256) ∧ ((M 96 (((Int.tdiv l1 l3) * l3) + l7)) = 0 → ow_At C (EM A L N) (d + 1) mX12_arcsOf 80 [(0, (3, 83)), (1, (0, l1)), (3, (0, l3)), (4, (0, l4)), (5, (0, l5)), (7, (0, l7))] [] (0, 0) M K) ∧ ((M 96 (((Int.tdiv l1 l3) * l3) + l7)) ≠ 0 → ow_At C (EM A L N) (d + 1) mX12_arcsOf 76 [(0, (3, 83)), (1, (0, l1)), (3, (0, l3)), (4, (0, l4)), (5, (0, l5)), (7, (0, l7))] [] (0, 0) M K))))) : ow_At C (EM A L N) (d + 1) mX12_arcsOf 35 [(0, (3, 83)), (1, (0, l1)), (3, (0, l3)), (4, (0, l4)), (5, (0, l5)), (6, (0, l6)), (7, (0, l7))] [] (0, 0) M K := by
  refine ow_iload (pc' := 37) (x := l7) dX12_arcsOf_35 rfl rfl ?_
  refine ow_iload_n (pc' := 38) (x := l3) dX12_arcsOf_37 rfl rfl ?_
  refine ow_icmpge (pc' := 41) (tg := 89) dX12_arcsOf_38 rfl rfl (fun hc => ?_) (fun hc => ?_)
  · have h := h.1 hc
    refine ow_iload (pc' := 91) (x := l4) dX12_arcsOf_89 rfl rfl ?_
    refine ow_iload (pc' := 93) (x := l6) dX12_arcsOf_91 rfl rfl ?_
    refine ow_ifeq (pc' := 96) (tg := 100) dX12_arcsOf_93 rfl rfl (fun hc => ?_) (fun hc => ?_)
    · have h := h.1 hc
      refine ow_iconst (pc' := 101) (n := 0) dX12_arcsOf_100 rfl rfl ?_
      obtain ⟨vv1, h⟩ := h
      refine ow_iadd (pc' := 102) dX12_arcsOf_101 vv1 rfl ?_
      refine ow_istore (pc' := 104) (lv' := [(0, (3, 83)), (1, (0, l1)), (3, (0, l3)), (4, (0, l4 + 0)), (5, (0, l5)), (6, (0, l6)), (7, (0, l7))]) dX12_arcsOf_102 rfl rfl rfl ?_
      obtain ⟨vv2, h⟩ := h
      refine ow_iinc (pc' := 107) (lv' := [(0, (3, 83)), (1, (0, l1)), (3, (0, l3)), (4, (0, l4 + 0)), (5, (0, l5 + 1)), (6, (0, l6)), (7, (0, l7))]) dX12_arcsOf_104 rfl vv2 rfl rfl rfl ?_
      refine ow_goto (tg := 20) dX12_arcsOf_107 rfl ?_
      refine ow_sub (lv' := [(0, (3, 83)), (1, (0, l1)), (3, (0, l3)), (4, (0, l4 + 0)), (5, (0, l5 + 1))]) [0, 1, 2, 3, 4] rfl ?_
      exact h
    · have h := h.2 hc
      refine ow_iconst (pc' := 97) (n := 1) dX12_arcsOf_96 rfl rfl ?_
      refine ow_goto (tg := 101) dX12_arcsOf_97 rfl ?_
      obtain ⟨vv3, h⟩ := h
      refine ow_iadd (pc' := 102) dX12_arcsOf_101 vv3 rfl ?_
      refine ow_istore (pc' := 104) (lv' := [(0, (3, 83)), (1, (0, l1)), (3, (0, l3)), (4, (0, l4 + 1)), (5, (0, l5)), (6, (0, l6)), (7, (0, l7))]) dX12_arcsOf_102 rfl rfl rfl ?_
      obtain ⟨vv4, h⟩ := h
      refine ow_iinc (pc' := 107) (lv' := [(0, (3, 83)), (1, (0, l1)), (3, (0, l3)), (4, (0, l4 + 1)), (5, (0, l5 + 1)), (6, (0, l6)), (7, (0, l7))]) dX12_arcsOf_104 rfl vv4 rfl rfl rfl ?_
      refine ow_goto (tg := 20) dX12_arcsOf_107 rfl ?_
      refine ow_sub (lv' := [(0, (3, 83)), (1, (0, l1)), (3, (0, l3)), (4, (0, l4 + 1)), (5, (0, l5 + 1))]) [0, 1, 2, 3, 4] rfl ?_
      exact h
  · have h := h.2 hc
    refine ow_iload (pc' := 43) (x := l6) dX12_arcsOf_41 rfl rfl ?_
    refine ow_ifne (pc' := 46) (tg := 76) dX12_arcsOf_43 rfl rfl (fun hc => ?_) (fun hc => ?_)
    · have h := h.1 hc
      refine ow_sub (lv' := [(0, (3, 83)), (1, (0, l1)), (3, (0, l3)), (4, (0, l4)), (5, (0, l5)), (7, (0, l7))]) [0, 1, 2, 3, 4, 6] rfl ?_
      exact h
    · have h := h.2 hc
      refine ow_iload (pc' := 48) (x := l7) dX12_arcsOf_46 rfl rfl ?_
      refine ow_iload_n (pc' := 49) (x := l3) dX12_arcsOf_48 rfl rfl ?_
      refine ow_aload_n (pc' := 50) (x := 83) dX12_arcsOf_49 rfl rfl ?_
      refine ow_getf3 (pc' := 53) (t := 0) (ji := 2) (val := A) dX12_arcsOf_50 fRX12_74 rfl rfl rfl (of_eq_true eo83) eg83_2 ?_
      obtain ⟨w0, w, h⟩ := h
      refine ow_idiv (pc' := 54) dX12_arcsOf_53 w0 w rfl ?_
      obtain ⟨w0, w, h⟩ := h
      refine ow_idiv (pc' := 55) dX12_arcsOf_54 w0 w rfl ?_
      refine ow_iload (pc' := 57) (x := l5) dX12_arcsOf_55 rfl rfl ?_
      refine ow_icmpne (pc' := 60) (tg := 80) dX12_arcsOf_57 rfl rfl (fun hc => ?_) (fun hc => ?_)
      · have h := h.1 hc
        refine ow_sub (lv' := [(0, (3, 83)), (1, (0, l1)), (3, (0, l3)), (4, (0, l4)), (5, (0, l5)), (7, (0, l7))]) [0, 1, 2, 3, 4, 6] rfl ?_
        exact h
      · have h := h.2 hc
        refine ow_aload_n (pc' := 61) (x := 83) dX12_arcsOf_60 rfl rfl ?_
        refine ow_getf3 (pc' := 64) (t := 3) (ji := 33) (val := 96) dX12_arcsOf_61 fRX12_55 rfl rfl rfl (of_eq_true eo83) eg83_33 ?_
        refine ow_iload_n (pc' := 65) (x := l1) dX12_arcsOf_64 rfl rfl ?_
        refine ow_iload_n (pc' := 66) (x := l3) dX12_arcsOf_65 rfl rfl ?_
        obtain ⟨w0, w, h⟩ := h
        refine ow_idiv (pc' := 67) dX12_arcsOf_66 w0 w rfl ?_
        refine ow_iload_n (pc' := 68) (x := l3) dX12_arcsOf_67 rfl rfl ?_
        obtain ⟨vv5, h⟩ := h
        refine ow_imul (pc' := 69) dX12_arcsOf_68 vv5 rfl ?_
        refine ow_iload (pc' := 71) (x := l7) dX12_arcsOf_69 rfl rfl ?_
        obtain ⟨vv6, h⟩ := h
        refine ow_iadd (pc' := 72) dX12_arcsOf_71 vv6 rfl ?_
        obtain ⟨vv7, h⟩ := h
        refine ow_baload3 (pc' := 73) (val := M 96 (((Int.tdiv l1 l3) * l3) + l7)) dX12_arcsOf_72 rfl (Eq.mpr (er96 _) vv7) (ea96 _) ?_
        refine ow_ifeq (pc' := 76) (tg := 80) dX12_arcsOf_73 rfl rfl (fun hc => ?_) (fun hc => ?_)
        · have h := h.1 hc
          refine ow_sub (lv' := [(0, (3, 83)), (1, (0, l1)), (3, (0, l3)), (4, (0, l4)), (5, (0, l5)), (7, (0, l7))]) [0, 1, 2, 3, 4, 6] rfl ?_
          exact h
        · have h := h.2 hc
          refine ow_sub (lv' := [(0, (3, 83)), (1, (0, l1)), (3, (0, l3)), (4, (0, l4)), (5, (0, l5)), (7, (0, l7))]) [0, 1, 2, 3, 4, 6] rfl ?_
          exact h
set_option maxRecDepth 20000 in
theorem cX12_arcsOf_76 {C : ow_C} {A L N : Int} {d : Nat} {M : ow_M} {K : Int → ow_M → Prop} {l1 l3 l4 l5 l7 : Int} (h : ow_I (l7 + 1) ∧ ow_At C (EM A L N) (d + 1) mX12_arcsOf 35 [(0, (3, 83)), (1, (0, l1)), (3, (0, l3)), (4, (0, l4)), (5, (0, l5)), (6, (0, 1)), (7, (0, l7 + 1))] [] (0, 0) M K) : ow_At C (EM A L N) (d + 1) mX12_arcsOf 76 [(0, (3, 83)), (1, (0, l1)), (3, (0, l3)), (4, (0, l4)), (5, (0, l5)), (7, (0, l7))] [] (0, 0) M K := by
  refine ow_iconst (pc' := 77) (n := 1) dX12_arcsOf_76 rfl rfl ?_
  refine ow_goto (tg := 81) dX12_arcsOf_77 rfl ?_
  refine ow_istore (pc' := 83) (lv' := [(0, (3, 83)), (1, (0, l1)), (3, (0, l3)), (4, (0, l4)), (5, (0, l5)), (6, (0, 1)), (7, (0, l7))]) dX12_arcsOf_81 rfl rfl rfl ?_
  obtain ⟨vv1, h⟩ := h
  refine ow_iinc (pc' := 86) (lv' := [(0, (3, 83)), (1, (0, l1)), (3, (0, l3)), (4, (0, l4)), (5, (0, l5)), (6, (0, 1)), (7, (0, l7 + 1))]) dX12_arcsOf_83 rfl vv1 rfl rfl rfl ?_
  refine ow_goto (tg := 35) dX12_arcsOf_86 rfl ?_
  exact h
set_option maxRecDepth 20000 in
theorem cX12_arcsOf_80 {C : ow_C} {A L N : Int} {d : Nat} {M : ow_M} {K : Int → ow_M → Prop} {l1 l3 l4 l5 l7 : Int} (h : ow_I (l7 + 1) ∧ ow_At C (EM A L N) (d + 1) mX12_arcsOf 35 [(0, (3, 83)), (1, (0, l1)), (3, (0, l3)), (4, (0, l4)), (5, (0, l5)), (6, (0, 0)), (7, (0, l7 + 1))] [] (0, 0) M K) : ow_At C (EM A L N) (d + 1) mX12_arcsOf 80 [(0, (3, 83)), (1, (0, l1)), (3, (0, l3)), (4, (0, l4)), (5, (0, l5)), (7, (0, l7))] [] (0, 0) M K := by
  refine ow_iconst (pc' := 81) (n := 0) dX12_arcsOf_80 rfl rfl ?_
  refine ow_istore (pc' := 83) (lv' := [(0, (3, 83)), (1, (0, l1)), (3, (0, l3)), (4, (0, l4)), (5, (0, l5)), (6, (0, 0)), (7, (0, l7))]) dX12_arcsOf_81 rfl rfl rfl ?_
  obtain ⟨vv1, h⟩ := h
  refine ow_iinc (pc' := 86) (lv' := [(0, (3, 83)), (1, (0, l1)), (3, (0, l3)), (4, (0, l4)), (5, (0, l5)), (6, (0, 0)), (7, (0, l7 + 1))]) dX12_arcsOf_83 rfl vv1 rfl rfl rfl ?_
  refine ow_goto (tg := 35) dX12_arcsOf_86 rfl ?_
  exact h
theorem fX12_arcsOf {C : ow_C} {A L N : Int} {d : Nat} {M : ow_M} {K : Int → ow_M → Prop} {l1 l2 : Int} (h : ow_I (L - l2) ∧ ow_Sp C (EM A L N) d mX12_powerOf (0, 0) [(0, A), (0, L - l2)] M (fun r1 N1 => ow_At C (EM A L N) (d + 1) mX12_arcsOf 20 [(0, (3, 83)), (1, (0, l1)), (3, (0, r1)), (4, (0, 0)), (5, (0, 0))] [] (0, 0) N1 K)) : ow_Sp C (EM A L N) (d + 1) mX12_arcsOf (0, 0) [(3, 83), (0, l1), (0, l2)] M K := ow_enter (by decide +kernel) rfl rfl (cX12_arcsOf_0 h)
set_option maxRecDepth 20000 in
theorem cX12_tree_0 {C : ow_C} {A L N : Int} {d : Nat} {M : ow_M} {K : Int → ow_M → Prop} {l1 : Int} (h : ow_Sp C (EM A L N) d mX12_isIn (0, 0) [(0, l1), (0, 0), (0, 1)] M (fun r1 N1 => (r1 ≠ 0 → ow_Sp C (EM A L N) d mX12_findBook (0, 0) [(3, 83)] N1 (fun r2 N2 => ow_At C (EM A L N) (d + 1) mX12_tree 22 [(0, (3, 83)), (1, (0, l1)), (2, (0, 0)), (3, (0, 0)), (4, (0, 0))] [] (0, 0) N2 K)) ∧ (r1 = 0 → K ((-1)) N1))) : ow_At C (EM A L N) (d + 1) mX12_tree 0 [(0, (3, 83)), (1, (0, l1))] [] (0, 0) M K := by
  refine ow_iload_n (pc' := 1) (x := l1) dX12_tree_0 rfl rfl ?_
  refine ow_iconst (pc' := 2) (n := 0) dX12_tree_1 rfl rfl ?_
  refine ow_iconst (pc' := 3) (n := 1) dX12_tree_2 rfl rfl ?_
  refine ow_callSp (z := mX12_isIn) (n := 3) (vs := [(0, l1), (0, 0), (0, 1)]) (st := []) (pc' := 6) (b1 := (0, 0)) (b2 := (0, 0)) dX12_tree_3 lRX12_91 kX12_isIn zX12_isIn rfl rfl rfl rfl rfl rfl (ow_Sp.mono h (fun r1 N1 h => ?_))
  refine ow_ifne (pc' := 9) (tg := 11) dX12_tree_6 rfl rfl (fun hc => ?_) (fun hc => ?_)
  · have h := h.1 hc
    refine ow_aload_n (pc' := 12) (x := 83) dX12_tree_11 rfl rfl ?_
    refine ow_callVv (z := mX12_findBook) (n := 0) (k := 12) (vs := []) (x := 83) (st := []) (pc' := 15) (b1 := (0, 0)) (b2 := (0, 0)) dX12_tree_12 lRX12_358 kX12_findBook iX12_findBook rfl rfl rfl rfl rfl rfl (of_eq_true eo83) (ow_Sp.mono h (fun r2 N2 h => ?_))
    refine ow_iconst (pc' := 16) (n := 0) dX12_tree_15 rfl rfl ?_
    refine ow_istore_n (pc' := 17) (lv' := [(0, (3, 83)), (1, (0, l1)), (2, (0, 0))]) dX12_tree_16 rfl rfl rfl ?_
    refine ow_iconst (pc' := 18) (n := 0) dX12_tree_17 rfl rfl ?_
    refine ow_istore_n (pc' := 19) (lv' := [(0, (3, 83)), (1, (0, l1)), (2, (0, 0)), (3, (0, 0))]) dX12_tree_18 rfl rfl rfl ?_
    refine ow_iconst (pc' := 20) (n := 0) dX12_tree_19 rfl rfl ?_
    refine ow_istore (pc' := 22) (lv' := [(0, (3, 83)), (1, (0, l1)), (2, (0, 0)), (3, (0, 0)), (4, (0, 0))]) dX12_tree_20 rfl rfl rfl ?_
    exact h
  · have h := h.2 hc
    refine ow_iconst (pc' := 10) (n := (-1)) dX12_tree_9 rfl rfl ?_
    exact ow_iret dX12_tree_10 rfl rfl h
set_option maxRecDepth 20000 in
theorem cX12_tree_22 {C : ow_C} {A L N : Int} {d : Nat} {M : ow_M} {K : Int → ow_M → Prop} {l1 l2 l3 l4 : Int} (h : (L < l4 → (l1 ≠ 0 → K l3 M) ∧ (l1 = 0 → K l2 M)) ∧ (l4 ≤ L → ow_At C (EM A L N) (d + 1) mX12_tree 34 [(0, (3, 83)), (1, (0, l1)), (2, (0, l2)), (3, (0, l3)), (4, (0, l4)), (5, (0, 0))] [] (0, 0) M K)) : ow_At C (EM A L N) (d + 1) mX12_tree 22 [(0, (3, 83)), (1, (0, l1)), (2, (0, l2)), (3, (0, l3)), (4, (0, l4))] [] (0, 0) M K := by
  refine ow_iload (pc' := 24) (x := l4) dX12_tree_22 rfl rfl ?_
  refine ow_aload_n (pc' := 25) (x := 83) dX12_tree_24 rfl rfl ?_
  refine ow_getf3 (pc' := 28) (t := 0) (ji := 3) (val := L) dX12_tree_25 fRX12_81 rfl rfl rfl (of_eq_true eo83) eg83_3 ?_
  refine ow_icmpgt (pc' := 31) (tg := 102) dX12_tree_28 rfl rfl (fun hc => ?_) (fun hc => ?_)
  · have h := h.1 hc
    refine ow_iload_n (pc' := 103) (x := l1) dX12_tree_102 rfl rfl ?_
    refine ow_ifne (pc' := 106) (tg := 110) dX12_tree_103 rfl rfl (fun hc => ?_) (fun hc => ?_)
    · have h := h.1 hc
      refine ow_iload_n (pc' := 111) (x := l3) dX12_tree_110 rfl rfl ?_
      exact ow_iret dX12_tree_111 rfl rfl h
    · have h := h.2 hc
      refine ow_iload_n (pc' := 107) (x := l2) dX12_tree_106 rfl rfl ?_
      refine ow_goto (tg := 111) dX12_tree_107 rfl ?_
      exact ow_iret dX12_tree_111 rfl rfl h
  · have h := h.2 hc
    refine ow_iconst (pc' := 32) (n := 0) dX12_tree_31 rfl rfl ?_
    refine ow_istore (pc' := 34) (lv' := [(0, (3, 83)), (1, (0, l1)), (2, (0, l2)), (3, (0, l3)), (4, (0, l4)), (5, (0, 0))]) dX12_tree_32 rfl rfl rfl ?_
    exact h
set_option maxRecDepth 20000 in
theorem cX12_tree_34 {C : ow_C} {A L N : Int} {d : Nat} {M : ow_M} {K : Int → ow_M → Prop} {l1 l2 l3 l4 l5 : Int} (h : ((M 84 2) ≤ l5 → ow_I (l4 + 1) ∧ ow_At C (EM A L N) (d + 1) mX12_tree 22 [(0, (3, 83)), (1, (0, l1)), (2, (0, l2)), (3, (0, l3)), (4, (0, l4 + 1))] [] (0, 0) M K) ∧ (l5 < (M 84 2) → ow_Sp C (EM A L N) d mX12_isFirst (0, 0) [(3, 83), (0, l5), (0, l4)] M (fun r1 N1 => (r1 ≠ 0 → ow_I (l2 + 1) ∧ (L ≤ l4 → ow_At C (EM A L N) (d + 1) mX12_tree 88 [(0, (3, 83)), (1, (0, l1)), (2, (0, l2 + 1)), (4, (0, l4)), (5, (0, l5))] [(0, 0), (0, l3)] (0, 0) N1 K) ∧ (l4 < L → ow_Sp C (EM A L N) d mX12_wordOf (0, 0) [(3, 83), (0, l5)] N1 (fun r2 N2 => ow_Sp C (EM A L N) d mX12_arcsOf (0, 0) [(3, 83), (0, r2), (0, l4)] N2 (fun r3 N3 => ow_At C (EM A L N) (d + 1) mX12_tree 88 [(0, (3, 83)), (1, (0, l1)), (2, (0, l2 + 1)), (4, (0, l4)), (5, (0, l5))] [(0, r3), (0, l3)] (0, 0) N3 K)))) ∧ (r1 = 0 → ow_I (l5 + 1) ∧ ow_At C (EM A L N) (d + 1) mX12_tree 34 [(0, (3, 83)), (1, (0, l1)), (2, (0, l2)), (3, (0, l3)), (4, (0, l4)), (5, (0, l5 + 1))] [] (0, 0) N1 K)))) : ow_At C (EM A L N) (d + 1) mX12_tree 34 [(0, (3, 83)), (1, (0, l1)), (2, (0, l2)), (3, (0, l3)), (4, (0, l4)), (5, (0, l5))] [] (0, 0) M K := by
  refine ow_iload (pc' := 36) (x := l5) dX12_tree_34 rfl rfl ?_
  refine ow_aload_n (pc' := 37) (x := 83) dX12_tree_36 rfl rfl ?_
  refine ow_getf3 (pc' := 40) (t := 3) (ji := 0) (val := 84) dX12_tree_37 fRX12_7 rfl rfl rfl (of_eq_true eo83) eg83_0 ?_
  refine ow_iconst (pc' := 41) (n := 2) dX12_tree_40 rfl rfl ?_
  refine ow_iaload3 (pc' := 42) (val := M 84 2) dX12_tree_41 rfl (Eq.mpr (er84 _) ⟨by decide, by decide⟩) (ea84 _) ?_
  refine ow_icmpge (pc' := 45) (tg := 96) dX12_tree_42 rfl rfl (fun hc => ?_) (fun hc => ?_)
  · have h := h.1 hc
    obtain ⟨vv1, h⟩ := h
    refine ow_iinc (pc' := 99) (lv' := [(0, (3, 83)), (1, (0, l1)), (2, (0, l2)), (3, (0, l3)), (4, (0, l4 + 1)), (5, (0, l5))]) dX12_tree_96 rfl vv1 rfl rfl rfl ?_
    refine ow_goto (tg := 22) dX12_tree_99 rfl ?_
    refine ow_sub (lv' := [(0, (3, 83)), (1, (0, l1)), (2, (0, l2)), (3, (0, l3)), (4, (0, l4 + 1))]) [0, 1, 2, 3, 4] rfl ?_
    exact h
  · have h := h.2 hc
    refine ow_aload_n (pc' := 46) (x := 83) dX12_tree_45 rfl rfl ?_
    refine ow_iload (pc' := 48) (x := l5) dX12_tree_46 rfl rfl ?_
    refine ow_iload (pc' := 50) (x := l4) dX12_tree_48 rfl rfl ?_
    refine ow_callVp (z := mX12_isFirst) (n := 2) (k := 12) (vs := [(0, l5), (0, l4)]) (x := 83) (st := []) (pc' := 53) (b1 := (0, 0)) (b2 := (0, 0)) dX12_tree_50 lRX12_361 kX12_isFirst iX12_isFirst rfl rfl rfl rfl rfl rfl (of_eq_true eo83) (ow_Sp.mono h (fun r1 N1 h => ?_))
    refine ow_ifne (pc' := 56) (tg := 59) dX12_tree_53 rfl rfl (fun hc => ?_) (fun hc => ?_)
    · have h := h.1 hc
      obtain ⟨vv2, h⟩ := h
      refine ow_iinc (pc' := 62) (lv' := [(0, (3, 83)), (1, (0, l1)), (2, (0, l2 + 1)), (3, (0, l3)), (4, (0, l4)), (5, (0, l5))]) dX12_tree_59 rfl vv2 rfl rfl rfl ?_
      refine ow_iload_n (pc' := 63) (x := l3) dX12_tree_62 rfl rfl ?_
      refine ow_iload (pc' := 65) (x := l4) dX12_tree_63 rfl rfl ?_
      refine ow_aload_n (pc' := 66) (x := 83) dX12_tree_65 rfl rfl ?_
      refine ow_getf3 (pc' := 69) (t := 0) (ji := 3) (val := L) dX12_tree_66 fRX12_81 rfl rfl rfl (of_eq_true eo83) eg83_3 ?_
      refine ow_icmpge (pc' := 72) (tg := 87) dX12_tree_69 rfl rfl (fun hc => ?_) (fun hc => ?_)
      · have h := h.1 hc
        refine ow_iconst (pc' := 88) (n := 0) dX12_tree_87 rfl rfl ?_
        refine ow_sub (lv' := [(0, (3, 83)), (1, (0, l1)), (2, (0, l2 + 1)), (4, (0, l4)), (5, (0, l5))]) [0, 1, 2, 4, 5] rfl ?_
        exact h
      · have h := h.2 hc
        refine ow_aload_n (pc' := 73) (x := 83) dX12_tree_72 rfl rfl ?_
        refine ow_aload_n (pc' := 74) (x := 83) dX12_tree_73 rfl rfl ?_
        refine ow_iload (pc' := 76) (x := l5) dX12_tree_74 rfl rfl ?_
        refine ow_callVp (z := mX12_wordOf) (n := 1) (k := 12) (vs := [(0, l5)]) (x := 83) (st := [(3, 83), (0, l3)]) (pc' := 79) (b1 := (0, 0)) (b2 := (0, 0)) dX12_tree_76 lRX12_98 kX12_wordOf iX12_wordOf rfl rfl rfl rfl rfl rfl (of_eq_true eo83) (ow_Sp.mono h (fun r2 N2 h => ?_))
        refine ow_iload (pc' := 81) (x := l4) dX12_tree_79 rfl rfl ?_
        refine ow_callVp (z := mX12_arcsOf) (n := 2) (k := 12) (vs := [(0, r2), (0, l4)]) (x := 83) (st := [(0, l3)]) (pc' := 84) (b1 := (0, 0)) (b2 := (0, 0)) dX12_tree_81 lRX12_365 kX12_arcsOf iX12_arcsOf rfl rfl rfl rfl rfl rfl (of_eq_true eo83) (ow_Sp.mono h (fun r3 N3 h => ?_))
        refine ow_goto (tg := 88) dX12_tree_84 rfl ?_
        refine ow_sub (lv' := [(0, (3, 83)), (1, (0, l1)), (2, (0, l2 + 1)), (4, (0, l4)), (5, (0, l5))]) [0, 1, 2, 4, 5] rfl ?_
        exact h
    · have h := h.2 hc
      refine ow_goto (tg := 90) dX12_tree_56 rfl ?_
      obtain ⟨vv3, h⟩ := h
      refine ow_iinc (pc' := 93) (lv' := [(0, (3, 83)), (1, (0, l1)), (2, (0, l2)), (3, (0, l3)), (4, (0, l4)), (5, (0, l5 + 1))]) dX12_tree_90 rfl vv3 rfl rfl rfl ?_
      refine ow_goto (tg := 34) dX12_tree_93 rfl ?_
      exact h
set_option maxRecDepth 20000 in
theorem cX12_tree_88 {C : ow_C} {A L N : Int} {d : Nat} {M : ow_M} {K : Int → ow_M → Prop} {l1 l2 l4 l5 s0 s1 : Int} (h : ow_I (s1 + s0) ∧ ow_I (l5 + 1) ∧ ow_At C (EM A L N) (d + 1) mX12_tree 34 [(0, (3, 83)), (1, (0, l1)), (2, (0, l2)), (3, (0, s1 + s0)), (4, (0, l4)), (5, (0, l5 + 1))] [] (0, 0) M K) : ow_At C (EM A L N) (d + 1) mX12_tree 88 [(0, (3, 83)), (1, (0, l1)), (2, (0, l2)), (4, (0, l4)), (5, (0, l5))] [(0, s0), (0, s1)] (0, 0) M K := by
  obtain ⟨vv1, h⟩ := h
  refine ow_iadd (pc' := 89) dX12_tree_88 vv1 rfl ?_
  refine ow_istore_n (pc' := 90) (lv' := [(0, (3, 83)), (1, (0, l1)), (2, (0, l2)), (3, (0, s1 + s0)), (4, (0, l4)), (5, (0, l5))]) dX12_tree_89 rfl rfl rfl ?_
  obtain ⟨vv2, h⟩ := h
  refine ow_iinc (pc' := 93) (lv' := [(0, (3, 83)), (1, (0, l1)), (2, (0, l2)), (3, (0, s1 + s0)), (4, (0, l4)), (5, (0, l5 + 1))]) dX12_tree_90 rfl vv2 rfl rfl rfl ?_
  refine ow_goto (tg := 34) dX12_tree_93 rfl ?_
  exact h
theorem fX12_tree {C : ow_C} {A L N : Int} {d : Nat} {M : ow_M} {K : Int → ow_M → Prop} {l1 : Int} (h : ow_Sp C (EM A L N) d mX12_isIn (0, 0) [(0, l1), (0, 0), (0, 1)] M (fun r1 N1 => (r1 ≠ 0 → ow_Sp C (EM A L N) d mX12_findBook (0, 0) [(3, 83)] N1 (fun r2 N2 => ow_At C (EM A L N) (d + 1) mX12_tree 22 [(0, (3, 83)), (1, (0, l1)), (2, (0, 0)), (3, (0, 0)), (4, (0, 0))] [] (0, 0) N2 K)) ∧ (r1 = 0 → K ((-1)) N1))) : ow_Sp C (EM A L N) (d + 1) mX12_tree (0, 0) [(3, 83), (0, l1)] M K := ow_enter (by decide +kernel) rfl rfl (cX12_tree_0 h)
set_option maxRecDepth 20000 in
theorem cX12_shares_0 {C : ow_C} {A L N : Int} {d : Nat} {M : ow_M} {K : Int → ow_M → Prop} {l1 l2 l3 : Int} (h : ow_I ((M 84 2) - 1) ∧ ow_Sp C (EM A L N) d mX12_isIn (0, 0) [(0, l1), (0, 0), (0, (M 84 2) - 1)] M (fun r1 N1 => (r1 = 0 → K 0 N1) ∧ (r1 ≠ 0 → ow_I ((N1 84 2) - 1) ∧ ow_Sp C (EM A L N) d mX12_isIn (0, 0) [(0, l2), (0, 0), (0, (N1 84 2) - 1)] N1 (fun r2 N2 => (r2 = 0 → K 0 N2) ∧ (r2 ≠ 0 → ow_Sp C (EM A L N) d mX12_isIn (0, 0) [(0, l3), (0, 0), (0, L)] N2 (fun r3 N3 => (r3 ≠ 0 → ow_Sp C (EM A L N) d mX12_findBook (0, 0) [(3, 83)] N3 (fun r4 N4 => ow_Sp C (EM A L N) d mX12_wordOf (0, 0) [(3, 83), (0, l1)] N4 (fun r5 N5 => ow_Sp C (EM A L N) d mX12_wordOf (0, 0) [(3, 83), (0, l2)] N5 (fun r6 N6 => ow_Sp C (EM A L N) d mX12_areOne (0, 0) [(3, 83), (0, r5), (0, r6), (0, l3)] N6 (fun r7 N7 => (r7 = 0 ∨ r7 = 1) ∧ K r7 N7))))) ∧ (r3 = 0 → K 0 N3))))))) : ow_At C (EM A L N) (d + 1) mX12_shares 0 [(0, (3, 83)), (1, (0, l1)), (2, (0, l2)), (3, (0, l3))] [] (0, 0) M K := by
  refine ow_iload_n (pc' := 1) (x := l1) dX12_shares_0 rfl rfl ?_
  refine ow_iconst (pc' := 2) (n := 0) dX12_shares_1 rfl rfl ?_
  refine ow_aload_n (pc' := 3) (x := 83) dX12_shares_2 rfl rfl ?_
  refine ow_getf3 (pc' := 6) (t := 3) (ji := 0) (val := 84) dX12_shares_3 fRX12_7 rfl rfl rfl (of_eq_true eo83) eg83_0 ?_
  refine ow_iconst (pc' := 7) (n := 2) dX12_shares_6 rfl rfl ?_
  refine ow_iaload3 (pc' := 8) (val := M 84 2) dX12_shares_7 rfl (Eq.mpr (er84 _) ⟨by decide, by decide⟩) (ea84 _) ?_
  refine ow_iconst (pc' := 9) (n := 1) dX12_shares_8 rfl rfl ?_
  obtain ⟨vv1, h⟩ := h
  refine ow_isub (pc' := 10) dX12_shares_9 vv1 rfl ?_
  refine ow_callSp (z := mX12_isIn) (n := 3) (vs := [(0, l1), (0, 0), (0, (M 84 2) - 1)]) (st := []) (pc' := 13) (b1 := (0, 0)) (b2 := (0, 0)) dX12_shares_10 lRX12_91 kX12_isIn zX12_isIn rfl rfl rfl rfl rfl rfl (ow_Sp.mono h (fun r1 N1 h => ?_))
  refine ow_ifeq (pc' := 16) (tg := 44) dX12_shares_13 rfl rfl (fun hc => ?_) (fun hc => ?_)
  · have h := h.1 hc
    refine ow_iconst (pc' := 45) (n := 0) dX12_shares_44 rfl rfl ?_
    exact ow_zret dX12_shares_45 rfl rfl (Or.inl rfl) h
  · have h := h.2 hc
    refine ow_iload_n (pc' := 17) (x := l2) dX12_shares_16 rfl rfl ?_
    refine ow_iconst (pc' := 18) (n := 0) dX12_shares_17 rfl rfl ?_
    refine ow_aload_n (pc' := 19) (x := 83) dX12_shares_18 rfl rfl ?_
    refine ow_getf3 (pc' := 22) (t := 3) (ji := 0) (val := 84) dX12_shares_19 fRX12_7 rfl rfl rfl (of_eq_true eo83) eg83_0 ?_
    refine ow_iconst (pc' := 23) (n := 2) dX12_shares_22 rfl rfl ?_
    refine ow_iaload3 (pc' := 24) (val := N1 84 2) dX12_shares_23 rfl (Eq.mpr (er84 _) ⟨by decide, by decide⟩) (ea84 _) ?_
    refine ow_iconst (pc' := 25) (n := 1) dX12_shares_24 rfl rfl ?_
    obtain ⟨vv2, h⟩ := h
    refine ow_isub (pc' := 26) dX12_shares_25 vv2 rfl ?_
    refine ow_callSp (z := mX12_isIn) (n := 3) (vs := [(0, l2), (0, 0), (0, (N1 84 2) - 1)]) (st := []) (pc' := 29) (b1 := (0, 0)) (b2 := (0, 0)) dX12_shares_26 lRX12_91 kX12_isIn zX12_isIn rfl rfl rfl rfl rfl rfl (ow_Sp.mono h (fun r2 N2 h => ?_))
    refine ow_ifeq (pc' := 32) (tg := 44) dX12_shares_29 rfl rfl (fun hc => ?_) (fun hc => ?_)
    · have h := h.1 hc
      refine ow_iconst (pc' := 45) (n := 0) dX12_shares_44 rfl rfl ?_
      exact ow_zret dX12_shares_45 rfl rfl (Or.inl rfl) h
    · have h := h.2 hc
      refine ow_iload_n (pc' := 33) (x := l3) dX12_shares_32 rfl rfl ?_
      refine ow_iconst (pc' := 34) (n := 0) dX12_shares_33 rfl rfl ?_
      refine ow_aload_n (pc' := 35) (x := 83) dX12_shares_34 rfl rfl ?_
      refine ow_getf3 (pc' := 38) (t := 0) (ji := 3) (val := L) dX12_shares_35 fRX12_81 rfl rfl rfl (of_eq_true eo83) eg83_3 ?_
      refine ow_callSp (z := mX12_isIn) (n := 3) (vs := [(0, l3), (0, 0), (0, L)]) (st := []) (pc' := 41) (b1 := (0, 0)) (b2 := (0, 0)) dX12_shares_38 lRX12_91 kX12_isIn zX12_isIn rfl rfl rfl rfl rfl rfl (ow_Sp.mono h (fun r3 N3 h => ?_))
      refine ow_ifne (pc' := 44) (tg := 46) dX12_shares_41 rfl rfl (fun hc => ?_) (fun hc => ?_)
      · have h := h.1 hc
        refine ow_aload_n (pc' := 47) (x := 83) dX12_shares_46 rfl rfl ?_
        refine ow_callVv (z := mX12_findBook) (n := 0) (k := 12) (vs := []) (x := 83) (st := []) (pc' := 50) (b1 := (0, 0)) (b2 := (0, 0)) dX12_shares_47 lRX12_358 kX12_findBook iX12_findBook rfl rfl rfl rfl rfl rfl (of_eq_true eo83) (ow_Sp.mono h (fun r4 N4 h => ?_))
        refine ow_aload_n (pc' := 51) (x := 83) dX12_shares_50 rfl rfl ?_
        refine ow_aload_n (pc' := 52) (x := 83) dX12_shares_51 rfl rfl ?_
        refine ow_iload_n (pc' := 53) (x := l1) dX12_shares_52 rfl rfl ?_
        refine ow_callVp (z := mX12_wordOf) (n := 1) (k := 12) (vs := [(0, l1)]) (x := 83) (st := [(3, 83)]) (pc' := 56) (b1 := (0, 0)) (b2 := (0, 0)) dX12_shares_53 lRX12_98 kX12_wordOf iX12_wordOf rfl rfl rfl rfl rfl rfl (of_eq_true eo83) (ow_Sp.mono h (fun r5 N5 h => ?_))
        refine ow_aload_n (pc' := 57) (x := 83) dX12_shares_56 rfl rfl ?_
        refine ow_iload_n (pc' := 58) (x := l2) dX12_shares_57 rfl rfl ?_
        refine ow_callVp (z := mX12_wordOf) (n := 1) (k := 12) (vs := [(0, l2)]) (x := 83) (st := [(0, r5), (3, 83)]) (pc' := 61) (b1 := (0, 0)) (b2 := (0, 0)) dX12_shares_58 lRX12_98 kX12_wordOf iX12_wordOf rfl rfl rfl rfl rfl rfl (of_eq_true eo83) (ow_Sp.mono h (fun r6 N6 h => ?_))
        refine ow_iload_n (pc' := 62) (x := l3) dX12_shares_61 rfl rfl ?_
        refine ow_callVp (z := mX12_areOne) (n := 3) (k := 12) (vs := [(0, r5), (0, r6), (0, l3)]) (x := 83) (st := []) (pc' := 65) (b1 := (0, 0)) (b2 := (0, 0)) dX12_shares_62 lRX12_355 kX12_areOne iX12_areOne rfl rfl rfl rfl rfl rfl (of_eq_true eo83) (ow_Sp.mono h (fun r7 N7 h => ?_))
        exact ow_zret dX12_shares_65 rfl rfl h.1 h.2
      · have h := h.2 hc
        refine ow_iconst (pc' := 45) (n := 0) dX12_shares_44 rfl rfl ?_
        exact ow_zret dX12_shares_45 rfl rfl (Or.inl rfl) h
theorem fX12_shares {C : ow_C} {A L N : Int} {d : Nat} {M : ow_M} {K : Int → ow_M → Prop} {l1 l2 l3 : Int} (h : ow_I ((M 84 2) - 1) ∧ ow_Sp C (EM A L N) d mX12_isIn (0, 0) [(0, l1), (0, 0), (0, (M 84 2) - 1)] M (fun r1 N1 => (r1 = 0 → K 0 N1) ∧ (r1 ≠ 0 → ow_I ((N1 84 2) - 1) ∧ ow_Sp C (EM A L N) d mX12_isIn (0, 0) [(0, l2), (0, 0), (0, (N1 84 2) - 1)] N1 (fun r2 N2 => (r2 = 0 → K 0 N2) ∧ (r2 ≠ 0 → ow_Sp C (EM A L N) d mX12_isIn (0, 0) [(0, l3), (0, 0), (0, L)] N2 (fun r3 N3 => (r3 ≠ 0 → ow_Sp C (EM A L N) d mX12_findBook (0, 0) [(3, 83)] N3 (fun r4 N4 => ow_Sp C (EM A L N) d mX12_wordOf (0, 0) [(3, 83), (0, l1)] N4 (fun r5 N5 => ow_Sp C (EM A L N) d mX12_wordOf (0, 0) [(3, 83), (0, l2)] N5 (fun r6 N6 => ow_Sp C (EM A L N) d mX12_areOne (0, 0) [(3, 83), (0, r5), (0, r6), (0, l3)] N6 (fun r7 N7 => (r7 = 0 ∨ r7 = 1) ∧ K r7 N7))))) ∧ (r3 = 0 → K 0 N3))))))) : ow_Sp C (EM A L N) (d + 1) mX12_shares (0, 0) [(3, 83), (0, l1), (0, l2), (0, l3)] M K := ow_enter (by decide +kernel) rfl rfl (cX12_shares_0 h)
set_option maxRecDepth 20000 in
theorem cX12_unlike_0 {C : ow_C} {A L N : Int} {d : Nat} {M : ow_M} {K : Int → ow_M → Prop} {l1 l2 : Int} (h : ow_At C (EM A L N) (d + 1) mX12_unlike 5 [(0, (3, 83)), (1, (0, l1)), (2, (0, l2)), (3, (0, 0)), (4, (0, 0))] [] (0, 0) M K) : ow_At C (EM A L N) (d + 1) mX12_unlike 0 [(0, (3, 83)), (1, (0, l1)), (2, (0, l2))] [] (0, 0) M K := by
  refine ow_iconst (pc' := 1) (n := 0) dX12_unlike_0 rfl rfl ?_
  refine ow_istore_n (pc' := 2) (lv' := [(0, (3, 83)), (1, (0, l1)), (2, (0, l2)), (3, (0, 0))]) dX12_unlike_1 rfl rfl rfl ?_
  refine ow_iconst (pc' := 3) (n := 0) dX12_unlike_2 rfl rfl ?_
  refine ow_istore (pc' := 5) (lv' := [(0, (3, 83)), (1, (0, l1)), (2, (0, l2)), (3, (0, 0)), (4, (0, 0))]) dX12_unlike_3 rfl rfl rfl ?_
  exact h
set_option maxRecDepth 20000 in
theorem cX12_unlike_5 {C : ow_C} {A L N : Int} {d : Nat} {M : ow_M} {K : Int → ow_M → Prop} {l1 l2 l3 l4 : Int} (h : (L ≤ l4 → K l3 M) ∧ (l4 < L → ow_Sp C (EM A L N) d mX12_letterAt (0, 0) [(3, 83), (0, l1), (0, l4)] M (fun r1 N1 => ow_Sp C (EM A L N) d mX12_letterAt (0, 0) [(3, 83), (0, l2), (0, l4)] N1 (fun r2 N2 => (r1 = r2 → ow_I (l3 + 0) ∧ ow_I (l4 + 1) ∧ ow_At C (EM A L N) (d + 1) mX12_unlike 5 [(0, (3, 83)), (1, (0, l1)), (2, (0, l2)), (3, (0, l3 + 0)), (4, (0, l4 + 1))] [] (0, 0) N2 K) ∧ (r1 ≠ r2 → ow_I (l3 + 1) ∧ ow_I (l4 + 1) ∧ ow_At C (EM A L N) (d + 1) mX12_unlike 5 [(0, (3, 83)), (1, (0, l1)), (2, (0, l2)), (3, (0, l3 + 1)), (4, (0, l4 + 1))] [] (0, 0) N2 K))))) : ow_At C (EM A L N) (d + 1) mX12_unlike 5 [(0, (3, 83)), (1, (0, l1)), (2, (0, l2)), (3, (0, l3)), (4, (0, l4))] [] (0, 0) M K := by
  refine ow_iload (pc' := 7) (x := l4) dX12_unlike_5 rfl rfl ?_
  refine ow_aload_n (pc' := 8) (x := 83) dX12_unlike_7 rfl rfl ?_
  refine ow_getf3 (pc' := 11) (t := 0) (ji := 3) (val := L) dX12_unlike_8 fRX12_81 rfl rfl rfl (of_eq_true eo83) eg83_3 ?_
  refine ow_icmpge (pc' := 14) (tg := 45) dX12_unlike_11 rfl rfl (fun hc => ?_) (fun hc => ?_)
  · have h := h.1 hc
    refine ow_iload_n (pc' := 46) (x := l3) dX12_unlike_45 rfl rfl ?_
    exact ow_iret dX12_unlike_46 rfl rfl h
  · have h := h.2 hc
    refine ow_iload_n (pc' := 15) (x := l3) dX12_unlike_14 rfl rfl ?_
    refine ow_aload_n (pc' := 16) (x := 83) dX12_unlike_15 rfl rfl ?_
    refine ow_iload_n (pc' := 17) (x := l1) dX12_unlike_16 rfl rfl ?_
    refine ow_iload (pc' := 19) (x := l4) dX12_unlike_17 rfl rfl ?_
    refine ow_callVp (z := mX12_letterAt) (n := 2) (k := 12) (vs := [(0, l1), (0, l4)]) (x := 83) (st := [(0, l3)]) (pc' := 22) (b1 := (0, 0)) (b2 := (0, 0)) dX12_unlike_19 lRX12_95 kX12_letterAt iX12_letterAt rfl rfl rfl rfl rfl rfl (of_eq_true eo83) (ow_Sp.mono h (fun r1 N1 h => ?_))
    refine ow_aload_n (pc' := 23) (x := 83) dX12_unlike_22 rfl rfl ?_
    refine ow_iload_n (pc' := 24) (x := l2) dX12_unlike_23 rfl rfl ?_
    refine ow_iload (pc' := 26) (x := l4) dX12_unlike_24 rfl rfl ?_
    refine ow_callVp (z := mX12_letterAt) (n := 2) (k := 12) (vs := [(0, l2), (0, l4)]) (x := 83) (st := [(0, r1), (0, l3)]) (pc' := 29) (b1 := (0, 0)) (b2 := (0, 0)) dX12_unlike_26 lRX12_95 kX12_letterAt iX12_letterAt rfl rfl rfl rfl rfl rfl (of_eq_true eo83) (ow_Sp.mono h (fun r2 N2 h => ?_))
    refine ow_icmpeq (pc' := 32) (tg := 36) dX12_unlike_29 rfl rfl (fun hc => ?_) (fun hc => ?_)
    · have h := h.1 hc
      refine ow_iconst (pc' := 37) (n := 0) dX12_unlike_36 rfl rfl ?_
      obtain ⟨vv1, h⟩ := h
      refine ow_iadd (pc' := 38) dX12_unlike_37 vv1 rfl ?_
      refine ow_istore_n (pc' := 39) (lv' := [(0, (3, 83)), (1, (0, l1)), (2, (0, l2)), (3, (0, l3 + 0)), (4, (0, l4))]) dX12_unlike_38 rfl rfl rfl ?_
      obtain ⟨vv2, h⟩ := h
      refine ow_iinc (pc' := 42) (lv' := [(0, (3, 83)), (1, (0, l1)), (2, (0, l2)), (3, (0, l3 + 0)), (4, (0, l4 + 1))]) dX12_unlike_39 rfl vv2 rfl rfl rfl ?_
      refine ow_goto (tg := 5) dX12_unlike_42 rfl ?_
      exact h
    · have h := h.2 hc
      refine ow_iconst (pc' := 33) (n := 1) dX12_unlike_32 rfl rfl ?_
      refine ow_goto (tg := 37) dX12_unlike_33 rfl ?_
      obtain ⟨vv3, h⟩ := h
      refine ow_iadd (pc' := 38) dX12_unlike_37 vv3 rfl ?_
      refine ow_istore_n (pc' := 39) (lv' := [(0, (3, 83)), (1, (0, l1)), (2, (0, l2)), (3, (0, l3 + 1)), (4, (0, l4))]) dX12_unlike_38 rfl rfl rfl ?_
      obtain ⟨vv4, h⟩ := h
      refine ow_iinc (pc' := 42) (lv' := [(0, (3, 83)), (1, (0, l1)), (2, (0, l2)), (3, (0, l3 + 1)), (4, (0, l4 + 1))]) dX12_unlike_39 rfl vv4 rfl rfl rfl ?_
      refine ow_goto (tg := 5) dX12_unlike_42 rfl ?_
      exact h
theorem fX12_unlike {C : ow_C} {A L N : Int} {d : Nat} {M : ow_M} {K : Int → ow_M → Prop} {l1 l2 : Int} (h : ow_At C (EM A L N) (d + 1) mX12_unlike 5 [(0, (3, 83)), (1, (0, l1)), (2, (0, l2)), (3, (0, 0)), (4, (0, 0))] [] (0, 0) M K) : ow_Sp C (EM A L N) (d + 1) mX12_unlike (0, 0) [(3, 83), (0, l1), (0, l2)] M K := ow_enter (by decide +kernel) rfl rfl (cX12_unlike_0 h)
set_option maxRecDepth 20000 in
theorem cX12_near_0 {C : ow_C} {A L N : Int} {d : Nat} {M : ow_M} {K : Int → ow_M → Prop} {l1 l2 l3 : Int} (h : ow_Sp C (EM A L N) d mX12_isWord0 (0, 0) [(3, 83), (0, l1)] M (fun r1 N1 => (r1 = 0 → K ((-1)) N1) ∧ (r1 ≠ 0 → ow_Sp C (EM A L N) d mX12_isIn (0, 0) [(0, l2), (0, 0), (0, L)] N1 (fun r2 N2 => (r2 = 0 → K ((-1)) N2) ∧ (r2 ≠ 0 → (((-1)) ≤ l3 → ow_At C (EM A L N) (d + 1) mX12_near 33 [(0, (3, 83)), (1, (0, l1)), (2, (0, l2)), (3, (0, l3)), (4, (0, 0)), (5, (0, 0))] [] (0, 0) N2 K) ∧ (l3 < ((-1)) → K ((-1)) N2)))))) : ow_At C (EM A L N) (d + 1) mX12_near 0 [(0, (3, 83)), (1, (0, l1)), (2, (0, l2)), (3, (0, l3))] [] (0, 0) M K := by
  refine ow_aload_n (pc' := 1) (x := 83) dX12_near_0 rfl rfl ?_
  refine ow_iload_n (pc' := 2) (x := l1) dX12_near_1 rfl rfl ?_
  refine ow_callVp (z := mX12_isWord0) (n := 1) (k := 12) (vs := [(0, l1)]) (x := 83) (st := []) (pc' := 5) (b1 := (0, 0)) (b2 := (0, 0)) dX12_near_2 lRX12_102 kX12_isWord0 iX12_isWord0 rfl rfl rfl rfl rfl rfl (of_eq_true eo83) (ow_Sp.mono h (fun r1 N1 h => ?_))
  refine ow_ifeq (pc' := 8) (tg := 25) dX12_near_5 rfl rfl (fun hc => ?_) (fun hc => ?_)
  · have h := h.1 hc
    refine ow_iconst (pc' := 26) (n := (-1)) dX12_near_25 rfl rfl ?_
    exact ow_iret dX12_near_26 rfl rfl h
  · have h := h.2 hc
    refine ow_iload_n (pc' := 9) (x := l2) dX12_near_8 rfl rfl ?_
    refine ow_iconst (pc' := 10) (n := 0) dX12_near_9 rfl rfl ?_
    refine ow_aload_n (pc' := 11) (x := 83) dX12_near_10 rfl rfl ?_
    refine ow_getf3 (pc' := 14) (t := 0) (ji := 3) (val := L) dX12_near_11 fRX12_81 rfl rfl rfl (of_eq_true eo83) eg83_3 ?_
    refine ow_callSp (z := mX12_isIn) (n := 3) (vs := [(0, l2), (0, 0), (0, L)]) (st := []) (pc' := 17) (b1 := (0, 0)) (b2 := (0, 0)) dX12_near_14 lRX12_91 kX12_isIn zX12_isIn rfl rfl rfl rfl rfl rfl (ow_Sp.mono h (fun r2 N2 h => ?_))
    refine ow_ifeq (pc' := 20) (tg := 25) dX12_near_17 rfl rfl (fun hc => ?_) (fun hc => ?_)
    · have h := h.1 hc
      refine ow_iconst (pc' := 26) (n := (-1)) dX12_near_25 rfl rfl ?_
      exact ow_iret dX12_near_26 rfl rfl h
    · have h := h.2 hc
      refine ow_iload_n (pc' := 21) (x := l3) dX12_near_20 rfl rfl ?_
      refine ow_iconst (pc' := 22) (n := (-1)) dX12_near_21 rfl rfl ?_
      refine ow_icmpge (pc' := 25) (tg := 27) dX12_near_22 rfl rfl (fun hc => ?_) (fun hc => ?_)
      · have h := h.1 hc
        refine ow_iconst (pc' := 28) (n := 0) dX12_near_27 rfl rfl ?_
        refine ow_istore (pc' := 30) (lv' := [(0, (3, 83)), (1, (0, l1)), (2, (0, l2)), (3, (0, l3)), (4, (0, 0))]) dX12_near_28 rfl rfl rfl ?_
        refine ow_iconst (pc' := 31) (n := 0) dX12_near_30 rfl rfl ?_
        refine ow_istore (pc' := 33) (lv' := [(0, (3, 83)), (1, (0, l1)), (2, (0, l2)), (3, (0, l3)), (4, (0, 0)), (5, (0, 0))]) dX12_near_31 rfl rfl rfl ?_
        exact h
      · have h := h.2 hc
        refine ow_iconst (pc' := 26) (n := (-1)) dX12_near_25 rfl rfl ?_
        exact ow_iret dX12_near_26 rfl rfl h
set_option maxRecDepth 20000 in
theorem cX12_near_33 {C : ow_C} {A L N : Int} {d : Nat} {M : ow_M} {K : Int → ow_M → Prop} {l1 l2 l3 l4 l5 : Int} (h : ((M 84 2) ≤ l5 → (l3 ≠ ((-1)) → K ((-1)) M) ∧ (l3 = ((-1)) → K l4 M)) ∧ (l5 < (M 84 2) → ow_Sp C (EM A L N) d mX12_wordOf (0, 0) [(3, 83), (0, l5)] M (fun r1 N1 => ow_Sp C (EM A L N) d mX12_unlike (0, 0) [(3, 83), (0, l1), (0, r1)] N1 (fun r2 N2 => (r2 ≤ l2 → (l4 ≠ l3 → ow_I (l4 + 1) ∧ ow_I (l5 + 1) ∧ ow_At C (EM A L N) (d + 1) mX12_near 33 [(0, (3, 83)), (1, (0, l1)), (2, (0, l2)), (3, (0, l3)), (4, (0, l4 + 1)), (5, (0, l5 + 1))] [] (0, 0) N2 K) ∧ (l4 = l3 → ow_Sp C (EM A L N) d mX12_wordOf (0, 0) [(3, 83), (0, l5)] N2 (fun r3 N3 => K r3 N3))) ∧ (l2 < r2 → ow_I (l5 + 1) ∧ ow_At C (EM A L N) (d + 1) mX12_near 33 [(0, (3, 83)), (1, (0, l1)), (2, (0, l2)), (3, (0, l3)), (4, (0, l4)), (5, (0, l5 + 1))] [] (0, 0) N2 K))))) : ow_At C (EM A L N) (d + 1) mX12_near 33 [(0, (3, 83)), (1, (0, l1)), (2, (0, l2)), (3, (0, l3)), (4, (0, l4)), (5, (0, l5))] [] (0, 0) M K := by
  refine ow_iload (pc' := 35) (x := l5) dX12_near_33 rfl rfl ?_
  refine ow_aload_n (pc' := 36) (x := 83) dX12_near_35 rfl rfl ?_
  refine ow_getf3 (pc' := 39) (t := 3) (ji := 0) (val := 84) dX12_near_36 fRX12_7 rfl rfl rfl (of_eq_true eo83) eg83_0 ?_
  refine ow_iconst (pc' := 40) (n := 2) dX12_near_39 rfl rfl ?_
  refine ow_iaload3 (pc' := 41) (val := M 84 2) dX12_near_40 rfl (Eq.mpr (er84 _) ⟨by decide, by decide⟩) (ea84 _) ?_
  refine ow_icmpge (pc' := 44) (tg := 84) dX12_near_41 rfl rfl (fun hc => ?_) (fun hc => ?_)
  · have h := h.1 hc
    refine ow_iload_n (pc' := 85) (x := l3) dX12_near_84 rfl rfl ?_
    refine ow_iconst (pc' := 86) (n := (-1)) dX12_near_85 rfl rfl ?_
    refine ow_icmpne (pc' := 89) (tg := 94) dX12_near_86 rfl rfl (fun hc => ?_) (fun hc => ?_)
    · have h := h.1 hc
      refine ow_iconst (pc' := 95) (n := (-1)) dX12_near_94 rfl rfl ?_
      exact ow_iret dX12_near_95 rfl rfl h
    · have h := h.2 hc
      refine ow_iload (pc' := 91) (x := l4) dX12_near_89 rfl rfl ?_
      refine ow_goto (tg := 95) dX12_near_91 rfl ?_
      exact ow_iret dX12_near_95 rfl rfl h
  · have h := h.2 hc
    refine ow_aload_n (pc' := 45) (x := 83) dX12_near_44 rfl rfl ?_
    refine ow_iload_n (pc' := 46) (x := l1) dX12_near_45 rfl rfl ?_
    refine ow_aload_n (pc' := 47) (x := 83) dX12_near_46 rfl rfl ?_
    refine ow_iload (pc' := 49) (x := l5) dX12_near_47 rfl rfl ?_
    refine ow_callVp (z := mX12_wordOf) (n := 1) (k := 12) (vs := [(0, l5)]) (x := 83) (st := [(0, l1), (3, 83)]) (pc' := 52) (b1 := (0, 0)) (b2 := (0, 0)) dX12_near_49 lRX12_98 kX12_wordOf iX12_wordOf rfl rfl rfl rfl rfl rfl (of_eq_true eo83) (ow_Sp.mono h (fun r1 N1 h => ?_))
    refine ow_callVp (z := mX12_unlike) (n := 2) (k := 12) (vs := [(0, l1), (0, r1)]) (x := 83) (st := []) (pc' := 55) (b1 := (0, 0)) (b2 := (0, 0)) dX12_near_52 lRX12_368 kX12_unlike iX12_unlike rfl rfl rfl rfl rfl rfl (of_eq_true eo83) (ow_Sp.mono h (fun r2 N2 h => ?_))
    refine ow_iload_n (pc' := 56) (x := l2) dX12_near_55 rfl rfl ?_
    refine ow_icmple (pc' := 59) (tg := 62) dX12_near_56 rfl rfl (fun hc => ?_) (fun hc => ?_)
    · have h := h.1 hc
      refine ow_iload (pc' := 64) (x := l4) dX12_near_62 rfl rfl ?_
      refine ow_iload_n (pc' := 65) (x := l3) dX12_near_64 rfl rfl ?_
      refine ow_icmpne (pc' := 68) (tg := 75) dX12_near_65 rfl rfl (fun hc => ?_) (fun hc => ?_)
      · have h := h.1 hc
        obtain ⟨vv1, h⟩ := h
        refine ow_iinc (pc' := 78) (lv' := [(0, (3, 83)), (1, (0, l1)), (2, (0, l2)), (3, (0, l3)), (4, (0, l4 + 1)), (5, (0, l5))]) dX12_near_75 rfl vv1 rfl rfl rfl ?_
        obtain ⟨vv2, h⟩ := h
        refine ow_iinc (pc' := 81) (lv' := [(0, (3, 83)), (1, (0, l1)), (2, (0, l2)), (3, (0, l3)), (4, (0, l4 + 1)), (5, (0, l5 + 1))]) dX12_near_78 rfl vv2 rfl rfl rfl ?_
        refine ow_goto (tg := 33) dX12_near_81 rfl ?_
        exact h
      · have h := h.2 hc
        refine ow_aload_n (pc' := 69) (x := 83) dX12_near_68 rfl rfl ?_
        refine ow_iload (pc' := 71) (x := l5) dX12_near_69 rfl rfl ?_
        refine ow_callVp (z := mX12_wordOf) (n := 1) (k := 12) (vs := [(0, l5)]) (x := 83) (st := []) (pc' := 74) (b1 := (0, 0)) (b2 := (0, 0)) dX12_near_71 lRX12_98 kX12_wordOf iX12_wordOf rfl rfl rfl rfl rfl rfl (of_eq_true eo83) (ow_Sp.mono h (fun r3 N3 h => ?_))
        exact ow_iret dX12_near_74 rfl rfl h
    · have h := h.2 hc
      refine ow_goto (tg := 78) dX12_near_59 rfl ?_
      obtain ⟨vv3, h⟩ := h
      refine ow_iinc (pc' := 81) (lv' := [(0, (3, 83)), (1, (0, l1)), (2, (0, l2)), (3, (0, l3)), (4, (0, l4)), (5, (0, l5 + 1))]) dX12_near_78 rfl vv3 rfl rfl rfl ?_
      refine ow_goto (tg := 33) dX12_near_81 rfl ?_
      exact h
theorem fX12_near {C : ow_C} {A L N : Int} {d : Nat} {M : ow_M} {K : Int → ow_M → Prop} {l1 l2 l3 : Int} (h : ow_Sp C (EM A L N) d mX12_isWord0 (0, 0) [(3, 83), (0, l1)] M (fun r1 N1 => (r1 = 0 → K ((-1)) N1) ∧ (r1 ≠ 0 → ow_Sp C (EM A L N) d mX12_isIn (0, 0) [(0, l2), (0, 0), (0, L)] N1 (fun r2 N2 => (r2 = 0 → K ((-1)) N2) ∧ (r2 ≠ 0 → (((-1)) ≤ l3 → ow_At C (EM A L N) (d + 1) mX12_near 33 [(0, (3, 83)), (1, (0, l1)), (2, (0, l2)), (3, (0, l3)), (4, (0, 0)), (5, (0, 0))] [] (0, 0) N2 K) ∧ (l3 < ((-1)) → K ((-1)) N2)))))) : ow_Sp C (EM A L N) (d + 1) mX12_near (0, 0) [(3, 83), (0, l1), (0, l2), (0, l3)] M K := ow_enter (by decide +kernel) rfl rfl (cX12_near_0 h)
set_option maxRecDepth 20000 in
theorem cX12_apart_0 {C : ow_C} {A L N : Int} {d : Nat} {M : ow_M} {K : Int → ow_M → Prop} {l1 : Int} (h : ow_Sp C (EM A L N) d mX12_isIn (0, 0) [(0, l1), (0, 0), (0, 8)] M (fun r1 N1 => (r1 = 0 → K ((-1)) N1) ∧ (r1 ≠ 0 → ((N1 84 2) ≤ 16 → ow_Sp C (EM A L N) d mX12_rule (0, 0) [(3, 83)] N1 (fun r2 N2 => ow_At C (EM A L N) (d + 1) mX12_apart 29 [(0, (3, 83)), (1, (0, l1)), (2, (0, 0))] [] (0, 0) N2 K)) ∧ (16 < (N1 84 2) → K ((-1)) N1)))) : ow_At C (EM A L N) (d + 1) mX12_apart 0 [(0, (3, 83)), (1, (0, l1))] [] (0, 0) M K := by
  refine ow_iload_n (pc' := 1) (x := l1) dX12_apart_0 rfl rfl ?_
  refine ow_iconst (pc' := 2) (n := 0) dX12_apart_1 rfl rfl ?_
  refine ow_bipush (pc' := 4) (n := 8) dX12_apart_2 rfl rfl ?_
  refine ow_callSp (z := mX12_isIn) (n := 3) (vs := [(0, l1), (0, 0), (0, 8)]) (st := []) (pc' := 7) (b1 := (0, 0)) (b2 := (0, 0)) dX12_apart_4 lRX12_91 kX12_isIn zX12_isIn rfl rfl rfl rfl rfl rfl (ow_Sp.mono h (fun r1 N1 h => ?_))
  refine ow_ifeq (pc' := 10) (tg := 21) dX12_apart_7 rfl rfl (fun hc => ?_) (fun hc => ?_)
  · have h := h.1 hc
    refine ow_iconst (pc' := 22) (n := (-1)) dX12_apart_21 rfl rfl ?_
    exact ow_iret dX12_apart_22 rfl rfl h
  · have h := h.2 hc
    refine ow_aload_n (pc' := 11) (x := 83) dX12_apart_10 rfl rfl ?_
    refine ow_getf3 (pc' := 14) (t := 3) (ji := 0) (val := 84) dX12_apart_11 fRX12_7 rfl rfl rfl (of_eq_true eo83) eg83_0 ?_
    refine ow_iconst (pc' := 15) (n := 2) dX12_apart_14 rfl rfl ?_
    refine ow_iaload3 (pc' := 16) (val := N1 84 2) dX12_apart_15 rfl (Eq.mpr (er84 _) ⟨by decide, by decide⟩) (ea84 _) ?_
    refine ow_bipush (pc' := 18) (n := 16) dX12_apart_16 rfl rfl ?_
    refine ow_icmple (pc' := 21) (tg := 23) dX12_apart_18 rfl rfl (fun hc => ?_) (fun hc => ?_)
    · have h := h.1 hc
      refine ow_aload_n (pc' := 24) (x := 83) dX12_apart_23 rfl rfl ?_
      refine ow_callVv (z := mX12_rule) (n := 0) (k := 12) (vs := []) (x := 83) (st := []) (pc' := 27) (b1 := (0, 0)) (b2 := (0, 0)) dX12_apart_24 lRX12_321 kX12_rule iX12_rule rfl rfl rfl rfl rfl rfl (of_eq_true eo83) (ow_Sp.mono h (fun r2 N2 h => ?_))
      refine ow_iconst (pc' := 28) (n := 0) dX12_apart_27 rfl rfl ?_
      refine ow_istore_n (pc' := 29) (lv' := [(0, (3, 83)), (1, (0, l1)), (2, (0, 0))]) dX12_apart_28 rfl rfl rfl ?_
      exact h
    · have h := h.2 hc
      refine ow_iconst (pc' := 22) (n := (-1)) dX12_apart_21 rfl rfl ?_
      exact ow_iret dX12_apart_22 rfl rfl h
set_option maxRecDepth 20000 in
theorem cX12_apart_29 {C : ow_C} {A L N : Int} {d : Nat} {M : ow_M} {K : Int → ow_M → Prop} {l1 l2 : Int} (h : (N ≤ l2 → ow_At C (EM A L N) (d + 1) mX12_apart 52 [(0, (3, 83)), (1, (0, l1)), (2, (0, 0))] [] (0, 0) M K) ∧ (l2 < N → (0 ≤ l2 ∧ l2 < 256) ∧ ∀ N1, N1 = ow_up M 97 l2 0 → ow_I (l2 + 1) ∧ ow_At C (EM A L N) (d + 1) mX12_apart 29 [(0, (3, 83)), (1, (0, l1)), (2, (0, l2 + 1))] [] (0, 0) N1 K)) : ow_At C (EM A L N) (d + 1) mX12_apart 29 [(0, (3, 83)), (1, (0, l1)), (2, (0, l2))] [] (0, 0) M K := by
  refine ow_iload_n (pc' := 30) (x := l2) dX12_apart_29 rfl rfl ?_
  refine ow_aload_n (pc' := 31) (x := 83) dX12_apart_30 rfl rfl ?_
  refine ow_getf3 (pc' := 34) (t := 0) (ji := 4) (val := N) dX12_apart_31 fRX12_84 rfl rfl rfl (of_eq_true eo83) eg83_4 ?_
  refine ow_icmpge (pc' := 37) (tg := 50) dX12_apart_34 rfl rfl (fun hc => ?_) (fun hc => ?_)
  · have h := h.1 hc
    refine ow_iconst (pc' := 51) (n := 0) dX12_apart_50 rfl rfl ?_
    refine ow_istore_n (pc' := 52) (lv' := [(0, (3, 83)), (1, (0, l1)), (2, (0, 0))]) dX12_apart_51 rfl rfl rfl ?_
    exact h
  · have h := h.2 hc
    refine ow_aload_n (pc' := 38) (x := 83) dX12_apart_37 rfl rfl ?_
    refine ow_getf3 (pc' := 41) (t := 3) (ji := 34) (val := 97) dX12_apart_38 fRX12_58 rfl rfl rfl (of_eq_true eo83) eg83_34 ?_
    refine ow_iload_n (pc' := 42) (x := l2) dX12_apart_41 rfl rfl ?_
    refine ow_iconst (pc' := 43) (n := 0) dX12_apart_42 rfl rfl ?_
    obtain ⟨vv1, h⟩ := h
    refine ow_iastore2 (pc' := 44) dX12_apart_43 rfl (Eq.mpr (er97 _) vv1) (of_eq_true (en97 _)) (fun N1 eN1 => ?_)
    have h := h N1 eN1
    obtain ⟨vv2, h⟩ := h
    refine ow_iinc (pc' := 47) (lv' := [(0, (3, 83)), (1, (0, l1)), (2, (0, l2 + 1))]) dX12_apart_44 rfl vv2 rfl rfl rfl ?_
    refine ow_goto (tg := 29) dX12_apart_47 rfl ?_
    exact h
set_option maxRecDepth 20000 in
theorem cX12_apart_52 {C : ow_C} {A L N : Int} {d : Nat} {M : ow_M} {K : Int → ow_M → Prop} {l1 l2 : Int} (h : ((M 84 2) ≤ l2 → ow_At C (EM A L N) (d + 1) mX12_apart 135 [(0, (3, 83)), (2, (0, 0))] [] (0, 0) M K) ∧ (l2 < (M 84 2) → (0 ≤ l2 ∧ l2 < 16) ∧ ∀ N1, N1 = ow_up M 98 l2 0 → ow_Sp C (EM A L N) d mX12_wordOf (0, 0) [(3, 83), (0, l2)] N1 (fun r2 N2 => ow_Sp C (EM A L N) d mX12_waysOf (0, 0) [(3, 83), (0, r2), (0, 0), (0, l1)] N2 (fun r3 N3 => ow_At C (EM A L N) (d + 1) mX12_apart 84 [(0, (3, 83)), (1, (0, l1)), (2, (0, l2)), (5, (0, 0))] [] (0, 0) N3 K)))) : ow_At C (EM A L N) (d + 1) mX12_apart 52 [(0, (3, 83)), (1, (0, l1)), (2, (0, l2))] [] (0, 0) M K := by
  refine ow_iload_n (pc' := 53) (x := l2) dX12_apart_52 rfl rfl ?_
  refine ow_aload_n (pc' := 54) (x := 83) dX12_apart_53 rfl rfl ?_
  refine ow_getf3 (pc' := 57) (t := 3) (ji := 0) (val := 84) dX12_apart_54 fRX12_7 rfl rfl rfl (of_eq_true eo83) eg83_0 ?_
  refine ow_iconst (pc' := 58) (n := 2) dX12_apart_57 rfl rfl ?_
  refine ow_iaload3 (pc' := 59) (val := M 84 2) dX12_apart_58 rfl (Eq.mpr (er84 _) ⟨by decide, by decide⟩) (ea84 _) ?_
  refine ow_icmpge (pc' := 62) (tg := 133) dX12_apart_59 rfl rfl (fun hc => ?_) (fun hc => ?_)
  · have h := h.1 hc
    refine ow_iconst (pc' := 134) (n := 0) dX12_apart_133 rfl rfl ?_
    refine ow_istore_n (pc' := 135) (lv' := [(0, (3, 83)), (1, (0, l1)), (2, (0, 0))]) dX12_apart_134 rfl rfl rfl ?_
    refine ow_sub (lv' := [(0, (3, 83)), (2, (0, 0))]) [0, 2] rfl ?_
    exact h
  · have h := h.2 hc
    refine ow_aload_n (pc' := 63) (x := 83) dX12_apart_62 rfl rfl ?_
    refine ow_getf3 (pc' := 66) (t := 3) (ji := 35) (val := 98) dX12_apart_63 fRX12_61 rfl rfl rfl (of_eq_true eo83) eg83_35 ?_
    refine ow_iload_n (pc' := 67) (x := l2) dX12_apart_66 rfl rfl ?_
    refine ow_iconst (pc' := 68) (n := 0) dX12_apart_67 rfl rfl ?_
    obtain ⟨vv1, h⟩ := h
    refine ow_iastore2 (pc' := 69) dX12_apart_68 rfl (Eq.mpr (er98 _) vv1) (of_eq_true (en98 _)) (fun N1 eN1 => ?_)
    have h := h N1 eN1
    refine ow_aload_n (pc' := 70) (x := 83) dX12_apart_69 rfl rfl ?_
    refine ow_aload_n (pc' := 71) (x := 83) dX12_apart_70 rfl rfl ?_
    refine ow_iload_n (pc' := 72) (x := l2) dX12_apart_71 rfl rfl ?_
    refine ow_callVp (z := mX12_wordOf) (n := 1) (k := 12) (vs := [(0, l2)]) (x := 83) (st := [(3, 83)]) (pc' := 75) (b1 := (0, 0)) (b2 := (0, 0)) dX12_apart_72 lRX12_98 kX12_wordOf iX12_wordOf rfl rfl rfl rfl rfl rfl (of_eq_true eo83) (ow_Sp.mono h (fun r2 N2 h => ?_))
    refine ow_iconst (pc' := 76) (n := 0) dX12_apart_75 rfl rfl ?_
    refine ow_iload_n (pc' := 77) (x := l1) dX12_apart_76 rfl rfl ?_
    refine ow_callVp (z := mX12_waysOf) (n := 3) (k := 12) (vs := [(0, r2), (0, 0), (0, l1)]) (x := 83) (st := []) (pc' := 80) (b1 := (0, 0)) (b2 := (0, 0)) dX12_apart_77 lRX12_315 kX12_waysOf iX12_waysOf rfl rfl rfl rfl rfl rfl (of_eq_true eo83) (ow_Sp.mono h (fun r3 N3 h => ?_))
    refine ow_lstore_n (pc' := 81) (lv' := [(0, (3, 83)), (1, (0, l1)), (2, (0, l2)), (3, (1, r3))]) dX12_apart_80 rfl rfl rfl ?_
    refine ow_iconst (pc' := 82) (n := 0) dX12_apart_81 rfl rfl ?_
    refine ow_istore (pc' := 84) (lv' := [(0, (3, 83)), (1, (0, l1)), (2, (0, l2)), (3, (1, r3)), (5, (0, 0))]) dX12_apart_82 rfl rfl rfl ?_
    refine ow_sub (lv' := [(0, (3, 83)), (1, (0, l1)), (2, (0, l2)), (5, (0, 0))]) [0, 1, 2, 4] rfl ?_
    exact h
set_option maxRecDepth 20000 in
theorem cX12_apart_135 {C : ow_C} {A L N : Int} {d : Nat} {M : ow_M} {K : Int → ow_M → Prop} {l2 : Int} (h : (N ≤ l2 → ∀ N1, N1 = ow_up M 99 0 1 → ow_At C (EM A L N) (d + 1) mX12_apart 220 [(0, (3, 83)), (2, (0, 0)), (3, (0, 0)), (4, (0, 1))] [] (0, 0) N1 K) ∧ (l2 < N → ow_At C (EM A L N) (d + 1) mX12_apart 145 [(0, (3, 83)), (2, (0, l2)), (3, (0, 0))] [] (0, 0) M K)) : ow_At C (EM A L N) (d + 1) mX12_apart 135 [(0, (3, 83)), (2, (0, l2))] [] (0, 0) M K := by
  refine ow_iload_n (pc' := 136) (x := l2) dX12_apart_135 rfl rfl ?_
  refine ow_aload_n (pc' := 137) (x := 83) dX12_apart_136 rfl rfl ?_
  refine ow_getf3 (pc' := 140) (t := 0) (ji := 4) (val := N) dX12_apart_137 fRX12_84 rfl rfl rfl (of_eq_true eo83) eg83_4 ?_
  refine ow_icmpge (pc' := 143) (tg := 206) dX12_apart_140 rfl rfl (fun hc => ?_) (fun hc => ?_)
  · have h := h.1 hc
    refine ow_aload_n (pc' := 207) (x := 83) dX12_apart_206 rfl rfl ?_
    refine ow_getf3 (pc' := 210) (t := 3) (ji := 36) (val := 99) dX12_apart_207 fRX12_65 rfl rfl rfl (of_eq_true eo83) eg83_36 ?_
    refine ow_iconst (pc' := 211) (n := 0) dX12_apart_210 rfl rfl ?_
    refine ow_iconst (pc' := 212) (n := 1) dX12_apart_211 rfl rfl ?_
    refine ow_bastore2 (pc' := 213) dX12_apart_212 rfl (Eq.mpr (er99 _) ⟨by decide, by decide⟩) (of_eq_true (en99 _)) (Or.inr rfl) (fun N1 eN1 => ?_)
    have h := h N1 eN1
    refine ow_iconst (pc' := 214) (n := 0) dX12_apart_213 rfl rfl ?_
    refine ow_istore_n (pc' := 215) (lv' := [(0, (3, 83)), (2, (0, 0))]) dX12_apart_214 rfl rfl rfl ?_
    refine ow_iconst (pc' := 216) (n := 0) dX12_apart_215 rfl rfl ?_
    refine ow_istore_n (pc' := 217) (lv' := [(0, (3, 83)), (2, (0, 0)), (3, (0, 0))]) dX12_apart_216 rfl rfl rfl ?_
    refine ow_iconst (pc' := 218) (n := 1) dX12_apart_217 rfl rfl ?_
    refine ow_istore (pc' := 220) (lv' := [(0, (3, 83)), (2, (0, 0)), (3, (0, 0)), (4, (0, 1))]) dX12_apart_218 rfl rfl rfl ?_
    exact h
  · have h := h.2 hc
    refine ow_iconst (pc' := 144) (n := 0) dX12_apart_143 rfl rfl ?_
    refine ow_istore_n (pc' := 145) (lv' := [(0, (3, 83)), (2, (0, l2)), (3, (0, 0))]) dX12_apart_144 rfl rfl rfl ?_
    exact h
set_option maxRecDepth 20000 in
theorem cX12_apart_84 {C : ow_C} {A L N : Int} {d : Nat} {M : ow_M} {K : Int → ow_M → Prop} {l1 l2 l5 : Int} (h : (N ≤ l5 → ow_I (l2 + 1) ∧ ow_At C (EM A L N) (d + 1) mX12_apart 52 [(0, (3, 83)), (1, (0, l1)), (2, (0, l2 + 1))] [] (0, 0) M K) ∧ (l5 < N → (0 ≤ l5 ∧ l5 < 256) ∧ ow_Sp C (EM A L N) d mX12_waysTo (0, 0) [(3, 83), (0, l5)] M (fun r1 N1 => ((ow_lcmp r1 0) ≤ 0 → ∀ N2, N2 = ow_up N1 97 l5 (ow_or (M 97 l5) 0) → ow_I (l5 + 1) ∧ ow_At C (EM A L N) (d + 1) mX12_apart 84 [(0, (3, 83)), (1, (0, l1)), (2, (0, l2)), (5, (0, l5 + 1))] [] (0, 0) N2 K) ∧ (0 < (ow_lcmp r1 0) → ∀ N3, N3 = ow_up N1 97 l5 (ow_or (M 97 l5) (ow_shl 1 l2)) → ow_I (l5 + 1) ∧ ow_At C (EM A L N) (d + 1) mX12_apart 84 [(0, (3, 83)), (1, (0, l1)), (2, (0, l2)), (5, (0, l5 + 1))] [] (0, 0) N3 K)))) : ow_At C (EM A L N) (d + 1) mX12_apart 84 [(0, (3, 83)), (1, (0, l1)), (2, (0, l2)), (5, (0, l5))] [] (0, 0) M K := by
  refine ow_iload (pc' := 86) (x := l5) dX12_apart_84 rfl rfl ?_
  refine ow_aload_n (pc' := 87) (x := 83) dX12_apart_86 rfl rfl ?_
  refine ow_getf3 (pc' := 90) (t := 0) (ji := 4) (val := N) dX12_apart_87 fRX12_84 rfl rfl rfl (of_eq_true eo83) eg83_4 ?_
  refine ow_icmpge (pc' := 93) (tg := 127) dX12_apart_90 rfl rfl (fun hc => ?_) (fun hc => ?_)
  · have h := h.1 hc
    obtain ⟨vv1, h⟩ := h
    refine ow_iinc (pc' := 130) (lv' := [(0, (3, 83)), (1, (0, l1)), (2, (0, l2 + 1)), (5, (0, l5))]) dX12_apart_127 rfl vv1 rfl rfl rfl ?_
    refine ow_goto (tg := 52) dX12_apart_130 rfl ?_
    refine ow_sub (lv' := [(0, (3, 83)), (1, (0, l1)), (2, (0, l2 + 1))]) [0, 1, 2] rfl ?_
    exact h
  · have h := h.2 hc
    refine ow_aload_n (pc' := 94) (x := 83) dX12_apart_93 rfl rfl ?_
    refine ow_getf3 (pc' := 97) (t := 3) (ji := 34) (val := 97) dX12_apart_94 fRX12_58 rfl rfl rfl (of_eq_true eo83) eg83_34 ?_
    refine ow_iload (pc' := 99) (x := l5) dX12_apart_97 rfl rfl ?_
    refine ow_dup2 (pc' := 100) dX12_apart_99 rfl rfl rfl ?_
    obtain ⟨vv2, h⟩ := h
    refine ow_iaload3 (pc' := 101) (val := M 97 l5) dX12_apart_100 rfl (Eq.mpr (er97 _) vv2) (ea97 _) ?_
    refine ow_aload_n (pc' := 102) (x := 83) dX12_apart_101 rfl rfl ?_
    refine ow_iload (pc' := 104) (x := l5) dX12_apart_102 rfl rfl ?_
    refine ow_callVp (z := mX12_waysTo) (n := 1) (k := 12) (vs := [(0, l5)]) (x := 83) (st := [(0, M 97 l5), (0, l5), (3, 97)]) (pc' := 107) (b1 := (0, 0)) (b2 := (0, 0)) dX12_apart_104 lRX12_311 kX12_waysTo iX12_waysTo rfl rfl rfl rfl rfl rfl (of_eq_true eo83) (ow_Sp.mono h (fun r1 N1 h => ?_))
    refine ow_lconst (pc' := 108) (i := 0) dX12_apart_107 rfl rfl ?_
    refine ow_Lcmp (pc' := 109) dX12_apart_108 rfl ?_
    refine ow_ifle (pc' := 112) (tg := 118) dX12_apart_109 rfl rfl (fun hc => ?_) (fun hc => ?_)
    · have h := h.1 hc
      refine ow_iconst (pc' := 119) (n := 0) dX12_apart_118 rfl rfl ?_
      refine ow_ior (pc' := 120) dX12_apart_119 rfl ?_
      refine ow_iastore2 (pc' := 121) dX12_apart_120 rfl (Eq.mpr (er97 _) vv2) (of_eq_true (en97 _)) (fun N2 eN2 => ?_)
      have h := h N2 eN2
      obtain ⟨vv3, h⟩ := h
      refine ow_iinc (pc' := 124) (lv' := [(0, (3, 83)), (1, (0, l1)), (2, (0, l2)), (5, (0, l5 + 1))]) dX12_apart_121 rfl vv3 rfl rfl rfl ?_
      refine ow_goto (tg := 84) dX12_apart_124 rfl ?_
      exact h
    · have h := h.2 hc
      refine ow_iconst (pc' := 113) (n := 1) dX12_apart_112 rfl rfl ?_
      refine ow_iload_n (pc' := 114) (x := l2) dX12_apart_113 rfl rfl ?_
      refine ow_ishl (pc' := 115) dX12_apart_114 rfl ?_
      refine ow_goto (tg := 119) dX12_apart_115 rfl ?_
      refine ow_ior (pc' := 120) dX12_apart_119 rfl ?_
      refine ow_iastore2 (pc' := 121) dX12_apart_120 rfl (Eq.mpr (er97 _) vv2) (of_eq_true (en97 _)) (fun N3 eN3 => ?_)
      have h := h N3 eN3
      obtain ⟨vv4, h⟩ := h
      refine ow_iinc (pc' := 124) (lv' := [(0, (3, 83)), (1, (0, l1)), (2, (0, l2)), (5, (0, l5 + 1))]) dX12_apart_121 rfl vv4 rfl rfl rfl ?_
      refine ow_goto (tg := 84) dX12_apart_124 rfl ?_
      exact h
set_option maxRecDepth 20000 in
theorem cX12_apart_220 {C : ow_C} {A L N : Int} {d : Nat} {M : ow_M} {K : Int → ow_M → Prop} {l2 l3 l4 : Int} (h : ((ow_shl 1 (M 84 2)) ≤ l4 → K l2 M) ∧ (l4 < (ow_shl 1 (M 84 2)) → ow_At C (EM A L N) (d + 1) mX12_apart 242 [(0, (3, 83)), (2, (0, l2)), (3, (0, l3)), (4, (0, l4)), (5, (0, 0)), (6, (0, 0)), (7, (0, 0))] [] (0, 0) M K)) : ow_At C (EM A L N) (d + 1) mX12_apart 220 [(0, (3, 83)), (2, (0, l2)), (3, (0, l3)), (4, (0, l4))] [] (0, 0) M K := by
  refine ow_iload (pc' := 222) (x := l4) dX12_apart_220 rfl rfl ?_
  refine ow_iconst (pc' := 223) (n := 1) dX12_apart_222 rfl rfl ?_
  refine ow_aload_n (pc' := 224) (x := 83) dX12_apart_223 rfl rfl ?_
  refine ow_getf3 (pc' := 227) (t := 3) (ji := 0) (val := 84) dX12_apart_224 fRX12_7 rfl rfl rfl (of_eq_true eo83) eg83_0 ?_
  refine ow_iconst (pc' := 228) (n := 2) dX12_apart_227 rfl rfl ?_
  refine ow_iaload3 (pc' := 229) (val := M 84 2) dX12_apart_228 rfl (Eq.mpr (er84 _) ⟨by decide, by decide⟩) (ea84 _) ?_
  refine ow_ishl (pc' := 230) dX12_apart_229 rfl ?_
  refine ow_icmpge (pc' := 233) (tg := 356) dX12_apart_230 rfl rfl (fun hc => ?_) (fun hc => ?_)
  · have h := h.1 hc
    refine ow_iload_n (pc' := 357) (x := l2) dX12_apart_356 rfl rfl ?_
    exact ow_iret dX12_apart_357 rfl rfl h
  · have h := h.2 hc
    refine ow_iconst (pc' := 234) (n := 0) dX12_apart_233 rfl rfl ?_
    refine ow_istore (pc' := 236) (lv' := [(0, (3, 83)), (2, (0, l2)), (3, (0, l3)), (4, (0, l4)), (5, (0, 0))]) dX12_apart_234 rfl rfl rfl ?_
    refine ow_iconst (pc' := 237) (n := 0) dX12_apart_236 rfl rfl ?_
    refine ow_istore (pc' := 239) (lv' := [(0, (3, 83)), (2, (0, l2)), (3, (0, l3)), (4, (0, l4)), (5, (0, 0)), (6, (0, 0))]) dX12_apart_237 rfl rfl rfl ?_
    refine ow_iconst (pc' := 240) (n := 0) dX12_apart_239 rfl rfl ?_
    refine ow_istore (pc' := 242) (lv' := [(0, (3, 83)), (2, (0, l2)), (3, (0, l3)), (4, (0, l4)), (5, (0, 0)), (6, (0, 0)), (7, (0, 0))]) dX12_apart_240 rfl rfl rfl ?_
    exact h
set_option maxRecDepth 20000 in
theorem cX12_apart_145 {C : ow_C} {A L N : Int} {d : Nat} {M : ow_M} {K : Int → ow_M → Prop} {l2 l3 : Int} (h : ((M 84 2) ≤ l3 → ow_I (l2 + 1) ∧ ow_At C (EM A L N) (d + 1) mX12_apart 135 [(0, (3, 83)), (2, (0, l2 + 1))] [] (0, 0) M K) ∧ (l3 < (M 84 2) → (0 ≤ l3 ∧ l3 < 16) ∧ (0 ≤ l2 ∧ l2 < 256) ∧ ((ow_and (ow_shr (M 97 l2) l3) 1) ≠ 1 → ∀ N1, N1 = ow_up M 98 l3 (ow_or (M 98 l3) 0) → ow_I (l3 + 1) ∧ ow_At C (EM A L N) (d + 1) mX12_apart 145 [(0, (3, 83)), (2, (0, l2)), (3, (0, l3 + 1))] [] (0, 0) N1 K) ∧ ((ow_and (ow_shr (M 97 l2) l3) 1) = 1 → ∀ N2, N2 = ow_up M 98 l3 (ow_or (M 98 l3) (ow_and (M 97 l2) (ow_xor (ow_shl 1 l3) ((-1))))) → ow_I (l3 + 1) ∧ ow_At C (EM A L N) (d + 1) mX12_apart 145 [(0, (3, 83)), (2, (0, l2)), (3, (0, l3 + 1))] [] (0, 0) N2 K))) : ow_At C (EM A L N) (d + 1) mX12_apart 145 [(0, (3, 83)), (2, (0, l2)), (3, (0, l3))] [] (0, 0) M K := by
  refine ow_iload_n (pc' := 146) (x := l3) dX12_apart_145 rfl rfl ?_
  refine ow_aload_n (pc' := 147) (x := 83) dX12_apart_146 rfl rfl ?_
  refine ow_getf3 (pc' := 150) (t := 3) (ji := 0) (val := 84) dX12_apart_147 fRX12_7 rfl rfl rfl (of_eq_true eo83) eg83_0 ?_
  refine ow_iconst (pc' := 151) (n := 2) dX12_apart_150 rfl rfl ?_
  refine ow_iaload3 (pc' := 152) (val := M 84 2) dX12_apart_151 rfl (Eq.mpr (er84 _) ⟨by decide, by decide⟩) (ea84 _) ?_
  refine ow_icmpge (pc' := 155) (tg := 200) dX12_apart_152 rfl rfl (fun hc => ?_) (fun hc => ?_)
  · have h := h.1 hc
    obtain ⟨vv1, h⟩ := h
    refine ow_iinc (pc' := 203) (lv' := [(0, (3, 83)), (2, (0, l2 + 1)), (3, (0, l3))]) dX12_apart_200 rfl vv1 rfl rfl rfl ?_
    refine ow_goto (tg := 135) dX12_apart_203 rfl ?_
    refine ow_sub (lv' := [(0, (3, 83)), (2, (0, l2 + 1))]) [0, 1] rfl ?_
    exact h
  · have h := h.2 hc
    refine ow_aload_n (pc' := 156) (x := 83) dX12_apart_155 rfl rfl ?_
    refine ow_getf3 (pc' := 159) (t := 3) (ji := 35) (val := 98) dX12_apart_156 fRX12_61 rfl rfl rfl (of_eq_true eo83) eg83_35 ?_
    refine ow_iload_n (pc' := 160) (x := l3) dX12_apart_159 rfl rfl ?_
    refine ow_dup2 (pc' := 161) dX12_apart_160 rfl rfl rfl ?_
    obtain ⟨vv2, h⟩ := h
    refine ow_iaload3 (pc' := 162) (val := M 98 l3) dX12_apart_161 rfl (Eq.mpr (er98 _) vv2) (ea98 _) ?_
    refine ow_aload_n (pc' := 163) (x := 83) dX12_apart_162 rfl rfl ?_
    refine ow_getf3 (pc' := 166) (t := 3) (ji := 34) (val := 97) dX12_apart_163 fRX12_58 rfl rfl rfl (of_eq_true eo83) eg83_34 ?_
    refine ow_iload_n (pc' := 167) (x := l2) dX12_apart_166 rfl rfl ?_
    obtain ⟨vv3, h⟩ := h
    refine ow_iaload3 (pc' := 168) (val := M 97 l2) dX12_apart_167 rfl (Eq.mpr (er97 _) vv3) (ea97 _) ?_
    refine ow_iload_n (pc' := 169) (x := l3) dX12_apart_168 rfl rfl ?_
    refine ow_ishr (pc' := 170) dX12_apart_169 rfl ?_
    refine ow_iconst (pc' := 171) (n := 1) dX12_apart_170 rfl rfl ?_
    refine ow_iand (pc' := 172) dX12_apart_171 rfl ?_
    refine ow_iconst (pc' := 173) (n := 1) dX12_apart_172 rfl rfl ?_
    refine ow_icmpne (pc' := 176) (tg := 191) dX12_apart_173 rfl rfl (fun hc => ?_) (fun hc => ?_)
    · have h := h.1 hc
      refine ow_iconst (pc' := 192) (n := 0) dX12_apart_191 rfl rfl ?_
      refine ow_ior (pc' := 193) dX12_apart_192 rfl ?_
      refine ow_iastore2 (pc' := 194) dX12_apart_193 rfl (Eq.mpr (er98 _) vv2) (of_eq_true (en98 _)) (fun N1 eN1 => ?_)
      have h := h N1 eN1
      obtain ⟨vv4, h⟩ := h
      refine ow_iinc (pc' := 197) (lv' := [(0, (3, 83)), (2, (0, l2)), (3, (0, l3 + 1))]) dX12_apart_194 rfl vv4 rfl rfl rfl ?_
      refine ow_goto (tg := 145) dX12_apart_197 rfl ?_
      exact h
    · have h := h.2 hc
      refine ow_aload_n (pc' := 177) (x := 83) dX12_apart_176 rfl rfl ?_
      refine ow_getf3 (pc' := 180) (t := 3) (ji := 34) (val := 97) dX12_apart_177 fRX12_58 rfl rfl rfl (of_eq_true eo83) eg83_34 ?_
      refine ow_iload_n (pc' := 181) (x := l2) dX12_apart_180 rfl rfl ?_
      refine ow_iaload3 (pc' := 182) (val := M 97 l2) dX12_apart_181 rfl (Eq.mpr (er97 _) vv3) (ea97 _) ?_
      refine ow_iconst (pc' := 183) (n := 1) dX12_apart_182 rfl rfl ?_
      refine ow_iload_n (pc' := 184) (x := l3) dX12_apart_183 rfl rfl ?_
      refine ow_ishl (pc' := 185) dX12_apart_184 rfl ?_
      refine ow_iconst (pc' := 186) (n := (-1)) dX12_apart_185 rfl rfl ?_
      refine ow_ixor (pc' := 187) dX12_apart_186 rfl ?_
      refine ow_iand (pc' := 188) dX12_apart_187 rfl ?_
      refine ow_goto (tg := 192) dX12_apart_188 rfl ?_
      refine ow_ior (pc' := 193) dX12_apart_192 rfl ?_
      refine ow_iastore2 (pc' := 194) dX12_apart_193 rfl (Eq.mpr (er98 _) vv2) (of_eq_true (en98 _)) (fun N2 eN2 => ?_)
      have h := h N2 eN2
      obtain ⟨vv5, h⟩ := h
      refine ow_iinc (pc' := 197) (lv' := [(0, (3, 83)), (2, (0, l2)), (3, (0, l3 + 1))]) dX12_apart_194 rfl vv5 rfl rfl rfl ?_
      refine ow_goto (tg := 145) dX12_apart_197 rfl ?_
      exact h
set_option maxRecDepth 20000 in
theorem cX12_apart_242 {C : ow_C} {A L N : Int} {d : Nat} {M : ow_M} {K : Int → ow_M → Prop} {l2 l3 l4 l5 l6 l7 : Int} (h : ((M 84 2) ≤ l7 → (0 ≤ (ow_and l4 (ow_xor (ow_shl 1 l5) ((-1)))) ∧ (ow_and l4 (ow_xor (ow_shl 1 l5) ((-1)))) < 65536) ∧ ((M 99 (ow_and l4 (ow_xor (ow_shl 1 l5) ((-1))))) = 0 → ow_At C (EM A L N) (d + 1) mX12_apart 324 [(0, (3, 83)), (2, (0, l2)), (3, (0, l3)), (4, (0, l4)), (6, (0, l6))] [(0, 0), (0, l4), (3, 99)] (0, 0) M K) ∧ ((M 99 (ow_and l4 (ow_xor (ow_shl 1 l5) ((-1))))) ≠ 0 → (0 ≤ l5 ∧ l5 < 16) ∧ ((ow_and (M 98 l5) (ow_and l4 (ow_xor (ow_shl 1 l5) ((-1))))) ≠ 0 → ow_At C (EM A L N) (d + 1) mX12_apart 324 [(0, (3, 83)), (2, (0, l2)), (3, (0, l3)), (4, (0, l4)), (6, (0, l6))] [(0, 0), (0, l4), (3, 99)] (0, 0) M K) ∧ ((ow_and (M 98 l5) (ow_and l4 (ow_xor (ow_shl 1 l5) ((-1))))) = 0 → ow_At C (EM A L N) (d + 1) mX12_apart 324 [(0, (3, 83)), (2, (0, l2)), (3, (0, l3)), (4, (0, l4)), (6, (0, l6))] [(0, 1), (0, l4), (3, 99)] (0, 0) M K))) ∧ (l7 < (M 84 2) → ((ow_and (ow_shr l4 l7) 1) ≠ 0 → ow_I (l6 + 1) ∧ ow_I (l7 + 1) ∧ ow_At C (EM A L N) (d + 1) mX12_apart 242 [(0, (3, 83)), (2, (0, l2)), (3, (0, l3)), (4, (0, l4)), (5, (0, l7)), (6, (0, l6 + 1)), (7, (0, l7 + 1))] [] (0, 0) M K) ∧ ((ow_and (ow_shr l4 l7) 1) = 0 → ow_I (l7 + 1) ∧ ow_At C (EM A L N) (d + 1) mX12_apart 242 [(0, (3, 83)), (2, (0, l2)), (3, (0, l3)), (4, (0, l4)), (5, (0, l5)), (6, (0, l6)), (7, (0, l7 + 1))] [] (0, 0) M K))) : ow_At C (EM A L N) (d + 1) mX12_apart 242 [(0, (3, 83)), (2, (0, l2)), (3, (0, l3)), (4, (0, l4)), (5, (0, l5)), (6, (0, l6)), (7, (0, l7))] [] (0, 0) M K := by
  refine ow_iload (pc' := 244) (x := l7) dX12_apart_242 rfl rfl ?_
  refine ow_aload_n (pc' := 245) (x := 83) dX12_apart_244 rfl rfl ?_
  refine ow_getf3 (pc' := 248) (t := 3) (ji := 0) (val := 84) dX12_apart_245 fRX12_7 rfl rfl rfl (of_eq_true eo83) eg83_0 ?_
  refine ow_iconst (pc' := 249) (n := 2) dX12_apart_248 rfl rfl ?_
  refine ow_iaload3 (pc' := 250) (val := M 84 2) dX12_apart_249 rfl (Eq.mpr (er84 _) ⟨by decide, by decide⟩) (ea84 _) ?_
  refine ow_icmpge (pc' := 253) (tg := 279) dX12_apart_250 rfl rfl (fun hc => ?_) (fun hc => ?_)
  · have h := h.1 hc
    refine ow_iload (pc' := 281) (x := l4) dX12_apart_279 rfl rfl ?_
    refine ow_iconst (pc' := 282) (n := 1) dX12_apart_281 rfl rfl ?_
    refine ow_iload (pc' := 284) (x := l5) dX12_apart_282 rfl rfl ?_
    refine ow_ishl (pc' := 285) dX12_apart_284 rfl ?_
    refine ow_iconst (pc' := 286) (n := (-1)) dX12_apart_285 rfl rfl ?_
    refine ow_ixor (pc' := 287) dX12_apart_286 rfl ?_
    refine ow_iand (pc' := 288) dX12_apart_287 rfl ?_
    refine ow_istore (pc' := 290) (lv' := [(0, (3, 83)), (2, (0, l2)), (3, (0, l3)), (4, (0, l4)), (5, (0, l5)), (6, (0, l6)), (7, (0, ow_and l4 (ow_xor (ow_shl 1 l5) ((-1)))))]) dX12_apart_288 rfl rfl rfl ?_
    refine ow_aload_n (pc' := 291) (x := 83) dX12_apart_290 rfl rfl ?_
    refine ow_getf3 (pc' := 294) (t := 3) (ji := 36) (val := 99) dX12_apart_291 fRX12_65 rfl rfl rfl (of_eq_true eo83) eg83_36 ?_
    refine ow_iload (pc' := 296) (x := l4) dX12_apart_294 rfl rfl ?_
    refine ow_aload_n (pc' := 297) (x := 83) dX12_apart_296 rfl rfl ?_
    refine ow_getf3 (pc' := 300) (t := 3) (ji := 36) (val := 99) dX12_apart_297 fRX12_65 rfl rfl rfl (of_eq_true eo83) eg83_36 ?_
    refine ow_iload (pc' := 302) (x := ow_and l4 (ow_xor (ow_shl 1 l5) ((-1)))) dX12_apart_300 rfl rfl ?_
    obtain ⟨vv1, h⟩ := h
    refine ow_baload3 (pc' := 303) (val := M 99 (ow_and l4 (ow_xor (ow_shl 1 l5) ((-1))))) dX12_apart_302 rfl (Eq.mpr (er99 _) vv1) (ea99 _) ?_
    refine ow_ifeq (pc' := 306) (tg := 323) dX12_apart_303 rfl rfl (fun hc => ?_) (fun hc => ?_)
    · have h := h.1 hc
      refine ow_iconst (pc' := 324) (n := 0) dX12_apart_323 rfl rfl ?_
      refine ow_sub (lv' := [(0, (3, 83)), (2, (0, l2)), (3, (0, l3)), (4, (0, l4)), (6, (0, l6))]) [0, 1, 2, 3, 5] rfl ?_
      exact h
    · have h := h.2 hc
      refine ow_aload_n (pc' := 307) (x := 83) dX12_apart_306 rfl rfl ?_
      refine ow_getf3 (pc' := 310) (t := 3) (ji := 35) (val := 98) dX12_apart_307 fRX12_61 rfl rfl rfl (of_eq_true eo83) eg83_35 ?_
      refine ow_iload (pc' := 312) (x := l5) dX12_apart_310 rfl rfl ?_
      obtain ⟨vv2, h⟩ := h
      refine ow_iaload3 (pc' := 313) (val := M 98 l5) dX12_apart_312 rfl (Eq.mpr (er98 _) vv2) (ea98 _) ?_
      refine ow_iload (pc' := 315) (x := ow_and l4 (ow_xor (ow_shl 1 l5) ((-1)))) dX12_apart_313 rfl rfl ?_
      refine ow_iand (pc' := 316) dX12_apart_315 rfl ?_
      refine ow_ifne (pc' := 319) (tg := 323) dX12_apart_316 rfl rfl (fun hc => ?_) (fun hc => ?_)
      · have h := h.1 hc
        refine ow_iconst (pc' := 324) (n := 0) dX12_apart_323 rfl rfl ?_
        refine ow_sub (lv' := [(0, (3, 83)), (2, (0, l2)), (3, (0, l3)), (4, (0, l4)), (6, (0, l6))]) [0, 1, 2, 3, 5] rfl ?_
        exact h
      · have h := h.2 hc
        refine ow_iconst (pc' := 320) (n := 1) dX12_apart_319 rfl rfl ?_
        refine ow_goto (tg := 324) dX12_apart_320 rfl ?_
        refine ow_sub (lv' := [(0, (3, 83)), (2, (0, l2)), (3, (0, l3)), (4, (0, l4)), (6, (0, l6))]) [0, 1, 2, 3, 5] rfl ?_
        exact h
  · have h := h.2 hc
    refine ow_iload (pc' := 255) (x := l4) dX12_apart_253 rfl rfl ?_
    refine ow_iload (pc' := 257) (x := l7) dX12_apart_255 rfl rfl ?_
    refine ow_ishr (pc' := 258) dX12_apart_257 rfl ?_
    refine ow_iconst (pc' := 259) (n := 1) dX12_apart_258 rfl rfl ?_
    refine ow_iand (pc' := 260) dX12_apart_259 rfl ?_
    refine ow_ifne (pc' := 263) (tg := 266) dX12_apart_260 rfl rfl (fun hc => ?_) (fun hc => ?_)
    · have h := h.1 hc
      refine ow_iload (pc' := 268) (x := l7) dX12_apart_266 rfl rfl ?_
      refine ow_istore (pc' := 270) (lv' := [(0, (3, 83)), (2, (0, l2)), (3, (0, l3)), (4, (0, l4)), (5, (0, l7)), (6, (0, l6)), (7, (0, l7))]) dX12_apart_268 rfl rfl rfl ?_
      obtain ⟨vv3, h⟩ := h
      refine ow_iinc (pc' := 273) (lv' := [(0, (3, 83)), (2, (0, l2)), (3, (0, l3)), (4, (0, l4)), (5, (0, l7)), (6, (0, l6 + 1)), (7, (0, l7))]) dX12_apart_270 rfl vv3 rfl rfl rfl ?_
      obtain ⟨vv4, h⟩ := h
      refine ow_iinc (pc' := 276) (lv' := [(0, (3, 83)), (2, (0, l2)), (3, (0, l3)), (4, (0, l4)), (5, (0, l7)), (6, (0, l6 + 1)), (7, (0, l7 + 1))]) dX12_apart_273 rfl vv4 rfl rfl rfl ?_
      refine ow_goto (tg := 242) dX12_apart_276 rfl ?_
      exact h
    · have h := h.2 hc
      refine ow_goto (tg := 273) dX12_apart_263 rfl ?_
      obtain ⟨vv5, h⟩ := h
      refine ow_iinc (pc' := 276) (lv' := [(0, (3, 83)), (2, (0, l2)), (3, (0, l3)), (4, (0, l4)), (5, (0, l5)), (6, (0, l6)), (7, (0, l7 + 1))]) dX12_apart_273 rfl vv5 rfl rfl rfl ?_
      refine ow_goto (tg := 242) dX12_apart_276 rfl ?_
      exact h
set_option maxRecDepth 20000 in
theorem cX12_apart_324 {C : ow_C} {A L N : Int} {d : Nat} {M : ow_M} {K : Int → ow_M → Prop} {l2 l3 l4 l6 s0 s1 : Int} (h : (0 ≤ s1 ∧ s1 < 65536) ∧ (s0 = 0 ∨ s0 = 1) ∧ ∀ N1, N1 = ow_up M 99 s1 s0 → (0 ≤ l4 ∧ l4 < 65536) ∧ ((N1 99 l4) = 0 → ow_I (l4 + 1) ∧ ow_At C (EM A L N) (d + 1) mX12_apart 220 [(0, (3, 83)), (2, (0, l2)), (3, (0, l3)), (4, (0, l4 + 1))] [] (0, 0) N1 K) ∧ ((N1 99 l4) ≠ 0 → (l3 < l6 → ow_I (l4 + 1) ∧ ow_At C (EM A L N) (d + 1) mX12_apart 220 [(0, (3, 83)), (2, (0, l4)), (3, (0, l6)), (4, (0, l4 + 1))] [] (0, 0) N1 K) ∧ (l6 ≤ l3 → ow_I (l4 + 1) ∧ ow_At C (EM A L N) (d + 1) mX12_apart 220 [(0, (3, 83)), (2, (0, l2)), (3, (0, l3)), (4, (0, l4 + 1))] [] (0, 0) N1 K))) : ow_At C (EM A L N) (d + 1) mX12_apart 324 [(0, (3, 83)), (2, (0, l2)), (3, (0, l3)), (4, (0, l4)), (6, (0, l6))] [(0, s0), (0, s1), (3, 99)] (0, 0) M K := by
  obtain ⟨vv1, h⟩ := h
  obtain ⟨w2, h⟩ := h
  refine ow_bastore2 (pc' := 325) dX12_apart_324 rfl (Eq.mpr (er99 _) vv1) (of_eq_true (en99 _)) w2 (fun N1 eN1 => ?_)
  have h := h N1 eN1
  refine ow_aload_n (pc' := 326) (x := 83) dX12_apart_325 rfl rfl ?_
  refine ow_getf3 (pc' := 329) (t := 3) (ji := 36) (val := 99) dX12_apart_326 fRX12_65 rfl rfl rfl (of_eq_true eo83) eg83_36 ?_
  refine ow_iload (pc' := 331) (x := l4) dX12_apart_329 rfl rfl ?_
  obtain ⟨vv2, h⟩ := h
  refine ow_baload3 (pc' := 332) (val := N1 99 l4) dX12_apart_331 rfl (Eq.mpr (er99 _) vv2) (ea99 _) ?_
  refine ow_ifeq (pc' := 335) (tg := 350) dX12_apart_332 rfl rfl (fun hc => ?_) (fun hc => ?_)
  · have h := h.1 hc
    obtain ⟨vv3, h⟩ := h
    refine ow_iinc (pc' := 353) (lv' := [(0, (3, 83)), (2, (0, l2)), (3, (0, l3)), (4, (0, l4 + 1)), (6, (0, l6))]) dX12_apart_350 rfl vv3 rfl rfl rfl ?_
    refine ow_goto (tg := 220) dX12_apart_353 rfl ?_
    refine ow_sub (lv' := [(0, (3, 83)), (2, (0, l2)), (3, (0, l3)), (4, (0, l4 + 1))]) [0, 1, 2, 3] rfl ?_
    exact h
  · have h := h.2 hc
    refine ow_iload (pc' := 337) (x := l6) dX12_apart_335 rfl rfl ?_
    refine ow_iload_n (pc' := 338) (x := l3) dX12_apart_337 rfl rfl ?_
    refine ow_icmpgt (pc' := 341) (tg := 344) dX12_apart_338 rfl rfl (fun hc => ?_) (fun hc => ?_)
    · have h := h.1 hc
      refine ow_iload (pc' := 346) (x := l4) dX12_apart_344 rfl rfl ?_
      refine ow_istore_n (pc' := 347) (lv' := [(0, (3, 83)), (2, (0, l4)), (3, (0, l3)), (4, (0, l4)), (6, (0, l6))]) dX12_apart_346 rfl rfl rfl ?_
      refine ow_iload (pc' := 349) (x := l6) dX12_apart_347 rfl rfl ?_
      refine ow_istore_n (pc' := 350) (lv' := [(0, (3, 83)), (2, (0, l4)), (3, (0, l6)), (4, (0, l4)), (6, (0, l6))]) dX12_apart_349 rfl rfl rfl ?_
      obtain ⟨vv4, h⟩ := h
      refine ow_iinc (pc' := 353) (lv' := [(0, (3, 83)), (2, (0, l4)), (3, (0, l6)), (4, (0, l4 + 1)), (6, (0, l6))]) dX12_apart_350 rfl vv4 rfl rfl rfl ?_
      refine ow_goto (tg := 220) dX12_apart_353 rfl ?_
      refine ow_sub (lv' := [(0, (3, 83)), (2, (0, l4)), (3, (0, l6)), (4, (0, l4 + 1))]) [0, 1, 2, 3] rfl ?_
      exact h
    · have h := h.2 hc
      refine ow_goto (tg := 350) dX12_apart_341 rfl ?_
      obtain ⟨vv5, h⟩ := h
      refine ow_iinc (pc' := 353) (lv' := [(0, (3, 83)), (2, (0, l2)), (3, (0, l3)), (4, (0, l4 + 1)), (6, (0, l6))]) dX12_apart_350 rfl vv5 rfl rfl rfl ?_
      refine ow_goto (tg := 220) dX12_apart_353 rfl ?_
      refine ow_sub (lv' := [(0, (3, 83)), (2, (0, l2)), (3, (0, l3)), (4, (0, l4 + 1))]) [0, 1, 2, 3] rfl ?_
      exact h
theorem fX12_apart {C : ow_C} {A L N : Int} {d : Nat} {M : ow_M} {K : Int → ow_M → Prop} {l1 : Int} (h : ow_Sp C (EM A L N) d mX12_isIn (0, 0) [(0, l1), (0, 0), (0, 8)] M (fun r1 N1 => (r1 = 0 → K ((-1)) N1) ∧ (r1 ≠ 0 → ((N1 84 2) ≤ 16 → ow_Sp C (EM A L N) d mX12_rule (0, 0) [(3, 83)] N1 (fun r2 N2 => ow_At C (EM A L N) (d + 1) mX12_apart 29 [(0, (3, 83)), (1, (0, l1)), (2, (0, 0))] [] (0, 0) N2 K)) ∧ (16 < (N1 84 2) → K ((-1)) N1)))) : ow_Sp C (EM A L N) (d + 1) mX12_apart (0, 0) [(3, 83), (0, l1)] M K := ow_enter (by decide +kernel) rfl rfl (cX12_apart_0 h)
set_option maxRecDepth 20000 in
theorem cX12_log_0 {C : ow_C} {A L N : Int} {d : Nat} {M : ow_M} {K : Int → ow_M → Prop} {l1 : Int} (h : ow_Sp C (EM A L N) d mX12_isIn (0, 0) [(0, l1), (0, 0), (0, 8)] M (fun r1 N1 => (r1 ≠ 0 → ∀ N2, N2 = ow_up N1 84 3 l1 → ∀ N3, N3 = ow_up N2 84 4 0 → K 1 N3) ∧ (r1 = 0 → K 0 N1))) : ow_At C (EM A L N) (d + 1) mX12_log 0 [(0, (3, 83)), (1, (0, l1))] [] (0, 0) M K := by
  refine ow_iload_n (pc' := 1) (x := l1) dX12_log_0 rfl rfl ?_
  refine ow_iconst (pc' := 2) (n := 0) dX12_log_1 rfl rfl ?_
  refine ow_bipush (pc' := 4) (n := 8) dX12_log_2 rfl rfl ?_
  refine ow_callSp (z := mX12_isIn) (n := 3) (vs := [(0, l1), (0, 0), (0, 8)]) (st := []) (pc' := 7) (b1 := (0, 0)) (b2 := (0, 0)) dX12_log_4 lRX12_91 kX12_isIn zX12_isIn rfl rfl rfl rfl rfl rfl (ow_Sp.mono h (fun r1 N1 h => ?_))
  refine ow_ifne (pc' := 10) (tg := 12) dX12_log_7 rfl rfl (fun hc => ?_) (fun hc => ?_)
  · have h := h.1 hc
    refine ow_aload_n (pc' := 13) (x := 83) dX12_log_12 rfl rfl ?_
    refine ow_getf3 (pc' := 16) (t := 3) (ji := 0) (val := 84) dX12_log_13 fRX12_7 rfl rfl rfl (of_eq_true eo83) eg83_0 ?_
    refine ow_iconst (pc' := 17) (n := 3) dX12_log_16 rfl rfl ?_
    refine ow_iload_n (pc' := 18) (x := l1) dX12_log_17 rfl rfl ?_
    refine ow_iastore2 (pc' := 19) dX12_log_18 rfl (Eq.mpr (er84 _) ⟨by decide, by decide⟩) (of_eq_true (en84 _)) (fun N2 eN2 => ?_)
    have h := h N2 eN2
    refine ow_aload_n (pc' := 20) (x := 83) dX12_log_19 rfl rfl ?_
    refine ow_getf3 (pc' := 23) (t := 3) (ji := 0) (val := 84) dX12_log_20 fRX12_7 rfl rfl rfl (of_eq_true eo83) eg83_0 ?_
    refine ow_iconst (pc' := 24) (n := 4) dX12_log_23 rfl rfl ?_
    refine ow_iconst (pc' := 25) (n := 0) dX12_log_24 rfl rfl ?_
    refine ow_iastore2 (pc' := 26) dX12_log_25 rfl (Eq.mpr (er84 _) ⟨by decide, by decide⟩) (of_eq_true (en84 _)) (fun N3 eN3 => ?_)
    have h := h N3 eN3
    refine ow_iconst (pc' := 27) (n := 1) dX12_log_26 rfl rfl ?_
    exact ow_zret dX12_log_27 rfl rfl (Or.inr rfl) h
  · have h := h.2 hc
    refine ow_iconst (pc' := 11) (n := 0) dX12_log_10 rfl rfl ?_
    exact ow_zret dX12_log_11 rfl rfl (Or.inl rfl) h
theorem fX12_log {C : ow_C} {A L N : Int} {d : Nat} {M : ow_M} {K : Int → ow_M → Prop} {l1 : Int} (h : ow_Sp C (EM A L N) d mX12_isIn (0, 0) [(0, l1), (0, 0), (0, 8)] M (fun r1 N1 => (r1 ≠ 0 → ∀ N2, N2 = ow_up N1 84 3 l1 → ∀ N3, N3 = ow_up N2 84 4 0 → K 1 N3) ∧ (r1 = 0 → K 0 N1))) : ow_Sp C (EM A L N) (d + 1) mX12_log (0, 0) [(3, 83), (0, l1)] M K := ow_enter (by decide +kernel) rfl rfl (cX12_log_0 h)
set_option maxRecDepth 20000 in
theorem cX12_said_0 {C : ow_C} {A L N : Int} {d : Nat} {M : ow_M} {K : Int → ow_M → Prop} {l1 l2 l3 : Int} (h : ow_Sp C (EM A L N) d mX12_isIn (0, 0) [(0, l1), (0, 0), (0, M 84 3)] M (fun r1 N1 => (r1 = 0 → K ((-1)) N1) ∧ (r1 ≠ 0 → (l2 = ((-1)) → ow_At C (EM A L N) (d + 1) mX12_said 27 [(0, (3, 83)), (1, (0, l1)), (2, (0, l2)), (3, (0, l3))] [] (0, 0) N1 K) ∧ (l2 ≠ ((-1)) → ow_Sp C (EM A L N) d mX12_isWord0 (0, 0) [(3, 83), (0, l2)] N1 (fun r2 N2 => (r2 = 0 → K ((-1)) N2) ∧ (r2 ≠ 0 → ow_At C (EM A L N) (d + 1) mX12_said 27 [(0, (3, 83)), (1, (0, l1)), (2, (0, l2)), (3, (0, l3))] [] (0, 0) N2 K)))))) : ow_At C (EM A L N) (d + 1) mX12_said 0 [(0, (3, 83)), (1, (0, l1)), (2, (0, l2)), (3, (0, l3))] [] (0, 0) M K := by
  refine ow_iload_n (pc' := 1) (x := l1) dX12_said_0 rfl rfl ?_
  refine ow_iconst (pc' := 2) (n := 0) dX12_said_1 rfl rfl ?_
  refine ow_aload_n (pc' := 3) (x := 83) dX12_said_2 rfl rfl ?_
  refine ow_getf3 (pc' := 6) (t := 3) (ji := 0) (val := 84) dX12_said_3 fRX12_7 rfl rfl rfl (of_eq_true eo83) eg83_0 ?_
  refine ow_iconst (pc' := 7) (n := 3) dX12_said_6 rfl rfl ?_
  refine ow_iaload3 (pc' := 8) (val := M 84 3) dX12_said_7 rfl (Eq.mpr (er84 _) ⟨by decide, by decide⟩) (ea84 _) ?_
  refine ow_callSp (z := mX12_isIn) (n := 3) (vs := [(0, l1), (0, 0), (0, M 84 3)]) (st := []) (pc' := 11) (b1 := (0, 0)) (b2 := (0, 0)) dX12_said_8 lRX12_91 kX12_isIn zX12_isIn rfl rfl rfl rfl rfl rfl (ow_Sp.mono h (fun r1 N1 h => ?_))
  refine ow_ifeq (pc' := 14) (tg := 48) dX12_said_11 rfl rfl (fun hc => ?_) (fun hc => ?_)
  · have h := h.1 hc
    refine ow_iconst (pc' := 49) (n := (-1)) dX12_said_48 rfl rfl ?_
    exact ow_iret dX12_said_49 rfl rfl h
  · have h := h.2 hc
    refine ow_iload_n (pc' := 15) (x := l2) dX12_said_14 rfl rfl ?_
    refine ow_iconst (pc' := 16) (n := (-1)) dX12_said_15 rfl rfl ?_
    refine ow_icmpeq (pc' := 19) (tg := 27) dX12_said_16 rfl rfl (fun hc => ?_) (fun hc => ?_)
    · have h := h.1 hc
      exact h
    · have h := h.2 hc
      refine ow_aload_n (pc' := 20) (x := 83) dX12_said_19 rfl rfl ?_
      refine ow_iload_n (pc' := 21) (x := l2) dX12_said_20 rfl rfl ?_
      refine ow_callVp (z := mX12_isWord0) (n := 1) (k := 12) (vs := [(0, l2)]) (x := 83) (st := []) (pc' := 24) (b1 := (0, 0)) (b2 := (0, 0)) dX12_said_21 lRX12_102 kX12_isWord0 iX12_isWord0 rfl rfl rfl rfl rfl rfl (of_eq_true eo83) (ow_Sp.mono h (fun r2 N2 h => ?_))
      refine ow_ifeq (pc' := 27) (tg := 48) dX12_said_24 rfl rfl (fun hc => ?_) (fun hc => ?_)
      · have h := h.1 hc
        refine ow_iconst (pc' := 49) (n := (-1)) dX12_said_48 rfl rfl ?_
        exact ow_iret dX12_said_49 rfl rfl h
      · have h := h.2 hc
        exact h
set_option maxRecDepth 20000 in
theorem cX12_said_27 {C : ow_C} {A L N : Int} {d : Nat} {M : ow_M} {K : Int → ow_M → Prop} {l1 l2 l3 : Int} (h : ow_Sp C (EM A L N) d mX12_isIn (0, 0) [(0, l3), (0, 0), (0, 99)] M (fun r1 N1 => (r1 = 0 → K ((-1)) N1) ∧ (r1 ≠ 0 → ((N1 84 4) ≠ 40 → ow_I (3 * (N1 84 4)) ∧ ow_I (90 + (3 * (N1 84 4))) ∧ (0 ≤ (90 + (3 * (N1 84 4))) ∧ (90 + (3 * (N1 84 4))) < 215) ∧ ∀ N2, N2 = ow_up N1 84 (90 + (3 * (N1 84 4))) l1 → ow_I ((90 + (3 * (N1 84 4))) + 1) ∧ (0 ≤ ((90 + (3 * (N1 84 4))) + 1) ∧ ((90 + (3 * (N1 84 4))) + 1) < 215) ∧ ∀ N3, N3 = ow_up N2 84 ((90 + (3 * (N1 84 4))) + 1) l2 → ow_I ((90 + (3 * (N1 84 4))) + 2) ∧ (0 ≤ ((90 + (3 * (N1 84 4))) + 2) ∧ ((90 + (3 * (N1 84 4))) + 2) < 215) ∧ ∀ N4, N4 = ow_up N3 84 ((90 + (3 * (N1 84 4))) + 2) l3 → ow_I ((N4 84 4) + 1) ∧ ∀ N5, N5 = ow_up N4 84 4 ((N4 84 4) + 1) → K (N5 84 4) N5) ∧ ((N1 84 4) = 40 → K ((-1)) N1)))) : ow_At C (EM A L N) (d + 1) mX12_said 27 [(0, (3, 83)), (1, (0, l1)), (2, (0, l2)), (3, (0, l3))] [] (0, 0) M K := by
  refine ow_iload_n (pc' := 28) (x := l3) dX12_said_27 rfl rfl ?_
  refine ow_iconst (pc' := 29) (n := 0) dX12_said_28 rfl rfl ?_
  refine ow_bipush (pc' := 31) (n := 99) dX12_said_29 rfl rfl ?_
  refine ow_callSp (z := mX12_isIn) (n := 3) (vs := [(0, l3), (0, 0), (0, 99)]) (st := []) (pc' := 34) (b1 := (0, 0)) (b2 := (0, 0)) dX12_said_31 lRX12_91 kX12_isIn zX12_isIn rfl rfl rfl rfl rfl rfl (ow_Sp.mono h (fun r1 N1 h => ?_))
  refine ow_ifeq (pc' := 37) (tg := 48) dX12_said_34 rfl rfl (fun hc => ?_) (fun hc => ?_)
  · have h := h.1 hc
    refine ow_iconst (pc' := 49) (n := (-1)) dX12_said_48 rfl rfl ?_
    exact ow_iret dX12_said_49 rfl rfl h
  · have h := h.2 hc
    refine ow_aload_n (pc' := 38) (x := 83) dX12_said_37 rfl rfl ?_
    refine ow_getf3 (pc' := 41) (t := 3) (ji := 0) (val := 84) dX12_said_38 fRX12_7 rfl rfl rfl (of_eq_true eo83) eg83_0 ?_
    refine ow_iconst (pc' := 42) (n := 4) dX12_said_41 rfl rfl ?_
    refine ow_iaload3 (pc' := 43) (val := N1 84 4) dX12_said_42 rfl (Eq.mpr (er84 _) ⟨by decide, by decide⟩) (ea84 _) ?_
    refine ow_bipush (pc' := 45) (n := 40) dX12_said_43 rfl rfl ?_
    refine ow_icmpne (pc' := 48) (tg := 50) dX12_said_45 rfl rfl (fun hc => ?_) (fun hc => ?_)
    · have h := h.1 hc
      refine ow_bipush (pc' := 52) (n := 90) dX12_said_50 rfl rfl ?_
      refine ow_iconst (pc' := 53) (n := 3) dX12_said_52 rfl rfl ?_
      refine ow_aload_n (pc' := 54) (x := 83) dX12_said_53 rfl rfl ?_
      refine ow_getf3 (pc' := 57) (t := 3) (ji := 0) (val := 84) dX12_said_54 fRX12_7 rfl rfl rfl (of_eq_true eo83) eg83_0 ?_
      refine ow_iconst (pc' := 58) (n := 4) dX12_said_57 rfl rfl ?_
      refine ow_iaload3 (pc' := 59) (val := N1 84 4) dX12_said_58 rfl (Eq.mpr (er84 _) ⟨by decide, by decide⟩) (ea84 _) ?_
      obtain ⟨vv1, h⟩ := h
      refine ow_imul (pc' := 60) dX12_said_59 vv1 rfl ?_
      obtain ⟨vv2, h⟩ := h
      refine ow_iadd (pc' := 61) dX12_said_60 vv2 rfl ?_
      refine ow_istore (pc' := 63) (lv' := [(0, (3, 83)), (1, (0, l1)), (2, (0, l2)), (3, (0, l3)), (4, (0, 90 + (3 * (N1 84 4))))]) dX12_said_61 rfl rfl rfl ?_
      refine ow_aload_n (pc' := 64) (x := 83) dX12_said_63 rfl rfl ?_
      refine ow_getf3 (pc' := 67) (t := 3) (ji := 0) (val := 84) dX12_said_64 fRX12_7 rfl rfl rfl (of_eq_true eo83) eg83_0 ?_
      refine ow_iload (pc' := 69) (x := 90 + (3 * (N1 84 4))) dX12_said_67 rfl rfl ?_
      refine ow_iload_n (pc' := 70) (x := l1) dX12_said_69 rfl rfl ?_
      obtain ⟨vv3, h⟩ := h
      refine ow_iastore2 (pc' := 71) dX12_said_70 rfl (Eq.mpr (er84 _) vv3) (of_eq_true (en84 _)) (fun N2 eN2 => ?_)
      have h := h N2 eN2
      refine ow_aload_n (pc' := 72) (x := 83) dX12_said_71 rfl rfl ?_
      refine ow_getf3 (pc' := 75) (t := 3) (ji := 0) (val := 84) dX12_said_72 fRX12_7 rfl rfl rfl (of_eq_true eo83) eg83_0 ?_
      refine ow_iload (pc' := 77) (x := 90 + (3 * (N1 84 4))) dX12_said_75 rfl rfl ?_
      refine ow_iconst (pc' := 78) (n := 1) dX12_said_77 rfl rfl ?_
      obtain ⟨vv4, h⟩ := h
      refine ow_iadd (pc' := 79) dX12_said_78 vv4 rfl ?_
      refine ow_iload_n (pc' := 80) (x := l2) dX12_said_79 rfl rfl ?_
      obtain ⟨vv5, h⟩ := h
      refine ow_iastore2 (pc' := 81) dX12_said_80 rfl (Eq.mpr (er84 _) vv5) (of_eq_true (en84 _)) (fun N3 eN3 => ?_)
      have h := h N3 eN3
      refine ow_aload_n (pc' := 82) (x := 83) dX12_said_81 rfl rfl ?_
      refine ow_getf3 (pc' := 85) (t := 3) (ji := 0) (val := 84) dX12_said_82 fRX12_7 rfl rfl rfl (of_eq_true eo83) eg83_0 ?_
      refine ow_iload (pc' := 87) (x := 90 + (3 * (N1 84 4))) dX12_said_85 rfl rfl ?_
      refine ow_iconst (pc' := 88) (n := 2) dX12_said_87 rfl rfl ?_
      obtain ⟨vv6, h⟩ := h
      refine ow_iadd (pc' := 89) dX12_said_88 vv6 rfl ?_
      refine ow_iload_n (pc' := 90) (x := l3) dX12_said_89 rfl rfl ?_
      obtain ⟨vv7, h⟩ := h
      refine ow_iastore2 (pc' := 91) dX12_said_90 rfl (Eq.mpr (er84 _) vv7) (of_eq_true (en84 _)) (fun N4 eN4 => ?_)
      have h := h N4 eN4
      refine ow_aload_n (pc' := 92) (x := 83) dX12_said_91 rfl rfl ?_
      refine ow_getf3 (pc' := 95) (t := 3) (ji := 0) (val := 84) dX12_said_92 fRX12_7 rfl rfl rfl (of_eq_true eo83) eg83_0 ?_
      refine ow_iconst (pc' := 96) (n := 4) dX12_said_95 rfl rfl ?_
      refine ow_dup2 (pc' := 97) dX12_said_96 rfl rfl rfl ?_
      refine ow_iaload3 (pc' := 98) (val := N4 84 4) dX12_said_97 rfl (Eq.mpr (er84 _) ⟨by decide, by decide⟩) (ea84 _) ?_
      refine ow_iconst (pc' := 99) (n := 1) dX12_said_98 rfl rfl ?_
      obtain ⟨vv8, h⟩ := h
      refine ow_iadd (pc' := 100) dX12_said_99 vv8 rfl ?_
      refine ow_iastore2 (pc' := 101) dX12_said_100 rfl (Eq.mpr (er84 _) ⟨by decide, by decide⟩) (of_eq_true (en84 _)) (fun N5 eN5 => ?_)
      have h := h N5 eN5
      refine ow_aload_n (pc' := 102) (x := 83) dX12_said_101 rfl rfl ?_
      refine ow_getf3 (pc' := 105) (t := 3) (ji := 0) (val := 84) dX12_said_102 fRX12_7 rfl rfl rfl (of_eq_true eo83) eg83_0 ?_
      refine ow_iconst (pc' := 106) (n := 4) dX12_said_105 rfl rfl ?_
      refine ow_iaload3 (pc' := 107) (val := N5 84 4) dX12_said_106 rfl (Eq.mpr (er84 _) ⟨by decide, by decide⟩) (ea84 _) ?_
      exact ow_iret dX12_said_107 rfl rfl h
    · have h := h.2 hc
      refine ow_iconst (pc' := 49) (n := (-1)) dX12_said_48 rfl rfl ?_
      exact ow_iret dX12_said_49 rfl rfl h
theorem fX12_said {C : ow_C} {A L N : Int} {d : Nat} {M : ow_M} {K : Int → ow_M → Prop} {l1 l2 l3 : Int} (h : ow_Sp C (EM A L N) d mX12_isIn (0, 0) [(0, l1), (0, 0), (0, M 84 3)] M (fun r1 N1 => (r1 = 0 → K ((-1)) N1) ∧ (r1 ≠ 0 → (l2 = ((-1)) → ow_At C (EM A L N) (d + 1) mX12_said 27 [(0, (3, 83)), (1, (0, l1)), (2, (0, l2)), (3, (0, l3))] [] (0, 0) N1 K) ∧ (l2 ≠ ((-1)) → ow_Sp C (EM A L N) d mX12_isWord0 (0, 0) [(3, 83), (0, l2)] N1 (fun r2 N2 => (r2 = 0 → K ((-1)) N2) ∧ (r2 ≠ 0 → ow_At C (EM A L N) (d + 1) mX12_said 27 [(0, (3, 83)), (1, (0, l1)), (2, (0, l2)), (3, (0, l3))] [] (0, 0) N2 K)))))) : ow_Sp C (EM A L N) (d + 1) mX12_said (0, 0) [(3, 83), (0, l1), (0, l2), (0, l3)] M K := ow_enter (by decide +kernel) rfl rfl (cX12_said_0 h)
set_option maxRecDepth 20000 in
theorem cX12_asOf_0 {C : ow_C} {A L N : Int} {d : Nat} {M : ow_M} {K : Int → ow_M → Prop} {l1 l2 : Int} (h : ow_At C (EM A L N) d mX12_asOf 5 [(0, (3, 83)), (1, (0, l1)), (2, (0, l2)), (3, (0, (-1))), (4, (0, 0))] [] (0, 0) M K) : ow_At C (EM A L N) d mX12_asOf 0 [(0, (3, 83)), (1, (0, l1)), (2, (0, l2))] [] (0, 0) M K := by
  refine ow_iconst (pc' := 1) (n := (-1)) dX12_asOf_0 rfl rfl ?_
  refine ow_istore_n (pc' := 2) (lv' := [(0, (3, 83)), (1, (0, l1)), (2, (0, l2)), (3, (0, (-1)))]) dX12_asOf_1 rfl rfl rfl ?_
  refine ow_iconst (pc' := 3) (n := 0) dX12_asOf_2 rfl rfl ?_
  refine ow_istore (pc' := 5) (lv' := [(0, (3, 83)), (1, (0, l1)), (2, (0, l2)), (3, (0, (-1))), (4, (0, 0))]) dX12_asOf_3 rfl rfl rfl ?_
  exact h
set_option maxRecDepth 20000 in
theorem cX12_asOf_5 {C : ow_C} {A L N : Int} {d : Nat} {M : ow_M} {K : Int → ow_M → Prop} {l1 l2 l3 l4 : Int} (h : ((M 84 4) ≤ l4 → K l3 M) ∧ (l4 < (M 84 4) → ow_I (3 * l4) ∧ ow_I (90 + (3 * l4)) ∧ (0 ≤ (90 + (3 * l4)) ∧ (90 + (3 * l4)) < 215) ∧ ((M 84 (90 + (3 * l4))) ≠ l1 → ow_I (l4 + 1) ∧ ow_At C (EM A L N) d mX12_asOf 5 [(0, (3, 83)), (1, (0, l1)), (2, (0, l2)), (3, (0, l3)), (4, (0, l4 + 1))] [] (0, 0) M K) ∧ ((M 84 (90 + (3 * l4))) = l1 → ow_I ((90 + (3 * l4)) + 2) ∧ (0 ≤ ((90 + (3 * l4)) + 2) ∧ ((90 + (3 * l4)) + 2) < 215) ∧ (l2 < (M 84 ((90 + (3 * l4)) + 2)) → ow_I (l4 + 1) ∧ ow_At C (EM A L N) d mX12_asOf 5 [(0, (3, 83)), (1, (0, l1)), (2, (0, l2)), (3, (0, l3)), (4, (0, l4 + 1))] [] (0, 0) M K) ∧ ((M 84 ((90 + (3 * l4)) + 2)) ≤ l2 → ow_I ((90 + (3 * l4)) + 1) ∧ (0 ≤ ((90 + (3 * l4)) + 1) ∧ ((90 + (3 * l4)) + 1) < 215) ∧ ow_I (l4 + 1) ∧ ow_At C (EM A L N) d mX12_asOf 5 [(0, (3, 83)), (1, (0, l1)), (2, (0, l2)), (3, (0, M 84 ((90 + (3 * l4)) + 1))), (4, (0, l4 + 1))] [] (0, 0) M K)))) : ow_At C (EM A L N) d mX12_asOf 5 [(0, (3, 83)), (1, (0, l1)), (2, (0, l2)), (3, (0, l3)), (4, (0, l4))] [] (0, 0) M K := by
  refine ow_iload (pc' := 7) (x := l4) dX12_asOf_5 rfl rfl ?_
  refine ow_aload_n (pc' := 8) (x := 83) dX12_asOf_7 rfl rfl ?_
  refine ow_getf3 (pc' := 11) (t := 3) (ji := 0) (val := 84) dX12_asOf_8 fRX12_7 rfl rfl rfl (of_eq_true eo83) eg83_0 ?_
  refine ow_iconst (pc' := 12) (n := 4) dX12_asOf_11 rfl rfl ?_
  refine ow_iaload3 (pc' := 13) (val := M 84 4) dX12_asOf_12 rfl (Eq.mpr (er84 _) ⟨by decide, by decide⟩) (ea84 _) ?_
  refine ow_icmpge (pc' := 16) (tg := 71) dX12_asOf_13 rfl rfl (fun hc => ?_) (fun hc => ?_)
  · have h := h.1 hc
    refine ow_iload_n (pc' := 72) (x := l3) dX12_asOf_71 rfl rfl ?_
    exact ow_iret dX12_asOf_72 rfl rfl h
  · have h := h.2 hc
    refine ow_aload_n (pc' := 17) (x := 83) dX12_asOf_16 rfl rfl ?_
    refine ow_getf3 (pc' := 20) (t := 3) (ji := 0) (val := 84) dX12_asOf_17 fRX12_7 rfl rfl rfl (of_eq_true eo83) eg83_0 ?_
    refine ow_bipush (pc' := 22) (n := 90) dX12_asOf_20 rfl rfl ?_
    refine ow_iconst (pc' := 23) (n := 3) dX12_asOf_22 rfl rfl ?_
    refine ow_iload (pc' := 25) (x := l4) dX12_asOf_23 rfl rfl ?_
    obtain ⟨vv1, h⟩ := h
    refine ow_imul (pc' := 26) dX12_asOf_25 vv1 rfl ?_
    obtain ⟨vv2, h⟩ := h
    refine ow_iadd (pc' := 27) dX12_asOf_26 vv2 rfl ?_
    obtain ⟨vv3, h⟩ := h
    refine ow_iaload3 (pc' := 28) (val := M 84 (90 + (3 * l4))) dX12_asOf_27 rfl (Eq.mpr (er84 _) vv3) (ea84 _) ?_
    refine ow_iload_n (pc' := 29) (x := l1) dX12_asOf_28 rfl rfl ?_
    refine ow_icmpne (pc' := 32) (tg := 65) dX12_asOf_29 rfl rfl (fun hc => ?_) (fun hc => ?_)
    · have h := h.1 hc
      obtain ⟨vv4, h⟩ := h
      refine ow_iinc (pc' := 68) (lv' := [(0, (3, 83)), (1, (0, l1)), (2, (0, l2)), (3, (0, l3)), (4, (0, l4 + 1))]) dX12_asOf_65 rfl vv4 rfl rfl rfl ?_
      refine ow_goto (tg := 5) dX12_asOf_68 rfl ?_
      exact h
    · have h := h.2 hc
      refine ow_aload_n (pc' := 33) (x := 83) dX12_asOf_32 rfl rfl ?_
      refine ow_getf3 (pc' := 36) (t := 3) (ji := 0) (val := 84) dX12_asOf_33 fRX12_7 rfl rfl rfl (of_eq_true eo83) eg83_0 ?_
      refine ow_bipush (pc' := 38) (n := 90) dX12_asOf_36 rfl rfl ?_
      refine ow_iconst (pc' := 39) (n := 3) dX12_asOf_38 rfl rfl ?_
      refine ow_iload (pc' := 41) (x := l4) dX12_asOf_39 rfl rfl ?_
      refine ow_imul (pc' := 42) dX12_asOf_41 vv1 rfl ?_
      refine ow_iadd (pc' := 43) dX12_asOf_42 vv2 rfl ?_
      refine ow_iconst (pc' := 44) (n := 2) dX12_asOf_43 rfl rfl ?_
      obtain ⟨vv5, h⟩ := h
      refine ow_iadd (pc' := 45) dX12_asOf_44 vv5 rfl ?_
      obtain ⟨vv6, h⟩ := h
      refine ow_iaload3 (pc' := 46) (val := M 84 ((90 + (3 * l4)) + 2)) dX12_asOf_45 rfl (Eq.mpr (er84 _) vv6) (ea84 _) ?_
      refine ow_iload_n (pc' := 47) (x := l2) dX12_asOf_46 rfl rfl ?_
      refine ow_icmpgt (pc' := 50) (tg := 65) dX12_asOf_47 rfl rfl (fun hc => ?_) (fun hc => ?_)
      · have h := h.1 hc
        obtain ⟨vv7, h⟩ := h
        refine ow_iinc (pc' := 68) (lv' := [(0, (3, 83)), (1, (0, l1)), (2, (0, l2)), (3, (0, l3)), (4, (0, l4 + 1))]) dX12_asOf_65 rfl vv7 rfl rfl rfl ?_
        refine ow_goto (tg := 5) dX12_asOf_68 rfl ?_
        exact h
      · have h := h.2 hc
        refine ow_aload_n (pc' := 51) (x := 83) dX12_asOf_50 rfl rfl ?_
        refine ow_getf3 (pc' := 54) (t := 3) (ji := 0) (val := 84) dX12_asOf_51 fRX12_7 rfl rfl rfl (of_eq_true eo83) eg83_0 ?_
        refine ow_bipush (pc' := 56) (n := 90) dX12_asOf_54 rfl rfl ?_
        refine ow_iconst (pc' := 57) (n := 3) dX12_asOf_56 rfl rfl ?_
        refine ow_iload (pc' := 59) (x := l4) dX12_asOf_57 rfl rfl ?_
        refine ow_imul (pc' := 60) dX12_asOf_59 vv1 rfl ?_
        refine ow_iadd (pc' := 61) dX12_asOf_60 vv2 rfl ?_
        refine ow_iconst (pc' := 62) (n := 1) dX12_asOf_61 rfl rfl ?_
        obtain ⟨vv8, h⟩ := h
        refine ow_iadd (pc' := 63) dX12_asOf_62 vv8 rfl ?_
        obtain ⟨vv9, h⟩ := h
        refine ow_iaload3 (pc' := 64) (val := M 84 ((90 + (3 * l4)) + 1)) dX12_asOf_63 rfl (Eq.mpr (er84 _) vv9) (ea84 _) ?_
        refine ow_istore_n (pc' := 65) (lv' := [(0, (3, 83)), (1, (0, l1)), (2, (0, l2)), (3, (0, M 84 ((90 + (3 * l4)) + 1))), (4, (0, l4))]) dX12_asOf_64 rfl rfl rfl ?_
        obtain ⟨vv10, h⟩ := h
        refine ow_iinc (pc' := 68) (lv' := [(0, (3, 83)), (1, (0, l1)), (2, (0, l2)), (3, (0, M 84 ((90 + (3 * l4)) + 1))), (4, (0, l4 + 1))]) dX12_asOf_65 rfl vv10 rfl rfl rfl ?_
        refine ow_goto (tg := 5) dX12_asOf_68 rfl ?_
        exact h
theorem fX12_asOf {C : ow_C} {A L N : Int} {d : Nat} {M : ow_M} {K : Int → ow_M → Prop} {l1 l2 : Int} (h : ow_At C (EM A L N) d mX12_asOf 5 [(0, (3, 83)), (1, (0, l1)), (2, (0, l2)), (3, (0, (-1))), (4, (0, 0))] [] (0, 0) M K) : ow_Sp C (EM A L N) d mX12_asOf (0, 0) [(3, 83), (0, l1), (0, l2)] M K := ow_enter (by decide +kernel) rfl rfl (cX12_asOf_0 h)
set_option maxRecDepth 20000 in
theorem cX12_lead_0 {C : ow_C} {A L N : Int} {d : Nat} {M : ow_M} {K : Int → ow_M → Prop} {l1 l2 l3 : Int} (h : ow_I (9 * l2) ∧ ow_I ((9 * l2) + l3) ∧ (0 ≤ ((9 * l2) + l3) ∧ ((9 * l2) + l3) < 2304) ∧ ow_At C (EM A L N) (d + 1) mX12_lead 16 [(0, (3, 83)), (1, (0, l1)), (2, (0, l2)), (3, (0, l3)), (4, (0, M 100 ((9 * l2) + l3))), (5, (0, 0))] [] (0, 0) M K) : ow_At C (EM A L N) (d + 1) mX12_lead 0 [(0, (3, 83)), (1, (0, l1)), (2, (0, l2)), (3, (0, l3))] [] (0, 0) M K := by
  refine ow_aload_n (pc' := 1) (x := 83) dX12_lead_0 rfl rfl ?_
  refine ow_getf3 (pc' := 4) (t := 3) (ji := 37) (val := 100) dX12_lead_1 fRX12_68 rfl rfl rfl (of_eq_true eo83) eg83_37 ?_
  refine ow_bipush (pc' := 6) (n := 9) dX12_lead_4 rfl rfl ?_
  refine ow_iload_n (pc' := 7) (x := l2) dX12_lead_6 rfl rfl ?_
  obtain ⟨vv1, h⟩ := h
  refine ow_imul (pc' := 8) dX12_lead_7 vv1 rfl ?_
  refine ow_iload_n (pc' := 9) (x := l3) dX12_lead_8 rfl rfl ?_
  obtain ⟨vv2, h⟩ := h
  refine ow_iadd (pc' := 10) dX12_lead_9 vv2 rfl ?_
  obtain ⟨vv3, h⟩ := h
  refine ow_iaload3 (pc' := 11) (val := M 100 ((9 * l2) + l3)) dX12_lead_10 rfl (Eq.mpr (er100 _) vv3) (ea100 _) ?_
  refine ow_istore (pc' := 13) (lv' := [(0, (3, 83)), (1, (0, l1)), (2, (0, l2)), (3, (0, l3)), (4, (0, M 100 ((9 * l2) + l3)))]) dX12_lead_11 rfl rfl rfl ?_
  refine ow_iconst (pc' := 14) (n := 0) dX12_lead_13 rfl rfl ?_
  refine ow_istore (pc' := 16) (lv' := [(0, (3, 83)), (1, (0, l1)), (2, (0, l2)), (3, (0, l3)), (4, (0, M 100 ((9 * l2) + l3))), (5, (0, 0))]) dX12_lead_14 rfl rfl rfl ?_
  exact h
set_option maxRecDepth 20000 in
theorem cX12_lead_16 {C : ow_C} {A L N : Int} {d : Nat} {M : ow_M} {K : Int → ow_M → Prop} {l1 l2 l3 l4 l5 : Int} (h : (L ≤ l5 → K 0 M) ∧ (l5 < L → ow_At C (EM A L N) (d + 1) mX12_lead 28 [(0, (3, 83)), (1, (0, l1)), (2, (0, l2)), (3, (0, l3)), (4, (0, l4)), (5, (0, l5)), (6, (0, 0))] [] (0, 0) M K)) : ow_At C (EM A L N) (d + 1) mX12_lead 16 [(0, (3, 83)), (1, (0, l1)), (2, (0, l2)), (3, (0, l3)), (4, (0, l4)), (5, (0, l5))] [] (0, 0) M K := by
  refine ow_iload (pc' := 18) (x := l5) dX12_lead_16 rfl rfl ?_
  refine ow_aload_n (pc' := 19) (x := 83) dX12_lead_18 rfl rfl ?_
  refine ow_getf3 (pc' := 22) (t := 0) (ji := 3) (val := L) dX12_lead_19 fRX12_81 rfl rfl rfl (of_eq_true eo83) eg83_3 ?_
  refine ow_icmpge (pc' := 25) (tg := 108) dX12_lead_22 rfl rfl (fun hc => ?_) (fun hc => ?_)
  · have h := h.1 hc
    exact ow_vret dX12_lead_108 rfl rfl h
  · have h := h.2 hc
    refine ow_iconst (pc' := 26) (n := 0) dX12_lead_25 rfl rfl ?_
    refine ow_istore (pc' := 28) (lv' := [(0, (3, 83)), (1, (0, l1)), (2, (0, l2)), (3, (0, l3)), (4, (0, l4)), (5, (0, l5)), (6, (0, 0))]) dX12_lead_26 rfl rfl rfl ?_
    exact h
set_option maxRecDepth 20000 in
theorem cX12_lead_28 {C : ow_C} {A L N : Int} {d : Nat} {M : ow_M} {K : Int → ow_M → Prop} {l1 l2 l3 l4 l5 l6 : Int} (h : (A ≤ l6 → ow_I (l5 + 1) ∧ ow_At C (EM A L N) (d + 1) mX12_lead 16 [(0, (3, 83)), (1, (0, l1)), (2, (0, l2)), (3, (0, l3)), (4, (0, l4)), (5, (0, l5 + 1))] [] (0, 0) M K) ∧ (l6 < A → ow_I (l3 - 1) ∧ ow_Sp C (EM A L N) d mX12_may (0, 0) [(3, 83), (0, l1), (0, l2), (0, l3 - 1), (0, l5), (0, l6)] M (fun r1 N1 => (r1 ≠ 0 → ow_Sp C (EM A L N) d mX12_changed (0, 0) [(3, 83), (0, l2), (0, l5), (0, l6)] N1 (fun r2 N2 => ow_I (9 * r2) ∧ ow_I ((9 * r2) + l5) ∧ ow_I (((9 * r2) + l5) + 1) ∧ (0 ≤ (((9 * r2) + l5) + 1) ∧ (((9 * r2) + l5) + 1) < 2304) ∧ ((N2 101 (((9 * r2) + l5) + 1)) ≤ l4 → ow_I (l6 + 1) ∧ ow_At C (EM A L N) (d + 1) mX12_lead 28 [(0, (3, 83)), (1, (0, l1)), (2, (0, l2)), (3, (0, l3)), (4, (0, l4)), (5, (0, l5)), (6, (0, l6 + 1))] [] (0, 0) N2 K) ∧ (l4 < (N2 101 (((9 * r2) + l5) + 1)) → ∀ N3, N3 = ow_up N2 101 (((9 * r2) + l5) + 1) l4 → ow_I (l6 + 1) ∧ ow_At C (EM A L N) (d + 1) mX12_lead 28 [(0, (3, 83)), (1, (0, l1)), (2, (0, l2)), (3, (0, l3)), (4, (0, l4)), (5, (0, l5)), (6, (0, l6 + 1))] [] (0, 0) N3 K))) ∧ (r1 = 0 → ow_I (l6 + 1) ∧ ow_At C (EM A L N) (d + 1) mX12_lead 28 [(0, (3, 83)), (1, (0, l1)), (2, (0, l2)), (3, (0, l3)), (4, (0, l4)), (5, (0, l5)), (6, (0, l6 + 1))] [] (0, 0) N1 K)))) : ow_At C (EM A L N) (d + 1) mX12_lead 28 [(0, (3, 83)), (1, (0, l1)), (2, (0, l2)), (3, (0, l3)), (4, (0, l4)), (5, (0, l5)), (6, (0, l6))] [] (0, 0) M K := by
  refine ow_iload (pc' := 30) (x := l6) dX12_lead_28 rfl rfl ?_
  refine ow_aload_n (pc' := 31) (x := 83) dX12_lead_30 rfl rfl ?_
  refine ow_getf3 (pc' := 34) (t := 0) (ji := 2) (val := A) dX12_lead_31 fRX12_74 rfl rfl rfl (of_eq_true eo83) eg83_2 ?_
  refine ow_icmpge (pc' := 37) (tg := 102) dX12_lead_34 rfl rfl (fun hc => ?_) (fun hc => ?_)
  · have h := h.1 hc
    obtain ⟨vv1, h⟩ := h
    refine ow_iinc (pc' := 105) (lv' := [(0, (3, 83)), (1, (0, l1)), (2, (0, l2)), (3, (0, l3)), (4, (0, l4)), (5, (0, l5 + 1)), (6, (0, l6))]) dX12_lead_102 rfl vv1 rfl rfl rfl ?_
    refine ow_goto (tg := 16) dX12_lead_105 rfl ?_
    refine ow_sub (lv' := [(0, (3, 83)), (1, (0, l1)), (2, (0, l2)), (3, (0, l3)), (4, (0, l4)), (5, (0, l5 + 1))]) [0, 1, 2, 3, 4, 5] rfl ?_
    exact h
  · have h := h.2 hc
    refine ow_aload_n (pc' := 38) (x := 83) dX12_lead_37 rfl rfl ?_
    refine ow_iload_n (pc' := 39) (x := l1) dX12_lead_38 rfl rfl ?_
    refine ow_iload_n (pc' := 40) (x := l2) dX12_lead_39 rfl rfl ?_
    refine ow_iload_n (pc' := 41) (x := l3) dX12_lead_40 rfl rfl ?_
    refine ow_iconst (pc' := 42) (n := 1) dX12_lead_41 rfl rfl ?_
    obtain ⟨vv2, h⟩ := h
    refine ow_isub (pc' := 43) dX12_lead_42 vv2 rfl ?_
    refine ow_iload (pc' := 45) (x := l5) dX12_lead_43 rfl rfl ?_
    refine ow_iload (pc' := 47) (x := l6) dX12_lead_45 rfl rfl ?_
    refine ow_callVp (z := mX12_may) (n := 5) (k := 12) (vs := [(0, l1), (0, l2), (0, l3 - 1), (0, l5), (0, l6)]) (x := 83) (st := []) (pc' := 50) (b1 := (0, 0)) (b2 := (0, 0)) dX12_lead_47 lRX12_329 kX12_may iX12_may rfl rfl rfl rfl rfl rfl (of_eq_true eo83) (ow_Sp.mono h (fun r1 N1 h => ?_))
    refine ow_ifne (pc' := 53) (tg := 56) dX12_lead_50 rfl rfl (fun hc => ?_) (fun hc => ?_)
    · have h := h.1 hc
      refine ow_bipush (pc' := 58) (n := 9) dX12_lead_56 rfl rfl ?_
      refine ow_aload_n (pc' := 59) (x := 83) dX12_lead_58 rfl rfl ?_
      refine ow_iload_n (pc' := 60) (x := l2) dX12_lead_59 rfl rfl ?_
      refine ow_iload (pc' := 62) (x := l5) dX12_lead_60 rfl rfl ?_
      refine ow_iload (pc' := 64) (x := l6) dX12_lead_62 rfl rfl ?_
      refine ow_callVp (z := mX12_changed) (n := 3) (k := 12) (vs := [(0, l2), (0, l5), (0, l6)]) (x := 83) (st := [(0, 9)]) (pc' := 67) (b1 := (0, 0)) (b2 := (0, 0)) dX12_lead_64 lRX12_302 kX12_changed iX12_changed rfl rfl rfl rfl rfl rfl (of_eq_true eo83) (ow_Sp.mono h (fun r2 N2 h => ?_))
      obtain ⟨vv3, h⟩ := h
      refine ow_imul (pc' := 68) dX12_lead_67 vv3 rfl ?_
      refine ow_iload (pc' := 70) (x := l5) dX12_lead_68 rfl rfl ?_
      obtain ⟨vv4, h⟩ := h
      refine ow_iadd (pc' := 71) dX12_lead_70 vv4 rfl ?_
      refine ow_iconst (pc' := 72) (n := 1) dX12_lead_71 rfl rfl ?_
      obtain ⟨vv5, h⟩ := h
      refine ow_iadd (pc' := 73) dX12_lead_72 vv5 rfl ?_
      refine ow_istore (pc' := 75) (lv' := [(0, (3, 83)), (1, (0, l1)), (2, (0, l2)), (3, (0, l3)), (4, (0, l4)), (5, (0, l5)), (6, (0, l6)), (7, (0, ((9 * r2) + l5) + 1))]) dX12_lead_73 rfl rfl rfl ?_
      refine ow_iload (pc' := 77) (x := l4) dX12_lead_75 rfl rfl ?_
      refine ow_aload_n (pc' := 78) (x := 83) dX12_lead_77 rfl rfl ?_
      refine ow_getf3 (pc' := 81) (t := 3) (ji := 38) (val := 101) dX12_lead_78 fRX12_71 rfl rfl rfl (of_eq_true eo83) eg83_38 ?_
      refine ow_iload (pc' := 83) (x := ((9 * r2) + l5) + 1) dX12_lead_81 rfl rfl ?_
      obtain ⟨vv6, h⟩ := h
      refine ow_iaload3 (pc' := 84) (val := N2 101 (((9 * r2) + l5) + 1)) dX12_lead_83 rfl (Eq.mpr (er101 _) vv6) (ea101 _) ?_
      refine ow_icmpge (pc' := 87) (tg := 96) dX12_lead_84 rfl rfl (fun hc => ?_) (fun hc => ?_)
      · have h := h.1 hc
        obtain ⟨vv7, h⟩ := h
        refine ow_iinc (pc' := 99) (lv' := [(0, (3, 83)), (1, (0, l1)), (2, (0, l2)), (3, (0, l3)), (4, (0, l4)), (5, (0, l5)), (6, (0, l6 + 1)), (7, (0, ((9 * r2) + l5) + 1))]) dX12_lead_96 rfl vv7 rfl rfl rfl ?_
        refine ow_goto (tg := 28) dX12_lead_99 rfl ?_
        refine ow_sub (lv' := [(0, (3, 83)), (1, (0, l1)), (2, (0, l2)), (3, (0, l3)), (4, (0, l4)), (5, (0, l5)), (6, (0, l6 + 1))]) [0, 1, 2, 3, 4, 5, 6] rfl ?_
        exact h
      · have h := h.2 hc
        refine ow_aload_n (pc' := 88) (x := 83) dX12_lead_87 rfl rfl ?_
        refine ow_getf3 (pc' := 91) (t := 3) (ji := 38) (val := 101) dX12_lead_88 fRX12_71 rfl rfl rfl (of_eq_true eo83) eg83_38 ?_
        refine ow_iload (pc' := 93) (x := ((9 * r2) + l5) + 1) dX12_lead_91 rfl rfl ?_
        refine ow_iload (pc' := 95) (x := l4) dX12_lead_93 rfl rfl ?_
        refine ow_iastore2 (pc' := 96) dX12_lead_95 rfl (Eq.mpr (er101 _) vv6) (of_eq_true (en101 _)) (fun N3 eN3 => ?_)
        have h := h N3 eN3
        obtain ⟨vv8, h⟩ := h
        refine ow_iinc (pc' := 99) (lv' := [(0, (3, 83)), (1, (0, l1)), (2, (0, l2)), (3, (0, l3)), (4, (0, l4)), (5, (0, l5)), (6, (0, l6 + 1)), (7, (0, ((9 * r2) + l5) + 1))]) dX12_lead_96 rfl vv8 rfl rfl rfl ?_
        refine ow_goto (tg := 28) dX12_lead_99 rfl ?_
        refine ow_sub (lv' := [(0, (3, 83)), (1, (0, l1)), (2, (0, l2)), (3, (0, l3)), (4, (0, l4)), (5, (0, l5)), (6, (0, l6 + 1))]) [0, 1, 2, 3, 4, 5, 6] rfl ?_
        exact h
    · have h := h.2 hc
      refine ow_goto (tg := 96) dX12_lead_53 rfl ?_
      obtain ⟨vv9, h⟩ := h
      refine ow_iinc (pc' := 99) (lv' := [(0, (3, 83)), (1, (0, l1)), (2, (0, l2)), (3, (0, l3)), (4, (0, l4)), (5, (0, l5)), (6, (0, l6 + 1))]) dX12_lead_96 rfl vv9 rfl rfl rfl ?_
      refine ow_goto (tg := 28) dX12_lead_99 rfl ?_
      exact h
theorem fX12_lead {C : ow_C} {A L N : Int} {d : Nat} {M : ow_M} {K : Int → ow_M → Prop} {l1 l2 l3 : Int} (h : ow_I (9 * l2) ∧ ow_I ((9 * l2) + l3) ∧ (0 ≤ ((9 * l2) + l3) ∧ ((9 * l2) + l3) < 2304) ∧ ow_At C (EM A L N) (d + 1) mX12_lead 16 [(0, (3, 83)), (1, (0, l1)), (2, (0, l2)), (3, (0, l3)), (4, (0, M 100 ((9 * l2) + l3))), (5, (0, 0))] [] (0, 0) M K) : ow_Sp C (EM A L N) (d + 1) mX12_lead (0, 0) [(3, 83), (0, l1), (0, l2), (0, l3)] M K := ow_enter (by decide +kernel) rfl rfl (cX12_lead_0 h)
set_option maxRecDepth 20000 in
theorem cX12_keep_0 {C : ow_C} {A L N : Int} {d : Nat} {M : ow_M} {K : Int → ow_M → Prop} {l1 : Int} (h : ow_At C (EM A L N) d mX12_keep 2 [(0, (3, 83)), (1, (0, l1)), (2, (0, 0))] [] (0, 0) M K) : ow_At C (EM A L N) d mX12_keep 0 [(0, (3, 83)), (1, (0, l1))] [] (0, 0) M K := by
  refine ow_iconst (pc' := 1) (n := 0) dX12_keep_0 rfl rfl ?_
  refine ow_istore_n (pc' := 2) (lv' := [(0, (3, 83)), (1, (0, l1)), (2, (0, 0))]) dX12_keep_1 rfl rfl rfl ?_
  exact h
set_option maxRecDepth 20000 in
theorem cX12_keep_2 {C : ow_C} {A L N : Int} {d : Nat} {M : ow_M} {K : Int → ow_M → Prop} {l1 l2 : Int} (h : (2304 ≤ l2 → K 0 M) ∧ (l2 < 2304 → (9 : Int) ≠ 0 ∧ ow_I (Int.tdiv l2 9) ∧ (N ≤ (Int.tdiv l2 9) → ow_At C (EM A L N) d mX12_keep 32 [(0, (3, 83)), (1, (0, l1)), (2, (0, l2))] [] (0, 0) M K) ∧ ((Int.tdiv l2 9) < N → (l1 < 0 → ow_I (l2 + 1) ∧ ow_At C (EM A L N) d mX12_keep 2 [(0, (3, 83)), (1, (0, l1)), (2, (0, l2 + 1))] [] (0, 0) M K) ∧ (0 ≤ l1 → (9 : Int) ≠ 0 ∧ ow_I (Int.tdiv l2 9) ∧ ((Int.tdiv l2 9) = l1 → ow_I (l2 + 1) ∧ ow_At C (EM A L N) d mX12_keep 2 [(0, (3, 83)), (1, (0, l1)), (2, (0, l2 + 1))] [] (0, 0) M K) ∧ ((Int.tdiv l2 9) ≠ l1 → ow_At C (EM A L N) d mX12_keep 32 [(0, (3, 83)), (1, (0, l1)), (2, (0, l2))] [] (0, 0) M K))))) : ow_At C (EM A L N) d mX12_keep 2 [(0, (3, 83)), (1, (0, l1)), (2, (0, l2))] [] (0, 0) M K := by
  refine ow_iload_n (pc' := 3) (x := l2) dX12_keep_2 rfl rfl ?_
  refine ow_sipush (pc' := 6) (n := 2304) dX12_keep_3 rfl rfl ?_
  refine ow_icmpge (pc' := 9) (tg := 47) dX12_keep_6 rfl rfl (fun hc => ?_) (fun hc => ?_)
  · have h := h.1 hc
    exact ow_vret dX12_keep_47 rfl rfl h
  · have h := h.2 hc
    refine ow_iload_n (pc' := 10) (x := l2) dX12_keep_9 rfl rfl ?_
    refine ow_bipush (pc' := 12) (n := 9) dX12_keep_10 rfl rfl ?_
    obtain ⟨w0, w, h⟩ := h
    refine ow_idiv (pc' := 13) dX12_keep_12 w0 w rfl ?_
    refine ow_aload_n (pc' := 14) (x := 83) dX12_keep_13 rfl rfl ?_
    refine ow_getf3 (pc' := 17) (t := 0) (ji := 4) (val := N) dX12_keep_14 fRX12_84 rfl rfl rfl (of_eq_true eo83) eg83_4 ?_
    refine ow_icmpge (pc' := 20) (tg := 32) dX12_keep_17 rfl rfl (fun hc => ?_) (fun hc => ?_)
    · have h := h.1 hc
      exact h
    · have h := h.2 hc
      refine ow_iload_n (pc' := 21) (x := l1) dX12_keep_20 rfl rfl ?_
      refine ow_iflt (pc' := 24) (tg := 41) dX12_keep_21 rfl rfl (fun hc => ?_) (fun hc => ?_)
      · have h := h.1 hc
        obtain ⟨vv1, h⟩ := h
        refine ow_iinc (pc' := 44) (lv' := [(0, (3, 83)), (1, (0, l1)), (2, (0, l2 + 1))]) dX12_keep_41 rfl vv1 rfl rfl rfl ?_
        refine ow_goto (tg := 2) dX12_keep_44 rfl ?_
        exact h
      · have h := h.2 hc
        refine ow_iload_n (pc' := 25) (x := l2) dX12_keep_24 rfl rfl ?_
        refine ow_bipush (pc' := 27) (n := 9) dX12_keep_25 rfl rfl ?_
        obtain ⟨w0, w, h⟩ := h
        refine ow_idiv (pc' := 28) dX12_keep_27 w0 w rfl ?_
        refine ow_iload_n (pc' := 29) (x := l1) dX12_keep_28 rfl rfl ?_
        refine ow_icmpeq (pc' := 32) (tg := 41) dX12_keep_29 rfl rfl (fun hc => ?_) (fun hc => ?_)
        · have h := h.1 hc
          obtain ⟨vv2, h⟩ := h
          refine ow_iinc (pc' := 44) (lv' := [(0, (3, 83)), (1, (0, l1)), (2, (0, l2 + 1))]) dX12_keep_41 rfl vv2 rfl rfl rfl ?_
          refine ow_goto (tg := 2) dX12_keep_44 rfl ?_
          exact h
        · have h := h.2 hc
          exact h
set_option maxRecDepth 20000 in
theorem cX12_keep_32 {C : ow_C} {A L N : Int} {d : Nat} {M : ow_M} {K : Int → ow_M → Prop} {l1 l2 : Int} (h : (0 ≤ l2 ∧ l2 < 2304) ∧ ∀ N1, N1 = ow_up M 100 l2 1000000 → ow_I (l2 + 1) ∧ ow_At C (EM A L N) d mX12_keep 2 [(0, (3, 83)), (1, (0, l1)), (2, (0, l2 + 1))] [] (0, 0) N1 K) : ow_At C (EM A L N) d mX12_keep 32 [(0, (3, 83)), (1, (0, l1)), (2, (0, l2))] [] (0, 0) M K := by
  refine ow_aload_n (pc' := 33) (x := 83) dX12_keep_32 rfl rfl ?_
  refine ow_getf3 (pc' := 36) (t := 3) (ji := 37) (val := 100) dX12_keep_33 fRX12_68 rfl rfl rfl (of_eq_true eo83) eg83_37 ?_
  refine ow_iload_n (pc' := 37) (x := l2) dX12_keep_36 rfl rfl ?_
  refine ow_ldcw (pc' := 40) (n := 1000000) dX12_keep_37 cRX12_371 rfl rfl ?_
  obtain ⟨vv1, h⟩ := h
  refine ow_iastore2 (pc' := 41) dX12_keep_40 rfl (Eq.mpr (er100 _) vv1) (of_eq_true (en100 _)) (fun N1 eN1 => ?_)
  have h := h N1 eN1
  obtain ⟨vv2, h⟩ := h
  refine ow_iinc (pc' := 44) (lv' := [(0, (3, 83)), (1, (0, l1)), (2, (0, l2 + 1))]) dX12_keep_41 rfl vv2 rfl rfl rfl ?_
  refine ow_goto (tg := 2) dX12_keep_44 rfl ?_
  exact h
theorem fX12_keep {C : ow_C} {A L N : Int} {d : Nat} {M : ow_M} {K : Int → ow_M → Prop} {l1 : Int} (h : ow_At C (EM A L N) d mX12_keep 2 [(0, (3, 83)), (1, (0, l1)), (2, (0, 0))] [] (0, 0) M K) : ow_Sp C (EM A L N) d mX12_keep (0, 0) [(3, 83), (0, l1)] M K := ow_enter (by decide +kernel) rfl rfl (cX12_keep_0 h)
set_option maxRecDepth 20000 in
theorem cX12_least_0 {C : ow_C} {A L N : Int} {d : Nat} {M : ow_M} {K : Int → ow_M → Prop} (h : ow_At C (EM A L N) d mX12_least 6 [(0, (3, 83)), (1, (0, 1000000)), (2, (0, 0))] [] (0, 0) M K) : ow_At C (EM A L N) d mX12_least 0 [(0, (3, 83))] [] (0, 0) M K := by
  refine ow_ldcw (pc' := 3) (n := 1000000) dX12_least_0 cRX12_371 rfl rfl ?_
  refine ow_istore_n (pc' := 4) (lv' := [(0, (3, 83)), (1, (0, 1000000))]) dX12_least_3 rfl rfl rfl ?_
  refine ow_iconst (pc' := 5) (n := 0) dX12_least_4 rfl rfl ?_
  refine ow_istore_n (pc' := 6) (lv' := [(0, (3, 83)), (1, (0, 1000000)), (2, (0, 0))]) dX12_least_5 rfl rfl rfl ?_
  exact h
set_option maxRecDepth 20000 in
theorem cX12_least_6 {C : ow_C} {A L N : Int} {d : Nat} {M : ow_M} {K : Int → ow_M → Prop} {l1 l2 : Int} (h : (2304 ≤ l2 → K l1 M) ∧ (l2 < 2304 → (0 ≤ l2 ∧ l2 < 2304) ∧ (l1 ≤ (M 100 l2) → ow_I (l2 + 1) ∧ ow_At C (EM A L N) d mX12_least 6 [(0, (3, 83)), (1, (0, l1)), (2, (0, l2 + 1))] [] (0, 0) M K) ∧ ((M 100 l2) < l1 → ow_I (l2 + 1) ∧ ow_At C (EM A L N) d mX12_least 6 [(0, (3, 83)), (1, (0, M 100 l2)), (2, (0, l2 + 1))] [] (0, 0) M K))) : ow_At C (EM A L N) d mX12_least 6 [(0, (3, 83)), (1, (0, l1)), (2, (0, l2))] [] (0, 0) M K := by
  refine ow_iload_n (pc' := 7) (x := l2) dX12_least_6 rfl rfl ?_
  refine ow_sipush (pc' := 10) (n := 2304) dX12_least_7 rfl rfl ?_
  refine ow_icmpge (pc' := 13) (tg := 36) dX12_least_10 rfl rfl (fun hc => ?_) (fun hc => ?_)
  · have h := h.1 hc
    refine ow_iload_n (pc' := 37) (x := l1) dX12_least_36 rfl rfl ?_
    exact ow_iret dX12_least_37 rfl rfl h
  · have h := h.2 hc
    refine ow_aload_n (pc' := 14) (x := 83) dX12_least_13 rfl rfl ?_
    refine ow_getf3 (pc' := 17) (t := 3) (ji := 37) (val := 100) dX12_least_14 fRX12_68 rfl rfl rfl (of_eq_true eo83) eg83_37 ?_
    refine ow_iload_n (pc' := 18) (x := l2) dX12_least_17 rfl rfl ?_
    obtain ⟨vv1, h⟩ := h
    refine ow_iaload3 (pc' := 19) (val := M 100 l2) dX12_least_18 rfl (Eq.mpr (er100 _) vv1) (ea100 _) ?_
    refine ow_iload_n (pc' := 20) (x := l1) dX12_least_19 rfl rfl ?_
    refine ow_icmpge (pc' := 23) (tg := 30) dX12_least_20 rfl rfl (fun hc => ?_) (fun hc => ?_)
    · have h := h.1 hc
      obtain ⟨vv2, h⟩ := h
      refine ow_iinc (pc' := 33) (lv' := [(0, (3, 83)), (1, (0, l1)), (2, (0, l2 + 1))]) dX12_least_30 rfl vv2 rfl rfl rfl ?_
      refine ow_goto (tg := 6) dX12_least_33 rfl ?_
      exact h
    · have h := h.2 hc
      refine ow_aload_n (pc' := 24) (x := 83) dX12_least_23 rfl rfl ?_
      refine ow_getf3 (pc' := 27) (t := 3) (ji := 37) (val := 100) dX12_least_24 fRX12_68 rfl rfl rfl (of_eq_true eo83) eg83_37 ?_
      refine ow_iload_n (pc' := 28) (x := l2) dX12_least_27 rfl rfl ?_
      refine ow_iaload3 (pc' := 29) (val := M 100 l2) dX12_least_28 rfl (Eq.mpr (er100 _) vv1) (ea100 _) ?_
      refine ow_istore_n (pc' := 30) (lv' := [(0, (3, 83)), (1, (0, M 100 l2)), (2, (0, l2))]) dX12_least_29 rfl rfl rfl ?_
      obtain ⟨vv3, h⟩ := h
      refine ow_iinc (pc' := 33) (lv' := [(0, (3, 83)), (1, (0, M 100 l2)), (2, (0, l2 + 1))]) dX12_least_30 rfl vv3 rfl rfl rfl ?_
      refine ow_goto (tg := 6) dX12_least_33 rfl ?_
      exact h
theorem fX12_least {C : ow_C} {A L N : Int} {d : Nat} {M : ow_M} {K : Int → ow_M → Prop} (h : ow_At C (EM A L N) d mX12_least 6 [(0, (3, 83)), (1, (0, 1000000)), (2, (0, 0))] [] (0, 0) M K) : ow_Sp C (EM A L N) d mX12_least (0, 0) [(3, 83)] M K := ow_enter (by decide +kernel) rfl rfl (cX12_least_0 h)
set_option maxRecDepth 20000 in
theorem cX12_broke_0 {C : ow_C} {A L N : Int} {d : Nat} {M : ow_M} {K : Int → ow_M → Prop} {l1 l2 : Int} (h : ow_Sp C (EM A L N) d mX12_isIn (0, 0) [(0, l1), (0, 0), (0, 99)] M (fun r1 N1 => (r1 = 0 → K ((-1)) N1) ∧ (r1 ≠ 0 → ow_Sp C (EM A L N) d mX12_isIn (0, 0) [(0, l2), (0, 0), (0, 1)] N1 (fun r2 N2 => (r2 ≠ 0 → ow_Sp C (EM A L N) d mX12_rule (0, 0) [(3, 83)] N2 (fun r3 N3 => ow_At C (EM A L N) (d + 1) mX12_broke 27 [(0, (3, 83)), (1, (0, l1)), (2, (0, l2)), (3, (0, 0))] [] (0, 0) N3 K)) ∧ (r2 = 0 → K ((-1)) N2))))) : ow_At C (EM A L N) (d + 1) mX12_broke 0 [(0, (3, 83)), (1, (0, l1)), (2, (0, l2))] [] (0, 0) M K := by
  refine ow_iload_n (pc' := 1) (x := l1) dX12_broke_0 rfl rfl ?_
  refine ow_iconst (pc' := 2) (n := 0) dX12_broke_1 rfl rfl ?_
  refine ow_bipush (pc' := 4) (n := 99) dX12_broke_2 rfl rfl ?_
  refine ow_callSp (z := mX12_isIn) (n := 3) (vs := [(0, l1), (0, 0), (0, 99)]) (st := []) (pc' := 7) (b1 := (0, 0)) (b2 := (0, 0)) dX12_broke_4 lRX12_91 kX12_isIn zX12_isIn rfl rfl rfl rfl rfl rfl (ow_Sp.mono h (fun r1 N1 h => ?_))
  refine ow_ifeq (pc' := 10) (tg := 19) dX12_broke_7 rfl rfl (fun hc => ?_) (fun hc => ?_)
  · have h := h.1 hc
    refine ow_iconst (pc' := 20) (n := (-1)) dX12_broke_19 rfl rfl ?_
    exact ow_iret dX12_broke_20 rfl rfl h
  · have h := h.2 hc
    refine ow_iload_n (pc' := 11) (x := l2) dX12_broke_10 rfl rfl ?_
    refine ow_iconst (pc' := 12) (n := 0) dX12_broke_11 rfl rfl ?_
    refine ow_iconst (pc' := 13) (n := 1) dX12_broke_12 rfl rfl ?_
    refine ow_callSp (z := mX12_isIn) (n := 3) (vs := [(0, l2), (0, 0), (0, 1)]) (st := []) (pc' := 16) (b1 := (0, 0)) (b2 := (0, 0)) dX12_broke_13 lRX12_91 kX12_isIn zX12_isIn rfl rfl rfl rfl rfl rfl (ow_Sp.mono h (fun r2 N2 h => ?_))
    refine ow_ifne (pc' := 19) (tg := 21) dX12_broke_16 rfl rfl (fun hc => ?_) (fun hc => ?_)
    · have h := h.1 hc
      refine ow_aload_n (pc' := 22) (x := 83) dX12_broke_21 rfl rfl ?_
      refine ow_callVv (z := mX12_rule) (n := 0) (k := 12) (vs := []) (x := 83) (st := []) (pc' := 25) (b1 := (0, 0)) (b2 := (0, 0)) dX12_broke_22 lRX12_321 kX12_rule iX12_rule rfl rfl rfl rfl rfl rfl (of_eq_true eo83) (ow_Sp.mono h (fun r3 N3 h => ?_))
      refine ow_iconst (pc' := 26) (n := 0) dX12_broke_25 rfl rfl ?_
      refine ow_istore_n (pc' := 27) (lv' := [(0, (3, 83)), (1, (0, l1)), (2, (0, l2)), (3, (0, 0))]) dX12_broke_26 rfl rfl rfl ?_
      exact h
    · have h := h.2 hc
      refine ow_iconst (pc' := 20) (n := (-1)) dX12_broke_19 rfl rfl ?_
      exact ow_iret dX12_broke_20 rfl rfl h
set_option maxRecDepth 20000 in
theorem cX12_broke_27 {C : ow_C} {A L N : Int} {d : Nat} {M : ow_M} {K : Int → ow_M → Prop} {l1 l2 l3 : Int} (h : (2304 ≤ l3 → ow_Sp C (EM A L N) d mX12_asOf (0, 0) [(3, 83), (0, 0), (0, l1)] M (fun r1 N1 => ow_Sp C (EM A L N) d mX12_keep (0, 0) [(3, 83), (0, r1)] N1 (fun r2 N2 => ow_At C (EM A L N) (d + 1) mX12_broke 72 [(0, (3, 83)), (1, (0, l1)), (2, (0, l2)), (3, (0, 0))] [] (0, 0) N2 K))) ∧ (l3 < 2304 → (9 : Int) ≠ 0 ∧ ow_I (Int.tdiv l3 9) ∧ ow_I (Int.tmod l3 9) ∧ ((Int.tmod l3 9) ≠ 0 → (0 ≤ l3 ∧ l3 < 2304) ∧ ∀ N3, N3 = ow_up M 100 l3 1000000 → ow_I (l3 + 1) ∧ ow_At C (EM A L N) (d + 1) mX12_broke 27 [(0, (3, 83)), (1, (0, l1)), (2, (0, l2)), (3, (0, l3 + 1))] [] (0, 0) N3 K) ∧ ((Int.tmod l3 9) = 0 → (0 ≤ l3 ∧ l3 < 2304) ∧ ∀ N4, N4 = ow_up M 100 l3 0 → ow_I (l3 + 1) ∧ ow_At C (EM A L N) (d + 1) mX12_broke 27 [(0, (3, 83)), (1, (0, l1)), (2, (0, l2)), (3, (0, l3 + 1))] [] (0, 0) N4 K))) : ow_At C (EM A L N) (d + 1) mX12_broke 27 [(0, (3, 83)), (1, (0, l1)), (2, (0, l2)), (3, (0, l3))] [] (0, 0) M K := by
  refine ow_iload_n (pc' := 28) (x := l3) dX12_broke_27 rfl rfl ?_
  refine ow_sipush (pc' := 31) (n := 2304) dX12_broke_28 rfl rfl ?_
  refine ow_icmpge (pc' := 34) (tg := 60) dX12_broke_31 rfl rfl (fun hc => ?_) (fun hc => ?_)
  · have h := h.1 hc
    refine ow_aload_n (pc' := 61) (x := 83) dX12_broke_60 rfl rfl ?_
    refine ow_aload_n (pc' := 62) (x := 83) dX12_broke_61 rfl rfl ?_
    refine ow_iconst (pc' := 63) (n := 0) dX12_broke_62 rfl rfl ?_
    refine ow_iload_n (pc' := 64) (x := l1) dX12_broke_63 rfl rfl ?_
    refine ow_callVp (z := mX12_asOf) (n := 2) (k := 12) (vs := [(0, 0), (0, l1)]) (x := 83) (st := [(3, 83)]) (pc' := 67) (b1 := (0, 0)) (b2 := (0, 0)) dX12_broke_64 lRX12_372 kX12_asOf iX12_asOf rfl rfl rfl rfl rfl rfl (of_eq_true eo83) (ow_Sp.mono h (fun r1 N1 h => ?_))
    refine ow_callVv (z := mX12_keep) (n := 1) (k := 12) (vs := [(0, r1)]) (x := 83) (st := []) (pc' := 70) (b1 := (0, 0)) (b2 := (0, 0)) dX12_broke_67 lRX12_375 kX12_keep iX12_keep rfl rfl rfl rfl rfl rfl (of_eq_true eo83) (ow_Sp.mono h (fun r2 N2 h => ?_))
    refine ow_iconst (pc' := 71) (n := 0) dX12_broke_70 rfl rfl ?_
    refine ow_istore_n (pc' := 72) (lv' := [(0, (3, 83)), (1, (0, l1)), (2, (0, l2)), (3, (0, 0))]) dX12_broke_71 rfl rfl rfl ?_
    exact h
  · have h := h.2 hc
    refine ow_aload_n (pc' := 35) (x := 83) dX12_broke_34 rfl rfl ?_
    refine ow_getf3 (pc' := 38) (t := 3) (ji := 37) (val := 100) dX12_broke_35 fRX12_68 rfl rfl rfl (of_eq_true eo83) eg83_37 ?_
    refine ow_iload_n (pc' := 39) (x := l3) dX12_broke_38 rfl rfl ?_
    refine ow_iload_n (pc' := 40) (x := l3) dX12_broke_39 rfl rfl ?_
    refine ow_bipush (pc' := 42) (n := 9) dX12_broke_40 rfl rfl ?_
    obtain ⟨w0, w, w1, h⟩ := h
    refine ow_irem (pc' := 43) dX12_broke_42 w0 w w1 rfl ?_
    refine ow_ifne (pc' := 46) (tg := 50) dX12_broke_43 rfl rfl (fun hc => ?_) (fun hc => ?_)
    · have h := h.1 hc
      refine ow_ldcw (pc' := 53) (n := 1000000) dX12_broke_50 cRX12_371 rfl rfl ?_
      obtain ⟨vv1, h⟩ := h
      refine ow_iastore2 (pc' := 54) dX12_broke_53 rfl (Eq.mpr (er100 _) vv1) (of_eq_true (en100 _)) (fun N3 eN3 => ?_)
      have h := h N3 eN3
      obtain ⟨vv2, h⟩ := h
      refine ow_iinc (pc' := 57) (lv' := [(0, (3, 83)), (1, (0, l1)), (2, (0, l2)), (3, (0, l3 + 1))]) dX12_broke_54 rfl vv2 rfl rfl rfl ?_
      refine ow_goto (tg := 27) dX12_broke_57 rfl ?_
      exact h
    · have h := h.2 hc
      refine ow_iconst (pc' := 47) (n := 0) dX12_broke_46 rfl rfl ?_
      refine ow_goto (tg := 53) dX12_broke_47 rfl ?_
      obtain ⟨vv3, h⟩ := h
      refine ow_iastore2 (pc' := 54) dX12_broke_53 rfl (Eq.mpr (er100 _) vv3) (of_eq_true (en100 _)) (fun N4 eN4 => ?_)
      have h := h N4 eN4
      obtain ⟨vv4, h⟩ := h
      refine ow_iinc (pc' := 57) (lv' := [(0, (3, 83)), (1, (0, l1)), (2, (0, l2)), (3, (0, l3 + 1))]) dX12_broke_54 rfl vv4 rfl rfl rfl ?_
      refine ow_goto (tg := 27) dX12_broke_57 rfl ?_
      exact h
set_option maxRecDepth 20000 in
theorem cX12_broke_72 {C : ow_C} {A L N : Int} {d : Nat} {M : ow_M} {K : Int → ow_M → Prop} {l1 l2 l3 : Int} (h : ((M 84 3) ≤ l3 → (l2 ≠ 0 → ow_Sp C (EM A L N) d mX12_least (0, 0) [(3, 83)] M (fun r1 N1 => (1024 : Int) ≠ 0 ∧ ow_I (Int.tdiv r1 1024) ∧ ow_I (Int.tmod r1 1024) ∧ K (Int.tmod r1 1024) N1)) ∧ (l2 = 0 → ow_Sp C (EM A L N) d mX12_least (0, 0) [(3, 83)] M (fun r2 N2 => (1024 : Int) ≠ 0 ∧ ow_I (Int.tdiv r2 1024) ∧ K (Int.tdiv r2 1024) N2))) ∧ (l3 < (M 84 3) → ow_Sp C (EM A L N) d mX12_least (0, 0) [(3, 83)] M (fun r3 N3 => ow_I (r3 + 1024) ∧ ow_I ((r3 + 1024) + (ow_shl 1 l3)) ∧ ow_At C (EM A L N) (d + 1) mX12_broke 99 [(0, (3, 83)), (1, (0, l1)), (2, (0, l2)), (3, (0, l3)), (4, (0, (r3 + 1024) + (ow_shl 1 l3))), (5, (0, 0))] [] (0, 0) N3 K))) : ow_At C (EM A L N) (d + 1) mX12_broke 72 [(0, (3, 83)), (1, (0, l1)), (2, (0, l2)), (3, (0, l3))] [] (0, 0) M K := by
  refine ow_iload_n (pc' := 73) (x := l3) dX12_broke_72 rfl rfl ?_
  refine ow_aload_n (pc' := 74) (x := 83) dX12_broke_73 rfl rfl ?_
  refine ow_getf3 (pc' := 77) (t := 3) (ji := 0) (val := 84) dX12_broke_74 fRX12_7 rfl rfl rfl (of_eq_true eo83) eg83_0 ?_
  refine ow_iconst (pc' := 78) (n := 3) dX12_broke_77 rfl rfl ?_
  refine ow_iaload3 (pc' := 79) (val := M 84 3) dX12_broke_78 rfl (Eq.mpr (er84 _) ⟨by decide, by decide⟩) (ea84 _) ?_
  refine ow_icmpge (pc' := 82) (tg := 249) dX12_broke_79 rfl rfl (fun hc => ?_) (fun hc => ?_)
  · have h := h.1 hc
    refine ow_iload_n (pc' := 250) (x := l2) dX12_broke_249 rfl rfl ?_
    refine ow_ifne (pc' := 253) (tg := 264) dX12_broke_250 rfl rfl (fun hc => ?_) (fun hc => ?_)
    · have h := h.1 hc
      refine ow_aload_n (pc' := 265) (x := 83) dX12_broke_264 rfl rfl ?_
      refine ow_callVp (z := mX12_least) (n := 0) (k := 12) (vs := []) (x := 83) (st := []) (pc' := 268) (b1 := (0, 0)) (b2 := (0, 0)) dX12_broke_265 lRX12_378 kX12_least iX12_least rfl rfl rfl rfl rfl rfl (of_eq_true eo83) (ow_Sp.mono h (fun r1 N1 h => ?_))
      refine ow_sipush (pc' := 271) (n := 1024) dX12_broke_268 rfl rfl ?_
      obtain ⟨w0, w, w1, h⟩ := h
      refine ow_irem (pc' := 272) dX12_broke_271 w0 w w1 rfl ?_
      exact ow_iret dX12_broke_272 rfl rfl h
    · have h := h.2 hc
      refine ow_aload_n (pc' := 254) (x := 83) dX12_broke_253 rfl rfl ?_
      refine ow_callVp (z := mX12_least) (n := 0) (k := 12) (vs := []) (x := 83) (st := []) (pc' := 257) (b1 := (0, 0)) (b2 := (0, 0)) dX12_broke_254 lRX12_378 kX12_least iX12_least rfl rfl rfl rfl rfl rfl (of_eq_true eo83) (ow_Sp.mono h (fun r2 N2 h => ?_))
      refine ow_sipush (pc' := 260) (n := 1024) dX12_broke_257 rfl rfl ?_
      obtain ⟨w0, w, h⟩ := h
      refine ow_idiv (pc' := 261) dX12_broke_260 w0 w rfl ?_
      refine ow_goto (tg := 272) dX12_broke_261 rfl ?_
      exact ow_iret dX12_broke_272 rfl rfl h
  · have h := h.2 hc
    refine ow_aload_n (pc' := 83) (x := 83) dX12_broke_82 rfl rfl ?_
    refine ow_callVp (z := mX12_least) (n := 0) (k := 12) (vs := []) (x := 83) (st := []) (pc' := 86) (b1 := (0, 0)) (b2 := (0, 0)) dX12_broke_83 lRX12_378 kX12_least iX12_least rfl rfl rfl rfl rfl rfl (of_eq_true eo83) (ow_Sp.mono h (fun r3 N3 h => ?_))
    refine ow_sipush (pc' := 89) (n := 1024) dX12_broke_86 rfl rfl ?_
    obtain ⟨vv1, h⟩ := h
    refine ow_iadd (pc' := 90) dX12_broke_89 vv1 rfl ?_
    refine ow_iconst (pc' := 91) (n := 1) dX12_broke_90 rfl rfl ?_
    refine ow_iload_n (pc' := 92) (x := l3) dX12_broke_91 rfl rfl ?_
    refine ow_ishl (pc' := 93) dX12_broke_92 rfl ?_
    obtain ⟨vv2, h⟩ := h
    refine ow_iadd (pc' := 94) dX12_broke_93 vv2 rfl ?_
    refine ow_istore (pc' := 96) (lv' := [(0, (3, 83)), (1, (0, l1)), (2, (0, l2)), (3, (0, l3)), (4, (0, (r3 + 1024) + (ow_shl 1 l3)))]) dX12_broke_94 rfl rfl rfl ?_
    refine ow_iconst (pc' := 97) (n := 0) dX12_broke_96 rfl rfl ?_
    refine ow_istore (pc' := 99) (lv' := [(0, (3, 83)), (1, (0, l1)), (2, (0, l2)), (3, (0, l3)), (4, (0, (r3 + 1024) + (ow_shl 1 l3))), (5, (0, 0))]) dX12_broke_97 rfl rfl rfl ?_
    exact h
set_option maxRecDepth 20000 in
theorem cX12_broke_99 {C : ow_C} {A L N : Int} {d : Nat} {M : ow_M} {K : Int → ow_M → Prop} {l1 l2 l3 l4 l5 : Int} (h : (2304 ≤ l5 → ow_At C (EM A L N) (d + 1) mX12_broke 139 [(0, (3, 83)), (1, (0, l1)), (2, (0, l2)), (3, (0, l3)), (5, (0, 0))] [] (0, 0) M K) ∧ (l5 < 2304 → (9 : Int) ≠ 0 ∧ ow_I (Int.tdiv l5 9) ∧ ow_I (Int.tmod l5 9) ∧ ((Int.tmod l5 9) ≠ 0 → (0 ≤ l5 ∧ l5 < 2304) ∧ ∀ N1, N1 = ow_up M 101 l5 1000000 → ow_I (l5 + 1) ∧ ow_At C (EM A L N) (d + 1) mX12_broke 99 [(0, (3, 83)), (1, (0, l1)), (2, (0, l2)), (3, (0, l3)), (4, (0, l4)), (5, (0, l5 + 1))] [] (0, 0) N1 K) ∧ ((Int.tmod l5 9) = 0 → (0 ≤ l5 ∧ l5 < 2304) ∧ ∀ N2, N2 = ow_up M 101 l5 l4 → ow_I (l5 + 1) ∧ ow_At C (EM A L N) (d + 1) mX12_broke 99 [(0, (3, 83)), (1, (0, l1)), (2, (0, l2)), (3, (0, l3)), (4, (0, l4)), (5, (0, l5 + 1))] [] (0, 0) N2 K))) : ow_At C (EM A L N) (d + 1) mX12_broke 99 [(0, (3, 83)), (1, (0, l1)), (2, (0, l2)), (3, (0, l3)), (4, (0, l4)), (5, (0, l5))] [] (0, 0) M K := by
  refine ow_iload (pc' := 101) (x := l5) dX12_broke_99 rfl rfl ?_
  refine ow_sipush (pc' := 104) (n := 2304) dX12_broke_101 rfl rfl ?_
  refine ow_icmpge (pc' := 107) (tg := 136) dX12_broke_104 rfl rfl (fun hc => ?_) (fun hc => ?_)
  · have h := h.1 hc
    refine ow_iconst (pc' := 137) (n := 0) dX12_broke_136 rfl rfl ?_
    refine ow_istore (pc' := 139) (lv' := [(0, (3, 83)), (1, (0, l1)), (2, (0, l2)), (3, (0, l3)), (4, (0, l4)), (5, (0, 0))]) dX12_broke_137 rfl rfl rfl ?_
    refine ow_sub (lv' := [(0, (3, 83)), (1, (0, l1)), (2, (0, l2)), (3, (0, l3)), (5, (0, 0))]) [0, 1, 2, 3, 5] rfl ?_
    exact h
  · have h := h.2 hc
    refine ow_aload_n (pc' := 108) (x := 83) dX12_broke_107 rfl rfl ?_
    refine ow_getf3 (pc' := 111) (t := 3) (ji := 38) (val := 101) dX12_broke_108 fRX12_71 rfl rfl rfl (of_eq_true eo83) eg83_38 ?_
    refine ow_iload (pc' := 113) (x := l5) dX12_broke_111 rfl rfl ?_
    refine ow_iload (pc' := 115) (x := l5) dX12_broke_113 rfl rfl ?_
    refine ow_bipush (pc' := 117) (n := 9) dX12_broke_115 rfl rfl ?_
    obtain ⟨w0, w, w1, h⟩ := h
    refine ow_irem (pc' := 118) dX12_broke_117 w0 w w1 rfl ?_
    refine ow_ifne (pc' := 121) (tg := 126) dX12_broke_118 rfl rfl (fun hc => ?_) (fun hc => ?_)
    · have h := h.1 hc
      refine ow_ldcw (pc' := 129) (n := 1000000) dX12_broke_126 cRX12_371 rfl rfl ?_
      obtain ⟨vv1, h⟩ := h
      refine ow_iastore2 (pc' := 130) dX12_broke_129 rfl (Eq.mpr (er101 _) vv1) (of_eq_true (en101 _)) (fun N1 eN1 => ?_)
      have h := h N1 eN1
      obtain ⟨vv2, h⟩ := h
      refine ow_iinc (pc' := 133) (lv' := [(0, (3, 83)), (1, (0, l1)), (2, (0, l2)), (3, (0, l3)), (4, (0, l4)), (5, (0, l5 + 1))]) dX12_broke_130 rfl vv2 rfl rfl rfl ?_
      refine ow_goto (tg := 99) dX12_broke_133 rfl ?_
      exact h
    · have h := h.2 hc
      refine ow_iload (pc' := 123) (x := l4) dX12_broke_121 rfl rfl ?_
      refine ow_goto (tg := 129) dX12_broke_123 rfl ?_
      obtain ⟨vv3, h⟩ := h
      refine ow_iastore2 (pc' := 130) dX12_broke_129 rfl (Eq.mpr (er101 _) vv3) (of_eq_true (en101 _)) (fun N2 eN2 => ?_)
      have h := h N2 eN2
      obtain ⟨vv4, h⟩ := h
      refine ow_iinc (pc' := 133) (lv' := [(0, (3, 83)), (1, (0, l1)), (2, (0, l2)), (3, (0, l3)), (4, (0, l4)), (5, (0, l5 + 1))]) dX12_broke_130 rfl vv4 rfl rfl rfl ?_
      refine ow_goto (tg := 99) dX12_broke_133 rfl ?_
      exact h
set_option maxRecDepth 20000 in
theorem cX12_broke_139 {C : ow_C} {A L N : Int} {d : Nat} {M : ow_M} {K : Int → ow_M → Prop} {l1 l2 l3 l5 : Int} (h : (N ≤ l5 → ow_At C (EM A L N) (d + 1) mX12_broke 203 [(0, (3, 83)), (1, (0, l1)), (2, (0, l2)), (3, (0, l3)), (5, (0, 0))] [] (0, 0) M K) ∧ (l5 < N → ow_At C (EM A L N) (d + 1) mX12_broke 151 [(0, (3, 83)), (1, (0, l1)), (2, (0, l2)), (3, (0, l3)), (5, (0, l5)), (6, (0, 0))] [] (0, 0) M K)) : ow_At C (EM A L N) (d + 1) mX12_broke 139 [(0, (3, 83)), (1, (0, l1)), (2, (0, l2)), (3, (0, l3)), (5, (0, l5))] [] (0, 0) M K := by
  refine ow_iload (pc' := 141) (x := l5) dX12_broke_139 rfl rfl ?_
  refine ow_aload_n (pc' := 142) (x := 83) dX12_broke_141 rfl rfl ?_
  refine ow_getf3 (pc' := 145) (t := 0) (ji := 4) (val := N) dX12_broke_142 fRX12_84 rfl rfl rfl (of_eq_true eo83) eg83_4 ?_
  refine ow_icmpge (pc' := 148) (tg := 200) dX12_broke_145 rfl rfl (fun hc => ?_) (fun hc => ?_)
  · have h := h.1 hc
    refine ow_iconst (pc' := 201) (n := 0) dX12_broke_200 rfl rfl ?_
    refine ow_istore (pc' := 203) (lv' := [(0, (3, 83)), (1, (0, l1)), (2, (0, l2)), (3, (0, l3)), (5, (0, 0))]) dX12_broke_201 rfl rfl rfl ?_
    exact h
  · have h := h.2 hc
    refine ow_iconst (pc' := 149) (n := 0) dX12_broke_148 rfl rfl ?_
    refine ow_istore (pc' := 151) (lv' := [(0, (3, 83)), (1, (0, l1)), (2, (0, l2)), (3, (0, l3)), (5, (0, l5)), (6, (0, 0))]) dX12_broke_149 rfl rfl rfl ?_
    exact h
set_option maxRecDepth 20000 in
theorem cX12_broke_203 {C : ow_C} {A L N : Int} {d : Nat} {M : ow_M} {K : Int → ow_M → Prop} {l1 l2 l3 l5 : Int} (h : (2304 ≤ l5 → ow_I (l3 + 1) ∧ ow_Sp C (EM A L N) d mX12_asOf (0, 0) [(3, 83), (0, l3 + 1), (0, l1)] M (fun r1 N1 => ow_Sp C (EM A L N) d mX12_keep (0, 0) [(3, 83), (0, r1)] N1 (fun r2 N2 => ow_At C (EM A L N) (d + 1) mX12_broke 72 [(0, (3, 83)), (1, (0, l1)), (2, (0, l2)), (3, (0, l3 + 1))] [] (0, 0) N2 K))) ∧ (l5 < 2304 → (0 ≤ l5 ∧ l5 < 2304) ∧ ∀ N3, N3 = ow_up M 100 l5 (M 101 l5) → ow_I (l5 + 1) ∧ ow_At C (EM A L N) (d + 1) mX12_broke 203 [(0, (3, 83)), (1, (0, l1)), (2, (0, l2)), (3, (0, l3)), (5, (0, l5 + 1))] [] (0, 0) N3 K)) : ow_At C (EM A L N) (d + 1) mX12_broke 203 [(0, (3, 83)), (1, (0, l1)), (2, (0, l2)), (3, (0, l3)), (5, (0, l5))] [] (0, 0) M K := by
  refine ow_iload (pc' := 205) (x := l5) dX12_broke_203 rfl rfl ?_
  refine ow_sipush (pc' := 208) (n := 2304) dX12_broke_205 rfl rfl ?_
  refine ow_icmpge (pc' := 211) (tg := 231) dX12_broke_208 rfl rfl (fun hc => ?_) (fun hc => ?_)
  · have h := h.1 hc
    refine ow_aload_n (pc' := 232) (x := 83) dX12_broke_231 rfl rfl ?_
    refine ow_aload_n (pc' := 233) (x := 83) dX12_broke_232 rfl rfl ?_
    refine ow_iload_n (pc' := 234) (x := l3) dX12_broke_233 rfl rfl ?_
    refine ow_iconst (pc' := 235) (n := 1) dX12_broke_234 rfl rfl ?_
    obtain ⟨vv1, h⟩ := h
    refine ow_iadd (pc' := 236) dX12_broke_235 vv1 rfl ?_
    refine ow_iload_n (pc' := 237) (x := l1) dX12_broke_236 rfl rfl ?_
    refine ow_callVp (z := mX12_asOf) (n := 2) (k := 12) (vs := [(0, l3 + 1), (0, l1)]) (x := 83) (st := [(3, 83)]) (pc' := 240) (b1 := (0, 0)) (b2 := (0, 0)) dX12_broke_237 lRX12_372 kX12_asOf iX12_asOf rfl rfl rfl rfl rfl rfl (of_eq_true eo83) (ow_Sp.mono h (fun r1 N1 h => ?_))
    refine ow_callVv (z := mX12_keep) (n := 1) (k := 12) (vs := [(0, r1)]) (x := 83) (st := []) (pc' := 243) (b1 := (0, 0)) (b2 := (0, 0)) dX12_broke_240 lRX12_375 kX12_keep iX12_keep rfl rfl rfl rfl rfl rfl (of_eq_true eo83) (ow_Sp.mono h (fun r2 N2 h => ?_))
    refine ow_iinc (pc' := 246) (lv' := [(0, (3, 83)), (1, (0, l1)), (2, (0, l2)), (3, (0, l3 + 1)), (5, (0, l5))]) dX12_broke_243 rfl vv1 rfl rfl rfl ?_
    refine ow_goto (tg := 72) dX12_broke_246 rfl ?_
    refine ow_sub (lv' := [(0, (3, 83)), (1, (0, l1)), (2, (0, l2)), (3, (0, l3 + 1))]) [0, 1, 2, 3] rfl ?_
    exact h
  · have h := h.2 hc
    refine ow_aload_n (pc' := 212) (x := 83) dX12_broke_211 rfl rfl ?_
    refine ow_getf3 (pc' := 215) (t := 3) (ji := 37) (val := 100) dX12_broke_212 fRX12_68 rfl rfl rfl (of_eq_true eo83) eg83_37 ?_
    refine ow_iload (pc' := 217) (x := l5) dX12_broke_215 rfl rfl ?_
    refine ow_aload_n (pc' := 218) (x := 83) dX12_broke_217 rfl rfl ?_
    refine ow_getf3 (pc' := 221) (t := 3) (ji := 38) (val := 101) dX12_broke_218 fRX12_71 rfl rfl rfl (of_eq_true eo83) eg83_38 ?_
    refine ow_iload (pc' := 223) (x := l5) dX12_broke_221 rfl rfl ?_
    obtain ⟨vv2, h⟩ := h
    refine ow_iaload3 (pc' := 224) (val := M 101 l5) dX12_broke_223 rfl (Eq.mpr (er101 _) vv2) (ea101 _) ?_
    refine ow_iastore2 (pc' := 225) dX12_broke_224 rfl (Eq.mpr (er100 _) vv2) (of_eq_true (en100 _)) (fun N3 eN3 => ?_)
    have h := h N3 eN3
    obtain ⟨vv3, h⟩ := h
    refine ow_iinc (pc' := 228) (lv' := [(0, (3, 83)), (1, (0, l1)), (2, (0, l2)), (3, (0, l3)), (5, (0, l5 + 1))]) dX12_broke_225 rfl vv3 rfl rfl rfl ?_
    refine ow_goto (tg := 203) dX12_broke_228 rfl ?_
    exact h
set_option maxRecDepth 20000 in
theorem cX12_broke_151 {C : ow_C} {A L N : Int} {d : Nat} {M : ow_M} {K : Int → ow_M → Prop} {l1 l2 l3 l5 l6 : Int} (h : (L < l6 → ow_I (l5 + 1) ∧ ow_At C (EM A L N) (d + 1) mX12_broke 139 [(0, (3, 83)), (1, (0, l1)), (2, (0, l2)), (3, (0, l3)), (5, (0, l5 + 1))] [] (0, 0) M K) ∧ (l6 ≤ L → ow_I (9 * l5) ∧ ow_I ((9 * l5) + l6) ∧ (0 ≤ ((9 * l5) + l6) ∧ ((9 * l5) + l6) < 2304) ∧ (1000000 ≤ (M 100 ((9 * l5) + l6)) → ow_I (l6 + 1) ∧ ow_At C (EM A L N) (d + 1) mX12_broke 151 [(0, (3, 83)), (1, (0, l1)), (2, (0, l2)), (3, (0, l3)), (5, (0, l5)), (6, (0, l6 + 1))] [] (0, 0) M K) ∧ ((M 100 ((9 * l5) + l6)) < 1000000 → ow_Sp C (EM A L N) d mX12_lead (0, 0) [(3, 83), (0, l3), (0, l5), (0, l6)] M (fun r1 N1 => ow_I (l6 + 1) ∧ ow_At C (EM A L N) (d + 1) mX12_broke 151 [(0, (3, 83)), (1, (0, l1)), (2, (0, l2)), (3, (0, l3)), (5, (0, l5)), (6, (0, l6 + 1))] [] (0, 0) N1 K)))) : ow_At C (EM A L N) (d + 1) mX12_broke 151 [(0, (3, 83)), (1, (0, l1)), (2, (0, l2)), (3, (0, l3)), (5, (0, l5)), (6, (0, l6))] [] (0, 0) M K := by
  refine ow_iload (pc' := 153) (x := l6) dX12_broke_151 rfl rfl ?_
  refine ow_aload_n (pc' := 154) (x := 83) dX12_broke_153 rfl rfl ?_
  refine ow_getf3 (pc' := 157) (t := 0) (ji := 3) (val := L) dX12_broke_154 fRX12_81 rfl rfl rfl (of_eq_true eo83) eg83_3 ?_
  refine ow_icmpgt (pc' := 160) (tg := 194) dX12_broke_157 rfl rfl (fun hc => ?_) (fun hc => ?_)
  · have h := h.1 hc
    obtain ⟨vv1, h⟩ := h
    refine ow_iinc (pc' := 197) (lv' := [(0, (3, 83)), (1, (0, l1)), (2, (0, l2)), (3, (0, l3)), (5, (0, l5 + 1)), (6, (0, l6))]) dX12_broke_194 rfl vv1 rfl rfl rfl ?_
    refine ow_goto (tg := 139) dX12_broke_197 rfl ?_
    refine ow_sub (lv' := [(0, (3, 83)), (1, (0, l1)), (2, (0, l2)), (3, (0, l3)), (5, (0, l5 + 1))]) [0, 1, 2, 3, 4] rfl ?_
    exact h
  · have h := h.2 hc
    refine ow_aload_n (pc' := 161) (x := 83) dX12_broke_160 rfl rfl ?_
    refine ow_getf3 (pc' := 164) (t := 3) (ji := 37) (val := 100) dX12_broke_161 fRX12_68 rfl rfl rfl (of_eq_true eo83) eg83_37 ?_
    refine ow_bipush (pc' := 166) (n := 9) dX12_broke_164 rfl rfl ?_
    refine ow_iload (pc' := 168) (x := l5) dX12_broke_166 rfl rfl ?_
    obtain ⟨vv2, h⟩ := h
    refine ow_imul (pc' := 169) dX12_broke_168 vv2 rfl ?_
    refine ow_iload (pc' := 171) (x := l6) dX12_broke_169 rfl rfl ?_
    obtain ⟨vv3, h⟩ := h
    refine ow_iadd (pc' := 172) dX12_broke_171 vv3 rfl ?_
    obtain ⟨vv4, h⟩ := h
    refine ow_iaload3 (pc' := 173) (val := M 100 ((9 * l5) + l6)) dX12_broke_172 rfl (Eq.mpr (er100 _) vv4) (ea100 _) ?_
    refine ow_ldcw (pc' := 176) (n := 1000000) dX12_broke_173 cRX12_371 rfl rfl ?_
    refine ow_icmpge (pc' := 179) (tg := 188) dX12_broke_176 rfl rfl (fun hc => ?_) (fun hc => ?_)
    · have h := h.1 hc
      obtain ⟨vv5, h⟩ := h
      refine ow_iinc (pc' := 191) (lv' := [(0, (3, 83)), (1, (0, l1)), (2, (0, l2)), (3, (0, l3)), (5, (0, l5)), (6, (0, l6 + 1))]) dX12_broke_188 rfl vv5 rfl rfl rfl ?_
      refine ow_goto (tg := 151) dX12_broke_191 rfl ?_
      exact h
    · have h := h.2 hc
      refine ow_aload_n (pc' := 180) (x := 83) dX12_broke_179 rfl rfl ?_
      refine ow_iload_n (pc' := 181) (x := l3) dX12_broke_180 rfl rfl ?_
      refine ow_iload (pc' := 183) (x := l5) dX12_broke_181 rfl rfl ?_
      refine ow_iload (pc' := 185) (x := l6) dX12_broke_183 rfl rfl ?_
      refine ow_callVv (z := mX12_lead) (n := 3) (k := 12) (vs := [(0, l3), (0, l5), (0, l6)]) (x := 83) (st := []) (pc' := 188) (b1 := (0, 0)) (b2 := (0, 0)) dX12_broke_185 lRX12_381 kX12_lead iX12_lead rfl rfl rfl rfl rfl rfl (of_eq_true eo83) (ow_Sp.mono h (fun r1 N1 h => ?_))
      obtain ⟨vv6, h⟩ := h
      refine ow_iinc (pc' := 191) (lv' := [(0, (3, 83)), (1, (0, l1)), (2, (0, l2)), (3, (0, l3)), (5, (0, l5)), (6, (0, l6 + 1))]) dX12_broke_188 rfl vv6 rfl rfl rfl ?_
      refine ow_goto (tg := 151) dX12_broke_191 rfl ?_
      exact h
theorem fX12_broke {C : ow_C} {A L N : Int} {d : Nat} {M : ow_M} {K : Int → ow_M → Prop} {l1 l2 : Int} (h : ow_Sp C (EM A L N) d mX12_isIn (0, 0) [(0, l1), (0, 0), (0, 99)] M (fun r1 N1 => (r1 = 0 → K ((-1)) N1) ∧ (r1 ≠ 0 → ow_Sp C (EM A L N) d mX12_isIn (0, 0) [(0, l2), (0, 0), (0, 1)] N1 (fun r2 N2 => (r2 ≠ 0 → ow_Sp C (EM A L N) d mX12_rule (0, 0) [(3, 83)] N2 (fun r3 N3 => ow_At C (EM A L N) (d + 1) mX12_broke 27 [(0, (3, 83)), (1, (0, l1)), (2, (0, l2)), (3, (0, 0))] [] (0, 0) N3 K)) ∧ (r2 = 0 → K ((-1)) N2))))) : ow_Sp C (EM A L N) (d + 1) mX12_broke (0, 0) [(3, 83), (0, l1), (0, l2)] M K := ow_enter (by decide +kernel) rfl rfl (cX12_broke_0 h)
set_option maxRecDepth 20000 in
theorem cX12_draw_0 {C : ow_C} {A L N : Int} {d : Nat} {M : ow_M} {K : Int → ow_M → Prop} {l1 : Int} (h : l1 ≠ 0 ∧ ow_I (Int.tdiv (M 83 39) l1) ∧ ow_I (Int.tmod (M 83 39) l1) ∧ ow_L ((M 83 39) * 211) ∧ ow_L (((M 83 39) * 211) + 53) ∧ (30119 : Int) ≠ 0 ∧ ow_L (Int.tdiv (((M 83 39) * 211) + 53) 30119) ∧ ow_L (Int.tmod (((M 83 39) * 211) + 53) 30119) ∧ ow_I (Int.tmod (((M 83 39) * 211) + 53) 30119) ∧ ∀ N1, N1 = ow_up M 83 39 (Int.tmod (((M 83 39) * 211) + 53) 30119) → K (Int.tmod (M 83 39) l1) N1) : ow_At C (EM A L N) d mX12_draw 0 [(0, (3, 83)), (1, (0, l1))] [] (0, 0) M K := by
  refine ow_aload_n (pc' := 1) (x := 83) dX12_draw_0 rfl rfl ?_
  refine ow_getf3 (pc' := 4) (t := 0) (ji := 39) (val := M 83 39) dX12_draw_1 fRX12_384 rfl rfl rfl (of_eq_true eo83) eg83_39 ?_
  refine ow_iload_n (pc' := 5) (x := l1) dX12_draw_4 rfl rfl ?_
  obtain ⟨w0, w, w1, h⟩ := h
  refine ow_irem (pc' := 6) dX12_draw_5 w0 w w1 rfl ?_
  refine ow_istore_n (pc' := 7) (lv' := [(0, (3, 83)), (1, (0, l1)), (2, (0, Int.tmod (M 83 39) l1))]) dX12_draw_6 rfl rfl rfl ?_
  refine ow_aload_n (pc' := 8) (x := 83) dX12_draw_7 rfl rfl ?_
  refine ow_aload_n (pc' := 9) (x := 83) dX12_draw_8 rfl rfl ?_
  refine ow_getf3 (pc' := 12) (t := 0) (ji := 39) (val := M 83 39) dX12_draw_9 fRX12_384 rfl rfl rfl (of_eq_true eo83) eg83_39 ?_
  refine ow_i2L (pc' := 13) dX12_draw_12 rfl ?_
  refine ow_ldc2 (pc' := 16) (n := 211) dX12_draw_13 cRX12_387 rfl rfl ?_
  obtain ⟨vv1, h⟩ := h
  refine ow_lmul (pc' := 17) dX12_draw_16 vv1 rfl ?_
  refine ow_ldc2 (pc' := 20) (n := 53) dX12_draw_17 cRX12_389 rfl rfl ?_
  obtain ⟨vv2, h⟩ := h
  refine ow_ladd (pc' := 21) dX12_draw_20 vv2 rfl ?_
  refine ow_ldc2 (pc' := 24) (n := 30119) dX12_draw_21 cRX12_391 rfl rfl ?_
  obtain ⟨w0, w, w1, h⟩ := h
  refine ow_lrem (pc' := 25) dX12_draw_24 w0 w w1 rfl ?_
  obtain ⟨w, h⟩ := h
  refine ow_L2i (pc' := 26) dX12_draw_25 w rfl ?_
  refine ow_putf2 (pc' := 29) (t := 0) (ji := 39) dX12_draw_26 fRX12_384 rfl rfl rfl rfl (of_eq_true eo83) (of_eq_true en83_39) (fun hz => absurd hz (by decide)) (fun N1 eN1 => ?_)
  have h := h N1 eN1
  refine ow_iload_n (pc' := 30) (x := Int.tmod (M 83 39) l1) dX12_draw_29 rfl rfl ?_
  exact ow_iret dX12_draw_30 rfl rfl h
theorem fX12_draw {C : ow_C} {A L N : Int} {d : Nat} {M : ow_M} {K : Int → ow_M → Prop} {l1 : Int} (h : l1 ≠ 0 ∧ ow_I (Int.tdiv (M 83 39) l1) ∧ ow_I (Int.tmod (M 83 39) l1) ∧ ow_L ((M 83 39) * 211) ∧ ow_L (((M 83 39) * 211) + 53) ∧ (30119 : Int) ≠ 0 ∧ ow_L (Int.tdiv (((M 83 39) * 211) + 53) 30119) ∧ ow_L (Int.tmod (((M 83 39) * 211) + 53) 30119) ∧ ow_I (Int.tmod (((M 83 39) * 211) + 53) 30119) ∧ ∀ N1, N1 = ow_up M 83 39 (Int.tmod (((M 83 39) * 211) + 53) 30119) → K (Int.tmod (M 83 39) l1) N1) : ow_Sp C (EM A L N) d mX12_draw (0, 0) [(3, 83), (0, l1)] M K := ow_enter (by decide +kernel) rfl rfl (cX12_draw_0 h)
set_option maxRecDepth 20000 in
theorem cX12_manyFrom_0 {C : ow_C} {A L N : Int} {d : Nat} {M : ow_M} {K : Int → ow_M → Prop} {l1 l2 l3 : Int} (h : ow_At C (EM A L N) (d + 1) mX12_manyFrom 6 [(0, (3, 83)), (1, (0, l1)), (2, (0, l2)), (3, (0, l3)), (4, (0, 0)), (5, (0, 0))] [] (0, 0) M K) : ow_At C (EM A L N) (d + 1) mX12_manyFrom 0 [(0, (3, 83)), (1, (0, l1)), (2, (0, l2)), (3, (0, l3))] [] (0, 0) M K := by
  refine ow_iconst (pc' := 1) (n := 0) dX12_manyFrom_0 rfl rfl ?_
  refine ow_istore (pc' := 3) (lv' := [(0, (3, 83)), (1, (0, l1)), (2, (0, l2)), (3, (0, l3)), (4, (0, 0))]) dX12_manyFrom_1 rfl rfl rfl ?_
  refine ow_iconst (pc' := 4) (n := 0) dX12_manyFrom_3 rfl rfl ?_
  refine ow_istore (pc' := 6) (lv' := [(0, (3, 83)), (1, (0, l1)), (2, (0, l2)), (3, (0, l3)), (4, (0, 0)), (5, (0, 0))]) dX12_manyFrom_4 rfl rfl rfl ?_
  exact h
set_option maxRecDepth 20000 in
theorem cX12_manyFrom_6 {C : ow_C} {A L N : Int} {d : Nat} {M : ow_M} {K : Int → ow_M → Prop} {l1 l2 l3 l4 l5 : Int} (h : (L ≤ l5 → K l4 M) ∧ (l5 < L → ow_At C (EM A L N) (d + 1) mX12_manyFrom 18 [(0, (3, 83)), (1, (0, l1)), (2, (0, l2)), (3, (0, l3)), (4, (0, l4)), (5, (0, l5)), (6, (0, 0))] [] (0, 0) M K)) : ow_At C (EM A L N) (d + 1) mX12_manyFrom 6 [(0, (3, 83)), (1, (0, l1)), (2, (0, l2)), (3, (0, l3)), (4, (0, l4)), (5, (0, l5))] [] (0, 0) M K := by
  refine ow_iload (pc' := 8) (x := l5) dX12_manyFrom_6 rfl rfl ?_
  refine ow_aload_n (pc' := 9) (x := 83) dX12_manyFrom_8 rfl rfl ?_
  refine ow_getf3 (pc' := 12) (t := 0) (ji := 3) (val := L) dX12_manyFrom_9 fRX12_81 rfl rfl rfl (of_eq_true eo83) eg83_3 ?_
  refine ow_icmpge (pc' := 15) (tg := 65) dX12_manyFrom_12 rfl rfl (fun hc => ?_) (fun hc => ?_)
  · have h := h.1 hc
    refine ow_iload (pc' := 67) (x := l4) dX12_manyFrom_65 rfl rfl ?_
    exact ow_iret dX12_manyFrom_67 rfl rfl h
  · have h := h.2 hc
    refine ow_iconst (pc' := 16) (n := 0) dX12_manyFrom_15 rfl rfl ?_
    refine ow_istore (pc' := 18) (lv' := [(0, (3, 83)), (1, (0, l1)), (2, (0, l2)), (3, (0, l3)), (4, (0, l4)), (5, (0, l5)), (6, (0, 0))]) dX12_manyFrom_16 rfl rfl rfl ?_
    exact h
set_option maxRecDepth 20000 in
theorem cX12_manyFrom_18 {C : ow_C} {A L N : Int} {d : Nat} {M : ow_M} {K : Int → ow_M → Prop} {l1 l2 l3 l4 l5 l6 : Int} (h : (A ≤ l6 → ow_I (l5 + 1) ∧ ow_At C (EM A L N) (d + 1) mX12_manyFrom 6 [(0, (3, 83)), (1, (0, l1)), (2, (0, l2)), (3, (0, l3)), (4, (0, l4)), (5, (0, l5 + 1))] [] (0, 0) M K) ∧ (l6 < A → ow_I (l3 - 1) ∧ ow_Sp C (EM A L N) d mX12_may (0, 0) [(3, 83), (0, l1), (0, l2), (0, l3 - 1), (0, l5), (0, l6)] M (fun r1 N1 => (r1 = 0 → ow_I (l4 + 0) ∧ ow_I (l6 + 1) ∧ ow_At C (EM A L N) (d + 1) mX12_manyFrom 18 [(0, (3, 83)), (1, (0, l1)), (2, (0, l2)), (3, (0, l3)), (4, (0, l4 + 0)), (5, (0, l5)), (6, (0, l6 + 1))] [] (0, 0) N1 K) ∧ (r1 ≠ 0 → ow_I (l4 + 1) ∧ ow_I (l6 + 1) ∧ ow_At C (EM A L N) (d + 1) mX12_manyFrom 18 [(0, (3, 83)), (1, (0, l1)), (2, (0, l2)), (3, (0, l3)), (4, (0, l4 + 1)), (5, (0, l5)), (6, (0, l6 + 1))] [] (0, 0) N1 K)))) : ow_At C (EM A L N) (d + 1) mX12_manyFrom 18 [(0, (3, 83)), (1, (0, l1)), (2, (0, l2)), (3, (0, l3)), (4, (0, l4)), (5, (0, l5)), (6, (0, l6))] [] (0, 0) M K := by
  refine ow_iload (pc' := 20) (x := l6) dX12_manyFrom_18 rfl rfl ?_
  refine ow_aload_n (pc' := 21) (x := 83) dX12_manyFrom_20 rfl rfl ?_
  refine ow_getf3 (pc' := 24) (t := 0) (ji := 2) (val := A) dX12_manyFrom_21 fRX12_74 rfl rfl rfl (of_eq_true eo83) eg83_2 ?_
  refine ow_icmpge (pc' := 27) (tg := 59) dX12_manyFrom_24 rfl rfl (fun hc => ?_) (fun hc => ?_)
  · have h := h.1 hc
    obtain ⟨vv1, h⟩ := h
    refine ow_iinc (pc' := 62) (lv' := [(0, (3, 83)), (1, (0, l1)), (2, (0, l2)), (3, (0, l3)), (4, (0, l4)), (5, (0, l5 + 1)), (6, (0, l6))]) dX12_manyFrom_59 rfl vv1 rfl rfl rfl ?_
    refine ow_goto (tg := 6) dX12_manyFrom_62 rfl ?_
    refine ow_sub (lv' := [(0, (3, 83)), (1, (0, l1)), (2, (0, l2)), (3, (0, l3)), (4, (0, l4)), (5, (0, l5 + 1))]) [0, 1, 2, 3, 4, 5] rfl ?_
    exact h
  · have h := h.2 hc
    refine ow_iload (pc' := 29) (x := l4) dX12_manyFrom_27 rfl rfl ?_
    refine ow_aload_n (pc' := 30) (x := 83) dX12_manyFrom_29 rfl rfl ?_
    refine ow_iload_n (pc' := 31) (x := l1) dX12_manyFrom_30 rfl rfl ?_
    refine ow_iload_n (pc' := 32) (x := l2) dX12_manyFrom_31 rfl rfl ?_
    refine ow_iload_n (pc' := 33) (x := l3) dX12_manyFrom_32 rfl rfl ?_
    refine ow_iconst (pc' := 34) (n := 1) dX12_manyFrom_33 rfl rfl ?_
    obtain ⟨vv2, h⟩ := h
    refine ow_isub (pc' := 35) dX12_manyFrom_34 vv2 rfl ?_
    refine ow_iload (pc' := 37) (x := l5) dX12_manyFrom_35 rfl rfl ?_
    refine ow_iload (pc' := 39) (x := l6) dX12_manyFrom_37 rfl rfl ?_
    refine ow_callVp (z := mX12_may) (n := 5) (k := 12) (vs := [(0, l1), (0, l2), (0, l3 - 1), (0, l5), (0, l6)]) (x := 83) (st := [(0, l4)]) (pc' := 42) (b1 := (0, 0)) (b2 := (0, 0)) dX12_manyFrom_39 lRX12_329 kX12_may iX12_may rfl rfl rfl rfl rfl rfl (of_eq_true eo83) (ow_Sp.mono h (fun r1 N1 h => ?_))
    refine ow_ifeq (pc' := 45) (tg := 49) dX12_manyFrom_42 rfl rfl (fun hc => ?_) (fun hc => ?_)
    · have h := h.1 hc
      refine ow_iconst (pc' := 50) (n := 0) dX12_manyFrom_49 rfl rfl ?_
      obtain ⟨vv3, h⟩ := h
      refine ow_iadd (pc' := 51) dX12_manyFrom_50 vv3 rfl ?_
      refine ow_istore (pc' := 53) (lv' := [(0, (3, 83)), (1, (0, l1)), (2, (0, l2)), (3, (0, l3)), (4, (0, l4 + 0)), (5, (0, l5)), (6, (0, l6))]) dX12_manyFrom_51 rfl rfl rfl ?_
      obtain ⟨vv4, h⟩ := h
      refine ow_iinc (pc' := 56) (lv' := [(0, (3, 83)), (1, (0, l1)), (2, (0, l2)), (3, (0, l3)), (4, (0, l4 + 0)), (5, (0, l5)), (6, (0, l6 + 1))]) dX12_manyFrom_53 rfl vv4 rfl rfl rfl ?_
      refine ow_goto (tg := 18) dX12_manyFrom_56 rfl ?_
      exact h
    · have h := h.2 hc
      refine ow_iconst (pc' := 46) (n := 1) dX12_manyFrom_45 rfl rfl ?_
      refine ow_goto (tg := 50) dX12_manyFrom_46 rfl ?_
      obtain ⟨vv5, h⟩ := h
      refine ow_iadd (pc' := 51) dX12_manyFrom_50 vv5 rfl ?_
      refine ow_istore (pc' := 53) (lv' := [(0, (3, 83)), (1, (0, l1)), (2, (0, l2)), (3, (0, l3)), (4, (0, l4 + 1)), (5, (0, l5)), (6, (0, l6))]) dX12_manyFrom_51 rfl rfl rfl ?_
      obtain ⟨vv6, h⟩ := h
      refine ow_iinc (pc' := 56) (lv' := [(0, (3, 83)), (1, (0, l1)), (2, (0, l2)), (3, (0, l3)), (4, (0, l4 + 1)), (5, (0, l5)), (6, (0, l6 + 1))]) dX12_manyFrom_53 rfl vv6 rfl rfl rfl ?_
      refine ow_goto (tg := 18) dX12_manyFrom_56 rfl ?_
      exact h
theorem fX12_manyFrom {C : ow_C} {A L N : Int} {d : Nat} {M : ow_M} {K : Int → ow_M → Prop} {l1 l2 l3 : Int} (h : ow_At C (EM A L N) (d + 1) mX12_manyFrom 6 [(0, (3, 83)), (1, (0, l1)), (2, (0, l2)), (3, (0, l3)), (4, (0, 0)), (5, (0, 0))] [] (0, 0) M K) : ow_Sp C (EM A L N) (d + 1) mX12_manyFrom (0, 0) [(3, 83), (0, l1), (0, l2), (0, l3)] M K := ow_enter (by decide +kernel) rfl rfl (cX12_manyFrom_0 h)
set_option maxRecDepth 20000 in
theorem cX12_changeOf_0 {C : ow_C} {A L N : Int} {d : Nat} {M : ow_M} {K : Int → ow_M → Prop} {l1 l2 l3 l4 : Int} (h : ow_At C (EM A L N) (d + 1) mX12_changeOf 6 [(0, (3, 83)), (1, (0, l1)), (2, (0, l2)), (3, (0, l3)), (4, (0, l4)), (5, (0, 0)), (6, (0, 0))] [] (0, 0) M K) : ow_At C (EM A L N) (d + 1) mX12_changeOf 0 [(0, (3, 83)), (1, (0, l1)), (2, (0, l2)), (3, (0, l3)), (4, (0, l4))] [] (0, 0) M K := by
  refine ow_iconst (pc' := 1) (n := 0) dX12_changeOf_0 rfl rfl ?_
  refine ow_istore (pc' := 3) (lv' := [(0, (3, 83)), (1, (0, l1)), (2, (0, l2)), (3, (0, l3)), (4, (0, l4)), (5, (0, 0))]) dX12_changeOf_1 rfl rfl rfl ?_
  refine ow_iconst (pc' := 4) (n := 0) dX12_changeOf_3 rfl rfl ?_
  refine ow_istore (pc' := 6) (lv' := [(0, (3, 83)), (1, (0, l1)), (2, (0, l2)), (3, (0, l3)), (4, (0, l4)), (5, (0, 0)), (6, (0, 0))]) dX12_changeOf_4 rfl rfl rfl ?_
  exact h
set_option maxRecDepth 20000 in
theorem cX12_changeOf_6 {C : ow_C} {A L N : Int} {d : Nat} {M : ow_M} {K : Int → ow_M → Prop} {l1 l2 l3 l4 l5 l6 : Int} (h : (L ≤ l6 → K ((-1)) M) ∧ (l6 < L → ow_At C (EM A L N) (d + 1) mX12_changeOf 18 [(0, (3, 83)), (1, (0, l1)), (2, (0, l2)), (3, (0, l3)), (4, (0, l4)), (5, (0, l5)), (6, (0, l6)), (7, (0, 0))] [] (0, 0) M K)) : ow_At C (EM A L N) (d + 1) mX12_changeOf 6 [(0, (3, 83)), (1, (0, l1)), (2, (0, l2)), (3, (0, l3)), (4, (0, l4)), (5, (0, l5)), (6, (0, l6))] [] (0, 0) M K := by
  refine ow_iload (pc' := 8) (x := l6) dX12_changeOf_6 rfl rfl ?_
  refine ow_aload_n (pc' := 9) (x := 83) dX12_changeOf_8 rfl rfl ?_
  refine ow_getf3 (pc' := 12) (t := 0) (ji := 3) (val := L) dX12_changeOf_9 fRX12_81 rfl rfl rfl (of_eq_true eo83) eg83_3 ?_
  refine ow_icmpge (pc' := 15) (tg := 77) dX12_changeOf_12 rfl rfl (fun hc => ?_) (fun hc => ?_)
  · have h := h.1 hc
    refine ow_iconst (pc' := 78) (n := (-1)) dX12_changeOf_77 rfl rfl ?_
    exact ow_iret dX12_changeOf_78 rfl rfl h
  · have h := h.2 hc
    refine ow_iconst (pc' := 16) (n := 0) dX12_changeOf_15 rfl rfl ?_
    refine ow_istore (pc' := 18) (lv' := [(0, (3, 83)), (1, (0, l1)), (2, (0, l2)), (3, (0, l3)), (4, (0, l4)), (5, (0, l5)), (6, (0, l6)), (7, (0, 0))]) dX12_changeOf_16 rfl rfl rfl ?_
    exact h
set_option maxRecDepth 20000 in
theorem cX12_changeOf_18 {C : ow_C} {A L N : Int} {d : Nat} {M : ow_M} {K : Int → ow_M → Prop} {l1 l2 l3 l4 l5 l6 l7 : Int} (h : (A ≤ l7 → ow_I (l6 + 1) ∧ ow_At C (EM A L N) (d + 1) mX12_changeOf 6 [(0, (3, 83)), (1, (0, l1)), (2, (0, l2)), (3, (0, l3)), (4, (0, l4)), (5, (0, l5)), (6, (0, l6 + 1))] [] (0, 0) M K) ∧ (l7 < A → ow_I (l3 - 1) ∧ ow_Sp C (EM A L N) d mX12_may (0, 0) [(3, 83), (0, l1), (0, l2), (0, l3 - 1), (0, l6), (0, l7)] M (fun r1 N1 => (r1 ≠ 0 → (l5 ≠ l4 → ow_I (l5 + 1) ∧ ow_I (l7 + 1) ∧ ow_At C (EM A L N) (d + 1) mX12_changeOf 18 [(0, (3, 83)), (1, (0, l1)), (2, (0, l2)), (3, (0, l3)), (4, (0, l4)), (5, (0, l5 + 1)), (6, (0, l6)), (7, (0, l7 + 1))] [] (0, 0) N1 K) ∧ (l5 = l4 → ow_I (10 * l6) ∧ ow_I ((10 * l6) + l7) ∧ K ((10 * l6) + l7) N1)) ∧ (r1 = 0 → ow_I (l7 + 1) ∧ ow_At C (EM A L N) (d + 1) mX12_changeOf 18 [(0, (3, 83)), (1, (0, l1)), (2, (0, l2)), (3, (0, l3)), (4, (0, l4)), (5, (0, l5)), (6, (0, l6)), (7, (0, l7 + 1))] [] (0, 0) N1 K)))) : ow_At C (EM A L N) (d + 1) mX12_changeOf 18 [(0, (3, 83)), (1, (0, l1)), (2, (0, l2)), (3, (0, l3)), (4, (0, l4)), (5, (0, l5)), (6, (0, l6)), (7, (0, l7))] [] (0, 0) M K := by
  refine ow_iload (pc' := 20) (x := l7) dX12_changeOf_18 rfl rfl ?_
  refine ow_aload_n (pc' := 21) (x := 83) dX12_changeOf_20 rfl rfl ?_
  refine ow_getf3 (pc' := 24) (t := 0) (ji := 2) (val := A) dX12_changeOf_21 fRX12_74 rfl rfl rfl (of_eq_true eo83) eg83_2 ?_
  refine ow_icmpge (pc' := 27) (tg := 71) dX12_changeOf_24 rfl rfl (fun hc => ?_) (fun hc => ?_)
  · have h := h.1 hc
    obtain ⟨vv1, h⟩ := h
    refine ow_iinc (pc' := 74) (lv' := [(0, (3, 83)), (1, (0, l1)), (2, (0, l2)), (3, (0, l3)), (4, (0, l4)), (5, (0, l5)), (6, (0, l6 + 1)), (7, (0, l7))]) dX12_changeOf_71 rfl vv1 rfl rfl rfl ?_
    refine ow_goto (tg := 6) dX12_changeOf_74 rfl ?_
    refine ow_sub (lv' := [(0, (3, 83)), (1, (0, l1)), (2, (0, l2)), (3, (0, l3)), (4, (0, l4)), (5, (0, l5)), (6, (0, l6 + 1))]) [0, 1, 2, 3, 4, 5, 6] rfl ?_
    exact h
  · have h := h.2 hc
    refine ow_aload_n (pc' := 28) (x := 83) dX12_changeOf_27 rfl rfl ?_
    refine ow_iload_n (pc' := 29) (x := l1) dX12_changeOf_28 rfl rfl ?_
    refine ow_iload_n (pc' := 30) (x := l2) dX12_changeOf_29 rfl rfl ?_
    refine ow_iload_n (pc' := 31) (x := l3) dX12_changeOf_30 rfl rfl ?_
    refine ow_iconst (pc' := 32) (n := 1) dX12_changeOf_31 rfl rfl ?_
    obtain ⟨vv2, h⟩ := h
    refine ow_isub (pc' := 33) dX12_changeOf_32 vv2 rfl ?_
    refine ow_iload (pc' := 35) (x := l6) dX12_changeOf_33 rfl rfl ?_
    refine ow_iload (pc' := 37) (x := l7) dX12_changeOf_35 rfl rfl ?_
    refine ow_callVp (z := mX12_may) (n := 5) (k := 12) (vs := [(0, l1), (0, l2), (0, l3 - 1), (0, l6), (0, l7)]) (x := 83) (st := []) (pc' := 40) (b1 := (0, 0)) (b2 := (0, 0)) dX12_changeOf_37 lRX12_329 kX12_may iX12_may rfl rfl rfl rfl rfl rfl (of_eq_true eo83) (ow_Sp.mono h (fun r1 N1 h => ?_))
    refine ow_ifne (pc' := 43) (tg := 46) dX12_changeOf_40 rfl rfl (fun hc => ?_) (fun hc => ?_)
    · have h := h.1 hc
      refine ow_iload (pc' := 48) (x := l5) dX12_changeOf_46 rfl rfl ?_
      refine ow_iload (pc' := 50) (x := l4) dX12_changeOf_48 rfl rfl ?_
      refine ow_icmpne (pc' := 53) (tg := 62) dX12_changeOf_50 rfl rfl (fun hc => ?_) (fun hc => ?_)
      · have h := h.1 hc
        obtain ⟨vv3, h⟩ := h
        refine ow_iinc (pc' := 65) (lv' := [(0, (3, 83)), (1, (0, l1)), (2, (0, l2)), (3, (0, l3)), (4, (0, l4)), (5, (0, l5 + 1)), (6, (0, l6)), (7, (0, l7))]) dX12_changeOf_62 rfl vv3 rfl rfl rfl ?_
        obtain ⟨vv4, h⟩ := h
        refine ow_iinc (pc' := 68) (lv' := [(0, (3, 83)), (1, (0, l1)), (2, (0, l2)), (3, (0, l3)), (4, (0, l4)), (5, (0, l5 + 1)), (6, (0, l6)), (7, (0, l7 + 1))]) dX12_changeOf_65 rfl vv4 rfl rfl rfl ?_
        refine ow_goto (tg := 18) dX12_changeOf_68 rfl ?_
        exact h
      · have h := h.2 hc
        refine ow_bipush (pc' := 55) (n := 10) dX12_changeOf_53 rfl rfl ?_
        refine ow_iload (pc' := 57) (x := l6) dX12_changeOf_55 rfl rfl ?_
        obtain ⟨vv5, h⟩ := h
        refine ow_imul (pc' := 58) dX12_changeOf_57 vv5 rfl ?_
        refine ow_iload (pc' := 60) (x := l7) dX12_changeOf_58 rfl rfl ?_
        obtain ⟨vv6, h⟩ := h
        refine ow_iadd (pc' := 61) dX12_changeOf_60 vv6 rfl ?_
        exact ow_iret dX12_changeOf_61 rfl rfl h
    · have h := h.2 hc
      refine ow_goto (tg := 65) dX12_changeOf_43 rfl ?_
      obtain ⟨vv7, h⟩ := h
      refine ow_iinc (pc' := 68) (lv' := [(0, (3, 83)), (1, (0, l1)), (2, (0, l2)), (3, (0, l3)), (4, (0, l4)), (5, (0, l5)), (6, (0, l6)), (7, (0, l7 + 1))]) dX12_changeOf_65 rfl vv7 rfl rfl rfl ?_
      refine ow_goto (tg := 18) dX12_changeOf_68 rfl ?_
      exact h
theorem fX12_changeOf {C : ow_C} {A L N : Int} {d : Nat} {M : ow_M} {K : Int → ow_M → Prop} {l1 l2 l3 l4 : Int} (h : ow_At C (EM A L N) (d + 1) mX12_changeOf 6 [(0, (3, 83)), (1, (0, l1)), (2, (0, l2)), (3, (0, l3)), (4, (0, l4)), (5, (0, 0)), (6, (0, 0))] [] (0, 0) M K) : ow_Sp C (EM A L N) (d + 1) mX12_changeOf (0, 0) [(3, 83), (0, l1), (0, l2), (0, l3), (0, l4)] M K := ow_enter (by decide +kernel) rfl rfl (cX12_changeOf_0 h)
set_option maxRecDepth 20000 in
theorem cX12_message_0 {C : ow_C} {A L N : Int} {d : Nat} {M : ow_M} {K : Int → ow_M → Prop} {l1 l2 l3 : Int} (h : ow_Sp C (EM A L N) d mX12_isIn (0, 0) [(0, l1), (0, 0), (0, 9999)] M (fun r1 N1 => (r1 = 0 → K ((-1)) N1) ∧ (r1 ≠ 0 → ow_Sp C (EM A L N) d mX12_isWord0 (0, 0) [(3, 83), (0, l2)] N1 (fun r2 N2 => (r2 = 0 → K ((-1)) N2) ∧ (r2 ≠ 0 → ow_Sp C (EM A L N) d mX12_isIn (0, 0) [(0, l3), (0, 1), (0, 8)] N2 (fun r3 N3 => (r3 ≠ 0 → ow_Sp C (EM A L N) d mX12_rule (0, 0) [(3, 83)] N3 (fun r4 N4 => ow_I (l1 * 19) ∧ ow_I ((l1 * 19) + 1) ∧ ∀ N5, N5 = ow_up N4 83 39 ((l1 * 19) + 1) → ow_At C (EM A L N) (d + 1) mX12_message 54 [(0, (3, 83)), (3, (0, l3)), (4, (0, l2)), (5, (0, 0)), (6, (0, 0))] [] (0, 0) N5 K)) ∧ (r3 = 0 → K ((-1)) N3))))))) : ow_At C (EM A L N) (d + 1) mX12_message 0 [(0, (3, 83)), (1, (0, l1)), (2, (0, l2)), (3, (0, l3))] [] (0, 0) M K := by
  refine ow_iload_n (pc' := 1) (x := l1) dX12_message_0 rfl rfl ?_
  refine ow_iconst (pc' := 2) (n := 0) dX12_message_1 rfl rfl ?_
  refine ow_sipush (pc' := 5) (n := 9999) dX12_message_2 rfl rfl ?_
  refine ow_callSp (z := mX12_isIn) (n := 3) (vs := [(0, l1), (0, 0), (0, 9999)]) (st := []) (pc' := 8) (b1 := (0, 0)) (b2 := (0, 0)) dX12_message_5 lRX12_91 kX12_isIn zX12_isIn rfl rfl rfl rfl rfl rfl (ow_Sp.mono h (fun r1 N1 h => ?_))
  refine ow_ifeq (pc' := 11) (tg := 29) dX12_message_8 rfl rfl (fun hc => ?_) (fun hc => ?_)
  · have h := h.1 hc
    refine ow_iconst (pc' := 30) (n := (-1)) dX12_message_29 rfl rfl ?_
    exact ow_iret dX12_message_30 rfl rfl h
  · have h := h.2 hc
    refine ow_aload_n (pc' := 12) (x := 83) dX12_message_11 rfl rfl ?_
    refine ow_iload_n (pc' := 13) (x := l2) dX12_message_12 rfl rfl ?_
    refine ow_callVp (z := mX12_isWord0) (n := 1) (k := 12) (vs := [(0, l2)]) (x := 83) (st := []) (pc' := 16) (b1 := (0, 0)) (b2 := (0, 0)) dX12_message_13 lRX12_102 kX12_isWord0 iX12_isWord0 rfl rfl rfl rfl rfl rfl (of_eq_true eo83) (ow_Sp.mono h (fun r2 N2 h => ?_))
    refine ow_ifeq (pc' := 19) (tg := 29) dX12_message_16 rfl rfl (fun hc => ?_) (fun hc => ?_)
    · have h := h.1 hc
      refine ow_iconst (pc' := 30) (n := (-1)) dX12_message_29 rfl rfl ?_
      exact ow_iret dX12_message_30 rfl rfl h
    · have h := h.2 hc
      refine ow_iload_n (pc' := 20) (x := l3) dX12_message_19 rfl rfl ?_
      refine ow_iconst (pc' := 21) (n := 1) dX12_message_20 rfl rfl ?_
      refine ow_bipush (pc' := 23) (n := 8) dX12_message_21 rfl rfl ?_
      refine ow_callSp (z := mX12_isIn) (n := 3) (vs := [(0, l3), (0, 1), (0, 8)]) (st := []) (pc' := 26) (b1 := (0, 0)) (b2 := (0, 0)) dX12_message_23 lRX12_91 kX12_isIn zX12_isIn rfl rfl rfl rfl rfl rfl (ow_Sp.mono h (fun r3 N3 h => ?_))
      refine ow_ifne (pc' := 29) (tg := 31) dX12_message_26 rfl rfl (fun hc => ?_) (fun hc => ?_)
      · have h := h.1 hc
        refine ow_aload_n (pc' := 32) (x := 83) dX12_message_31 rfl rfl ?_
        refine ow_callVv (z := mX12_rule) (n := 0) (k := 12) (vs := []) (x := 83) (st := []) (pc' := 35) (b1 := (0, 0)) (b2 := (0, 0)) dX12_message_32 lRX12_321 kX12_rule iX12_rule rfl rfl rfl rfl rfl rfl (of_eq_true eo83) (ow_Sp.mono h (fun r4 N4 h => ?_))
        refine ow_aload_n (pc' := 36) (x := 83) dX12_message_35 rfl rfl ?_
        refine ow_iload_n (pc' := 37) (x := l1) dX12_message_36 rfl rfl ?_
        refine ow_bipush (pc' := 39) (n := 19) dX12_message_37 rfl rfl ?_
        obtain ⟨vv1, h⟩ := h
        refine ow_imul (pc' := 40) dX12_message_39 vv1 rfl ?_
        refine ow_iconst (pc' := 41) (n := 1) dX12_message_40 rfl rfl ?_
        obtain ⟨vv2, h⟩ := h
        refine ow_iadd (pc' := 42) dX12_message_41 vv2 rfl ?_
        refine ow_putf2 (pc' := 45) (t := 0) (ji := 39) dX12_message_42 fRX12_384 rfl rfl rfl rfl (of_eq_true eo83) (of_eq_true en83_39) (fun hz => absurd hz (by decide)) (fun N5 eN5 => ?_)
        have h := h N5 eN5
        refine ow_iload_n (pc' := 46) (x := l2) dX12_message_45 rfl rfl ?_
        refine ow_istore (pc' := 48) (lv' := [(0, (3, 83)), (1, (0, l1)), (2, (0, l2)), (3, (0, l3)), (4, (0, l2))]) dX12_message_46 rfl rfl rfl ?_
        refine ow_iconst (pc' := 49) (n := 0) dX12_message_48 rfl rfl ?_
        refine ow_istore (pc' := 51) (lv' := [(0, (3, 83)), (1, (0, l1)), (2, (0, l2)), (3, (0, l3)), (4, (0, l2)), (5, (0, 0))]) dX12_message_49 rfl rfl rfl ?_
        refine ow_iconst (pc' := 52) (n := 0) dX12_message_51 rfl rfl ?_
        refine ow_istore (pc' := 54) (lv' := [(0, (3, 83)), (1, (0, l1)), (2, (0, l2)), (3, (0, l3)), (4, (0, l2)), (5, (0, 0)), (6, (0, 0))]) dX12_message_52 rfl rfl rfl ?_
        refine ow_sub (lv' := [(0, (3, 83)), (3, (0, l3)), (4, (0, l2)), (5, (0, 0)), (6, (0, 0))]) [0, 3, 4, 5, 6] rfl ?_
        exact h
      · have h := h.2 hc
        refine ow_iconst (pc' := 30) (n := (-1)) dX12_message_29 rfl rfl ?_
        exact ow_iret dX12_message_30 rfl rfl h
set_option maxRecDepth 20000 in
theorem cX12_message_54 {C : ow_C} {A L N : Int} {d : Nat} {M : ow_M} {K : Int → ow_M → Prop} {l3 l4 l5 l6 : Int} (h : (l3 ≤ l6 → K l4 M) ∧ (l6 < l3 → ow_Sp C (EM A L N) d mX12_manyFrom (0, 0) [(3, 83), (0, l6), (0, l4), (0, l5)] M (fun r1 N1 => (r1 ≠ 0 → ow_Sp C (EM A L N) d mX12_draw (0, 0) [(3, 83), (0, r1)] N1 (fun r2 N2 => ow_Sp C (EM A L N) d mX12_changeOf (0, 0) [(3, 83), (0, l6), (0, l4), (0, l5), (0, r2)] N2 (fun r3 N3 => (10 : Int) ≠ 0 ∧ ow_I (Int.tdiv r3 10) ∧ (10 : Int) ≠ 0 ∧ ow_I (Int.tdiv r3 10) ∧ ow_I (Int.tmod r3 10) ∧ ow_Sp C (EM A L N) d mX12_changed (0, 0) [(3, 83), (0, l4), (0, Int.tdiv r3 10), (0, Int.tmod r3 10)] N3 (fun r4 N4 => (10 : Int) ≠ 0 ∧ ow_I (Int.tdiv r3 10) ∧ ow_I ((Int.tdiv r3 10) + 1) ∧ ow_I (l6 + 1) ∧ ow_At C (EM A L N) (d + 1) mX12_message 54 [(0, (3, 83)), (3, (0, l3)), (4, (0, r4)), (5, (0, (Int.tdiv r3 10) + 1)), (6, (0, l6 + 1))] [] (0, 0) N4 K)))) ∧ (r1 = 0 → K l4 N1)))) : ow_At C (EM A L N) (d + 1) mX12_message 54 [(0, (3, 83)), (3, (0, l3)), (4, (0, l4)), (5, (0, l5)), (6, (0, l6))] [] (0, 0) M K := by
  refine ow_iload (pc' := 56) (x := l6) dX12_message_54 rfl rfl ?_
  refine ow_iload_n (pc' := 57) (x := l3) dX12_message_56 rfl rfl ?_
  refine ow_icmpge (pc' := 60) (tg := 131) dX12_message_57 rfl rfl (fun hc => ?_) (fun hc => ?_)
  · have h := h.1 hc
    refine ow_iload (pc' := 133) (x := l4) dX12_message_131 rfl rfl ?_
    exact ow_iret dX12_message_133 rfl rfl h
  · have h := h.2 hc
    refine ow_aload_n (pc' := 61) (x := 83) dX12_message_60 rfl rfl ?_
    refine ow_iload (pc' := 63) (x := l6) dX12_message_61 rfl rfl ?_
    refine ow_iload (pc' := 65) (x := l4) dX12_message_63 rfl rfl ?_
    refine ow_iload (pc' := 67) (x := l5) dX12_message_65 rfl rfl ?_
    refine ow_callVp (z := mX12_manyFrom) (n := 3) (k := 12) (vs := [(0, l6), (0, l4), (0, l5)]) (x := 83) (st := []) (pc' := 70) (b1 := (0, 0)) (b2 := (0, 0)) dX12_message_67 lRX12_393 kX12_manyFrom iX12_manyFrom rfl rfl rfl rfl rfl rfl (of_eq_true eo83) (ow_Sp.mono h (fun r1 N1 h => ?_))
    refine ow_istore (pc' := 72) (lv' := [(0, (3, 83)), (3, (0, l3)), (4, (0, l4)), (5, (0, l5)), (6, (0, l6)), (7, (0, r1))]) dX12_message_70 rfl rfl rfl ?_
    refine ow_iload (pc' := 74) (x := r1) dX12_message_72 rfl rfl ?_
    refine ow_ifne (pc' := 77) (tg := 80) dX12_message_74 rfl rfl (fun hc => ?_) (fun hc => ?_)
    · have h := h.1 hc
      refine ow_aload_n (pc' := 81) (x := 83) dX12_message_80 rfl rfl ?_
      refine ow_iload (pc' := 83) (x := l6) dX12_message_81 rfl rfl ?_
      refine ow_iload (pc' := 85) (x := l4) dX12_message_83 rfl rfl ?_
      refine ow_iload (pc' := 87) (x := l5) dX12_message_85 rfl rfl ?_
      refine ow_aload_n (pc' := 88) (x := 83) dX12_message_87 rfl rfl ?_
      refine ow_iload (pc' := 90) (x := r1) dX12_message_88 rfl rfl ?_
      refine ow_callVp (z := mX12_draw) (n := 1) (k := 12) (vs := [(0, r1)]) (x := 83) (st := [(0, l5), (0, l4), (0, l6), (3, 83)]) (pc' := 93) (b1 := (0, 0)) (b2 := (0, 0)) dX12_message_90 lRX12_396 kX12_draw iX12_draw rfl rfl rfl rfl rfl rfl (of_eq_true eo83) (ow_Sp.mono h (fun r2 N2 h => ?_))
      refine ow_callVp (z := mX12_changeOf) (n := 4) (k := 12) (vs := [(0, l6), (0, l4), (0, l5), (0, r2)]) (x := 83) (st := []) (pc' := 96) (b1 := (0, 0)) (b2 := (0, 0)) dX12_message_93 lRX12_399 kX12_changeOf iX12_changeOf rfl rfl rfl rfl rfl rfl (of_eq_true eo83) (ow_Sp.mono h (fun r3 N3 h => ?_))
      refine ow_istore (pc' := 98) (lv' := [(0, (3, 83)), (3, (0, l3)), (4, (0, l4)), (5, (0, l5)), (6, (0, l6)), (7, (0, r1)), (8, (0, r3))]) dX12_message_96 rfl rfl rfl ?_
      refine ow_aload_n (pc' := 99) (x := 83) dX12_message_98 rfl rfl ?_
      refine ow_iload (pc' := 101) (x := l4) dX12_message_99 rfl rfl ?_
      refine ow_iload (pc' := 103) (x := r3) dX12_message_101 rfl rfl ?_
      refine ow_bipush (pc' := 105) (n := 10) dX12_message_103 rfl rfl ?_
      obtain ⟨w0, w, h⟩ := h
      refine ow_idiv (pc' := 106) dX12_message_105 w0 w rfl ?_
      refine ow_iload (pc' := 108) (x := r3) dX12_message_106 rfl rfl ?_
      refine ow_bipush (pc' := 110) (n := 10) dX12_message_108 rfl rfl ?_
      obtain ⟨w0, w, w1, h⟩ := h
      refine ow_irem (pc' := 111) dX12_message_110 w0 w w1 rfl ?_
      refine ow_callVp (z := mX12_changed) (n := 3) (k := 12) (vs := [(0, l4), (0, Int.tdiv r3 10), (0, Int.tmod r3 10)]) (x := 83) (st := []) (pc' := 114) (b1 := (0, 0)) (b2 := (0, 0)) dX12_message_111 lRX12_302 kX12_changed iX12_changed rfl rfl rfl rfl rfl rfl (of_eq_true eo83) (ow_Sp.mono h (fun r4 N4 h => ?_))
      refine ow_istore (pc' := 116) (lv' := [(0, (3, 83)), (3, (0, l3)), (4, (0, r4)), (5, (0, l5)), (6, (0, l6)), (7, (0, r1)), (8, (0, r3))]) dX12_message_114 rfl rfl rfl ?_
      refine ow_iload (pc' := 118) (x := r3) dX12_message_116 rfl rfl ?_
      refine ow_bipush (pc' := 120) (n := 10) dX12_message_118 rfl rfl ?_
      obtain ⟨w0, w, h⟩ := h
      refine ow_idiv (pc' := 121) dX12_message_120 w0 w rfl ?_
      refine ow_iconst (pc' := 122) (n := 1) dX12_message_121 rfl rfl ?_
      obtain ⟨vv1, h⟩ := h
      refine ow_iadd (pc' := 123) dX12_message_122 vv1 rfl ?_
      refine ow_istore (pc' := 125) (lv' := [(0, (3, 83)), (3, (0, l3)), (4, (0, r4)), (5, (0, (Int.tdiv r3 10) + 1)), (6, (0, l6)), (7, (0, r1)), (8, (0, r3))]) dX12_message_123 rfl rfl rfl ?_
      obtain ⟨vv2, h⟩ := h
      refine ow_iinc (pc' := 128) (lv' := [(0, (3, 83)), (3, (0, l3)), (4, (0, r4)), (5, (0, (Int.tdiv r3 10) + 1)), (6, (0, l6 + 1)), (7, (0, r1)), (8, (0, r3))]) dX12_message_125 rfl vv2 rfl rfl rfl ?_
      refine ow_goto (tg := 54) dX12_message_128 rfl ?_
      refine ow_sub (lv' := [(0, (3, 83)), (3, (0, l3)), (4, (0, r4)), (5, (0, (Int.tdiv r3 10) + 1)), (6, (0, l6 + 1))]) [0, 1, 2, 3, 4] rfl ?_
      exact h
    · have h := h.2 hc
      refine ow_iload (pc' := 79) (x := l4) dX12_message_77 rfl rfl ?_
      exact ow_iret dX12_message_79 rfl rfl h
theorem fX12_message {C : ow_C} {A L N : Int} {d : Nat} {M : ow_M} {K : Int → ow_M → Prop} {l1 l2 l3 : Int} (h : ow_Sp C (EM A L N) d mX12_isIn (0, 0) [(0, l1), (0, 0), (0, 9999)] M (fun r1 N1 => (r1 = 0 → K ((-1)) N1) ∧ (r1 ≠ 0 → ow_Sp C (EM A L N) d mX12_isWord0 (0, 0) [(3, 83), (0, l2)] N1 (fun r2 N2 => (r2 = 0 → K ((-1)) N2) ∧ (r2 ≠ 0 → ow_Sp C (EM A L N) d mX12_isIn (0, 0) [(0, l3), (0, 1), (0, 8)] N2 (fun r3 N3 => (r3 ≠ 0 → ow_Sp C (EM A L N) d mX12_rule (0, 0) [(3, 83)] N3 (fun r4 N4 => ow_I (l1 * 19) ∧ ow_I ((l1 * 19) + 1) ∧ ∀ N5, N5 = ow_up N4 83 39 ((l1 * 19) + 1) → ow_At C (EM A L N) (d + 1) mX12_message 54 [(0, (3, 83)), (3, (0, l3)), (4, (0, l2)), (5, (0, 0)), (6, (0, 0))] [] (0, 0) N5 K)) ∧ (r3 = 0 → K ((-1)) N3))))))) : ow_Sp C (EM A L N) (d + 1) mX12_message (0, 0) [(3, 83), (0, l1), (0, l2), (0, l3)] M K := ow_enter (by decide +kernel) rfl rfl (cX12_message_0 h)
set_option maxRecDepth 20000 in
theorem cX12_image_0 {C : ow_C} {A L N : Int} {d : Nat} {M : ow_M} {K : Int → ow_M → Prop} (h : ow_Sp C (EM A L N) d mX12_copy (0, 0) [(3, 84), (3, 85)] M (fun r1 N1 => K (N1 84 2) N1)) : ow_At C (EM A L N) (d + 1) mX12_image 0 [(0, (3, 83))] [] (0, 0) M K := by
  refine ow_aload_n (pc' := 1) (x := 83) dX12_image_0 rfl rfl ?_
  refine ow_getf3 (pc' := 4) (t := 3) (ji := 0) (val := 84) dX12_image_1 fRX12_7 rfl rfl rfl (of_eq_true eo83) eg83_0 ?_
  refine ow_aload_n (pc' := 5) (x := 83) dX12_image_4 rfl rfl ?_
  refine ow_getf3 (pc' := 8) (t := 3) (ji := 1) (val := 85) dX12_image_5 fRX12_13 rfl rfl rfl (of_eq_true eo83) eg83_1 ?_
  refine ow_callSv (z := mX12_copy) (n := 2) (vs := [(3, 84), (3, 85)]) (st := []) (pc' := 11) (b1 := (0, 0)) (b2 := (0, 0)) dX12_image_8 lRX12_87 kX12_copy zX12_copy rfl rfl rfl rfl rfl rfl (ow_Sp.mono h (fun r1 N1 h => ?_))
  refine ow_aload_n (pc' := 12) (x := 83) dX12_image_11 rfl rfl ?_
  refine ow_getf3 (pc' := 15) (t := 3) (ji := 0) (val := 84) dX12_image_12 fRX12_7 rfl rfl rfl (of_eq_true eo83) eg83_0 ?_
  refine ow_iconst (pc' := 16) (n := 2) dX12_image_15 rfl rfl ?_
  refine ow_iaload3 (pc' := 17) (val := N1 84 2) dX12_image_16 rfl (Eq.mpr (er84 _) ⟨by decide, by decide⟩) (ea84 _) ?_
  exact ow_iret dX12_image_17 rfl rfl h
theorem fX12_image {C : ow_C} {A L N : Int} {d : Nat} {M : ow_M} {K : Int → ow_M → Prop} (h : ow_Sp C (EM A L N) d mX12_copy (0, 0) [(3, 84), (3, 85)] M (fun r1 N1 => K (N1 84 2) N1)) : ow_Sp C (EM A L N) (d + 1) mX12_image (0, 0) [(3, 83)] M K := ow_enter (by decide +kernel) rfl rfl (cX12_image_0 h)
set_option maxRecDepth 20000 in
theorem cX12_back_0 {C : ow_C} {A L N : Int} {d : Nat} {M : ow_M} {K : Int → ow_M → Prop} (h : ow_Sp C (EM A L N) d mX12_copy (0, 0) [(3, 85), (3, 84)] M (fun r1 N1 => K (N1 84 2) N1)) : ow_At C (EM A L N) (d + 1) mX12_back 0 [(0, (3, 83))] [] (0, 0) M K := by
  refine ow_aload_n (pc' := 1) (x := 83) dX12_back_0 rfl rfl ?_
  refine ow_getf3 (pc' := 4) (t := 3) (ji := 1) (val := 85) dX12_back_1 fRX12_13 rfl rfl rfl (of_eq_true eo83) eg83_1 ?_
  refine ow_aload_n (pc' := 5) (x := 83) dX12_back_4 rfl rfl ?_
  refine ow_getf3 (pc' := 8) (t := 3) (ji := 0) (val := 84) dX12_back_5 fRX12_7 rfl rfl rfl (of_eq_true eo83) eg83_0 ?_
  refine ow_callSv (z := mX12_copy) (n := 2) (vs := [(3, 85), (3, 84)]) (st := []) (pc' := 11) (b1 := (0, 0)) (b2 := (0, 0)) dX12_back_8 lRX12_87 kX12_copy zX12_copy rfl rfl rfl rfl rfl rfl (ow_Sp.mono h (fun r1 N1 h => ?_))
  refine ow_aload_n (pc' := 12) (x := 83) dX12_back_11 rfl rfl ?_
  refine ow_getf3 (pc' := 15) (t := 3) (ji := 0) (val := 84) dX12_back_12 fRX12_7 rfl rfl rfl (of_eq_true eo83) eg83_0 ?_
  refine ow_iconst (pc' := 16) (n := 2) dX12_back_15 rfl rfl ?_
  refine ow_iaload3 (pc' := 17) (val := N1 84 2) dX12_back_16 rfl (Eq.mpr (er84 _) ⟨by decide, by decide⟩) (ea84 _) ?_
  exact ow_iret dX12_back_17 rfl rfl h
theorem fX12_back {C : ow_C} {A L N : Int} {d : Nat} {M : ow_M} {K : Int → ow_M → Prop} (h : ow_Sp C (EM A L N) d mX12_copy (0, 0) [(3, 85), (3, 84)] M (fun r1 N1 => K (N1 84 2) N1)) : ow_Sp C (EM A L N) (d + 1) mX12_back (0, 0) [(3, 83)] M K := ow_enter (by decide +kernel) rfl rfl (cX12_back_0 h)
set_option maxRecDepth 20000 in
theorem cX12_about_0 {C : ow_C} {A L N : Int} {d : Nat} {M : ow_M} {K : Int → ow_M → Prop} {l1 : Int} (h : ow_I (9 + (M 84 2)) ∧ ow_Sp C (EM A L N) d mX12_isIn (0, 0) [(0, l1), (0, 10), (0, 9 + (M 84 2))] M (fun r1 N1 => (r1 = 0 → (l1 = 0 → K A N1) ∧ (l1 ≠ 0 → (l1 = 1 → K L N1) ∧ (l1 ≠ 1 → (l1 = 2 → K N N1) ∧ (l1 ≠ 2 → (l1 = 3 → K (N1 84 0) N1) ∧ (l1 ≠ 3 → (l1 = 4 → K (N1 84 1) N1) ∧ (l1 ≠ 4 → (l1 = 5 → K (N1 84 2) N1) ∧ (l1 ≠ 5 → (l1 = 6 → K (N1 84 3) N1) ∧ (l1 ≠ 6 → (l1 = 7 → K (N1 84 4) N1) ∧ (l1 ≠ 7 → (l1 = 8 → K (N1 83 7) N1) ∧ (l1 ≠ 8 → (l1 = 9 → ow_Sp C (EM A L N) d mX12_roads (0, 0) [(3, 83)] N1 (fun r2 N2 => K r2 N2)) ∧ (l1 ≠ 9 → K ((-2)) N1))))))))))) ∧ (r1 ≠ 0 → ow_I (l1 - 10) ∧ ow_I (2 * (l1 - 10)) ∧ ow_I (10 + (2 * (l1 - 10))) ∧ ow_I ((10 + (2 * (l1 - 10))) + 1) ∧ (0 ≤ ((10 + (2 * (l1 - 10))) + 1) ∧ ((10 + (2 * (l1 - 10))) + 1) < 215) ∧ K (N1 84 ((10 + (2 * (l1 - 10))) + 1)) N1))) : ow_At C (EM A L N) (d + 1) mX12_about 0 [(0, (3, 83)), (1, (0, l1))] [] (0, 0) M K := by
  refine ow_iload_n (pc' := 1) (x := l1) dX12_about_0 rfl rfl ?_
  refine ow_bipush (pc' := 3) (n := 10) dX12_about_1 rfl rfl ?_
  refine ow_bipush (pc' := 5) (n := 9) dX12_about_3 rfl rfl ?_
  refine ow_aload_n (pc' := 6) (x := 83) dX12_about_5 rfl rfl ?_
  refine ow_getf3 (pc' := 9) (t := 3) (ji := 0) (val := 84) dX12_about_6 fRX12_7 rfl rfl rfl (of_eq_true eo83) eg83_0 ?_
  refine ow_iconst (pc' := 10) (n := 2) dX12_about_9 rfl rfl ?_
  refine ow_iaload3 (pc' := 11) (val := M 84 2) dX12_about_10 rfl (Eq.mpr (er84 _) ⟨by decide, by decide⟩) (ea84 _) ?_
  obtain ⟨vv1, h⟩ := h
  refine ow_iadd (pc' := 12) dX12_about_11 vv1 rfl ?_
  refine ow_callSp (z := mX12_isIn) (n := 3) (vs := [(0, l1), (0, 10), (0, 9 + (M 84 2))]) (st := []) (pc' := 15) (b1 := (0, 0)) (b2 := (0, 0)) dX12_about_12 lRX12_91 kX12_isIn zX12_isIn rfl rfl rfl rfl rfl rfl (ow_Sp.mono h (fun r1 N1 h => ?_))
  refine ow_ifeq (pc' := 18) (tg := 35) dX12_about_15 rfl rfl (fun hc => ?_) (fun hc => ?_)
  · have h := h.1 hc
    refine ow_iload_n (pc' := 36) (x := l1) dX12_about_35 rfl rfl ?_
    refine ow_tsw (tbl := [(0, 92), (1, 97), (2, 102), (3, 107), (4, 114), (5, 121), (6, 128), (7, 135), (8, 142), (9, 147)]) (td := 152) dX12_about_36 rfl rfl rfl rfl ?_
    refine And.intro (fun hc => ?_) (fun hc => ?_)
    · have h := h.1 hc
      refine ow_aload_n (pc' := 93) (x := 83) dX12_about_92 rfl rfl ?_
      refine ow_getf3 (pc' := 96) (t := 0) (ji := 2) (val := A) dX12_about_93 fRX12_74 rfl rfl rfl (of_eq_true eo83) eg83_2 ?_
      exact ow_iret dX12_about_96 rfl rfl h
    have h := h.2 hc
    refine And.intro (fun hc => ?_) (fun hc => ?_)
    · have h := h.1 hc
      refine ow_aload_n (pc' := 98) (x := 83) dX12_about_97 rfl rfl ?_
      refine ow_getf3 (pc' := 101) (t := 0) (ji := 3) (val := L) dX12_about_98 fRX12_81 rfl rfl rfl (of_eq_true eo83) eg83_3 ?_
      exact ow_iret dX12_about_101 rfl rfl h
    have h := h.2 hc
    refine And.intro (fun hc => ?_) (fun hc => ?_)
    · have h := h.1 hc
      refine ow_aload_n (pc' := 103) (x := 83) dX12_about_102 rfl rfl ?_
      refine ow_getf3 (pc' := 106) (t := 0) (ji := 4) (val := N) dX12_about_103 fRX12_84 rfl rfl rfl (of_eq_true eo83) eg83_4 ?_
      exact ow_iret dX12_about_106 rfl rfl h
    have h := h.2 hc
    refine And.intro (fun hc => ?_) (fun hc => ?_)
    · have h := h.1 hc
      refine ow_aload_n (pc' := 108) (x := 83) dX12_about_107 rfl rfl ?_
      refine ow_getf3 (pc' := 111) (t := 3) (ji := 0) (val := 84) dX12_about_108 fRX12_7 rfl rfl rfl (of_eq_true eo83) eg83_0 ?_
      refine ow_iconst (pc' := 112) (n := 0) dX12_about_111 rfl rfl ?_
      refine ow_iaload3 (pc' := 113) (val := N1 84 0) dX12_about_112 rfl (Eq.mpr (er84 _) ⟨by decide, by decide⟩) (ea84 _) ?_
      exact ow_iret dX12_about_113 rfl rfl h
    have h := h.2 hc
    refine And.intro (fun hc => ?_) (fun hc => ?_)
    · have h := h.1 hc
      refine ow_aload_n (pc' := 115) (x := 83) dX12_about_114 rfl rfl ?_
      refine ow_getf3 (pc' := 118) (t := 3) (ji := 0) (val := 84) dX12_about_115 fRX12_7 rfl rfl rfl (of_eq_true eo83) eg83_0 ?_
      refine ow_iconst (pc' := 119) (n := 1) dX12_about_118 rfl rfl ?_
      refine ow_iaload3 (pc' := 120) (val := N1 84 1) dX12_about_119 rfl (Eq.mpr (er84 _) ⟨by decide, by decide⟩) (ea84 _) ?_
      exact ow_iret dX12_about_120 rfl rfl h
    have h := h.2 hc
    refine And.intro (fun hc => ?_) (fun hc => ?_)
    · have h := h.1 hc
      refine ow_aload_n (pc' := 122) (x := 83) dX12_about_121 rfl rfl ?_
      refine ow_getf3 (pc' := 125) (t := 3) (ji := 0) (val := 84) dX12_about_122 fRX12_7 rfl rfl rfl (of_eq_true eo83) eg83_0 ?_
      refine ow_iconst (pc' := 126) (n := 2) dX12_about_125 rfl rfl ?_
      refine ow_iaload3 (pc' := 127) (val := N1 84 2) dX12_about_126 rfl (Eq.mpr (er84 _) ⟨by decide, by decide⟩) (ea84 _) ?_
      exact ow_iret dX12_about_127 rfl rfl h
    have h := h.2 hc
    refine And.intro (fun hc => ?_) (fun hc => ?_)
    · have h := h.1 hc
      refine ow_aload_n (pc' := 129) (x := 83) dX12_about_128 rfl rfl ?_
      refine ow_getf3 (pc' := 132) (t := 3) (ji := 0) (val := 84) dX12_about_129 fRX12_7 rfl rfl rfl (of_eq_true eo83) eg83_0 ?_
      refine ow_iconst (pc' := 133) (n := 3) dX12_about_132 rfl rfl ?_
      refine ow_iaload3 (pc' := 134) (val := N1 84 3) dX12_about_133 rfl (Eq.mpr (er84 _) ⟨by decide, by decide⟩) (ea84 _) ?_
      exact ow_iret dX12_about_134 rfl rfl h
    have h := h.2 hc
    refine And.intro (fun hc => ?_) (fun hc => ?_)
    · have h := h.1 hc
      refine ow_aload_n (pc' := 136) (x := 83) dX12_about_135 rfl rfl ?_
      refine ow_getf3 (pc' := 139) (t := 3) (ji := 0) (val := 84) dX12_about_136 fRX12_7 rfl rfl rfl (of_eq_true eo83) eg83_0 ?_
      refine ow_iconst (pc' := 140) (n := 4) dX12_about_139 rfl rfl ?_
      refine ow_iaload3 (pc' := 141) (val := N1 84 4) dX12_about_140 rfl (Eq.mpr (er84 _) ⟨by decide, by decide⟩) (ea84 _) ?_
      exact ow_iret dX12_about_141 rfl rfl h
    have h := h.2 hc
    refine And.intro (fun hc => ?_) (fun hc => ?_)
    · have h := h.1 hc
      refine ow_aload_n (pc' := 143) (x := 83) dX12_about_142 rfl rfl ?_
      refine ow_getf3 (pc' := 146) (t := 0) (ji := 7) (val := N1 83 7) dX12_about_143 fRX12_109 rfl rfl rfl (of_eq_true eo83) eg83_7 ?_
      exact ow_iret dX12_about_146 rfl rfl h
    have h := h.2 hc
    refine And.intro (fun hc => ?_) (fun hc => ?_)
    · have h := h.1 hc
      refine ow_aload_n (pc' := 148) (x := 83) dX12_about_147 rfl rfl ?_
      refine ow_callVp (z := mX12_roads) (n := 0) (k := 12) (vs := []) (x := 83) (st := []) (pc' := 151) (b1 := (0, 0)) (b2 := (0, 0)) dX12_about_148 lRX12_349 kX12_roads iX12_roads rfl rfl rfl rfl rfl rfl (of_eq_true eo83) (ow_Sp.mono h (fun r2 N2 h => ?_))
      exact ow_iret dX12_about_151 rfl rfl h
    have h := h.2 hc
    refine ow_bipush (pc' := 154) (n := (-2)) dX12_about_152 rfl rfl ?_
    exact ow_iret dX12_about_154 rfl rfl h
  · have h := h.2 hc
    refine ow_aload_n (pc' := 19) (x := 83) dX12_about_18 rfl rfl ?_
    refine ow_getf3 (pc' := 22) (t := 3) (ji := 0) (val := 84) dX12_about_19 fRX12_7 rfl rfl rfl (of_eq_true eo83) eg83_0 ?_
    refine ow_bipush (pc' := 24) (n := 10) dX12_about_22 rfl rfl ?_
    refine ow_iconst (pc' := 25) (n := 2) dX12_about_24 rfl rfl ?_
    refine ow_iload_n (pc' := 26) (x := l1) dX12_about_25 rfl rfl ?_
    refine ow_bipush (pc' := 28) (n := 10) dX12_about_26 rfl rfl ?_
    obtain ⟨vv2, h⟩ := h
    refine ow_isub (pc' := 29) dX12_about_28 vv2 rfl ?_
    obtain ⟨vv3, h⟩ := h
    refine ow_imul (pc' := 30) dX12_about_29 vv3 rfl ?_
    obtain ⟨vv4, h⟩ := h
    refine ow_iadd (pc' := 31) dX12_about_30 vv4 rfl ?_
    refine ow_iconst (pc' := 32) (n := 1) dX12_about_31 rfl rfl ?_
    obtain ⟨vv5, h⟩ := h
    refine ow_iadd (pc' := 33) dX12_about_32 vv5 rfl ?_
    obtain ⟨vv6, h⟩ := h
    refine ow_iaload3 (pc' := 34) (val := N1 84 ((10 + (2 * (l1 - 10))) + 1)) dX12_about_33 rfl (Eq.mpr (er84 _) vv6) (ea84 _) ?_
    exact ow_iret dX12_about_34 rfl rfl h
theorem fX12_about {C : ow_C} {A L N : Int} {d : Nat} {M : ow_M} {K : Int → ow_M → Prop} {l1 : Int} (h : ow_I (9 + (M 84 2)) ∧ ow_Sp C (EM A L N) d mX12_isIn (0, 0) [(0, l1), (0, 10), (0, 9 + (M 84 2))] M (fun r1 N1 => (r1 = 0 → (l1 = 0 → K A N1) ∧ (l1 ≠ 0 → (l1 = 1 → K L N1) ∧ (l1 ≠ 1 → (l1 = 2 → K N N1) ∧ (l1 ≠ 2 → (l1 = 3 → K (N1 84 0) N1) ∧ (l1 ≠ 3 → (l1 = 4 → K (N1 84 1) N1) ∧ (l1 ≠ 4 → (l1 = 5 → K (N1 84 2) N1) ∧ (l1 ≠ 5 → (l1 = 6 → K (N1 84 3) N1) ∧ (l1 ≠ 6 → (l1 = 7 → K (N1 84 4) N1) ∧ (l1 ≠ 7 → (l1 = 8 → K (N1 83 7) N1) ∧ (l1 ≠ 8 → (l1 = 9 → ow_Sp C (EM A L N) d mX12_roads (0, 0) [(3, 83)] N1 (fun r2 N2 => K r2 N2)) ∧ (l1 ≠ 9 → K ((-2)) N1))))))))))) ∧ (r1 ≠ 0 → ow_I (l1 - 10) ∧ ow_I (2 * (l1 - 10)) ∧ ow_I (10 + (2 * (l1 - 10))) ∧ ow_I ((10 + (2 * (l1 - 10))) + 1) ∧ (0 ≤ ((10 + (2 * (l1 - 10))) + 1) ∧ ((10 + (2 * (l1 - 10))) + 1) < 215) ∧ K (N1 84 ((10 + (2 * (l1 - 10))) + 1)) N1))) : ow_Sp C (EM A L N) (d + 1) mX12_about (0, 0) [(3, 83), (0, l1)] M K := ow_enter (by decide +kernel) rfl rfl (cX12_about_0 h)
