set_option maxRecDepth 20000 in
theorem cX8_cut_0 {C : ow_C} {A L N : Int} {d : Nat} {M : ow_M} {K : Int → ow_M → Prop} {l1 l2 : Int} (h : ∀ N1, N1 = ow_up M 53 6 l1 → (0 ≤ l1 → (0 ≤ l1 ∧ l1 < ow_nb (EM A L N) N1 ∧ ((EM A L N).2.1 l1).1 = 100 ∧ 0 ≤ ((EM A L N).2.1 l1).2 ∧ ((EM A L N).2.1 l1).2 ≤ 2147483647) ∧ ∀ N2, N2 = ow_up N1 53 7 (max 0 (min l2 (((EM A L N).2.1 l1).2))) → ∀ N3, N3 = ow_up N2 53 5 0 → ow_At C (EM A L N) (d + 1) mX8_cut 37 [(0, (3, 53)), (3, (0, 0)), (4, (0, 0))] [] (0, 0) N3 K) ∧ (l1 < 0 → ∀ N4, N4 = ow_up N1 53 7 0 → ∀ N5, N5 = ow_up N4 53 5 0 → ow_At C (EM A L N) (d + 1) mX8_cut 37 [(0, (3, 53)), (3, (0, 0)), (4, (0, 0))] [] (0, 0) N5 K)) : ow_At C (EM A L N) (d + 1) mX8_cut 0 [(0, (3, 53)), (1, (3, l1)), (2, (0, l2))] [] (0, 0) M K := by
  refine ow_aload_n (pc' := 1) (x := 53) dX8_cut_0 rfl rfl ?_
  refine ow_aload_n (pc' := 2) (x := l1) dX8_cut_1 rfl rfl ?_
  refine ow_putf2 (pc' := 5) (t := 3) (ji := 6) dX8_cut_2 fRX8_28 rfl rfl rfl rfl (of_eq_true eo53) (of_eq_true en53_6) (fun hz => absurd hz (by decide)) (fun N1 eN1 => ?_)
  have h := h N1 eN1
  refine ow_aload_n (pc' := 6) (x := 53) dX8_cut_5 rfl rfl ?_
  refine ow_aload_n (pc' := 7) (x := l1) dX8_cut_6 rfl rfl ?_
  refine ow_ifnonnull (pc' := 10) (tg := 14) dX8_cut_7 rfl rfl (fun hc => ?_) (fun hc => ?_)
  · have h := h.1 hc
    refine ow_iconst (pc' := 15) (n := 0) dX8_cut_14 rfl rfl ?_
    refine ow_iload_n (pc' := 16) (x := l2) dX8_cut_15 rfl rfl ?_
    refine ow_aload_n (pc' := 17) (x := l1) dX8_cut_16 rfl rfl ?_
    obtain ⟨⟨w, w1, w2, w3, w4⟩, h⟩ := h
    refine ow_alen (pc' := 18) (t := 100) dX8_cut_17 rfl rfl w w1 w2 w3 w4 ?_
    refine ow_mmin (pc' := 21) dX8_cut_18 lRX8_38 ow_mN1 ow_mi0 ow_mN2 rfl rfl ?_
    refine ow_mmax (pc' := 24) dX8_cut_21 lRX8_44 ow_mM1 ow_mi0 ow_mM2 rfl rfl ?_
    refine ow_putf2 (pc' := 27) (t := 0) (ji := 7) dX8_cut_24 fRX8_31 rfl rfl rfl rfl (of_eq_true eo53) (of_eq_true en53_7) (fun hz => absurd hz (by decide)) (fun N2 eN2 => ?_)
    have h := h N2 eN2
    refine ow_aload_n (pc' := 28) (x := 53) dX8_cut_27 rfl rfl ?_
    refine ow_iconst (pc' := 29) (n := 0) dX8_cut_28 rfl rfl ?_
    refine ow_putf2 (pc' := 32) (t := 0) (ji := 5) dX8_cut_29 fRX8_24 rfl rfl rfl rfl (of_eq_true eo53) (of_eq_true en53_5) (fun hz => absurd hz (by decide)) (fun N3 eN3 => ?_)
    have h := h N3 eN3
    refine ow_iconst (pc' := 33) (n := 0) dX8_cut_32 rfl rfl ?_
    refine ow_istore_n (pc' := 34) (lv' := [(0, (3, 53)), (1, (3, l1)), (2, (0, l2)), (3, (0, 0))]) dX8_cut_33 rfl rfl rfl ?_
    refine ow_iconst (pc' := 35) (n := 0) dX8_cut_34 rfl rfl ?_
    refine ow_istore (pc' := 37) (lv' := [(0, (3, 53)), (1, (3, l1)), (2, (0, l2)), (3, (0, 0)), (4, (0, 0))]) dX8_cut_35 rfl rfl rfl ?_
    refine ow_sub (lv' := [(0, (3, 53)), (3, (0, 0)), (4, (0, 0))]) [0, 3, 4] rfl ?_
    exact h
  · have h := h.2 hc
    refine ow_iconst (pc' := 11) (n := 0) dX8_cut_10 rfl rfl ?_
    refine ow_goto (tg := 24) dX8_cut_11 rfl ?_
    refine ow_putf2 (pc' := 27) (t := 0) (ji := 7) dX8_cut_24 fRX8_31 rfl rfl rfl rfl (of_eq_true eo53) (of_eq_true en53_7) (fun hz => absurd hz (by decide)) (fun N4 eN4 => ?_)
    have h := h N4 eN4
    refine ow_aload_n (pc' := 28) (x := 53) dX8_cut_27 rfl rfl ?_
    refine ow_iconst (pc' := 29) (n := 0) dX8_cut_28 rfl rfl ?_
    refine ow_putf2 (pc' := 32) (t := 0) (ji := 5) dX8_cut_29 fRX8_24 rfl rfl rfl rfl (of_eq_true eo53) (of_eq_true en53_5) (fun hz => absurd hz (by decide)) (fun N5 eN5 => ?_)
    have h := h N5 eN5
    refine ow_iconst (pc' := 33) (n := 0) dX8_cut_32 rfl rfl ?_
    refine ow_istore_n (pc' := 34) (lv' := [(0, (3, 53)), (1, (3, l1)), (2, (0, l2)), (3, (0, 0))]) dX8_cut_33 rfl rfl rfl ?_
    refine ow_iconst (pc' := 35) (n := 0) dX8_cut_34 rfl rfl ?_
    refine ow_istore (pc' := 37) (lv' := [(0, (3, 53)), (1, (3, l1)), (2, (0, l2)), (3, (0, 0)), (4, (0, 0))]) dX8_cut_35 rfl rfl rfl ?_
    refine ow_sub (lv' := [(0, (3, 53)), (3, (0, 0)), (4, (0, 0))]) [0, 3, 4] rfl ?_
    exact h
set_option maxRecDepth 20000 in
theorem cX8_cut_37 {C : ow_C} {A L N : Int} {d : Nat} {M : ow_M} {K : Int → ow_M → Prop} {l3 l4 : Int} (h : (300 ≤ l4 → ow_At C (EM A L N) (d + 1) mX8_cut 92 [(0, (3, 53))] [] (0, 0) M K) ∧ (l4 < 300 → ((M 53 7) ≤ l3 → ow_At C (EM A L N) (d + 1) mX8_cut 92 [(0, (3, 53))] [] (0, 0) M K) ∧ (l3 < (M 53 7) → (300 ≤ (M 53 5) → ow_At C (EM A L N) (d + 1) mX8_cut 92 [(0, (3, 53))] [] (0, 0) M K) ∧ ((M 53 5) < 300 → ow_Sp C (EM A L N) d mX8_byteAt (0, 0) [(3, 53), (0, l3)] M (fun r1 N1 => ow_Sp C (EM A L N) d mX8_isBlank (0, 0) [(0, r1)] N1 (fun r2 N2 => (r2 = 0 → ow_Sp C (EM A L N) d mX8_cutOne (0, 0) [(3, 53), (0, l3)] N2 (fun r3 N3 => ow_I (l4 + 1) ∧ ow_At C (EM A L N) (d + 1) mX8_cut 37 [(0, (3, 53)), (3, (0, r3)), (4, (0, l4 + 1))] [] (0, 0) N3 K)) ∧ (r2 ≠ 0 → ow_I (l3 + 1) ∧ ow_I (l4 + 1) ∧ ow_At C (EM A L N) (d + 1) mX8_cut 37 [(0, (3, 53)), (3, (0, l3 + 1)), (4, (0, l4 + 1))] [] (0, 0) N2 K))))))) : ow_At C (EM A L N) (d + 1) mX8_cut 37 [(0, (3, 53)), (3, (0, l3)), (4, (0, l4))] [] (0, 0) M K := by
  refine ow_iload (pc' := 39) (x := l4) dX8_cut_37 rfl rfl ?_
  refine ow_sipush (pc' := 42) (n := 300) dX8_cut_39 rfl rfl ?_
  refine ow_icmpge (pc' := 45) (tg := 92) dX8_cut_42 rfl rfl (fun hc => ?_) (fun hc => ?_)
  · have h := h.1 hc
    refine ow_sub (lv' := [(0, (3, 53))]) [0] rfl ?_
    exact h
  · have h := h.2 hc
    refine ow_iload_n (pc' := 46) (x := l3) dX8_cut_45 rfl rfl ?_
    refine ow_aload_n (pc' := 47) (x := 53) dX8_cut_46 rfl rfl ?_
    refine ow_getf3 (pc' := 50) (t := 0) (ji := 7) (val := M 53 7) dX8_cut_47 fRX8_31 rfl rfl rfl (of_eq_true eo53) eg53_7 ?_
    refine ow_icmpge (pc' := 53) (tg := 92) dX8_cut_50 rfl rfl (fun hc => ?_) (fun hc => ?_)
    · have h := h.1 hc
      refine ow_sub (lv' := [(0, (3, 53))]) [0] rfl ?_
      exact h
    · have h := h.2 hc
      refine ow_aload_n (pc' := 54) (x := 53) dX8_cut_53 rfl rfl ?_
      refine ow_getf3 (pc' := 57) (t := 0) (ji := 5) (val := M 53 5) dX8_cut_54 fRX8_24 rfl rfl rfl (of_eq_true eo53) eg53_5 ?_
      refine ow_sipush (pc' := 60) (n := 300) dX8_cut_57 rfl rfl ?_
      refine ow_icmpge (pc' := 63) (tg := 92) dX8_cut_60 rfl rfl (fun hc => ?_) (fun hc => ?_)
      · have h := h.1 hc
        refine ow_sub (lv' := [(0, (3, 53))]) [0] rfl ?_
        exact h
      · have h := h.2 hc
        refine ow_aload_n (pc' := 64) (x := 53) dX8_cut_63 rfl rfl ?_
        refine ow_iload_n (pc' := 65) (x := l3) dX8_cut_64 rfl rfl ?_
        refine ow_callVp (z := mX8_byteAt) (n := 1) (k := 8) (vs := [(0, l3)]) (x := 53) (st := []) (pc' := 68) (b1 := (0, 0)) (b2 := (0, 0)) dX8_cut_65 lRX8_47 kX8_byteAt iX8_byteAt rfl rfl rfl rfl rfl rfl (of_eq_true eo53) (ow_Sp.mono h (fun r1 N1 h => ?_))
        refine ow_callSp (z := mX8_isBlank) (n := 1) (vs := [(0, r1)]) (st := []) (pc' := 71) (b1 := (0, 0)) (b2 := (0, 0)) dX8_cut_68 lRX8_51 kX8_isBlank zX8_isBlank rfl rfl rfl rfl rfl rfl (ow_Sp.mono h (fun r2 N2 h => ?_))
        refine ow_ifeq (pc' := 74) (tg := 80) dX8_cut_71 rfl rfl (fun hc => ?_) (fun hc => ?_)
        · have h := h.1 hc
          refine ow_aload_n (pc' := 81) (x := 53) dX8_cut_80 rfl rfl ?_
          refine ow_iload_n (pc' := 82) (x := l3) dX8_cut_81 rfl rfl ?_
          refine ow_callVp (z := mX8_cutOne) (n := 1) (k := 8) (vs := [(0, l3)]) (x := 53) (st := []) (pc' := 85) (b1 := (0, 0)) (b2 := (0, 0)) dX8_cut_82 lRX8_55 kX8_cutOne iX8_cutOne rfl rfl rfl rfl rfl rfl (of_eq_true eo53) (ow_Sp.mono h (fun r3 N3 h => ?_))
          refine ow_istore_n (pc' := 86) (lv' := [(0, (3, 53)), (3, (0, r3)), (4, (0, l4))]) dX8_cut_85 rfl rfl rfl ?_
          obtain ⟨vv1, h⟩ := h
          refine ow_iinc (pc' := 89) (lv' := [(0, (3, 53)), (3, (0, r3)), (4, (0, l4 + 1))]) dX8_cut_86 rfl vv1 rfl rfl rfl ?_
          refine ow_goto (tg := 37) dX8_cut_89 rfl ?_
          exact h
        · have h := h.2 hc
          obtain ⟨vv2, h⟩ := h
          refine ow_iinc (pc' := 77) (lv' := [(0, (3, 53)), (3, (0, l3 + 1)), (4, (0, l4))]) dX8_cut_74 rfl vv2 rfl rfl rfl ?_
          refine ow_goto (tg := 86) dX8_cut_77 rfl ?_
          obtain ⟨vv3, h⟩ := h
          refine ow_iinc (pc' := 89) (lv' := [(0, (3, 53)), (3, (0, l3 + 1)), (4, (0, l4 + 1))]) dX8_cut_86 rfl vv3 rfl rfl rfl ?_
          refine ow_goto (tg := 37) dX8_cut_89 rfl ?_
          exact h
set_option maxRecDepth 20000 in
theorem cX8_cut_92 {C : ow_C} {A L N : Int} {d : Nat} {M : ow_M} {K : Int → ow_M → Prop} (h : (0 ≤ (M 53 5) ∧ (M 53 5) < 301) ∧ ∀ N1, N1 = ow_up M 54 (M 53 5) 0 → (0 ≤ (N1 53 5) ∧ (N1 53 5) < 301) ∧ ∀ N2, N2 = ow_up N1 55 (N1 53 5) (N1 53 7) → (0 ≤ (N2 53 5) ∧ (N2 53 5) < 301) ∧ ∀ N3, N3 = ow_up N2 56 (N2 53 5) ((-1)) → ow_I ((N3 53 5) + 1) ∧ ∀ N4, N4 = ow_up N3 53 5 ((N3 53 5) + 1) → K 0 N4) : ow_At C (EM A L N) (d + 1) mX8_cut 92 [(0, (3, 53))] [] (0, 0) M K := by
  refine ow_aload_n (pc' := 93) (x := 53) dX8_cut_92 rfl rfl ?_
  refine ow_getf3 (pc' := 96) (t := 3) (ji := 1) (val := 54) dX8_cut_93 fRX8_9 rfl rfl rfl (of_eq_true eo53) eg53_1 ?_
  refine ow_aload_n (pc' := 97) (x := 53) dX8_cut_96 rfl rfl ?_
  refine ow_getf3 (pc' := 100) (t := 0) (ji := 5) (val := M 53 5) dX8_cut_97 fRX8_24 rfl rfl rfl (of_eq_true eo53) eg53_5 ?_
  refine ow_iconst (pc' := 101) (n := 0) dX8_cut_100 rfl rfl ?_
  obtain ⟨vv1, h⟩ := h
  refine ow_iastore2 (pc' := 102) dX8_cut_101 rfl (Eq.mpr (er54 _) vv1) (of_eq_true (en54 _)) (fun N1 eN1 => ?_)
  have h := h N1 eN1
  refine ow_aload_n (pc' := 103) (x := 53) dX8_cut_102 rfl rfl ?_
  refine ow_getf3 (pc' := 106) (t := 3) (ji := 2) (val := 55) dX8_cut_103 fRX8_15 rfl rfl rfl (of_eq_true eo53) eg53_2 ?_
  refine ow_aload_n (pc' := 107) (x := 53) dX8_cut_106 rfl rfl ?_
  refine ow_getf3 (pc' := 110) (t := 0) (ji := 5) (val := N1 53 5) dX8_cut_107 fRX8_24 rfl rfl rfl (of_eq_true eo53) eg53_5 ?_
  refine ow_aload_n (pc' := 111) (x := 53) dX8_cut_110 rfl rfl ?_
  refine ow_getf3 (pc' := 114) (t := 0) (ji := 7) (val := N1 53 7) dX8_cut_111 fRX8_31 rfl rfl rfl (of_eq_true eo53) eg53_7 ?_
  obtain ⟨vv2, h⟩ := h
  refine ow_iastore2 (pc' := 115) dX8_cut_114 rfl (Eq.mpr (er55 _) vv2) (of_eq_true (en55 _)) (fun N2 eN2 => ?_)
  have h := h N2 eN2
  refine ow_aload_n (pc' := 116) (x := 53) dX8_cut_115 rfl rfl ?_
  refine ow_getf3 (pc' := 119) (t := 3) (ji := 3) (val := 56) dX8_cut_116 fRX8_18 rfl rfl rfl (of_eq_true eo53) eg53_3 ?_
  refine ow_aload_n (pc' := 120) (x := 53) dX8_cut_119 rfl rfl ?_
  refine ow_getf3 (pc' := 123) (t := 0) (ji := 5) (val := N2 53 5) dX8_cut_120 fRX8_24 rfl rfl rfl (of_eq_true eo53) eg53_5 ?_
  refine ow_iconst (pc' := 124) (n := (-1)) dX8_cut_123 rfl rfl ?_
  obtain ⟨vv3, h⟩ := h
  refine ow_iastore2 (pc' := 125) dX8_cut_124 rfl (Eq.mpr (er56 _) vv3) (of_eq_true (en56 _)) (fun N3 eN3 => ?_)
  have h := h N3 eN3
  refine ow_aload_n (pc' := 126) (x := 53) dX8_cut_125 rfl rfl ?_
  refine ow_dup (pc' := 127) dX8_cut_126 rfl rfl ?_
  refine ow_getf3 (pc' := 130) (t := 0) (ji := 5) (val := N3 53 5) dX8_cut_127 fRX8_24 rfl rfl rfl (of_eq_true eo53) eg53_5 ?_
  refine ow_iconst (pc' := 131) (n := 1) dX8_cut_130 rfl rfl ?_
  obtain ⟨vv4, h⟩ := h
  refine ow_iadd (pc' := 132) dX8_cut_131 vv4 rfl ?_
  refine ow_putf2 (pc' := 135) (t := 0) (ji := 5) dX8_cut_132 fRX8_24 rfl rfl rfl rfl (of_eq_true eo53) (of_eq_true en53_5) (fun hz => absurd hz (by decide)) (fun N4 eN4 => ?_)
  have h := h N4 eN4
  exact ow_vret dX8_cut_135 rfl rfl h
theorem fX8_cut {C : ow_C} {A L N : Int} {d : Nat} {M : ow_M} {K : Int → ow_M → Prop} {l1 l2 : Int} (h : ∀ N1, N1 = ow_up M 53 6 l1 → (0 ≤ l1 → (0 ≤ l1 ∧ l1 < ow_nb (EM A L N) N1 ∧ ((EM A L N).2.1 l1).1 = 100 ∧ 0 ≤ ((EM A L N).2.1 l1).2 ∧ ((EM A L N).2.1 l1).2 ≤ 2147483647) ∧ ∀ N2, N2 = ow_up N1 53 7 (max 0 (min l2 (((EM A L N).2.1 l1).2))) → ∀ N3, N3 = ow_up N2 53 5 0 → ow_At C (EM A L N) (d + 1) mX8_cut 37 [(0, (3, 53)), (3, (0, 0)), (4, (0, 0))] [] (0, 0) N3 K) ∧ (l1 < 0 → ∀ N4, N4 = ow_up N1 53 7 0 → ∀ N5, N5 = ow_up N4 53 5 0 → ow_At C (EM A L N) (d + 1) mX8_cut 37 [(0, (3, 53)), (3, (0, 0)), (4, (0, 0))] [] (0, 0) N5 K)) : ow_Sp C (EM A L N) (d + 1) mX8_cut (0, 0) [(3, 53), (3, l1), (0, l2)] M K := ow_enter (by decide +kernel) rfl rfl (cX8_cut_0 h)
set_option maxRecDepth 20000 in
theorem cX8_cutOne_0 {C : ow_C} {A L N : Int} {d : Nat} {M : ow_M} {K : Int → ow_M → Prop} {l1 : Int} (h : ow_Sp C (EM A L N) d mX8_byteAt (0, 0) [(3, 53), (0, l1)] M (fun r1 N1 => ow_I (l1 + 1) ∧ (0 ≤ (N1 53 5) ∧ (N1 53 5) < 301) ∧ ∀ N2, N2 = ow_up N1 56 (N1 53 5) ((-1)) → (0 ≤ (N2 53 5) ∧ (N2 53 5) < 301) ∧ ∀ N3, N3 = ow_up N2 55 (N2 53 5) l1 → ow_Sp C (EM A L N) d mX8_isLetter (0, 0) [(0, r1)] N3 (fun r4 N4 => (r4 = 0 → ow_Sp C (EM A L N) d mX8_isDigit (0, 0) [(0, r1)] N4 (fun r5 N5 => (r5 = 0 → (r1 = 60 → ow_At C (EM A L N) (d + 1) mX8_cutOne 139 [(0, (3, 53)), (2, (0, r1)), (3, (0, l1 + 1))] [] (0, 0) N5 K) ∧ (r1 ≠ 60 → (r1 ≠ 62 → ow_At C (EM A L N) (d + 1) mX8_cutOne 179 [(0, (3, 53)), (2, (0, r1)), (3, (0, l1 + 1))] [] (0, 0) N5 K) ∧ (r1 = 62 → ow_At C (EM A L N) (d + 1) mX8_cutOne 139 [(0, (3, 53)), (2, (0, r1)), (3, (0, l1 + 1))] [] (0, 0) N5 K))) ∧ (r5 ≠ 0 → ow_Sp C (EM A L N) d mX8_digitsStop (0, 0) [(3, 53), (0, l1)] N5 (fun r6 N6 => (0 ≤ (N6 53 5) ∧ (N6 53 5) < 301) ∧ ∀ N7, N7 = ow_up N6 54 (N6 53 5) 2 → ow_Sp C (EM A L N) d mX8_numberOf (0, 0) [(3, 53), (0, l1), (0, r6)] N7 (fun r8 N8 => (0 ≤ (N7 53 5) ∧ (N7 53 5) < 301) ∧ ∀ N9, N9 = ow_up N8 57 (N7 53 5) r8 → ow_I ((N9 53 5) + 1) ∧ ∀ N10, N10 = ow_up N9 53 5 ((N9 53 5) + 1) → K r6 N10))))) ∧ (r4 ≠ 0 → ow_Sp C (EM A L N) d mX8_lettersStop (0, 0) [(3, 53), (0, l1)] N4 (fun r11 N11 => (0 ≤ (N11 53 5) ∧ (N11 53 5) < 301) ∧ ∀ N12, N12 = ow_up N11 54 (N11 53 5) 1 → ow_Sp C (EM A L N) d mX8_nameOf (0, 0) [(3, 53), (0, l1), (0, r11)] N12 (fun r13 N13 => (0 ≤ (N12 53 5) ∧ (N12 53 5) < 301) ∧ ∀ N14, N14 = ow_up N13 56 (N12 53 5) r13 → ow_Sp C (EM A L N) d mX8_wordOf (0, 0) [(3, 53), (0, l1), (0, r11)] N14 (fun r15 N15 => (0 ≤ (N14 53 5) ∧ (N14 53 5) < 301) ∧ ∀ N16, N16 = ow_up N15 57 (N14 53 5) r15 → ow_I ((N16 53 5) + 1) ∧ ∀ N17, N17 = ow_up N16 53 5 ((N16 53 5) + 1) → K r11 N17))))))) : ow_At C (EM A L N) (d + 1) mX8_cutOne 0 [(0, (3, 53)), (1, (0, l1))] [] (0, 0) M K := by
  refine ow_aload_n (pc' := 1) (x := 53) dX8_cutOne_0 rfl rfl ?_
  refine ow_iload_n (pc' := 2) (x := l1) dX8_cutOne_1 rfl rfl ?_
  refine ow_callVp (z := mX8_byteAt) (n := 1) (k := 8) (vs := [(0, l1)]) (x := 53) (st := []) (pc' := 5) (b1 := (0, 0)) (b2 := (0, 0)) dX8_cutOne_2 lRX8_47 kX8_byteAt iX8_byteAt rfl rfl rfl rfl rfl rfl (of_eq_true eo53) (ow_Sp.mono h (fun r1 N1 h => ?_))
  refine ow_istore_n (pc' := 6) (lv' := [(0, (3, 53)), (1, (0, l1)), (2, (0, r1))]) dX8_cutOne_5 rfl rfl rfl ?_
  refine ow_iload_n (pc' := 7) (x := l1) dX8_cutOne_6 rfl rfl ?_
  refine ow_iconst (pc' := 8) (n := 1) dX8_cutOne_7 rfl rfl ?_
  obtain ⟨vv1, h⟩ := h
  refine ow_iadd (pc' := 9) dX8_cutOne_8 vv1 rfl ?_
  refine ow_istore_n (pc' := 10) (lv' := [(0, (3, 53)), (1, (0, l1)), (2, (0, r1)), (3, (0, l1 + 1))]) dX8_cutOne_9 rfl rfl rfl ?_
  refine ow_aload_n (pc' := 11) (x := 53) dX8_cutOne_10 rfl rfl ?_
  refine ow_getf3 (pc' := 14) (t := 3) (ji := 3) (val := 56) dX8_cutOne_11 fRX8_18 rfl rfl rfl (of_eq_true eo53) eg53_3 ?_
  refine ow_aload_n (pc' := 15) (x := 53) dX8_cutOne_14 rfl rfl ?_
  refine ow_getf3 (pc' := 18) (t := 0) (ji := 5) (val := N1 53 5) dX8_cutOne_15 fRX8_24 rfl rfl rfl (of_eq_true eo53) eg53_5 ?_
  refine ow_iconst (pc' := 19) (n := (-1)) dX8_cutOne_18 rfl rfl ?_
  obtain ⟨vv2, h⟩ := h
  refine ow_iastore2 (pc' := 20) dX8_cutOne_19 rfl (Eq.mpr (er56 _) vv2) (of_eq_true (en56 _)) (fun N2 eN2 => ?_)
  have h := h N2 eN2
  refine ow_aload_n (pc' := 21) (x := 53) dX8_cutOne_20 rfl rfl ?_
  refine ow_getf3 (pc' := 24) (t := 3) (ji := 2) (val := 55) dX8_cutOne_21 fRX8_15 rfl rfl rfl (of_eq_true eo53) eg53_2 ?_
  refine ow_aload_n (pc' := 25) (x := 53) dX8_cutOne_24 rfl rfl ?_
  refine ow_getf3 (pc' := 28) (t := 0) (ji := 5) (val := N2 53 5) dX8_cutOne_25 fRX8_24 rfl rfl rfl (of_eq_true eo53) eg53_5 ?_
  refine ow_iload_n (pc' := 29) (x := l1) dX8_cutOne_28 rfl rfl ?_
  obtain ⟨vv3, h⟩ := h
  refine ow_iastore2 (pc' := 30) dX8_cutOne_29 rfl (Eq.mpr (er55 _) vv3) (of_eq_true (en55 _)) (fun N3 eN3 => ?_)
  have h := h N3 eN3
  refine ow_iload_n (pc' := 31) (x := r1) dX8_cutOne_30 rfl rfl ?_
  refine ow_callSp (z := mX8_isLetter) (n := 1) (vs := [(0, r1)]) (st := []) (pc' := 34) (b1 := (0, 0)) (b2 := (0, 0)) dX8_cutOne_31 lRX8_58 kX8_isLetter zX8_isLetter rfl rfl rfl rfl rfl rfl (ow_Sp.mono h (fun r4 N4 h => ?_))
  refine ow_ifeq (pc' := 37) (tg := 86) dX8_cutOne_34 rfl rfl (fun hc => ?_) (fun hc => ?_)
  · have h := h.1 hc
    refine ow_iload_n (pc' := 87) (x := r1) dX8_cutOne_86 rfl rfl ?_
    refine ow_callSp (z := mX8_isDigit) (n := 1) (vs := [(0, r1)]) (st := []) (pc' := 90) (b1 := (0, 0)) (b2 := (0, 0)) dX8_cutOne_87 lRX8_70 kX8_isDigit zX8_isDigit rfl rfl rfl rfl rfl rfl (ow_Sp.mono h (fun r5 N5 h => ?_))
    refine ow_ifeq (pc' := 93) (tg := 127) dX8_cutOne_90 rfl rfl (fun hc => ?_) (fun hc => ?_)
    · have h := h.1 hc
      refine ow_iload_n (pc' := 128) (x := r1) dX8_cutOne_127 rfl rfl ?_
      refine ow_bipush (pc' := 130) (n := 60) dX8_cutOne_128 rfl rfl ?_
      refine ow_icmpeq (pc' := 133) (tg := 139) dX8_cutOne_130 rfl rfl (fun hc => ?_) (fun hc => ?_)
      · have h := h.1 hc
        refine ow_sub (lv' := [(0, (3, 53)), (2, (0, r1)), (3, (0, l1 + 1))]) [0, 2, 3] rfl ?_
        exact h
      · have h := h.2 hc
        refine ow_iload_n (pc' := 134) (x := r1) dX8_cutOne_133 rfl rfl ?_
        refine ow_bipush (pc' := 136) (n := 62) dX8_cutOne_134 rfl rfl ?_
        refine ow_icmpne (pc' := 139) (tg := 179) dX8_cutOne_136 rfl rfl (fun hc => ?_) (fun hc => ?_)
        · have h := h.1 hc
          refine ow_sub (lv' := [(0, (3, 53)), (2, (0, r1)), (3, (0, l1 + 1))]) [0, 2, 3] rfl ?_
          exact h
        · have h := h.2 hc
          refine ow_sub (lv' := [(0, (3, 53)), (2, (0, r1)), (3, (0, l1 + 1))]) [0, 2, 3] rfl ?_
          exact h
    · have h := h.2 hc
      refine ow_aload_n (pc' := 94) (x := 53) dX8_cutOne_93 rfl rfl ?_
      refine ow_iload_n (pc' := 95) (x := l1) dX8_cutOne_94 rfl rfl ?_
      refine ow_callVp (z := mX8_digitsStop) (n := 1) (k := 8) (vs := [(0, l1)]) (x := 53) (st := []) (pc' := 98) (b1 := (0, 0)) (b2 := (0, 0)) dX8_cutOne_95 lRX8_73 kX8_digitsStop iX8_digitsStop rfl rfl rfl rfl rfl rfl (of_eq_true eo53) (ow_Sp.mono h (fun r6 N6 h => ?_))
      refine ow_istore_n (pc' := 99) (lv' := [(0, (3, 53)), (1, (0, l1)), (2, (0, r1)), (3, (0, r6))]) dX8_cutOne_98 rfl rfl rfl ?_
      refine ow_aload_n (pc' := 100) (x := 53) dX8_cutOne_99 rfl rfl ?_
      refine ow_getf3 (pc' := 103) (t := 3) (ji := 1) (val := 54) dX8_cutOne_100 fRX8_9 rfl rfl rfl (of_eq_true eo53) eg53_1 ?_
      refine ow_aload_n (pc' := 104) (x := 53) dX8_cutOne_103 rfl rfl ?_
      refine ow_getf3 (pc' := 107) (t := 0) (ji := 5) (val := N6 53 5) dX8_cutOne_104 fRX8_24 rfl rfl rfl (of_eq_true eo53) eg53_5 ?_
      refine ow_iconst (pc' := 108) (n := 2) dX8_cutOne_107 rfl rfl ?_
      obtain ⟨vv4, h⟩ := h
      refine ow_iastore2 (pc' := 109) dX8_cutOne_108 rfl (Eq.mpr (er54 _) vv4) (of_eq_true (en54 _)) (fun N7 eN7 => ?_)
      have h := h N7 eN7
      refine ow_aload_n (pc' := 110) (x := 53) dX8_cutOne_109 rfl rfl ?_
      refine ow_getf3 (pc' := 113) (t := 3) (ji := 4) (val := 57) dX8_cutOne_110 fRX8_21 rfl rfl rfl (of_eq_true eo53) eg53_4 ?_
      refine ow_aload_n (pc' := 114) (x := 53) dX8_cutOne_113 rfl rfl ?_
      refine ow_getf3 (pc' := 117) (t := 0) (ji := 5) (val := N7 53 5) dX8_cutOne_114 fRX8_24 rfl rfl rfl (of_eq_true eo53) eg53_5 ?_
      refine ow_aload_n (pc' := 118) (x := 53) dX8_cutOne_117 rfl rfl ?_
      refine ow_iload_n (pc' := 119) (x := l1) dX8_cutOne_118 rfl rfl ?_
      refine ow_iload_n (pc' := 120) (x := r6) dX8_cutOne_119 rfl rfl ?_
      refine ow_callVp (z := mX8_numberOf) (n := 2) (k := 8) (vs := [(0, l1), (0, r6)]) (x := 53) (st := [(0, N7 53 5), (3, 57)]) (pc' := 123) (b1 := (0, 0)) (b2 := (0, 0)) dX8_cutOne_120 lRX8_76 kX8_numberOf iX8_numberOf rfl rfl rfl rfl rfl rfl (of_eq_true eo53) (ow_Sp.mono h (fun r8 N8 h => ?_))
      obtain ⟨vv5, h⟩ := h
      refine ow_iastore2 (pc' := 124) dX8_cutOne_123 rfl (Eq.mpr (er57 _) vv5) (of_eq_true (en57 _)) (fun N9 eN9 => ?_)
      have h := h N9 eN9
      refine ow_goto (tg := 200) dX8_cutOne_124 rfl ?_
      refine ow_aload_n (pc' := 201) (x := 53) dX8_cutOne_200 rfl rfl ?_
      refine ow_dup (pc' := 202) dX8_cutOne_201 rfl rfl ?_
      refine ow_getf3 (pc' := 205) (t := 0) (ji := 5) (val := N9 53 5) dX8_cutOne_202 fRX8_24 rfl rfl rfl (of_eq_true eo53) eg53_5 ?_
      refine ow_iconst (pc' := 206) (n := 1) dX8_cutOne_205 rfl rfl ?_
      obtain ⟨vv6, h⟩ := h
      refine ow_iadd (pc' := 207) dX8_cutOne_206 vv6 rfl ?_
      refine ow_putf2 (pc' := 210) (t := 0) (ji := 5) dX8_cutOne_207 fRX8_24 rfl rfl rfl rfl (of_eq_true eo53) (of_eq_true en53_5) (fun hz => absurd hz (by decide)) (fun N10 eN10 => ?_)
      have h := h N10 eN10
      refine ow_iload_n (pc' := 211) (x := r6) dX8_cutOne_210 rfl rfl ?_
      exact ow_iret dX8_cutOne_211 rfl rfl h
  · have h := h.2 hc
    refine ow_aload_n (pc' := 38) (x := 53) dX8_cutOne_37 rfl rfl ?_
    refine ow_iload_n (pc' := 39) (x := l1) dX8_cutOne_38 rfl rfl ?_
    refine ow_callVp (z := mX8_lettersStop) (n := 1) (k := 8) (vs := [(0, l1)]) (x := 53) (st := []) (pc' := 42) (b1 := (0, 0)) (b2 := (0, 0)) dX8_cutOne_39 lRX8_61 kX8_lettersStop iX8_lettersStop rfl rfl rfl rfl rfl rfl (of_eq_true eo53) (ow_Sp.mono h (fun r11 N11 h => ?_))
    refine ow_istore_n (pc' := 43) (lv' := [(0, (3, 53)), (1, (0, l1)), (2, (0, r1)), (3, (0, r11))]) dX8_cutOne_42 rfl rfl rfl ?_
    refine ow_aload_n (pc' := 44) (x := 53) dX8_cutOne_43 rfl rfl ?_
    refine ow_getf3 (pc' := 47) (t := 3) (ji := 1) (val := 54) dX8_cutOne_44 fRX8_9 rfl rfl rfl (of_eq_true eo53) eg53_1 ?_
    refine ow_aload_n (pc' := 48) (x := 53) dX8_cutOne_47 rfl rfl ?_
    refine ow_getf3 (pc' := 51) (t := 0) (ji := 5) (val := N11 53 5) dX8_cutOne_48 fRX8_24 rfl rfl rfl (of_eq_true eo53) eg53_5 ?_
    refine ow_iconst (pc' := 52) (n := 1) dX8_cutOne_51 rfl rfl ?_
    obtain ⟨vv7, h⟩ := h
    refine ow_iastore2 (pc' := 53) dX8_cutOne_52 rfl (Eq.mpr (er54 _) vv7) (of_eq_true (en54 _)) (fun N12 eN12 => ?_)
    have h := h N12 eN12
    refine ow_aload_n (pc' := 54) (x := 53) dX8_cutOne_53 rfl rfl ?_
    refine ow_getf3 (pc' := 57) (t := 3) (ji := 3) (val := 56) dX8_cutOne_54 fRX8_18 rfl rfl rfl (of_eq_true eo53) eg53_3 ?_
    refine ow_aload_n (pc' := 58) (x := 53) dX8_cutOne_57 rfl rfl ?_
    refine ow_getf3 (pc' := 61) (t := 0) (ji := 5) (val := N12 53 5) dX8_cutOne_58 fRX8_24 rfl rfl rfl (of_eq_true eo53) eg53_5 ?_
    refine ow_aload_n (pc' := 62) (x := 53) dX8_cutOne_61 rfl rfl ?_
    refine ow_iload_n (pc' := 63) (x := l1) dX8_cutOne_62 rfl rfl ?_
    refine ow_iload_n (pc' := 64) (x := r11) dX8_cutOne_63 rfl rfl ?_
    refine ow_callVp (z := mX8_nameOf) (n := 2) (k := 8) (vs := [(0, l1), (0, r11)]) (x := 53) (st := [(0, N12 53 5), (3, 56)]) (pc' := 67) (b1 := (0, 0)) (b2 := (0, 0)) dX8_cutOne_64 lRX8_64 kX8_nameOf iX8_nameOf rfl rfl rfl rfl rfl rfl (of_eq_true eo53) (ow_Sp.mono h (fun r13 N13 h => ?_))
    obtain ⟨vv8, h⟩ := h
    refine ow_iastore2 (pc' := 68) dX8_cutOne_67 rfl (Eq.mpr (er56 _) vv8) (of_eq_true (en56 _)) (fun N14 eN14 => ?_)
    have h := h N14 eN14
    refine ow_aload_n (pc' := 69) (x := 53) dX8_cutOne_68 rfl rfl ?_
    refine ow_getf3 (pc' := 72) (t := 3) (ji := 4) (val := 57) dX8_cutOne_69 fRX8_21 rfl rfl rfl (of_eq_true eo53) eg53_4 ?_
    refine ow_aload_n (pc' := 73) (x := 53) dX8_cutOne_72 rfl rfl ?_
    refine ow_getf3 (pc' := 76) (t := 0) (ji := 5) (val := N14 53 5) dX8_cutOne_73 fRX8_24 rfl rfl rfl (of_eq_true eo53) eg53_5 ?_
    refine ow_aload_n (pc' := 77) (x := 53) dX8_cutOne_76 rfl rfl ?_
    refine ow_iload_n (pc' := 78) (x := l1) dX8_cutOne_77 rfl rfl ?_
    refine ow_iload_n (pc' := 79) (x := r11) dX8_cutOne_78 rfl rfl ?_
    refine ow_callVp (z := mX8_wordOf) (n := 2) (k := 8) (vs := [(0, l1), (0, r11)]) (x := 53) (st := [(0, N14 53 5), (3, 57)]) (pc' := 82) (b1 := (0, 0)) (b2 := (0, 0)) dX8_cutOne_79 lRX8_67 kX8_wordOf iX8_wordOf rfl rfl rfl rfl rfl rfl (of_eq_true eo53) (ow_Sp.mono h (fun r15 N15 h => ?_))
    obtain ⟨vv9, h⟩ := h
    refine ow_iastore2 (pc' := 83) dX8_cutOne_82 rfl (Eq.mpr (er57 _) vv9) (of_eq_true (en57 _)) (fun N16 eN16 => ?_)
    have h := h N16 eN16
    refine ow_goto (tg := 200) dX8_cutOne_83 rfl ?_
    refine ow_aload_n (pc' := 201) (x := 53) dX8_cutOne_200 rfl rfl ?_
    refine ow_dup (pc' := 202) dX8_cutOne_201 rfl rfl ?_
    refine ow_getf3 (pc' := 205) (t := 0) (ji := 5) (val := N16 53 5) dX8_cutOne_202 fRX8_24 rfl rfl rfl (of_eq_true eo53) eg53_5 ?_
    refine ow_iconst (pc' := 206) (n := 1) dX8_cutOne_205 rfl rfl ?_
    obtain ⟨vv10, h⟩ := h
    refine ow_iadd (pc' := 207) dX8_cutOne_206 vv10 rfl ?_
    refine ow_putf2 (pc' := 210) (t := 0) (ji := 5) dX8_cutOne_207 fRX8_24 rfl rfl rfl rfl (of_eq_true eo53) (of_eq_true en53_5) (fun hz => absurd hz (by decide)) (fun N17 eN17 => ?_)
    have h := h N17 eN17
    refine ow_iload_n (pc' := 211) (x := r11) dX8_cutOne_210 rfl rfl ?_
    exact ow_iret dX8_cutOne_211 rfl rfl h
set_option maxRecDepth 20000 in
theorem cX8_cutOne_139 {C : ow_C} {A L N : Int} {d : Nat} {M : ow_M} {K : Int → ow_M → Prop} {l2 l3 : Int} (h : ow_Sp C (EM A L N) d mX8_byteAt (0, 0) [(3, 53), (0, l3)] M (fun r1 N1 => (r1 ≠ 61 → ow_At C (EM A L N) (d + 1) mX8_cutOne 179 [(0, (3, 53)), (2, (0, l2)), (3, (0, l3))] [] (0, 0) N1 K) ∧ (r1 = 61 → ow_I (l3 + 1) ∧ (l2 ≠ 60 → ow_At C (EM A L N) (d + 1) mX8_cutOne 175 [(0, (3, 53)), (3, (0, l3 + 1))] [(0, 257), (0, N1 53 5), (3, 54)] (0, 0) N1 K) ∧ (l2 = 60 → ow_At C (EM A L N) (d + 1) mX8_cutOne 175 [(0, (3, 53)), (3, (0, l3 + 1))] [(0, 256), (0, N1 53 5), (3, 54)] (0, 0) N1 K)))) : ow_At C (EM A L N) (d + 1) mX8_cutOne 139 [(0, (3, 53)), (2, (0, l2)), (3, (0, l3))] [] (0, 0) M K := by
  refine ow_aload_n (pc' := 140) (x := 53) dX8_cutOne_139 rfl rfl ?_
  refine ow_iload_n (pc' := 141) (x := l3) dX8_cutOne_140 rfl rfl ?_
  refine ow_callVp (z := mX8_byteAt) (n := 1) (k := 8) (vs := [(0, l3)]) (x := 53) (st := []) (pc' := 144) (b1 := (0, 0)) (b2 := (0, 0)) dX8_cutOne_141 lRX8_47 kX8_byteAt iX8_byteAt rfl rfl rfl rfl rfl rfl (of_eq_true eo53) (ow_Sp.mono h (fun r1 N1 h => ?_))
  refine ow_bipush (pc' := 146) (n := 61) dX8_cutOne_144 rfl rfl ?_
  refine ow_icmpne (pc' := 149) (tg := 179) dX8_cutOne_146 rfl rfl (fun hc => ?_) (fun hc => ?_)
  · have h := h.1 hc
    exact h
  · have h := h.2 hc
    obtain ⟨vv1, h⟩ := h
    refine ow_iinc (pc' := 152) (lv' := [(0, (3, 53)), (2, (0, l2)), (3, (0, l3 + 1))]) dX8_cutOne_149 rfl vv1 rfl rfl rfl ?_
    refine ow_aload_n (pc' := 153) (x := 53) dX8_cutOne_152 rfl rfl ?_
    refine ow_getf3 (pc' := 156) (t := 3) (ji := 1) (val := 54) dX8_cutOne_153 fRX8_9 rfl rfl rfl (of_eq_true eo53) eg53_1 ?_
    refine ow_aload_n (pc' := 157) (x := 53) dX8_cutOne_156 rfl rfl ?_
    refine ow_getf3 (pc' := 160) (t := 0) (ji := 5) (val := N1 53 5) dX8_cutOne_157 fRX8_24 rfl rfl rfl (of_eq_true eo53) eg53_5 ?_
    refine ow_iload_n (pc' := 161) (x := l2) dX8_cutOne_160 rfl rfl ?_
    refine ow_bipush (pc' := 163) (n := 60) dX8_cutOne_161 rfl rfl ?_
    refine ow_icmpne (pc' := 166) (tg := 172) dX8_cutOne_163 rfl rfl (fun hc => ?_) (fun hc => ?_)
    · have h := h.1 hc
      refine ow_sipush (pc' := 175) (n := 257) dX8_cutOne_172 rfl rfl ?_
      refine ow_sub (lv' := [(0, (3, 53)), (3, (0, l3 + 1))]) [0, 2] rfl ?_
      exact h
    · have h := h.2 hc
      refine ow_sipush (pc' := 169) (n := 256) dX8_cutOne_166 rfl rfl ?_
      refine ow_goto (tg := 175) dX8_cutOne_169 rfl ?_
      refine ow_sub (lv' := [(0, (3, 53)), (3, (0, l3 + 1))]) [0, 2] rfl ?_
      exact h
set_option maxRecDepth 20000 in
theorem cX8_cutOne_179 {C : ow_C} {A L N : Int} {d : Nat} {M : ow_M} {K : Int → ow_M → Prop} {l2 l3 : Int} (h : ow_Sp C (EM A L N) d mX8_isSign (0, 0) [(0, l2)] M (fun r1 N1 => (r1 = 0 → ow_At C (EM A L N) (d + 1) mX8_cutOne 199 [(0, (3, 53)), (3, (0, l3))] [(0, 3), (0, M 53 5), (3, 54)] (0, 0) N1 K) ∧ (r1 ≠ 0 → ow_At C (EM A L N) (d + 1) mX8_cutOne 199 [(0, (3, 53)), (3, (0, l3))] [(0, l2), (0, M 53 5), (3, 54)] (0, 0) N1 K))) : ow_At C (EM A L N) (d + 1) mX8_cutOne 179 [(0, (3, 53)), (2, (0, l2)), (3, (0, l3))] [] (0, 0) M K := by
  refine ow_aload_n (pc' := 180) (x := 53) dX8_cutOne_179 rfl rfl ?_
  refine ow_getf3 (pc' := 183) (t := 3) (ji := 1) (val := 54) dX8_cutOne_180 fRX8_9 rfl rfl rfl (of_eq_true eo53) eg53_1 ?_
  refine ow_aload_n (pc' := 184) (x := 53) dX8_cutOne_183 rfl rfl ?_
  refine ow_getf3 (pc' := 187) (t := 0) (ji := 5) (val := M 53 5) dX8_cutOne_184 fRX8_24 rfl rfl rfl (of_eq_true eo53) eg53_5 ?_
  refine ow_iload_n (pc' := 188) (x := l2) dX8_cutOne_187 rfl rfl ?_
  refine ow_callSp (z := mX8_isSign) (n := 1) (vs := [(0, l2)]) (st := [(0, M 53 5), (3, 54)]) (pc' := 191) (b1 := (0, 0)) (b2 := (0, 0)) dX8_cutOne_188 lRX8_79 kX8_isSign zX8_isSign rfl rfl rfl rfl rfl rfl (ow_Sp.mono h (fun r1 N1 h => ?_))
  refine ow_ifeq (pc' := 194) (tg := 198) dX8_cutOne_191 rfl rfl (fun hc => ?_) (fun hc => ?_)
  · have h := h.1 hc
    refine ow_iconst (pc' := 199) (n := 3) dX8_cutOne_198 rfl rfl ?_
    refine ow_sub (lv' := [(0, (3, 53)), (3, (0, l3))]) [0, 2] rfl ?_
    exact h
  · have h := h.2 hc
    refine ow_iload_n (pc' := 195) (x := l2) dX8_cutOne_194 rfl rfl ?_
    refine ow_goto (tg := 199) dX8_cutOne_195 rfl ?_
    refine ow_sub (lv' := [(0, (3, 53)), (3, (0, l3))]) [0, 2] rfl ?_
    exact h
set_option maxRecDepth 20000 in
theorem cX8_cutOne_175 {C : ow_C} {A L N : Int} {d : Nat} {M : ow_M} {K : Int → ow_M → Prop} {l3 s0 s1 : Int} (h : (0 ≤ s1 ∧ s1 < 301) ∧ ∀ N1, N1 = ow_up M 54 s1 s0 → ow_I ((N1 53 5) + 1) ∧ ∀ N2, N2 = ow_up N1 53 5 ((N1 53 5) + 1) → K l3 N2) : ow_At C (EM A L N) (d + 1) mX8_cutOne 175 [(0, (3, 53)), (3, (0, l3))] [(0, s0), (0, s1), (3, 54)] (0, 0) M K := by
  obtain ⟨vv1, h⟩ := h
  refine ow_iastore2 (pc' := 176) dX8_cutOne_175 rfl (Eq.mpr (er54 _) vv1) (of_eq_true (en54 _)) (fun N1 eN1 => ?_)
  have h := h N1 eN1
  refine ow_goto (tg := 200) dX8_cutOne_176 rfl ?_
  refine ow_aload_n (pc' := 201) (x := 53) dX8_cutOne_200 rfl rfl ?_
  refine ow_dup (pc' := 202) dX8_cutOne_201 rfl rfl ?_
  refine ow_getf3 (pc' := 205) (t := 0) (ji := 5) (val := N1 53 5) dX8_cutOne_202 fRX8_24 rfl rfl rfl (of_eq_true eo53) eg53_5 ?_
  refine ow_iconst (pc' := 206) (n := 1) dX8_cutOne_205 rfl rfl ?_
  obtain ⟨vv2, h⟩ := h
  refine ow_iadd (pc' := 207) dX8_cutOne_206 vv2 rfl ?_
  refine ow_putf2 (pc' := 210) (t := 0) (ji := 5) dX8_cutOne_207 fRX8_24 rfl rfl rfl rfl (of_eq_true eo53) (of_eq_true en53_5) (fun hz => absurd hz (by decide)) (fun N2 eN2 => ?_)
  have h := h N2 eN2
  refine ow_iload_n (pc' := 211) (x := l3) dX8_cutOne_210 rfl rfl ?_
  exact ow_iret dX8_cutOne_211 rfl rfl h
set_option maxRecDepth 20000 in
theorem cX8_cutOne_199 {C : ow_C} {A L N : Int} {d : Nat} {M : ow_M} {K : Int → ow_M → Prop} {l3 s0 s1 : Int} (h : (0 ≤ s1 ∧ s1 < 301) ∧ ∀ N1, N1 = ow_up M 54 s1 s0 → ow_I ((N1 53 5) + 1) ∧ ∀ N2, N2 = ow_up N1 53 5 ((N1 53 5) + 1) → K l3 N2) : ow_At C (EM A L N) (d + 1) mX8_cutOne 199 [(0, (3, 53)), (3, (0, l3))] [(0, s0), (0, s1), (3, 54)] (0, 0) M K := by
  obtain ⟨vv1, h⟩ := h
  refine ow_iastore2 (pc' := 200) dX8_cutOne_199 rfl (Eq.mpr (er54 _) vv1) (of_eq_true (en54 _)) (fun N1 eN1 => ?_)
  have h := h N1 eN1
  refine ow_aload_n (pc' := 201) (x := 53) dX8_cutOne_200 rfl rfl ?_
  refine ow_dup (pc' := 202) dX8_cutOne_201 rfl rfl ?_
  refine ow_getf3 (pc' := 205) (t := 0) (ji := 5) (val := N1 53 5) dX8_cutOne_202 fRX8_24 rfl rfl rfl (of_eq_true eo53) eg53_5 ?_
  refine ow_iconst (pc' := 206) (n := 1) dX8_cutOne_205 rfl rfl ?_
  obtain ⟨vv2, h⟩ := h
  refine ow_iadd (pc' := 207) dX8_cutOne_206 vv2 rfl ?_
  refine ow_putf2 (pc' := 210) (t := 0) (ji := 5) dX8_cutOne_207 fRX8_24 rfl rfl rfl rfl (of_eq_true eo53) (of_eq_true en53_5) (fun hz => absurd hz (by decide)) (fun N2 eN2 => ?_)
  have h := h N2 eN2
  refine ow_iload_n (pc' := 211) (x := l3) dX8_cutOne_210 rfl rfl ?_
  exact ow_iret dX8_cutOne_211 rfl rfl h
theorem fX8_cutOne {C : ow_C} {A L N : Int} {d : Nat} {M : ow_M} {K : Int → ow_M → Prop} {l1 : Int} (h : ow_Sp C (EM A L N) d mX8_byteAt (0, 0) [(3, 53), (0, l1)] M (fun r1 N1 => ow_I (l1 + 1) ∧ (0 ≤ (N1 53 5) ∧ (N1 53 5) < 301) ∧ ∀ N2, N2 = ow_up N1 56 (N1 53 5) ((-1)) → (0 ≤ (N2 53 5) ∧ (N2 53 5) < 301) ∧ ∀ N3, N3 = ow_up N2 55 (N2 53 5) l1 → ow_Sp C (EM A L N) d mX8_isLetter (0, 0) [(0, r1)] N3 (fun r4 N4 => (r4 = 0 → ow_Sp C (EM A L N) d mX8_isDigit (0, 0) [(0, r1)] N4 (fun r5 N5 => (r5 = 0 → (r1 = 60 → ow_At C (EM A L N) (d + 1) mX8_cutOne 139 [(0, (3, 53)), (2, (0, r1)), (3, (0, l1 + 1))] [] (0, 0) N5 K) ∧ (r1 ≠ 60 → (r1 ≠ 62 → ow_At C (EM A L N) (d + 1) mX8_cutOne 179 [(0, (3, 53)), (2, (0, r1)), (3, (0, l1 + 1))] [] (0, 0) N5 K) ∧ (r1 = 62 → ow_At C (EM A L N) (d + 1) mX8_cutOne 139 [(0, (3, 53)), (2, (0, r1)), (3, (0, l1 + 1))] [] (0, 0) N5 K))) ∧ (r5 ≠ 0 → ow_Sp C (EM A L N) d mX8_digitsStop (0, 0) [(3, 53), (0, l1)] N5 (fun r6 N6 => (0 ≤ (N6 53 5) ∧ (N6 53 5) < 301) ∧ ∀ N7, N7 = ow_up N6 54 (N6 53 5) 2 → ow_Sp C (EM A L N) d mX8_numberOf (0, 0) [(3, 53), (0, l1), (0, r6)] N7 (fun r8 N8 => (0 ≤ (N7 53 5) ∧ (N7 53 5) < 301) ∧ ∀ N9, N9 = ow_up N8 57 (N7 53 5) r8 → ow_I ((N9 53 5) + 1) ∧ ∀ N10, N10 = ow_up N9 53 5 ((N9 53 5) + 1) → K r6 N10))))) ∧ (r4 ≠ 0 → ow_Sp C (EM A L N) d mX8_lettersStop (0, 0) [(3, 53), (0, l1)] N4 (fun r11 N11 => (0 ≤ (N11 53 5) ∧ (N11 53 5) < 301) ∧ ∀ N12, N12 = ow_up N11 54 (N11 53 5) 1 → ow_Sp C (EM A L N) d mX8_nameOf (0, 0) [(3, 53), (0, l1), (0, r11)] N12 (fun r13 N13 => (0 ≤ (N12 53 5) ∧ (N12 53 5) < 301) ∧ ∀ N14, N14 = ow_up N13 56 (N12 53 5) r13 → ow_Sp C (EM A L N) d mX8_wordOf (0, 0) [(3, 53), (0, l1), (0, r11)] N14 (fun r15 N15 => (0 ≤ (N14 53 5) ∧ (N14 53 5) < 301) ∧ ∀ N16, N16 = ow_up N15 57 (N14 53 5) r15 → ow_I ((N16 53 5) + 1) ∧ ∀ N17, N17 = ow_up N16 53 5 ((N16 53 5) + 1) → K r11 N17))))))) : ow_Sp C (EM A L N) (d + 1) mX8_cutOne (0, 0) [(3, 53), (0, l1)] M K := ow_enter (by decide +kernel) rfl rfl (cX8_cutOne_0 h)
set_option maxRecDepth 20000 in
theorem cX8_byteAt_0 {C : ow_C} {A L N : Int} {d : Nat} {M : ow_M} {K : Int → ow_M → Prop} {l1 : Int} (h : ((M 53 6) < 0 → K ((-1)) M) ∧ (0 ≤ (M 53 6) → (l1 < 0 → K ((-1)) M) ∧ (0 ≤ l1 → ((M 53 7) ≤ l1 → K ((-1)) M) ∧ (l1 < (M 53 7) → ow_R (EM A L N) M (M 53 6) 100 l1 ∧ K (ow_gv (EM A L N) M (M 53 6) l1) M)))) : ow_At C (EM A L N) d mX8_byteAt 0 [(0, (3, 53)), (1, (0, l1))] [] (0, 0) M K := by
  refine ow_aload_n (pc' := 1) (x := 53) dX8_byteAt_0 rfl rfl ?_
  refine ow_getf3 (pc' := 4) (t := 3) (ji := 6) (val := M 53 6) dX8_byteAt_1 fRX8_28 rfl rfl rfl (of_eq_true eo53) eg53_6 ?_
  refine ow_ifnull (pc' := 7) (tg := 28) dX8_byteAt_4 rfl rfl (fun hc => ?_) (fun hc => ?_)
  · have h := h.1 hc
    refine ow_iconst (pc' := 29) (n := (-1)) dX8_byteAt_28 rfl rfl ?_
    exact ow_iret dX8_byteAt_29 rfl rfl h
  · have h := h.2 hc
    refine ow_iload_n (pc' := 8) (x := l1) dX8_byteAt_7 rfl rfl ?_
    refine ow_iflt (pc' := 11) (tg := 28) dX8_byteAt_8 rfl rfl (fun hc => ?_) (fun hc => ?_)
    · have h := h.1 hc
      refine ow_iconst (pc' := 29) (n := (-1)) dX8_byteAt_28 rfl rfl ?_
      exact ow_iret dX8_byteAt_29 rfl rfl h
    · have h := h.2 hc
      refine ow_iload_n (pc' := 12) (x := l1) dX8_byteAt_11 rfl rfl ?_
      refine ow_aload_n (pc' := 13) (x := 53) dX8_byteAt_12 rfl rfl ?_
      refine ow_getf3 (pc' := 16) (t := 0) (ji := 7) (val := M 53 7) dX8_byteAt_13 fRX8_31 rfl rfl rfl (of_eq_true eo53) eg53_7 ?_
      refine ow_icmpge (pc' := 19) (tg := 28) dX8_byteAt_16 rfl rfl (fun hc => ?_) (fun hc => ?_)
      · have h := h.1 hc
        refine ow_iconst (pc' := 29) (n := (-1)) dX8_byteAt_28 rfl rfl ?_
        exact ow_iret dX8_byteAt_29 rfl rfl h
      · have h := h.2 hc
        refine ow_aload_n (pc' := 20) (x := 53) dX8_byteAt_19 rfl rfl ?_
        refine ow_getf3 (pc' := 23) (t := 3) (ji := 6) (val := M 53 6) dX8_byteAt_20 fRX8_28 rfl rfl rfl (of_eq_true eo53) eg53_6 ?_
        refine ow_iload_n (pc' := 24) (x := l1) dX8_byteAt_23 rfl rfl ?_
        obtain ⟨w, h⟩ := h
        refine ow_iaload (pc' := 25) dX8_byteAt_24 rfl w ?_
        refine ow_goto (tg := 29) dX8_byteAt_25 rfl ?_
        exact ow_iret dX8_byteAt_29 rfl rfl h
theorem fX8_byteAt {C : ow_C} {A L N : Int} {d : Nat} {M : ow_M} {K : Int → ow_M → Prop} {l1 : Int} (h : ((M 53 6) < 0 → K ((-1)) M) ∧ (0 ≤ (M 53 6) → (l1 < 0 → K ((-1)) M) ∧ (0 ≤ l1 → ((M 53 7) ≤ l1 → K ((-1)) M) ∧ (l1 < (M 53 7) → ow_R (EM A L N) M (M 53 6) 100 l1 ∧ K (ow_gv (EM A L N) M (M 53 6) l1) M)))) : ow_Sp C (EM A L N) d mX8_byteAt (0, 0) [(3, 53), (0, l1)] M K := ow_enter (by decide +kernel) rfl rfl (cX8_byteAt_0 h)
set_option maxRecDepth 20000 in
theorem cX8_isBlank_0 {C : ow_C} {A L N : Int} {d : Nat} {M : ow_M} {K : Int → ow_M → Prop} {l0 : Int} (h : (l0 = 32 → K 1 M) ∧ (l0 ≠ 32 → (l0 ≠ 10 → K 0 M) ∧ (l0 = 10 → K 1 M))) : ow_At C (EM A L N) d mX8_isBlank 0 [(0, (0, l0))] [] (0, 0) M K := by
  refine ow_iload_n (pc' := 1) (x := l0) dX8_isBlank_0 rfl rfl ?_
  refine ow_bipush (pc' := 3) (n := 32) dX8_isBlank_1 rfl rfl ?_
  refine ow_icmpeq (pc' := 6) (tg := 12) dX8_isBlank_3 rfl rfl (fun hc => ?_) (fun hc => ?_)
  · have h := h.1 hc
    refine ow_iconst (pc' := 13) (n := 1) dX8_isBlank_12 rfl rfl ?_
    refine ow_goto (tg := 17) dX8_isBlank_13 rfl ?_
    exact ow_zret dX8_isBlank_17 rfl rfl (Or.inr rfl) h
  · have h := h.2 hc
    refine ow_iload_n (pc' := 7) (x := l0) dX8_isBlank_6 rfl rfl ?_
    refine ow_bipush (pc' := 9) (n := 10) dX8_isBlank_7 rfl rfl ?_
    refine ow_icmpne (pc' := 12) (tg := 16) dX8_isBlank_9 rfl rfl (fun hc => ?_) (fun hc => ?_)
    · have h := h.1 hc
      refine ow_iconst (pc' := 17) (n := 0) dX8_isBlank_16 rfl rfl ?_
      exact ow_zret dX8_isBlank_17 rfl rfl (Or.inl rfl) h
    · have h := h.2 hc
      refine ow_iconst (pc' := 13) (n := 1) dX8_isBlank_12 rfl rfl ?_
      refine ow_goto (tg := 17) dX8_isBlank_13 rfl ?_
      exact ow_zret dX8_isBlank_17 rfl rfl (Or.inr rfl) h
theorem fX8_isBlank {C : ow_C} {A L N : Int} {d : Nat} {M : ow_M} {K : Int → ow_M → Prop} {l0 : Int} (h : (l0 = 32 → K 1 M) ∧ (l0 ≠ 32 → (l0 ≠ 10 → K 0 M) ∧ (l0 = 10 → K 1 M))) : ow_Sp C (EM A L N) d mX8_isBlank (0, 0) [(0, l0)] M K := ow_enter (by decide +kernel) rfl rfl (cX8_isBlank_0 h)
set_option maxRecDepth 20000 in
theorem cX8_isLetter_0 {C : ow_C} {A L N : Int} {d : Nat} {M : ow_M} {K : Int → ow_M → Prop} {l0 : Int} (h : (l0 < 97 → ow_At C (EM A L N) d mX8_isLetter 12 [(0, (0, l0))] [] (0, 0) M K) ∧ (97 ≤ l0 → (l0 ≤ 122 → K 1 M) ∧ (122 < l0 → ow_At C (EM A L N) d mX8_isLetter 12 [(0, (0, l0))] [] (0, 0) M K))) : ow_At C (EM A L N) d mX8_isLetter 0 [(0, (0, l0))] [] (0, 0) M K := by
  refine ow_iload_n (pc' := 1) (x := l0) dX8_isLetter_0 rfl rfl ?_
  refine ow_bipush (pc' := 3) (n := 97) dX8_isLetter_1 rfl rfl ?_
  refine ow_icmplt (pc' := 6) (tg := 12) dX8_isLetter_3 rfl rfl (fun hc => ?_) (fun hc => ?_)
  · have h := h.1 hc
    exact h
  · have h := h.2 hc
    refine ow_iload_n (pc' := 7) (x := l0) dX8_isLetter_6 rfl rfl ?_
    refine ow_bipush (pc' := 9) (n := 122) dX8_isLetter_7 rfl rfl ?_
    refine ow_icmple (pc' := 12) (tg := 24) dX8_isLetter_9 rfl rfl (fun hc => ?_) (fun hc => ?_)
    · have h := h.1 hc
      refine ow_iconst (pc' := 25) (n := 1) dX8_isLetter_24 rfl rfl ?_
      refine ow_goto (tg := 29) dX8_isLetter_25 rfl ?_
      exact ow_zret dX8_isLetter_29 rfl rfl (Or.inr rfl) h
    · have h := h.2 hc
      exact h
set_option maxRecDepth 20000 in
theorem cX8_isLetter_12 {C : ow_C} {A L N : Int} {d : Nat} {M : ow_M} {K : Int → ow_M → Prop} {l0 : Int} (h : (l0 < 65 → K 0 M) ∧ (65 ≤ l0 → (90 < l0 → K 0 M) ∧ (l0 ≤ 90 → K 1 M))) : ow_At C (EM A L N) d mX8_isLetter 12 [(0, (0, l0))] [] (0, 0) M K := by
  refine ow_iload_n (pc' := 13) (x := l0) dX8_isLetter_12 rfl rfl ?_
  refine ow_bipush (pc' := 15) (n := 65) dX8_isLetter_13 rfl rfl ?_
  refine ow_icmplt (pc' := 18) (tg := 28) dX8_isLetter_15 rfl rfl (fun hc => ?_) (fun hc => ?_)
  · have h := h.1 hc
    refine ow_iconst (pc' := 29) (n := 0) dX8_isLetter_28 rfl rfl ?_
    exact ow_zret dX8_isLetter_29 rfl rfl (Or.inl rfl) h
  · have h := h.2 hc
    refine ow_iload_n (pc' := 19) (x := l0) dX8_isLetter_18 rfl rfl ?_
    refine ow_bipush (pc' := 21) (n := 90) dX8_isLetter_19 rfl rfl ?_
    refine ow_icmpgt (pc' := 24) (tg := 28) dX8_isLetter_21 rfl rfl (fun hc => ?_) (fun hc => ?_)
    · have h := h.1 hc
      refine ow_iconst (pc' := 29) (n := 0) dX8_isLetter_28 rfl rfl ?_
      exact ow_zret dX8_isLetter_29 rfl rfl (Or.inl rfl) h
    · have h := h.2 hc
      refine ow_iconst (pc' := 25) (n := 1) dX8_isLetter_24 rfl rfl ?_
      refine ow_goto (tg := 29) dX8_isLetter_25 rfl ?_
      exact ow_zret dX8_isLetter_29 rfl rfl (Or.inr rfl) h
theorem fX8_isLetter {C : ow_C} {A L N : Int} {d : Nat} {M : ow_M} {K : Int → ow_M → Prop} {l0 : Int} (h : (l0 < 97 → ow_At C (EM A L N) d mX8_isLetter 12 [(0, (0, l0))] [] (0, 0) M K) ∧ (97 ≤ l0 → (l0 ≤ 122 → K 1 M) ∧ (122 < l0 → ow_At C (EM A L N) d mX8_isLetter 12 [(0, (0, l0))] [] (0, 0) M K))) : ow_Sp C (EM A L N) d mX8_isLetter (0, 0) [(0, l0)] M K := ow_enter (by decide +kernel) rfl rfl (cX8_isLetter_0 h)
set_option maxRecDepth 20000 in
theorem cX8_isDigit_0 {C : ow_C} {A L N : Int} {d : Nat} {M : ow_M} {K : Int → ow_M → Prop} {l0 : Int} (h : (l0 < 48 → K 0 M) ∧ (48 ≤ l0 → (57 < l0 → K 0 M) ∧ (l0 ≤ 57 → K 1 M))) : ow_At C (EM A L N) d mX8_isDigit 0 [(0, (0, l0))] [] (0, 0) M K := by
  refine ow_iload_n (pc' := 1) (x := l0) dX8_isDigit_0 rfl rfl ?_
  refine ow_bipush (pc' := 3) (n := 48) dX8_isDigit_1 rfl rfl ?_
  refine ow_icmplt (pc' := 6) (tg := 16) dX8_isDigit_3 rfl rfl (fun hc => ?_) (fun hc => ?_)
  · have h := h.1 hc
    refine ow_iconst (pc' := 17) (n := 0) dX8_isDigit_16 rfl rfl ?_
    exact ow_zret dX8_isDigit_17 rfl rfl (Or.inl rfl) h
  · have h := h.2 hc
    refine ow_iload_n (pc' := 7) (x := l0) dX8_isDigit_6 rfl rfl ?_
    refine ow_bipush (pc' := 9) (n := 57) dX8_isDigit_7 rfl rfl ?_
    refine ow_icmpgt (pc' := 12) (tg := 16) dX8_isDigit_9 rfl rfl (fun hc => ?_) (fun hc => ?_)
    · have h := h.1 hc
      refine ow_iconst (pc' := 17) (n := 0) dX8_isDigit_16 rfl rfl ?_
      exact ow_zret dX8_isDigit_17 rfl rfl (Or.inl rfl) h
    · have h := h.2 hc
      refine ow_iconst (pc' := 13) (n := 1) dX8_isDigit_12 rfl rfl ?_
      refine ow_goto (tg := 17) dX8_isDigit_13 rfl ?_
      exact ow_zret dX8_isDigit_17 rfl rfl (Or.inr rfl) h
theorem fX8_isDigit {C : ow_C} {A L N : Int} {d : Nat} {M : ow_M} {K : Int → ow_M → Prop} {l0 : Int} (h : (l0 < 48 → K 0 M) ∧ (48 ≤ l0 → (57 < l0 → K 0 M) ∧ (l0 ≤ 57 → K 1 M))) : ow_Sp C (EM A L N) d mX8_isDigit (0, 0) [(0, l0)] M K := ow_enter (by decide +kernel) rfl rfl (cX8_isDigit_0 h)
set_option maxRecDepth 20000 in
theorem cX8_isSign_0 {C : ow_C} {A L N : Int} {d : Nat} {M : ow_M} {K : Int → ow_M → Prop} {l0 : Int} (h : ow_At C (EM A L N) (d + 1) mX8_isSign 2 [(0, (0, l0)), (1, (0, 0))] [] (0, 0) M K) : ow_At C (EM A L N) (d + 1) mX8_isSign 0 [(0, (0, l0))] [] (0, 0) M K := by
  refine ow_iconst (pc' := 1) (n := 0) dX8_isSign_0 rfl rfl ?_
  refine ow_istore_n (pc' := 2) (lv' := [(0, (0, l0)), (1, (0, 0))]) dX8_isSign_1 rfl rfl rfl ?_
  exact h
set_option maxRecDepth 20000 in
theorem cX8_isSign_2 {C : ow_C} {A L N : Int} {d : Nat} {M : ow_M} {K : Int → ow_M → Prop} {l0 l1 : Int} (h : ow_Sp C (EM A L N) d mJ0_length_8abf5 (0, 0) [(3, 1000 + ((15 : Nat) : Int))] M (fun r1 N1 => (r1 ≤ l1 → K 0 N1) ∧ (l1 < r1 → ow_Sp C (EM A L N) d mJ0_charAt_5068e (0, 0) [(3, 1000 + ((15 : Nat) : Int)), (0, l1)] N1 (fun r2 N2 => (r2 ≠ l0 → ow_I (l1 + 1) ∧ ow_At C (EM A L N) (d + 1) mX8_isSign 2 [(0, (0, l0)), (1, (0, l1 + 1))] [] (0, 0) N2 K) ∧ (r2 = l0 → K 1 N2))))) : ow_At C (EM A L N) (d + 1) mX8_isSign 2 [(0, (0, l0)), (1, (0, l1))] [] (0, 0) M K := by
  refine ow_iload_n (pc' := 3) (x := l1) dX8_isSign_2 rfl rfl ?_
  refine ow_ldcS (pc' := 5) (k := 15) dX8_isSign_3 rfl rfl rfl ?_
  refine ow_callTp (z := mJ0_length_8abf5) (n := 0) (k := 15) (vs := []) (st := [(0, l1)]) (pc' := 8) (b1 := (0, 0)) (b2 := (0, 0)) dX8_isSign_5 lRX8_84 kJ0_length_8abf5 iJ0_length_8abf5 sJ0_length_8abf5 rfl (by decide) rfl rfl rfl rfl rfl rfl (ow_Sp.mono h (fun r1 N1 h => ?_))
  refine ow_icmpge (pc' := 11) (tg := 29) dX8_isSign_8 rfl rfl (fun hc => ?_) (fun hc => ?_)
  · have h := h.1 hc
    refine ow_iconst (pc' := 30) (n := 0) dX8_isSign_29 rfl rfl ?_
    exact ow_zret dX8_isSign_30 rfl rfl (Or.inl rfl) h
  · have h := h.2 hc
    refine ow_ldcS (pc' := 13) (k := 15) dX8_isSign_11 rfl rfl rfl ?_
    refine ow_iload_n (pc' := 14) (x := l1) dX8_isSign_13 rfl rfl ?_
    refine ow_callTp (z := mJ0_charAt_5068e) (n := 1) (k := 15) (vs := [(0, l1)]) (st := []) (pc' := 17) (b1 := (0, 0)) (b2 := (0, 0)) dX8_isSign_14 lRX8_89 kJ0_charAt_5068e iJ0_charAt_5068e sJ0_charAt_5068e rfl (by decide) rfl rfl rfl rfl rfl rfl (ow_Sp.mono h (fun r2 N2 h => ?_))
    refine ow_iload_n (pc' := 18) (x := l0) dX8_isSign_17 rfl rfl ?_
    refine ow_icmpne (pc' := 21) (tg := 23) dX8_isSign_18 rfl rfl (fun hc => ?_) (fun hc => ?_)
    · have h := h.1 hc
      obtain ⟨vv1, h⟩ := h
      refine ow_iinc (pc' := 26) (lv' := [(0, (0, l0)), (1, (0, l1 + 1))]) dX8_isSign_23 rfl vv1 rfl rfl rfl ?_
      refine ow_goto (tg := 2) dX8_isSign_26 rfl ?_
      exact h
    · have h := h.2 hc
      refine ow_iconst (pc' := 22) (n := 1) dX8_isSign_21 rfl rfl ?_
      exact ow_zret dX8_isSign_22 rfl rfl (Or.inr rfl) h
theorem fX8_isSign {C : ow_C} {A L N : Int} {d : Nat} {M : ow_M} {K : Int → ow_M → Prop} {l0 : Int} (h : ow_At C (EM A L N) (d + 1) mX8_isSign 2 [(0, (0, l0)), (1, (0, 0))] [] (0, 0) M K) : ow_Sp C (EM A L N) (d + 1) mX8_isSign (0, 0) [(0, l0)] M K := ow_enter (by decide +kernel) rfl rfl (cX8_isSign_0 h)
set_option maxRecDepth 20000 in
theorem cX8_lettersStop_0 {C : ow_C} {A L N : Int} {d : Nat} {M : ow_M} {K : Int → ow_M → Prop} {l1 : Int} (h : ow_At C (EM A L N) (d + 1) mX8_lettersStop 4 [(0, (3, 53)), (2, (0, l1)), (3, (0, l1))] [] (0, 0) M K) : ow_At C (EM A L N) (d + 1) mX8_lettersStop 0 [(0, (3, 53)), (1, (0, l1))] [] (0, 0) M K := by
  refine ow_iload_n (pc' := 1) (x := l1) dX8_lettersStop_0 rfl rfl ?_
  refine ow_istore_n (pc' := 2) (lv' := [(0, (3, 53)), (1, (0, l1)), (2, (0, l1))]) dX8_lettersStop_1 rfl rfl rfl ?_
  refine ow_iload_n (pc' := 3) (x := l1) dX8_lettersStop_2 rfl rfl ?_
  refine ow_istore_n (pc' := 4) (lv' := [(0, (3, 53)), (1, (0, l1)), (2, (0, l1)), (3, (0, l1))]) dX8_lettersStop_3 rfl rfl rfl ?_
  refine ow_sub (lv' := [(0, (3, 53)), (2, (0, l1)), (3, (0, l1))]) [0, 2, 3] rfl ?_
  exact h
set_option maxRecDepth 20000 in
theorem cX8_lettersStop_4 {C : ow_C} {A L N : Int} {d : Nat} {M : ow_M} {K : Int → ow_M → Prop} {l2 l3 : Int} (h : ((M 53 7) ≤ l3 → K l2 M) ∧ (l3 < (M 53 7) → ow_Sp C (EM A L N) d mX8_byteAt (0, 0) [(3, 53), (0, l3)] M (fun r1 N1 => ow_Sp C (EM A L N) d mX8_isLetter (0, 0) [(0, r1)] N1 (fun r2 N2 => (r2 = 0 → K l2 N2) ∧ (r2 ≠ 0 → ow_I (l3 + 1) ∧ ow_At C (EM A L N) (d + 1) mX8_lettersStop 4 [(0, (3, 53)), (2, (0, l3 + 1)), (3, (0, l3 + 1))] [] (0, 0) N2 K))))) : ow_At C (EM A L N) (d + 1) mX8_lettersStop 4 [(0, (3, 53)), (2, (0, l2)), (3, (0, l3))] [] (0, 0) M K := by
  refine ow_iload_n (pc' := 5) (x := l3) dX8_lettersStop_4 rfl rfl ?_
  refine ow_aload_n (pc' := 6) (x := 53) dX8_lettersStop_5 rfl rfl ?_
  refine ow_getf3 (pc' := 9) (t := 0) (ji := 7) (val := M 53 7) dX8_lettersStop_6 fRX8_31 rfl rfl rfl (of_eq_true eo53) eg53_7 ?_
  refine ow_icmpge (pc' := 12) (tg := 33) dX8_lettersStop_9 rfl rfl (fun hc => ?_) (fun hc => ?_)
  · have h := h.1 hc
    refine ow_iload_n (pc' := 34) (x := l2) dX8_lettersStop_33 rfl rfl ?_
    exact ow_iret dX8_lettersStop_34 rfl rfl h
  · have h := h.2 hc
    refine ow_aload_n (pc' := 13) (x := 53) dX8_lettersStop_12 rfl rfl ?_
    refine ow_iload_n (pc' := 14) (x := l3) dX8_lettersStop_13 rfl rfl ?_
    refine ow_callVp (z := mX8_byteAt) (n := 1) (k := 8) (vs := [(0, l3)]) (x := 53) (st := []) (pc' := 17) (b1 := (0, 0)) (b2 := (0, 0)) dX8_lettersStop_14 lRX8_47 kX8_byteAt iX8_byteAt rfl rfl rfl rfl rfl rfl (of_eq_true eo53) (ow_Sp.mono h (fun r1 N1 h => ?_))
    refine ow_callSp (z := mX8_isLetter) (n := 1) (vs := [(0, r1)]) (st := []) (pc' := 20) (b1 := (0, 0)) (b2 := (0, 0)) dX8_lettersStop_17 lRX8_58 kX8_isLetter zX8_isLetter rfl rfl rfl rfl rfl rfl (ow_Sp.mono h (fun r2 N2 h => ?_))
    refine ow_ifeq (pc' := 23) (tg := 33) dX8_lettersStop_20 rfl rfl (fun hc => ?_) (fun hc => ?_)
    · have h := h.1 hc
      refine ow_iload_n (pc' := 34) (x := l2) dX8_lettersStop_33 rfl rfl ?_
      exact ow_iret dX8_lettersStop_34 rfl rfl h
    · have h := h.2 hc
      refine ow_iload_n (pc' := 24) (x := l3) dX8_lettersStop_23 rfl rfl ?_
      refine ow_iconst (pc' := 25) (n := 1) dX8_lettersStop_24 rfl rfl ?_
      obtain ⟨vv1, h⟩ := h
      refine ow_iadd (pc' := 26) dX8_lettersStop_25 vv1 rfl ?_
      refine ow_istore_n (pc' := 27) (lv' := [(0, (3, 53)), (2, (0, l3 + 1)), (3, (0, l3))]) dX8_lettersStop_26 rfl rfl rfl ?_
      refine ow_iinc (pc' := 30) (lv' := [(0, (3, 53)), (2, (0, l3 + 1)), (3, (0, l3 + 1))]) dX8_lettersStop_27 rfl vv1 rfl rfl rfl ?_
      refine ow_goto (tg := 4) dX8_lettersStop_30 rfl ?_
      exact h
theorem fX8_lettersStop {C : ow_C} {A L N : Int} {d : Nat} {M : ow_M} {K : Int → ow_M → Prop} {l1 : Int} (h : ow_At C (EM A L N) (d + 1) mX8_lettersStop 4 [(0, (3, 53)), (2, (0, l1)), (3, (0, l1))] [] (0, 0) M K) : ow_Sp C (EM A L N) (d + 1) mX8_lettersStop (0, 0) [(3, 53), (0, l1)] M K := ow_enter (by decide +kernel) rfl rfl (cX8_lettersStop_0 h)
set_option maxRecDepth 20000 in
theorem cX8_digitsStop_0 {C : ow_C} {A L N : Int} {d : Nat} {M : ow_M} {K : Int → ow_M → Prop} {l1 : Int} (h : ow_At C (EM A L N) (d + 1) mX8_digitsStop 4 [(0, (3, 53)), (2, (0, l1)), (3, (0, l1))] [] (0, 0) M K) : ow_At C (EM A L N) (d + 1) mX8_digitsStop 0 [(0, (3, 53)), (1, (0, l1))] [] (0, 0) M K := by
  refine ow_iload_n (pc' := 1) (x := l1) dX8_digitsStop_0 rfl rfl ?_
  refine ow_istore_n (pc' := 2) (lv' := [(0, (3, 53)), (1, (0, l1)), (2, (0, l1))]) dX8_digitsStop_1 rfl rfl rfl ?_
  refine ow_iload_n (pc' := 3) (x := l1) dX8_digitsStop_2 rfl rfl ?_
  refine ow_istore_n (pc' := 4) (lv' := [(0, (3, 53)), (1, (0, l1)), (2, (0, l1)), (3, (0, l1))]) dX8_digitsStop_3 rfl rfl rfl ?_
  refine ow_sub (lv' := [(0, (3, 53)), (2, (0, l1)), (3, (0, l1))]) [0, 2, 3] rfl ?_
  exact h
set_option maxRecDepth 20000 in
theorem cX8_digitsStop_4 {C : ow_C} {A L N : Int} {d : Nat} {M : ow_M} {K : Int → ow_M → Prop} {l2 l3 : Int} (h : ((M 53 7) ≤ l3 → K l2 M) ∧ (l3 < (M 53 7) → ow_Sp C (EM A L N) d mX8_byteAt (0, 0) [(3, 53), (0, l3)] M (fun r1 N1 => ow_Sp C (EM A L N) d mX8_isDigit (0, 0) [(0, r1)] N1 (fun r2 N2 => (r2 = 0 → K l2 N2) ∧ (r2 ≠ 0 → ow_I (l3 + 1) ∧ ow_At C (EM A L N) (d + 1) mX8_digitsStop 4 [(0, (3, 53)), (2, (0, l3 + 1)), (3, (0, l3 + 1))] [] (0, 0) N2 K))))) : ow_At C (EM A L N) (d + 1) mX8_digitsStop 4 [(0, (3, 53)), (2, (0, l2)), (3, (0, l3))] [] (0, 0) M K := by
  refine ow_iload_n (pc' := 5) (x := l3) dX8_digitsStop_4 rfl rfl ?_
  refine ow_aload_n (pc' := 6) (x := 53) dX8_digitsStop_5 rfl rfl ?_
  refine ow_getf3 (pc' := 9) (t := 0) (ji := 7) (val := M 53 7) dX8_digitsStop_6 fRX8_31 rfl rfl rfl (of_eq_true eo53) eg53_7 ?_
  refine ow_icmpge (pc' := 12) (tg := 33) dX8_digitsStop_9 rfl rfl (fun hc => ?_) (fun hc => ?_)
  · have h := h.1 hc
    refine ow_iload_n (pc' := 34) (x := l2) dX8_digitsStop_33 rfl rfl ?_
    exact ow_iret dX8_digitsStop_34 rfl rfl h
  · have h := h.2 hc
    refine ow_aload_n (pc' := 13) (x := 53) dX8_digitsStop_12 rfl rfl ?_
    refine ow_iload_n (pc' := 14) (x := l3) dX8_digitsStop_13 rfl rfl ?_
    refine ow_callVp (z := mX8_byteAt) (n := 1) (k := 8) (vs := [(0, l3)]) (x := 53) (st := []) (pc' := 17) (b1 := (0, 0)) (b2 := (0, 0)) dX8_digitsStop_14 lRX8_47 kX8_byteAt iX8_byteAt rfl rfl rfl rfl rfl rfl (of_eq_true eo53) (ow_Sp.mono h (fun r1 N1 h => ?_))
    refine ow_callSp (z := mX8_isDigit) (n := 1) (vs := [(0, r1)]) (st := []) (pc' := 20) (b1 := (0, 0)) (b2 := (0, 0)) dX8_digitsStop_17 lRX8_70 kX8_isDigit zX8_isDigit rfl rfl rfl rfl rfl rfl (ow_Sp.mono h (fun r2 N2 h => ?_))
    refine ow_ifeq (pc' := 23) (tg := 33) dX8_digitsStop_20 rfl rfl (fun hc => ?_) (fun hc => ?_)
    · have h := h.1 hc
      refine ow_iload_n (pc' := 34) (x := l2) dX8_digitsStop_33 rfl rfl ?_
      exact ow_iret dX8_digitsStop_34 rfl rfl h
    · have h := h.2 hc
      refine ow_iload_n (pc' := 24) (x := l3) dX8_digitsStop_23 rfl rfl ?_
      refine ow_iconst (pc' := 25) (n := 1) dX8_digitsStop_24 rfl rfl ?_
      obtain ⟨vv1, h⟩ := h
      refine ow_iadd (pc' := 26) dX8_digitsStop_25 vv1 rfl ?_
      refine ow_istore_n (pc' := 27) (lv' := [(0, (3, 53)), (2, (0, l3 + 1)), (3, (0, l3))]) dX8_digitsStop_26 rfl rfl rfl ?_
      refine ow_iinc (pc' := 30) (lv' := [(0, (3, 53)), (2, (0, l3 + 1)), (3, (0, l3 + 1))]) dX8_digitsStop_27 rfl vv1 rfl rfl rfl ?_
      refine ow_goto (tg := 4) dX8_digitsStop_30 rfl ?_
      exact h
theorem fX8_digitsStop {C : ow_C} {A L N : Int} {d : Nat} {M : ow_M} {K : Int → ow_M → Prop} {l1 : Int} (h : ow_At C (EM A L N) (d + 1) mX8_digitsStop 4 [(0, (3, 53)), (2, (0, l1)), (3, (0, l1))] [] (0, 0) M K) : ow_Sp C (EM A L N) (d + 1) mX8_digitsStop (0, 0) [(3, 53), (0, l1)] M K := ow_enter (by decide +kernel) rfl rfl (cX8_digitsStop_0 h)
set_option maxRecDepth 20000 in
theorem cX8_numberOf_0 {C : ow_C} {A L N : Int} {d : Nat} {M : ow_M} {K : Int → ow_M → Prop} {l1 l2 : Int} (h : ow_At C (EM A L N) (d + 1) mX8_numberOf 5 [(0, (3, 53)), (2, (0, l2)), (3, (0, 0)), (4, (0, l1))] [] (0, 0) M K) : ow_At C (EM A L N) (d + 1) mX8_numberOf 0 [(0, (3, 53)), (1, (0, l1)), (2, (0, l2))] [] (0, 0) M K := by
  refine ow_iconst (pc' := 1) (n := 0) dX8_numberOf_0 rfl rfl ?_
  refine ow_istore_n (pc' := 2) (lv' := [(0, (3, 53)), (1, (0, l1)), (2, (0, l2)), (3, (0, 0))]) dX8_numberOf_1 rfl rfl rfl ?_
  refine ow_iload_n (pc' := 3) (x := l1) dX8_numberOf_2 rfl rfl ?_
  refine ow_istore (pc' := 5) (lv' := [(0, (3, 53)), (1, (0, l1)), (2, (0, l2)), (3, (0, 0)), (4, (0, l1))]) dX8_numberOf_3 rfl rfl rfl ?_
  refine ow_sub (lv' := [(0, (3, 53)), (2, (0, l2)), (3, (0, 0)), (4, (0, l1))]) [0, 2, 3, 4] rfl ?_
  exact h
set_option maxRecDepth 20000 in
theorem cX8_numberOf_5 {C : ow_C} {A L N : Int} {d : Nat} {M : ow_M} {K : Int → ow_M → Prop} {l2 l3 l4 : Int} (h : (l2 ≤ l4 → K l3 M) ∧ (l4 < l2 → ow_I (l3 * 10) ∧ ow_Sp C (EM A L N) d mX8_byteAt (0, 0) [(3, 53), (0, l4)] M (fun r1 N1 => ow_I ((l3 * 10) + r1) ∧ ow_I (((l3 * 10) + r1) - 48) ∧ ow_I (l4 + 1) ∧ ow_At C (EM A L N) (d + 1) mX8_numberOf 5 [(0, (3, 53)), (2, (0, l2)), (3, (0, min 10000 (((l3 * 10) + r1) - 48))), (4, (0, l4 + 1))] [] (0, 0) N1 K))) : ow_At C (EM A L N) (d + 1) mX8_numberOf 5 [(0, (3, 53)), (2, (0, l2)), (3, (0, l3)), (4, (0, l4))] [] (0, 0) M K := by
  refine ow_iload (pc' := 7) (x := l4) dX8_numberOf_5 rfl rfl ?_
  refine ow_iload_n (pc' := 8) (x := l2) dX8_numberOf_7 rfl rfl ?_
  refine ow_icmpge (pc' := 11) (tg := 38) dX8_numberOf_8 rfl rfl (fun hc => ?_) (fun hc => ?_)
  · have h := h.1 hc
    refine ow_iload_n (pc' := 39) (x := l3) dX8_numberOf_38 rfl rfl ?_
    exact ow_iret dX8_numberOf_39 rfl rfl h
  · have h := h.2 hc
    refine ow_sipush (pc' := 14) (n := 10000) dX8_numberOf_11 rfl rfl ?_
    refine ow_iload_n (pc' := 15) (x := l3) dX8_numberOf_14 rfl rfl ?_
    refine ow_bipush (pc' := 17) (n := 10) dX8_numberOf_15 rfl rfl ?_
    obtain ⟨vv1, h⟩ := h
    refine ow_imul (pc' := 18) dX8_numberOf_17 vv1 rfl ?_
    refine ow_aload_n (pc' := 19) (x := 53) dX8_numberOf_18 rfl rfl ?_
    refine ow_iload (pc' := 21) (x := l4) dX8_numberOf_19 rfl rfl ?_
    refine ow_callVp (z := mX8_byteAt) (n := 1) (k := 8) (vs := [(0, l4)]) (x := 53) (st := [(0, l3 * 10), (0, 10000)]) (pc' := 24) (b1 := (0, 0)) (b2 := (0, 0)) dX8_numberOf_21 lRX8_47 kX8_byteAt iX8_byteAt rfl rfl rfl rfl rfl rfl (of_eq_true eo53) (ow_Sp.mono h (fun r1 N1 h => ?_))
    obtain ⟨vv2, h⟩ := h
    refine ow_iadd (pc' := 25) dX8_numberOf_24 vv2 rfl ?_
    refine ow_bipush (pc' := 27) (n := 48) dX8_numberOf_25 rfl rfl ?_
    obtain ⟨vv3, h⟩ := h
    refine ow_isub (pc' := 28) dX8_numberOf_27 vv3 rfl ?_
    refine ow_mmin (pc' := 31) dX8_numberOf_28 lRX8_38 ow_mN1 ow_mi0 ow_mN2 rfl rfl ?_
    refine ow_istore_n (pc' := 32) (lv' := [(0, (3, 53)), (2, (0, l2)), (3, (0, min 10000 (((l3 * 10) + r1) - 48))), (4, (0, l4))]) dX8_numberOf_31 rfl rfl rfl ?_
    obtain ⟨vv4, h⟩ := h
    refine ow_iinc (pc' := 35) (lv' := [(0, (3, 53)), (2, (0, l2)), (3, (0, min 10000 (((l3 * 10) + r1) - 48))), (4, (0, l4 + 1))]) dX8_numberOf_32 rfl vv4 rfl rfl rfl ?_
    refine ow_goto (tg := 5) dX8_numberOf_35 rfl ?_
    exact h
theorem fX8_numberOf {C : ow_C} {A L N : Int} {d : Nat} {M : ow_M} {K : Int → ow_M → Prop} {l1 l2 : Int} (h : ow_At C (EM A L N) (d + 1) mX8_numberOf 5 [(0, (3, 53)), (2, (0, l2)), (3, (0, 0)), (4, (0, l1))] [] (0, 0) M K) : ow_Sp C (EM A L N) (d + 1) mX8_numberOf (0, 0) [(3, 53), (0, l1), (0, l2)] M K := ow_enter (by decide +kernel) rfl rfl (cX8_numberOf_0 h)
set_option maxRecDepth 20000 in
theorem cX8_nameOf_0 {C : ow_C} {A L N : Int} {d : Nat} {M : ow_M} {K : Int → ow_M → Prop} {l1 l2 : Int} (h : ow_At C (EM A L N) (d + 1) mX8_nameOf 2 [(0, (3, 53)), (1, (0, l1)), (2, (0, l2)), (3, (0, 0))] [] (0, 0) M K) : ow_At C (EM A L N) (d + 1) mX8_nameOf 0 [(0, (3, 53)), (1, (0, l1)), (2, (0, l2))] [] (0, 0) M K := by
  refine ow_iconst (pc' := 1) (n := 0) dX8_nameOf_0 rfl rfl ?_
  refine ow_istore_n (pc' := 2) (lv' := [(0, (3, 53)), (1, (0, l1)), (2, (0, l2)), (3, (0, 0))]) dX8_nameOf_1 rfl rfl rfl ?_
  exact h
set_option maxRecDepth 20000 in
theorem cX8_nameOf_2 {C : ow_C} {A L N : Int} {d : Nat} {M : ow_M} {K : Int → ow_M → Prop} {l1 l2 l3 : Int} (h : (14 ≤ l3 → K ((-1)) M) ∧ (l3 < 14 → ow_Sp C (EM A L N) d mX8_nameBy (0, 0) [(0, l3)] M (fun r1 N1 => ow_Sp C (EM A L N) d mX8_spells (0, 0) [(3, 53), (0, l1), (0, l2), (3, r1)] N1 (fun r2 N2 => (r2 = 0 → ow_I (l3 + 1) ∧ ow_At C (EM A L N) (d + 1) mX8_nameOf 2 [(0, (3, 53)), (1, (0, l1)), (2, (0, l2)), (3, (0, l3 + 1))] [] (0, 0) N2 K) ∧ (r2 ≠ 0 → K l3 N2))))) : ow_At C (EM A L N) (d + 1) mX8_nameOf 2 [(0, (3, 53)), (1, (0, l1)), (2, (0, l2)), (3, (0, l3))] [] (0, 0) M K := by
  refine ow_iload_n (pc' := 3) (x := l3) dX8_nameOf_2 rfl rfl ?_
  refine ow_bipush (pc' := 5) (n := 14) dX8_nameOf_3 rfl rfl ?_
  refine ow_icmpge (pc' := 8) (tg := 29) dX8_nameOf_5 rfl rfl (fun hc => ?_) (fun hc => ?_)
  · have h := h.1 hc
    refine ow_iconst (pc' := 30) (n := (-1)) dX8_nameOf_29 rfl rfl ?_
    exact ow_iret dX8_nameOf_30 rfl rfl h
  · have h := h.2 hc
    refine ow_aload_n (pc' := 9) (x := 53) dX8_nameOf_8 rfl rfl ?_
    refine ow_iload_n (pc' := 10) (x := l1) dX8_nameOf_9 rfl rfl ?_
    refine ow_iload_n (pc' := 11) (x := l2) dX8_nameOf_10 rfl rfl ?_
    refine ow_iload_n (pc' := 12) (x := l3) dX8_nameOf_11 rfl rfl ?_
    refine ow_callSp (z := mX8_nameBy) (n := 1) (vs := [(0, l3)]) (st := [(0, l2), (0, l1), (3, 53)]) (pc' := 15) (b1 := (0, 0)) (b2 := (0, 0)) dX8_nameOf_12 lRX8_93 kX8_nameBy zX8_nameBy rfl rfl rfl rfl rfl rfl (ow_Sp.mono h (fun r1 N1 h => ?_))
    refine ow_callVp (z := mX8_spells) (n := 3) (k := 8) (vs := [(0, l1), (0, l2), (3, r1)]) (x := 53) (st := []) (pc' := 18) (b1 := (0, 0)) (b2 := (0, 0)) dX8_nameOf_15 lRX8_97 kX8_spells iX8_spells rfl rfl rfl rfl rfl rfl (of_eq_true eo53) (ow_Sp.mono h (fun r2 N2 h => ?_))
    refine ow_ifeq (pc' := 21) (tg := 23) dX8_nameOf_18 rfl rfl (fun hc => ?_) (fun hc => ?_)
    · have h := h.1 hc
      obtain ⟨vv1, h⟩ := h
      refine ow_iinc (pc' := 26) (lv' := [(0, (3, 53)), (1, (0, l1)), (2, (0, l2)), (3, (0, l3 + 1))]) dX8_nameOf_23 rfl vv1 rfl rfl rfl ?_
      refine ow_goto (tg := 2) dX8_nameOf_26 rfl ?_
      exact h
    · have h := h.2 hc
      refine ow_iload_n (pc' := 22) (x := l3) dX8_nameOf_21 rfl rfl ?_
      exact ow_iret dX8_nameOf_22 rfl rfl h
theorem fX8_nameOf {C : ow_C} {A L N : Int} {d : Nat} {M : ow_M} {K : Int → ow_M → Prop} {l1 l2 : Int} (h : ow_At C (EM A L N) (d + 1) mX8_nameOf 2 [(0, (3, 53)), (1, (0, l1)), (2, (0, l2)), (3, (0, 0))] [] (0, 0) M K) : ow_Sp C (EM A L N) (d + 1) mX8_nameOf (0, 0) [(3, 53), (0, l1), (0, l2)] M K := ow_enter (by decide +kernel) rfl rfl (cX8_nameOf_0 h)
set_option maxRecDepth 20000 in
theorem cX8_spells_0 {C : ow_C} {A L N : Int} {d : Nat} {M : ow_M} {K : Int → ow_M → Prop} {k : Nat} {l1 l2 : Int} (hk : k < 16) (h : ow_I (l2 - l1) ∧ ow_Sp C (EM A L N) d mJ0_length_8abf5 (0, 0) [(3, 1000 + (k : Int))] M (fun r1 N1 => ((l2 - l1) = r1 → ow_At C (EM A L N) (d + 1) mX8_spells 15 [(0, (3, 53)), (1, (0, l1)), (3, (3, 1000 + (k : Int))), (4, (0, 0))] [] (0, 0) N1 K) ∧ ((l2 - l1) ≠ r1 → K 0 N1))) : ow_At C (EM A L N) (d + 1) mX8_spells 0 [(0, (3, 53)), (1, (0, l1)), (2, (0, l2)), (3, (3, 1000 + (k : Int)))] [] (0, 0) M K := by
  refine ow_iload_n (pc' := 1) (x := l2) dX8_spells_0 rfl rfl ?_
  refine ow_iload_n (pc' := 2) (x := l1) dX8_spells_1 rfl rfl ?_
  obtain ⟨vv1, h⟩ := h
  refine ow_isub (pc' := 3) dX8_spells_2 vv1 rfl ?_
  refine ow_aload_n (pc' := 4) (x := 1000 + (k : Int)) dX8_spells_3 rfl rfl ?_
  refine ow_callTp (z := mJ0_length_8abf5) (n := 0) (k := k) (vs := []) (st := [(0, l2 - l1)]) (pc' := 7) (b1 := (0, 0)) (b2 := (0, 0)) dX8_spells_4 lRX8_84 kJ0_length_8abf5 iJ0_length_8abf5 sJ0_length_8abf5 rfl hk rfl rfl rfl rfl rfl rfl (ow_Sp.mono h (fun r1 N1 h => ?_))
  refine ow_icmpeq (pc' := 10) (tg := 12) dX8_spells_7 rfl rfl (fun hc => ?_) (fun hc => ?_)
  · have h := h.1 hc
    refine ow_iconst (pc' := 13) (n := 0) dX8_spells_12 rfl rfl ?_
    refine ow_istore (pc' := 15) (lv' := [(0, (3, 53)), (1, (0, l1)), (2, (0, l2)), (3, (3, 1000 + (k : Int))), (4, (0, 0))]) dX8_spells_13 rfl rfl rfl ?_
    refine ow_sub (lv' := [(0, (3, 53)), (1, (0, l1)), (3, (3, 1000 + (k : Int))), (4, (0, 0))]) [0, 1, 3, 4] rfl ?_
    exact h
  · have h := h.2 hc
    refine ow_iconst (pc' := 11) (n := 0) dX8_spells_10 rfl rfl ?_
    exact ow_zret dX8_spells_11 rfl rfl (Or.inl rfl) h
set_option maxRecDepth 20000 in
theorem cX8_spells_15 {C : ow_C} {A L N : Int} {d : Nat} {M : ow_M} {K : Int → ow_M → Prop} {k : Nat} {l1 l4 : Int} (hk : k < 16) (h : ow_Sp C (EM A L N) d mJ0_length_8abf5 (0, 0) [(3, 1000 + (k : Int))] M (fun r1 N1 => (r1 ≤ l4 → K 1 N1) ∧ (l4 < r1 → ow_I (l1 + l4) ∧ ow_Sp C (EM A L N) d mX8_byteAt (0, 0) [(3, 53), (0, l1 + l4)] N1 (fun r2 N2 => ow_Sp C (EM A L N) d mJ0_charAt_5068e (0, 0) [(3, 1000 + (k : Int)), (0, l4)] N2 (fun r3 N3 => (r2 = r3 → ow_I (l4 + 1) ∧ ow_At C (EM A L N) (d + 1) mX8_spells 15 [(0, (3, 53)), (1, (0, l1)), (3, (3, 1000 + (k : Int))), (4, (0, l4 + 1))] [] (0, 0) N3 K) ∧ (r2 ≠ r3 → K 0 N3)))))) : ow_At C (EM A L N) (d + 1) mX8_spells 15 [(0, (3, 53)), (1, (0, l1)), (3, (3, 1000 + (k : Int))), (4, (0, l4))] [] (0, 0) M K := by
  refine ow_iload (pc' := 17) (x := l4) dX8_spells_15 rfl rfl ?_
  refine ow_aload_n (pc' := 18) (x := 1000 + (k : Int)) dX8_spells_17 rfl rfl ?_
  refine ow_callTp (z := mJ0_length_8abf5) (n := 0) (k := k) (vs := []) (st := [(0, l4)]) (pc' := 21) (b1 := (0, 0)) (b2 := (0, 0)) dX8_spells_18 lRX8_84 kJ0_length_8abf5 iJ0_length_8abf5 sJ0_length_8abf5 rfl hk rfl rfl rfl rfl rfl rfl (ow_Sp.mono h (fun r1 N1 h => ?_))
  refine ow_icmpge (pc' := 24) (tg := 49) dX8_spells_21 rfl rfl (fun hc => ?_) (fun hc => ?_)
  · have h := h.1 hc
    refine ow_iconst (pc' := 50) (n := 1) dX8_spells_49 rfl rfl ?_
    exact ow_zret dX8_spells_50 rfl rfl (Or.inr rfl) h
  · have h := h.2 hc
    refine ow_aload_n (pc' := 25) (x := 53) dX8_spells_24 rfl rfl ?_
    refine ow_iload_n (pc' := 26) (x := l1) dX8_spells_25 rfl rfl ?_
    refine ow_iload (pc' := 28) (x := l4) dX8_spells_26 rfl rfl ?_
    obtain ⟨vv1, h⟩ := h
    refine ow_iadd (pc' := 29) dX8_spells_28 vv1 rfl ?_
    refine ow_callVp (z := mX8_byteAt) (n := 1) (k := 8) (vs := [(0, l1 + l4)]) (x := 53) (st := []) (pc' := 32) (b1 := (0, 0)) (b2 := (0, 0)) dX8_spells_29 lRX8_47 kX8_byteAt iX8_byteAt rfl rfl rfl rfl rfl rfl (of_eq_true eo53) (ow_Sp.mono h (fun r2 N2 h => ?_))
    refine ow_aload_n (pc' := 33) (x := 1000 + (k : Int)) dX8_spells_32 rfl rfl ?_
    refine ow_iload (pc' := 35) (x := l4) dX8_spells_33 rfl rfl ?_
    refine ow_callTp (z := mJ0_charAt_5068e) (n := 1) (k := k) (vs := [(0, l4)]) (st := [(0, r2)]) (pc' := 38) (b1 := (0, 0)) (b2 := (0, 0)) dX8_spells_35 lRX8_89 kJ0_charAt_5068e iJ0_charAt_5068e sJ0_charAt_5068e rfl hk rfl rfl rfl rfl rfl rfl (ow_Sp.mono h (fun r3 N3 h => ?_))
    refine ow_icmpeq (pc' := 41) (tg := 43) dX8_spells_38 rfl rfl (fun hc => ?_) (fun hc => ?_)
    · have h := h.1 hc
      obtain ⟨vv2, h⟩ := h
      refine ow_iinc (pc' := 46) (lv' := [(0, (3, 53)), (1, (0, l1)), (3, (3, 1000 + (k : Int))), (4, (0, l4 + 1))]) dX8_spells_43 rfl vv2 rfl rfl rfl ?_
      refine ow_goto (tg := 15) dX8_spells_46 rfl ?_
      exact h
    · have h := h.2 hc
      refine ow_iconst (pc' := 42) (n := 0) dX8_spells_41 rfl rfl ?_
      exact ow_zret dX8_spells_42 rfl rfl (Or.inl rfl) h
theorem fX8_spells {C : ow_C} {A L N : Int} {d : Nat} {M : ow_M} {K : Int → ow_M → Prop} {k : Nat} {l1 l2 : Int} (hk : k < 16) (h : ow_I (l2 - l1) ∧ ow_Sp C (EM A L N) d mJ0_length_8abf5 (0, 0) [(3, 1000 + (k : Int))] M (fun r1 N1 => ((l2 - l1) = r1 → ow_At C (EM A L N) (d + 1) mX8_spells 15 [(0, (3, 53)), (1, (0, l1)), (3, (3, 1000 + (k : Int))), (4, (0, 0))] [] (0, 0) N1 K) ∧ ((l2 - l1) ≠ r1 → K 0 N1))) : ow_Sp C (EM A L N) (d + 1) mX8_spells (0, 0) [(3, 53), (0, l1), (0, l2), (3, 1000 + (k : Int))] M K := ow_enter (by decide +kernel) rfl rfl (cX8_spells_0 hk h)
set_option maxRecDepth 20000 in
theorem cX8_nameBy_0 {C : ow_C} {A L N : Int} {d : Nat} {M : ow_M} {K : Int → ow_M → Prop} {l0 : Int} (h : (l0 = 0 → K (1000 + ((0 : Nat) : Int)) M) ∧ (l0 ≠ 0 → (l0 = 1 → K (1000 + ((1 : Nat) : Int)) M) ∧ (l0 ≠ 1 → (l0 = 2 → K (1000 + ((2 : Nat) : Int)) M) ∧ (l0 ≠ 2 → (l0 = 3 → K (1000 + ((3 : Nat) : Int)) M) ∧ (l0 ≠ 3 → (l0 = 4 → K (1000 + ((4 : Nat) : Int)) M) ∧ (l0 ≠ 4 → (l0 = 5 → K (1000 + ((5 : Nat) : Int)) M) ∧ (l0 ≠ 5 → (l0 = 6 → K (1000 + ((6 : Nat) : Int)) M) ∧ (l0 ≠ 6 → (l0 = 7 → K (1000 + ((7 : Nat) : Int)) M) ∧ (l0 ≠ 7 → (l0 = 8 → K (1000 + ((8 : Nat) : Int)) M) ∧ (l0 ≠ 8 → (l0 = 9 → K (1000 + ((9 : Nat) : Int)) M) ∧ (l0 ≠ 9 → (l0 = 10 → K (1000 + ((10 : Nat) : Int)) M) ∧ (l0 ≠ 10 → (l0 = 11 → K (1000 + ((11 : Nat) : Int)) M) ∧ (l0 ≠ 11 → (l0 = 12 → K (1000 + ((12 : Nat) : Int)) M) ∧ (l0 ≠ 12 → (l0 = 13 → K (1000 + ((13 : Nat) : Int)) M) ∧ (l0 ≠ 13 → K (1000 + ((14 : Nat) : Int)) M))))))))))))))) : ow_At C (EM A L N) d mX8_nameBy 0 [(0, (0, l0))] [] (0, 0) M K := by
  refine ow_iload_n (pc' := 1) (x := l0) dX8_nameBy_0 rfl rfl ?_
  refine ow_tsw (tbl := [(0, 72), (1, 75), (2, 78), (3, 81), (4, 84), (5, 87), (6, 90), (7, 93), (8, 96), (9, 99), (10, 102), (11, 105), (12, 108), (13, 111)]) (td := 114) dX8_nameBy_1 rfl rfl rfl rfl ?_
  refine And.intro (fun hc => ?_) (fun hc => ?_)
  · have h := h.1 hc
    refine ow_ldcS (pc' := 74) (k := 0) dX8_nameBy_72 rfl rfl rfl ?_
    exact ow_aret dX8_nameBy_74 rfl rfl h
  have h := h.2 hc
  refine And.intro (fun hc => ?_) (fun hc => ?_)
  · have h := h.1 hc
    refine ow_ldcS (pc' := 77) (k := 1) dX8_nameBy_75 rfl rfl rfl ?_
    exact ow_aret dX8_nameBy_77 rfl rfl h
  have h := h.2 hc
  refine And.intro (fun hc => ?_) (fun hc => ?_)
  · have h := h.1 hc
    refine ow_ldcS (pc' := 80) (k := 2) dX8_nameBy_78 rfl rfl rfl ?_
    exact ow_aret dX8_nameBy_80 rfl rfl h
  have h := h.2 hc
  refine And.intro (fun hc => ?_) (fun hc => ?_)
  · have h := h.1 hc
    refine ow_ldcS (pc' := 83) (k := 3) dX8_nameBy_81 rfl rfl rfl ?_
    exact ow_aret dX8_nameBy_83 rfl rfl h
  have h := h.2 hc
  refine And.intro (fun hc => ?_) (fun hc => ?_)
  · have h := h.1 hc
    refine ow_ldcS (pc' := 86) (k := 4) dX8_nameBy_84 rfl rfl rfl ?_
    exact ow_aret dX8_nameBy_86 rfl rfl h
  have h := h.2 hc
  refine And.intro (fun hc => ?_) (fun hc => ?_)
  · have h := h.1 hc
    refine ow_ldcS (pc' := 89) (k := 5) dX8_nameBy_87 rfl rfl rfl ?_
    exact ow_aret dX8_nameBy_89 rfl rfl h
  have h := h.2 hc
  refine And.intro (fun hc => ?_) (fun hc => ?_)
  · have h := h.1 hc
    refine ow_ldcS (pc' := 92) (k := 6) dX8_nameBy_90 rfl rfl rfl ?_
    exact ow_aret dX8_nameBy_92 rfl rfl h
  have h := h.2 hc
  refine And.intro (fun hc => ?_) (fun hc => ?_)
  · have h := h.1 hc
    refine ow_ldcS (pc' := 95) (k := 7) dX8_nameBy_93 rfl rfl rfl ?_
    exact ow_aret dX8_nameBy_95 rfl rfl h
  have h := h.2 hc
  refine And.intro (fun hc => ?_) (fun hc => ?_)
  · have h := h.1 hc
    refine ow_ldcS (pc' := 98) (k := 8) dX8_nameBy_96 rfl rfl rfl ?_
    exact ow_aret dX8_nameBy_98 rfl rfl h
  have h := h.2 hc
  refine And.intro (fun hc => ?_) (fun hc => ?_)
  · have h := h.1 hc
    refine ow_ldcS (pc' := 101) (k := 9) dX8_nameBy_99 rfl rfl rfl ?_
    exact ow_aret dX8_nameBy_101 rfl rfl h
  have h := h.2 hc
  refine And.intro (fun hc => ?_) (fun hc => ?_)
  · have h := h.1 hc
    refine ow_ldcS (pc' := 104) (k := 10) dX8_nameBy_102 rfl rfl rfl ?_
    exact ow_aret dX8_nameBy_104 rfl rfl h
  have h := h.2 hc
  refine And.intro (fun hc => ?_) (fun hc => ?_)
  · have h := h.1 hc
    refine ow_ldcS (pc' := 107) (k := 11) dX8_nameBy_105 rfl rfl rfl ?_
    exact ow_aret dX8_nameBy_107 rfl rfl h
  have h := h.2 hc
  refine And.intro (fun hc => ?_) (fun hc => ?_)
  · have h := h.1 hc
    refine ow_ldcS (pc' := 110) (k := 12) dX8_nameBy_108 rfl rfl rfl ?_
    exact ow_aret dX8_nameBy_110 rfl rfl h
  have h := h.2 hc
  refine And.intro (fun hc => ?_) (fun hc => ?_)
  · have h := h.1 hc
    refine ow_ldcS (pc' := 113) (k := 13) dX8_nameBy_111 rfl rfl rfl ?_
    exact ow_aret dX8_nameBy_113 rfl rfl h
  have h := h.2 hc
  refine ow_ldcS (pc' := 116) (k := 14) dX8_nameBy_114 rfl rfl rfl ?_
  exact ow_aret dX8_nameBy_116 rfl rfl h
theorem fX8_nameBy {C : ow_C} {A L N : Int} {d : Nat} {M : ow_M} {K : Int → ow_M → Prop} {l0 : Int} (h : (l0 = 0 → K (1000 + ((0 : Nat) : Int)) M) ∧ (l0 ≠ 0 → (l0 = 1 → K (1000 + ((1 : Nat) : Int)) M) ∧ (l0 ≠ 1 → (l0 = 2 → K (1000 + ((2 : Nat) : Int)) M) ∧ (l0 ≠ 2 → (l0 = 3 → K (1000 + ((3 : Nat) : Int)) M) ∧ (l0 ≠ 3 → (l0 = 4 → K (1000 + ((4 : Nat) : Int)) M) ∧ (l0 ≠ 4 → (l0 = 5 → K (1000 + ((5 : Nat) : Int)) M) ∧ (l0 ≠ 5 → (l0 = 6 → K (1000 + ((6 : Nat) : Int)) M) ∧ (l0 ≠ 6 → (l0 = 7 → K (1000 + ((7 : Nat) : Int)) M) ∧ (l0 ≠ 7 → (l0 = 8 → K (1000 + ((8 : Nat) : Int)) M) ∧ (l0 ≠ 8 → (l0 = 9 → K (1000 + ((9 : Nat) : Int)) M) ∧ (l0 ≠ 9 → (l0 = 10 → K (1000 + ((10 : Nat) : Int)) M) ∧ (l0 ≠ 10 → (l0 = 11 → K (1000 + ((11 : Nat) : Int)) M) ∧ (l0 ≠ 11 → (l0 = 12 → K (1000 + ((12 : Nat) : Int)) M) ∧ (l0 ≠ 12 → (l0 = 13 → K (1000 + ((13 : Nat) : Int)) M) ∧ (l0 ≠ 13 → K (1000 + ((14 : Nat) : Int)) M))))))))))))))) : ow_Sp C (EM A L N) d mX8_nameBy (0, 0) [(0, l0)] M K := ow_enter (by decide +kernel) rfl rfl (cX8_nameBy_0 h)
set_option maxRecDepth 20000 in
theorem cX8_wordOf_0 {C : ow_C} {A L N : Int} {d : Nat} {M : ow_M} {K : Int → ow_M → Prop} {l1 l2 : Int} (h : ow_I (l2 - l1) ∧ ((l2 - l1) = L → ow_At C (EM A L N) (d + 1) mX8_wordOf 20 [(0, (3, 53)), (2, (0, l2)), (3, (0, 0)), (4, (0, l1))] [] (0, 0) M K) ∧ ((l2 - l1) ≠ L → K ((-1)) M)) : ow_At C (EM A L N) (d + 1) mX8_wordOf 0 [(0, (3, 53)), (1, (0, l1)), (2, (0, l2))] [] (0, 0) M K := by
  refine ow_iload_n (pc' := 1) (x := l2) dX8_wordOf_0 rfl rfl ?_
  refine ow_iload_n (pc' := 2) (x := l1) dX8_wordOf_1 rfl rfl ?_
  obtain ⟨vv1, h⟩ := h
  refine ow_isub (pc' := 3) dX8_wordOf_2 vv1 rfl ?_
  refine ow_aload_n (pc' := 4) (x := 53) dX8_wordOf_3 rfl rfl ?_
  refine ow_getf3 (pc' := 7) (t := 3) (ji := 0) (val := 3) dX8_wordOf_4 fRX8_34 rfl rfl rfl (of_eq_true eo53) eg53_0 ?_
  refine ow_getf3 (pc' := 10) (t := 0) (ji := 1) (val := L) dX8_wordOf_7 fRX8_131 rfl rfl rfl (of_eq_true eo3) eg3_1 ?_
  refine ow_icmpeq (pc' := 13) (tg := 15) dX8_wordOf_10 rfl rfl (fun hc => ?_) (fun hc => ?_)
  · have h := h.1 hc
    refine ow_iconst (pc' := 16) (n := 0) dX8_wordOf_15 rfl rfl ?_
    refine ow_istore_n (pc' := 17) (lv' := [(0, (3, 53)), (1, (0, l1)), (2, (0, l2)), (3, (0, 0))]) dX8_wordOf_16 rfl rfl rfl ?_
    refine ow_iload_n (pc' := 18) (x := l1) dX8_wordOf_17 rfl rfl ?_
    refine ow_istore (pc' := 20) (lv' := [(0, (3, 53)), (1, (0, l1)), (2, (0, l2)), (3, (0, 0)), (4, (0, l1))]) dX8_wordOf_18 rfl rfl rfl ?_
    refine ow_sub (lv' := [(0, (3, 53)), (2, (0, l2)), (3, (0, 0)), (4, (0, l1))]) [0, 2, 3, 4] rfl ?_
    exact h
  · have h := h.2 hc
    refine ow_iconst (pc' := 14) (n := (-1)) dX8_wordOf_13 rfl rfl ?_
    exact ow_iret dX8_wordOf_14 rfl rfl h
set_option maxRecDepth 20000 in
theorem cX8_wordOf_20 {C : ow_C} {A L N : Int} {d : Nat} {M : ow_M} {K : Int → ow_M → Prop} {l2 l3 l4 : Int} (h : (l2 ≤ l4 → K l3 M) ∧ (l4 < l2 → ow_Sp C (EM A L N) d mX8_byteAt (0, 0) [(3, 53), (0, l4)] M (fun r1 N1 => ow_I (r1 - 97) ∧ ((r1 - 97) < 0 → K ((-1)) N1) ∧ (0 ≤ (r1 - 97) → ((r1 - 97) < A → ow_I (l3 * A) ∧ ow_I ((l3 * A) + (r1 - 97)) ∧ ow_I (l4 + 1) ∧ ow_At C (EM A L N) (d + 1) mX8_wordOf 20 [(0, (3, 53)), (2, (0, l2)), (3, (0, (l3 * A) + (r1 - 97))), (4, (0, l4 + 1))] [] (0, 0) N1 K) ∧ (A ≤ (r1 - 97) → K ((-1)) N1))))) : ow_At C (EM A L N) (d + 1) mX8_wordOf 20 [(0, (3, 53)), (2, (0, l2)), (3, (0, l3)), (4, (0, l4))] [] (0, 0) M K := by
  refine ow_iload (pc' := 22) (x := l4) dX8_wordOf_20 rfl rfl ?_
  refine ow_iload_n (pc' := 23) (x := l2) dX8_wordOf_22 rfl rfl ?_
  refine ow_icmpge (pc' := 26) (tg := 75) dX8_wordOf_23 rfl rfl (fun hc => ?_) (fun hc => ?_)
  · have h := h.1 hc
    refine ow_iload_n (pc' := 76) (x := l3) dX8_wordOf_75 rfl rfl ?_
    exact ow_iret dX8_wordOf_76 rfl rfl h
  · have h := h.2 hc
    refine ow_aload_n (pc' := 27) (x := 53) dX8_wordOf_26 rfl rfl ?_
    refine ow_iload (pc' := 29) (x := l4) dX8_wordOf_27 rfl rfl ?_
    refine ow_callVp (z := mX8_byteAt) (n := 1) (k := 8) (vs := [(0, l4)]) (x := 53) (st := []) (pc' := 32) (b1 := (0, 0)) (b2 := (0, 0)) dX8_wordOf_29 lRX8_47 kX8_byteAt iX8_byteAt rfl rfl rfl rfl rfl rfl (of_eq_true eo53) (ow_Sp.mono h (fun r1 N1 h => ?_))
    refine ow_bipush (pc' := 34) (n := 97) dX8_wordOf_32 rfl rfl ?_
    obtain ⟨vv1, h⟩ := h
    refine ow_isub (pc' := 35) dX8_wordOf_34 vv1 rfl ?_
    refine ow_istore (pc' := 37) (lv' := [(0, (3, 53)), (2, (0, l2)), (3, (0, l3)), (4, (0, l4)), (5, (0, r1 - 97))]) dX8_wordOf_35 rfl rfl rfl ?_
    refine ow_iload (pc' := 39) (x := r1 - 97) dX8_wordOf_37 rfl rfl ?_
    refine ow_iflt (pc' := 42) (tg := 54) dX8_wordOf_39 rfl rfl (fun hc => ?_) (fun hc => ?_)
    · have h := h.1 hc
      refine ow_iconst (pc' := 55) (n := (-1)) dX8_wordOf_54 rfl rfl ?_
      exact ow_iret dX8_wordOf_55 rfl rfl h
    · have h := h.2 hc
      refine ow_iload (pc' := 44) (x := r1 - 97) dX8_wordOf_42 rfl rfl ?_
      refine ow_aload_n (pc' := 45) (x := 53) dX8_wordOf_44 rfl rfl ?_
      refine ow_getf3 (pc' := 48) (t := 3) (ji := 0) (val := 3) dX8_wordOf_45 fRX8_34 rfl rfl rfl (of_eq_true eo53) eg53_0 ?_
      refine ow_getf3 (pc' := 51) (t := 0) (ji := 0) (val := A) dX8_wordOf_48 fRX8_134 rfl rfl rfl (of_eq_true eo3) eg3_0 ?_
      refine ow_icmplt (pc' := 54) (tg := 56) dX8_wordOf_51 rfl rfl (fun hc => ?_) (fun hc => ?_)
      · have h := h.1 hc
        refine ow_iload_n (pc' := 57) (x := l3) dX8_wordOf_56 rfl rfl ?_
        refine ow_aload_n (pc' := 58) (x := 53) dX8_wordOf_57 rfl rfl ?_
        refine ow_getf3 (pc' := 61) (t := 3) (ji := 0) (val := 3) dX8_wordOf_58 fRX8_34 rfl rfl rfl (of_eq_true eo53) eg53_0 ?_
        refine ow_getf3 (pc' := 64) (t := 0) (ji := 0) (val := A) dX8_wordOf_61 fRX8_134 rfl rfl rfl (of_eq_true eo3) eg3_0 ?_
        obtain ⟨vv2, h⟩ := h
        refine ow_imul (pc' := 65) dX8_wordOf_64 vv2 rfl ?_
        refine ow_iload (pc' := 67) (x := r1 - 97) dX8_wordOf_65 rfl rfl ?_
        obtain ⟨vv3, h⟩ := h
        refine ow_iadd (pc' := 68) dX8_wordOf_67 vv3 rfl ?_
        refine ow_istore_n (pc' := 69) (lv' := [(0, (3, 53)), (2, (0, l2)), (3, (0, (l3 * A) + (r1 - 97))), (4, (0, l4)), (5, (0, r1 - 97))]) dX8_wordOf_68 rfl rfl rfl ?_
        obtain ⟨vv4, h⟩ := h
        refine ow_iinc (pc' := 72) (lv' := [(0, (3, 53)), (2, (0, l2)), (3, (0, (l3 * A) + (r1 - 97))), (4, (0, l4 + 1)), (5, (0, r1 - 97))]) dX8_wordOf_69 rfl vv4 rfl rfl rfl ?_
        refine ow_goto (tg := 20) dX8_wordOf_72 rfl ?_
        refine ow_sub (lv' := [(0, (3, 53)), (2, (0, l2)), (3, (0, (l3 * A) + (r1 - 97))), (4, (0, l4 + 1))]) [0, 1, 2, 3] rfl ?_
        exact h
      · have h := h.2 hc
        refine ow_iconst (pc' := 55) (n := (-1)) dX8_wordOf_54 rfl rfl ?_
        exact ow_iret dX8_wordOf_55 rfl rfl h
theorem fX8_wordOf {C : ow_C} {A L N : Int} {d : Nat} {M : ow_M} {K : Int → ow_M → Prop} {l1 l2 : Int} (h : ow_I (l2 - l1) ∧ ((l2 - l1) = L → ow_At C (EM A L N) (d + 1) mX8_wordOf 20 [(0, (3, 53)), (2, (0, l2)), (3, (0, 0)), (4, (0, l1))] [] (0, 0) M K) ∧ ((l2 - l1) ≠ L → K ((-1)) M)) : ow_Sp C (EM A L N) (d + 1) mX8_wordOf (0, 0) [(3, 53), (0, l1), (0, l2)] M K := ow_enter (by decide +kernel) rfl rfl (cX8_wordOf_0 h)
set_option maxRecDepth 20000 in
theorem cX3_comparison_0 {C : ow_C} {A L N : Int} {d : Nat} {M : ow_M} {K : Int → ow_M → Prop} {l0 : Int} (h : (l0 = 35 → K ((-20)) M) ∧ (l0 ≠ 35 → (l0 = 60 → K ((-15)) M) ∧ (l0 ≠ 60 → (l0 = 61 → K ((-19)) M) ∧ (l0 ≠ 61 → (l0 = 62 → K ((-17)) M) ∧ (l0 ≠ 62 → (l0 = 256 → K ((-16)) M) ∧ (l0 ≠ 256 → (l0 = 257 → K ((-18)) M) ∧ (l0 ≠ 257 → K 0 M))))))) : ow_At C (EM A L N) d mX3_comparison 0 [(0, (0, l0))] [] (0, 0) M K := by
  refine ow_iload_n (pc' := 1) (x := l0) dX3_comparison_0 rfl rfl ?_
  refine ow_lsw (tbl := [(35, 75), (60, 60), (61, 72), (62, 66), (256, 63), (257, 69)]) (td := 78) dX3_comparison_1 rfl rfl rfl rfl ?_
  refine And.intro (fun hc => ?_) (fun hc => ?_)
  · have h := h.1 hc
    refine ow_bipush (pc' := 77) (n := (-20)) dX3_comparison_75 rfl rfl ?_
    exact ow_iret dX3_comparison_77 rfl rfl h
  have h := h.2 hc
  refine And.intro (fun hc => ?_) (fun hc => ?_)
  · have h := h.1 hc
    refine ow_bipush (pc' := 62) (n := (-15)) dX3_comparison_60 rfl rfl ?_
    exact ow_iret dX3_comparison_62 rfl rfl h
  have h := h.2 hc
  refine And.intro (fun hc => ?_) (fun hc => ?_)
  · have h := h.1 hc
    refine ow_bipush (pc' := 74) (n := (-19)) dX3_comparison_72 rfl rfl ?_
    exact ow_iret dX3_comparison_74 rfl rfl h
  have h := h.2 hc
  refine And.intro (fun hc => ?_) (fun hc => ?_)
  · have h := h.1 hc
    refine ow_bipush (pc' := 68) (n := (-17)) dX3_comparison_66 rfl rfl ?_
    exact ow_iret dX3_comparison_68 rfl rfl h
  have h := h.2 hc
  refine And.intro (fun hc => ?_) (fun hc => ?_)
  · have h := h.1 hc
    refine ow_bipush (pc' := 65) (n := (-16)) dX3_comparison_63 rfl rfl ?_
    exact ow_iret dX3_comparison_65 rfl rfl h
  have h := h.2 hc
  refine And.intro (fun hc => ?_) (fun hc => ?_)
  · have h := h.1 hc
    refine ow_bipush (pc' := 71) (n := (-18)) dX3_comparison_69 rfl rfl ?_
    exact ow_iret dX3_comparison_71 rfl rfl h
  have h := h.2 hc
  refine ow_iconst (pc' := 79) (n := 0) dX3_comparison_78 rfl rfl ?_
  exact ow_iret dX3_comparison_79 rfl rfl h
theorem fX3_comparison {C : ow_C} {A L N : Int} {d : Nat} {M : ow_M} {K : Int → ow_M → Prop} {l0 : Int} (h : (l0 = 35 → K ((-20)) M) ∧ (l0 ≠ 35 → (l0 = 60 → K ((-15)) M) ∧ (l0 ≠ 60 → (l0 = 61 → K ((-19)) M) ∧ (l0 ≠ 61 → (l0 = 62 → K ((-17)) M) ∧ (l0 ≠ 62 → (l0 = 256 → K ((-16)) M) ∧ (l0 ≠ 256 → (l0 = 257 → K ((-18)) M) ∧ (l0 ≠ 257 → K 0 M))))))) : ow_Sp C (EM A L N) d mX3_comparison (0, 0) [(0, l0)] M K := ow_enter (by decide +kernel) rfl rfl (cX3_comparison_0 h)
set_option maxRecDepth 20000 in
theorem cX3_value_0 {C : ow_C} {A L N : Int} {d : Nat} {M : ow_M} {K : Int → ow_M → Prop} {l1 l2 l3 : Int} (h : ∀ N1, N1 = ow_up M 59 2 0 → ow_At C (EM A L N) (d + 1) mX3_value 12 [(0, (3, 59)), (1, (3, l1)), (3, (0, l3)), (4, (0, max 0 l2))] [] (0, 0) N1 K) : ow_At C (EM A L N) (d + 1) mX3_value 0 [(0, (3, 59)), (1, (3, l1)), (2, (0, l2)), (3, (0, l3))] [] (0, 0) M K := by
  refine ow_aload_n (pc' := 1) (x := 59) dX3_value_0 rfl rfl ?_
  refine ow_iconst (pc' := 2) (n := 0) dX3_value_1 rfl rfl ?_
  refine ow_putf2 (pc' := 5) (t := 0) (ji := 2) dX3_value_2 fRX3_18 rfl rfl rfl rfl (of_eq_true eo59) (of_eq_true en59_2) (fun hz => absurd hz (by decide)) (fun N1 eN1 => ?_)
  have h := h N1 eN1
  refine ow_iconst (pc' := 6) (n := 0) dX3_value_5 rfl rfl ?_
  refine ow_iload_n (pc' := 7) (x := l2) dX3_value_6 rfl rfl ?_
  refine ow_mmax (pc' := 10) dX3_value_7 lRX3_22 ow_mM1 ow_mi0 ow_mM2 rfl rfl ?_
  refine ow_istore (pc' := 12) (lv' := [(0, (3, 59)), (1, (3, l1)), (2, (0, l2)), (3, (0, l3)), (4, (0, max 0 l2))]) dX3_value_10 rfl rfl rfl ?_
  refine ow_sub (lv' := [(0, (3, 59)), (1, (3, l1)), (3, (0, l3)), (4, (0, max 0 l2))]) [0, 1, 3, 4] rfl ?_
  exact h
set_option maxRecDepth 20000 in
theorem cX3_value_12 {C : ow_C} {A L N : Int} {d : Nat} {M : ow_M} {K : Int → ow_M → Prop} {l1 l3 l4 : Int} (h : (l3 ≤ l4 → ow_At C (EM A L N) (d + 1) mX3_value 39 [(0, (3, 59))] [] (0, 0) M K) ∧ (l4 < l3 → (0 ≤ l1 ∧ l1 < ow_nb (EM A L N) M ∧ ((EM A L N).2.1 l1).1 = 100 ∧ 0 ≤ ((EM A L N).2.1 l1).2 ∧ ((EM A L N).2.1 l1).2 ≤ 2147483647) ∧ ((((EM A L N).2.1 l1).2) ≤ l4 → ow_At C (EM A L N) (d + 1) mX3_value 39 [(0, (3, 59))] [] (0, 0) M K) ∧ (l4 < (((EM A L N).2.1 l1).2) → ow_R (EM A L N) M l1 100 l4 ∧ ow_Sp C (EM A L N) d mX3_step (0, 0) [(3, 59), (0, ow_gv (EM A L N) M l1 l4)] M (fun r1 N1 => ow_I (l4 + 1) ∧ ow_At C (EM A L N) (d + 1) mX3_value 12 [(0, (3, 59)), (1, (3, l1)), (3, (0, l3)), (4, (0, l4 + 1))] [] (0, 0) N1 K)))) : ow_At C (EM A L N) (d + 1) mX3_value 12 [(0, (3, 59)), (1, (3, l1)), (3, (0, l3)), (4, (0, l4))] [] (0, 0) M K := by
  refine ow_iload (pc' := 14) (x := l4) dX3_value_12 rfl rfl ?_
  refine ow_iload_n (pc' := 15) (x := l3) dX3_value_14 rfl rfl ?_
  refine ow_icmpge (pc' := 18) (tg := 39) dX3_value_15 rfl rfl (fun hc => ?_) (fun hc => ?_)
  · have h := h.1 hc
    refine ow_sub (lv' := [(0, (3, 59))]) [0] rfl ?_
    exact h
  · have h := h.2 hc
    refine ow_iload (pc' := 20) (x := l4) dX3_value_18 rfl rfl ?_
    refine ow_aload_n (pc' := 21) (x := l1) dX3_value_20 rfl rfl ?_
    obtain ⟨⟨w, w1, w2, w3, w4⟩, h⟩ := h
    refine ow_alen (pc' := 22) (t := 100) dX3_value_21 rfl rfl w w1 w2 w3 w4 ?_
    refine ow_icmpge (pc' := 25) (tg := 39) dX3_value_22 rfl rfl (fun hc => ?_) (fun hc => ?_)
    · have h := h.1 hc
      refine ow_sub (lv' := [(0, (3, 59))]) [0] rfl ?_
      exact h
    · have h := h.2 hc
      refine ow_aload_n (pc' := 26) (x := 59) dX3_value_25 rfl rfl ?_
      refine ow_aload_n (pc' := 27) (x := l1) dX3_value_26 rfl rfl ?_
      refine ow_iload (pc' := 29) (x := l4) dX3_value_27 rfl rfl ?_
      obtain ⟨w, h⟩ := h
      refine ow_iaload (pc' := 30) dX3_value_29 rfl w ?_
      refine ow_callVv (z := mX3_step) (n := 1) (k := 3) (vs := [(0, ow_gv (EM A L N) M l1 l4)]) (x := 59) (st := []) (pc' := 33) (b1 := (0, 0)) (b2 := (0, 0)) dX3_value_30 lRX3_28 kX3_step iX3_step rfl rfl rfl rfl rfl rfl (of_eq_true eo59) (ow_Sp.mono h (fun r1 N1 h => ?_))
      obtain ⟨vv1, h⟩ := h
      refine ow_iinc (pc' := 36) (lv' := [(0, (3, 59)), (1, (3, l1)), (3, (0, l3)), (4, (0, l4 + 1))]) dX3_value_33 rfl vv1 rfl rfl rfl ?_
      refine ow_goto (tg := 12) dX3_value_36 rfl ?_
      exact h
set_option maxRecDepth 20000 in
theorem cX3_value_39 {C : ow_C} {A L N : Int} {d : Nat} {M : ow_M} {K : Int → ow_M → Prop} (h : ((M 59 2) ≤ 0 → K 0 M) ∧ (0 < (M 59 2) → ow_I ((M 59 2) - 1) ∧ (0 ≤ ((M 59 2) - 1) ∧ ((M 59 2) - 1) < 300) ∧ K (M 61 ((M 59 2) - 1)) M)) : ow_At C (EM A L N) (d + 1) mX3_value 39 [(0, (3, 59))] [] (0, 0) M K := by
  refine ow_aload_n (pc' := 40) (x := 59) dX3_value_39 rfl rfl ?_
  refine ow_getf3 (pc' := 43) (t := 0) (ji := 2) (val := M 59 2) dX3_value_40 fRX3_18 rfl rfl rfl (of_eq_true eo59) eg59_2 ?_
  refine ow_ifle (pc' := 46) (tg := 60) dX3_value_43 rfl rfl (fun hc => ?_) (fun hc => ?_)
  · have h := h.1 hc
    refine ow_iconst (pc' := 61) (n := 0) dX3_value_60 rfl rfl ?_
    exact ow_iret dX3_value_61 rfl rfl h
  · have h := h.2 hc
    refine ow_aload_n (pc' := 47) (x := 59) dX3_value_46 rfl rfl ?_
    refine ow_getf3 (pc' := 50) (t := 3) (ji := 1) (val := 61) dX3_value_47 fRX3_15 rfl rfl rfl (of_eq_true eo59) eg59_1 ?_
    refine ow_aload_n (pc' := 51) (x := 59) dX3_value_50 rfl rfl ?_
    refine ow_getf3 (pc' := 54) (t := 0) (ji := 2) (val := M 59 2) dX3_value_51 fRX3_18 rfl rfl rfl (of_eq_true eo59) eg59_2 ?_
    refine ow_iconst (pc' := 55) (n := 1) dX3_value_54 rfl rfl ?_
    obtain ⟨vv1, h⟩ := h
    refine ow_isub (pc' := 56) dX3_value_55 vv1 rfl ?_
    obtain ⟨vv2, h⟩ := h
    refine ow_iaload3 (pc' := 57) (val := M 61 ((M 59 2) - 1)) dX3_value_56 rfl (Eq.mpr (er61 _) vv2) (ea61 _) ?_
    refine ow_goto (tg := 61) dX3_value_57 rfl ?_
    exact ow_iret dX3_value_61 rfl rfl h
theorem fX3_value {C : ow_C} {A L N : Int} {d : Nat} {M : ow_M} {K : Int → ow_M → Prop} {l1 l2 l3 : Int} (h : ∀ N1, N1 = ow_up M 59 2 0 → ow_At C (EM A L N) (d + 1) mX3_value 12 [(0, (3, 59)), (1, (3, l1)), (3, (0, l3)), (4, (0, max 0 l2))] [] (0, 0) N1 K) : ow_Sp C (EM A L N) (d + 1) mX3_value (0, 0) [(3, 59), (3, l1), (0, l2), (0, l3)] M K := ow_enter (by decide +kernel) rfl rfl (cX3_value_0 h)
set_option maxRecDepth 20000 in
theorem cX3_step_0 {C : ow_C} {A L N : Int} {d : Nat} {M : ow_M} {K : Int → ow_M → Prop} {l1 : Int} (h : (l1 < 0 → (l1 < ((-6)) → (l1 ≠ ((-23)) → (l1 ≠ ((-24)) → ow_Sp C (EM A L N) d mX3_pop (0, 0) [(3, 59)] M (fun r1 N1 => ow_Sp C (EM A L N) d mX3_pop (0, 0) [(3, 59)] N1 (fun r2 N2 => ow_Sp C (EM A L N) d mX3_joined (0, 0) [(0, l1), (1, r2), (1, r1)] N2 (fun r3 N3 => ow_I (max ((-1000000)) (min 1000000 r3)) ∧ ow_Sp C (EM A L N) d mX3_push (0, 0) [(3, 59), (0, max ((-1000000)) (min 1000000 r3))] N3 (fun r4 N4 => K 0 N4))))) ∧ (l1 = ((-24)) → ow_Sp C (EM A L N) d mX3_pop (0, 0) [(3, 59)] M (fun r5 N5 => ow_I (1 - r5) ∧ ow_Sp C (EM A L N) d mX3_push (0, 0) [(3, 59), (0, 1 - r5)] N5 (fun r6 N6 => K 0 N6)))) ∧ (l1 = ((-23)) → ow_Sp C (EM A L N) d mX3_pop (0, 0) [(3, 59)] M (fun r7 N7 => ow_I (-r7) ∧ ow_Sp C (EM A L N) d mX3_push (0, 0) [(3, 59), (0, -r7)] N7 (fun r8 N8 => K 0 N8)))) ∧ (((-6)) ≤ l1 → ow_I (((-1)) - l1) ∧ (0 ≤ (((-1)) - l1) ∧ (((-1)) - l1) < 6) ∧ ow_Sp C (EM A L N) d mX3_push (0, 0) [(3, 59), (0, M 60 (((-1)) - l1))] M (fun r9 N9 => K 0 N9))) ∧ (0 ≤ l1 → ow_Sp C (EM A L N) d mX3_push (0, 0) [(3, 59), (0, l1)] M (fun r10 N10 => K 0 N10))) : ow_At C (EM A L N) (d + 1) mX3_step 0 [(0, (3, 59)), (1, (0, l1))] [] (0, 0) M K := by
  refine ow_iload_n (pc' := 1) (x := l1) dX3_step_0 rfl rfl ?_
  refine ow_iflt (pc' := 4) (tg := 12) dX3_step_1 rfl rfl (fun hc => ?_) (fun hc => ?_)
  · have h := h.1 hc
    refine ow_iload_n (pc' := 13) (x := l1) dX3_step_12 rfl rfl ?_
    refine ow_bipush (pc' := 15) (n := (-6)) dX3_step_13 rfl rfl ?_
    refine ow_icmplt (pc' := 18) (tg := 33) dX3_step_15 rfl rfl (fun hc => ?_) (fun hc => ?_)
    · have h := h.1 hc
      refine ow_iload_n (pc' := 34) (x := l1) dX3_step_33 rfl rfl ?_
      refine ow_bipush (pc' := 36) (n := (-23)) dX3_step_34 rfl rfl ?_
      refine ow_icmpne (pc' := 39) (tg := 51) dX3_step_36 rfl rfl (fun hc => ?_) (fun hc => ?_)
      · have h := h.1 hc
        refine ow_iload_n (pc' := 52) (x := l1) dX3_step_51 rfl rfl ?_
        refine ow_bipush (pc' := 54) (n := (-24)) dX3_step_52 rfl rfl ?_
        refine ow_icmpne (pc' := 57) (tg := 70) dX3_step_54 rfl rfl (fun hc => ?_) (fun hc => ?_)
        · have h := h.1 hc
          refine ow_aload_n (pc' := 71) (x := 59) dX3_step_70 rfl rfl ?_
          refine ow_callVp (z := mX3_pop) (n := 0) (k := 3) (vs := []) (x := 59) (st := []) (pc' := 74) (b1 := (0, 0)) (b2 := (0, 0)) dX3_step_71 lRX3_35 kX3_pop iX3_pop rfl rfl rfl rfl rfl rfl (of_eq_true eo59) (ow_Sp.mono h (fun r1 N1 h => ?_))
          refine ow_istore_n (pc' := 75) (lv' := [(0, (3, 59)), (1, (0, l1)), (2, (0, r1))]) dX3_step_74 rfl rfl rfl ?_
          refine ow_aload_n (pc' := 76) (x := 59) dX3_step_75 rfl rfl ?_
          refine ow_callVp (z := mX3_pop) (n := 0) (k := 3) (vs := []) (x := 59) (st := []) (pc' := 79) (b1 := (0, 0)) (b2 := (0, 0)) dX3_step_76 lRX3_35 kX3_pop iX3_pop rfl rfl rfl rfl rfl rfl (of_eq_true eo59) (ow_Sp.mono h (fun r2 N2 h => ?_))
          refine ow_istore_n (pc' := 80) (lv' := [(0, (3, 59)), (1, (0, l1)), (2, (0, r1)), (3, (0, r2))]) dX3_step_79 rfl rfl rfl ?_
          refine ow_aload_n (pc' := 81) (x := 59) dX3_step_80 rfl rfl ?_
          refine ow_ldc2 (pc' := 84) (n := (-1000000)) dX3_step_81 cRX3_39 rfl rfl ?_
          refine ow_ldc2 (pc' := 87) (n := 1000000) dX3_step_84 cRX3_41 rfl rfl ?_
          refine ow_iload_n (pc' := 88) (x := l1) dX3_step_87 rfl rfl ?_
          refine ow_iload_n (pc' := 89) (x := r2) dX3_step_88 rfl rfl ?_
          refine ow_i2L (pc' := 90) dX3_step_89 rfl ?_
          refine ow_iload_n (pc' := 91) (x := r1) dX3_step_90 rfl rfl ?_
          refine ow_i2L (pc' := 92) dX3_step_91 rfl ?_
          refine ow_callSp (z := mX3_joined) (n := 3) (vs := [(0, l1), (1, r2), (1, r1)]) (st := [(1, 1000000), (1, (-1000000)), (3, 59)]) (pc' := 95) (b1 := (0, 0)) (b2 := (0, 0)) dX3_step_92 lRX3_43 kX3_joined zX3_joined rfl rfl rfl rfl rfl rfl (ow_Sp.mono h (fun r3 N3 h => ?_))
          refine ow_mminL (pc' := 98) dX3_step_95 lRX3_47 ow_mNL1 ow_mi0 ow_mNL2 rfl rfl ?_
          refine ow_mmaxL (pc' := 101) dX3_step_98 lRX3_51 ow_mML1 ow_mi0 ow_mML2 rfl rfl ?_
          obtain ⟨w, h⟩ := h
          refine ow_L2i (pc' := 102) dX3_step_101 w rfl ?_
          refine ow_callVv (z := mX3_push) (n := 1) (k := 3) (vs := [(0, max ((-1000000)) (min 1000000 r3))]) (x := 59) (st := []) (pc' := 105) (b1 := (0, 0)) (b2 := (0, 0)) dX3_step_102 lRX3_32 kX3_push iX3_push rfl rfl rfl rfl rfl rfl (of_eq_true eo59) (ow_Sp.mono h (fun r4 N4 h => ?_))
          exact ow_vret dX3_step_105 rfl rfl h
        · have h := h.2 hc
          refine ow_aload_n (pc' := 58) (x := 59) dX3_step_57 rfl rfl ?_
          refine ow_iconst (pc' := 59) (n := 1) dX3_step_58 rfl rfl ?_
          refine ow_aload_n (pc' := 60) (x := 59) dX3_step_59 rfl rfl ?_
          refine ow_callVp (z := mX3_pop) (n := 0) (k := 3) (vs := []) (x := 59) (st := [(0, 1), (3, 59)]) (pc' := 63) (b1 := (0, 0)) (b2 := (0, 0)) dX3_step_60 lRX3_35 kX3_pop iX3_pop rfl rfl rfl rfl rfl rfl (of_eq_true eo59) (ow_Sp.mono h (fun r5 N5 h => ?_))
          obtain ⟨vv1, h⟩ := h
          refine ow_isub (pc' := 64) dX3_step_63 vv1 rfl ?_
          refine ow_callVv (z := mX3_push) (n := 1) (k := 3) (vs := [(0, 1 - r5)]) (x := 59) (st := []) (pc' := 67) (b1 := (0, 0)) (b2 := (0, 0)) dX3_step_64 lRX3_32 kX3_push iX3_push rfl rfl rfl rfl rfl rfl (of_eq_true eo59) (ow_Sp.mono h (fun r6 N6 h => ?_))
          refine ow_goto (tg := 105) dX3_step_67 rfl ?_
          exact ow_vret dX3_step_105 rfl rfl h
      · have h := h.2 hc
        refine ow_aload_n (pc' := 40) (x := 59) dX3_step_39 rfl rfl ?_
        refine ow_aload_n (pc' := 41) (x := 59) dX3_step_40 rfl rfl ?_
        refine ow_callVp (z := mX3_pop) (n := 0) (k := 3) (vs := []) (x := 59) (st := [(3, 59)]) (pc' := 44) (b1 := (0, 0)) (b2 := (0, 0)) dX3_step_41 lRX3_35 kX3_pop iX3_pop rfl rfl rfl rfl rfl rfl (of_eq_true eo59) (ow_Sp.mono h (fun r7 N7 h => ?_))
        obtain ⟨vv2, h⟩ := h
        refine ow_ineg (pc' := 45) dX3_step_44 vv2 rfl ?_
        refine ow_callVv (z := mX3_push) (n := 1) (k := 3) (vs := [(0, -r7)]) (x := 59) (st := []) (pc' := 48) (b1 := (0, 0)) (b2 := (0, 0)) dX3_step_45 lRX3_32 kX3_push iX3_push rfl rfl rfl rfl rfl rfl (of_eq_true eo59) (ow_Sp.mono h (fun r8 N8 h => ?_))
        refine ow_goto (tg := 105) dX3_step_48 rfl ?_
        exact ow_vret dX3_step_105 rfl rfl h
    · have h := h.2 hc
      refine ow_aload_n (pc' := 19) (x := 59) dX3_step_18 rfl rfl ?_
      refine ow_aload_n (pc' := 20) (x := 59) dX3_step_19 rfl rfl ?_
      refine ow_getf3 (pc' := 23) (t := 3) (ji := 0) (val := 60) dX3_step_20 fRX3_11 rfl rfl rfl (of_eq_true eo59) eg59_0 ?_
      refine ow_iconst (pc' := 24) (n := (-1)) dX3_step_23 rfl rfl ?_
      refine ow_iload_n (pc' := 25) (x := l1) dX3_step_24 rfl rfl ?_
      obtain ⟨vv3, h⟩ := h
      refine ow_isub (pc' := 26) dX3_step_25 vv3 rfl ?_
      obtain ⟨vv4, h⟩ := h
      refine ow_iaload3 (pc' := 27) (val := M 60 (((-1)) - l1)) dX3_step_26 rfl (Eq.mpr (er60 _) vv4) (ea60 _) ?_
      refine ow_callVv (z := mX3_push) (n := 1) (k := 3) (vs := [(0, M 60 (((-1)) - l1))]) (x := 59) (st := []) (pc' := 30) (b1 := (0, 0)) (b2 := (0, 0)) dX3_step_27 lRX3_32 kX3_push iX3_push rfl rfl rfl rfl rfl rfl (of_eq_true eo59) (ow_Sp.mono h (fun r9 N9 h => ?_))
      refine ow_goto (tg := 105) dX3_step_30 rfl ?_
      exact ow_vret dX3_step_105 rfl rfl h
  · have h := h.2 hc
    refine ow_aload_n (pc' := 5) (x := 59) dX3_step_4 rfl rfl ?_
    refine ow_iload_n (pc' := 6) (x := l1) dX3_step_5 rfl rfl ?_
    refine ow_callVv (z := mX3_push) (n := 1) (k := 3) (vs := [(0, l1)]) (x := 59) (st := []) (pc' := 9) (b1 := (0, 0)) (b2 := (0, 0)) dX3_step_6 lRX3_32 kX3_push iX3_push rfl rfl rfl rfl rfl rfl (of_eq_true eo59) (ow_Sp.mono h (fun r10 N10 h => ?_))
    refine ow_goto (tg := 105) dX3_step_9 rfl ?_
    exact ow_vret dX3_step_105 rfl rfl h
theorem fX3_step {C : ow_C} {A L N : Int} {d : Nat} {M : ow_M} {K : Int → ow_M → Prop} {l1 : Int} (h : (l1 < 0 → (l1 < ((-6)) → (l1 ≠ ((-23)) → (l1 ≠ ((-24)) → ow_Sp C (EM A L N) d mX3_pop (0, 0) [(3, 59)] M (fun r1 N1 => ow_Sp C (EM A L N) d mX3_pop (0, 0) [(3, 59)] N1 (fun r2 N2 => ow_Sp C (EM A L N) d mX3_joined (0, 0) [(0, l1), (1, r2), (1, r1)] N2 (fun r3 N3 => ow_I (max ((-1000000)) (min 1000000 r3)) ∧ ow_Sp C (EM A L N) d mX3_push (0, 0) [(3, 59), (0, max ((-1000000)) (min 1000000 r3))] N3 (fun r4 N4 => K 0 N4))))) ∧ (l1 = ((-24)) → ow_Sp C (EM A L N) d mX3_pop (0, 0) [(3, 59)] M (fun r5 N5 => ow_I (1 - r5) ∧ ow_Sp C (EM A L N) d mX3_push (0, 0) [(3, 59), (0, 1 - r5)] N5 (fun r6 N6 => K 0 N6)))) ∧ (l1 = ((-23)) → ow_Sp C (EM A L N) d mX3_pop (0, 0) [(3, 59)] M (fun r7 N7 => ow_I (-r7) ∧ ow_Sp C (EM A L N) d mX3_push (0, 0) [(3, 59), (0, -r7)] N7 (fun r8 N8 => K 0 N8)))) ∧ (((-6)) ≤ l1 → ow_I (((-1)) - l1) ∧ (0 ≤ (((-1)) - l1) ∧ (((-1)) - l1) < 6) ∧ ow_Sp C (EM A L N) d mX3_push (0, 0) [(3, 59), (0, M 60 (((-1)) - l1))] M (fun r9 N9 => K 0 N9))) ∧ (0 ≤ l1 → ow_Sp C (EM A L N) d mX3_push (0, 0) [(3, 59), (0, l1)] M (fun r10 N10 => K 0 N10))) : ow_Sp C (EM A L N) (d + 1) mX3_step (0, 0) [(3, 59), (0, l1)] M K := ow_enter (by decide +kernel) rfl rfl (cX3_step_0 h)
set_option maxRecDepth 20000 in
theorem cX3_push_0 {C : ow_C} {A L N : Int} {d : Nat} {M : ow_M} {K : Int → ow_M → Prop} {l1 : Int} (h : ((M 59 2) < 0 → K 0 M) ∧ (0 ≤ (M 59 2) → (300 ≤ (M 59 2) → K 0 M) ∧ ((M 59 2) < 300 → (0 ≤ (M 59 2) ∧ (M 59 2) < 300) ∧ ∀ N1, N1 = ow_up M 61 (M 59 2) l1 → ow_I ((N1 59 2) + 1) ∧ ∀ N2, N2 = ow_up N1 59 2 ((N1 59 2) + 1) → K 0 N2))) : ow_At C (EM A L N) d mX3_push 0 [(0, (3, 59)), (1, (0, l1))] [] (0, 0) M K := by
  refine ow_aload_n (pc' := 1) (x := 59) dX3_push_0 rfl rfl ?_
  refine ow_getf3 (pc' := 4) (t := 0) (ji := 2) (val := M 59 2) dX3_push_1 fRX3_18 rfl rfl rfl (of_eq_true eo59) eg59_2 ?_
  refine ow_iflt (pc' := 7) (tg := 39) dX3_push_4 rfl rfl (fun hc => ?_) (fun hc => ?_)
  · have h := h.1 hc
    exact ow_vret dX3_push_39 rfl rfl h
  · have h := h.2 hc
    refine ow_aload_n (pc' := 8) (x := 59) dX3_push_7 rfl rfl ?_
    refine ow_getf3 (pc' := 11) (t := 0) (ji := 2) (val := M 59 2) dX3_push_8 fRX3_18 rfl rfl rfl (of_eq_true eo59) eg59_2 ?_
    refine ow_aload_n (pc' := 12) (x := 59) dX3_push_11 rfl rfl ?_
    refine ow_getf3 (pc' := 15) (t := 3) (ji := 1) (val := 61) dX3_push_12 fRX3_15 rfl rfl rfl (of_eq_true eo59) eg59_1 ?_
    refine ow_alen3 (pc' := 16) (t := 100) (val := 300) dX3_push_15 rfl rfl (by decide) (show (61 : Int) < 102 by decide) rfl el61 (by decide) (by decide) ?_
    refine ow_icmpge (pc' := 19) (tg := 39) dX3_push_16 rfl rfl (fun hc => ?_) (fun hc => ?_)
    · have h := h.1 hc
      exact ow_vret dX3_push_39 rfl rfl h
    · have h := h.2 hc
      refine ow_aload_n (pc' := 20) (x := 59) dX3_push_19 rfl rfl ?_
      refine ow_getf3 (pc' := 23) (t := 3) (ji := 1) (val := 61) dX3_push_20 fRX3_15 rfl rfl rfl (of_eq_true eo59) eg59_1 ?_
      refine ow_aload_n (pc' := 24) (x := 59) dX3_push_23 rfl rfl ?_
      refine ow_getf3 (pc' := 27) (t := 0) (ji := 2) (val := M 59 2) dX3_push_24 fRX3_18 rfl rfl rfl (of_eq_true eo59) eg59_2 ?_
      refine ow_iload_n (pc' := 28) (x := l1) dX3_push_27 rfl rfl ?_
      obtain ⟨vv1, h⟩ := h
      refine ow_iastore2 (pc' := 29) dX3_push_28 rfl (Eq.mpr (er61 _) vv1) (of_eq_true (en61 _)) (fun N1 eN1 => ?_)
      have h := h N1 eN1
      refine ow_aload_n (pc' := 30) (x := 59) dX3_push_29 rfl rfl ?_
      refine ow_dup (pc' := 31) dX3_push_30 rfl rfl ?_
      refine ow_getf3 (pc' := 34) (t := 0) (ji := 2) (val := N1 59 2) dX3_push_31 fRX3_18 rfl rfl rfl (of_eq_true eo59) eg59_2 ?_
      refine ow_iconst (pc' := 35) (n := 1) dX3_push_34 rfl rfl ?_
      obtain ⟨vv2, h⟩ := h
      refine ow_iadd (pc' := 36) dX3_push_35 vv2 rfl ?_
      refine ow_putf2 (pc' := 39) (t := 0) (ji := 2) dX3_push_36 fRX3_18 rfl rfl rfl rfl (of_eq_true eo59) (of_eq_true en59_2) (fun hz => absurd hz (by decide)) (fun N2 eN2 => ?_)
      have h := h N2 eN2
      exact ow_vret dX3_push_39 rfl rfl h
theorem fX3_push {C : ow_C} {A L N : Int} {d : Nat} {M : ow_M} {K : Int → ow_M → Prop} {l1 : Int} (h : ((M 59 2) < 0 → K 0 M) ∧ (0 ≤ (M 59 2) → (300 ≤ (M 59 2) → K 0 M) ∧ ((M 59 2) < 300 → (0 ≤ (M 59 2) ∧ (M 59 2) < 300) ∧ ∀ N1, N1 = ow_up M 61 (M 59 2) l1 → ow_I ((N1 59 2) + 1) ∧ ∀ N2, N2 = ow_up N1 59 2 ((N1 59 2) + 1) → K 0 N2))) : ow_Sp C (EM A L N) d mX3_push (0, 0) [(3, 59), (0, l1)] M K := ow_enter (by decide +kernel) rfl rfl (cX3_push_0 h)
set_option maxRecDepth 20000 in
theorem cX3_pop_0 {C : ow_C} {A L N : Int} {d : Nat} {M : ow_M} {K : Int → ow_M → Prop} (h : ((M 59 2) ≤ 0 → K 0 M) ∧ (0 < (M 59 2) → ((M 59 2) ≤ 300 → ow_I ((M 59 2) - 1) ∧ ∀ N1, N1 = ow_up M 59 2 ((M 59 2) - 1) → (0 ≤ (N1 59 2) ∧ (N1 59 2) < 300) ∧ K (N1 61 (N1 59 2)) N1) ∧ (300 < (M 59 2) → K 0 M))) : ow_At C (EM A L N) d mX3_pop 0 [(0, (3, 59))] [] (0, 0) M K := by
  refine ow_aload_n (pc' := 1) (x := 59) dX3_pop_0 rfl rfl ?_
  refine ow_getf3 (pc' := 4) (t := 0) (ji := 2) (val := M 59 2) dX3_pop_1 fRX3_18 rfl rfl rfl (of_eq_true eo59) eg59_2 ?_
  refine ow_ifle (pc' := 7) (tg := 19) dX3_pop_4 rfl rfl (fun hc => ?_) (fun hc => ?_)
  · have h := h.1 hc
    refine ow_iconst (pc' := 20) (n := 0) dX3_pop_19 rfl rfl ?_
    exact ow_iret dX3_pop_20 rfl rfl h
  · have h := h.2 hc
    refine ow_aload_n (pc' := 8) (x := 59) dX3_pop_7 rfl rfl ?_
    refine ow_getf3 (pc' := 11) (t := 0) (ji := 2) (val := M 59 2) dX3_pop_8 fRX3_18 rfl rfl rfl (of_eq_true eo59) eg59_2 ?_
    refine ow_aload_n (pc' := 12) (x := 59) dX3_pop_11 rfl rfl ?_
    refine ow_getf3 (pc' := 15) (t := 3) (ji := 1) (val := 61) dX3_pop_12 fRX3_15 rfl rfl rfl (of_eq_true eo59) eg59_1 ?_
    refine ow_alen3 (pc' := 16) (t := 100) (val := 300) dX3_pop_15 rfl rfl (by decide) (show (61 : Int) < 102 by decide) rfl el61 (by decide) (by decide) ?_
    refine ow_icmple (pc' := 19) (tg := 21) dX3_pop_16 rfl rfl (fun hc => ?_) (fun hc => ?_)
    · have h := h.1 hc
      refine ow_aload_n (pc' := 22) (x := 59) dX3_pop_21 rfl rfl ?_
      refine ow_dup (pc' := 23) dX3_pop_22 rfl rfl ?_
      refine ow_getf3 (pc' := 26) (t := 0) (ji := 2) (val := M 59 2) dX3_pop_23 fRX3_18 rfl rfl rfl (of_eq_true eo59) eg59_2 ?_
      refine ow_iconst (pc' := 27) (n := 1) dX3_pop_26 rfl rfl ?_
      obtain ⟨vv1, h⟩ := h
      refine ow_isub (pc' := 28) dX3_pop_27 vv1 rfl ?_
      refine ow_putf2 (pc' := 31) (t := 0) (ji := 2) dX3_pop_28 fRX3_18 rfl rfl rfl rfl (of_eq_true eo59) (of_eq_true en59_2) (fun hz => absurd hz (by decide)) (fun N1 eN1 => ?_)
      have h := h N1 eN1
      refine ow_aload_n (pc' := 32) (x := 59) dX3_pop_31 rfl rfl ?_
      refine ow_getf3 (pc' := 35) (t := 3) (ji := 1) (val := 61) dX3_pop_32 fRX3_15 rfl rfl rfl (of_eq_true eo59) eg59_1 ?_
      refine ow_aload_n (pc' := 36) (x := 59) dX3_pop_35 rfl rfl ?_
      refine ow_getf3 (pc' := 39) (t := 0) (ji := 2) (val := N1 59 2) dX3_pop_36 fRX3_18 rfl rfl rfl (of_eq_true eo59) eg59_2 ?_
      obtain ⟨vv2, h⟩ := h
      refine ow_iaload3 (pc' := 40) (val := N1 61 (N1 59 2)) dX3_pop_39 rfl (Eq.mpr (er61 _) vv2) (ea61 _) ?_
      exact ow_iret dX3_pop_40 rfl rfl h
    · have h := h.2 hc
      refine ow_iconst (pc' := 20) (n := 0) dX3_pop_19 rfl rfl ?_
      exact ow_iret dX3_pop_20 rfl rfl h
theorem fX3_pop {C : ow_C} {A L N : Int} {d : Nat} {M : ow_M} {K : Int → ow_M → Prop} (h : ((M 59 2) ≤ 0 → K 0 M) ∧ (0 < (M 59 2) → ((M 59 2) ≤ 300 → ow_I ((M 59 2) - 1) ∧ ∀ N1, N1 = ow_up M 59 2 ((M 59 2) - 1) → (0 ≤ (N1 59 2) ∧ (N1 59 2) < 300) ∧ K (N1 61 (N1 59 2)) N1) ∧ (300 < (M 59 2) → K 0 M))) : ow_Sp C (EM A L N) d mX3_pop (0, 0) [(3, 59)] M K := ow_enter (by decide +kernel) rfl rfl (cX3_pop_0 h)
set_option maxRecDepth 20000 in
theorem cX3_joined_0 {C : ow_C} {A L N : Int} {d : Nat} {M : ow_M} {K : Int → ow_M → Prop} {l0 l1 l3 : Int} (h : (l0 = (-22) → K (ow_lor l1 l3) M) ∧ (l0 ≠ (-22) → (l0 = (-21) → K (ow_land l1 l3) M) ∧ (l0 ≠ (-21) → (l0 = (-20) → ((ow_lcmp l1 l3) = 0 → K 0 M) ∧ ((ow_lcmp l1 l3) ≠ 0 → K 1 M)) ∧ (l0 ≠ (-20) → (l0 = (-19) → ((ow_lcmp l1 l3) ≠ 0 → K 0 M) ∧ ((ow_lcmp l1 l3) = 0 → K 1 M)) ∧ (l0 ≠ (-19) → (l0 = (-18) → ((ow_lcmp l1 l3) < 0 → K 0 M) ∧ (0 ≤ (ow_lcmp l1 l3) → K 1 M)) ∧ (l0 ≠ (-18) → (l0 = (-17) → ((ow_lcmp l1 l3) ≤ 0 → K 0 M) ∧ (0 < (ow_lcmp l1 l3) → K 1 M)) ∧ (l0 ≠ (-17) → (l0 = (-16) → (0 < (ow_lcmp l1 l3) → K 0 M) ∧ ((ow_lcmp l1 l3) ≤ 0 → K 1 M)) ∧ (l0 ≠ (-16) → (l0 = (-15) → (0 ≤ (ow_lcmp l1 l3) → K 0 M) ∧ ((ow_lcmp l1 l3) < 0 → K 1 M)) ∧ (l0 ≠ (-15) → (l0 = (-14) → ((ow_lcmp l3 0) ≠ 0 → l3 ≠ 0 ∧ ow_L (Int.tdiv l1 l3) ∧ K (Int.tdiv l1 l3) M) ∧ ((ow_lcmp l3 0) = 0 → K 0 M)) ∧ (l0 ≠ (-14) → (l0 = (-13) → ow_L (l1 * l3) ∧ K (l1 * l3) M) ∧ (l0 ≠ (-13) → (l0 = (-12) → ow_L (l1 - l3) ∧ K (l1 - l3) M) ∧ (l0 ≠ (-12) → (l0 = (-11) → ow_L (l1 + l3) ∧ K (l1 + l3) M) ∧ (l0 ≠ (-11) → K 0 M))))))))))))) : ow_At C (EM A L N) d mX3_joined 0 [(0, (0, l0)), (1, (1, l1)), (3, (1, l3))] [] (0, 0) M K := by
  refine ow_iload_n (pc' := 1) (x := l0) dX3_joined_0 rfl rfl ?_
  refine ow_tsw (tbl := [(-22, 166), (-21, 162), (-20, 150), (-19, 138), (-18, 126), (-17, 114), (-16, 102), (-15, 90), (-14, 76), (-13, 72), (-12, 68), (-11, 64)]) (td := 170) dX3_joined_1 rfl rfl rfl rfl ?_
  refine And.intro (fun hc => ?_) (fun hc => ?_)
  · have h := h.1 hc
    refine ow_lload_n (pc' := 167) (x := l1) dX3_joined_166 rfl rfl ?_
    refine ow_lload_n (pc' := 168) (x := l3) dX3_joined_167 rfl rfl ?_
    refine ow_jor (pc' := 169) dX3_joined_168 rfl ?_
    exact ow_lret dX3_joined_169 rfl rfl h
  have h := h.2 hc
  refine And.intro (fun hc => ?_) (fun hc => ?_)
  · have h := h.1 hc
    refine ow_lload_n (pc' := 163) (x := l1) dX3_joined_162 rfl rfl ?_
    refine ow_lload_n (pc' := 164) (x := l3) dX3_joined_163 rfl rfl ?_
    refine ow_jand (pc' := 165) dX3_joined_164 rfl ?_
    exact ow_lret dX3_joined_165 rfl rfl h
  have h := h.2 hc
  refine And.intro (fun hc => ?_) (fun hc => ?_)
  · have h := h.1 hc
    refine ow_lload_n (pc' := 151) (x := l1) dX3_joined_150 rfl rfl ?_
    refine ow_lload_n (pc' := 152) (x := l3) dX3_joined_151 rfl rfl ?_
    refine ow_Lcmp (pc' := 153) dX3_joined_152 rfl ?_
    refine ow_ifeq (pc' := 156) (tg := 160) dX3_joined_153 rfl rfl (fun hc => ?_) (fun hc => ?_)
    · have h := h.1 hc
      refine ow_lconst (pc' := 161) (i := 0) dX3_joined_160 rfl rfl ?_
      exact ow_lret dX3_joined_161 rfl rfl h
    · have h := h.2 hc
      refine ow_lconst (pc' := 157) (i := 1) dX3_joined_156 rfl rfl ?_
      refine ow_goto (tg := 161) dX3_joined_157 rfl ?_
      exact ow_lret dX3_joined_161 rfl rfl h
  have h := h.2 hc
  refine And.intro (fun hc => ?_) (fun hc => ?_)
  · have h := h.1 hc
    refine ow_lload_n (pc' := 139) (x := l1) dX3_joined_138 rfl rfl ?_
    refine ow_lload_n (pc' := 140) (x := l3) dX3_joined_139 rfl rfl ?_
    refine ow_Lcmp (pc' := 141) dX3_joined_140 rfl ?_
    refine ow_ifne (pc' := 144) (tg := 148) dX3_joined_141 rfl rfl (fun hc => ?_) (fun hc => ?_)
    · have h := h.1 hc
      refine ow_lconst (pc' := 149) (i := 0) dX3_joined_148 rfl rfl ?_
      exact ow_lret dX3_joined_149 rfl rfl h
    · have h := h.2 hc
      refine ow_lconst (pc' := 145) (i := 1) dX3_joined_144 rfl rfl ?_
      refine ow_goto (tg := 149) dX3_joined_145 rfl ?_
      exact ow_lret dX3_joined_149 rfl rfl h
  have h := h.2 hc
  refine And.intro (fun hc => ?_) (fun hc => ?_)
  · have h := h.1 hc
    refine ow_lload_n (pc' := 127) (x := l1) dX3_joined_126 rfl rfl ?_
    refine ow_lload_n (pc' := 128) (x := l3) dX3_joined_127 rfl rfl ?_
    refine ow_Lcmp (pc' := 129) dX3_joined_128 rfl ?_
    refine ow_iflt (pc' := 132) (tg := 136) dX3_joined_129 rfl rfl (fun hc => ?_) (fun hc => ?_)
    · have h := h.1 hc
      refine ow_lconst (pc' := 137) (i := 0) dX3_joined_136 rfl rfl ?_
      exact ow_lret dX3_joined_137 rfl rfl h
    · have h := h.2 hc
      refine ow_lconst (pc' := 133) (i := 1) dX3_joined_132 rfl rfl ?_
      refine ow_goto (tg := 137) dX3_joined_133 rfl ?_
      exact ow_lret dX3_joined_137 rfl rfl h
  have h := h.2 hc
  refine And.intro (fun hc => ?_) (fun hc => ?_)
  · have h := h.1 hc
    refine ow_lload_n (pc' := 115) (x := l1) dX3_joined_114 rfl rfl ?_
    refine ow_lload_n (pc' := 116) (x := l3) dX3_joined_115 rfl rfl ?_
    refine ow_Lcmp (pc' := 117) dX3_joined_116 rfl ?_
    refine ow_ifle (pc' := 120) (tg := 124) dX3_joined_117 rfl rfl (fun hc => ?_) (fun hc => ?_)
    · have h := h.1 hc
      refine ow_lconst (pc' := 125) (i := 0) dX3_joined_124 rfl rfl ?_
      exact ow_lret dX3_joined_125 rfl rfl h
    · have h := h.2 hc
      refine ow_lconst (pc' := 121) (i := 1) dX3_joined_120 rfl rfl ?_
      refine ow_goto (tg := 125) dX3_joined_121 rfl ?_
      exact ow_lret dX3_joined_125 rfl rfl h
  have h := h.2 hc
  refine And.intro (fun hc => ?_) (fun hc => ?_)
  · have h := h.1 hc
    refine ow_lload_n (pc' := 103) (x := l1) dX3_joined_102 rfl rfl ?_
    refine ow_lload_n (pc' := 104) (x := l3) dX3_joined_103 rfl rfl ?_
    refine ow_Lcmp (pc' := 105) dX3_joined_104 rfl ?_
    refine ow_ifgt (pc' := 108) (tg := 112) dX3_joined_105 rfl rfl (fun hc => ?_) (fun hc => ?_)
    · have h := h.1 hc
      refine ow_lconst (pc' := 113) (i := 0) dX3_joined_112 rfl rfl ?_
      exact ow_lret dX3_joined_113 rfl rfl h
    · have h := h.2 hc
      refine ow_lconst (pc' := 109) (i := 1) dX3_joined_108 rfl rfl ?_
      refine ow_goto (tg := 113) dX3_joined_109 rfl ?_
      exact ow_lret dX3_joined_113 rfl rfl h
  have h := h.2 hc
  refine And.intro (fun hc => ?_) (fun hc => ?_)
  · have h := h.1 hc
    refine ow_lload_n (pc' := 91) (x := l1) dX3_joined_90 rfl rfl ?_
    refine ow_lload_n (pc' := 92) (x := l3) dX3_joined_91 rfl rfl ?_
    refine ow_Lcmp (pc' := 93) dX3_joined_92 rfl ?_
    refine ow_ifge (pc' := 96) (tg := 100) dX3_joined_93 rfl rfl (fun hc => ?_) (fun hc => ?_)
    · have h := h.1 hc
      refine ow_lconst (pc' := 101) (i := 0) dX3_joined_100 rfl rfl ?_
      exact ow_lret dX3_joined_101 rfl rfl h
    · have h := h.2 hc
      refine ow_lconst (pc' := 97) (i := 1) dX3_joined_96 rfl rfl ?_
      refine ow_goto (tg := 101) dX3_joined_97 rfl ?_
      exact ow_lret dX3_joined_101 rfl rfl h
  have h := h.2 hc
  refine And.intro (fun hc => ?_) (fun hc => ?_)
  · have h := h.1 hc
    refine ow_lload_n (pc' := 77) (x := l3) dX3_joined_76 rfl rfl ?_
    refine ow_lconst (pc' := 78) (i := 0) dX3_joined_77 rfl rfl ?_
    refine ow_Lcmp (pc' := 79) dX3_joined_78 rfl ?_
    refine ow_ifne (pc' := 82) (tg := 86) dX3_joined_79 rfl rfl (fun hc => ?_) (fun hc => ?_)
    · have h := h.1 hc
      refine ow_lload_n (pc' := 87) (x := l1) dX3_joined_86 rfl rfl ?_
      refine ow_lload_n (pc' := 88) (x := l3) dX3_joined_87 rfl rfl ?_
      obtain ⟨w0, w, h⟩ := h
      refine ow_ldiv (pc' := 89) dX3_joined_88 w0 w rfl ?_
      exact ow_lret dX3_joined_89 rfl rfl h
    · have h := h.2 hc
      refine ow_lconst (pc' := 83) (i := 0) dX3_joined_82 rfl rfl ?_
      refine ow_goto (tg := 89) dX3_joined_83 rfl ?_
      exact ow_lret dX3_joined_89 rfl rfl h
  have h := h.2 hc
  refine And.intro (fun hc => ?_) (fun hc => ?_)
  · have h := h.1 hc
    refine ow_lload_n (pc' := 73) (x := l1) dX3_joined_72 rfl rfl ?_
    refine ow_lload_n (pc' := 74) (x := l3) dX3_joined_73 rfl rfl ?_
    obtain ⟨vv1, h⟩ := h
    refine ow_lmul (pc' := 75) dX3_joined_74 vv1 rfl ?_
    exact ow_lret dX3_joined_75 rfl rfl h
  have h := h.2 hc
  refine And.intro (fun hc => ?_) (fun hc => ?_)
  · have h := h.1 hc
    refine ow_lload_n (pc' := 69) (x := l1) dX3_joined_68 rfl rfl ?_
    refine ow_lload_n (pc' := 70) (x := l3) dX3_joined_69 rfl rfl ?_
    obtain ⟨vv2, h⟩ := h
    refine ow_lsub (pc' := 71) dX3_joined_70 vv2 rfl ?_
    exact ow_lret dX3_joined_71 rfl rfl h
  have h := h.2 hc
  refine And.intro (fun hc => ?_) (fun hc => ?_)
  · have h := h.1 hc
    refine ow_lload_n (pc' := 65) (x := l1) dX3_joined_64 rfl rfl ?_
    refine ow_lload_n (pc' := 66) (x := l3) dX3_joined_65 rfl rfl ?_
    obtain ⟨vv3, h⟩ := h
    refine ow_ladd (pc' := 67) dX3_joined_66 vv3 rfl ?_
    exact ow_lret dX3_joined_67 rfl rfl h
  have h := h.2 hc
  refine ow_lconst (pc' := 171) (i := 0) dX3_joined_170 rfl rfl ?_
  exact ow_lret dX3_joined_171 rfl rfl h
theorem fX3_joined {C : ow_C} {A L N : Int} {d : Nat} {M : ow_M} {K : Int → ow_M → Prop} {l0 l1 l3 : Int} (h : (l0 = (-22) → K (ow_lor l1 l3) M) ∧ (l0 ≠ (-22) → (l0 = (-21) → K (ow_land l1 l3) M) ∧ (l0 ≠ (-21) → (l0 = (-20) → ((ow_lcmp l1 l3) = 0 → K 0 M) ∧ ((ow_lcmp l1 l3) ≠ 0 → K 1 M)) ∧ (l0 ≠ (-20) → (l0 = (-19) → ((ow_lcmp l1 l3) ≠ 0 → K 0 M) ∧ ((ow_lcmp l1 l3) = 0 → K 1 M)) ∧ (l0 ≠ (-19) → (l0 = (-18) → ((ow_lcmp l1 l3) < 0 → K 0 M) ∧ (0 ≤ (ow_lcmp l1 l3) → K 1 M)) ∧ (l0 ≠ (-18) → (l0 = (-17) → ((ow_lcmp l1 l3) ≤ 0 → K 0 M) ∧ (0 < (ow_lcmp l1 l3) → K 1 M)) ∧ (l0 ≠ (-17) → (l0 = (-16) → (0 < (ow_lcmp l1 l3) → K 0 M) ∧ ((ow_lcmp l1 l3) ≤ 0 → K 1 M)) ∧ (l0 ≠ (-16) → (l0 = (-15) → (0 ≤ (ow_lcmp l1 l3) → K 0 M) ∧ ((ow_lcmp l1 l3) < 0 → K 1 M)) ∧ (l0 ≠ (-15) → (l0 = (-14) → ((ow_lcmp l3 0) ≠ 0 → l3 ≠ 0 ∧ ow_L (Int.tdiv l1 l3) ∧ K (Int.tdiv l1 l3) M) ∧ ((ow_lcmp l3 0) = 0 → K 0 M)) ∧ (l0 ≠ (-14) → (l0 = (-13) → ow_L (l1 * l3) ∧ K (l1 * l3) M) ∧ (l0 ≠ (-13) → (l0 = (-12) → ow_L (l1 - l3) ∧ K (l1 - l3) M) ∧ (l0 ≠ (-12) → (l0 = (-11) → ow_L (l1 + l3) ∧ K (l1 + l3) M) ∧ (l0 ≠ (-11) → K 0 M))))))))))))) : ow_Sp C (EM A L N) d mX3_joined (0, 0) [(0, l0), (1, l1), (1, l3)] M K := ow_enter (by decide +kernel) rfl rfl (cX3_joined_0 h)
set_option maxRecDepth 20000 in
theorem cX6_read_0 {C : ow_C} {A L N : Int} {d : Nat} {M : ow_M} {K : Int → ow_M → Prop} {l1 l2 l3 : Int} (h : ∀ N1, N1 = ow_up M 46 4 0 → ∀ N2, N2 = ow_up N1 46 5 ((-1)) → ∀ N3, N3 = ow_up N2 46 3 0 → ∀ N4, N4 = ow_up N3 46 2 0 → (0 ≤ l3 → ∀ N5, N5 = ow_up N4 46 1 l3 → ow_O (EM A L N) N5 (N5 46 1) 7 ∧ ow_Sp C (EM A L N) d mX7_clear (0, 0) [(3, N5 46 1)] N5 (fun r6 N6 => ow_Sp C (EM A L N) d mX8_cut (0, 0) [(3, 53), (3, l1), (0, l2)] N6 (fun r7 N7 => ow_At C (EM A L N) (d + 1) mX6_read 53 [(0, (3, 46)), (4, (0, 0))] [] (0, 0) N7 K))) ∧ (l3 < 0 → K (N4 46 4) N4)) : ow_At C (EM A L N) (d + 1) mX6_read 0 [(0, (3, 46)), (1, (3, l1)), (2, (0, l2)), (3, (3, l3))] [] (0, 0) M K := by
  refine ow_aload_n (pc' := 1) (x := 46) dX6_read_0 rfl rfl ?_
  refine ow_iconst (pc' := 2) (n := 0) dX6_read_1 rfl rfl ?_
  refine ow_putf2 (pc' := 5) (t := 0) (ji := 4) dX6_read_2 fRX6_25 rfl rfl rfl rfl (of_eq_true eo46) (of_eq_true en46_4) (fun hz => absurd hz (by decide)) (fun N1 eN1 => ?_)
  have h := h N1 eN1
  refine ow_aload_n (pc' := 6) (x := 46) dX6_read_5 rfl rfl ?_
  refine ow_iconst (pc' := 7) (n := (-1)) dX6_read_6 rfl rfl ?_
  refine ow_putf2 (pc' := 10) (t := 0) (ji := 5) dX6_read_7 fRX6_28 rfl rfl rfl rfl (of_eq_true eo46) (of_eq_true en46_5) (fun hz => absurd hz (by decide)) (fun N2 eN2 => ?_)
  have h := h N2 eN2
  refine ow_aload_n (pc' := 11) (x := 46) dX6_read_10 rfl rfl ?_
  refine ow_iconst (pc' := 12) (n := 0) dX6_read_11 rfl rfl ?_
  refine ow_putf2 (pc' := 15) (t := 0) (ji := 3) dX6_read_12 fRX6_22 rfl rfl rfl rfl (of_eq_true eo46) (of_eq_true en46_3) (fun hz => absurd hz (by decide)) (fun N3 eN3 => ?_)
  have h := h N3 eN3
  refine ow_aload_n (pc' := 16) (x := 46) dX6_read_15 rfl rfl ?_
  refine ow_iconst (pc' := 17) (n := 0) dX6_read_16 rfl rfl ?_
  refine ow_putf2 (pc' := 20) (t := 0) (ji := 2) dX6_read_17 fRX6_18 rfl rfl rfl rfl (of_eq_true eo46) (of_eq_true en46_2) (fun hz => absurd hz (by decide)) (fun N4 eN4 => ?_)
  have h := h N4 eN4
  refine ow_aload_n (pc' := 21) (x := l3) dX6_read_20 rfl rfl ?_
  refine ow_ifnonnull (pc' := 24) (tg := 29) dX6_read_21 rfl rfl (fun hc => ?_) (fun hc => ?_)
  · have h := h.1 hc
    refine ow_aload_n (pc' := 30) (x := 46) dX6_read_29 rfl rfl ?_
    refine ow_aload_n (pc' := 31) (x := l3) dX6_read_30 rfl rfl ?_
    refine ow_putf2 (pc' := 34) (t := 3) (ji := 1) dX6_read_31 fRX6_12 rfl rfl rfl rfl (of_eq_true eo46) (of_eq_true en46_1) (fun hz => absurd hz (by decide)) (fun N5 eN5 => ?_)
    have h := h N5 eN5
    refine ow_aload_n (pc' := 35) (x := 46) dX6_read_34 rfl rfl ?_
    refine ow_getf3 (pc' := 38) (t := 3) (ji := 1) (val := N5 46 1) dX6_read_35 fRX6_12 rfl rfl rfl (of_eq_true eo46) eg46_1 ?_
    obtain ⟨w, h⟩ := h
    refine ow_callVv (z := mX7_clear) (n := 0) (k := 7) (vs := []) (x := N5 46 1) (st := []) (pc' := 41) (b1 := (0, 0)) (b2 := (0, 0)) dX6_read_38 lRX6_40 kX7_clear iX7_clear rfl rfl rfl rfl rfl rfl w (ow_Sp.mono h (fun r6 N6 h => ?_))
    refine ow_aload_n (pc' := 42) (x := 46) dX6_read_41 rfl rfl ?_
    refine ow_getf3 (pc' := 45) (t := 3) (ji := 0) (val := 53) dX6_read_42 fRX6_36 rfl rfl rfl (of_eq_true eo46) eg46_0 ?_
    refine ow_aload_n (pc' := 46) (x := l1) dX6_read_45 rfl rfl ?_
    refine ow_iload_n (pc' := 47) (x := l2) dX6_read_46 rfl rfl ?_
    refine ow_callVv (z := mX8_cut) (n := 2) (k := 8) (vs := [(3, l1), (0, l2)]) (x := 53) (st := []) (pc' := 50) (b1 := (0, 0)) (b2 := (0, 0)) dX6_read_47 lRX6_43 kX8_cut iX8_cut rfl rfl rfl rfl rfl rfl (of_eq_true eo53) (ow_Sp.mono h (fun r7 N7 h => ?_))
    refine ow_iconst (pc' := 51) (n := 0) dX6_read_50 rfl rfl ?_
    refine ow_istore (pc' := 53) (lv' := [(0, (3, 46)), (1, (3, l1)), (2, (0, l2)), (3, (3, l3)), (4, (0, 0))]) dX6_read_51 rfl rfl rfl ?_
    refine ow_sub (lv' := [(0, (3, 46)), (4, (0, 0))]) [0, 4] rfl ?_
    exact h
  · have h := h.2 hc
    refine ow_aload_n (pc' := 25) (x := 46) dX6_read_24 rfl rfl ?_
    refine ow_getf3 (pc' := 28) (t := 0) (ji := 4) (val := N4 46 4) dX6_read_25 fRX6_25 rfl rfl rfl (of_eq_true eo46) eg46_4 ?_
    exact ow_iret dX6_read_28 rfl rfl h
set_option maxRecDepth 20000 in
theorem cX6_read_53 {C : ow_C} {A L N : Int} {d : Nat} {M : ow_M} {K : Int → ow_M → Prop} {l4 : Int} (h : (24 < l4 → K (M 46 4) M) ∧ (l4 ≤ 24 → ((M 46 4) ≠ 0 → K (M 46 4) M) ∧ ((M 46 4) = 0 → ow_Sp C (EM A L N) d mX6_kind (0, 0) [(3, 46)] M (fun r1 N1 => (r1 = 0 → K (N1 46 4) N1) ∧ (r1 ≠ 0 → ow_Sp C (EM A L N) d mX6_readClause (0, 0) [(3, 46)] N1 (fun r2 N2 => ow_I (l4 + 1) ∧ ow_At C (EM A L N) (d + 1) mX6_read 53 [(0, (3, 46)), (4, (0, l4 + 1))] [] (0, 0) N2 K)))))) : ow_At C (EM A L N) (d + 1) mX6_read 53 [(0, (3, 46)), (4, (0, l4))] [] (0, 0) M K := by
  refine ow_iload (pc' := 55) (x := l4) dX6_read_53 rfl rfl ?_
  refine ow_bipush (pc' := 57) (n := 24) dX6_read_55 rfl rfl ?_
  refine ow_icmpgt (pc' := 60) (tg := 84) dX6_read_57 rfl rfl (fun hc => ?_) (fun hc => ?_)
  · have h := h.1 hc
    refine ow_aload_n (pc' := 85) (x := 46) dX6_read_84 rfl rfl ?_
    refine ow_getf3 (pc' := 88) (t := 0) (ji := 4) (val := M 46 4) dX6_read_85 fRX6_25 rfl rfl rfl (of_eq_true eo46) eg46_4 ?_
    exact ow_iret dX6_read_88 rfl rfl h
  · have h := h.2 hc
    refine ow_aload_n (pc' := 61) (x := 46) dX6_read_60 rfl rfl ?_
    refine ow_getf3 (pc' := 64) (t := 0) (ji := 4) (val := M 46 4) dX6_read_61 fRX6_25 rfl rfl rfl (of_eq_true eo46) eg46_4 ?_
    refine ow_ifne (pc' := 67) (tg := 84) dX6_read_64 rfl rfl (fun hc => ?_) (fun hc => ?_)
    · have h := h.1 hc
      refine ow_aload_n (pc' := 85) (x := 46) dX6_read_84 rfl rfl ?_
      refine ow_getf3 (pc' := 88) (t := 0) (ji := 4) (val := M 46 4) dX6_read_85 fRX6_25 rfl rfl rfl (of_eq_true eo46) eg46_4 ?_
      exact ow_iret dX6_read_88 rfl rfl h
    · have h := h.2 hc
      refine ow_aload_n (pc' := 68) (x := 46) dX6_read_67 rfl rfl ?_
      refine ow_callVp (z := mX6_kind) (n := 0) (k := 6) (vs := []) (x := 46) (st := []) (pc' := 71) (b1 := (0, 0)) (b2 := (0, 0)) dX6_read_68 lRX6_47 kX6_kind iX6_kind rfl rfl rfl rfl rfl rfl (of_eq_true eo46) (ow_Sp.mono h (fun r1 N1 h => ?_))
      refine ow_ifeq (pc' := 74) (tg := 84) dX6_read_71 rfl rfl (fun hc => ?_) (fun hc => ?_)
      · have h := h.1 hc
        refine ow_aload_n (pc' := 85) (x := 46) dX6_read_84 rfl rfl ?_
        refine ow_getf3 (pc' := 88) (t := 0) (ji := 4) (val := N1 46 4) dX6_read_85 fRX6_25 rfl rfl rfl (of_eq_true eo46) eg46_4 ?_
        exact ow_iret dX6_read_88 rfl rfl h
      · have h := h.2 hc
        refine ow_aload_n (pc' := 75) (x := 46) dX6_read_74 rfl rfl ?_
        refine ow_callVv (z := mX6_readClause) (n := 0) (k := 6) (vs := []) (x := 46) (st := []) (pc' := 78) (b1 := (0, 0)) (b2 := (0, 0)) dX6_read_75 lRX6_51 kX6_readClause iX6_readClause rfl rfl rfl rfl rfl rfl (of_eq_true eo46) (ow_Sp.mono h (fun r2 N2 h => ?_))
        obtain ⟨vv1, h⟩ := h
        refine ow_iinc (pc' := 81) (lv' := [(0, (3, 46)), (4, (0, l4 + 1))]) dX6_read_78 rfl vv1 rfl rfl rfl ?_
        refine ow_goto (tg := 53) dX6_read_81 rfl ?_
        exact h
theorem fX6_read {C : ow_C} {A L N : Int} {d : Nat} {M : ow_M} {K : Int → ow_M → Prop} {l1 l2 l3 : Int} (h : ∀ N1, N1 = ow_up M 46 4 0 → ∀ N2, N2 = ow_up N1 46 5 ((-1)) → ∀ N3, N3 = ow_up N2 46 3 0 → ∀ N4, N4 = ow_up N3 46 2 0 → (0 ≤ l3 → ∀ N5, N5 = ow_up N4 46 1 l3 → ow_O (EM A L N) N5 (N5 46 1) 7 ∧ ow_Sp C (EM A L N) d mX7_clear (0, 0) [(3, N5 46 1)] N5 (fun r6 N6 => ow_Sp C (EM A L N) d mX8_cut (0, 0) [(3, 53), (3, l1), (0, l2)] N6 (fun r7 N7 => ow_At C (EM A L N) (d + 1) mX6_read 53 [(0, (3, 46)), (4, (0, 0))] [] (0, 0) N7 K))) ∧ (l3 < 0 → K (N4 46 4) N4)) : ow_Sp C (EM A L N) (d + 1) mX6_read (0, 0) [(3, 46), (3, l1), (0, l2), (3, l3)] M K := ow_enter (by decide +kernel) rfl rfl (cX6_read_0 h)
set_option maxRecDepth 20000 in
theorem cX6_kind_0 {C : ow_C} {A L N : Int} {d : Nat} {M : ow_M} {K : Int → ow_M → Prop} (h : ((M 46 2) < 0 → K 0 M) ∧ (0 ≤ (M 46 2) → ((M 53 5) ≤ (M 46 2) → K 0 M) ∧ ((M 46 2) < (M 53 5) → (0 ≤ (M 46 2) ∧ (M 46 2) < 301) ∧ K (M 54 (M 46 2)) M))) : ow_At C (EM A L N) d mX6_kind 0 [(0, (3, 46))] [] (0, 0) M K := by
  refine ow_aload_n (pc' := 1) (x := 46) dX6_kind_0 rfl rfl ?_
  refine ow_getf3 (pc' := 4) (t := 0) (ji := 2) (val := M 46 2) dX6_kind_1 fRX6_18 rfl rfl rfl (of_eq_true eo46) eg46_2 ?_
  refine ow_iflt (pc' := 7) (tg := 36) dX6_kind_4 rfl rfl (fun hc => ?_) (fun hc => ?_)
  · have h := h.1 hc
    refine ow_iconst (pc' := 37) (n := 0) dX6_kind_36 rfl rfl ?_
    exact ow_iret dX6_kind_37 rfl rfl h
  · have h := h.2 hc
    refine ow_aload_n (pc' := 8) (x := 46) dX6_kind_7 rfl rfl ?_
    refine ow_getf3 (pc' := 11) (t := 0) (ji := 2) (val := M 46 2) dX6_kind_8 fRX6_18 rfl rfl rfl (of_eq_true eo46) eg46_2 ?_
    refine ow_aload_n (pc' := 12) (x := 46) dX6_kind_11 rfl rfl ?_
    refine ow_getf3 (pc' := 15) (t := 3) (ji := 0) (val := 53) dX6_kind_12 fRX6_36 rfl rfl rfl (of_eq_true eo46) eg46_0 ?_
    refine ow_getf3 (pc' := 18) (t := 0) (ji := 5) (val := M 53 5) dX6_kind_15 fRX6_54 rfl rfl rfl (of_eq_true eo53) eg53_5 ?_
    refine ow_icmpge (pc' := 21) (tg := 36) dX6_kind_18 rfl rfl (fun hc => ?_) (fun hc => ?_)
    · have h := h.1 hc
      refine ow_iconst (pc' := 37) (n := 0) dX6_kind_36 rfl rfl ?_
      exact ow_iret dX6_kind_37 rfl rfl h
    · have h := h.2 hc
      refine ow_aload_n (pc' := 22) (x := 46) dX6_kind_21 rfl rfl ?_
      refine ow_getf3 (pc' := 25) (t := 3) (ji := 0) (val := 53) dX6_kind_22 fRX6_36 rfl rfl rfl (of_eq_true eo46) eg46_0 ?_
      refine ow_getf3 (pc' := 28) (t := 3) (ji := 1) (val := 54) dX6_kind_25 fRX6_57 rfl rfl rfl (of_eq_true eo53) eg53_1 ?_
      refine ow_aload_n (pc' := 29) (x := 46) dX6_kind_28 rfl rfl ?_
      refine ow_getf3 (pc' := 32) (t := 0) (ji := 2) (val := M 46 2) dX6_kind_29 fRX6_18 rfl rfl rfl (of_eq_true eo46) eg46_2 ?_
      obtain ⟨vv1, h⟩ := h
      refine ow_iaload3 (pc' := 33) (val := M 54 (M 46 2)) dX6_kind_32 rfl (Eq.mpr (er54 _) vv1) (ea54 _) ?_
      refine ow_goto (tg := 37) dX6_kind_33 rfl ?_
      exact ow_iret dX6_kind_37 rfl rfl h
theorem fX6_kind {C : ow_C} {A L N : Int} {d : Nat} {M : ow_M} {K : Int → ow_M → Prop} (h : ((M 46 2) < 0 → K 0 M) ∧ (0 ≤ (M 46 2) → ((M 53 5) ≤ (M 46 2) → K 0 M) ∧ ((M 46 2) < (M 53 5) → (0 ≤ (M 46 2) ∧ (M 46 2) < 301) ∧ K (M 54 (M 46 2)) M))) : ow_Sp C (EM A L N) d mX6_kind (0, 0) [(3, 46)] M K := ow_enter (by decide +kernel) rfl rfl (cX6_kind_0 h)
set_option maxRecDepth 20000 in
theorem cX6_isName_0 {C : ow_C} {A L N : Int} {d : Nat} {M : ow_M} {K : Int → ow_M → Prop} {l1 : Int} (h : ((M 46 2) < 0 → K 0 M) ∧ (0 ≤ (M 46 2) → ((M 53 5) ≤ (M 46 2) → K 0 M) ∧ ((M 46 2) < (M 53 5) → (0 ≤ (M 46 2) ∧ (M 46 2) < 301) ∧ ((M 56 (M 46 2)) ≠ l1 → K 0 M) ∧ ((M 56 (M 46 2)) = l1 → K 1 M)))) : ow_At C (EM A L N) d mX6_isName 0 [(0, (3, 46)), (1, (0, l1))] [] (0, 0) M K := by
  refine ow_aload_n (pc' := 1) (x := 46) dX6_isName_0 rfl rfl ?_
  refine ow_getf3 (pc' := 4) (t := 0) (ji := 2) (val := M 46 2) dX6_isName_1 fRX6_18 rfl rfl rfl (of_eq_true eo46) eg46_2 ?_
  refine ow_iflt (pc' := 7) (tg := 41) dX6_isName_4 rfl rfl (fun hc => ?_) (fun hc => ?_)
  · have h := h.1 hc
    refine ow_iconst (pc' := 42) (n := 0) dX6_isName_41 rfl rfl ?_
    exact ow_zret dX6_isName_42 rfl rfl (Or.inl rfl) h
  · have h := h.2 hc
    refine ow_aload_n (pc' := 8) (x := 46) dX6_isName_7 rfl rfl ?_
    refine ow_getf3 (pc' := 11) (t := 0) (ji := 2) (val := M 46 2) dX6_isName_8 fRX6_18 rfl rfl rfl (of_eq_true eo46) eg46_2 ?_
    refine ow_aload_n (pc' := 12) (x := 46) dX6_isName_11 rfl rfl ?_
    refine ow_getf3 (pc' := 15) (t := 3) (ji := 0) (val := 53) dX6_isName_12 fRX6_36 rfl rfl rfl (of_eq_true eo46) eg46_0 ?_
    refine ow_getf3 (pc' := 18) (t := 0) (ji := 5) (val := M 53 5) dX6_isName_15 fRX6_54 rfl rfl rfl (of_eq_true eo53) eg53_5 ?_
    refine ow_icmpge (pc' := 21) (tg := 41) dX6_isName_18 rfl rfl (fun hc => ?_) (fun hc => ?_)
    · have h := h.1 hc
      refine ow_iconst (pc' := 42) (n := 0) dX6_isName_41 rfl rfl ?_
      exact ow_zret dX6_isName_42 rfl rfl (Or.inl rfl) h
    · have h := h.2 hc
      refine ow_aload_n (pc' := 22) (x := 46) dX6_isName_21 rfl rfl ?_
      refine ow_getf3 (pc' := 25) (t := 3) (ji := 0) (val := 53) dX6_isName_22 fRX6_36 rfl rfl rfl (of_eq_true eo46) eg46_0 ?_
      refine ow_getf3 (pc' := 28) (t := 3) (ji := 3) (val := 56) dX6_isName_25 fRX6_60 rfl rfl rfl (of_eq_true eo53) eg53_3 ?_
      refine ow_aload_n (pc' := 29) (x := 46) dX6_isName_28 rfl rfl ?_
      refine ow_getf3 (pc' := 32) (t := 0) (ji := 2) (val := M 46 2) dX6_isName_29 fRX6_18 rfl rfl rfl (of_eq_true eo46) eg46_2 ?_
      obtain ⟨vv1, h⟩ := h
      refine ow_iaload3 (pc' := 33) (val := M 56 (M 46 2)) dX6_isName_32 rfl (Eq.mpr (er56 _) vv1) (ea56 _) ?_
      refine ow_iload_n (pc' := 34) (x := l1) dX6_isName_33 rfl rfl ?_
      refine ow_icmpne (pc' := 37) (tg := 41) dX6_isName_34 rfl rfl (fun hc => ?_) (fun hc => ?_)
      · have h := h.1 hc
        refine ow_iconst (pc' := 42) (n := 0) dX6_isName_41 rfl rfl ?_
        exact ow_zret dX6_isName_42 rfl rfl (Or.inl rfl) h
      · have h := h.2 hc
        refine ow_iconst (pc' := 38) (n := 1) dX6_isName_37 rfl rfl ?_
        refine ow_goto (tg := 42) dX6_isName_38 rfl ?_
        exact ow_zret dX6_isName_42 rfl rfl (Or.inr rfl) h
theorem fX6_isName {C : ow_C} {A L N : Int} {d : Nat} {M : ow_M} {K : Int → ow_M → Prop} {l1 : Int} (h : ((M 46 2) < 0 → K 0 M) ∧ (0 ≤ (M 46 2) → ((M 53 5) ≤ (M 46 2) → K 0 M) ∧ ((M 46 2) < (M 53 5) → (0 ≤ (M 46 2) ∧ (M 46 2) < 301) ∧ ((M 56 (M 46 2)) ≠ l1 → K 0 M) ∧ ((M 56 (M 46 2)) = l1 → K 1 M)))) : ow_Sp C (EM A L N) d mX6_isName (0, 0) [(3, 46), (0, l1)] M K := ow_enter (by decide +kernel) rfl rfl (cX6_isName_0 h)
set_option maxRecDepth 20000 in
theorem cX6_fail_0 {C : ow_C} {A L N : Int} {d : Nat} {M : ow_M} {K : Int → ow_M → Prop} {l1 : Int} (h : ((M 46 4) ≠ 0 → K 0 M) ∧ ((M 46 4) = 0 → ((M 46 2) < 0 → K 0 M) ∧ (0 ≤ (M 46 2) → ((M 53 5) ≤ (M 46 2) → K 0 M) ∧ ((M 46 2) < (M 53 5) → ∀ N1, N1 = ow_up M 46 4 l1 → (0 ≤ (N1 46 2) ∧ (N1 46 2) < 301) ∧ ∀ N2, N2 = ow_up N1 46 5 (N1 55 (N1 46 2)) → K 0 N2)))) : ow_At C (EM A L N) d mX6_fail 0 [(0, (3, 46)), (1, (0, l1))] [] (0, 0) M K := by
  refine ow_aload_n (pc' := 1) (x := 46) dX6_fail_0 rfl rfl ?_
  refine ow_getf3 (pc' := 4) (t := 0) (ji := 4) (val := M 46 4) dX6_fail_1 fRX6_25 rfl rfl rfl (of_eq_true eo46) eg46_4 ?_
  refine ow_ifne (pc' := 7) (tg := 49) dX6_fail_4 rfl rfl (fun hc => ?_) (fun hc => ?_)
  · have h := h.1 hc
    exact ow_vret dX6_fail_49 rfl rfl h
  · have h := h.2 hc
    refine ow_aload_n (pc' := 8) (x := 46) dX6_fail_7 rfl rfl ?_
    refine ow_getf3 (pc' := 11) (t := 0) (ji := 2) (val := M 46 2) dX6_fail_8 fRX6_18 rfl rfl rfl (of_eq_true eo46) eg46_2 ?_
    refine ow_iflt (pc' := 14) (tg := 49) dX6_fail_11 rfl rfl (fun hc => ?_) (fun hc => ?_)
    · have h := h.1 hc
      exact ow_vret dX6_fail_49 rfl rfl h
    · have h := h.2 hc
      refine ow_aload_n (pc' := 15) (x := 46) dX6_fail_14 rfl rfl ?_
      refine ow_getf3 (pc' := 18) (t := 0) (ji := 2) (val := M 46 2) dX6_fail_15 fRX6_18 rfl rfl rfl (of_eq_true eo46) eg46_2 ?_
      refine ow_aload_n (pc' := 19) (x := 46) dX6_fail_18 rfl rfl ?_
      refine ow_getf3 (pc' := 22) (t := 3) (ji := 0) (val := 53) dX6_fail_19 fRX6_36 rfl rfl rfl (of_eq_true eo46) eg46_0 ?_
      refine ow_getf3 (pc' := 25) (t := 0) (ji := 5) (val := M 53 5) dX6_fail_22 fRX6_54 rfl rfl rfl (of_eq_true eo53) eg53_5 ?_
      refine ow_icmpge (pc' := 28) (tg := 49) dX6_fail_25 rfl rfl (fun hc => ?_) (fun hc => ?_)
      · have h := h.1 hc
        exact ow_vret dX6_fail_49 rfl rfl h
      · have h := h.2 hc
        refine ow_aload_n (pc' := 29) (x := 46) dX6_fail_28 rfl rfl ?_
        refine ow_iload_n (pc' := 30) (x := l1) dX6_fail_29 rfl rfl ?_
        refine ow_putf2 (pc' := 33) (t := 0) (ji := 4) dX6_fail_30 fRX6_25 rfl rfl rfl rfl (of_eq_true eo46) (of_eq_true en46_4) (fun hz => absurd hz (by decide)) (fun N1 eN1 => ?_)
        have h := h N1 eN1
        refine ow_aload_n (pc' := 34) (x := 46) dX6_fail_33 rfl rfl ?_
        refine ow_aload_n (pc' := 35) (x := 46) dX6_fail_34 rfl rfl ?_
        refine ow_getf3 (pc' := 38) (t := 3) (ji := 0) (val := 53) dX6_fail_35 fRX6_36 rfl rfl rfl (of_eq_true eo46) eg46_0 ?_
        refine ow_getf3 (pc' := 41) (t := 3) (ji := 2) (val := 55) dX6_fail_38 fRX6_63 rfl rfl rfl (of_eq_true eo53) eg53_2 ?_
        refine ow_aload_n (pc' := 42) (x := 46) dX6_fail_41 rfl rfl ?_
        refine ow_getf3 (pc' := 45) (t := 0) (ji := 2) (val := N1 46 2) dX6_fail_42 fRX6_18 rfl rfl rfl (of_eq_true eo46) eg46_2 ?_
        obtain ⟨vv1, h⟩ := h
        refine ow_iaload3 (pc' := 46) (val := N1 55 (N1 46 2)) dX6_fail_45 rfl (Eq.mpr (er55 _) vv1) (ea55 _) ?_
        refine ow_putf2 (pc' := 49) (t := 0) (ji := 5) dX6_fail_46 fRX6_28 rfl rfl rfl rfl (of_eq_true eo46) (of_eq_true en46_5) (fun hz => absurd hz (by decide)) (fun N2 eN2 => ?_)
        have h := h N2 eN2
        exact ow_vret dX6_fail_49 rfl rfl h
theorem fX6_fail {C : ow_C} {A L N : Int} {d : Nat} {M : ow_M} {K : Int → ow_M → Prop} {l1 : Int} (h : ((M 46 4) ≠ 0 → K 0 M) ∧ ((M 46 4) = 0 → ((M 46 2) < 0 → K 0 M) ∧ (0 ≤ (M 46 2) → ((M 53 5) ≤ (M 46 2) → K 0 M) ∧ ((M 46 2) < (M 53 5) → ∀ N1, N1 = ow_up M 46 4 l1 → (0 ≤ (N1 46 2) ∧ (N1 46 2) < 301) ∧ ∀ N2, N2 = ow_up N1 46 5 (N1 55 (N1 46 2)) → K 0 N2)))) : ow_Sp C (EM A L N) d mX6_fail (0, 0) [(3, 46), (0, l1)] M K := ow_enter (by decide +kernel) rfl rfl (cX6_fail_0 h)
set_option maxRecDepth 20000 in
theorem cX6_pass_0 {C : ow_C} {A L N : Int} {d : Nat} {M : ow_M} {K : Int → ow_M → Prop} {l1 : Int} (h : (l1 ≠ 0 → ow_At C (EM A L N) (d + 1) mX6_pass 9 [(0, (3, 46))] [] (0, 0) M K) ∧ (l1 = 0 → ow_Sp C (EM A L N) d mX6_fail (0, 0) [(3, 46), (0, 1)] M (fun r1 N1 => ow_At C (EM A L N) (d + 1) mX6_pass 9 [(0, (3, 46))] [] (0, 0) N1 K))) : ow_At C (EM A L N) (d + 1) mX6_pass 0 [(0, (3, 46)), (1, (0, l1))] [] (0, 0) M K := by
  refine ow_iload_n (pc' := 1) (x := l1) dX6_pass_0 rfl rfl ?_
  refine ow_ifne (pc' := 4) (tg := 9) dX6_pass_1 rfl rfl (fun hc => ?_) (fun hc => ?_)
  · have h := h.1 hc
    refine ow_sub (lv' := [(0, (3, 46))]) [0] rfl ?_
    exact h
  · have h := h.2 hc
    refine ow_aload_n (pc' := 5) (x := 46) dX6_pass_4 rfl rfl ?_
    refine ow_iconst (pc' := 6) (n := 1) dX6_pass_5 rfl rfl ?_
    refine ow_callVv (z := mX6_fail) (n := 1) (k := 6) (vs := [(0, 1)]) (x := 46) (st := []) (pc' := 9) (b1 := (0, 0)) (b2 := (0, 0)) dX6_pass_6 lRX6_66 kX6_fail iX6_fail rfl rfl rfl rfl rfl rfl (of_eq_true eo46) (ow_Sp.mono h (fun r1 N1 h => ?_))
    refine ow_sub (lv' := [(0, (3, 46))]) [0] rfl ?_
    exact h
set_option maxRecDepth 20000 in
theorem cX6_pass_9 {C : ow_C} {A L N : Int} {d : Nat} {M : ow_M} {K : Int → ow_M → Prop} (h : ((M 46 4) ≠ 0 → K 0 M) ∧ ((M 46 4) = 0 → ow_I ((M 46 2) + 1) ∧ ∀ N1, N1 = ow_up M 46 2 ((M 46 2) + 1) → K 0 N1)) : ow_At C (EM A L N) (d + 1) mX6_pass 9 [(0, (3, 46))] [] (0, 0) M K := by
  refine ow_aload_n (pc' := 10) (x := 46) dX6_pass_9 rfl rfl ?_
  refine ow_getf3 (pc' := 13) (t := 0) (ji := 4) (val := M 46 4) dX6_pass_10 fRX6_25 rfl rfl rfl (of_eq_true eo46) eg46_4 ?_
  refine ow_ifne (pc' := 16) (tg := 26) dX6_pass_13 rfl rfl (fun hc => ?_) (fun hc => ?_)
  · have h := h.1 hc
    exact ow_vret dX6_pass_26 rfl rfl h
  · have h := h.2 hc
    refine ow_aload_n (pc' := 17) (x := 46) dX6_pass_16 rfl rfl ?_
    refine ow_dup (pc' := 18) dX6_pass_17 rfl rfl ?_
    refine ow_getf3 (pc' := 21) (t := 0) (ji := 2) (val := M 46 2) dX6_pass_18 fRX6_18 rfl rfl rfl (of_eq_true eo46) eg46_2 ?_
    refine ow_iconst (pc' := 22) (n := 1) dX6_pass_21 rfl rfl ?_
    obtain ⟨vv1, h⟩ := h
    refine ow_iadd (pc' := 23) dX6_pass_22 vv1 rfl ?_
    refine ow_putf2 (pc' := 26) (t := 0) (ji := 2) dX6_pass_23 fRX6_18 rfl rfl rfl rfl (of_eq_true eo46) (of_eq_true en46_2) (fun hz => absurd hz (by decide)) (fun N1 eN1 => ?_)
    have h := h N1 eN1
    exact ow_vret dX6_pass_26 rfl rfl h
theorem fX6_pass {C : ow_C} {A L N : Int} {d : Nat} {M : ow_M} {K : Int → ow_M → Prop} {l1 : Int} (h : (l1 ≠ 0 → ow_At C (EM A L N) (d + 1) mX6_pass 9 [(0, (3, 46))] [] (0, 0) M K) ∧ (l1 = 0 → ow_Sp C (EM A L N) d mX6_fail (0, 0) [(3, 46), (0, 1)] M (fun r1 N1 => ow_At C (EM A L N) (d + 1) mX6_pass 9 [(0, (3, 46))] [] (0, 0) N1 K))) : ow_Sp C (EM A L N) (d + 1) mX6_pass (0, 0) [(3, 46), (0, l1)] M K := ow_enter (by decide +kernel) rfl rfl (cX6_pass_0 h)
set_option maxRecDepth 20000 in
theorem cX6_readClause_0 {C : ow_C} {A L N : Int} {d : Nat} {M : ow_M} {K : Int → ow_M → Prop} (h : ow_Sp C (EM A L N) d mX6_isName (0, 0) [(3, 46), (0, 6)] M (fun r1 N1 => ow_Sp C (EM A L N) d mX6_isName (0, 0) [(3, 46), (0, 7)] N1 (fun r2 N2 => ow_Sp C (EM A L N) d mX6_isName (0, 0) [(3, 46), (0, 8)] N2 (fun r3 N3 => (r1 ≠ 0 → ow_At C (EM A L N) (d + 1) mX6_readClause 50 [(0, (3, 46)), (1, (0, r1)), (2, (0, r2)), (3, (0, r3))] [] (0, 0) N3 K) ∧ (r1 = 0 → (r2 ≠ 0 → ow_At C (EM A L N) (d + 1) mX6_readClause 50 [(0, (3, 46)), (1, (0, r1)), (2, (0, r2)), (3, (0, r3))] [] (0, 0) N3 K) ∧ (r2 = 0 → (r3 ≠ 0 → ow_At C (EM A L N) (d + 1) mX6_readClause 50 [(0, (3, 46)), (1, (0, r1)), (2, (0, r2)), (3, (0, r3))] [] (0, 0) N3 K) ∧ (r3 = 0 → ow_Sp C (EM A L N) d mX6_isName (0, 0) [(3, 46), (0, 9)] N3 (fun r4 N4 => (r4 ≠ 0 → ow_At C (EM A L N) (d + 1) mX6_readClause 50 [(0, (3, 46)), (1, (0, r1)), (2, (0, r2)), (3, (0, r3))] [] (0, 0) N4 K) ∧ (r4 = 0 → ow_Sp C (EM A L N) d mX6_fail (0, 0) [(3, 46), (0, 1)] N4 (fun r5 N5 => K 0 N5)))))))))) : ow_At C (EM A L N) (d + 1) mX6_readClause 0 [(0, (3, 46))] [] (0, 0) M K := by
  refine ow_aload_n (pc' := 1) (x := 46) dX6_readClause_0 rfl rfl ?_
  refine ow_bipush (pc' := 3) (n := 6) dX6_readClause_1 rfl rfl ?_
  refine ow_callVp (z := mX6_isName) (n := 1) (k := 6) (vs := [(0, 6)]) (x := 46) (st := []) (pc' := 6) (b1 := (0, 0)) (b2 := (0, 0)) dX6_readClause_3 lRX6_70 kX6_isName iX6_isName rfl rfl rfl rfl rfl rfl (of_eq_true eo46) (ow_Sp.mono h (fun r1 N1 h => ?_))
  refine ow_istore_n (pc' := 7) (lv' := [(0, (3, 46)), (1, (0, r1))]) dX6_readClause_6 rfl rfl rfl ?_
  refine ow_aload_n (pc' := 8) (x := 46) dX6_readClause_7 rfl rfl ?_
  refine ow_bipush (pc' := 10) (n := 7) dX6_readClause_8 rfl rfl ?_
  refine ow_callVp (z := mX6_isName) (n := 1) (k := 6) (vs := [(0, 7)]) (x := 46) (st := []) (pc' := 13) (b1 := (0, 0)) (b2 := (0, 0)) dX6_readClause_10 lRX6_70 kX6_isName iX6_isName rfl rfl rfl rfl rfl rfl (of_eq_true eo46) (ow_Sp.mono h (fun r2 N2 h => ?_))
  refine ow_istore_n (pc' := 14) (lv' := [(0, (3, 46)), (1, (0, r1)), (2, (0, r2))]) dX6_readClause_13 rfl rfl rfl ?_
  refine ow_aload_n (pc' := 15) (x := 46) dX6_readClause_14 rfl rfl ?_
  refine ow_bipush (pc' := 17) (n := 8) dX6_readClause_15 rfl rfl ?_
  refine ow_callVp (z := mX6_isName) (n := 1) (k := 6) (vs := [(0, 8)]) (x := 46) (st := []) (pc' := 20) (b1 := (0, 0)) (b2 := (0, 0)) dX6_readClause_17 lRX6_70 kX6_isName iX6_isName rfl rfl rfl rfl rfl rfl (of_eq_true eo46) (ow_Sp.mono h (fun r3 N3 h => ?_))
  refine ow_istore_n (pc' := 21) (lv' := [(0, (3, 46)), (1, (0, r1)), (2, (0, r2)), (3, (0, r3))]) dX6_readClause_20 rfl rfl rfl ?_
  refine ow_iload_n (pc' := 22) (x := r1) dX6_readClause_21 rfl rfl ?_
  refine ow_ifne (pc' := 25) (tg := 50) dX6_readClause_22 rfl rfl (fun hc => ?_) (fun hc => ?_)
  · have h := h.1 hc
    exact h
  · have h := h.2 hc
    refine ow_iload_n (pc' := 26) (x := r2) dX6_readClause_25 rfl rfl ?_
    refine ow_ifne (pc' := 29) (tg := 50) dX6_readClause_26 rfl rfl (fun hc => ?_) (fun hc => ?_)
    · have h := h.1 hc
      exact h
    · have h := h.2 hc
      refine ow_iload_n (pc' := 30) (x := r3) dX6_readClause_29 rfl rfl ?_
      refine ow_ifne (pc' := 33) (tg := 50) dX6_readClause_30 rfl rfl (fun hc => ?_) (fun hc => ?_)
      · have h := h.1 hc
        exact h
      · have h := h.2 hc
        refine ow_aload_n (pc' := 34) (x := 46) dX6_readClause_33 rfl rfl ?_
        refine ow_bipush (pc' := 36) (n := 9) dX6_readClause_34 rfl rfl ?_
        refine ow_callVp (z := mX6_isName) (n := 1) (k := 6) (vs := [(0, 9)]) (x := 46) (st := []) (pc' := 39) (b1 := (0, 0)) (b2 := (0, 0)) dX6_readClause_36 lRX6_70 kX6_isName iX6_isName rfl rfl rfl rfl rfl rfl (of_eq_true eo46) (ow_Sp.mono h (fun r4 N4 h => ?_))
        refine ow_ifne (pc' := 42) (tg := 50) dX6_readClause_39 rfl rfl (fun hc => ?_) (fun hc => ?_)
        · have h := h.1 hc
          exact h
        · have h := h.2 hc
          refine ow_aload_n (pc' := 43) (x := 46) dX6_readClause_42 rfl rfl ?_
          refine ow_iconst (pc' := 44) (n := 1) dX6_readClause_43 rfl rfl ?_
          refine ow_callVv (z := mX6_fail) (n := 1) (k := 6) (vs := [(0, 1)]) (x := 46) (st := []) (pc' := 47) (b1 := (0, 0)) (b2 := (0, 0)) dX6_readClause_44 lRX6_66 kX6_fail iX6_fail rfl rfl rfl rfl rfl rfl (of_eq_true eo46) (ow_Sp.mono h (fun r5 N5 h => ?_))
          refine ow_goto (tg := 178) dX6_readClause_47 rfl ?_
          exact ow_vret dX6_readClause_178 rfl rfl h
set_option maxRecDepth 20000 in
theorem cX6_readClause_50 {C : ow_C} {A L N : Int} {d : Nat} {M : ow_M} {K : Int → ow_M → Prop} {l1 l2 l3 : Int} (h : (l1 = 0 → ow_At C (EM A L N) (d + 1) mX6_readClause 64 [(0, (3, 46)), (1, (0, l1)), (2, (0, l2)), (3, (0, l3))] [] (0, 0) M K) ∧ (l1 ≠ 0 → ow_O (EM A L N) M (M 46 1) 7 ∧ ((ow_gv (EM A L N) M (M 46 1) 3) ≠ 0 → ow_At C (EM A L N) (d + 1) mX6_readClause 78 [(0, (3, 46))] [] (0, 0) M K) ∧ ((ow_gv (EM A L N) M (M 46 1) 3) = 0 → ow_At C (EM A L N) (d + 1) mX6_readClause 64 [(0, (3, 46)), (1, (0, l1)), (2, (0, l2)), (3, (0, l3))] [] (0, 0) M K))) : ow_At C (EM A L N) (d + 1) mX6_readClause 50 [(0, (3, 46)), (1, (0, l1)), (2, (0, l2)), (3, (0, l3))] [] (0, 0) M K := by
  refine ow_iload_n (pc' := 51) (x := l1) dX6_readClause_50 rfl rfl ?_
  refine ow_ifeq (pc' := 54) (tg := 64) dX6_readClause_51 rfl rfl (fun hc => ?_) (fun hc => ?_)
  · have h := h.1 hc
    exact h
  · have h := h.2 hc
    refine ow_aload_n (pc' := 55) (x := 46) dX6_readClause_54 rfl rfl ?_
    refine ow_getf3 (pc' := 58) (t := 3) (ji := 1) (val := M 46 1) dX6_readClause_55 fRX6_12 rfl rfl rfl (of_eq_true eo46) eg46_1 ?_
    obtain ⟨w, h⟩ := h
    refine ow_getf2 (pc' := 61) (t := 0) (ji := 3) dX6_readClause_58 fRX6_74 rfl rfl rfl w ?_
    refine ow_ifne (pc' := 64) (tg := 78) dX6_readClause_61 rfl rfl (fun hc => ?_) (fun hc => ?_)
    · have h := h.1 hc
      refine ow_sub (lv' := [(0, (3, 46))]) [0] rfl ?_
      exact h
    · have h := h.2 hc
      exact h
set_option maxRecDepth 20000 in
theorem cX6_readClause_64 {C : ow_C} {A L N : Int} {d : Nat} {M : ow_M} {K : Int → ow_M → Prop} {l1 l2 l3 : Int} (h : (l2 = 0 → ow_At C (EM A L N) (d + 1) mX6_readClause 86 [(0, (3, 46)), (1, (0, l1)), (2, (0, l2)), (3, (0, l3))] [] (0, 0) M K) ∧ (l2 ≠ 0 → ow_O (EM A L N) M (M 46 1) 7 ∧ ((ow_gv (EM A L N) M (M 46 1) 6) = 0 → ow_At C (EM A L N) (d + 1) mX6_readClause 86 [(0, (3, 46)), (1, (0, l1)), (2, (0, l2)), (3, (0, l3))] [] (0, 0) M K) ∧ ((ow_gv (EM A L N) M (M 46 1) 6) ≠ 0 → ow_At C (EM A L N) (d + 1) mX6_readClause 78 [(0, (3, 46))] [] (0, 0) M K))) : ow_At C (EM A L N) (d + 1) mX6_readClause 64 [(0, (3, 46)), (1, (0, l1)), (2, (0, l2)), (3, (0, l3))] [] (0, 0) M K := by
  refine ow_iload_n (pc' := 65) (x := l2) dX6_readClause_64 rfl rfl ?_
  refine ow_ifeq (pc' := 68) (tg := 86) dX6_readClause_65 rfl rfl (fun hc => ?_) (fun hc => ?_)
  · have h := h.1 hc
    exact h
  · have h := h.2 hc
    refine ow_aload_n (pc' := 69) (x := 46) dX6_readClause_68 rfl rfl ?_
    refine ow_getf3 (pc' := 72) (t := 3) (ji := 1) (val := M 46 1) dX6_readClause_69 fRX6_12 rfl rfl rfl (of_eq_true eo46) eg46_1 ?_
    obtain ⟨w, h⟩ := h
    refine ow_getf2 (pc' := 75) (t := 0) (ji := 6) dX6_readClause_72 fRX6_78 rfl rfl rfl w ?_
    refine ow_ifeq (pc' := 78) (tg := 86) dX6_readClause_75 rfl rfl (fun hc => ?_) (fun hc => ?_)
    · have h := h.1 hc
      exact h
    · have h := h.2 hc
      refine ow_sub (lv' := [(0, (3, 46))]) [0] rfl ?_
      exact h
set_option maxRecDepth 20000 in
theorem cX6_readClause_78 {C : ow_C} {A L N : Int} {d : Nat} {M : ow_M} {K : Int → ow_M → Prop} (h : ow_Sp C (EM A L N) d mX6_fail (0, 0) [(3, 46), (0, 4)] M (fun r1 N1 => K 0 N1)) : ow_At C (EM A L N) (d + 1) mX6_readClause 78 [(0, (3, 46))] [] (0, 0) M K := by
  refine ow_aload_n (pc' := 79) (x := 46) dX6_readClause_78 rfl rfl ?_
  refine ow_iconst (pc' := 80) (n := 4) dX6_readClause_79 rfl rfl ?_
  refine ow_callVv (z := mX6_fail) (n := 1) (k := 6) (vs := [(0, 4)]) (x := 46) (st := []) (pc' := 83) (b1 := (0, 0)) (b2 := (0, 0)) dX6_readClause_80 lRX6_66 kX6_fail iX6_fail rfl rfl rfl rfl rfl rfl (of_eq_true eo46) (ow_Sp.mono h (fun r1 N1 h => ?_))
  refine ow_goto (tg := 178) dX6_readClause_83 rfl ?_
  exact ow_vret dX6_readClause_178 rfl rfl h
set_option maxRecDepth 20000 in
theorem cX6_readClause_86 {C : ow_C} {A L N : Int} {d : Nat} {M : ow_M} {K : Int → ow_M → Prop} {l1 l2 l3 : Int} (h : ((M 46 3) < 24 → ow_I ((M 46 3) + 1) ∧ ∀ N1, N1 = ow_up M 46 3 ((M 46 3) + 1) → ow_I ((N1 46 2) + 1) ∧ ∀ N2, N2 = ow_up N1 46 2 ((N1 46 2) + 1) → (l1 = 0 → (l2 = 0 → (l3 = 0 → ow_Sp C (EM A L N) d mX6_readRoad (0, 0) [(3, 46)] N2 (fun r3 N3 => ow_At C (EM A L N) (d + 1) mX6_readClause 160 [(0, (3, 46))] [] (0, 0) N3 K)) ∧ (l3 ≠ 0 → ow_Sp C (EM A L N) d mX6_readEntry (0, 0) [(3, 46)] N2 (fun r4 N4 => ow_At C (EM A L N) (d + 1) mX6_readClause 160 [(0, (3, 46))] [] (0, 0) N4 K))) ∧ (l2 ≠ 0 → ow_Sp C (EM A L N) d mX6_readWeight (0, 0) [(3, 46)] N2 (fun r5 N5 => ow_At C (EM A L N) (d + 1) mX6_readClause 160 [(0, (3, 46))] [] (0, 0) N5 K))) ∧ (l1 ≠ 0 → ow_Sp C (EM A L N) d mX6_readMay (0, 0) [(3, 46)] N2 (fun r6 N6 => ow_At C (EM A L N) (d + 1) mX6_readClause 160 [(0, (3, 46))] [] (0, 0) N6 K))) ∧ (24 ≤ (M 46 3) → ow_Sp C (EM A L N) d mX6_fail (0, 0) [(3, 46), (0, 5)] M (fun r7 N7 => K 0 N7))) : ow_At C (EM A L N) (d + 1) mX6_readClause 86 [(0, (3, 46)), (1, (0, l1)), (2, (0, l2)), (3, (0, l3))] [] (0, 0) M K := by
  refine ow_aload_n (pc' := 87) (x := 46) dX6_readClause_86 rfl rfl ?_
  refine ow_getf3 (pc' := 90) (t := 0) (ji := 3) (val := M 46 3) dX6_readClause_87 fRX6_22 rfl rfl rfl (of_eq_true eo46) eg46_3 ?_
  refine ow_bipush (pc' := 92) (n := 24) dX6_readClause_90 rfl rfl ?_
  refine ow_icmplt (pc' := 95) (tg := 103) dX6_readClause_92 rfl rfl (fun hc => ?_) (fun hc => ?_)
  · have h := h.1 hc
    refine ow_aload_n (pc' := 104) (x := 46) dX6_readClause_103 rfl rfl ?_
    refine ow_dup (pc' := 105) dX6_readClause_104 rfl rfl ?_
    refine ow_getf3 (pc' := 108) (t := 0) (ji := 3) (val := M 46 3) dX6_readClause_105 fRX6_22 rfl rfl rfl (of_eq_true eo46) eg46_3 ?_
    refine ow_iconst (pc' := 109) (n := 1) dX6_readClause_108 rfl rfl ?_
    obtain ⟨vv1, h⟩ := h
    refine ow_iadd (pc' := 110) dX6_readClause_109 vv1 rfl ?_
    refine ow_putf2 (pc' := 113) (t := 0) (ji := 3) dX6_readClause_110 fRX6_22 rfl rfl rfl rfl (of_eq_true eo46) (of_eq_true en46_3) (fun hz => absurd hz (by decide)) (fun N1 eN1 => ?_)
    have h := h N1 eN1
    refine ow_aload_n (pc' := 114) (x := 46) dX6_readClause_113 rfl rfl ?_
    refine ow_dup (pc' := 115) dX6_readClause_114 rfl rfl ?_
    refine ow_getf3 (pc' := 118) (t := 0) (ji := 2) (val := N1 46 2) dX6_readClause_115 fRX6_18 rfl rfl rfl (of_eq_true eo46) eg46_2 ?_
    refine ow_iconst (pc' := 119) (n := 1) dX6_readClause_118 rfl rfl ?_
    obtain ⟨vv2, h⟩ := h
    refine ow_iadd (pc' := 120) dX6_readClause_119 vv2 rfl ?_
    refine ow_putf2 (pc' := 123) (t := 0) (ji := 2) dX6_readClause_120 fRX6_18 rfl rfl rfl rfl (of_eq_true eo46) (of_eq_true en46_2) (fun hz => absurd hz (by decide)) (fun N2 eN2 => ?_)
    have h := h N2 eN2
    refine ow_iload_n (pc' := 124) (x := l1) dX6_readClause_123 rfl rfl ?_
    refine ow_ifeq (pc' := 127) (tg := 134) dX6_readClause_124 rfl rfl (fun hc => ?_) (fun hc => ?_)
    · have h := h.1 hc
      refine ow_iload_n (pc' := 135) (x := l2) dX6_readClause_134 rfl rfl ?_
      refine ow_ifeq (pc' := 138) (tg := 145) dX6_readClause_135 rfl rfl (fun hc => ?_) (fun hc => ?_)
      · have h := h.1 hc
        refine ow_iload_n (pc' := 146) (x := l3) dX6_readClause_145 rfl rfl ?_
        refine ow_ifeq (pc' := 149) (tg := 156) dX6_readClause_146 rfl rfl (fun hc => ?_) (fun hc => ?_)
        · have h := h.1 hc
          refine ow_aload_n (pc' := 157) (x := 46) dX6_readClause_156 rfl rfl ?_
          refine ow_callVv (z := mX6_readRoad) (n := 0) (k := 6) (vs := []) (x := 46) (st := []) (pc' := 160) (b1 := (0, 0)) (b2 := (0, 0)) dX6_readClause_157 lRX6_90 kX6_readRoad iX6_readRoad rfl rfl rfl rfl rfl rfl (of_eq_true eo46) (ow_Sp.mono h (fun r3 N3 h => ?_))
          refine ow_sub (lv' := [(0, (3, 46))]) [0] rfl ?_
          exact h
        · have h := h.2 hc
          refine ow_aload_n (pc' := 150) (x := 46) dX6_readClause_149 rfl rfl ?_
          refine ow_callVv (z := mX6_readEntry) (n := 0) (k := 6) (vs := []) (x := 46) (st := []) (pc' := 153) (b1 := (0, 0)) (b2 := (0, 0)) dX6_readClause_150 lRX6_87 kX6_readEntry iX6_readEntry rfl rfl rfl rfl rfl rfl (of_eq_true eo46) (ow_Sp.mono h (fun r4 N4 h => ?_))
          refine ow_goto (tg := 160) dX6_readClause_153 rfl ?_
          refine ow_sub (lv' := [(0, (3, 46))]) [0] rfl ?_
          exact h
      · have h := h.2 hc
        refine ow_aload_n (pc' := 139) (x := 46) dX6_readClause_138 rfl rfl ?_
        refine ow_callVv (z := mX6_readWeight) (n := 0) (k := 6) (vs := []) (x := 46) (st := []) (pc' := 142) (b1 := (0, 0)) (b2 := (0, 0)) dX6_readClause_139 lRX6_84 kX6_readWeight iX6_readWeight rfl rfl rfl rfl rfl rfl (of_eq_true eo46) (ow_Sp.mono h (fun r5 N5 h => ?_))
        refine ow_goto (tg := 160) dX6_readClause_142 rfl ?_
        refine ow_sub (lv' := [(0, (3, 46))]) [0] rfl ?_
        exact h
    · have h := h.2 hc
      refine ow_aload_n (pc' := 128) (x := 46) dX6_readClause_127 rfl rfl ?_
      refine ow_callVv (z := mX6_readMay) (n := 0) (k := 6) (vs := []) (x := 46) (st := []) (pc' := 131) (b1 := (0, 0)) (b2 := (0, 0)) dX6_readClause_128 lRX6_81 kX6_readMay iX6_readMay rfl rfl rfl rfl rfl rfl (of_eq_true eo46) (ow_Sp.mono h (fun r6 N6 h => ?_))
      refine ow_goto (tg := 160) dX6_readClause_131 rfl ?_
      refine ow_sub (lv' := [(0, (3, 46))]) [0] rfl ?_
      exact h
  · have h := h.2 hc
    refine ow_aload_n (pc' := 96) (x := 46) dX6_readClause_95 rfl rfl ?_
    refine ow_iconst (pc' := 97) (n := 5) dX6_readClause_96 rfl rfl ?_
    refine ow_callVv (z := mX6_fail) (n := 1) (k := 6) (vs := [(0, 5)]) (x := 46) (st := []) (pc' := 100) (b1 := (0, 0)) (b2 := (0, 0)) dX6_readClause_97 lRX6_66 kX6_fail iX6_fail rfl rfl rfl rfl rfl rfl (of_eq_true eo46) (ow_Sp.mono h (fun r7 N7 h => ?_))
    refine ow_goto (tg := 178) dX6_readClause_100 rfl ?_
    exact ow_vret dX6_readClause_178 rfl rfl h
set_option maxRecDepth 20000 in
theorem cX6_readClause_160 {C : ow_C} {A L N : Int} {d : Nat} {M : ow_M} {K : Int → ow_M → Prop} (h : ow_Sp C (EM A L N) d mX6_kind (0, 0) [(3, 46)] M (fun r1 N1 => (r1 ≠ 59 → ow_At C (EM A L N) (d + 1) mX6_readClause 175 [] [(0, 0), (3, 46)] (0, 0) N1 K) ∧ (r1 = 59 → ow_At C (EM A L N) (d + 1) mX6_readClause 175 [] [(0, 1), (3, 46)] (0, 0) N1 K))) : ow_At C (EM A L N) (d + 1) mX6_readClause 160 [(0, (3, 46))] [] (0, 0) M K := by
  refine ow_aload_n (pc' := 161) (x := 46) dX6_readClause_160 rfl rfl ?_
  refine ow_aload_n (pc' := 162) (x := 46) dX6_readClause_161 rfl rfl ?_
  refine ow_callVp (z := mX6_kind) (n := 0) (k := 6) (vs := []) (x := 46) (st := [(3, 46)]) (pc' := 165) (b1 := (0, 0)) (b2 := (0, 0)) dX6_readClause_162 lRX6_47 kX6_kind iX6_kind rfl rfl rfl rfl rfl rfl (of_eq_true eo46) (ow_Sp.mono h (fun r1 N1 h => ?_))
  refine ow_bipush (pc' := 167) (n := 59) dX6_readClause_165 rfl rfl ?_
  refine ow_icmpne (pc' := 170) (tg := 174) dX6_readClause_167 rfl rfl (fun hc => ?_) (fun hc => ?_)
  · have h := h.1 hc
    refine ow_iconst (pc' := 175) (n := 0) dX6_readClause_174 rfl rfl ?_
    refine ow_sub (lv' := []) [] rfl ?_
    exact h
  · have h := h.2 hc
    refine ow_iconst (pc' := 171) (n := 1) dX6_readClause_170 rfl rfl ?_
    refine ow_goto (tg := 175) dX6_readClause_171 rfl ?_
    refine ow_sub (lv' := []) [] rfl ?_
    exact h
set_option maxRecDepth 20000 in
theorem cX6_readClause_175 {C : ow_C} {A L N : Int} {d : Nat} {M : ow_M} {K : Int → ow_M → Prop} {s0 : Int} (h : ow_Sp C (EM A L N) d mX6_pass (0, 0) [(3, 46), (0, s0)] M (fun r1 N1 => K 0 N1)) : ow_At C (EM A L N) (d + 1) mX6_readClause 175 [] [(0, s0), (3, 46)] (0, 0) M K := by
  refine ow_callVv (z := mX6_pass) (n := 1) (k := 6) (vs := [(0, s0)]) (x := 46) (st := []) (pc' := 178) (b1 := (0, 0)) (b2 := (0, 0)) dX6_readClause_175 lRX6_93 kX6_pass iX6_pass rfl rfl rfl rfl rfl rfl (of_eq_true eo46) (ow_Sp.mono h (fun r1 N1 h => ?_))
  exact ow_vret dX6_readClause_178 rfl rfl h
theorem fX6_readClause {C : ow_C} {A L N : Int} {d : Nat} {M : ow_M} {K : Int → ow_M → Prop} (h : ow_Sp C (EM A L N) d mX6_isName (0, 0) [(3, 46), (0, 6)] M (fun r1 N1 => ow_Sp C (EM A L N) d mX6_isName (0, 0) [(3, 46), (0, 7)] N1 (fun r2 N2 => ow_Sp C (EM A L N) d mX6_isName (0, 0) [(3, 46), (0, 8)] N2 (fun r3 N3 => (r1 ≠ 0 → ow_At C (EM A L N) (d + 1) mX6_readClause 50 [(0, (3, 46)), (1, (0, r1)), (2, (0, r2)), (3, (0, r3))] [] (0, 0) N3 K) ∧ (r1 = 0 → (r2 ≠ 0 → ow_At C (EM A L N) (d + 1) mX6_readClause 50 [(0, (3, 46)), (1, (0, r1)), (2, (0, r2)), (3, (0, r3))] [] (0, 0) N3 K) ∧ (r2 = 0 → (r3 ≠ 0 → ow_At C (EM A L N) (d + 1) mX6_readClause 50 [(0, (3, 46)), (1, (0, r1)), (2, (0, r2)), (3, (0, r3))] [] (0, 0) N3 K) ∧ (r3 = 0 → ow_Sp C (EM A L N) d mX6_isName (0, 0) [(3, 46), (0, 9)] N3 (fun r4 N4 => (r4 ≠ 0 → ow_At C (EM A L N) (d + 1) mX6_readClause 50 [(0, (3, 46)), (1, (0, r1)), (2, (0, r2)), (3, (0, r3))] [] (0, 0) N4 K) ∧ (r4 = 0 → ow_Sp C (EM A L N) d mX6_fail (0, 0) [(3, 46), (0, 1)] N4 (fun r5 N5 => K 0 N5)))))))))) : ow_Sp C (EM A L N) (d + 1) mX6_readClause (0, 0) [(3, 46)] M K := ow_enter (by decide +kernel) rfl rfl (cX6_readClause_0 h)
set_option maxRecDepth 20000 in
theorem cX6_readWeight_0 {C : ow_C} {A L N : Int} {d : Nat} {M : ow_M} {K : Int → ow_M → Prop} (h : ow_O (EM A L N) M (M 46 1) 7 ∧ (EM A L N).1 (M 46 1) 6 = none ∧ ∀ N1, N1 = ow_up M (M 46 1) 6 1 → ow_O (EM A L N) N1 (N1 46 1) 7 ∧ ow_O (EM A L N) N1 (N1 46 1) 7 ∧ (EM A L N).1 (N1 46 1) 7 = none ∧ ∀ N2, N2 = ow_up N1 (N1 46 1) 7 (ow_gv (EM A L N) N1 (N1 46 1) 1) → ow_Sp C (EM A L N) d mX6_readSum (0, 0) [(3, 46), (0, 0)] N2 (fun r3 N3 => ow_O (EM A L N) N3 (N3 46 1) 7 ∧ ow_O (EM A L N) N3 (N3 46 1) 7 ∧ (EM A L N).1 (N3 46 1) 8 = none ∧ ∀ N4, N4 = ow_up N3 (N3 46 1) 8 (ow_gv (EM A L N) N3 (N3 46 1) 1) → K 0 N4)) : ow_At C (EM A L N) (d + 1) mX6_readWeight 0 [(0, (3, 46))] [] (0, 0) M K := by
  refine ow_aload_n (pc' := 1) (x := 46) dX6_readWeight_0 rfl rfl ?_
  refine ow_getf3 (pc' := 4) (t := 3) (ji := 1) (val := M 46 1) dX6_readWeight_1 fRX6_12 rfl rfl rfl (of_eq_true eo46) eg46_1 ?_
  refine ow_iconst (pc' := 5) (n := 1) dX6_readWeight_4 rfl rfl ?_
  obtain ⟨w, w1, h⟩ := h
  have w2 : (1 : Int) = 0 ∨ (1 : Int) = 1 := by decide
  refine ow_putf2 (pc' := 8) (t := 0) (ji := 6) dX6_readWeight_5 fRX6_78 rfl rfl rfl rfl w w1 (fun _ => w2) (fun N1 eN1 => ?_)
  have h := h N1 eN1
  refine ow_aload_n (pc' := 9) (x := 46) dX6_readWeight_8 rfl rfl ?_
  refine ow_getf3 (pc' := 12) (t := 3) (ji := 1) (val := N1 46 1) dX6_readWeight_9 fRX6_12 rfl rfl rfl (of_eq_true eo46) eg46_1 ?_
  refine ow_aload_n (pc' := 13) (x := 46) dX6_readWeight_12 rfl rfl ?_
  refine ow_getf3 (pc' := 16) (t := 3) (ji := 1) (val := N1 46 1) dX6_readWeight_13 fRX6_12 rfl rfl rfl (of_eq_true eo46) eg46_1 ?_
  obtain ⟨w, h⟩ := h
  refine ow_getf2 (pc' := 19) (t := 0) (ji := 1) dX6_readWeight_16 fRX6_97 rfl rfl rfl w ?_
  obtain ⟨w, w1, h⟩ := h
  refine ow_putf2 (pc' := 22) (t := 0) (ji := 7) dX6_readWeight_19 fRX6_100 rfl rfl rfl rfl w w1 (fun hz => absurd hz (by decide)) (fun N2 eN2 => ?_)
  have h := h N2 eN2
  refine ow_aload_n (pc' := 23) (x := 46) dX6_readWeight_22 rfl rfl ?_
  refine ow_iconst (pc' := 24) (n := 0) dX6_readWeight_23 rfl rfl ?_
  refine ow_callVv (z := mX6_readSum) (n := 1) (k := 6) (vs := [(0, 0)]) (x := 46) (st := []) (pc' := 27) (b1 := (0, 0)) (b2 := (0, 0)) dX6_readWeight_24 lRX6_103 kX6_readSum iX6_readSum rfl rfl rfl rfl rfl rfl (of_eq_true eo46) (ow_Sp.mono h (fun r3 N3 h => ?_))
  refine ow_aload_n (pc' := 28) (x := 46) dX6_readWeight_27 rfl rfl ?_
  refine ow_getf3 (pc' := 31) (t := 3) (ji := 1) (val := N3 46 1) dX6_readWeight_28 fRX6_12 rfl rfl rfl (of_eq_true eo46) eg46_1 ?_
  refine ow_aload_n (pc' := 32) (x := 46) dX6_readWeight_31 rfl rfl ?_
  refine ow_getf3 (pc' := 35) (t := 3) (ji := 1) (val := N3 46 1) dX6_readWeight_32 fRX6_12 rfl rfl rfl (of_eq_true eo46) eg46_1 ?_
  obtain ⟨w, h⟩ := h
  refine ow_getf2 (pc' := 38) (t := 0) (ji := 1) dX6_readWeight_35 fRX6_97 rfl rfl rfl w ?_
  obtain ⟨w, w1, h⟩ := h
  refine ow_putf2 (pc' := 41) (t := 0) (ji := 8) dX6_readWeight_38 fRX6_106 rfl rfl rfl rfl w w1 (fun hz => absurd hz (by decide)) (fun N4 eN4 => ?_)
  have h := h N4 eN4
  exact ow_vret dX6_readWeight_41 rfl rfl h
theorem fX6_readWeight {C : ow_C} {A L N : Int} {d : Nat} {M : ow_M} {K : Int → ow_M → Prop} (h : ow_O (EM A L N) M (M 46 1) 7 ∧ (EM A L N).1 (M 46 1) 6 = none ∧ ∀ N1, N1 = ow_up M (M 46 1) 6 1 → ow_O (EM A L N) N1 (N1 46 1) 7 ∧ ow_O (EM A L N) N1 (N1 46 1) 7 ∧ (EM A L N).1 (N1 46 1) 7 = none ∧ ∀ N2, N2 = ow_up N1 (N1 46 1) 7 (ow_gv (EM A L N) N1 (N1 46 1) 1) → ow_Sp C (EM A L N) d mX6_readSum (0, 0) [(3, 46), (0, 0)] N2 (fun r3 N3 => ow_O (EM A L N) N3 (N3 46 1) 7 ∧ ow_O (EM A L N) N3 (N3 46 1) 7 ∧ (EM A L N).1 (N3 46 1) 8 = none ∧ ∀ N4, N4 = ow_up N3 (N3 46 1) 8 (ow_gv (EM A L N) N3 (N3 46 1) 1) → K 0 N4)) : ow_Sp C (EM A L N) (d + 1) mX6_readWeight (0, 0) [(3, 46)] M K := ow_enter (by decide +kernel) rfl rfl (cX6_readWeight_0 h)
set_option maxRecDepth 20000 in
theorem cX6_readEntry_0 {C : ow_C} {A L N : Int} {d : Nat} {M : ow_M} {K : Int → ow_M → Prop} (h : ow_Sp C (EM A L N) d mX6_readWord (0, 0) [(3, 46)] M (fun r1 N1 => ow_Sp C (EM A L N) d mX6_readNumber (0, 0) [(3, 46), (0, 1), (0, 9)] N1 (fun r2 N2 => ((N2 46 4) ≠ 0 → K 0 N2) ∧ ((N2 46 4) = 0 → ow_O (EM A L N) N2 (N2 46 1) 7 ∧ ow_Sp C (EM A L N) d mX7_addEntry (0, 0) [(3, N2 46 1), (0, r1), (0, r2)] N2 (fun r3 N3 => K 0 N3))))) : ow_At C (EM A L N) (d + 1) mX6_readEntry 0 [(0, (3, 46))] [] (0, 0) M K := by
  refine ow_aload_n (pc' := 1) (x := 46) dX6_readEntry_0 rfl rfl ?_
  refine ow_callVp (z := mX6_readWord) (n := 0) (k := 6) (vs := []) (x := 46) (st := []) (pc' := 4) (b1 := (0, 0)) (b2 := (0, 0)) dX6_readEntry_1 lRX6_109 kX6_readWord iX6_readWord rfl rfl rfl rfl rfl rfl (of_eq_true eo46) (ow_Sp.mono h (fun r1 N1 h => ?_))
  refine ow_istore_n (pc' := 5) (lv' := [(0, (3, 46)), (1, (0, r1))]) dX6_readEntry_4 rfl rfl rfl ?_
  refine ow_aload_n (pc' := 6) (x := 46) dX6_readEntry_5 rfl rfl ?_
  refine ow_iconst (pc' := 7) (n := 1) dX6_readEntry_6 rfl rfl ?_
  refine ow_bipush (pc' := 9) (n := 9) dX6_readEntry_7 rfl rfl ?_
  refine ow_callVp (z := mX6_readNumber) (n := 2) (k := 6) (vs := [(0, 1), (0, 9)]) (x := 46) (st := []) (pc' := 12) (b1 := (0, 0)) (b2 := (0, 0)) dX6_readEntry_9 lRX6_112 kX6_readNumber iX6_readNumber rfl rfl rfl rfl rfl rfl (of_eq_true eo46) (ow_Sp.mono h (fun r2 N2 h => ?_))
  refine ow_istore_n (pc' := 13) (lv' := [(0, (3, 46)), (1, (0, r1)), (2, (0, r2))]) dX6_readEntry_12 rfl rfl rfl ?_
  refine ow_aload_n (pc' := 14) (x := 46) dX6_readEntry_13 rfl rfl ?_
  refine ow_getf3 (pc' := 17) (t := 0) (ji := 4) (val := N2 46 4) dX6_readEntry_14 fRX6_25 rfl rfl rfl (of_eq_true eo46) eg46_4 ?_
  refine ow_ifne (pc' := 20) (tg := 29) dX6_readEntry_17 rfl rfl (fun hc => ?_) (fun hc => ?_)
  · have h := h.1 hc
    exact ow_vret dX6_readEntry_29 rfl rfl h
  · have h := h.2 hc
    refine ow_aload_n (pc' := 21) (x := 46) dX6_readEntry_20 rfl rfl ?_
    refine ow_getf3 (pc' := 24) (t := 3) (ji := 1) (val := N2 46 1) dX6_readEntry_21 fRX6_12 rfl rfl rfl (of_eq_true eo46) eg46_1 ?_
    refine ow_iload_n (pc' := 25) (x := r1) dX6_readEntry_24 rfl rfl ?_
    refine ow_iload_n (pc' := 26) (x := r2) dX6_readEntry_25 rfl rfl ?_
    obtain ⟨w, h⟩ := h
    refine ow_callVv (z := mX7_addEntry) (n := 2) (k := 7) (vs := [(0, r1), (0, r2)]) (x := N2 46 1) (st := []) (pc' := 29) (b1 := (0, 0)) (b2 := (0, 0)) dX6_readEntry_26 lRX6_116 kX7_addEntry iX7_addEntry rfl rfl rfl rfl rfl rfl w (ow_Sp.mono h (fun r3 N3 h => ?_))
    exact ow_vret dX6_readEntry_29 rfl rfl h
theorem fX6_readEntry {C : ow_C} {A L N : Int} {d : Nat} {M : ow_M} {K : Int → ow_M → Prop} (h : ow_Sp C (EM A L N) d mX6_readWord (0, 0) [(3, 46)] M (fun r1 N1 => ow_Sp C (EM A L N) d mX6_readNumber (0, 0) [(3, 46), (0, 1), (0, 9)] N1 (fun r2 N2 => ((N2 46 4) ≠ 0 → K 0 N2) ∧ ((N2 46 4) = 0 → ow_O (EM A L N) N2 (N2 46 1) 7 ∧ ow_Sp C (EM A L N) d mX7_addEntry (0, 0) [(3, N2 46 1), (0, r1), (0, r2)] N2 (fun r3 N3 => K 0 N3))))) : ow_Sp C (EM A L N) (d + 1) mX6_readEntry (0, 0) [(3, 46)] M K := ow_enter (by decide +kernel) rfl rfl (cX6_readEntry_0 h)
set_option maxRecDepth 20000 in
theorem cX6_readRoad_0 {C : ow_C} {A L N : Int} {d : Nat} {M : ow_M} {K : Int → ow_M → Prop} (h : ow_Sp C (EM A L N) d mX6_readNumber (0, 0) [(3, 46), (0, 0), (0, 8)] M (fun r1 N1 => ow_Sp C (EM A L N) d mX6_isName (0, 0) [(3, 46), (0, 10)] N1 (fun r2 N2 => ow_Sp C (EM A L N) d mX6_pass (0, 0) [(3, 46), (0, r2)] N2 (fun r3 N3 => ow_Sp C (EM A L N) d mX6_readNumber (0, 0) [(3, 46), (0, r1), (0, 8)] N3 (fun r4 N4 => ((N4 46 4) ≠ 0 → K 0 N4) ∧ ((N4 46 4) = 0 → ow_O (EM A L N) N4 (N4 46 1) 7 ∧ ow_Sp C (EM A L N) d mX7_addRoad (0, 0) [(3, N4 46 1), (0, r1), (0, r4)] N4 (fun r5 N5 => K 0 N5))))))) : ow_At C (EM A L N) (d + 1) mX6_readRoad 0 [(0, (3, 46))] [] (0, 0) M K := by
  refine ow_aload_n (pc' := 1) (x := 46) dX6_readRoad_0 rfl rfl ?_
  refine ow_iconst (pc' := 2) (n := 0) dX6_readRoad_1 rfl rfl ?_
  refine ow_bipush (pc' := 4) (n := 8) dX6_readRoad_2 rfl rfl ?_
  refine ow_callVp (z := mX6_readNumber) (n := 2) (k := 6) (vs := [(0, 0), (0, 8)]) (x := 46) (st := []) (pc' := 7) (b1 := (0, 0)) (b2 := (0, 0)) dX6_readRoad_4 lRX6_112 kX6_readNumber iX6_readNumber rfl rfl rfl rfl rfl rfl (of_eq_true eo46) (ow_Sp.mono h (fun r1 N1 h => ?_))
  refine ow_istore_n (pc' := 8) (lv' := [(0, (3, 46)), (1, (0, r1))]) dX6_readRoad_7 rfl rfl rfl ?_
  refine ow_aload_n (pc' := 9) (x := 46) dX6_readRoad_8 rfl rfl ?_
  refine ow_aload_n (pc' := 10) (x := 46) dX6_readRoad_9 rfl rfl ?_
  refine ow_bipush (pc' := 12) (n := 10) dX6_readRoad_10 rfl rfl ?_
  refine ow_callVp (z := mX6_isName) (n := 1) (k := 6) (vs := [(0, 10)]) (x := 46) (st := [(3, 46)]) (pc' := 15) (b1 := (0, 0)) (b2 := (0, 0)) dX6_readRoad_12 lRX6_70 kX6_isName iX6_isName rfl rfl rfl rfl rfl rfl (of_eq_true eo46) (ow_Sp.mono h (fun r2 N2 h => ?_))
  refine ow_callVv (z := mX6_pass) (n := 1) (k := 6) (vs := [(0, r2)]) (x := 46) (st := []) (pc' := 18) (b1 := (0, 0)) (b2 := (0, 0)) dX6_readRoad_15 lRX6_93 kX6_pass iX6_pass rfl rfl rfl rfl rfl rfl (of_eq_true eo46) (ow_Sp.mono h (fun r3 N3 h => ?_))
  refine ow_aload_n (pc' := 19) (x := 46) dX6_readRoad_18 rfl rfl ?_
  refine ow_iload_n (pc' := 20) (x := r1) dX6_readRoad_19 rfl rfl ?_
  refine ow_bipush (pc' := 22) (n := 8) dX6_readRoad_20 rfl rfl ?_
  refine ow_callVp (z := mX6_readNumber) (n := 2) (k := 6) (vs := [(0, r1), (0, 8)]) (x := 46) (st := []) (pc' := 25) (b1 := (0, 0)) (b2 := (0, 0)) dX6_readRoad_22 lRX6_112 kX6_readNumber iX6_readNumber rfl rfl rfl rfl rfl rfl (of_eq_true eo46) (ow_Sp.mono h (fun r4 N4 h => ?_))
  refine ow_istore_n (pc' := 26) (lv' := [(0, (3, 46)), (1, (0, r1)), (2, (0, r4))]) dX6_readRoad_25 rfl rfl rfl ?_
  refine ow_aload_n (pc' := 27) (x := 46) dX6_readRoad_26 rfl rfl ?_
  refine ow_getf3 (pc' := 30) (t := 0) (ji := 4) (val := N4 46 4) dX6_readRoad_27 fRX6_25 rfl rfl rfl (of_eq_true eo46) eg46_4 ?_
  refine ow_ifne (pc' := 33) (tg := 42) dX6_readRoad_30 rfl rfl (fun hc => ?_) (fun hc => ?_)
  · have h := h.1 hc
    exact ow_vret dX6_readRoad_42 rfl rfl h
  · have h := h.2 hc
    refine ow_aload_n (pc' := 34) (x := 46) dX6_readRoad_33 rfl rfl ?_
    refine ow_getf3 (pc' := 37) (t := 3) (ji := 1) (val := N4 46 1) dX6_readRoad_34 fRX6_12 rfl rfl rfl (of_eq_true eo46) eg46_1 ?_
    refine ow_iload_n (pc' := 38) (x := r1) dX6_readRoad_37 rfl rfl ?_
    refine ow_iload_n (pc' := 39) (x := r4) dX6_readRoad_38 rfl rfl ?_
    obtain ⟨w, h⟩ := h
    refine ow_callVv (z := mX7_addRoad) (n := 2) (k := 7) (vs := [(0, r1), (0, r4)]) (x := N4 46 1) (st := []) (pc' := 42) (b1 := (0, 0)) (b2 := (0, 0)) dX6_readRoad_39 lRX6_120 kX7_addRoad iX7_addRoad rfl rfl rfl rfl rfl rfl w (ow_Sp.mono h (fun r5 N5 h => ?_))
    exact ow_vret dX6_readRoad_42 rfl rfl h
theorem fX6_readRoad {C : ow_C} {A L N : Int} {d : Nat} {M : ow_M} {K : Int → ow_M → Prop} (h : ow_Sp C (EM A L N) d mX6_readNumber (0, 0) [(3, 46), (0, 0), (0, 8)] M (fun r1 N1 => ow_Sp C (EM A L N) d mX6_isName (0, 0) [(3, 46), (0, 10)] N1 (fun r2 N2 => ow_Sp C (EM A L N) d mX6_pass (0, 0) [(3, 46), (0, r2)] N2 (fun r3 N3 => ow_Sp C (EM A L N) d mX6_readNumber (0, 0) [(3, 46), (0, r1), (0, 8)] N3 (fun r4 N4 => ((N4 46 4) ≠ 0 → K 0 N4) ∧ ((N4 46 4) = 0 → ow_O (EM A L N) N4 (N4 46 1) 7 ∧ ow_Sp C (EM A L N) d mX7_addRoad (0, 0) [(3, N4 46 1), (0, r1), (0, r4)] N4 (fun r5 N5 => K 0 N5))))))) : ow_Sp C (EM A L N) (d + 1) mX6_readRoad (0, 0) [(3, 46)] M K := ow_enter (by decide +kernel) rfl rfl (cX6_readRoad_0 h)
set_option maxRecDepth 20000 in
theorem cX6_readWord_0 {C : ow_C} {A L N : Int} {d : Nat} {M : ow_M} {K : Int → ow_M → Prop} (h : ow_Sp C (EM A L N) d mX6_kind (0, 0) [(3, 46)] M (fun r1 N1 => (r1 ≠ 1 → ow_At C (EM A L N) (d + 1) mX6_readWord 24 [(0, (3, 46))] [(0, (-1))] (0, 0) N1 K) ∧ (r1 = 1 → (0 ≤ (N1 46 2) ∧ (N1 46 2) < 301) ∧ ow_At C (EM A L N) (d + 1) mX6_readWord 24 [(0, (3, 46))] [(0, N1 57 (N1 46 2))] (0, 0) N1 K))) : ow_At C (EM A L N) (d + 1) mX6_readWord 0 [(0, (3, 46))] [] (0, 0) M K := by
  refine ow_aload_n (pc' := 1) (x := 46) dX6_readWord_0 rfl rfl ?_
  refine ow_callVp (z := mX6_kind) (n := 0) (k := 6) (vs := []) (x := 46) (st := []) (pc' := 4) (b1 := (0, 0)) (b2 := (0, 0)) dX6_readWord_1 lRX6_47 kX6_kind iX6_kind rfl rfl rfl rfl rfl rfl (of_eq_true eo46) (ow_Sp.mono h (fun r1 N1 h => ?_))
  refine ow_iconst (pc' := 5) (n := 1) dX6_readWord_4 rfl rfl ?_
  refine ow_icmpne (pc' := 8) (tg := 23) dX6_readWord_5 rfl rfl (fun hc => ?_) (fun hc => ?_)
  · have h := h.1 hc
    refine ow_iconst (pc' := 24) (n := (-1)) dX6_readWord_23 rfl rfl ?_
    exact h
  · have h := h.2 hc
    refine ow_aload_n (pc' := 9) (x := 46) dX6_readWord_8 rfl rfl ?_
    refine ow_getf3 (pc' := 12) (t := 3) (ji := 0) (val := 53) dX6_readWord_9 fRX6_36 rfl rfl rfl (of_eq_true eo46) eg46_0 ?_
    refine ow_getf3 (pc' := 15) (t := 3) (ji := 4) (val := 57) dX6_readWord_12 fRX6_123 rfl rfl rfl (of_eq_true eo53) eg53_4 ?_
    refine ow_aload_n (pc' := 16) (x := 46) dX6_readWord_15 rfl rfl ?_
    refine ow_getf3 (pc' := 19) (t := 0) (ji := 2) (val := N1 46 2) dX6_readWord_16 fRX6_18 rfl rfl rfl (of_eq_true eo46) eg46_2 ?_
    obtain ⟨vv1, h⟩ := h
    refine ow_iaload3 (pc' := 20) (val := N1 57 (N1 46 2)) dX6_readWord_19 rfl (Eq.mpr (er57 _) vv1) (ea57 _) ?_
    refine ow_goto (tg := 24) dX6_readWord_20 rfl ?_
    exact h
set_option maxRecDepth 20000 in
theorem cX6_readWord_24 {C : ow_C} {A L N : Int} {d : Nat} {M : ow_M} {K : Int → ow_M → Prop} {s0 : Int} (h : ow_Sp C (EM A L N) d mX6_kind (0, 0) [(3, 46)] M (fun r1 N1 => (r1 = 1 → (s0 ≠ ((-1)) → ow_I ((N1 46 2) + 1) ∧ ∀ N2, N2 = ow_up N1 46 2 ((N1 46 2) + 1) → K s0 N2) ∧ (s0 = ((-1)) → ow_Sp C (EM A L N) d mX6_fail (0, 0) [(3, 46), (0, 2)] N1 (fun r3 N3 => K s0 N3))) ∧ (r1 ≠ 1 → ow_Sp C (EM A L N) d mX6_fail (0, 0) [(3, 46), (0, 1)] N1 (fun r4 N4 => K s0 N4)))) : ow_At C (EM A L N) (d + 1) mX6_readWord 24 [(0, (3, 46))] [(0, s0)] (0, 0) M K := by
  refine ow_istore_n (pc' := 25) (lv' := [(0, (3, 46)), (1, (0, s0))]) dX6_readWord_24 rfl rfl rfl ?_
  refine ow_aload_n (pc' := 26) (x := 46) dX6_readWord_25 rfl rfl ?_
  refine ow_callVp (z := mX6_kind) (n := 0) (k := 6) (vs := []) (x := 46) (st := []) (pc' := 29) (b1 := (0, 0)) (b2 := (0, 0)) dX6_readWord_26 lRX6_47 kX6_kind iX6_kind rfl rfl rfl rfl rfl rfl (of_eq_true eo46) (ow_Sp.mono h (fun r1 N1 h => ?_))
  refine ow_iconst (pc' := 30) (n := 1) dX6_readWord_29 rfl rfl ?_
  refine ow_icmpeq (pc' := 33) (tg := 41) dX6_readWord_30 rfl rfl (fun hc => ?_) (fun hc => ?_)
  · have h := h.1 hc
    refine ow_iload_n (pc' := 42) (x := s0) dX6_readWord_41 rfl rfl ?_
    refine ow_iconst (pc' := 43) (n := (-1)) dX6_readWord_42 rfl rfl ?_
    refine ow_icmpne (pc' := 46) (tg := 54) dX6_readWord_43 rfl rfl (fun hc => ?_) (fun hc => ?_)
    · have h := h.1 hc
      refine ow_aload_n (pc' := 55) (x := 46) dX6_readWord_54 rfl rfl ?_
      refine ow_dup (pc' := 56) dX6_readWord_55 rfl rfl ?_
      refine ow_getf3 (pc' := 59) (t := 0) (ji := 2) (val := N1 46 2) dX6_readWord_56 fRX6_18 rfl rfl rfl (of_eq_true eo46) eg46_2 ?_
      refine ow_iconst (pc' := 60) (n := 1) dX6_readWord_59 rfl rfl ?_
      obtain ⟨vv1, h⟩ := h
      refine ow_iadd (pc' := 61) dX6_readWord_60 vv1 rfl ?_
      refine ow_putf2 (pc' := 64) (t := 0) (ji := 2) dX6_readWord_61 fRX6_18 rfl rfl rfl rfl (of_eq_true eo46) (of_eq_true en46_2) (fun hz => absurd hz (by decide)) (fun N2 eN2 => ?_)
      have h := h N2 eN2
      refine ow_iload_n (pc' := 65) (x := s0) dX6_readWord_64 rfl rfl ?_
      exact ow_iret dX6_readWord_65 rfl rfl h
    · have h := h.2 hc
      refine ow_aload_n (pc' := 47) (x := 46) dX6_readWord_46 rfl rfl ?_
      refine ow_iconst (pc' := 48) (n := 2) dX6_readWord_47 rfl rfl ?_
      refine ow_callVv (z := mX6_fail) (n := 1) (k := 6) (vs := [(0, 2)]) (x := 46) (st := []) (pc' := 51) (b1 := (0, 0)) (b2 := (0, 0)) dX6_readWord_48 lRX6_66 kX6_fail iX6_fail rfl rfl rfl rfl rfl rfl (of_eq_true eo46) (ow_Sp.mono h (fun r3 N3 h => ?_))
      refine ow_goto (tg := 64) dX6_readWord_51 rfl ?_
      refine ow_iload_n (pc' := 65) (x := s0) dX6_readWord_64 rfl rfl ?_
      exact ow_iret dX6_readWord_65 rfl rfl h
  · have h := h.2 hc
    refine ow_aload_n (pc' := 34) (x := 46) dX6_readWord_33 rfl rfl ?_
    refine ow_iconst (pc' := 35) (n := 1) dX6_readWord_34 rfl rfl ?_
    refine ow_callVv (z := mX6_fail) (n := 1) (k := 6) (vs := [(0, 1)]) (x := 46) (st := []) (pc' := 38) (b1 := (0, 0)) (b2 := (0, 0)) dX6_readWord_35 lRX6_66 kX6_fail iX6_fail rfl rfl rfl rfl rfl rfl (of_eq_true eo46) (ow_Sp.mono h (fun r4 N4 h => ?_))
    refine ow_goto (tg := 64) dX6_readWord_38 rfl ?_
    refine ow_iload_n (pc' := 65) (x := s0) dX6_readWord_64 rfl rfl ?_
    exact ow_iret dX6_readWord_65 rfl rfl h
theorem fX6_readWord {C : ow_C} {A L N : Int} {d : Nat} {M : ow_M} {K : Int → ow_M → Prop} (h : ow_Sp C (EM A L N) d mX6_kind (0, 0) [(3, 46)] M (fun r1 N1 => (r1 ≠ 1 → ow_At C (EM A L N) (d + 1) mX6_readWord 24 [(0, (3, 46))] [(0, (-1))] (0, 0) N1 K) ∧ (r1 = 1 → (0 ≤ (N1 46 2) ∧ (N1 46 2) < 301) ∧ ow_At C (EM A L N) (d + 1) mX6_readWord 24 [(0, (3, 46))] [(0, N1 57 (N1 46 2))] (0, 0) N1 K))) : ow_Sp C (EM A L N) (d + 1) mX6_readWord (0, 0) [(3, 46)] M K := ow_enter (by decide +kernel) rfl rfl (cX6_readWord_0 h)
set_option maxRecDepth 20000 in
theorem cX6_readNumber_0 {C : ow_C} {A L N : Int} {d : Nat} {M : ow_M} {K : Int → ow_M → Prop} {l1 l2 : Int} (h : ow_Sp C (EM A L N) d mX6_kind (0, 0) [(3, 46)] M (fun r1 N1 => (r1 ≠ 2 → ow_At C (EM A L N) (d + 1) mX6_readNumber 24 [(0, (3, 46)), (1, (0, l1)), (2, (0, l2))] [(0, (-1))] (0, 0) N1 K) ∧ (r1 = 2 → (0 ≤ (N1 46 2) ∧ (N1 46 2) < 301) ∧ ow_At C (EM A L N) (d + 1) mX6_readNumber 24 [(0, (3, 46)), (1, (0, l1)), (2, (0, l2))] [(0, N1 57 (N1 46 2))] (0, 0) N1 K))) : ow_At C (EM A L N) (d + 1) mX6_readNumber 0 [(0, (3, 46)), (1, (0, l1)), (2, (0, l2))] [] (0, 0) M K := by
  refine ow_aload_n (pc' := 1) (x := 46) dX6_readNumber_0 rfl rfl ?_
  refine ow_callVp (z := mX6_kind) (n := 0) (k := 6) (vs := []) (x := 46) (st := []) (pc' := 4) (b1 := (0, 0)) (b2 := (0, 0)) dX6_readNumber_1 lRX6_47 kX6_kind iX6_kind rfl rfl rfl rfl rfl rfl (of_eq_true eo46) (ow_Sp.mono h (fun r1 N1 h => ?_))
  refine ow_iconst (pc' := 5) (n := 2) dX6_readNumber_4 rfl rfl ?_
  refine ow_icmpne (pc' := 8) (tg := 23) dX6_readNumber_5 rfl rfl (fun hc => ?_) (fun hc => ?_)
  · have h := h.1 hc
    refine ow_iconst (pc' := 24) (n := (-1)) dX6_readNumber_23 rfl rfl ?_
    exact h
  · have h := h.2 hc
    refine ow_aload_n (pc' := 9) (x := 46) dX6_readNumber_8 rfl rfl ?_
    refine ow_getf3 (pc' := 12) (t := 3) (ji := 0) (val := 53) dX6_readNumber_9 fRX6_36 rfl rfl rfl (of_eq_true eo46) eg46_0 ?_
    refine ow_getf3 (pc' := 15) (t := 3) (ji := 4) (val := 57) dX6_readNumber_12 fRX6_123 rfl rfl rfl (of_eq_true eo53) eg53_4 ?_
    refine ow_aload_n (pc' := 16) (x := 46) dX6_readNumber_15 rfl rfl ?_
    refine ow_getf3 (pc' := 19) (t := 0) (ji := 2) (val := N1 46 2) dX6_readNumber_16 fRX6_18 rfl rfl rfl (of_eq_true eo46) eg46_2 ?_
    obtain ⟨vv1, h⟩ := h
    refine ow_iaload3 (pc' := 20) (val := N1 57 (N1 46 2)) dX6_readNumber_19 rfl (Eq.mpr (er57 _) vv1) (ea57 _) ?_
    refine ow_goto (tg := 24) dX6_readNumber_20 rfl ?_
    exact h
set_option maxRecDepth 20000 in
theorem cX6_readNumber_24 {C : ow_C} {A L N : Int} {d : Nat} {M : ow_M} {K : Int → ow_M → Prop} {l1 l2 s0 : Int} (h : ow_Sp C (EM A L N) d mX6_kind (0, 0) [(3, 46)] M (fun r1 N1 => (r1 = 2 → (s0 < l1 → ow_At C (EM A L N) (d + 1) mX6_readNumber 51 [(0, (3, 46)), (3, (0, s0))] [] (0, 0) N1 K) ∧ (l1 ≤ s0 → (s0 ≤ l2 → ow_I ((N1 46 2) + 1) ∧ ∀ N2, N2 = ow_up N1 46 2 ((N1 46 2) + 1) → K s0 N2) ∧ (l2 < s0 → ow_At C (EM A L N) (d + 1) mX6_readNumber 51 [(0, (3, 46)), (3, (0, s0))] [] (0, 0) N1 K))) ∧ (r1 ≠ 2 → ow_Sp C (EM A L N) d mX6_fail (0, 0) [(3, 46), (0, 1)] N1 (fun r3 N3 => K s0 N3)))) : ow_At C (EM A L N) (d + 1) mX6_readNumber 24 [(0, (3, 46)), (1, (0, l1)), (2, (0, l2))] [(0, s0)] (0, 0) M K := by
  refine ow_istore_n (pc' := 25) (lv' := [(0, (3, 46)), (1, (0, l1)), (2, (0, l2)), (3, (0, s0))]) dX6_readNumber_24 rfl rfl rfl ?_
  refine ow_aload_n (pc' := 26) (x := 46) dX6_readNumber_25 rfl rfl ?_
  refine ow_callVp (z := mX6_kind) (n := 0) (k := 6) (vs := []) (x := 46) (st := []) (pc' := 29) (b1 := (0, 0)) (b2 := (0, 0)) dX6_readNumber_26 lRX6_47 kX6_kind iX6_kind rfl rfl rfl rfl rfl rfl (of_eq_true eo46) (ow_Sp.mono h (fun r1 N1 h => ?_))
  refine ow_iconst (pc' := 30) (n := 2) dX6_readNumber_29 rfl rfl ?_
  refine ow_icmpeq (pc' := 33) (tg := 41) dX6_readNumber_30 rfl rfl (fun hc => ?_) (fun hc => ?_)
  · have h := h.1 hc
    refine ow_iload_n (pc' := 42) (x := s0) dX6_readNumber_41 rfl rfl ?_
    refine ow_iload_n (pc' := 43) (x := l1) dX6_readNumber_42 rfl rfl ?_
    refine ow_icmplt (pc' := 46) (tg := 51) dX6_readNumber_43 rfl rfl (fun hc => ?_) (fun hc => ?_)
    · have h := h.1 hc
      refine ow_sub (lv' := [(0, (3, 46)), (3, (0, s0))]) [0, 3] rfl ?_
      exact h
    · have h := h.2 hc
      refine ow_iload_n (pc' := 47) (x := s0) dX6_readNumber_46 rfl rfl ?_
      refine ow_iload_n (pc' := 48) (x := l2) dX6_readNumber_47 rfl rfl ?_
      refine ow_icmple (pc' := 51) (tg := 59) dX6_readNumber_48 rfl rfl (fun hc => ?_) (fun hc => ?_)
      · have h := h.1 hc
        refine ow_aload_n (pc' := 60) (x := 46) dX6_readNumber_59 rfl rfl ?_
        refine ow_dup (pc' := 61) dX6_readNumber_60 rfl rfl ?_
        refine ow_getf3 (pc' := 64) (t := 0) (ji := 2) (val := N1 46 2) dX6_readNumber_61 fRX6_18 rfl rfl rfl (of_eq_true eo46) eg46_2 ?_
        refine ow_iconst (pc' := 65) (n := 1) dX6_readNumber_64 rfl rfl ?_
        obtain ⟨vv1, h⟩ := h
        refine ow_iadd (pc' := 66) dX6_readNumber_65 vv1 rfl ?_
        refine ow_putf2 (pc' := 69) (t := 0) (ji := 2) dX6_readNumber_66 fRX6_18 rfl rfl rfl rfl (of_eq_true eo46) (of_eq_true en46_2) (fun hz => absurd hz (by decide)) (fun N2 eN2 => ?_)
        have h := h N2 eN2
        refine ow_iload_n (pc' := 70) (x := s0) dX6_readNumber_69 rfl rfl ?_
        exact ow_iret dX6_readNumber_70 rfl rfl h
      · have h := h.2 hc
        refine ow_sub (lv' := [(0, (3, 46)), (3, (0, s0))]) [0, 3] rfl ?_
        exact h
  · have h := h.2 hc
    refine ow_aload_n (pc' := 34) (x := 46) dX6_readNumber_33 rfl rfl ?_
    refine ow_iconst (pc' := 35) (n := 1) dX6_readNumber_34 rfl rfl ?_
    refine ow_callVv (z := mX6_fail) (n := 1) (k := 6) (vs := [(0, 1)]) (x := 46) (st := []) (pc' := 38) (b1 := (0, 0)) (b2 := (0, 0)) dX6_readNumber_35 lRX6_66 kX6_fail iX6_fail rfl rfl rfl rfl rfl rfl (of_eq_true eo46) (ow_Sp.mono h (fun r3 N3 h => ?_))
    refine ow_goto (tg := 69) dX6_readNumber_38 rfl ?_
    refine ow_iload_n (pc' := 70) (x := s0) dX6_readNumber_69 rfl rfl ?_
    exact ow_iret dX6_readNumber_70 rfl rfl h
set_option maxRecDepth 20000 in
theorem cX6_readNumber_51 {C : ow_C} {A L N : Int} {d : Nat} {M : ow_M} {K : Int → ow_M → Prop} {l3 : Int} (h : ow_Sp C (EM A L N) d mX6_fail (0, 0) [(3, 46), (0, 2)] M (fun r1 N1 => K l3 N1)) : ow_At C (EM A L N) (d + 1) mX6_readNumber 51 [(0, (3, 46)), (3, (0, l3))] [] (0, 0) M K := by
  refine ow_aload_n (pc' := 52) (x := 46) dX6_readNumber_51 rfl rfl ?_
  refine ow_iconst (pc' := 53) (n := 2) dX6_readNumber_52 rfl rfl ?_
  refine ow_callVv (z := mX6_fail) (n := 1) (k := 6) (vs := [(0, 2)]) (x := 46) (st := []) (pc' := 56) (b1 := (0, 0)) (b2 := (0, 0)) dX6_readNumber_53 lRX6_66 kX6_fail iX6_fail rfl rfl rfl rfl rfl rfl (of_eq_true eo46) (ow_Sp.mono h (fun r1 N1 h => ?_))
  refine ow_goto (tg := 69) dX6_readNumber_56 rfl ?_
  refine ow_iload_n (pc' := 70) (x := l3) dX6_readNumber_69 rfl rfl ?_
  exact ow_iret dX6_readNumber_70 rfl rfl h
theorem fX6_readNumber {C : ow_C} {A L N : Int} {d : Nat} {M : ow_M} {K : Int → ow_M → Prop} {l1 l2 : Int} (h : ow_Sp C (EM A L N) d mX6_kind (0, 0) [(3, 46)] M (fun r1 N1 => (r1 ≠ 2 → ow_At C (EM A L N) (d + 1) mX6_readNumber 24 [(0, (3, 46)), (1, (0, l1)), (2, (0, l2))] [(0, (-1))] (0, 0) N1 K) ∧ (r1 = 2 → (0 ≤ (N1 46 2) ∧ (N1 46 2) < 301) ∧ ow_At C (EM A L N) (d + 1) mX6_readNumber 24 [(0, (3, 46)), (1, (0, l1)), (2, (0, l2))] [(0, N1 57 (N1 46 2))] (0, 0) N1 K))) : ow_Sp C (EM A L N) (d + 1) mX6_readNumber (0, 0) [(3, 46), (0, l1), (0, l2)] M K := ow_enter (by decide +kernel) rfl rfl (cX6_readNumber_0 h)
set_option maxRecDepth 20000 in
theorem cX6_readMay_0 {C : ow_C} {A L N : Int} {d : Nat} {M : ow_M} {K : Int → ow_M → Prop} (h : ow_O (EM A L N) M (M 46 1) 7 ∧ (EM A L N).1 (M 46 1) 3 = none ∧ ∀ N1, N1 = ow_up M (M 46 1) 3 1 → ow_O (EM A L N) N1 (N1 46 1) 7 ∧ ow_O (EM A L N) N1 (N1 46 1) 7 ∧ (EM A L N).1 (N1 46 1) 4 = none ∧ ∀ N2, N2 = ow_up N1 (N1 46 1) 4 (ow_gv (EM A L N) N1 (N1 46 1) 1) → ow_Sp C (EM A L N) d mX6_readAsk (0, 0) [(3, 46), (0, 0)] N2 (fun r3 N3 => ow_At C (EM A L N) (d + 1) mX6_readMay 31 [(0, (3, 46)), (1, (0, 0)), (2, (0, 0))] [] (0, 0) N3 K)) : ow_At C (EM A L N) (d + 1) mX6_readMay 0 [(0, (3, 46))] [] (0, 0) M K := by
  refine ow_aload_n (pc' := 1) (x := 46) dX6_readMay_0 rfl rfl ?_
  refine ow_getf3 (pc' := 4) (t := 3) (ji := 1) (val := M 46 1) dX6_readMay_1 fRX6_12 rfl rfl rfl (of_eq_true eo46) eg46_1 ?_
  refine ow_iconst (pc' := 5) (n := 1) dX6_readMay_4 rfl rfl ?_
  obtain ⟨w, w1, h⟩ := h
  have w2 : (1 : Int) = 0 ∨ (1 : Int) = 1 := by decide
  refine ow_putf2 (pc' := 8) (t := 0) (ji := 3) dX6_readMay_5 fRX6_74 rfl rfl rfl rfl w w1 (fun _ => w2) (fun N1 eN1 => ?_)
  have h := h N1 eN1
  refine ow_aload_n (pc' := 9) (x := 46) dX6_readMay_8 rfl rfl ?_
  refine ow_getf3 (pc' := 12) (t := 3) (ji := 1) (val := N1 46 1) dX6_readMay_9 fRX6_12 rfl rfl rfl (of_eq_true eo46) eg46_1 ?_
  refine ow_aload_n (pc' := 13) (x := 46) dX6_readMay_12 rfl rfl ?_
  refine ow_getf3 (pc' := 16) (t := 3) (ji := 1) (val := N1 46 1) dX6_readMay_13 fRX6_12 rfl rfl rfl (of_eq_true eo46) eg46_1 ?_
  obtain ⟨w, h⟩ := h
  refine ow_getf2 (pc' := 19) (t := 0) (ji := 1) dX6_readMay_16 fRX6_97 rfl rfl rfl w ?_
  obtain ⟨w, w1, h⟩ := h
  refine ow_putf2 (pc' := 22) (t := 0) (ji := 4) dX6_readMay_19 fRX6_126 rfl rfl rfl rfl w w1 (fun hz => absurd hz (by decide)) (fun N2 eN2 => ?_)
  have h := h N2 eN2
  refine ow_aload_n (pc' := 23) (x := 46) dX6_readMay_22 rfl rfl ?_
  refine ow_iconst (pc' := 24) (n := 0) dX6_readMay_23 rfl rfl ?_
  refine ow_callVv (z := mX6_readAsk) (n := 1) (k := 6) (vs := [(0, 0)]) (x := 46) (st := []) (pc' := 27) (b1 := (0, 0)) (b2 := (0, 0)) dX6_readMay_24 lRX6_129 kX6_readAsk iX6_readAsk rfl rfl rfl rfl rfl rfl (of_eq_true eo46) (ow_Sp.mono h (fun r3 N3 h => ?_))
  refine ow_iconst (pc' := 28) (n := 0) dX6_readMay_27 rfl rfl ?_
  refine ow_istore_n (pc' := 29) (lv' := [(0, (3, 46)), (1, (0, 0))]) dX6_readMay_28 rfl rfl rfl ?_
  refine ow_iconst (pc' := 30) (n := 0) dX6_readMay_29 rfl rfl ?_
  refine ow_istore_n (pc' := 31) (lv' := [(0, (3, 46)), (1, (0, 0)), (2, (0, 0))]) dX6_readMay_30 rfl rfl rfl ?_
  exact h
set_option maxRecDepth 20000 in
theorem cX6_readMay_31 {C : ow_C} {A L N : Int} {d : Nat} {M : ow_M} {K : Int → ow_M → Prop} {l1 l2 : Int} (h : (300 ≤ l2 → ow_At C (EM A L N) (d + 1) mX6_readMay 133 [(0, (3, 46)), (1, (0, l1))] [] (0, 0) M K) ∧ (l2 < 300 → ((M 46 4) ≠ 0 → ow_At C (EM A L N) (d + 1) mX6_readMay 133 [(0, (3, 46)), (1, (0, l1))] [] (0, 0) M K) ∧ ((M 46 4) = 0 → ow_Sp C (EM A L N) d mX6_isName (0, 0) [(3, 46), (0, 11)] M (fun r1 N1 => (r1 ≠ 0 → ow_At C (EM A L N) (d + 1) mX6_readMay 63 [(0, (3, 46)), (1, (0, l1)), (2, (0, l2))] [] (0, 0) N1 K) ∧ (r1 = 0 → ow_Sp C (EM A L N) d mX6_isName (0, 0) [(3, 46), (0, 12)] N1 (fun r2 N2 => (r2 = 0 → ow_At C (EM A L N) (d + 1) mX6_readMay 133 [(0, (3, 46)), (1, (0, l1))] [] (0, 0) N2 K) ∧ (r2 ≠ 0 → ow_At C (EM A L N) (d + 1) mX6_readMay 63 [(0, (3, 46)), (1, (0, l1)), (2, (0, l2))] [] (0, 0) N2 K))))))) : ow_At C (EM A L N) (d + 1) mX6_readMay 31 [(0, (3, 46)), (1, (0, l1)), (2, (0, l2))] [] (0, 0) M K := by
  refine ow_iload_n (pc' := 32) (x := l2) dX6_readMay_31 rfl rfl ?_
  refine ow_sipush (pc' := 35) (n := 300) dX6_readMay_32 rfl rfl ?_
  refine ow_icmpge (pc' := 38) (tg := 133) dX6_readMay_35 rfl rfl (fun hc => ?_) (fun hc => ?_)
  · have h := h.1 hc
    refine ow_sub (lv' := [(0, (3, 46)), (1, (0, l1))]) [0, 1] rfl ?_
    exact h
  · have h := h.2 hc
    refine ow_aload_n (pc' := 39) (x := 46) dX6_readMay_38 rfl rfl ?_
    refine ow_getf3 (pc' := 42) (t := 0) (ji := 4) (val := M 46 4) dX6_readMay_39 fRX6_25 rfl rfl rfl (of_eq_true eo46) eg46_4 ?_
    refine ow_ifne (pc' := 45) (tg := 133) dX6_readMay_42 rfl rfl (fun hc => ?_) (fun hc => ?_)
    · have h := h.1 hc
      refine ow_sub (lv' := [(0, (3, 46)), (1, (0, l1))]) [0, 1] rfl ?_
      exact h
    · have h := h.2 hc
      refine ow_aload_n (pc' := 46) (x := 46) dX6_readMay_45 rfl rfl ?_
      refine ow_bipush (pc' := 48) (n := 11) dX6_readMay_46 rfl rfl ?_
      refine ow_callVp (z := mX6_isName) (n := 1) (k := 6) (vs := [(0, 11)]) (x := 46) (st := []) (pc' := 51) (b1 := (0, 0)) (b2 := (0, 0)) dX6_readMay_48 lRX6_70 kX6_isName iX6_isName rfl rfl rfl rfl rfl rfl (of_eq_true eo46) (ow_Sp.mono h (fun r1 N1 h => ?_))
      refine ow_ifne (pc' := 54) (tg := 63) dX6_readMay_51 rfl rfl (fun hc => ?_) (fun hc => ?_)
      · have h := h.1 hc
        exact h
      · have h := h.2 hc
        refine ow_aload_n (pc' := 55) (x := 46) dX6_readMay_54 rfl rfl ?_
        refine ow_bipush (pc' := 57) (n := 12) dX6_readMay_55 rfl rfl ?_
        refine ow_callVp (z := mX6_isName) (n := 1) (k := 6) (vs := [(0, 12)]) (x := 46) (st := []) (pc' := 60) (b1 := (0, 0)) (b2 := (0, 0)) dX6_readMay_57 lRX6_70 kX6_isName iX6_isName rfl rfl rfl rfl rfl rfl (of_eq_true eo46) (ow_Sp.mono h (fun r2 N2 h => ?_))
        refine ow_ifeq (pc' := 63) (tg := 133) dX6_readMay_60 rfl rfl (fun hc => ?_) (fun hc => ?_)
        · have h := h.1 hc
          refine ow_sub (lv' := [(0, (3, 46)), (1, (0, l1))]) [0, 1] rfl ?_
          exact h
        · have h := h.2 hc
          exact h
set_option maxRecDepth 20000 in
theorem cX6_readMay_133 {C : ow_C} {A L N : Int} {d : Nat} {M : ow_M} {K : Int → ow_M → Prop} {l1 : Int} (h : (l1 = 0 → ow_O (EM A L N) M (M 46 1) 7 ∧ ow_O (EM A L N) M (M 46 1) 7 ∧ (EM A L N).1 (M 46 1) 5 = none ∧ ∀ N1, N1 = ow_up M (M 46 1) 5 (ow_gv (EM A L N) M (M 46 1) 1) → K 0 N1) ∧ (l1 ≠ 0 → ow_O (EM A L N) M (M 46 1) 7 ∧ ow_Sp C (EM A L N) d mX7_emit (0, 0) [(3, M 46 1), (0, (-22))] M (fun r2 N2 => ow_O (EM A L N) N2 (N2 46 1) 7 ∧ ow_O (EM A L N) N2 (N2 46 1) 7 ∧ (EM A L N).1 (N2 46 1) 5 = none ∧ ∀ N3, N3 = ow_up N2 (N2 46 1) 5 (ow_gv (EM A L N) N2 (N2 46 1) 1) → K 0 N3))) : ow_At C (EM A L N) (d + 1) mX6_readMay 133 [(0, (3, 46)), (1, (0, l1))] [] (0, 0) M K := by
  refine ow_iload_n (pc' := 134) (x := l1) dX6_readMay_133 rfl rfl ?_
  refine ow_ifeq (pc' := 137) (tg := 146) dX6_readMay_134 rfl rfl (fun hc => ?_) (fun hc => ?_)
  · have h := h.1 hc
    refine ow_aload_n (pc' := 147) (x := 46) dX6_readMay_146 rfl rfl ?_
    refine ow_getf3 (pc' := 150) (t := 3) (ji := 1) (val := M 46 1) dX6_readMay_147 fRX6_12 rfl rfl rfl (of_eq_true eo46) eg46_1 ?_
    refine ow_aload_n (pc' := 151) (x := 46) dX6_readMay_150 rfl rfl ?_
    refine ow_getf3 (pc' := 154) (t := 3) (ji := 1) (val := M 46 1) dX6_readMay_151 fRX6_12 rfl rfl rfl (of_eq_true eo46) eg46_1 ?_
    obtain ⟨w, h⟩ := h
    refine ow_getf2 (pc' := 157) (t := 0) (ji := 1) dX6_readMay_154 fRX6_97 rfl rfl rfl w ?_
    obtain ⟨w, w1, h⟩ := h
    refine ow_putf2 (pc' := 160) (t := 0) (ji := 5) dX6_readMay_157 fRX6_137 rfl rfl rfl rfl w w1 (fun hz => absurd hz (by decide)) (fun N1 eN1 => ?_)
    have h := h N1 eN1
    exact ow_vret dX6_readMay_160 rfl rfl h
  · have h := h.2 hc
    refine ow_aload_n (pc' := 138) (x := 46) dX6_readMay_137 rfl rfl ?_
    refine ow_getf3 (pc' := 141) (t := 3) (ji := 1) (val := M 46 1) dX6_readMay_138 fRX6_12 rfl rfl rfl (of_eq_true eo46) eg46_1 ?_
    refine ow_bipush (pc' := 143) (n := (-22)) dX6_readMay_141 rfl rfl ?_
    obtain ⟨w, h⟩ := h
    refine ow_callVv (z := mX7_emit) (n := 1) (k := 7) (vs := [(0, (-22))]) (x := M 46 1) (st := []) (pc' := 146) (b1 := (0, 0)) (b2 := (0, 0)) dX6_readMay_143 lRX6_134 kX7_emit iX7_emit rfl rfl rfl rfl rfl rfl w (ow_Sp.mono h (fun r2 N2 h => ?_))
    refine ow_aload_n (pc' := 147) (x := 46) dX6_readMay_146 rfl rfl ?_
    refine ow_getf3 (pc' := 150) (t := 3) (ji := 1) (val := N2 46 1) dX6_readMay_147 fRX6_12 rfl rfl rfl (of_eq_true eo46) eg46_1 ?_
    refine ow_aload_n (pc' := 151) (x := 46) dX6_readMay_150 rfl rfl ?_
    refine ow_getf3 (pc' := 154) (t := 3) (ji := 1) (val := N2 46 1) dX6_readMay_151 fRX6_12 rfl rfl rfl (of_eq_true eo46) eg46_1 ?_
    obtain ⟨w, h⟩ := h
    refine ow_getf2 (pc' := 157) (t := 0) (ji := 1) dX6_readMay_154 fRX6_97 rfl rfl rfl w ?_
    obtain ⟨w, w1, h⟩ := h
    refine ow_putf2 (pc' := 160) (t := 0) (ji := 5) dX6_readMay_157 fRX6_137 rfl rfl rfl rfl w w1 (fun hz => absurd hz (by decide)) (fun N3 eN3 => ?_)
    have h := h N3 eN3
    exact ow_vret dX6_readMay_160 rfl rfl h
set_option maxRecDepth 20000 in
theorem cX6_readMay_63 {C : ow_C} {A L N : Int} {d : Nat} {M : ow_M} {K : Int → ow_M → Prop} {l1 l2 : Int} (h : ow_Sp C (EM A L N) d mX6_isName (0, 0) [(3, 46), (0, 12)] M (fun r1 N1 => (r1 ≠ 0 → ow_At C (EM A L N) (d + 1) mX6_readMay 87 [(0, (3, 46)), (1, (0, l1)), (2, (0, l2)), (3, (0, r1))] [] (0, 0) N1 K) ∧ (r1 = 0 → (l1 = 0 → ow_At C (EM A L N) (d + 1) mX6_readMay 87 [(0, (3, 46)), (1, (0, l1)), (2, (0, l2)), (3, (0, r1))] [] (0, 0) N1 K) ∧ (l1 ≠ 0 → ow_O (EM A L N) N1 (N1 46 1) 7 ∧ ow_Sp C (EM A L N) d mX7_emit (0, 0) [(3, N1 46 1), (0, (-22))] N1 (fun r2 N2 => ow_At C (EM A L N) (d + 1) mX6_readMay 87 [(0, (3, 46)), (1, (0, l1)), (2, (0, l2)), (3, (0, r1))] [] (0, 0) N2 K))))) : ow_At C (EM A L N) (d + 1) mX6_readMay 63 [(0, (3, 46)), (1, (0, l1)), (2, (0, l2))] [] (0, 0) M K := by
  refine ow_aload_n (pc' := 64) (x := 46) dX6_readMay_63 rfl rfl ?_
  refine ow_bipush (pc' := 66) (n := 12) dX6_readMay_64 rfl rfl ?_
  refine ow_callVp (z := mX6_isName) (n := 1) (k := 6) (vs := [(0, 12)]) (x := 46) (st := []) (pc' := 69) (b1 := (0, 0)) (b2 := (0, 0)) dX6_readMay_66 lRX6_70 kX6_isName iX6_isName rfl rfl rfl rfl rfl rfl (of_eq_true eo46) (ow_Sp.mono h (fun r1 N1 h => ?_))
  refine ow_istore_n (pc' := 70) (lv' := [(0, (3, 46)), (1, (0, l1)), (2, (0, l2)), (3, (0, r1))]) dX6_readMay_69 rfl rfl rfl ?_
  refine ow_iload_n (pc' := 71) (x := r1) dX6_readMay_70 rfl rfl ?_
  refine ow_ifne (pc' := 74) (tg := 87) dX6_readMay_71 rfl rfl (fun hc => ?_) (fun hc => ?_)
  · have h := h.1 hc
    exact h
  · have h := h.2 hc
    refine ow_iload_n (pc' := 75) (x := l1) dX6_readMay_74 rfl rfl ?_
    refine ow_ifeq (pc' := 78) (tg := 87) dX6_readMay_75 rfl rfl (fun hc => ?_) (fun hc => ?_)
    · have h := h.1 hc
      exact h
    · have h := h.2 hc
      refine ow_aload_n (pc' := 79) (x := 46) dX6_readMay_78 rfl rfl ?_
      refine ow_getf3 (pc' := 82) (t := 3) (ji := 1) (val := N1 46 1) dX6_readMay_79 fRX6_12 rfl rfl rfl (of_eq_true eo46) eg46_1 ?_
      refine ow_bipush (pc' := 84) (n := (-22)) dX6_readMay_82 rfl rfl ?_
      obtain ⟨w, h⟩ := h
      refine ow_callVv (z := mX7_emit) (n := 1) (k := 7) (vs := [(0, (-22))]) (x := N1 46 1) (st := []) (pc' := 87) (b1 := (0, 0)) (b2 := (0, 0)) dX6_readMay_84 lRX6_134 kX7_emit iX7_emit rfl rfl rfl rfl rfl rfl w (ow_Sp.mono h (fun r2 N2 h => ?_))
      exact h
set_option maxRecDepth 20000 in
theorem cX6_readMay_87 {C : ow_C} {A L N : Int} {d : Nat} {M : ow_M} {K : Int → ow_M → Prop} {l1 l2 l3 : Int} (h : (l3 ≠ 0 → ow_At C (EM A L N) (d + 1) mX6_readMay 97 [(0, (3, 46)), (2, (0, l2)), (3, (0, l3))] [(0, 0), (0, l1)] (0, 0) M K) ∧ (l3 = 0 → ow_At C (EM A L N) (d + 1) mX6_readMay 97 [(0, (3, 46)), (2, (0, l2)), (3, (0, l3))] [(0, 1), (0, l1)] (0, 0) M K)) : ow_At C (EM A L N) (d + 1) mX6_readMay 87 [(0, (3, 46)), (1, (0, l1)), (2, (0, l2)), (3, (0, l3))] [] (0, 0) M K := by
  refine ow_iload_n (pc' := 88) (x := l1) dX6_readMay_87 rfl rfl ?_
  refine ow_iload_n (pc' := 89) (x := l3) dX6_readMay_88 rfl rfl ?_
  refine ow_ifne (pc' := 92) (tg := 96) dX6_readMay_89 rfl rfl (fun hc => ?_) (fun hc => ?_)
  · have h := h.1 hc
    refine ow_iconst (pc' := 97) (n := 0) dX6_readMay_96 rfl rfl ?_
    refine ow_sub (lv' := [(0, (3, 46)), (2, (0, l2)), (3, (0, l3))]) [0, 2, 3] rfl ?_
    exact h
  · have h := h.2 hc
    refine ow_iconst (pc' := 93) (n := 1) dX6_readMay_92 rfl rfl ?_
    refine ow_goto (tg := 97) dX6_readMay_93 rfl ?_
    refine ow_sub (lv' := [(0, (3, 46)), (2, (0, l2)), (3, (0, l3))]) [0, 2, 3] rfl ?_
    exact h
set_option maxRecDepth 20000 in
theorem cX6_readMay_97 {C : ow_C} {A L N : Int} {d : Nat} {M : ow_M} {K : Int → ow_M → Prop} {l2 l3 s0 s1 : Int} (h : ow_I ((M 46 2) + 1) ∧ ∀ N1, N1 = ow_up M 46 2 ((M 46 2) + 1) → ow_Sp C (EM A L N) d mX6_readAsk (0, 0) [(3, 46), (0, 0)] N1 (fun r2 N2 => (l3 = 0 → ow_I (l2 + 1) ∧ ow_At C (EM A L N) (d + 1) mX6_readMay 31 [(0, (3, 46)), (1, (0, ow_or s1 s0)), (2, (0, l2 + 1))] [] (0, 0) N2 K) ∧ (l3 ≠ 0 → ow_O (EM A L N) N2 (N2 46 1) 7 ∧ ow_Sp C (EM A L N) d mX7_emit (0, 0) [(3, N2 46 1), (0, (-21))] N2 (fun r3 N3 => ow_I (l2 + 1) ∧ ow_At C (EM A L N) (d + 1) mX6_readMay 31 [(0, (3, 46)), (1, (0, ow_or s1 s0)), (2, (0, l2 + 1))] [] (0, 0) N3 K)))) : ow_At C (EM A L N) (d + 1) mX6_readMay 97 [(0, (3, 46)), (2, (0, l2)), (3, (0, l3))] [(0, s0), (0, s1)] (0, 0) M K := by
  refine ow_ior (pc' := 98) dX6_readMay_97 rfl ?_
  refine ow_istore_n (pc' := 99) (lv' := [(0, (3, 46)), (1, (0, ow_or s1 s0)), (2, (0, l2)), (3, (0, l3))]) dX6_readMay_98 rfl rfl rfl ?_
  refine ow_aload_n (pc' := 100) (x := 46) dX6_readMay_99 rfl rfl ?_
  refine ow_dup (pc' := 101) dX6_readMay_100 rfl rfl ?_
  refine ow_getf3 (pc' := 104) (t := 0) (ji := 2) (val := M 46 2) dX6_readMay_101 fRX6_18 rfl rfl rfl (of_eq_true eo46) eg46_2 ?_
  refine ow_iconst (pc' := 105) (n := 1) dX6_readMay_104 rfl rfl ?_
  obtain ⟨vv1, h⟩ := h
  refine ow_iadd (pc' := 106) dX6_readMay_105 vv1 rfl ?_
  refine ow_putf2 (pc' := 109) (t := 0) (ji := 2) dX6_readMay_106 fRX6_18 rfl rfl rfl rfl (of_eq_true eo46) (of_eq_true en46_2) (fun hz => absurd hz (by decide)) (fun N1 eN1 => ?_)
  have h := h N1 eN1
  refine ow_aload_n (pc' := 110) (x := 46) dX6_readMay_109 rfl rfl ?_
  refine ow_iconst (pc' := 111) (n := 0) dX6_readMay_110 rfl rfl ?_
  refine ow_callVv (z := mX6_readAsk) (n := 1) (k := 6) (vs := [(0, 0)]) (x := 46) (st := []) (pc' := 114) (b1 := (0, 0)) (b2 := (0, 0)) dX6_readMay_111 lRX6_129 kX6_readAsk iX6_readAsk rfl rfl rfl rfl rfl rfl (of_eq_true eo46) (ow_Sp.mono h (fun r2 N2 h => ?_))
  refine ow_iload_n (pc' := 115) (x := l3) dX6_readMay_114 rfl rfl ?_
  refine ow_ifeq (pc' := 118) (tg := 127) dX6_readMay_115 rfl rfl (fun hc => ?_) (fun hc => ?_)
  · have h := h.1 hc
    obtain ⟨vv2, h⟩ := h
    refine ow_iinc (pc' := 130) (lv' := [(0, (3, 46)), (1, (0, ow_or s1 s0)), (2, (0, l2 + 1)), (3, (0, l3))]) dX6_readMay_127 rfl vv2 rfl rfl rfl ?_
    refine ow_goto (tg := 31) dX6_readMay_130 rfl ?_
    refine ow_sub (lv' := [(0, (3, 46)), (1, (0, ow_or s1 s0)), (2, (0, l2 + 1))]) [0, 1, 2] rfl ?_
    exact h
  · have h := h.2 hc
    refine ow_aload_n (pc' := 119) (x := 46) dX6_readMay_118 rfl rfl ?_
    refine ow_getf3 (pc' := 122) (t := 3) (ji := 1) (val := N2 46 1) dX6_readMay_119 fRX6_12 rfl rfl rfl (of_eq_true eo46) eg46_1 ?_
    refine ow_bipush (pc' := 124) (n := (-21)) dX6_readMay_122 rfl rfl ?_
    obtain ⟨w, h⟩ := h
    refine ow_callVv (z := mX7_emit) (n := 1) (k := 7) (vs := [(0, (-21))]) (x := N2 46 1) (st := []) (pc' := 127) (b1 := (0, 0)) (b2 := (0, 0)) dX6_readMay_124 lRX6_134 kX7_emit iX7_emit rfl rfl rfl rfl rfl rfl w (ow_Sp.mono h (fun r3 N3 h => ?_))
    obtain ⟨vv3, h⟩ := h
    refine ow_iinc (pc' := 130) (lv' := [(0, (3, 46)), (1, (0, ow_or s1 s0)), (2, (0, l2 + 1)), (3, (0, l3))]) dX6_readMay_127 rfl vv3 rfl rfl rfl ?_
    refine ow_goto (tg := 31) dX6_readMay_130 rfl ?_
    refine ow_sub (lv' := [(0, (3, 46)), (1, (0, ow_or s1 s0)), (2, (0, l2 + 1))]) [0, 1, 2] rfl ?_
    exact h
theorem fX6_readMay {C : ow_C} {A L N : Int} {d : Nat} {M : ow_M} {K : Int → ow_M → Prop} (h : ow_O (EM A L N) M (M 46 1) 7 ∧ (EM A L N).1 (M 46 1) 3 = none ∧ ∀ N1, N1 = ow_up M (M 46 1) 3 1 → ow_O (EM A L N) N1 (N1 46 1) 7 ∧ ow_O (EM A L N) N1 (N1 46 1) 7 ∧ (EM A L N).1 (N1 46 1) 4 = none ∧ ∀ N2, N2 = ow_up N1 (N1 46 1) 4 (ow_gv (EM A L N) N1 (N1 46 1) 1) → ow_Sp C (EM A L N) d mX6_readAsk (0, 0) [(3, 46), (0, 0)] N2 (fun r3 N3 => ow_At C (EM A L N) (d + 1) mX6_readMay 31 [(0, (3, 46)), (1, (0, 0)), (2, (0, 0))] [] (0, 0) N3 K)) : ow_Sp C (EM A L N) (d + 1) mX6_readMay (0, 0) [(3, 46)] M K := ow_enter (by decide +kernel) rfl rfl (cX6_readMay_0 h)
set_option maxRecDepth 20000 in
theorem cX6_readAsk_0 {C : ow_C} {A L N : Int} {d : Nat} {M : ow_M} {K : Int → ow_M → Prop} {l1 : Int} (h : ow_Sp C (EM A L N) d mX6_isName (0, 0) [(3, 46), (0, 13)] M (fun r1 N1 => (r1 = 0 → ow_Sp C (EM A L N) d mX6_readSum (0, 0) [(3, 46), (0, l1)] N1 (fun r2 N2 => ow_Sp C (EM A L N) d mX6_kind (0, 0) [(3, 46)] N2 (fun r3 N3 => ow_Sp C (EM A L N) d mX3_comparison (0, 0) [(0, r3)] N3 (fun r4 N4 => (r4 = 0 → ow_At C (EM A L N) (d + 1) mX6_readAsk 57 [(0, (3, 46)), (1, (0, l1)), (2, (0, r4))] [(0, 0), (3, 46)] (0, 0) N4 K) ∧ (r4 ≠ 0 → ow_At C (EM A L N) (d + 1) mX6_readAsk 57 [(0, (3, 46)), (1, (0, l1)), (2, (0, r4))] [(0, 1), (3, 46)] (0, 0) N4 K))))) ∧ (r1 ≠ 0 → ow_Sp C (EM A L N) d mX6_opensOneMore (0, 0) [(3, 46), (0, l1)] N1 (fun r5 N5 => (r5 = 0 → K 0 N5) ∧ (r5 ≠ 0 → ow_I (l1 + 1) ∧ ow_Sp C (EM A L N) d mX6_readAsk (0, 0) [(3, 46), (0, l1 + 1)] N5 (fun r6 N6 => ow_O (EM A L N) N6 (N6 46 1) 7 ∧ ow_Sp C (EM A L N) d mX7_emit (0, 0) [(3, N6 46 1), (0, (-24))] N6 (fun r7 N7 => K 0 N7))))))) : ow_At C (EM A L N) (d + 1) mX6_readAsk 0 [(0, (3, 46)), (1, (0, l1))] [] (0, 0) M K := by
  refine ow_aload_n (pc' := 1) (x := 46) dX6_readAsk_0 rfl rfl ?_
  refine ow_bipush (pc' := 3) (n := 13) dX6_readAsk_1 rfl rfl ?_
  refine ow_callVp (z := mX6_isName) (n := 1) (k := 6) (vs := [(0, 13)]) (x := 46) (st := []) (pc' := 6) (b1 := (0, 0)) (b2 := (0, 0)) dX6_readAsk_3 lRX6_70 kX6_isName iX6_isName rfl rfl rfl rfl rfl rfl (of_eq_true eo46) (ow_Sp.mono h (fun r1 N1 h => ?_))
  refine ow_ifeq (pc' := 9) (tg := 34) dX6_readAsk_6 rfl rfl (fun hc => ?_) (fun hc => ?_)
  · have h := h.1 hc
    refine ow_aload_n (pc' := 35) (x := 46) dX6_readAsk_34 rfl rfl ?_
    refine ow_iload_n (pc' := 36) (x := l1) dX6_readAsk_35 rfl rfl ?_
    refine ow_callVv (z := mX6_readSum) (n := 1) (k := 6) (vs := [(0, l1)]) (x := 46) (st := []) (pc' := 39) (b1 := (0, 0)) (b2 := (0, 0)) dX6_readAsk_36 lRX6_103 kX6_readSum iX6_readSum rfl rfl rfl rfl rfl rfl (of_eq_true eo46) (ow_Sp.mono h (fun r2 N2 h => ?_))
    refine ow_aload_n (pc' := 40) (x := 46) dX6_readAsk_39 rfl rfl ?_
    refine ow_callVp (z := mX6_kind) (n := 0) (k := 6) (vs := []) (x := 46) (st := []) (pc' := 43) (b1 := (0, 0)) (b2 := (0, 0)) dX6_readAsk_40 lRX6_47 kX6_kind iX6_kind rfl rfl rfl rfl rfl rfl (of_eq_true eo46) (ow_Sp.mono h (fun r3 N3 h => ?_))
    refine ow_callSp (z := mX3_comparison) (n := 1) (vs := [(0, r3)]) (st := []) (pc' := 46) (b1 := (0, 0)) (b2 := (0, 0)) dX6_readAsk_43 lRX6_143 kX3_comparison zX3_comparison rfl rfl rfl rfl rfl rfl (ow_Sp.mono h (fun r4 N4 h => ?_))
    refine ow_istore_n (pc' := 47) (lv' := [(0, (3, 46)), (1, (0, l1)), (2, (0, r4))]) dX6_readAsk_46 rfl rfl rfl ?_
    refine ow_aload_n (pc' := 48) (x := 46) dX6_readAsk_47 rfl rfl ?_
    refine ow_iload_n (pc' := 49) (x := r4) dX6_readAsk_48 rfl rfl ?_
    refine ow_ifeq (pc' := 52) (tg := 56) dX6_readAsk_49 rfl rfl (fun hc => ?_) (fun hc => ?_)
    · have h := h.1 hc
      refine ow_iconst (pc' := 57) (n := 0) dX6_readAsk_56 rfl rfl ?_
      exact h
    · have h := h.2 hc
      refine ow_iconst (pc' := 53) (n := 1) dX6_readAsk_52 rfl rfl ?_
      refine ow_goto (tg := 57) dX6_readAsk_53 rfl ?_
      exact h
  · have h := h.2 hc
    refine ow_aload_n (pc' := 10) (x := 46) dX6_readAsk_9 rfl rfl ?_
    refine ow_iload_n (pc' := 11) (x := l1) dX6_readAsk_10 rfl rfl ?_
    refine ow_callVp (z := mX6_opensOneMore) (n := 1) (k := 6) (vs := [(0, l1)]) (x := 46) (st := []) (pc' := 14) (b1 := (0, 0)) (b2 := (0, 0)) dX6_readAsk_11 lRX6_140 kX6_opensOneMore iX6_opensOneMore rfl rfl rfl rfl rfl rfl (of_eq_true eo46) (ow_Sp.mono h (fun r5 N5 h => ?_))
    refine ow_ifeq (pc' := 17) (tg := 33) dX6_readAsk_14 rfl rfl (fun hc => ?_) (fun hc => ?_)
    · have h := h.1 hc
      exact ow_vret dX6_readAsk_33 rfl rfl h
    · have h := h.2 hc
      refine ow_aload_n (pc' := 18) (x := 46) dX6_readAsk_17 rfl rfl ?_
      refine ow_iload_n (pc' := 19) (x := l1) dX6_readAsk_18 rfl rfl ?_
      refine ow_iconst (pc' := 20) (n := 1) dX6_readAsk_19 rfl rfl ?_
      obtain ⟨vv1, h⟩ := h
      refine ow_iadd (pc' := 21) dX6_readAsk_20 vv1 rfl ?_
      refine ow_callVv (z := mX6_readAsk) (n := 1) (k := 6) (vs := [(0, l1 + 1)]) (x := 46) (st := []) (pc' := 24) (b1 := (0, 0)) (b2 := (0, 0)) dX6_readAsk_21 lRX6_129 kX6_readAsk iX6_readAsk rfl rfl rfl rfl rfl rfl (of_eq_true eo46) (ow_Sp.mono h (fun r6 N6 h => ?_))
      refine ow_aload_n (pc' := 25) (x := 46) dX6_readAsk_24 rfl rfl ?_
      refine ow_getf3 (pc' := 28) (t := 3) (ji := 1) (val := N6 46 1) dX6_readAsk_25 fRX6_12 rfl rfl rfl (of_eq_true eo46) eg46_1 ?_
      refine ow_bipush (pc' := 30) (n := (-24)) dX6_readAsk_28 rfl rfl ?_
      obtain ⟨w, h⟩ := h
      refine ow_callVv (z := mX7_emit) (n := 1) (k := 7) (vs := [(0, (-24))]) (x := N6 46 1) (st := []) (pc' := 33) (b1 := (0, 0)) (b2 := (0, 0)) dX6_readAsk_30 lRX6_134 kX7_emit iX7_emit rfl rfl rfl rfl rfl rfl w (ow_Sp.mono h (fun r7 N7 h => ?_))
      exact ow_vret dX6_readAsk_33 rfl rfl h
set_option maxRecDepth 20000 in
theorem cX6_readAsk_57 {C : ow_C} {A L N : Int} {d : Nat} {M : ow_M} {K : Int → ow_M → Prop} {l1 l2 s0 : Int} (h : ow_Sp C (EM A L N) d mX6_pass (0, 0) [(3, 46), (0, s0)] M (fun r1 N1 => ow_Sp C (EM A L N) d mX6_readSum (0, 0) [(3, 46), (0, l1)] N1 (fun r2 N2 => ow_O (EM A L N) N2 (N2 46 1) 7 ∧ ow_Sp C (EM A L N) d mX7_emit (0, 0) [(3, N2 46 1), (0, l2)] N2 (fun r3 N3 => K 0 N3)))) : ow_At C (EM A L N) (d + 1) mX6_readAsk 57 [(0, (3, 46)), (1, (0, l1)), (2, (0, l2))] [(0, s0), (3, 46)] (0, 0) M K := by
  refine ow_callVv (z := mX6_pass) (n := 1) (k := 6) (vs := [(0, s0)]) (x := 46) (st := []) (pc' := 60) (b1 := (0, 0)) (b2 := (0, 0)) dX6_readAsk_57 lRX6_93 kX6_pass iX6_pass rfl rfl rfl rfl rfl rfl (of_eq_true eo46) (ow_Sp.mono h (fun r1 N1 h => ?_))
  refine ow_aload_n (pc' := 61) (x := 46) dX6_readAsk_60 rfl rfl ?_
  refine ow_iload_n (pc' := 62) (x := l1) dX6_readAsk_61 rfl rfl ?_
  refine ow_callVv (z := mX6_readSum) (n := 1) (k := 6) (vs := [(0, l1)]) (x := 46) (st := []) (pc' := 65) (b1 := (0, 0)) (b2 := (0, 0)) dX6_readAsk_62 lRX6_103 kX6_readSum iX6_readSum rfl rfl rfl rfl rfl rfl (of_eq_true eo46) (ow_Sp.mono h (fun r2 N2 h => ?_))
  refine ow_aload_n (pc' := 66) (x := 46) dX6_readAsk_65 rfl rfl ?_
  refine ow_getf3 (pc' := 69) (t := 3) (ji := 1) (val := N2 46 1) dX6_readAsk_66 fRX6_12 rfl rfl rfl (of_eq_true eo46) eg46_1 ?_
  refine ow_iload_n (pc' := 70) (x := l2) dX6_readAsk_69 rfl rfl ?_
  obtain ⟨w, h⟩ := h
  refine ow_callVv (z := mX7_emit) (n := 1) (k := 7) (vs := [(0, l2)]) (x := N2 46 1) (st := []) (pc' := 73) (b1 := (0, 0)) (b2 := (0, 0)) dX6_readAsk_70 lRX6_134 kX7_emit iX7_emit rfl rfl rfl rfl rfl rfl w (ow_Sp.mono h (fun r3 N3 h => ?_))
  exact ow_vret dX6_readAsk_73 rfl rfl h
theorem fX6_readAsk {C : ow_C} {A L N : Int} {d : Nat} {M : ow_M} {K : Int → ow_M → Prop} {l1 : Int} (h : ow_Sp C (EM A L N) d mX6_isName (0, 0) [(3, 46), (0, 13)] M (fun r1 N1 => (r1 = 0 → ow_Sp C (EM A L N) d mX6_readSum (0, 0) [(3, 46), (0, l1)] N1 (fun r2 N2 => ow_Sp C (EM A L N) d mX6_kind (0, 0) [(3, 46)] N2 (fun r3 N3 => ow_Sp C (EM A L N) d mX3_comparison (0, 0) [(0, r3)] N3 (fun r4 N4 => (r4 = 0 → ow_At C (EM A L N) (d + 1) mX6_readAsk 57 [(0, (3, 46)), (1, (0, l1)), (2, (0, r4))] [(0, 0), (3, 46)] (0, 0) N4 K) ∧ (r4 ≠ 0 → ow_At C (EM A L N) (d + 1) mX6_readAsk 57 [(0, (3, 46)), (1, (0, l1)), (2, (0, r4))] [(0, 1), (3, 46)] (0, 0) N4 K))))) ∧ (r1 ≠ 0 → ow_Sp C (EM A L N) d mX6_opensOneMore (0, 0) [(3, 46), (0, l1)] N1 (fun r5 N5 => (r5 = 0 → K 0 N5) ∧ (r5 ≠ 0 → ow_I (l1 + 1) ∧ ow_Sp C (EM A L N) d mX6_readAsk (0, 0) [(3, 46), (0, l1 + 1)] N5 (fun r6 N6 => ow_O (EM A L N) N6 (N6 46 1) 7 ∧ ow_Sp C (EM A L N) d mX7_emit (0, 0) [(3, N6 46 1), (0, (-24))] N6 (fun r7 N7 => K 0 N7))))))) : ow_Sp C (EM A L N) (d + 1) mX6_readAsk (0, 0) [(3, 46), (0, l1)] M K := ow_enter (by decide +kernel) rfl rfl (cX6_readAsk_0 h)
set_option maxRecDepth 20000 in
theorem cX6_opensOneMore_0 {C : ow_C} {A L N : Int} {d : Nat} {M : ow_M} {K : Int → ow_M → Prop} {l1 : Int} (h : (l1 < 8 → ow_I ((M 46 2) + 1) ∧ ∀ N1, N1 = ow_up M 46 2 ((M 46 2) + 1) → K 1 N1) ∧ (8 ≤ l1 → ow_Sp C (EM A L N) d mX6_fail (0, 0) [(3, 46), (0, 3)] M (fun r2 N2 => K 0 N2))) : ow_At C (EM A L N) (d + 1) mX6_opensOneMore 0 [(0, (3, 46)), (1, (0, l1))] [] (0, 0) M K := by
  refine ow_iload_n (pc' := 1) (x := l1) dX6_opensOneMore_0 rfl rfl ?_
  refine ow_bipush (pc' := 3) (n := 8) dX6_opensOneMore_1 rfl rfl ?_
  refine ow_icmplt (pc' := 6) (tg := 13) dX6_opensOneMore_3 rfl rfl (fun hc => ?_) (fun hc => ?_)
  · have h := h.1 hc
    refine ow_aload_n (pc' := 14) (x := 46) dX6_opensOneMore_13 rfl rfl ?_
    refine ow_dup (pc' := 15) dX6_opensOneMore_14 rfl rfl ?_
    refine ow_getf3 (pc' := 18) (t := 0) (ji := 2) (val := M 46 2) dX6_opensOneMore_15 fRX6_18 rfl rfl rfl (of_eq_true eo46) eg46_2 ?_
    refine ow_iconst (pc' := 19) (n := 1) dX6_opensOneMore_18 rfl rfl ?_
    obtain ⟨vv1, h⟩ := h
    refine ow_iadd (pc' := 20) dX6_opensOneMore_19 vv1 rfl ?_
    refine ow_putf2 (pc' := 23) (t := 0) (ji := 2) dX6_opensOneMore_20 fRX6_18 rfl rfl rfl rfl (of_eq_true eo46) (of_eq_true en46_2) (fun hz => absurd hz (by decide)) (fun N1 eN1 => ?_)
    have h := h N1 eN1
    refine ow_iconst (pc' := 24) (n := 1) dX6_opensOneMore_23 rfl rfl ?_
    exact ow_zret dX6_opensOneMore_24 rfl rfl (Or.inr rfl) h
  · have h := h.2 hc
    refine ow_aload_n (pc' := 7) (x := 46) dX6_opensOneMore_6 rfl rfl ?_
    refine ow_iconst (pc' := 8) (n := 3) dX6_opensOneMore_7 rfl rfl ?_
    refine ow_callVv (z := mX6_fail) (n := 1) (k := 6) (vs := [(0, 3)]) (x := 46) (st := []) (pc' := 11) (b1 := (0, 0)) (b2 := (0, 0)) dX6_opensOneMore_8 lRX6_66 kX6_fail iX6_fail rfl rfl rfl rfl rfl rfl (of_eq_true eo46) (ow_Sp.mono h (fun r2 N2 h => ?_))
    refine ow_iconst (pc' := 12) (n := 0) dX6_opensOneMore_11 rfl rfl ?_
    exact ow_zret dX6_opensOneMore_12 rfl rfl (Or.inl rfl) h
theorem fX6_opensOneMore {C : ow_C} {A L N : Int} {d : Nat} {M : ow_M} {K : Int → ow_M → Prop} {l1 : Int} (h : (l1 < 8 → ow_I ((M 46 2) + 1) ∧ ∀ N1, N1 = ow_up M 46 2 ((M 46 2) + 1) → K 1 N1) ∧ (8 ≤ l1 → ow_Sp C (EM A L N) d mX6_fail (0, 0) [(3, 46), (0, 3)] M (fun r2 N2 => K 0 N2))) : ow_Sp C (EM A L N) (d + 1) mX6_opensOneMore (0, 0) [(3, 46), (0, l1)] M K := ow_enter (by decide +kernel) rfl rfl (cX6_opensOneMore_0 h)
set_option maxRecDepth 20000 in
theorem cX6_readSum_0 {C : ow_C} {A L N : Int} {d : Nat} {M : ow_M} {K : Int → ow_M → Prop} {l1 : Int} (h : ow_Sp C (EM A L N) d mX6_readProduct (0, 0) [(3, 46), (0, l1)] M (fun r1 N1 => ow_At C (EM A L N) (d + 1) mX6_readSum 7 [(0, (3, 46)), (1, (0, l1)), (2, (0, 0))] [] (0, 0) N1 K)) : ow_At C (EM A L N) (d + 1) mX6_readSum 0 [(0, (3, 46)), (1, (0, l1))] [] (0, 0) M K := by
  refine ow_aload_n (pc' := 1) (x := 46) dX6_readSum_0 rfl rfl ?_
  refine ow_iload_n (pc' := 2) (x := l1) dX6_readSum_1 rfl rfl ?_
  refine ow_callVv (z := mX6_readProduct) (n := 1) (k := 6) (vs := [(0, l1)]) (x := 46) (st := []) (pc' := 5) (b1 := (0, 0)) (b2 := (0, 0)) dX6_readSum_2 lRX6_147 kX6_readProduct iX6_readProduct rfl rfl rfl rfl rfl rfl (of_eq_true eo46) (ow_Sp.mono h (fun r1 N1 h => ?_))
  refine ow_iconst (pc' := 6) (n := 0) dX6_readSum_5 rfl rfl ?_
  refine ow_istore_n (pc' := 7) (lv' := [(0, (3, 46)), (1, (0, l1)), (2, (0, 0))]) dX6_readSum_6 rfl rfl rfl ?_
  exact h
set_option maxRecDepth 20000 in
theorem cX6_readSum_7 {C : ow_C} {A L N : Int} {d : Nat} {M : ow_M} {K : Int → ow_M → Prop} {l1 l2 : Int} (h : (300 ≤ l2 → K 0 M) ∧ (l2 < 300 → ((M 46 4) ≠ 0 → K 0 M) ∧ ((M 46 4) = 0 → ow_Sp C (EM A L N) d mX6_kind (0, 0) [(3, 46)] M (fun r1 N1 => (r1 = 43 → ow_At C (EM A L N) (d + 1) mX6_readSum 39 [(0, (3, 46)), (1, (0, l1)), (2, (0, l2))] [] (0, 0) N1 K) ∧ (r1 ≠ 43 → ow_Sp C (EM A L N) d mX6_kind (0, 0) [(3, 46)] N1 (fun r2 N2 => (r2 ≠ 45 → K 0 N2) ∧ (r2 = 45 → ow_At C (EM A L N) (d + 1) mX6_readSum 39 [(0, (3, 46)), (1, (0, l1)), (2, (0, l2))] [] (0, 0) N2 K))))))) : ow_At C (EM A L N) (d + 1) mX6_readSum 7 [(0, (3, 46)), (1, (0, l1)), (2, (0, l2))] [] (0, 0) M K := by
  refine ow_iload_n (pc' := 8) (x := l2) dX6_readSum_7 rfl rfl ?_
  refine ow_sipush (pc' := 11) (n := 300) dX6_readSum_8 rfl rfl ?_
  refine ow_icmpge (pc' := 14) (tg := 85) dX6_readSum_11 rfl rfl (fun hc => ?_) (fun hc => ?_)
  · have h := h.1 hc
    exact ow_vret dX6_readSum_85 rfl rfl h
  · have h := h.2 hc
    refine ow_aload_n (pc' := 15) (x := 46) dX6_readSum_14 rfl rfl ?_
    refine ow_getf3 (pc' := 18) (t := 0) (ji := 4) (val := M 46 4) dX6_readSum_15 fRX6_25 rfl rfl rfl (of_eq_true eo46) eg46_4 ?_
    refine ow_ifne (pc' := 21) (tg := 85) dX6_readSum_18 rfl rfl (fun hc => ?_) (fun hc => ?_)
    · have h := h.1 hc
      exact ow_vret dX6_readSum_85 rfl rfl h
    · have h := h.2 hc
      refine ow_aload_n (pc' := 22) (x := 46) dX6_readSum_21 rfl rfl ?_
      refine ow_callVp (z := mX6_kind) (n := 0) (k := 6) (vs := []) (x := 46) (st := []) (pc' := 25) (b1 := (0, 0)) (b2 := (0, 0)) dX6_readSum_22 lRX6_47 kX6_kind iX6_kind rfl rfl rfl rfl rfl rfl (of_eq_true eo46) (ow_Sp.mono h (fun r1 N1 h => ?_))
      refine ow_bipush (pc' := 27) (n := 43) dX6_readSum_25 rfl rfl ?_
      refine ow_icmpeq (pc' := 30) (tg := 39) dX6_readSum_27 rfl rfl (fun hc => ?_) (fun hc => ?_)
      · have h := h.1 hc
        exact h
      · have h := h.2 hc
        refine ow_aload_n (pc' := 31) (x := 46) dX6_readSum_30 rfl rfl ?_
        refine ow_callVp (z := mX6_kind) (n := 0) (k := 6) (vs := []) (x := 46) (st := []) (pc' := 34) (b1 := (0, 0)) (b2 := (0, 0)) dX6_readSum_31 lRX6_47 kX6_kind iX6_kind rfl rfl rfl rfl rfl rfl (of_eq_true eo46) (ow_Sp.mono h (fun r2 N2 h => ?_))
        refine ow_bipush (pc' := 36) (n := 45) dX6_readSum_34 rfl rfl ?_
        refine ow_icmpne (pc' := 39) (tg := 85) dX6_readSum_36 rfl rfl (fun hc => ?_) (fun hc => ?_)
        · have h := h.1 hc
          exact ow_vret dX6_readSum_85 rfl rfl h
        · have h := h.2 hc
          exact h
set_option maxRecDepth 20000 in
theorem cX6_readSum_39 {C : ow_C} {A L N : Int} {d : Nat} {M : ow_M} {K : Int → ow_M → Prop} {l1 l2 : Int} (h : ow_Sp C (EM A L N) d mX6_kind (0, 0) [(3, 46)] M (fun r1 N1 => (r1 ≠ 43 → ow_At C (EM A L N) (d + 1) mX6_readSum 55 [(0, (3, 46)), (1, (0, l1)), (2, (0, l2))] [(0, (-12))] (0, 0) N1 K) ∧ (r1 = 43 → ow_At C (EM A L N) (d + 1) mX6_readSum 55 [(0, (3, 46)), (1, (0, l1)), (2, (0, l2))] [(0, (-11))] (0, 0) N1 K))) : ow_At C (EM A L N) (d + 1) mX6_readSum 39 [(0, (3, 46)), (1, (0, l1)), (2, (0, l2))] [] (0, 0) M K := by
  refine ow_aload_n (pc' := 40) (x := 46) dX6_readSum_39 rfl rfl ?_
  refine ow_callVp (z := mX6_kind) (n := 0) (k := 6) (vs := []) (x := 46) (st := []) (pc' := 43) (b1 := (0, 0)) (b2 := (0, 0)) dX6_readSum_40 lRX6_47 kX6_kind iX6_kind rfl rfl rfl rfl rfl rfl (of_eq_true eo46) (ow_Sp.mono h (fun r1 N1 h => ?_))
  refine ow_bipush (pc' := 45) (n := 43) dX6_readSum_43 rfl rfl ?_
  refine ow_icmpne (pc' := 48) (tg := 53) dX6_readSum_45 rfl rfl (fun hc => ?_) (fun hc => ?_)
  · have h := h.1 hc
    refine ow_bipush (pc' := 55) (n := (-12)) dX6_readSum_53 rfl rfl ?_
    exact h
  · have h := h.2 hc
    refine ow_bipush (pc' := 50) (n := (-11)) dX6_readSum_48 rfl rfl ?_
    refine ow_goto (tg := 55) dX6_readSum_50 rfl ?_
    exact h
set_option maxRecDepth 20000 in
theorem cX6_readSum_55 {C : ow_C} {A L N : Int} {d : Nat} {M : ow_M} {K : Int → ow_M → Prop} {l1 l2 s0 : Int} (h : ow_I ((M 46 2) + 1) ∧ ∀ N1, N1 = ow_up M 46 2 ((M 46 2) + 1) → ow_Sp C (EM A L N) d mX6_readProduct (0, 0) [(3, 46), (0, l1)] N1 (fun r2 N2 => ow_O (EM A L N) N2 (N2 46 1) 7 ∧ ow_Sp C (EM A L N) d mX7_emit (0, 0) [(3, N2 46 1), (0, s0)] N2 (fun r3 N3 => ow_I (l2 + 1) ∧ ow_At C (EM A L N) (d + 1) mX6_readSum 7 [(0, (3, 46)), (1, (0, l1)), (2, (0, l2 + 1))] [] (0, 0) N3 K))) : ow_At C (EM A L N) (d + 1) mX6_readSum 55 [(0, (3, 46)), (1, (0, l1)), (2, (0, l2))] [(0, s0)] (0, 0) M K := by
  refine ow_istore_n (pc' := 56) (lv' := [(0, (3, 46)), (1, (0, l1)), (2, (0, l2)), (3, (0, s0))]) dX6_readSum_55 rfl rfl rfl ?_
  refine ow_aload_n (pc' := 57) (x := 46) dX6_readSum_56 rfl rfl ?_
  refine ow_dup (pc' := 58) dX6_readSum_57 rfl rfl ?_
  refine ow_getf3 (pc' := 61) (t := 0) (ji := 2) (val := M 46 2) dX6_readSum_58 fRX6_18 rfl rfl rfl (of_eq_true eo46) eg46_2 ?_
  refine ow_iconst (pc' := 62) (n := 1) dX6_readSum_61 rfl rfl ?_
  obtain ⟨vv1, h⟩ := h
  refine ow_iadd (pc' := 63) dX6_readSum_62 vv1 rfl ?_
  refine ow_putf2 (pc' := 66) (t := 0) (ji := 2) dX6_readSum_63 fRX6_18 rfl rfl rfl rfl (of_eq_true eo46) (of_eq_true en46_2) (fun hz => absurd hz (by decide)) (fun N1 eN1 => ?_)
  have h := h N1 eN1
  refine ow_aload_n (pc' := 67) (x := 46) dX6_readSum_66 rfl rfl ?_
  refine ow_iload_n (pc' := 68) (x := l1) dX6_readSum_67 rfl rfl ?_
  refine ow_callVv (z := mX6_readProduct) (n := 1) (k := 6) (vs := [(0, l1)]) (x := 46) (st := []) (pc' := 71) (b1 := (0, 0)) (b2 := (0, 0)) dX6_readSum_68 lRX6_147 kX6_readProduct iX6_readProduct rfl rfl rfl rfl rfl rfl (of_eq_true eo46) (ow_Sp.mono h (fun r2 N2 h => ?_))
  refine ow_aload_n (pc' := 72) (x := 46) dX6_readSum_71 rfl rfl ?_
  refine ow_getf3 (pc' := 75) (t := 3) (ji := 1) (val := N2 46 1) dX6_readSum_72 fRX6_12 rfl rfl rfl (of_eq_true eo46) eg46_1 ?_
  refine ow_iload_n (pc' := 76) (x := s0) dX6_readSum_75 rfl rfl ?_
  obtain ⟨w, h⟩ := h
  refine ow_callVv (z := mX7_emit) (n := 1) (k := 7) (vs := [(0, s0)]) (x := N2 46 1) (st := []) (pc' := 79) (b1 := (0, 0)) (b2 := (0, 0)) dX6_readSum_76 lRX6_134 kX7_emit iX7_emit rfl rfl rfl rfl rfl rfl w (ow_Sp.mono h (fun r3 N3 h => ?_))
  obtain ⟨vv2, h⟩ := h
  refine ow_iinc (pc' := 82) (lv' := [(0, (3, 46)), (1, (0, l1)), (2, (0, l2 + 1)), (3, (0, s0))]) dX6_readSum_79 rfl vv2 rfl rfl rfl ?_
  refine ow_goto (tg := 7) dX6_readSum_82 rfl ?_
  refine ow_sub (lv' := [(0, (3, 46)), (1, (0, l1)), (2, (0, l2 + 1))]) [0, 1, 2] rfl ?_
  exact h
theorem fX6_readSum {C : ow_C} {A L N : Int} {d : Nat} {M : ow_M} {K : Int → ow_M → Prop} {l1 : Int} (h : ow_Sp C (EM A L N) d mX6_readProduct (0, 0) [(3, 46), (0, l1)] M (fun r1 N1 => ow_At C (EM A L N) (d + 1) mX6_readSum 7 [(0, (3, 46)), (1, (0, l1)), (2, (0, 0))] [] (0, 0) N1 K)) : ow_Sp C (EM A L N) (d + 1) mX6_readSum (0, 0) [(3, 46), (0, l1)] M K := ow_enter (by decide +kernel) rfl rfl (cX6_readSum_0 h)
set_option maxRecDepth 20000 in
theorem cX6_readProduct_0 {C : ow_C} {A L N : Int} {d : Nat} {M : ow_M} {K : Int → ow_M → Prop} {l1 : Int} (h : ow_Sp C (EM A L N) d mX6_readOne (0, 0) [(3, 46), (0, l1)] M (fun r1 N1 => ow_At C (EM A L N) (d + 1) mX6_readProduct 7 [(0, (3, 46)), (1, (0, l1)), (2, (0, 0))] [] (0, 0) N1 K)) : ow_At C (EM A L N) (d + 1) mX6_readProduct 0 [(0, (3, 46)), (1, (0, l1))] [] (0, 0) M K := by
  refine ow_aload_n (pc' := 1) (x := 46) dX6_readProduct_0 rfl rfl ?_
  refine ow_iload_n (pc' := 2) (x := l1) dX6_readProduct_1 rfl rfl ?_
  refine ow_callVv (z := mX6_readOne) (n := 1) (k := 6) (vs := [(0, l1)]) (x := 46) (st := []) (pc' := 5) (b1 := (0, 0)) (b2 := (0, 0)) dX6_readProduct_2 lRX6_150 kX6_readOne iX6_readOne rfl rfl rfl rfl rfl rfl (of_eq_true eo46) (ow_Sp.mono h (fun r1 N1 h => ?_))
  refine ow_iconst (pc' := 6) (n := 0) dX6_readProduct_5 rfl rfl ?_
  refine ow_istore_n (pc' := 7) (lv' := [(0, (3, 46)), (1, (0, l1)), (2, (0, 0))]) dX6_readProduct_6 rfl rfl rfl ?_
  exact h
set_option maxRecDepth 20000 in
theorem cX6_readProduct_7 {C : ow_C} {A L N : Int} {d : Nat} {M : ow_M} {K : Int → ow_M → Prop} {l1 l2 : Int} (h : (300 ≤ l2 → K 0 M) ∧ (l2 < 300 → ((M 46 4) ≠ 0 → K 0 M) ∧ ((M 46 4) = 0 → ow_Sp C (EM A L N) d mX6_kind (0, 0) [(3, 46)] M (fun r1 N1 => (r1 = 42 → ow_At C (EM A L N) (d + 1) mX6_readProduct 39 [(0, (3, 46)), (1, (0, l1)), (2, (0, l2))] [] (0, 0) N1 K) ∧ (r1 ≠ 42 → ow_Sp C (EM A L N) d mX6_kind (0, 0) [(3, 46)] N1 (fun r2 N2 => (r2 ≠ 47 → K 0 N2) ∧ (r2 = 47 → ow_At C (EM A L N) (d + 1) mX6_readProduct 39 [(0, (3, 46)), (1, (0, l1)), (2, (0, l2))] [] (0, 0) N2 K))))))) : ow_At C (EM A L N) (d + 1) mX6_readProduct 7 [(0, (3, 46)), (1, (0, l1)), (2, (0, l2))] [] (0, 0) M K := by
  refine ow_iload_n (pc' := 8) (x := l2) dX6_readProduct_7 rfl rfl ?_
  refine ow_sipush (pc' := 11) (n := 300) dX6_readProduct_8 rfl rfl ?_
  refine ow_icmpge (pc' := 14) (tg := 85) dX6_readProduct_11 rfl rfl (fun hc => ?_) (fun hc => ?_)
  · have h := h.1 hc
    exact ow_vret dX6_readProduct_85 rfl rfl h
  · have h := h.2 hc
    refine ow_aload_n (pc' := 15) (x := 46) dX6_readProduct_14 rfl rfl ?_
    refine ow_getf3 (pc' := 18) (t := 0) (ji := 4) (val := M 46 4) dX6_readProduct_15 fRX6_25 rfl rfl rfl (of_eq_true eo46) eg46_4 ?_
    refine ow_ifne (pc' := 21) (tg := 85) dX6_readProduct_18 rfl rfl (fun hc => ?_) (fun hc => ?_)
    · have h := h.1 hc
      exact ow_vret dX6_readProduct_85 rfl rfl h
    · have h := h.2 hc
      refine ow_aload_n (pc' := 22) (x := 46) dX6_readProduct_21 rfl rfl ?_
      refine ow_callVp (z := mX6_kind) (n := 0) (k := 6) (vs := []) (x := 46) (st := []) (pc' := 25) (b1 := (0, 0)) (b2 := (0, 0)) dX6_readProduct_22 lRX6_47 kX6_kind iX6_kind rfl rfl rfl rfl rfl rfl (of_eq_true eo46) (ow_Sp.mono h (fun r1 N1 h => ?_))
      refine ow_bipush (pc' := 27) (n := 42) dX6_readProduct_25 rfl rfl ?_
      refine ow_icmpeq (pc' := 30) (tg := 39) dX6_readProduct_27 rfl rfl (fun hc => ?_) (fun hc => ?_)
      · have h := h.1 hc
        exact h
      · have h := h.2 hc
        refine ow_aload_n (pc' := 31) (x := 46) dX6_readProduct_30 rfl rfl ?_
        refine ow_callVp (z := mX6_kind) (n := 0) (k := 6) (vs := []) (x := 46) (st := []) (pc' := 34) (b1 := (0, 0)) (b2 := (0, 0)) dX6_readProduct_31 lRX6_47 kX6_kind iX6_kind rfl rfl rfl rfl rfl rfl (of_eq_true eo46) (ow_Sp.mono h (fun r2 N2 h => ?_))
        refine ow_bipush (pc' := 36) (n := 47) dX6_readProduct_34 rfl rfl ?_
        refine ow_icmpne (pc' := 39) (tg := 85) dX6_readProduct_36 rfl rfl (fun hc => ?_) (fun hc => ?_)
        · have h := h.1 hc
          exact ow_vret dX6_readProduct_85 rfl rfl h
        · have h := h.2 hc
          exact h
set_option maxRecDepth 20000 in
theorem cX6_readProduct_39 {C : ow_C} {A L N : Int} {d : Nat} {M : ow_M} {K : Int → ow_M → Prop} {l1 l2 : Int} (h : ow_Sp C (EM A L N) d mX6_kind (0, 0) [(3, 46)] M (fun r1 N1 => (r1 ≠ 42 → ow_At C (EM A L N) (d + 1) mX6_readProduct 55 [(0, (3, 46)), (1, (0, l1)), (2, (0, l2))] [(0, (-14))] (0, 0) N1 K) ∧ (r1 = 42 → ow_At C (EM A L N) (d + 1) mX6_readProduct 55 [(0, (3, 46)), (1, (0, l1)), (2, (0, l2))] [(0, (-13))] (0, 0) N1 K))) : ow_At C (EM A L N) (d + 1) mX6_readProduct 39 [(0, (3, 46)), (1, (0, l1)), (2, (0, l2))] [] (0, 0) M K := by
  refine ow_aload_n (pc' := 40) (x := 46) dX6_readProduct_39 rfl rfl ?_
  refine ow_callVp (z := mX6_kind) (n := 0) (k := 6) (vs := []) (x := 46) (st := []) (pc' := 43) (b1 := (0, 0)) (b2 := (0, 0)) dX6_readProduct_40 lRX6_47 kX6_kind iX6_kind rfl rfl rfl rfl rfl rfl (of_eq_true eo46) (ow_Sp.mono h (fun r1 N1 h => ?_))
  refine ow_bipush (pc' := 45) (n := 42) dX6_readProduct_43 rfl rfl ?_
  refine ow_icmpne (pc' := 48) (tg := 53) dX6_readProduct_45 rfl rfl (fun hc => ?_) (fun hc => ?_)
  · have h := h.1 hc
    refine ow_bipush (pc' := 55) (n := (-14)) dX6_readProduct_53 rfl rfl ?_
    exact h
  · have h := h.2 hc
    refine ow_bipush (pc' := 50) (n := (-13)) dX6_readProduct_48 rfl rfl ?_
    refine ow_goto (tg := 55) dX6_readProduct_50 rfl ?_
    exact h
set_option maxRecDepth 20000 in
theorem cX6_readProduct_55 {C : ow_C} {A L N : Int} {d : Nat} {M : ow_M} {K : Int → ow_M → Prop} {l1 l2 s0 : Int} (h : ow_I ((M 46 2) + 1) ∧ ∀ N1, N1 = ow_up M 46 2 ((M 46 2) + 1) → ow_Sp C (EM A L N) d mX6_readOne (0, 0) [(3, 46), (0, l1)] N1 (fun r2 N2 => ow_O (EM A L N) N2 (N2 46 1) 7 ∧ ow_Sp C (EM A L N) d mX7_emit (0, 0) [(3, N2 46 1), (0, s0)] N2 (fun r3 N3 => ow_I (l2 + 1) ∧ ow_At C (EM A L N) (d + 1) mX6_readProduct 7 [(0, (3, 46)), (1, (0, l1)), (2, (0, l2 + 1))] [] (0, 0) N3 K))) : ow_At C (EM A L N) (d + 1) mX6_readProduct 55 [(0, (3, 46)), (1, (0, l1)), (2, (0, l2))] [(0, s0)] (0, 0) M K := by
  refine ow_istore_n (pc' := 56) (lv' := [(0, (3, 46)), (1, (0, l1)), (2, (0, l2)), (3, (0, s0))]) dX6_readProduct_55 rfl rfl rfl ?_
  refine ow_aload_n (pc' := 57) (x := 46) dX6_readProduct_56 rfl rfl ?_
  refine ow_dup (pc' := 58) dX6_readProduct_57 rfl rfl ?_
  refine ow_getf3 (pc' := 61) (t := 0) (ji := 2) (val := M 46 2) dX6_readProduct_58 fRX6_18 rfl rfl rfl (of_eq_true eo46) eg46_2 ?_
  refine ow_iconst (pc' := 62) (n := 1) dX6_readProduct_61 rfl rfl ?_
  obtain ⟨vv1, h⟩ := h
  refine ow_iadd (pc' := 63) dX6_readProduct_62 vv1 rfl ?_
  refine ow_putf2 (pc' := 66) (t := 0) (ji := 2) dX6_readProduct_63 fRX6_18 rfl rfl rfl rfl (of_eq_true eo46) (of_eq_true en46_2) (fun hz => absurd hz (by decide)) (fun N1 eN1 => ?_)
  have h := h N1 eN1
  refine ow_aload_n (pc' := 67) (x := 46) dX6_readProduct_66 rfl rfl ?_
  refine ow_iload_n (pc' := 68) (x := l1) dX6_readProduct_67 rfl rfl ?_
  refine ow_callVv (z := mX6_readOne) (n := 1) (k := 6) (vs := [(0, l1)]) (x := 46) (st := []) (pc' := 71) (b1 := (0, 0)) (b2 := (0, 0)) dX6_readProduct_68 lRX6_150 kX6_readOne iX6_readOne rfl rfl rfl rfl rfl rfl (of_eq_true eo46) (ow_Sp.mono h (fun r2 N2 h => ?_))
  refine ow_aload_n (pc' := 72) (x := 46) dX6_readProduct_71 rfl rfl ?_
  refine ow_getf3 (pc' := 75) (t := 3) (ji := 1) (val := N2 46 1) dX6_readProduct_72 fRX6_12 rfl rfl rfl (of_eq_true eo46) eg46_1 ?_
  refine ow_iload_n (pc' := 76) (x := s0) dX6_readProduct_75 rfl rfl ?_
  obtain ⟨w, h⟩ := h
  refine ow_callVv (z := mX7_emit) (n := 1) (k := 7) (vs := [(0, s0)]) (x := N2 46 1) (st := []) (pc' := 79) (b1 := (0, 0)) (b2 := (0, 0)) dX6_readProduct_76 lRX6_134 kX7_emit iX7_emit rfl rfl rfl rfl rfl rfl w (ow_Sp.mono h (fun r3 N3 h => ?_))
  obtain ⟨vv2, h⟩ := h
  refine ow_iinc (pc' := 82) (lv' := [(0, (3, 46)), (1, (0, l1)), (2, (0, l2 + 1)), (3, (0, s0))]) dX6_readProduct_79 rfl vv2 rfl rfl rfl ?_
  refine ow_goto (tg := 7) dX6_readProduct_82 rfl ?_
  refine ow_sub (lv' := [(0, (3, 46)), (1, (0, l1)), (2, (0, l2 + 1))]) [0, 1, 2] rfl ?_
  exact h
theorem fX6_readProduct {C : ow_C} {A L N : Int} {d : Nat} {M : ow_M} {K : Int → ow_M → Prop} {l1 : Int} (h : ow_Sp C (EM A L N) d mX6_readOne (0, 0) [(3, 46), (0, l1)] M (fun r1 N1 => ow_At C (EM A L N) (d + 1) mX6_readProduct 7 [(0, (3, 46)), (1, (0, l1)), (2, (0, 0))] [] (0, 0) N1 K)) : ow_Sp C (EM A L N) (d + 1) mX6_readProduct (0, 0) [(3, 46), (0, l1)] M K := ow_enter (by decide +kernel) rfl rfl (cX6_readProduct_0 h)
set_option maxRecDepth 20000 in
theorem cX6_readOne_0 {C : ow_C} {A L N : Int} {d : Nat} {M : ow_M} {K : Int → ow_M → Prop} {l1 : Int} (h : ((M 46 4) = 0 → ow_Sp C (EM A L N) d mX6_kind (0, 0) [(3, 46)] M (fun r1 N1 => (r1 ≠ 2 → ow_Sp C (EM A L N) d mX6_kind (0, 0) [(3, 46)] N1 (fun r2 N2 => (r2 ≠ 40 → ow_Sp C (EM A L N) d mX6_kind (0, 0) [(3, 46)] N2 (fun r3 N3 => (r3 ≠ 45 → ow_Sp C (EM A L N) d mX6_readName (0, 0) [(3, 46)] N3 (fun r4 N4 => K 0 N4)) ∧ (r3 = 45 → ow_Sp C (EM A L N) d mX6_opensOneMore (0, 0) [(3, 46), (0, l1)] N3 (fun r5 N5 => (r5 = 0 → K 0 N5) ∧ (r5 ≠ 0 → ow_I (l1 + 1) ∧ ow_Sp C (EM A L N) d mX6_readOne (0, 0) [(3, 46), (0, l1 + 1)] N5 (fun r6 N6 => ow_O (EM A L N) N6 (N6 46 1) 7 ∧ ow_Sp C (EM A L N) d mX7_emit (0, 0) [(3, N6 46 1), (0, (-23))] N6 (fun r7 N7 => K 0 N7))))))) ∧ (r2 = 40 → ow_Sp C (EM A L N) d mX6_opensOneMore (0, 0) [(3, 46), (0, l1)] N2 (fun r8 N8 => (r8 = 0 → K 0 N8) ∧ (r8 ≠ 0 → ow_I (l1 + 1) ∧ ow_Sp C (EM A L N) d mX6_readSum (0, 0) [(3, 46), (0, l1 + 1)] N8 (fun r9 N9 => ow_Sp C (EM A L N) d mX6_kind (0, 0) [(3, 46)] N9 (fun r10 N10 => (r10 ≠ 41 → ow_At C (EM A L N) (d + 1) mX6_readOne 73 [] [(0, 0), (3, 46)] (0, 0) N10 K) ∧ (r10 = 41 → ow_At C (EM A L N) (d + 1) mX6_readOne 73 [] [(0, 1), (3, 46)] (0, 0) N10 K)))))))) ∧ (r1 = 2 → ow_Sp C (EM A L N) d mX6_readNumber (0, 0) [(3, 46), (0, 0), (0, 9999)] N1 (fun r11 N11 => ow_O (EM A L N) N11 (N1 46 1) 7 ∧ ow_Sp C (EM A L N) d mX7_emit (0, 0) [(3, N1 46 1), (0, r11)] N11 (fun r12 N12 => K 0 N12))))) ∧ ((M 46 4) ≠ 0 → K 0 M)) : ow_At C (EM A L N) (d + 1) mX6_readOne 0 [(0, (3, 46)), (1, (0, l1))] [] (0, 0) M K := by
  refine ow_aload_n (pc' := 1) (x := 46) dX6_readOne_0 rfl rfl ?_
  refine ow_getf3 (pc' := 4) (t := 0) (ji := 4) (val := M 46 4) dX6_readOne_1 fRX6_25 rfl rfl rfl (of_eq_true eo46) eg46_4 ?_
  refine ow_ifeq (pc' := 7) (tg := 8) dX6_readOne_4 rfl rfl (fun hc => ?_) (fun hc => ?_)
  · have h := h.1 hc
    refine ow_aload_n (pc' := 9) (x := 46) dX6_readOne_8 rfl rfl ?_
    refine ow_callVp (z := mX6_kind) (n := 0) (k := 6) (vs := []) (x := 46) (st := []) (pc' := 12) (b1 := (0, 0)) (b2 := (0, 0)) dX6_readOne_9 lRX6_47 kX6_kind iX6_kind rfl rfl rfl rfl rfl rfl (of_eq_true eo46) (ow_Sp.mono h (fun r1 N1 h => ?_))
    refine ow_iconst (pc' := 13) (n := 2) dX6_readOne_12 rfl rfl ?_
    refine ow_icmpne (pc' := 16) (tg := 34) dX6_readOne_13 rfl rfl (fun hc => ?_) (fun hc => ?_)
    · have h := h.1 hc
      refine ow_aload_n (pc' := 35) (x := 46) dX6_readOne_34 rfl rfl ?_
      refine ow_callVp (z := mX6_kind) (n := 0) (k := 6) (vs := []) (x := 46) (st := []) (pc' := 38) (b1 := (0, 0)) (b2 := (0, 0)) dX6_readOne_35 lRX6_47 kX6_kind iX6_kind rfl rfl rfl rfl rfl rfl (of_eq_true eo46) (ow_Sp.mono h (fun r2 N2 h => ?_))
      refine ow_bipush (pc' := 40) (n := 40) dX6_readOne_38 rfl rfl ?_
      refine ow_icmpne (pc' := 43) (tg := 79) dX6_readOne_40 rfl rfl (fun hc => ?_) (fun hc => ?_)
      · have h := h.1 hc
        refine ow_aload_n (pc' := 80) (x := 46) dX6_readOne_79 rfl rfl ?_
        refine ow_callVp (z := mX6_kind) (n := 0) (k := 6) (vs := []) (x := 46) (st := []) (pc' := 83) (b1 := (0, 0)) (b2 := (0, 0)) dX6_readOne_80 lRX6_47 kX6_kind iX6_kind rfl rfl rfl rfl rfl rfl (of_eq_true eo46) (ow_Sp.mono h (fun r3 N3 h => ?_))
        refine ow_bipush (pc' := 85) (n := 45) dX6_readOne_83 rfl rfl ?_
        refine ow_icmpne (pc' := 88) (tg := 115) dX6_readOne_85 rfl rfl (fun hc => ?_) (fun hc => ?_)
        · have h := h.1 hc
          refine ow_aload_n (pc' := 116) (x := 46) dX6_readOne_115 rfl rfl ?_
          refine ow_callVv (z := mX6_readName) (n := 0) (k := 6) (vs := []) (x := 46) (st := []) (pc' := 119) (b1 := (0, 0)) (b2 := (0, 0)) dX6_readOne_116 lRX6_153 kX6_readName iX6_readName rfl rfl rfl rfl rfl rfl (of_eq_true eo46) (ow_Sp.mono h (fun r4 N4 h => ?_))
          exact ow_vret dX6_readOne_119 rfl rfl h
        · have h := h.2 hc
          refine ow_aload_n (pc' := 89) (x := 46) dX6_readOne_88 rfl rfl ?_
          refine ow_iload_n (pc' := 90) (x := l1) dX6_readOne_89 rfl rfl ?_
          refine ow_callVp (z := mX6_opensOneMore) (n := 1) (k := 6) (vs := [(0, l1)]) (x := 46) (st := []) (pc' := 93) (b1 := (0, 0)) (b2 := (0, 0)) dX6_readOne_90 lRX6_140 kX6_opensOneMore iX6_opensOneMore rfl rfl rfl rfl rfl rfl (of_eq_true eo46) (ow_Sp.mono h (fun r5 N5 h => ?_))
          refine ow_ifeq (pc' := 96) (tg := 119) dX6_readOne_93 rfl rfl (fun hc => ?_) (fun hc => ?_)
          · have h := h.1 hc
            exact ow_vret dX6_readOne_119 rfl rfl h
          · have h := h.2 hc
            refine ow_aload_n (pc' := 97) (x := 46) dX6_readOne_96 rfl rfl ?_
            refine ow_iload_n (pc' := 98) (x := l1) dX6_readOne_97 rfl rfl ?_
            refine ow_iconst (pc' := 99) (n := 1) dX6_readOne_98 rfl rfl ?_
            obtain ⟨vv1, h⟩ := h
            refine ow_iadd (pc' := 100) dX6_readOne_99 vv1 rfl ?_
            refine ow_callVv (z := mX6_readOne) (n := 1) (k := 6) (vs := [(0, l1 + 1)]) (x := 46) (st := []) (pc' := 103) (b1 := (0, 0)) (b2 := (0, 0)) dX6_readOne_100 lRX6_150 kX6_readOne iX6_readOne rfl rfl rfl rfl rfl rfl (of_eq_true eo46) (ow_Sp.mono h (fun r6 N6 h => ?_))
            refine ow_aload_n (pc' := 104) (x := 46) dX6_readOne_103 rfl rfl ?_
            refine ow_getf3 (pc' := 107) (t := 3) (ji := 1) (val := N6 46 1) dX6_readOne_104 fRX6_12 rfl rfl rfl (of_eq_true eo46) eg46_1 ?_
            refine ow_bipush (pc' := 109) (n := (-23)) dX6_readOne_107 rfl rfl ?_
            obtain ⟨w, h⟩ := h
            refine ow_callVv (z := mX7_emit) (n := 1) (k := 7) (vs := [(0, (-23))]) (x := N6 46 1) (st := []) (pc' := 112) (b1 := (0, 0)) (b2 := (0, 0)) dX6_readOne_109 lRX6_134 kX7_emit iX7_emit rfl rfl rfl rfl rfl rfl w (ow_Sp.mono h (fun r7 N7 h => ?_))
            refine ow_goto (tg := 119) dX6_readOne_112 rfl ?_
            exact ow_vret dX6_readOne_119 rfl rfl h
      · have h := h.2 hc
        refine ow_aload_n (pc' := 44) (x := 46) dX6_readOne_43 rfl rfl ?_
        refine ow_iload_n (pc' := 45) (x := l1) dX6_readOne_44 rfl rfl ?_
        refine ow_callVp (z := mX6_opensOneMore) (n := 1) (k := 6) (vs := [(0, l1)]) (x := 46) (st := []) (pc' := 48) (b1 := (0, 0)) (b2 := (0, 0)) dX6_readOne_45 lRX6_140 kX6_opensOneMore iX6_opensOneMore rfl rfl rfl rfl rfl rfl (of_eq_true eo46) (ow_Sp.mono h (fun r8 N8 h => ?_))
        refine ow_ifeq (pc' := 51) (tg := 119) dX6_readOne_48 rfl rfl (fun hc => ?_) (fun hc => ?_)
        · have h := h.1 hc
          exact ow_vret dX6_readOne_119 rfl rfl h
        · have h := h.2 hc
          refine ow_aload_n (pc' := 52) (x := 46) dX6_readOne_51 rfl rfl ?_
          refine ow_iload_n (pc' := 53) (x := l1) dX6_readOne_52 rfl rfl ?_
          refine ow_iconst (pc' := 54) (n := 1) dX6_readOne_53 rfl rfl ?_
          obtain ⟨vv2, h⟩ := h
          refine ow_iadd (pc' := 55) dX6_readOne_54 vv2 rfl ?_
          refine ow_callVv (z := mX6_readSum) (n := 1) (k := 6) (vs := [(0, l1 + 1)]) (x := 46) (st := []) (pc' := 58) (b1 := (0, 0)) (b2 := (0, 0)) dX6_readOne_55 lRX6_103 kX6_readSum iX6_readSum rfl rfl rfl rfl rfl rfl (of_eq_true eo46) (ow_Sp.mono h (fun r9 N9 h => ?_))
          refine ow_aload_n (pc' := 59) (x := 46) dX6_readOne_58 rfl rfl ?_
          refine ow_aload_n (pc' := 60) (x := 46) dX6_readOne_59 rfl rfl ?_
          refine ow_callVp (z := mX6_kind) (n := 0) (k := 6) (vs := []) (x := 46) (st := [(3, 46)]) (pc' := 63) (b1 := (0, 0)) (b2 := (0, 0)) dX6_readOne_60 lRX6_47 kX6_kind iX6_kind rfl rfl rfl rfl rfl rfl (of_eq_true eo46) (ow_Sp.mono h (fun r10 N10 h => ?_))
          refine ow_bipush (pc' := 65) (n := 41) dX6_readOne_63 rfl rfl ?_
          refine ow_icmpne (pc' := 68) (tg := 72) dX6_readOne_65 rfl rfl (fun hc => ?_) (fun hc => ?_)
          · have h := h.1 hc
            refine ow_iconst (pc' := 73) (n := 0) dX6_readOne_72 rfl rfl ?_
            refine ow_sub (lv' := []) [] rfl ?_
            exact h
          · have h := h.2 hc
            refine ow_iconst (pc' := 69) (n := 1) dX6_readOne_68 rfl rfl ?_
            refine ow_goto (tg := 73) dX6_readOne_69 rfl ?_
            refine ow_sub (lv' := []) [] rfl ?_
            exact h
    · have h := h.2 hc
      refine ow_aload_n (pc' := 17) (x := 46) dX6_readOne_16 rfl rfl ?_
      refine ow_getf3 (pc' := 20) (t := 3) (ji := 1) (val := N1 46 1) dX6_readOne_17 fRX6_12 rfl rfl rfl (of_eq_true eo46) eg46_1 ?_
      refine ow_aload_n (pc' := 21) (x := 46) dX6_readOne_20 rfl rfl ?_
      refine ow_iconst (pc' := 22) (n := 0) dX6_readOne_21 rfl rfl ?_
      refine ow_sipush (pc' := 25) (n := 9999) dX6_readOne_22 rfl rfl ?_
      refine ow_callVp (z := mX6_readNumber) (n := 2) (k := 6) (vs := [(0, 0), (0, 9999)]) (x := 46) (st := [(3, N1 46 1)]) (pc' := 28) (b1 := (0, 0)) (b2 := (0, 0)) dX6_readOne_25 lRX6_112 kX6_readNumber iX6_readNumber rfl rfl rfl rfl rfl rfl (of_eq_true eo46) (ow_Sp.mono h (fun r11 N11 h => ?_))
      obtain ⟨w, h⟩ := h
      refine ow_callVv (z := mX7_emit) (n := 1) (k := 7) (vs := [(0, r11)]) (x := N1 46 1) (st := []) (pc' := 31) (b1 := (0, 0)) (b2 := (0, 0)) dX6_readOne_28 lRX6_134 kX7_emit iX7_emit rfl rfl rfl rfl rfl rfl w (ow_Sp.mono h (fun r12 N12 h => ?_))
      refine ow_goto (tg := 119) dX6_readOne_31 rfl ?_
      exact ow_vret dX6_readOne_119 rfl rfl h
  · have h := h.2 hc
    exact ow_vret dX6_readOne_7 rfl rfl h
set_option maxRecDepth 20000 in
theorem cX6_readOne_73 {C : ow_C} {A L N : Int} {d : Nat} {M : ow_M} {K : Int → ow_M → Prop} {s0 : Int} (h : ow_Sp C (EM A L N) d mX6_pass (0, 0) [(3, 46), (0, s0)] M (fun r1 N1 => K 0 N1)) : ow_At C (EM A L N) (d + 1) mX6_readOne 73 [] [(0, s0), (3, 46)] (0, 0) M K := by
  refine ow_callVv (z := mX6_pass) (n := 1) (k := 6) (vs := [(0, s0)]) (x := 46) (st := []) (pc' := 76) (b1 := (0, 0)) (b2 := (0, 0)) dX6_readOne_73 lRX6_93 kX6_pass iX6_pass rfl rfl rfl rfl rfl rfl (of_eq_true eo46) (ow_Sp.mono h (fun r1 N1 h => ?_))
  refine ow_goto (tg := 119) dX6_readOne_76 rfl ?_
  exact ow_vret dX6_readOne_119 rfl rfl h
theorem fX6_readOne {C : ow_C} {A L N : Int} {d : Nat} {M : ow_M} {K : Int → ow_M → Prop} {l1 : Int} (h : ((M 46 4) = 0 → ow_Sp C (EM A L N) d mX6_kind (0, 0) [(3, 46)] M (fun r1 N1 => (r1 ≠ 2 → ow_Sp C (EM A L N) d mX6_kind (0, 0) [(3, 46)] N1 (fun r2 N2 => (r2 ≠ 40 → ow_Sp C (EM A L N) d mX6_kind (0, 0) [(3, 46)] N2 (fun r3 N3 => (r3 ≠ 45 → ow_Sp C (EM A L N) d mX6_readName (0, 0) [(3, 46)] N3 (fun r4 N4 => K 0 N4)) ∧ (r3 = 45 → ow_Sp C (EM A L N) d mX6_opensOneMore (0, 0) [(3, 46), (0, l1)] N3 (fun r5 N5 => (r5 = 0 → K 0 N5) ∧ (r5 ≠ 0 → ow_I (l1 + 1) ∧ ow_Sp C (EM A L N) d mX6_readOne (0, 0) [(3, 46), (0, l1 + 1)] N5 (fun r6 N6 => ow_O (EM A L N) N6 (N6 46 1) 7 ∧ ow_Sp C (EM A L N) d mX7_emit (0, 0) [(3, N6 46 1), (0, (-23))] N6 (fun r7 N7 => K 0 N7))))))) ∧ (r2 = 40 → ow_Sp C (EM A L N) d mX6_opensOneMore (0, 0) [(3, 46), (0, l1)] N2 (fun r8 N8 => (r8 = 0 → K 0 N8) ∧ (r8 ≠ 0 → ow_I (l1 + 1) ∧ ow_Sp C (EM A L N) d mX6_readSum (0, 0) [(3, 46), (0, l1 + 1)] N8 (fun r9 N9 => ow_Sp C (EM A L N) d mX6_kind (0, 0) [(3, 46)] N9 (fun r10 N10 => (r10 ≠ 41 → ow_At C (EM A L N) (d + 1) mX6_readOne 73 [] [(0, 0), (3, 46)] (0, 0) N10 K) ∧ (r10 = 41 → ow_At C (EM A L N) (d + 1) mX6_readOne 73 [] [(0, 1), (3, 46)] (0, 0) N10 K)))))))) ∧ (r1 = 2 → ow_Sp C (EM A L N) d mX6_readNumber (0, 0) [(3, 46), (0, 0), (0, 9999)] N1 (fun r11 N11 => ow_O (EM A L N) N11 (N1 46 1) 7 ∧ ow_Sp C (EM A L N) d mX7_emit (0, 0) [(3, N1 46 1), (0, r11)] N11 (fun r12 N12 => K 0 N12))))) ∧ ((M 46 4) ≠ 0 → K 0 M)) : ow_Sp C (EM A L N) (d + 1) mX6_readOne (0, 0) [(3, 46), (0, l1)] M K := ow_enter (by decide +kernel) rfl rfl (cX6_readOne_0 h)
set_option maxRecDepth 20000 in
theorem cX6_readName_0 {C : ow_C} {A L N : Int} {d : Nat} {M : ow_M} {K : Int → ow_M → Prop} (h : ((M 46 2) < 0 → ow_At C (EM A L N) (d + 1) mX6_readName 37 [(0, (3, 46))] [(0, (-1))] (0, 0) M K) ∧ (0 ≤ (M 46 2) → ((M 53 5) ≤ (M 46 2) → ow_At C (EM A L N) (d + 1) mX6_readName 37 [(0, (3, 46))] [(0, (-1))] (0, 0) M K) ∧ ((M 46 2) < (M 53 5) → (0 ≤ (M 46 2) ∧ (M 46 2) < 301) ∧ ow_At C (EM A L N) (d + 1) mX6_readName 37 [(0, (3, 46))] [(0, M 56 (M 46 2))] (0, 0) M K))) : ow_At C (EM A L N) (d + 1) mX6_readName 0 [(0, (3, 46))] [] (0, 0) M K := by
  refine ow_aload_n (pc' := 1) (x := 46) dX6_readName_0 rfl rfl ?_
  refine ow_getf3 (pc' := 4) (t := 0) (ji := 2) (val := M 46 2) dX6_readName_1 fRX6_18 rfl rfl rfl (of_eq_true eo46) eg46_2 ?_
  refine ow_iflt (pc' := 7) (tg := 36) dX6_readName_4 rfl rfl (fun hc => ?_) (fun hc => ?_)
  · have h := h.1 hc
    refine ow_iconst (pc' := 37) (n := (-1)) dX6_readName_36 rfl rfl ?_
    exact h
  · have h := h.2 hc
    refine ow_aload_n (pc' := 8) (x := 46) dX6_readName_7 rfl rfl ?_
    refine ow_getf3 (pc' := 11) (t := 0) (ji := 2) (val := M 46 2) dX6_readName_8 fRX6_18 rfl rfl rfl (of_eq_true eo46) eg46_2 ?_
    refine ow_aload_n (pc' := 12) (x := 46) dX6_readName_11 rfl rfl ?_
    refine ow_getf3 (pc' := 15) (t := 3) (ji := 0) (val := 53) dX6_readName_12 fRX6_36 rfl rfl rfl (of_eq_true eo46) eg46_0 ?_
    refine ow_getf3 (pc' := 18) (t := 0) (ji := 5) (val := M 53 5) dX6_readName_15 fRX6_54 rfl rfl rfl (of_eq_true eo53) eg53_5 ?_
    refine ow_icmpge (pc' := 21) (tg := 36) dX6_readName_18 rfl rfl (fun hc => ?_) (fun hc => ?_)
    · have h := h.1 hc
      refine ow_iconst (pc' := 37) (n := (-1)) dX6_readName_36 rfl rfl ?_
      exact h
    · have h := h.2 hc
      refine ow_aload_n (pc' := 22) (x := 46) dX6_readName_21 rfl rfl ?_
      refine ow_getf3 (pc' := 25) (t := 3) (ji := 0) (val := 53) dX6_readName_22 fRX6_36 rfl rfl rfl (of_eq_true eo46) eg46_0 ?_
      refine ow_getf3 (pc' := 28) (t := 3) (ji := 3) (val := 56) dX6_readName_25 fRX6_60 rfl rfl rfl (of_eq_true eo53) eg53_3 ?_
      refine ow_aload_n (pc' := 29) (x := 46) dX6_readName_28 rfl rfl ?_
      refine ow_getf3 (pc' := 32) (t := 0) (ji := 2) (val := M 46 2) dX6_readName_29 fRX6_18 rfl rfl rfl (of_eq_true eo46) eg46_2 ?_
      obtain ⟨vv1, h⟩ := h
      refine ow_iaload3 (pc' := 33) (val := M 56 (M 46 2)) dX6_readName_32 rfl (Eq.mpr (er56 _) vv1) (ea56 _) ?_
      refine ow_goto (tg := 37) dX6_readName_33 rfl ?_
      exact h
set_option maxRecDepth 20000 in
theorem cX6_readName_37 {C : ow_C} {A L N : Int} {d : Nat} {M : ow_M} {K : Int → ow_M → Prop} {s0 : Int} (h : (s0 < 0 → ow_At C (EM A L N) (d + 1) mX6_readName 93 [(0, (3, 46))] [] (0, 0) M K) ∧ (0 ≤ s0 → (6 ≤ s0 → ow_At C (EM A L N) (d + 1) mX6_readName 93 [(0, (3, 46))] [] (0, 0) M K) ∧ (s0 < 6 → ow_I (((-1)) - s0) ∧ ow_O (EM A L N) M (M 46 1) 7 ∧ ow_Sp C (EM A L N) d mX7_emit (0, 0) [(3, M 46 1), (0, ((-1)) - s0)] M (fun r1 N1 => ow_O (EM A L N) N1 (N1 46 1) 7 ∧ (s0 ≠ 3 → ow_At C (EM A L N) (d + 1) mX6_readName 76 [(0, (3, 46))] [(0, 0), (0, ow_gv (EM A L N) N1 (N1 46 1) 2), (3, N1 46 1)] (0, 0) N1 K) ∧ (s0 = 3 → ow_At C (EM A L N) (d + 1) mX6_readName 76 [(0, (3, 46))] [(0, 1), (0, ow_gv (EM A L N) N1 (N1 46 1) 2), (3, N1 46 1)] (0, 0) N1 K))))) : ow_At C (EM A L N) (d + 1) mX6_readName 37 [(0, (3, 46))] [(0, s0)] (0, 0) M K := by
  refine ow_istore_n (pc' := 38) (lv' := [(0, (3, 46)), (1, (0, s0))]) dX6_readName_37 rfl rfl rfl ?_
  refine ow_iload_n (pc' := 39) (x := s0) dX6_readName_38 rfl rfl ?_
  refine ow_iflt (pc' := 42) (tg := 93) dX6_readName_39 rfl rfl (fun hc => ?_) (fun hc => ?_)
  · have h := h.1 hc
    refine ow_sub (lv' := [(0, (3, 46))]) [0] rfl ?_
    exact h
  · have h := h.2 hc
    refine ow_iload_n (pc' := 43) (x := s0) dX6_readName_42 rfl rfl ?_
    refine ow_bipush (pc' := 45) (n := 6) dX6_readName_43 rfl rfl ?_
    refine ow_icmpge (pc' := 48) (tg := 93) dX6_readName_45 rfl rfl (fun hc => ?_) (fun hc => ?_)
    · have h := h.1 hc
      refine ow_sub (lv' := [(0, (3, 46))]) [0] rfl ?_
      exact h
    · have h := h.2 hc
      refine ow_aload_n (pc' := 49) (x := 46) dX6_readName_48 rfl rfl ?_
      refine ow_getf3 (pc' := 52) (t := 3) (ji := 1) (val := M 46 1) dX6_readName_49 fRX6_12 rfl rfl rfl (of_eq_true eo46) eg46_1 ?_
      refine ow_iconst (pc' := 53) (n := (-1)) dX6_readName_52 rfl rfl ?_
      refine ow_iload_n (pc' := 54) (x := s0) dX6_readName_53 rfl rfl ?_
      obtain ⟨vv1, h⟩ := h
      refine ow_isub (pc' := 55) dX6_readName_54 vv1 rfl ?_
      obtain ⟨w, h⟩ := h
      refine ow_callVv (z := mX7_emit) (n := 1) (k := 7) (vs := [(0, ((-1)) - s0)]) (x := M 46 1) (st := []) (pc' := 58) (b1 := (0, 0)) (b2 := (0, 0)) dX6_readName_55 lRX6_134 kX7_emit iX7_emit rfl rfl rfl rfl rfl rfl w (ow_Sp.mono h (fun r1 N1 h => ?_))
      refine ow_aload_n (pc' := 59) (x := 46) dX6_readName_58 rfl rfl ?_
      refine ow_getf3 (pc' := 62) (t := 3) (ji := 1) (val := N1 46 1) dX6_readName_59 fRX6_12 rfl rfl rfl (of_eq_true eo46) eg46_1 ?_
      refine ow_dup (pc' := 63) dX6_readName_62 rfl rfl ?_
      obtain ⟨w, h⟩ := h
      refine ow_getf2 (pc' := 66) (t := 0) (ji := 2) dX6_readName_63 fRX6_156 rfl rfl rfl w ?_
      refine ow_iload_n (pc' := 67) (x := s0) dX6_readName_66 rfl rfl ?_
      refine ow_iconst (pc' := 68) (n := 3) dX6_readName_67 rfl rfl ?_
      refine ow_icmpne (pc' := 71) (tg := 75) dX6_readName_68 rfl rfl (fun hc => ?_) (fun hc => ?_)
      · have h := h.1 hc
        refine ow_iconst (pc' := 76) (n := 0) dX6_readName_75 rfl rfl ?_
        refine ow_sub (lv' := [(0, (3, 46))]) [0] rfl ?_
        exact h
      · have h := h.2 hc
        refine ow_iconst (pc' := 72) (n := 1) dX6_readName_71 rfl rfl ?_
        refine ow_goto (tg := 76) dX6_readName_72 rfl ?_
        refine ow_sub (lv' := [(0, (3, 46))]) [0] rfl ?_
        exact h
set_option maxRecDepth 20000 in
theorem cX6_readName_93 {C : ow_C} {A L N : Int} {d : Nat} {M : ow_M} {K : Int → ow_M → Prop} (h : ow_Sp C (EM A L N) d mX6_fail (0, 0) [(3, 46), (0, 1)] M (fun r1 N1 => K 0 N1)) : ow_At C (EM A L N) (d + 1) mX6_readName 93 [(0, (3, 46))] [] (0, 0) M K := by
  refine ow_aload_n (pc' := 94) (x := 46) dX6_readName_93 rfl rfl ?_
  refine ow_iconst (pc' := 95) (n := 1) dX6_readName_94 rfl rfl ?_
  refine ow_callVv (z := mX6_fail) (n := 1) (k := 6) (vs := [(0, 1)]) (x := 46) (st := []) (pc' := 98) (b1 := (0, 0)) (b2 := (0, 0)) dX6_readName_95 lRX6_66 kX6_fail iX6_fail rfl rfl rfl rfl rfl rfl (of_eq_true eo46) (ow_Sp.mono h (fun r1 N1 h => ?_))
  exact ow_vret dX6_readName_98 rfl rfl h
set_option maxRecDepth 20000 in
theorem cX6_readName_76 {C : ow_C} {A L N : Int} {d : Nat} {M : ow_M} {K : Int → ow_M → Prop} {s0 s1 s2 : Int} (h : ow_O (EM A L N) M s2 7 ∧ (EM A L N).1 s2 2 = none ∧ ((ow_or s1 s0) = 0 ∨ (ow_or s1 s0) = 1) ∧ ∀ N1, N1 = ow_up M s2 2 (ow_or s1 s0) → ow_I ((N1 46 2) + 1) ∧ ∀ N2, N2 = ow_up N1 46 2 ((N1 46 2) + 1) → K 0 N2) : ow_At C (EM A L N) (d + 1) mX6_readName 76 [(0, (3, 46))] [(0, s0), (0, s1), (3, s2)] (0, 0) M K := by
  refine ow_ior (pc' := 77) dX6_readName_76 rfl ?_
  obtain ⟨w, w1, w2, h⟩ := h
  refine ow_putf2 (pc' := 80) (t := 0) (ji := 2) dX6_readName_77 fRX6_156 rfl rfl rfl rfl w w1 (fun _ => w2) (fun N1 eN1 => ?_)
  have h := h N1 eN1
  refine ow_aload_n (pc' := 81) (x := 46) dX6_readName_80 rfl rfl ?_
  refine ow_dup (pc' := 82) dX6_readName_81 rfl rfl ?_
  refine ow_getf3 (pc' := 85) (t := 0) (ji := 2) (val := N1 46 2) dX6_readName_82 fRX6_18 rfl rfl rfl (of_eq_true eo46) eg46_2 ?_
  refine ow_iconst (pc' := 86) (n := 1) dX6_readName_85 rfl rfl ?_
  obtain ⟨vv1, h⟩ := h
  refine ow_iadd (pc' := 87) dX6_readName_86 vv1 rfl ?_
  refine ow_putf2 (pc' := 90) (t := 0) (ji := 2) dX6_readName_87 fRX6_18 rfl rfl rfl rfl (of_eq_true eo46) (of_eq_true en46_2) (fun hz => absurd hz (by decide)) (fun N2 eN2 => ?_)
  have h := h N2 eN2
  refine ow_goto (tg := 98) dX6_readName_90 rfl ?_
  exact ow_vret dX6_readName_98 rfl rfl h
theorem fX6_readName {C : ow_C} {A L N : Int} {d : Nat} {M : ow_M} {K : Int → ow_M → Prop} (h : ((M 46 2) < 0 → ow_At C (EM A L N) (d + 1) mX6_readName 37 [(0, (3, 46))] [(0, (-1))] (0, 0) M K) ∧ (0 ≤ (M 46 2) → ((M 53 5) ≤ (M 46 2) → ow_At C (EM A L N) (d + 1) mX6_readName 37 [(0, (3, 46))] [(0, (-1))] (0, 0) M K) ∧ ((M 46 2) < (M 53 5) → (0 ≤ (M 46 2) ∧ (M 46 2) < 301) ∧ ow_At C (EM A L N) (d + 1) mX6_readName 37 [(0, (3, 46))] [(0, M 56 (M 46 2))] (0, 0) M K))) : ow_Sp C (EM A L N) (d + 1) mX6_readName (0, 0) [(3, 46)] M K := ow_enter (by decide +kernel) rfl rfl (cX6_readName_0 h)
