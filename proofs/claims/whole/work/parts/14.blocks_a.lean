set_option maxRecDepth 20000 in
theorem bX0_init_0 {C : ow_C} {E : ow_E} {d : Nat} {M : ow_M} {K : Int → ow_M → Prop} {bc bs : Nat} {l0 l1 : Int} (hE : E.2.2 = none) (hF : ∀ c i, E.1 c i = none) (h : 0 ≤ l0 ∧ l0 < 900 ∧ E.2.1 (M (-1) 0) = (100, 40) ∧ M (-1) 0 < 800 ∧ (0 : Int) ≤ 40 ∧ (40 : Int) ≤ ((40 : Nat) : Int) ∧ ∀ q1 N1, q1 = M (-1) 0 → N1 = ow_mk1 M (fun _ => 0) → ow_O E N1 l0 0 ∧ E.1 l0 1 = none ∧ ∀ N2, N2 = ow_up N1 l0 1 q1 → E.2.1 (N2 (-1) 0) = (100, 40) ∧ N2 (-1) 0 < 800 ∧ (0 : Int) ≤ 40 ∧ (40 : Int) ≤ ((40 : Nat) : Int) ∧ ∀ q3 N3, q3 = N2 (-1) 0 → N3 = ow_mk1 N2 (fun _ => 0) → ow_O E N3 l0 0 ∧ E.1 l0 2 = none ∧ ∀ N4, N4 = ow_up N3 l0 2 q3 → ow_O E N4 l0 0 ∧ E.1 l0 4 = none ∧ ∀ N5, N5 = ow_up N4 l0 4 0 → ow_O E N5 l0 0 ∧ E.1 l0 0 = none ∧ ∀ N6, N6 = ow_up N5 l0 0 l1 → ow_O E N6 l1 10 ∧ E.2.1 (N6 (-1) 0) = (102, ow_gv E N6 l1 2) ∧ N6 (-1) 0 < 800 ∧ (0 : Int) ≤ (ow_gv E N6 l1 2) ∧ ((ow_gv E N6 l1 2) : Int) ≤ ((256 : Nat) : Int) ∧ ∀ q7 N7, q7 = N6 (-1) 0 → N7 = ow_mk1 N6 (fun _ => 0) → ow_O E N7 l0 0 ∧ E.1 l0 3 = none ∧ ∀ N8, N8 = ow_up N7 l0 3 q7 → K 0 N8) : ow_At C E (d + 1) mX0_init 0 [(0, (3, l0)), (1, (3, l1))] [] (bc + 3, bs + 336) M K := by
  refine ow_aload_n (pc' := 1) (x := l0) dX0_init_0 rfl rfl ?_
  obtain ⟨w, w1, h⟩ := h
  refine ow_objinit (pc' := 4) dX0_init_1 lRX0_3 ow_oi1 ow_oi2 rfl rfl w w1 ?_
  refine ow_aload_n (pc' := 5) (x := l0) dX0_init_4 rfl rfl ?_
  refine ow_bipush (pc' := 7) (n := 40) dX0_init_5 rfl rfl ?_
  obtain ⟨w, w1, w2, w3, h⟩ := h
  refine ow_newi2 (pc' := 9) (N := 40) (b2 := (bc + 2, bs + 296)) dX0_init_7 ow_arI rfl hE hF w w1 w2 w3 rfl (Prod.ext (by show bc + _ = _ + (bc + _); omega) (by show bs + _ = _ + (bs + _); omega)) (fun q1 N1 eq1 eN1 => ?_)
  have h := h q1 N1 eq1 eN1
  obtain ⟨w, w1, h⟩ := h
  refine ow_putF2 (pc' := 12) (t := 3) (ji := 1) dX0_init_9 gRX0_9 rfl rfl rfl rfl rfl w w1 (fun hz => absurd hz (by decide)) (fun N2 eN2 => ?_)
  have h := h N2 eN2
  refine ow_aload_n (pc' := 13) (x := l0) dX0_init_12 rfl rfl ?_
  refine ow_bipush (pc' := 15) (n := 40) dX0_init_13 rfl rfl ?_
  obtain ⟨w, w1, w2, w3, h⟩ := h
  refine ow_newi2 (pc' := 17) (N := 40) (b2 := (bc + 1, bs + 256)) dX0_init_15 ow_arI rfl hE hF w w1 w2 w3 rfl (Prod.ext (by show bc + _ = _ + (bc + _); omega) (by show bs + _ = _ + (bs + _); omega)) (fun q3 N3 eq3 eN3 => ?_)
  have h := h q3 N3 eq3 eN3
  obtain ⟨w, w1, h⟩ := h
  refine ow_putF2 (pc' := 20) (t := 3) (ji := 2) dX0_init_17 gRX0_15 rfl rfl rfl rfl rfl w w1 (fun hz => absurd hz (by decide)) (fun N4 eN4 => ?_)
  have h := h N4 eN4
  refine ow_aload_n (pc' := 21) (x := l0) dX0_init_20 rfl rfl ?_
  refine ow_iconst (pc' := 22) (n := 0) dX0_init_21 rfl rfl ?_
  obtain ⟨w, w1, h⟩ := h
  refine ow_putf2 (pc' := 25) (t := 0) (ji := 4) dX0_init_22 fRX0_18 rfl rfl rfl rfl w w1 (fun hz => absurd hz (by decide)) (fun N5 eN5 => ?_)
  have h := h N5 eN5
  refine ow_aload_n (pc' := 26) (x := l0) dX0_init_25 rfl rfl ?_
  refine ow_aload_n (pc' := 27) (x := l1) dX0_init_26 rfl rfl ?_
  obtain ⟨w, w1, h⟩ := h
  refine ow_putF2 (pc' := 30) (t := 3) (ji := 0) dX0_init_27 gRX0_22 rfl rfl rfl rfl rfl w w1 (fun hz => absurd hz (by decide)) (fun N6 eN6 => ?_)
  have h := h N6 eN6
  refine ow_aload_n (pc' := 31) (x := l0) dX0_init_30 rfl rfl ?_
  refine ow_aload_n (pc' := 32) (x := l1) dX0_init_31 rfl rfl ?_
  obtain ⟨w, h⟩ := h
  refine ow_getf2 (pc' := 35) (t := 0) (ji := 2) dX0_init_32 fRX0_26 rfl rfl rfl w ?_
  obtain ⟨w, w1, w2, w3, h⟩ := h
  refine ow_newz2 (pc' := 37) (N := 256) (b2 := (bc + 0, bs + 0)) dX0_init_35 ow_arZ rfl hE hF w w1 w2 w3 rfl (Prod.ext (by show bc + _ = _ + (bc + _); omega) (by show bs + _ = _ + (bs + _); omega)) (fun q7 N7 eq7 eN7 => ?_)
  have h := h q7 N7 eq7 eN7
  obtain ⟨w, w1, h⟩ := h
  refine ow_putF2 (pc' := 40) (t := 3) (ji := 3) dX0_init_37 gRX0_31 rfl rfl rfl rfl rfl w w1 (fun hz => absurd hz (by decide)) (fun N8 eN8 => ?_)
  have h := h N8 eN8
  refine ow_less (b' := (0, 0)) rfl rfl ?_
  exact ow_vret dX0_init_40 rfl rfl h
theorem eX0_init {C : ow_C} {E : ow_E} {d : Nat} {M : ow_M} {K : Int → ow_M → Prop} {l0 l1 : Int} (hE : E.2.2 = none) (hF : ∀ c i, E.1 c i = none) (h : 0 ≤ l0 ∧ l0 < 900 ∧ E.2.1 (M (-1) 0) = (100, 40) ∧ M (-1) 0 < 800 ∧ (0 : Int) ≤ 40 ∧ (40 : Int) ≤ ((40 : Nat) : Int) ∧ ∀ q1 N1, q1 = M (-1) 0 → N1 = ow_mk1 M (fun _ => 0) → ow_O E N1 l0 0 ∧ E.1 l0 1 = none ∧ ∀ N2, N2 = ow_up N1 l0 1 q1 → E.2.1 (N2 (-1) 0) = (100, 40) ∧ N2 (-1) 0 < 800 ∧ (0 : Int) ≤ 40 ∧ (40 : Int) ≤ ((40 : Nat) : Int) ∧ ∀ q3 N3, q3 = N2 (-1) 0 → N3 = ow_mk1 N2 (fun _ => 0) → ow_O E N3 l0 0 ∧ E.1 l0 2 = none ∧ ∀ N4, N4 = ow_up N3 l0 2 q3 → ow_O E N4 l0 0 ∧ E.1 l0 4 = none ∧ ∀ N5, N5 = ow_up N4 l0 4 0 → ow_O E N5 l0 0 ∧ E.1 l0 0 = none ∧ ∀ N6, N6 = ow_up N5 l0 0 l1 → ow_O E N6 l1 10 ∧ E.2.1 (N6 (-1) 0) = (102, ow_gv E N6 l1 2) ∧ N6 (-1) 0 < 800 ∧ (0 : Int) ≤ (ow_gv E N6 l1 2) ∧ ((ow_gv E N6 l1 2) : Int) ≤ ((256 : Nat) : Int) ∧ ∀ q7 N7, q7 = N6 (-1) 0 → N7 = ow_mk1 N6 (fun _ => 0) → ow_O E N7 l0 0 ∧ E.1 l0 3 = none ∧ ∀ N8, N8 = ow_up N7 l0 3 q7 → K 0 N8) : ow_Sp C E (d + 1) mX0_init (0 + 3, 0 + 336) [(3, l0), (3, l1)] M K := ow_enter (by decide +kernel) rfl rfl (bX0_init_0 hE hF h)
set_option maxRecDepth 20000 in
theorem bX0_has_0 {C : ow_C} {E : ow_E} {d : Nat} {M : ow_M} {K : Int → ow_M → Prop} {l0 l1 : Int} (h : (l1 < 0 → K 0 M) ∧ (0 ≤ l1 → ow_O E M l0 0 ∧ ((ow_gv E M l0 4) ≤ l1 → K 0 M) ∧ (l1 < (ow_gv E M l0 4) → (40 ≤ l1 → K 0 M) ∧ (l1 < 40 → K 1 M)))) : ow_At C E d mX0_has 0 [(0, (3, l0)), (1, (0, l1))] [] (0, 0) M K := by
  refine ow_iload_n (pc' := 1) (x := l1) dX0_has_0 rfl rfl ?_
  refine ow_iflt (pc' := 4) (tg := 22) dX0_has_1 rfl rfl (fun hc => ?_) (fun hc => ?_)
  · have h := h.1 hc
    refine ow_iconst (pc' := 23) (n := 0) dX0_has_22 rfl rfl ?_
    exact ow_zret dX0_has_23 rfl rfl (Or.inl rfl) h
  · have h := h.2 hc
    refine ow_iload_n (pc' := 5) (x := l1) dX0_has_4 rfl rfl ?_
    refine ow_aload_n (pc' := 6) (x := l0) dX0_has_5 rfl rfl ?_
    obtain ⟨w, h⟩ := h
    refine ow_getf2 (pc' := 9) (t := 0) (ji := 4) dX0_has_6 fRX0_18 rfl rfl rfl w ?_
    refine ow_icmpge (pc' := 12) (tg := 22) dX0_has_9 rfl rfl (fun hc => ?_) (fun hc => ?_)
    · have h := h.1 hc
      refine ow_iconst (pc' := 23) (n := 0) dX0_has_22 rfl rfl ?_
      exact ow_zret dX0_has_23 rfl rfl (Or.inl rfl) h
    · have h := h.2 hc
      refine ow_iload_n (pc' := 13) (x := l1) dX0_has_12 rfl rfl ?_
      refine ow_bipush (pc' := 15) (n := 40) dX0_has_13 rfl rfl ?_
      refine ow_icmpge (pc' := 18) (tg := 22) dX0_has_15 rfl rfl (fun hc => ?_) (fun hc => ?_)
      · have h := h.1 hc
        refine ow_iconst (pc' := 23) (n := 0) dX0_has_22 rfl rfl ?_
        exact ow_zret dX0_has_23 rfl rfl (Or.inl rfl) h
      · have h := h.2 hc
        refine ow_iconst (pc' := 19) (n := 1) dX0_has_18 rfl rfl ?_
        refine ow_goto (tg := 23) dX0_has_19 rfl ?_
        exact ow_zret dX0_has_23 rfl rfl (Or.inr rfl) h
theorem eX0_has {C : ow_C} {E : ow_E} {d : Nat} {M : ow_M} {K : Int → ow_M → Prop} {l0 l1 : Int} (h : (l1 < 0 → K 0 M) ∧ (0 ≤ l1 → ow_O E M l0 0 ∧ ((ow_gv E M l0 4) ≤ l1 → K 0 M) ∧ (l1 < (ow_gv E M l0 4) → (40 ≤ l1 → K 0 M) ∧ (l1 < 40 → K 1 M)))) : ow_Sp C E d mX0_has (0, 0) [(3, l0), (0, l1)] M K := ow_enter (by decide +kernel) rfl rfl (bX0_has_0 h)
set_option maxRecDepth 20000 in
theorem bX0_add_0 {C : ow_C} {E : ow_E} {d : Nat} {M : ow_M} {K : Int → ow_M → Prop} {l0 l1 l2 : Int} (h : ow_O E M l0 0 ∧ ow_O E M (ow_gv E M l0 0) 10 ∧ ow_Sp C E d mX10_isWord (0, 0) [(3, ow_gv E M l0 0), (0, l1)] M (fun r1 N1 => (r1 = 0 → K 0 N1) ∧ (r1 ≠ 0 → (l2 < 1 → K 0 N1) ∧ (1 ≤ l2 → (l2 ≤ 9 → ow_O E N1 l0 0 ∧ ow_R E N1 (ow_gv E N1 l0 3) 102 l1 ∧ ((ow_gv E N1 (ow_gv E N1 l0 3) l1) ≠ 0 → K 0 N1) ∧ ((ow_gv E N1 (ow_gv E N1 l0 3) l1) = 0 → ow_O E N1 l0 0 ∧ ((ow_gv E N1 l0 4) < 40 → ow_O E N1 l0 0 ∧ ow_O E N1 l0 0 ∧ ow_R E N1 (ow_gv E N1 l0 1) 100 (ow_gv E N1 l0 4) ∧ E.1 (ow_gv E N1 l0 1) (ow_gv E N1 l0 4) = none ∧ ∀ N2, N2 = ow_up N1 (ow_gv E N1 l0 1) (ow_gv E N1 l0 4) l1 → ow_O E N2 l0 0 ∧ ow_O E N2 l0 0 ∧ ow_R E N2 (ow_gv E N2 l0 2) 100 (ow_gv E N2 l0 4) ∧ E.1 (ow_gv E N2 l0 2) (ow_gv E N2 l0 4) = none ∧ ∀ N3, N3 = ow_up N2 (ow_gv E N2 l0 2) (ow_gv E N2 l0 4) l2 → ow_O E N3 l0 0 ∧ ow_R E N3 (ow_gv E N3 l0 3) 102 l1 ∧ E.1 (ow_gv E N3 l0 3) l1 = none ∧ ∀ N4, N4 = ow_up N3 (ow_gv E N3 l0 3) l1 1 → ow_O E N4 l0 0 ∧ ow_I ((ow_gv E N4 l0 4) + 1) ∧ ow_O E N4 l0 0 ∧ E.1 l0 4 = none ∧ ∀ N5, N5 = ow_up N4 l0 4 ((ow_gv E N4 l0 4) + 1) → K 1 N5) ∧ (40 ≤ (ow_gv E N1 l0 4) → K 0 N1))) ∧ (9 < l2 → K 0 N1))))) : ow_At C E (d + 1) mX0_add 0 [(0, (3, l0)), (1, (0, l1)), (2, (0, l2))] [] (0, 0) M K := by
  refine ow_aload_n (pc' := 1) (x := l0) dX0_add_0 rfl rfl ?_
  obtain ⟨w, h⟩ := h
  refine ow_getf2 (pc' := 4) (t := 3) (ji := 0) dX0_add_1 fRX0_22 rfl rfl rfl w ?_
  refine ow_iload_n (pc' := 5) (x := l1) dX0_add_4 rfl rfl ?_
  obtain ⟨w, h⟩ := h
  refine ow_callVp (z := mX10_isWord) (n := 1) (k := 10) (vs := [(0, l1)]) (x := ow_gv E M l0 0) (st := []) (pc' := 8) (b1 := (0, 0)) (b2 := (0, 0)) dX0_add_5 lRX0_35 kX10_isWord iX10_isWord rfl rfl rfl rfl rfl rfl w (ow_Sp.mono h (fun r1 N1 h => ?_))
  refine ow_ifeq (pc' := 11) (tg := 22) dX0_add_8 rfl rfl (fun hc => ?_) (fun hc => ?_)
  · have h := h.1 hc
    refine ow_iconst (pc' := 23) (n := 0) dX0_add_22 rfl rfl ?_
    exact ow_zret dX0_add_23 rfl rfl (Or.inl rfl) h
  · have h := h.2 hc
    refine ow_iload_n (pc' := 12) (x := l2) dX0_add_11 rfl rfl ?_
    refine ow_iconst (pc' := 13) (n := 1) dX0_add_12 rfl rfl ?_
    refine ow_icmplt (pc' := 16) (tg := 22) dX0_add_13 rfl rfl (fun hc => ?_) (fun hc => ?_)
    · have h := h.1 hc
      refine ow_iconst (pc' := 23) (n := 0) dX0_add_22 rfl rfl ?_
      exact ow_zret dX0_add_23 rfl rfl (Or.inl rfl) h
    · have h := h.2 hc
      refine ow_iload_n (pc' := 17) (x := l2) dX0_add_16 rfl rfl ?_
      refine ow_bipush (pc' := 19) (n := 9) dX0_add_17 rfl rfl ?_
      refine ow_icmple (pc' := 22) (tg := 24) dX0_add_19 rfl rfl (fun hc => ?_) (fun hc => ?_)
      · have h := h.1 hc
        refine ow_aload_n (pc' := 25) (x := l0) dX0_add_24 rfl rfl ?_
        obtain ⟨w, h⟩ := h
        refine ow_getf2 (pc' := 28) (t := 3) (ji := 3) dX0_add_25 fRX0_31 rfl rfl rfl w ?_
        refine ow_iload_n (pc' := 29) (x := l1) dX0_add_28 rfl rfl ?_
        obtain ⟨w, h⟩ := h
        refine ow_baload (pc' := 30) dX0_add_29 rfl w ?_
        refine ow_ifne (pc' := 33) (tg := 42) dX0_add_30 rfl rfl (fun hc => ?_) (fun hc => ?_)
        · have h := h.1 hc
          refine ow_iconst (pc' := 43) (n := 0) dX0_add_42 rfl rfl ?_
          exact ow_zret dX0_add_43 rfl rfl (Or.inl rfl) h
        · have h := h.2 hc
          refine ow_aload_n (pc' := 34) (x := l0) dX0_add_33 rfl rfl ?_
          obtain ⟨w, h⟩ := h
          refine ow_getf2 (pc' := 37) (t := 0) (ji := 4) dX0_add_34 fRX0_18 rfl rfl rfl w ?_
          refine ow_bipush (pc' := 39) (n := 40) dX0_add_37 rfl rfl ?_
          refine ow_icmplt (pc' := 42) (tg := 44) dX0_add_39 rfl rfl (fun hc => ?_) (fun hc => ?_)
          · have h := h.1 hc
            refine ow_aload_n (pc' := 45) (x := l0) dX0_add_44 rfl rfl ?_
            obtain ⟨w, h⟩ := h
            refine ow_getf2 (pc' := 48) (t := 3) (ji := 1) dX0_add_45 fRX0_9 rfl rfl rfl w ?_
            refine ow_aload_n (pc' := 49) (x := l0) dX0_add_48 rfl rfl ?_
            obtain ⟨w, h⟩ := h
            refine ow_getf2 (pc' := 52) (t := 0) (ji := 4) dX0_add_49 fRX0_18 rfl rfl rfl w ?_
            refine ow_iload_n (pc' := 53) (x := l1) dX0_add_52 rfl rfl ?_
            obtain ⟨w, w1, h⟩ := h
            refine ow_iastore2 (pc' := 54) dX0_add_53 rfl w w1 (fun N2 eN2 => ?_)
            have h := h N2 eN2
            refine ow_aload_n (pc' := 55) (x := l0) dX0_add_54 rfl rfl ?_
            obtain ⟨w, h⟩ := h
            refine ow_getf2 (pc' := 58) (t := 3) (ji := 2) dX0_add_55 fRX0_15 rfl rfl rfl w ?_
            refine ow_aload_n (pc' := 59) (x := l0) dX0_add_58 rfl rfl ?_
            obtain ⟨w, h⟩ := h
            refine ow_getf2 (pc' := 62) (t := 0) (ji := 4) dX0_add_59 fRX0_18 rfl rfl rfl w ?_
            refine ow_iload_n (pc' := 63) (x := l2) dX0_add_62 rfl rfl ?_
            obtain ⟨w, w1, h⟩ := h
            refine ow_iastore2 (pc' := 64) dX0_add_63 rfl w w1 (fun N3 eN3 => ?_)
            have h := h N3 eN3
            refine ow_aload_n (pc' := 65) (x := l0) dX0_add_64 rfl rfl ?_
            obtain ⟨w, h⟩ := h
            refine ow_getf2 (pc' := 68) (t := 3) (ji := 3) dX0_add_65 fRX0_31 rfl rfl rfl w ?_
            refine ow_iload_n (pc' := 69) (x := l1) dX0_add_68 rfl rfl ?_
            refine ow_iconst (pc' := 70) (n := 1) dX0_add_69 rfl rfl ?_
            obtain ⟨w, w1, h⟩ := h
            refine ow_bastore2 (pc' := 71) dX0_add_70 rfl w w1 (Or.inr rfl) (fun N4 eN4 => ?_)
            have h := h N4 eN4
            refine ow_aload_n (pc' := 72) (x := l0) dX0_add_71 rfl rfl ?_
            refine ow_dup (pc' := 73) dX0_add_72 rfl rfl ?_
            obtain ⟨w, h⟩ := h
            refine ow_getf2 (pc' := 76) (t := 0) (ji := 4) dX0_add_73 fRX0_18 rfl rfl rfl w ?_
            refine ow_iconst (pc' := 77) (n := 1) dX0_add_76 rfl rfl ?_
            obtain ⟨w, h⟩ := h
            refine ow_iadd (pc' := 78) dX0_add_77 w rfl ?_
            obtain ⟨w, w1, h⟩ := h
            refine ow_putf2 (pc' := 81) (t := 0) (ji := 4) dX0_add_78 fRX0_18 rfl rfl rfl rfl w w1 (fun hz => absurd hz (by decide)) (fun N5 eN5 => ?_)
            have h := h N5 eN5
            refine ow_iconst (pc' := 82) (n := 1) dX0_add_81 rfl rfl ?_
            exact ow_zret dX0_add_82 rfl rfl (Or.inr rfl) h
          · have h := h.2 hc
            refine ow_iconst (pc' := 43) (n := 0) dX0_add_42 rfl rfl ?_
            exact ow_zret dX0_add_43 rfl rfl (Or.inl rfl) h
      · have h := h.2 hc
        refine ow_iconst (pc' := 23) (n := 0) dX0_add_22 rfl rfl ?_
        exact ow_zret dX0_add_23 rfl rfl (Or.inl rfl) h
theorem eX0_add {C : ow_C} {E : ow_E} {d : Nat} {M : ow_M} {K : Int → ow_M → Prop} {l0 l1 l2 : Int} (h : ow_O E M l0 0 ∧ ow_O E M (ow_gv E M l0 0) 10 ∧ ow_Sp C E d mX10_isWord (0, 0) [(3, ow_gv E M l0 0), (0, l1)] M (fun r1 N1 => (r1 = 0 → K 0 N1) ∧ (r1 ≠ 0 → (l2 < 1 → K 0 N1) ∧ (1 ≤ l2 → (l2 ≤ 9 → ow_O E N1 l0 0 ∧ ow_R E N1 (ow_gv E N1 l0 3) 102 l1 ∧ ((ow_gv E N1 (ow_gv E N1 l0 3) l1) ≠ 0 → K 0 N1) ∧ ((ow_gv E N1 (ow_gv E N1 l0 3) l1) = 0 → ow_O E N1 l0 0 ∧ ((ow_gv E N1 l0 4) < 40 → ow_O E N1 l0 0 ∧ ow_O E N1 l0 0 ∧ ow_R E N1 (ow_gv E N1 l0 1) 100 (ow_gv E N1 l0 4) ∧ E.1 (ow_gv E N1 l0 1) (ow_gv E N1 l0 4) = none ∧ ∀ N2, N2 = ow_up N1 (ow_gv E N1 l0 1) (ow_gv E N1 l0 4) l1 → ow_O E N2 l0 0 ∧ ow_O E N2 l0 0 ∧ ow_R E N2 (ow_gv E N2 l0 2) 100 (ow_gv E N2 l0 4) ∧ E.1 (ow_gv E N2 l0 2) (ow_gv E N2 l0 4) = none ∧ ∀ N3, N3 = ow_up N2 (ow_gv E N2 l0 2) (ow_gv E N2 l0 4) l2 → ow_O E N3 l0 0 ∧ ow_R E N3 (ow_gv E N3 l0 3) 102 l1 ∧ E.1 (ow_gv E N3 l0 3) l1 = none ∧ ∀ N4, N4 = ow_up N3 (ow_gv E N3 l0 3) l1 1 → ow_O E N4 l0 0 ∧ ow_I ((ow_gv E N4 l0 4) + 1) ∧ ow_O E N4 l0 0 ∧ E.1 l0 4 = none ∧ ∀ N5, N5 = ow_up N4 l0 4 ((ow_gv E N4 l0 4) + 1) → K 1 N5) ∧ (40 ≤ (ow_gv E N1 l0 4) → K 0 N1))) ∧ (9 < l2 → K 0 N1))))) : ow_Sp C E (d + 1) mX0_add (0, 0) [(3, l0), (0, l1), (0, l2)] M K := ow_enter (by decide +kernel) rfl rfl (bX0_add_0 h)
set_option maxRecDepth 20000 in
theorem bX0_drop_0 {C : ow_C} {E : ow_E} {d : Nat} {M : ow_M} {K : Int → ow_M → Prop} {l0 l1 : Int} (h : ow_O E M l0 0 ∧ ow_O E M (ow_gv E M l0 0) 10 ∧ ow_Sp C E d mX10_isWord (0, 0) [(3, ow_gv E M l0 0), (0, l1)] M (fun r1 N1 => (r1 = 0 → K 0 N1) ∧ (r1 ≠ 0 → ow_O E N1 l0 0 ∧ ow_R E N1 (ow_gv E N1 l0 3) 102 l1 ∧ ((ow_gv E N1 (ow_gv E N1 l0 3) l1) ≠ 0 → ow_O E N1 l0 0 ∧ ow_R E N1 (ow_gv E N1 l0 3) 102 l1 ∧ E.1 (ow_gv E N1 l0 3) l1 = none ∧ ∀ N2, N2 = ow_up N1 (ow_gv E N1 l0 3) l1 0 → ow_At C E (d + 1) mX0_drop 33 [(0, (3, l0)), (1, (0, l1)), (2, (0, 0)), (3, (0, 0))] [] (0, 0) N2 K) ∧ ((ow_gv E N1 (ow_gv E N1 l0 3) l1) = 0 → K 0 N1)))) : ow_At C E (d + 1) mX0_drop 0 [(0, (3, l0)), (1, (0, l1))] [] (0, 0) M K := by
  refine ow_aload_n (pc' := 1) (x := l0) dX0_drop_0 rfl rfl ?_
  obtain ⟨w, h⟩ := h
  refine ow_getf2 (pc' := 4) (t := 3) (ji := 0) dX0_drop_1 fRX0_22 rfl rfl rfl w ?_
  refine ow_iload_n (pc' := 5) (x := l1) dX0_drop_4 rfl rfl ?_
  obtain ⟨w, h⟩ := h
  refine ow_callVp (z := mX10_isWord) (n := 1) (k := 10) (vs := [(0, l1)]) (x := ow_gv E M l0 0) (st := []) (pc' := 8) (b1 := (0, 0)) (b2 := (0, 0)) dX0_drop_5 lRX0_35 kX10_isWord iX10_isWord rfl rfl rfl rfl rfl rfl w (ow_Sp.mono h (fun r1 N1 h => ?_))
  refine ow_ifeq (pc' := 11) (tg := 20) dX0_drop_8 rfl rfl (fun hc => ?_) (fun hc => ?_)
  · have h := h.1 hc
    refine ow_iconst (pc' := 21) (n := 0) dX0_drop_20 rfl rfl ?_
    exact ow_zret dX0_drop_21 rfl rfl (Or.inl rfl) h
  · have h := h.2 hc
    refine ow_aload_n (pc' := 12) (x := l0) dX0_drop_11 rfl rfl ?_
    obtain ⟨w, h⟩ := h
    refine ow_getf2 (pc' := 15) (t := 3) (ji := 3) dX0_drop_12 fRX0_31 rfl rfl rfl w ?_
    refine ow_iload_n (pc' := 16) (x := l1) dX0_drop_15 rfl rfl ?_
    obtain ⟨w, h⟩ := h
    refine ow_baload (pc' := 17) dX0_drop_16 rfl w ?_
    refine ow_ifne (pc' := 20) (tg := 22) dX0_drop_17 rfl rfl (fun hc => ?_) (fun hc => ?_)
    · have h := h.1 hc
      refine ow_aload_n (pc' := 23) (x := l0) dX0_drop_22 rfl rfl ?_
      obtain ⟨w, h⟩ := h
      refine ow_getf2 (pc' := 26) (t := 3) (ji := 3) dX0_drop_23 fRX0_31 rfl rfl rfl w ?_
      refine ow_iload_n (pc' := 27) (x := l1) dX0_drop_26 rfl rfl ?_
      refine ow_iconst (pc' := 28) (n := 0) dX0_drop_27 rfl rfl ?_
      obtain ⟨w, w1, h⟩ := h
      refine ow_bastore2 (pc' := 29) dX0_drop_28 rfl w w1 (Or.inl rfl) (fun N2 eN2 => ?_)
      have h := h N2 eN2
      refine ow_iconst (pc' := 30) (n := 0) dX0_drop_29 rfl rfl ?_
      refine ow_istore_n (pc' := 31) (lv' := [(0, (3, l0)), (1, (0, l1)), (2, (0, 0))]) dX0_drop_30 rfl rfl rfl ?_
      refine ow_iconst (pc' := 32) (n := 0) dX0_drop_31 rfl rfl ?_
      refine ow_istore_n (pc' := 33) (lv' := [(0, (3, l0)), (1, (0, l1)), (2, (0, 0)), (3, (0, 0))]) dX0_drop_32 rfl rfl rfl ?_
      exact h
    · have h := h.2 hc
      refine ow_iconst (pc' := 21) (n := 0) dX0_drop_20 rfl rfl ?_
      exact ow_zret dX0_drop_21 rfl rfl (Or.inl rfl) h
set_option maxRecDepth 20000 in
theorem bX0_drop_33 {C : ow_C} {E : ow_E} {d : Nat} {M : ow_M} {K : Int → ow_M → Prop} {l0 l1 l2 l3 : Int} (h : ow_O E M l0 0 ∧ ((ow_gv E M l0 4) ≤ l3 → ow_O E M l0 0 ∧ E.1 l0 4 = none ∧ ∀ N1, N1 = ow_up M l0 4 l2 → K 1 N1) ∧ (l3 < (ow_gv E M l0 4) → ow_O E M l0 0 ∧ ow_R E M (ow_gv E M l0 1) 100 l3 ∧ ((ow_gv E M (ow_gv E M l0 1) l3) = l1 → ow_I (l3 + 1) ∧ ow_At C E (d + 1) mX0_drop 33 [(0, (3, l0)), (1, (0, l1)), (2, (0, l2)), (3, (0, l3 + 1))] [] (0, 0) M K) ∧ ((ow_gv E M (ow_gv E M l0 1) l3) ≠ l1 → ow_O E M l0 0 ∧ ow_O E M l0 0 ∧ ow_R E M (ow_gv E M l0 1) 100 l3 ∧ ow_R E M (ow_gv E M l0 1) 100 l2 ∧ E.1 (ow_gv E M l0 1) l2 = none ∧ ∀ N2, N2 = ow_up M (ow_gv E M l0 1) l2 (ow_gv E M (ow_gv E M l0 1) l3) → ow_O E N2 l0 0 ∧ ow_O E N2 l0 0 ∧ ow_R E N2 (ow_gv E N2 l0 2) 100 l3 ∧ ow_R E N2 (ow_gv E N2 l0 2) 100 l2 ∧ E.1 (ow_gv E N2 l0 2) l2 = none ∧ ∀ N3, N3 = ow_up N2 (ow_gv E N2 l0 2) l2 (ow_gv E N2 (ow_gv E N2 l0 2) l3) → ow_I (l2 + 1) ∧ ow_I (l3 + 1) ∧ ow_At C E (d + 1) mX0_drop 33 [(0, (3, l0)), (1, (0, l1)), (2, (0, l2 + 1)), (3, (0, l3 + 1))] [] (0, 0) N3 K))) : ow_At C E (d + 1) mX0_drop 33 [(0, (3, l0)), (1, (0, l1)), (2, (0, l2)), (3, (0, l3))] [] (0, 0) M K := by
  refine ow_iload_n (pc' := 34) (x := l3) dX0_drop_33 rfl rfl ?_
  refine ow_aload_n (pc' := 35) (x := l0) dX0_drop_34 rfl rfl ?_
  obtain ⟨w, h⟩ := h
  refine ow_getf2 (pc' := 38) (t := 0) (ji := 4) dX0_drop_35 fRX0_18 rfl rfl rfl w ?_
  refine ow_icmpge (pc' := 41) (tg := 84) dX0_drop_38 rfl rfl (fun hc => ?_) (fun hc => ?_)
  · have h := h.1 hc
    refine ow_aload_n (pc' := 85) (x := l0) dX0_drop_84 rfl rfl ?_
    refine ow_iload_n (pc' := 86) (x := l2) dX0_drop_85 rfl rfl ?_
    obtain ⟨w, w1, h⟩ := h
    refine ow_putf2 (pc' := 89) (t := 0) (ji := 4) dX0_drop_86 fRX0_18 rfl rfl rfl rfl w w1 (fun hz => absurd hz (by decide)) (fun N1 eN1 => ?_)
    have h := h N1 eN1
    refine ow_iconst (pc' := 90) (n := 1) dX0_drop_89 rfl rfl ?_
    exact ow_zret dX0_drop_90 rfl rfl (Or.inr rfl) h
  · have h := h.2 hc
    refine ow_aload_n (pc' := 42) (x := l0) dX0_drop_41 rfl rfl ?_
    obtain ⟨w, h⟩ := h
    refine ow_getf2 (pc' := 45) (t := 3) (ji := 1) dX0_drop_42 fRX0_9 rfl rfl rfl w ?_
    refine ow_iload_n (pc' := 46) (x := l3) dX0_drop_45 rfl rfl ?_
    obtain ⟨w, h⟩ := h
    refine ow_iaload (pc' := 47) dX0_drop_46 rfl w ?_
    refine ow_iload_n (pc' := 48) (x := l1) dX0_drop_47 rfl rfl ?_
    refine ow_icmpeq (pc' := 51) (tg := 78) dX0_drop_48 rfl rfl (fun hc => ?_) (fun hc => ?_)
    · have h := h.1 hc
      obtain ⟨w, h⟩ := h
      refine ow_iinc (pc' := 81) (lv' := [(0, (3, l0)), (1, (0, l1)), (2, (0, l2)), (3, (0, l3 + 1))]) dX0_drop_78 rfl w rfl rfl rfl ?_
      refine ow_goto (tg := 33) dX0_drop_81 rfl ?_
      exact h
    · have h := h.2 hc
      refine ow_aload_n (pc' := 52) (x := l0) dX0_drop_51 rfl rfl ?_
      obtain ⟨w, h⟩ := h
      refine ow_getf2 (pc' := 55) (t := 3) (ji := 1) dX0_drop_52 fRX0_9 rfl rfl rfl w ?_
      refine ow_iload_n (pc' := 56) (x := l2) dX0_drop_55 rfl rfl ?_
      refine ow_aload_n (pc' := 57) (x := l0) dX0_drop_56 rfl rfl ?_
      obtain ⟨w, h⟩ := h
      refine ow_getf2 (pc' := 60) (t := 3) (ji := 1) dX0_drop_57 fRX0_9 rfl rfl rfl w ?_
      refine ow_iload_n (pc' := 61) (x := l3) dX0_drop_60 rfl rfl ?_
      obtain ⟨w, h⟩ := h
      refine ow_iaload (pc' := 62) dX0_drop_61 rfl w ?_
      obtain ⟨w, w1, h⟩ := h
      refine ow_iastore2 (pc' := 63) dX0_drop_62 rfl w w1 (fun N2 eN2 => ?_)
      have h := h N2 eN2
      refine ow_aload_n (pc' := 64) (x := l0) dX0_drop_63 rfl rfl ?_
      obtain ⟨w, h⟩ := h
      refine ow_getf2 (pc' := 67) (t := 3) (ji := 2) dX0_drop_64 fRX0_15 rfl rfl rfl w ?_
      refine ow_iload_n (pc' := 68) (x := l2) dX0_drop_67 rfl rfl ?_
      refine ow_aload_n (pc' := 69) (x := l0) dX0_drop_68 rfl rfl ?_
      obtain ⟨w, h⟩ := h
      refine ow_getf2 (pc' := 72) (t := 3) (ji := 2) dX0_drop_69 fRX0_15 rfl rfl rfl w ?_
      refine ow_iload_n (pc' := 73) (x := l3) dX0_drop_72 rfl rfl ?_
      obtain ⟨w, h⟩ := h
      refine ow_iaload (pc' := 74) dX0_drop_73 rfl w ?_
      obtain ⟨w, w1, h⟩ := h
      refine ow_iastore2 (pc' := 75) dX0_drop_74 rfl w w1 (fun N3 eN3 => ?_)
      have h := h N3 eN3
      obtain ⟨w, h⟩ := h
      refine ow_iinc (pc' := 78) (lv' := [(0, (3, l0)), (1, (0, l1)), (2, (0, l2 + 1)), (3, (0, l3))]) dX0_drop_75 rfl w rfl rfl rfl ?_
      obtain ⟨w, h⟩ := h
      refine ow_iinc (pc' := 81) (lv' := [(0, (3, l0)), (1, (0, l1)), (2, (0, l2 + 1)), (3, (0, l3 + 1))]) dX0_drop_78 rfl w rfl rfl rfl ?_
      refine ow_goto (tg := 33) dX0_drop_81 rfl ?_
      exact h
theorem eX0_drop {C : ow_C} {E : ow_E} {d : Nat} {M : ow_M} {K : Int → ow_M → Prop} {l0 l1 : Int} (h : ow_O E M l0 0 ∧ ow_O E M (ow_gv E M l0 0) 10 ∧ ow_Sp C E d mX10_isWord (0, 0) [(3, ow_gv E M l0 0), (0, l1)] M (fun r1 N1 => (r1 = 0 → K 0 N1) ∧ (r1 ≠ 0 → ow_O E N1 l0 0 ∧ ow_R E N1 (ow_gv E N1 l0 3) 102 l1 ∧ ((ow_gv E N1 (ow_gv E N1 l0 3) l1) ≠ 0 → ow_O E N1 l0 0 ∧ ow_R E N1 (ow_gv E N1 l0 3) 102 l1 ∧ E.1 (ow_gv E N1 l0 3) l1 = none ∧ ∀ N2, N2 = ow_up N1 (ow_gv E N1 l0 3) l1 0 → ow_At C E (d + 1) mX0_drop 33 [(0, (3, l0)), (1, (0, l1)), (2, (0, 0)), (3, (0, 0))] [] (0, 0) N2 K) ∧ ((ow_gv E N1 (ow_gv E N1 l0 3) l1) = 0 → K 0 N1)))) : ow_Sp C E (d + 1) mX0_drop (0, 0) [(3, l0), (0, l1)] M K := ow_enter (by decide +kernel) rfl rfl (bX0_drop_0 h)
set_option maxRecDepth 20000 in
theorem bX0_become_0 {C : ow_C} {E : ow_E} {d : Nat} {M : ow_M} {K : Int → ow_M → Prop} {l0 l1 : Int} (h : ow_O E M l1 0 ∧ ow_O E M l0 0 ∧ E.2.2 ≠ none ∧ (0 ≤ (ow_gv E M l1 1) ∧ (ow_gv E M l1 1) < ow_nb E M ∧ (E.2.1 (ow_gv E M l1 1)).1 = 100 ∧ (0 : Int) ≤ 0 ∧ (0 : Int) ≤ 40 ∧ 0 + 40 ≤ (E.2.1 (ow_gv E M l1 1)).2) ∧ (0 ≤ (ow_gv E M l0 1) ∧ (ow_gv E M l0 1) < ow_nb E M ∧ (E.2.1 (ow_gv E M l0 1)).1 = 100 ∧ (0 : Int) ≤ 0 ∧ 0 + 40 ≤ (E.2.1 (ow_gv E M l0 1)).2) ∧ (∀ i, E.1 (ow_gv E M l0 1) i = none) ∧ ∀ N1, N1 = ow_cp E M (ow_gv E M l1 1) 0 (ow_gv E M l0 1) 0 40 → ow_O E N1 l1 0 ∧ ow_O E N1 l0 0 ∧ E.2.2 ≠ none ∧ (0 ≤ (ow_gv E N1 l1 2) ∧ (ow_gv E N1 l1 2) < ow_nb E N1 ∧ (E.2.1 (ow_gv E N1 l1 2)).1 = 100 ∧ (0 : Int) ≤ 0 ∧ (0 : Int) ≤ 40 ∧ 0 + 40 ≤ (E.2.1 (ow_gv E N1 l1 2)).2) ∧ (0 ≤ (ow_gv E N1 l0 2) ∧ (ow_gv E N1 l0 2) < ow_nb E N1 ∧ (E.2.1 (ow_gv E N1 l0 2)).1 = 100 ∧ (0 : Int) ≤ 0 ∧ 0 + 40 ≤ (E.2.1 (ow_gv E N1 l0 2)).2) ∧ (∀ i, E.1 (ow_gv E N1 l0 2) i = none) ∧ ∀ N2, N2 = ow_cp E N1 (ow_gv E N1 l1 2) 0 (ow_gv E N1 l0 2) 0 40 → ow_At C E (d + 1) mX0_become 32 [(0, (3, l0)), (1, (3, l1)), (2, (0, 0))] [] (0, 0) N2 K) : ow_At C E (d + 1) mX0_become 0 [(0, (3, l0)), (1, (3, l1))] [] (0, 0) M K := by
  refine ow_aload_n (pc' := 1) (x := l1) dX0_become_0 rfl rfl ?_
  obtain ⟨w, h⟩ := h
  refine ow_getf2 (pc' := 4) (t := 3) (ji := 1) dX0_become_1 fRX0_9 rfl rfl rfl w ?_
  refine ow_iconst (pc' := 5) (n := 0) dX0_become_4 rfl rfl ?_
  refine ow_aload_n (pc' := 6) (x := l0) dX0_become_5 rfl rfl ?_
  obtain ⟨w, h⟩ := h
  refine ow_getf2 (pc' := 9) (t := 3) (ji := 1) dX0_become_6 fRX0_9 rfl rfl rfl w ?_
  refine ow_iconst (pc' := 10) (n := 0) dX0_become_9 rfl rfl ?_
  refine ow_bipush (pc' := 12) (n := 40) dX0_become_10 rfl rfl ?_
  obtain ⟨w, w1, w2, w3, h⟩ := h
  refine ow_copy2 (pc' := 15) dX0_become_12 lRX0_39 ow_ac1 ow_ac2 ow_ac3 rfl rfl w w1 w2 w3 (fun N1 eN1 => ?_)
  have h := h N1 eN1
  refine ow_aload_n (pc' := 16) (x := l1) dX0_become_15 rfl rfl ?_
  obtain ⟨w, h⟩ := h
  refine ow_getf2 (pc' := 19) (t := 3) (ji := 2) dX0_become_16 fRX0_15 rfl rfl rfl w ?_
  refine ow_iconst (pc' := 20) (n := 0) dX0_become_19 rfl rfl ?_
  refine ow_aload_n (pc' := 21) (x := l0) dX0_become_20 rfl rfl ?_
  obtain ⟨w, h⟩ := h
  refine ow_getf2 (pc' := 24) (t := 3) (ji := 2) dX0_become_21 fRX0_15 rfl rfl rfl w ?_
  refine ow_iconst (pc' := 25) (n := 0) dX0_become_24 rfl rfl ?_
  refine ow_bipush (pc' := 27) (n := 40) dX0_become_25 rfl rfl ?_
  obtain ⟨w, w1, w2, w3, h⟩ := h
  refine ow_copy2 (pc' := 30) dX0_become_27 lRX0_39 ow_ac1 ow_ac2 ow_ac3 rfl rfl w w1 w2 w3 (fun N2 eN2 => ?_)
  have h := h N2 eN2
  refine ow_iconst (pc' := 31) (n := 0) dX0_become_30 rfl rfl ?_
  refine ow_istore_n (pc' := 32) (lv' := [(0, (3, l0)), (1, (3, l1)), (2, (0, 0))]) dX0_become_31 rfl rfl rfl ?_
  exact h
set_option maxRecDepth 20000 in
theorem bX0_become_32 {C : ow_C} {E : ow_E} {d : Nat} {M : ow_M} {K : Int → ow_M → Prop} {l0 l1 l2 : Int} (h : ow_O E M l0 0 ∧ (0 ≤ (ow_gv E M l0 3) ∧ (ow_gv E M l0 3) < ow_nb E M ∧ (E.2.1 (ow_gv E M l0 3)).1 = 102 ∧ 0 ≤ (E.2.1 (ow_gv E M l0 3)).2 ∧ (E.2.1 (ow_gv E M l0 3)).2 ≤ 2147483647) ∧ (((E.2.1 (ow_gv E M l0 3)).2) ≤ l2 → ow_O E M l1 0 ∧ ow_O E M l0 0 ∧ E.1 l0 4 = none ∧ ∀ N1, N1 = ow_up M l0 4 (ow_gv E M l1 4) → K 0 N1) ∧ (l2 < ((E.2.1 (ow_gv E M l0 3)).2) → ow_O E M l1 0 ∧ (0 ≤ (ow_gv E M l1 3) ∧ (ow_gv E M l1 3) < ow_nb E M ∧ (E.2.1 (ow_gv E M l1 3)).1 = 102 ∧ 0 ≤ (E.2.1 (ow_gv E M l1 3)).2 ∧ (E.2.1 (ow_gv E M l1 3)).2 ≤ 2147483647) ∧ (((E.2.1 (ow_gv E M l1 3)).2) ≤ l2 → ow_O E M l1 0 ∧ ow_O E M l0 0 ∧ E.1 l0 4 = none ∧ ∀ N2, N2 = ow_up M l0 4 (ow_gv E M l1 4) → K 0 N2) ∧ (l2 < ((E.2.1 (ow_gv E M l1 3)).2) → ow_O E M l0 0 ∧ ow_O E M l1 0 ∧ ow_R E M (ow_gv E M l1 3) 102 l2 ∧ ow_R E M (ow_gv E M l0 3) 102 l2 ∧ E.1 (ow_gv E M l0 3) l2 = none ∧ ((ow_gv E M (ow_gv E M l1 3) l2) = 0 ∨ (ow_gv E M (ow_gv E M l1 3) l2) = 1) ∧ ∀ N3, N3 = ow_up M (ow_gv E M l0 3) l2 (ow_gv E M (ow_gv E M l1 3) l2) → ow_I (l2 + 1) ∧ ow_At C E (d + 1) mX0_become 32 [(0, (3, l0)), (1, (3, l1)), (2, (0, l2 + 1))] [] (0, 0) N3 K))) : ow_At C E (d + 1) mX0_become 32 [(0, (3, l0)), (1, (3, l1)), (2, (0, l2))] [] (0, 0) M K := by
  refine ow_iload_n (pc' := 33) (x := l2) dX0_become_32 rfl rfl ?_
  refine ow_aload_n (pc' := 34) (x := l0) dX0_become_33 rfl rfl ?_
  obtain ⟨w, h⟩ := h
  refine ow_getf2 (pc' := 37) (t := 3) (ji := 3) dX0_become_34 fRX0_31 rfl rfl rfl w ?_
  obtain ⟨⟨w, w1, w2, w3, w4⟩, h⟩ := h
  refine ow_alen (pc' := 38) (t := 102) dX0_become_37 rfl rfl w w1 w2 w3 w4 ?_
  refine ow_icmpge (pc' := 41) (tg := 68) dX0_become_38 rfl rfl (fun hc => ?_) (fun hc => ?_)
  · have h := h.1 hc
    refine ow_aload_n (pc' := 69) (x := l0) dX0_become_68 rfl rfl ?_
    refine ow_aload_n (pc' := 70) (x := l1) dX0_become_69 rfl rfl ?_
    obtain ⟨w, h⟩ := h
    refine ow_getf2 (pc' := 73) (t := 0) (ji := 4) dX0_become_70 fRX0_18 rfl rfl rfl w ?_
    obtain ⟨w, w1, h⟩ := h
    refine ow_putf2 (pc' := 76) (t := 0) (ji := 4) dX0_become_73 fRX0_18 rfl rfl rfl rfl w w1 (fun hz => absurd hz (by decide)) (fun N1 eN1 => ?_)
    have h := h N1 eN1
    exact ow_vret dX0_become_76 rfl rfl h
  · have h := h.2 hc
    refine ow_iload_n (pc' := 42) (x := l2) dX0_become_41 rfl rfl ?_
    refine ow_aload_n (pc' := 43) (x := l1) dX0_become_42 rfl rfl ?_
    obtain ⟨w, h⟩ := h
    refine ow_getf2 (pc' := 46) (t := 3) (ji := 3) dX0_become_43 fRX0_31 rfl rfl rfl w ?_
    obtain ⟨⟨w, w1, w2, w3, w4⟩, h⟩ := h
    refine ow_alen (pc' := 47) (t := 102) dX0_become_46 rfl rfl w w1 w2 w3 w4 ?_
    refine ow_icmpge (pc' := 50) (tg := 68) dX0_become_47 rfl rfl (fun hc => ?_) (fun hc => ?_)
    · have h := h.1 hc
      refine ow_aload_n (pc' := 69) (x := l0) dX0_become_68 rfl rfl ?_
      refine ow_aload_n (pc' := 70) (x := l1) dX0_become_69 rfl rfl ?_
      obtain ⟨w, h⟩ := h
      refine ow_getf2 (pc' := 73) (t := 0) (ji := 4) dX0_become_70 fRX0_18 rfl rfl rfl w ?_
      obtain ⟨w, w1, h⟩ := h
      refine ow_putf2 (pc' := 76) (t := 0) (ji := 4) dX0_become_73 fRX0_18 rfl rfl rfl rfl w w1 (fun hz => absurd hz (by decide)) (fun N2 eN2 => ?_)
      have h := h N2 eN2
      exact ow_vret dX0_become_76 rfl rfl h
    · have h := h.2 hc
      refine ow_aload_n (pc' := 51) (x := l0) dX0_become_50 rfl rfl ?_
      obtain ⟨w, h⟩ := h
      refine ow_getf2 (pc' := 54) (t := 3) (ji := 3) dX0_become_51 fRX0_31 rfl rfl rfl w ?_
      refine ow_iload_n (pc' := 55) (x := l2) dX0_become_54 rfl rfl ?_
      refine ow_aload_n (pc' := 56) (x := l1) dX0_become_55 rfl rfl ?_
      obtain ⟨w, h⟩ := h
      refine ow_getf2 (pc' := 59) (t := 3) (ji := 3) dX0_become_56 fRX0_31 rfl rfl rfl w ?_
      refine ow_iload_n (pc' := 60) (x := l2) dX0_become_59 rfl rfl ?_
      obtain ⟨w, h⟩ := h
      refine ow_baload (pc' := 61) dX0_become_60 rfl w ?_
      obtain ⟨w, w1, w2, h⟩ := h
      refine ow_bastore2 (pc' := 62) dX0_become_61 rfl w w1 w2 (fun N3 eN3 => ?_)
      have h := h N3 eN3
      obtain ⟨w, h⟩ := h
      refine ow_iinc (pc' := 65) (lv' := [(0, (3, l0)), (1, (3, l1)), (2, (0, l2 + 1))]) dX0_become_62 rfl w rfl rfl rfl ?_
      refine ow_goto (tg := 32) dX0_become_65 rfl ?_
      exact h
theorem eX0_become {C : ow_C} {E : ow_E} {d : Nat} {M : ow_M} {K : Int → ow_M → Prop} {l0 l1 : Int} (h : ow_O E M l1 0 ∧ ow_O E M l0 0 ∧ E.2.2 ≠ none ∧ (0 ≤ (ow_gv E M l1 1) ∧ (ow_gv E M l1 1) < ow_nb E M ∧ (E.2.1 (ow_gv E M l1 1)).1 = 100 ∧ (0 : Int) ≤ 0 ∧ (0 : Int) ≤ 40 ∧ 0 + 40 ≤ (E.2.1 (ow_gv E M l1 1)).2) ∧ (0 ≤ (ow_gv E M l0 1) ∧ (ow_gv E M l0 1) < ow_nb E M ∧ (E.2.1 (ow_gv E M l0 1)).1 = 100 ∧ (0 : Int) ≤ 0 ∧ 0 + 40 ≤ (E.2.1 (ow_gv E M l0 1)).2) ∧ (∀ i, E.1 (ow_gv E M l0 1) i = none) ∧ ∀ N1, N1 = ow_cp E M (ow_gv E M l1 1) 0 (ow_gv E M l0 1) 0 40 → ow_O E N1 l1 0 ∧ ow_O E N1 l0 0 ∧ E.2.2 ≠ none ∧ (0 ≤ (ow_gv E N1 l1 2) ∧ (ow_gv E N1 l1 2) < ow_nb E N1 ∧ (E.2.1 (ow_gv E N1 l1 2)).1 = 100 ∧ (0 : Int) ≤ 0 ∧ (0 : Int) ≤ 40 ∧ 0 + 40 ≤ (E.2.1 (ow_gv E N1 l1 2)).2) ∧ (0 ≤ (ow_gv E N1 l0 2) ∧ (ow_gv E N1 l0 2) < ow_nb E N1 ∧ (E.2.1 (ow_gv E N1 l0 2)).1 = 100 ∧ (0 : Int) ≤ 0 ∧ 0 + 40 ≤ (E.2.1 (ow_gv E N1 l0 2)).2) ∧ (∀ i, E.1 (ow_gv E N1 l0 2) i = none) ∧ ∀ N2, N2 = ow_cp E N1 (ow_gv E N1 l1 2) 0 (ow_gv E N1 l0 2) 0 40 → ow_At C E (d + 1) mX0_become 32 [(0, (3, l0)), (1, (3, l1)), (2, (0, 0))] [] (0, 0) N2 K) : ow_Sp C E (d + 1) mX0_become (0, 0) [(3, l0), (3, l1)] M K := ow_enter (by decide +kernel) rfl rfl (bX0_become_0 h)
set_option maxRecDepth 20000 in
theorem bX0_sameEnds_0 {C : ow_C} {E : ow_E} {d : Nat} {M : ow_M} {K : Int → ow_M → Prop} {l0 l1 l2 l3 : Int} (h : ow_O E M l0 0 ∧ ow_O E M (ow_gv E M l0 0) 10 ∧ ow_O E M l0 0 ∧ ow_O E M (ow_gv E M l0 0) 10 ∧ ow_I ((ow_gv E M (ow_gv E M l0 0) 1) - l3) ∧ ow_Sp C E d mX10_raised (0, 0) [(0, ow_gv E M (ow_gv E M l0 0) 0), (0, (ow_gv E M (ow_gv E M l0 0) 1) - l3)] M (fun r1 N1 => (0 < r1 → r1 ≠ 0 ∧ ow_I (Int.tdiv l1 r1) ∧ ow_I (Int.tmod l1 r1) ∧ ow_I (l1 - (Int.tmod l1 r1)) ∧ r1 ≠ 0 ∧ ow_I (Int.tdiv l2 r1) ∧ ow_I (Int.tmod l2 r1) ∧ ow_I (l2 - (Int.tmod l2 r1)) ∧ ((l1 - (Int.tmod l1 r1)) ≠ (l2 - (Int.tmod l2 r1)) → ow_At C E (d + 1) mX0_sameEnds 56 [(0, (3, l0)), (4, (0, r1)), (5, (0, l1 - (Int.tmod l1 r1))), (6, (0, l2 - (Int.tmod l2 r1))), (7, (0, 0))] [] (0, 0) N1 K) ∧ ((l1 - (Int.tmod l1 r1)) = (l2 - (Int.tmod l2 r1)) → K 1 N1)) ∧ (r1 ≤ 0 → K 0 N1))) : ow_At C E (d + 1) mX0_sameEnds 0 [(0, (3, l0)), (1, (0, l1)), (2, (0, l2)), (3, (0, l3))] [] (0, 0) M K := by
  refine ow_aload_n (pc' := 1) (x := l0) dX0_sameEnds_0 rfl rfl ?_
  obtain ⟨w, h⟩ := h
  refine ow_getf2 (pc' := 4) (t := 3) (ji := 0) dX0_sameEnds_1 fRX0_22 rfl rfl rfl w ?_
  obtain ⟨w, h⟩ := h
  refine ow_getf2 (pc' := 7) (t := 0) (ji := 0) dX0_sameEnds_4 fRX0_45 rfl rfl rfl w ?_
  refine ow_aload_n (pc' := 8) (x := l0) dX0_sameEnds_7 rfl rfl ?_
  obtain ⟨w, h⟩ := h
  refine ow_getf2 (pc' := 11) (t := 3) (ji := 0) dX0_sameEnds_8 fRX0_22 rfl rfl rfl w ?_
  obtain ⟨w, h⟩ := h
  refine ow_getf2 (pc' := 14) (t := 0) (ji := 1) dX0_sameEnds_11 fRX0_48 rfl rfl rfl w ?_
  refine ow_iload_n (pc' := 15) (x := l3) dX0_sameEnds_14 rfl rfl ?_
  obtain ⟨w, h⟩ := h
  refine ow_isub (pc' := 16) dX0_sameEnds_15 w rfl ?_
  refine ow_callSp (z := mX10_raised) (n := 2) (vs := [(0, ow_gv E M (ow_gv E M l0 0) 0), (0, (ow_gv E M (ow_gv E M l0 0) 1) - l3)]) (st := []) (pc' := 19) (b1 := (0, 0)) (b2 := (0, 0)) dX0_sameEnds_16 lRX0_51 kX10_raised zX10_raised rfl rfl rfl rfl rfl rfl (ow_Sp.mono h (fun r1 N1 h => ?_))
  refine ow_istore (pc' := 21) (lv' := [(0, (3, l0)), (1, (0, l1)), (2, (0, l2)), (3, (0, l3)), (4, (0, r1))]) dX0_sameEnds_19 rfl rfl rfl ?_
  refine ow_iload (pc' := 23) (x := r1) dX0_sameEnds_21 rfl rfl ?_
  refine ow_ifgt (pc' := 26) (tg := 28) dX0_sameEnds_23 rfl rfl (fun hc => ?_) (fun hc => ?_)
  · have h := h.1 hc
    refine ow_iload_n (pc' := 29) (x := l1) dX0_sameEnds_28 rfl rfl ?_
    refine ow_iload_n (pc' := 30) (x := l1) dX0_sameEnds_29 rfl rfl ?_
    refine ow_iload (pc' := 32) (x := r1) dX0_sameEnds_30 rfl rfl ?_
    obtain ⟨w0, w, w1, h⟩ := h
    refine ow_irem (pc' := 33) dX0_sameEnds_32 w0 w w1 rfl ?_
    obtain ⟨w, h⟩ := h
    refine ow_isub (pc' := 34) dX0_sameEnds_33 w rfl ?_
    refine ow_istore (pc' := 36) (lv' := [(0, (3, l0)), (1, (0, l1)), (2, (0, l2)), (3, (0, l3)), (4, (0, r1)), (5, (0, l1 - (Int.tmod l1 r1)))]) dX0_sameEnds_34 rfl rfl rfl ?_
    refine ow_iload_n (pc' := 37) (x := l2) dX0_sameEnds_36 rfl rfl ?_
    refine ow_iload_n (pc' := 38) (x := l2) dX0_sameEnds_37 rfl rfl ?_
    refine ow_iload (pc' := 40) (x := r1) dX0_sameEnds_38 rfl rfl ?_
    obtain ⟨w0, w, w1, h⟩ := h
    refine ow_irem (pc' := 41) dX0_sameEnds_40 w0 w w1 rfl ?_
    obtain ⟨w, h⟩ := h
    refine ow_isub (pc' := 42) dX0_sameEnds_41 w rfl ?_
    refine ow_istore (pc' := 44) (lv' := [(0, (3, l0)), (1, (0, l1)), (2, (0, l2)), (3, (0, l3)), (4, (0, r1)), (5, (0, l1 - (Int.tmod l1 r1))), (6, (0, l2 - (Int.tmod l2 r1)))]) dX0_sameEnds_42 rfl rfl rfl ?_
    refine ow_iload (pc' := 46) (x := l1 - (Int.tmod l1 r1)) dX0_sameEnds_44 rfl rfl ?_
    refine ow_iload (pc' := 48) (x := l2 - (Int.tmod l2 r1)) dX0_sameEnds_46 rfl rfl ?_
    refine ow_icmpne (pc' := 51) (tg := 53) dX0_sameEnds_48 rfl rfl (fun hc => ?_) (fun hc => ?_)
    · have h := h.1 hc
      refine ow_iconst (pc' := 54) (n := 0) dX0_sameEnds_53 rfl rfl ?_
      refine ow_istore (pc' := 56) (lv' := [(0, (3, l0)), (1, (0, l1)), (2, (0, l2)), (3, (0, l3)), (4, (0, r1)), (5, (0, l1 - (Int.tmod l1 r1))), (6, (0, l2 - (Int.tmod l2 r1))), (7, (0, 0))]) dX0_sameEnds_54 rfl rfl rfl ?_
      refine ow_sub (lv' := [(0, (3, l0)), (4, (0, r1)), (5, (0, l1 - (Int.tmod l1 r1))), (6, (0, l2 - (Int.tmod l2 r1))), (7, (0, 0))]) [0, 4, 5, 6, 7] rfl ?_
      exact h
    · have h := h.2 hc
      refine ow_iconst (pc' := 52) (n := 1) dX0_sameEnds_51 rfl rfl ?_
      exact ow_zret dX0_sameEnds_52 rfl rfl (Or.inr rfl) h
  · have h := h.2 hc
    refine ow_iconst (pc' := 27) (n := 0) dX0_sameEnds_26 rfl rfl ?_
    exact ow_zret dX0_sameEnds_27 rfl rfl (Or.inl rfl) h
set_option maxRecDepth 20000 in
theorem bX0_sameEnds_56 {C : ow_C} {E : ow_E} {d : Nat} {M : ow_M} {K : Int → ow_M → Prop} {l0 l4 l5 l6 l7 : Int} (h : (l4 ≤ l7 → K 1 M) ∧ (l7 < l4 → ow_O E M l0 0 ∧ ow_I (l5 + l7) ∧ ow_R E M (ow_gv E M l0 3) 102 (l5 + l7) ∧ ow_O E M l0 0 ∧ ow_I (l6 + l7) ∧ ow_R E M (ow_gv E M l0 3) 102 (l6 + l7) ∧ ((ow_gv E M (ow_gv E M l0 3) (l5 + l7)) = (ow_gv E M (ow_gv E M l0 3) (l6 + l7)) → ow_I (l7 + 1) ∧ ow_At C E (d + 1) mX0_sameEnds 56 [(0, (3, l0)), (4, (0, l4)), (5, (0, l5)), (6, (0, l6)), (7, (0, l7 + 1))] [] (0, 0) M K) ∧ ((ow_gv E M (ow_gv E M l0 3) (l5 + l7)) ≠ (ow_gv E M (ow_gv E M l0 3) (l6 + l7)) → K 0 M))) : ow_At C E (d + 1) mX0_sameEnds 56 [(0, (3, l0)), (4, (0, l4)), (5, (0, l5)), (6, (0, l6)), (7, (0, l7))] [] (0, 0) M K := by
  refine ow_iload (pc' := 58) (x := l7) dX0_sameEnds_56 rfl rfl ?_
  refine ow_iload (pc' := 60) (x := l4) dX0_sameEnds_58 rfl rfl ?_
  refine ow_icmpge (pc' := 63) (tg := 94) dX0_sameEnds_60 rfl rfl (fun hc => ?_) (fun hc => ?_)
  · have h := h.1 hc
    refine ow_iconst (pc' := 95) (n := 1) dX0_sameEnds_94 rfl rfl ?_
    exact ow_zret dX0_sameEnds_95 rfl rfl (Or.inr rfl) h
  · have h := h.2 hc
    refine ow_aload_n (pc' := 64) (x := l0) dX0_sameEnds_63 rfl rfl ?_
    obtain ⟨w, h⟩ := h
    refine ow_getf2 (pc' := 67) (t := 3) (ji := 3) dX0_sameEnds_64 fRX0_31 rfl rfl rfl w ?_
    refine ow_iload (pc' := 69) (x := l5) dX0_sameEnds_67 rfl rfl ?_
    refine ow_iload (pc' := 71) (x := l7) dX0_sameEnds_69 rfl rfl ?_
    obtain ⟨w, h⟩ := h
    refine ow_iadd (pc' := 72) dX0_sameEnds_71 w rfl ?_
    obtain ⟨w, h⟩ := h
    refine ow_baload (pc' := 73) dX0_sameEnds_72 rfl w ?_
    refine ow_aload_n (pc' := 74) (x := l0) dX0_sameEnds_73 rfl rfl ?_
    obtain ⟨w, h⟩ := h
    refine ow_getf2 (pc' := 77) (t := 3) (ji := 3) dX0_sameEnds_74 fRX0_31 rfl rfl rfl w ?_
    refine ow_iload (pc' := 79) (x := l6) dX0_sameEnds_77 rfl rfl ?_
    refine ow_iload (pc' := 81) (x := l7) dX0_sameEnds_79 rfl rfl ?_
    obtain ⟨w, h⟩ := h
    refine ow_iadd (pc' := 82) dX0_sameEnds_81 w rfl ?_
    obtain ⟨w, h⟩ := h
    refine ow_baload (pc' := 83) dX0_sameEnds_82 rfl w ?_
    refine ow_icmpeq (pc' := 86) (tg := 88) dX0_sameEnds_83 rfl rfl (fun hc => ?_) (fun hc => ?_)
    · have h := h.1 hc
      obtain ⟨w, h⟩ := h
      refine ow_iinc (pc' := 91) (lv' := [(0, (3, l0)), (4, (0, l4)), (5, (0, l5)), (6, (0, l6)), (7, (0, l7 + 1))]) dX0_sameEnds_88 rfl w rfl rfl rfl ?_
      refine ow_goto (tg := 56) dX0_sameEnds_91 rfl ?_
      exact h
    · have h := h.2 hc
      refine ow_iconst (pc' := 87) (n := 0) dX0_sameEnds_86 rfl rfl ?_
      exact ow_zret dX0_sameEnds_87 rfl rfl (Or.inl rfl) h
theorem eX0_sameEnds {C : ow_C} {E : ow_E} {d : Nat} {M : ow_M} {K : Int → ow_M → Prop} {l0 l1 l2 l3 : Int} (h : ow_O E M l0 0 ∧ ow_O E M (ow_gv E M l0 0) 10 ∧ ow_O E M l0 0 ∧ ow_O E M (ow_gv E M l0 0) 10 ∧ ow_I ((ow_gv E M (ow_gv E M l0 0) 1) - l3) ∧ ow_Sp C E d mX10_raised (0, 0) [(0, ow_gv E M (ow_gv E M l0 0) 0), (0, (ow_gv E M (ow_gv E M l0 0) 1) - l3)] M (fun r1 N1 => (0 < r1 → r1 ≠ 0 ∧ ow_I (Int.tdiv l1 r1) ∧ ow_I (Int.tmod l1 r1) ∧ ow_I (l1 - (Int.tmod l1 r1)) ∧ r1 ≠ 0 ∧ ow_I (Int.tdiv l2 r1) ∧ ow_I (Int.tmod l2 r1) ∧ ow_I (l2 - (Int.tmod l2 r1)) ∧ ((l1 - (Int.tmod l1 r1)) ≠ (l2 - (Int.tmod l2 r1)) → ow_At C E (d + 1) mX0_sameEnds 56 [(0, (3, l0)), (4, (0, r1)), (5, (0, l1 - (Int.tmod l1 r1))), (6, (0, l2 - (Int.tmod l2 r1))), (7, (0, 0))] [] (0, 0) N1 K) ∧ ((l1 - (Int.tmod l1 r1)) = (l2 - (Int.tmod l2 r1)) → K 1 N1)) ∧ (r1 ≤ 0 → K 0 N1))) : ow_Sp C E (d + 1) mX0_sameEnds (0, 0) [(3, l0), (0, l1), (0, l2), (0, l3)] M K := ow_enter (by decide +kernel) rfl rfl (bX0_sameEnds_0 h)
set_option maxRecDepth 20000 in
theorem bX0_treeAt_0 {C : ow_C} {E : ow_E} {d : Nat} {M : ow_M} {K : Int → ow_M → Prop} {l0 l1 l2 : Int} (h : ow_At C E (d + 1) mX0_treeAt 5 [(0, (3, l0)), (1, (0, l1)), (2, (0, l2)), (3, (0, 0)), (4, (0, 0))] [] (0, 0) M K) : ow_At C E (d + 1) mX0_treeAt 0 [(0, (3, l0)), (1, (0, l1)), (2, (0, l2))] [] (0, 0) M K := by
  refine ow_iconst (pc' := 1) (n := 0) dX0_treeAt_0 rfl rfl ?_
  refine ow_istore_n (pc' := 2) (lv' := [(0, (3, l0)), (1, (0, l1)), (2, (0, l2)), (3, (0, 0))]) dX0_treeAt_1 rfl rfl rfl ?_
  refine ow_iconst (pc' := 3) (n := 0) dX0_treeAt_2 rfl rfl ?_
  refine ow_istore (pc' := 5) (lv' := [(0, (3, l0)), (1, (0, l1)), (2, (0, l2)), (3, (0, 0)), (4, (0, 0))]) dX0_treeAt_3 rfl rfl rfl ?_
  exact h
set_option maxRecDepth 20000 in
theorem bX0_treeAt_5 {C : ow_C} {E : ow_E} {d : Nat} {M : ow_M} {K : Int → ow_M → Prop} {l0 l1 l2 l3 l4 : Int} (h : ow_O E M l0 0 ∧ ((ow_gv E M l0 4) ≤ l4 → K l3 M) ∧ (l4 < (ow_gv E M l0 4) → ow_O E M l0 0 ∧ ow_Sp C E d mX0_isFirstOfNode (0, 0) [(3, l0), (0, l4), (0, l1)] M (fun r1 N1 => (r1 = 0 → ow_I (l4 + 1) ∧ ow_At C E (d + 1) mX0_treeAt 5 [(0, (3, l0)), (1, (0, l1)), (2, (0, l2)), (3, (0, l3)), (4, (0, l4 + 1))] [] (0, 0) N1 K) ∧ (r1 ≠ 0 → (l2 = 0 → ow_At C E (d + 1) mX0_treeAt 45 [(0, (3, l0)), (1, (0, l1)), (2, (0, l2)), (4, (0, l4))] [(0, 1), (0, l3)] (0, 0) N1 K) ∧ (l2 ≠ 0 → ow_O E N1 l0 0 ∧ ow_R E N1 (ow_gv E N1 l0 1) 100 l4 ∧ ow_O E N1 l0 0 ∧ ow_Sp C E d mX0_arcsOf (0, 0) [(3, l0), (0, ow_gv E N1 (ow_gv E N1 l0 1) l4), (0, l1)] N1 (fun r2 N2 => ow_At C E (d + 1) mX0_treeAt 45 [(0, (3, l0)), (1, (0, l1)), (2, (0, l2)), (4, (0, l4))] [(0, r2), (0, l3)] (0, 0) N2 K)))))) : ow_At C E (d + 1) mX0_treeAt 5 [(0, (3, l0)), (1, (0, l1)), (2, (0, l2)), (3, (0, l3)), (4, (0, l4))] [] (0, 0) M K := by
  refine ow_iload (pc' := 7) (x := l4) dX0_treeAt_5 rfl rfl ?_
  refine ow_aload_n (pc' := 8) (x := l0) dX0_treeAt_7 rfl rfl ?_
  obtain ⟨w, h⟩ := h
  refine ow_getf2 (pc' := 11) (t := 0) (ji := 4) dX0_treeAt_8 fRX0_18 rfl rfl rfl w ?_
  refine ow_icmpge (pc' := 14) (tg := 53) dX0_treeAt_11 rfl rfl (fun hc => ?_) (fun hc => ?_)
  · have h := h.1 hc
    refine ow_iload_n (pc' := 54) (x := l3) dX0_treeAt_53 rfl rfl ?_
    exact ow_iret dX0_treeAt_54 rfl rfl h
  · have h := h.2 hc
    refine ow_aload_n (pc' := 15) (x := l0) dX0_treeAt_14 rfl rfl ?_
    refine ow_iload (pc' := 17) (x := l4) dX0_treeAt_15 rfl rfl ?_
    refine ow_iload_n (pc' := 18) (x := l1) dX0_treeAt_17 rfl rfl ?_
    obtain ⟨w, h⟩ := h
    refine ow_callVp (z := mX0_isFirstOfNode) (n := 2) (k := 0) (vs := [(0, l4), (0, l1)]) (x := l0) (st := []) (pc' := 21) (b1 := (0, 0)) (b2 := (0, 0)) dX0_treeAt_18 lRX0_55 kX0_isFirstOfNode iX0_isFirstOfNode rfl rfl rfl rfl rfl rfl w (ow_Sp.mono h (fun r1 N1 h => ?_))
    refine ow_ifeq (pc' := 24) (tg := 47) dX0_treeAt_21 rfl rfl (fun hc => ?_) (fun hc => ?_)
    · have h := h.1 hc
      obtain ⟨w, h⟩ := h
      refine ow_iinc (pc' := 50) (lv' := [(0, (3, l0)), (1, (0, l1)), (2, (0, l2)), (3, (0, l3)), (4, (0, l4 + 1))]) dX0_treeAt_47 rfl w rfl rfl rfl ?_
      refine ow_goto (tg := 5) dX0_treeAt_50 rfl ?_
      exact h
    · have h := h.2 hc
      refine ow_iload_n (pc' := 25) (x := l3) dX0_treeAt_24 rfl rfl ?_
      refine ow_iload_n (pc' := 26) (x := l2) dX0_treeAt_25 rfl rfl ?_
      refine ow_ifeq (pc' := 29) (tg := 44) dX0_treeAt_26 rfl rfl (fun hc => ?_) (fun hc => ?_)
      · have h := h.1 hc
        refine ow_iconst (pc' := 45) (n := 1) dX0_treeAt_44 rfl rfl ?_
        refine ow_sub (lv' := [(0, (3, l0)), (1, (0, l1)), (2, (0, l2)), (4, (0, l4))]) [0, 1, 2, 4] rfl ?_
        exact h
      · have h := h.2 hc
        refine ow_aload_n (pc' := 30) (x := l0) dX0_treeAt_29 rfl rfl ?_
        refine ow_aload_n (pc' := 31) (x := l0) dX0_treeAt_30 rfl rfl ?_
        obtain ⟨w, h⟩ := h
        refine ow_getf2 (pc' := 34) (t := 3) (ji := 1) dX0_treeAt_31 fRX0_9 rfl rfl rfl w ?_
        refine ow_iload (pc' := 36) (x := l4) dX0_treeAt_34 rfl rfl ?_
        obtain ⟨w, h⟩ := h
        refine ow_iaload (pc' := 37) dX0_treeAt_36 rfl w ?_
        refine ow_iload_n (pc' := 38) (x := l1) dX0_treeAt_37 rfl rfl ?_
        obtain ⟨w, h⟩ := h
        refine ow_callVp (z := mX0_arcsOf) (n := 2) (k := 0) (vs := [(0, ow_gv E N1 (ow_gv E N1 l0 1) l4), (0, l1)]) (x := l0) (st := [(0, l3)]) (pc' := 41) (b1 := (0, 0)) (b2 := (0, 0)) dX0_treeAt_38 lRX0_59 kX0_arcsOf iX0_arcsOf rfl rfl rfl rfl rfl rfl w (ow_Sp.mono h (fun r2 N2 h => ?_))
        refine ow_goto (tg := 45) dX0_treeAt_41 rfl ?_
        refine ow_sub (lv' := [(0, (3, l0)), (1, (0, l1)), (2, (0, l2)), (4, (0, l4))]) [0, 1, 2, 4] rfl ?_
        exact h
set_option maxRecDepth 20000 in
theorem bX0_treeAt_45 {C : ow_C} {E : ow_E} {d : Nat} {M : ow_M} {K : Int → ow_M → Prop} {l0 l1 l2 l4 s0 s1 : Int} (h : ow_I (s1 + s0) ∧ ow_I (l4 + 1) ∧ ow_At C E (d + 1) mX0_treeAt 5 [(0, (3, l0)), (1, (0, l1)), (2, (0, l2)), (3, (0, s1 + s0)), (4, (0, l4 + 1))] [] (0, 0) M K) : ow_At C E (d + 1) mX0_treeAt 45 [(0, (3, l0)), (1, (0, l1)), (2, (0, l2)), (4, (0, l4))] [(0, s0), (0, s1)] (0, 0) M K := by
  obtain ⟨w, h⟩ := h
  refine ow_iadd (pc' := 46) dX0_treeAt_45 w rfl ?_
  refine ow_istore_n (pc' := 47) (lv' := [(0, (3, l0)), (1, (0, l1)), (2, (0, l2)), (3, (0, s1 + s0)), (4, (0, l4))]) dX0_treeAt_46 rfl rfl rfl ?_
  obtain ⟨w, h⟩ := h
  refine ow_iinc (pc' := 50) (lv' := [(0, (3, l0)), (1, (0, l1)), (2, (0, l2)), (3, (0, s1 + s0)), (4, (0, l4 + 1))]) dX0_treeAt_47 rfl w rfl rfl rfl ?_
  refine ow_goto (tg := 5) dX0_treeAt_50 rfl ?_
  exact h
theorem eX0_treeAt {C : ow_C} {E : ow_E} {d : Nat} {M : ow_M} {K : Int → ow_M → Prop} {l0 l1 l2 : Int} (h : ow_At C E (d + 1) mX0_treeAt 5 [(0, (3, l0)), (1, (0, l1)), (2, (0, l2)), (3, (0, 0)), (4, (0, 0))] [] (0, 0) M K) : ow_Sp C E (d + 1) mX0_treeAt (0, 0) [(3, l0), (0, l1), (0, l2)] M K := ow_enter (by decide +kernel) rfl rfl (bX0_treeAt_0 h)
set_option maxRecDepth 20000 in
theorem bX0_isFirstOfNode_0 {C : ow_C} {E : ow_E} {d : Nat} {M : ow_M} {K : Int → ow_M → Prop} {l0 l1 l2 : Int} (h : ow_At C E (d + 1) mX0_isFirstOfNode 2 [(0, (3, l0)), (1, (0, l1)), (2, (0, l2)), (3, (0, 0))] [] (0, 0) M K) : ow_At C E (d + 1) mX0_isFirstOfNode 0 [(0, (3, l0)), (1, (0, l1)), (2, (0, l2))] [] (0, 0) M K := by
  refine ow_iconst (pc' := 1) (n := 0) dX0_isFirstOfNode_0 rfl rfl ?_
  refine ow_istore_n (pc' := 2) (lv' := [(0, (3, l0)), (1, (0, l1)), (2, (0, l2)), (3, (0, 0))]) dX0_isFirstOfNode_1 rfl rfl rfl ?_
  exact h
set_option maxRecDepth 20000 in
theorem bX0_isFirstOfNode_2 {C : ow_C} {E : ow_E} {d : Nat} {M : ow_M} {K : Int → ow_M → Prop} {l0 l1 l2 l3 : Int} (h : (l1 ≤ l3 → K 1 M) ∧ (l3 < l1 → ow_O E M l0 0 ∧ ow_R E M (ow_gv E M l0 1) 100 l3 ∧ ow_O E M l0 0 ∧ ow_R E M (ow_gv E M l0 1) 100 l1 ∧ ow_O E M l0 0 ∧ ow_Sp C E d mX0_sameEnds (0, 0) [(3, l0), (0, ow_gv E M (ow_gv E M l0 1) l3), (0, ow_gv E M (ow_gv E M l0 1) l1), (0, l2)] M (fun r1 N1 => (r1 = 0 → ow_I (l3 + 1) ∧ ow_At C E (d + 1) mX0_isFirstOfNode 2 [(0, (3, l0)), (1, (0, l1)), (2, (0, l2)), (3, (0, l3 + 1))] [] (0, 0) N1 K) ∧ (r1 ≠ 0 → K 0 N1)))) : ow_At C E (d + 1) mX0_isFirstOfNode 2 [(0, (3, l0)), (1, (0, l1)), (2, (0, l2)), (3, (0, l3))] [] (0, 0) M K := by
  refine ow_iload_n (pc' := 3) (x := l3) dX0_isFirstOfNode_2 rfl rfl ?_
  refine ow_iload_n (pc' := 4) (x := l1) dX0_isFirstOfNode_3 rfl rfl ?_
  refine ow_icmpge (pc' := 7) (tg := 35) dX0_isFirstOfNode_4 rfl rfl (fun hc => ?_) (fun hc => ?_)
  · have h := h.1 hc
    refine ow_iconst (pc' := 36) (n := 1) dX0_isFirstOfNode_35 rfl rfl ?_
    exact ow_zret dX0_isFirstOfNode_36 rfl rfl (Or.inr rfl) h
  · have h := h.2 hc
    refine ow_aload_n (pc' := 8) (x := l0) dX0_isFirstOfNode_7 rfl rfl ?_
    refine ow_aload_n (pc' := 9) (x := l0) dX0_isFirstOfNode_8 rfl rfl ?_
    obtain ⟨w, h⟩ := h
    refine ow_getf2 (pc' := 12) (t := 3) (ji := 1) dX0_isFirstOfNode_9 fRX0_9 rfl rfl rfl w ?_
    refine ow_iload_n (pc' := 13) (x := l3) dX0_isFirstOfNode_12 rfl rfl ?_
    obtain ⟨w, h⟩ := h
    refine ow_iaload (pc' := 14) dX0_isFirstOfNode_13 rfl w ?_
    refine ow_aload_n (pc' := 15) (x := l0) dX0_isFirstOfNode_14 rfl rfl ?_
    obtain ⟨w, h⟩ := h
    refine ow_getf2 (pc' := 18) (t := 3) (ji := 1) dX0_isFirstOfNode_15 fRX0_9 rfl rfl rfl w ?_
    refine ow_iload_n (pc' := 19) (x := l1) dX0_isFirstOfNode_18 rfl rfl ?_
    obtain ⟨w, h⟩ := h
    refine ow_iaload (pc' := 20) dX0_isFirstOfNode_19 rfl w ?_
    refine ow_iload_n (pc' := 21) (x := l2) dX0_isFirstOfNode_20 rfl rfl ?_
    obtain ⟨w, h⟩ := h
    refine ow_callVp (z := mX0_sameEnds) (n := 3) (k := 0) (vs := [(0, ow_gv E M (ow_gv E M l0 1) l3), (0, ow_gv E M (ow_gv E M l0 1) l1), (0, l2)]) (x := l0) (st := []) (pc' := 24) (b1 := (0, 0)) (b2 := (0, 0)) dX0_isFirstOfNode_21 lRX0_62 kX0_sameEnds iX0_sameEnds rfl rfl rfl rfl rfl rfl w (ow_Sp.mono h (fun r1 N1 h => ?_))
    refine ow_ifeq (pc' := 27) (tg := 29) dX0_isFirstOfNode_24 rfl rfl (fun hc => ?_) (fun hc => ?_)
    · have h := h.1 hc
      obtain ⟨w, h⟩ := h
      refine ow_iinc (pc' := 32) (lv' := [(0, (3, l0)), (1, (0, l1)), (2, (0, l2)), (3, (0, l3 + 1))]) dX0_isFirstOfNode_29 rfl w rfl rfl rfl ?_
      refine ow_goto (tg := 2) dX0_isFirstOfNode_32 rfl ?_
      exact h
    · have h := h.2 hc
      refine ow_iconst (pc' := 28) (n := 0) dX0_isFirstOfNode_27 rfl rfl ?_
      exact ow_zret dX0_isFirstOfNode_28 rfl rfl (Or.inl rfl) h
theorem eX0_isFirstOfNode {C : ow_C} {E : ow_E} {d : Nat} {M : ow_M} {K : Int → ow_M → Prop} {l0 l1 l2 : Int} (h : ow_At C E (d + 1) mX0_isFirstOfNode 2 [(0, (3, l0)), (1, (0, l1)), (2, (0, l2)), (3, (0, 0))] [] (0, 0) M K) : ow_Sp C E (d + 1) mX0_isFirstOfNode (0, 0) [(3, l0), (0, l1), (0, l2)] M K := ow_enter (by decide +kernel) rfl rfl (bX0_isFirstOfNode_0 h)
set_option maxRecDepth 20000 in
theorem bX0_arcsOf_0 {C : ow_C} {E : ow_E} {d : Nat} {M : ow_M} {K : Int → ow_M → Prop} {l0 l1 l2 : Int} (h : ow_O E M l0 0 ∧ ow_O E M (ow_gv E M l0 0) 10 ∧ (l2 < (ow_gv E M (ow_gv E M l0 0) 1) → ow_O E M l0 0 ∧ ow_O E M (ow_gv E M l0 0) 10 ∧ ow_O E M l0 0 ∧ ow_O E M (ow_gv E M l0 0) 10 ∧ ow_I ((ow_gv E M (ow_gv E M l0 0) 1) - l2) ∧ ow_I (((ow_gv E M (ow_gv E M l0 0) 1) - l2) - 1) ∧ ow_Sp C E d mX10_raised (0, 0) [(0, ow_gv E M (ow_gv E M l0 0) 0), (0, ((ow_gv E M (ow_gv E M l0 0) 1) - l2) - 1)] M (fun r1 N1 => ow_O E N1 l0 0 ∧ ow_O E N1 (ow_gv E N1 l0 0) 10 ∧ ow_I (r1 * (ow_gv E N1 (ow_gv E N1 l0 0) 0)) ∧ ((r1 * (ow_gv E N1 (ow_gv E N1 l0 0) 0)) ≤ 0 → ow_At C E (d + 1) mX0_arcsOf 69 [(0, (3, l0)), (3, (0, r1)), (5, (0, 0)), (6, (0, 0)), (7, (0, 0))] [] (0, 0) N1 K) ∧ (0 < (r1 * (ow_gv E N1 (ow_gv E N1 l0 0) 0)) → (r1 * (ow_gv E N1 (ow_gv E N1 l0 0) 0)) ≠ 0 ∧ ow_I (Int.tdiv l1 (r1 * (ow_gv E N1 (ow_gv E N1 l0 0) 0))) ∧ ow_I (Int.tmod l1 (r1 * (ow_gv E N1 (ow_gv E N1 l0 0) 0))) ∧ ow_I (l1 - (Int.tmod l1 (r1 * (ow_gv E N1 (ow_gv E N1 l0 0) 0)))) ∧ ow_At C E (d + 1) mX0_arcsOf 69 [(0, (3, l0)), (3, (0, r1)), (5, (0, l1 - (Int.tmod l1 (r1 * (ow_gv E N1 (ow_gv E N1 l0 0) 0))))), (6, (0, 0)), (7, (0, 0))] [] (0, 0) N1 K))) ∧ ((ow_gv E M (ow_gv E M l0 0) 1) ≤ l2 → K 0 M)) : ow_At C E (d + 1) mX0_arcsOf 0 [(0, (3, l0)), (1, (0, l1)), (2, (0, l2))] [] (0, 0) M K := by
  refine ow_iload_n (pc' := 1) (x := l2) dX0_arcsOf_0 rfl rfl ?_
  refine ow_aload_n (pc' := 2) (x := l0) dX0_arcsOf_1 rfl rfl ?_
  obtain ⟨w, h⟩ := h
  refine ow_getf2 (pc' := 5) (t := 3) (ji := 0) dX0_arcsOf_2 fRX0_22 rfl rfl rfl w ?_
  obtain ⟨w, h⟩ := h
  refine ow_getf2 (pc' := 8) (t := 0) (ji := 1) dX0_arcsOf_5 fRX0_48 rfl rfl rfl w ?_
  refine ow_icmplt (pc' := 11) (tg := 13) dX0_arcsOf_8 rfl rfl (fun hc => ?_) (fun hc => ?_)
  · have h := h.1 hc
    refine ow_aload_n (pc' := 14) (x := l0) dX0_arcsOf_13 rfl rfl ?_
    obtain ⟨w, h⟩ := h
    refine ow_getf2 (pc' := 17) (t := 3) (ji := 0) dX0_arcsOf_14 fRX0_22 rfl rfl rfl w ?_
    obtain ⟨w, h⟩ := h
    refine ow_getf2 (pc' := 20) (t := 0) (ji := 0) dX0_arcsOf_17 fRX0_45 rfl rfl rfl w ?_
    refine ow_aload_n (pc' := 21) (x := l0) dX0_arcsOf_20 rfl rfl ?_
    obtain ⟨w, h⟩ := h
    refine ow_getf2 (pc' := 24) (t := 3) (ji := 0) dX0_arcsOf_21 fRX0_22 rfl rfl rfl w ?_
    obtain ⟨w, h⟩ := h
    refine ow_getf2 (pc' := 27) (t := 0) (ji := 1) dX0_arcsOf_24 fRX0_48 rfl rfl rfl w ?_
    refine ow_iload_n (pc' := 28) (x := l2) dX0_arcsOf_27 rfl rfl ?_
    obtain ⟨w, h⟩ := h
    refine ow_isub (pc' := 29) dX0_arcsOf_28 w rfl ?_
    refine ow_iconst (pc' := 30) (n := 1) dX0_arcsOf_29 rfl rfl ?_
    obtain ⟨w, h⟩ := h
    refine ow_isub (pc' := 31) dX0_arcsOf_30 w rfl ?_
    refine ow_callSp (z := mX10_raised) (n := 2) (vs := [(0, ow_gv E M (ow_gv E M l0 0) 0), (0, ((ow_gv E M (ow_gv E M l0 0) 1) - l2) - 1)]) (st := []) (pc' := 34) (b1 := (0, 0)) (b2 := (0, 0)) dX0_arcsOf_31 lRX0_51 kX10_raised zX10_raised rfl rfl rfl rfl rfl rfl (ow_Sp.mono h (fun r1 N1 h => ?_))
    refine ow_istore_n (pc' := 35) (lv' := [(0, (3, l0)), (1, (0, l1)), (2, (0, l2)), (3, (0, r1))]) dX0_arcsOf_34 rfl rfl rfl ?_
    refine ow_iload_n (pc' := 36) (x := r1) dX0_arcsOf_35 rfl rfl ?_
    refine ow_aload_n (pc' := 37) (x := l0) dX0_arcsOf_36 rfl rfl ?_
    obtain ⟨w, h⟩ := h
    refine ow_getf2 (pc' := 40) (t := 3) (ji := 0) dX0_arcsOf_37 fRX0_22 rfl rfl rfl w ?_
    obtain ⟨w, h⟩ := h
    refine ow_getf2 (pc' := 43) (t := 0) (ji := 0) dX0_arcsOf_40 fRX0_45 rfl rfl rfl w ?_
    obtain ⟨w, h⟩ := h
    refine ow_imul (pc' := 44) dX0_arcsOf_43 w rfl ?_
    refine ow_istore (pc' := 46) (lv' := [(0, (3, l0)), (1, (0, l1)), (2, (0, l2)), (3, (0, r1)), (4, (0, r1 * (ow_gv E N1 (ow_gv E N1 l0 0) 0)))]) dX0_arcsOf_44 rfl rfl rfl ?_
    refine ow_iload (pc' := 48) (x := r1 * (ow_gv E N1 (ow_gv E N1 l0 0) 0)) dX0_arcsOf_46 rfl rfl ?_
    refine ow_ifle (pc' := 51) (tg := 60) dX0_arcsOf_48 rfl rfl (fun hc => ?_) (fun hc => ?_)
    · have h := h.1 hc
      refine ow_iconst (pc' := 61) (n := 0) dX0_arcsOf_60 rfl rfl ?_
      refine ow_istore (pc' := 63) (lv' := [(0, (3, l0)), (1, (0, l1)), (2, (0, l2)), (3, (0, r1)), (4, (0, r1 * (ow_gv E N1 (ow_gv E N1 l0 0) 0))), (5, (0, 0))]) dX0_arcsOf_61 rfl rfl rfl ?_
      refine ow_iconst (pc' := 64) (n := 0) dX0_arcsOf_63 rfl rfl ?_
      refine ow_istore (pc' := 66) (lv' := [(0, (3, l0)), (1, (0, l1)), (2, (0, l2)), (3, (0, r1)), (4, (0, r1 * (ow_gv E N1 (ow_gv E N1 l0 0) 0))), (5, (0, 0)), (6, (0, 0))]) dX0_arcsOf_64 rfl rfl rfl ?_
      refine ow_iconst (pc' := 67) (n := 0) dX0_arcsOf_66 rfl rfl ?_
      refine ow_istore (pc' := 69) (lv' := [(0, (3, l0)), (1, (0, l1)), (2, (0, l2)), (3, (0, r1)), (4, (0, r1 * (ow_gv E N1 (ow_gv E N1 l0 0) 0))), (5, (0, 0)), (6, (0, 0)), (7, (0, 0))]) dX0_arcsOf_67 rfl rfl rfl ?_
      refine ow_sub (lv' := [(0, (3, l0)), (3, (0, r1)), (5, (0, 0)), (6, (0, 0)), (7, (0, 0))]) [0, 3, 5, 6, 7] rfl ?_
      exact h
    · have h := h.2 hc
      refine ow_iload_n (pc' := 52) (x := l1) dX0_arcsOf_51 rfl rfl ?_
      refine ow_iload_n (pc' := 53) (x := l1) dX0_arcsOf_52 rfl rfl ?_
      refine ow_iload (pc' := 55) (x := r1 * (ow_gv E N1 (ow_gv E N1 l0 0) 0)) dX0_arcsOf_53 rfl rfl ?_
      obtain ⟨w0, w, w1, h⟩ := h
      refine ow_irem (pc' := 56) dX0_arcsOf_55 w0 w w1 rfl ?_
      obtain ⟨w, h⟩ := h
      refine ow_isub (pc' := 57) dX0_arcsOf_56 w rfl ?_
      refine ow_goto (tg := 61) dX0_arcsOf_57 rfl ?_
      refine ow_istore (pc' := 63) (lv' := [(0, (3, l0)), (1, (0, l1)), (2, (0, l2)), (3, (0, r1)), (4, (0, r1 * (ow_gv E N1 (ow_gv E N1 l0 0) 0))), (5, (0, l1 - (Int.tmod l1 (r1 * (ow_gv E N1 (ow_gv E N1 l0 0) 0)))))]) dX0_arcsOf_61 rfl rfl rfl ?_
      refine ow_iconst (pc' := 64) (n := 0) dX0_arcsOf_63 rfl rfl ?_
      refine ow_istore (pc' := 66) (lv' := [(0, (3, l0)), (1, (0, l1)), (2, (0, l2)), (3, (0, r1)), (4, (0, r1 * (ow_gv E N1 (ow_gv E N1 l0 0) 0))), (5, (0, l1 - (Int.tmod l1 (r1 * (ow_gv E N1 (ow_gv E N1 l0 0) 0))))), (6, (0, 0))]) dX0_arcsOf_64 rfl rfl rfl ?_
      refine ow_iconst (pc' := 67) (n := 0) dX0_arcsOf_66 rfl rfl ?_
      refine ow_istore (pc' := 69) (lv' := [(0, (3, l0)), (1, (0, l1)), (2, (0, l2)), (3, (0, r1)), (4, (0, r1 * (ow_gv E N1 (ow_gv E N1 l0 0) 0))), (5, (0, l1 - (Int.tmod l1 (r1 * (ow_gv E N1 (ow_gv E N1 l0 0) 0))))), (6, (0, 0)), (7, (0, 0))]) dX0_arcsOf_67 rfl rfl rfl ?_
      refine ow_sub (lv' := [(0, (3, l0)), (3, (0, r1)), (5, (0, l1 - (Int.tmod l1 (r1 * (ow_gv E N1 (ow_gv E N1 l0 0) 0))))), (6, (0, 0)), (7, (0, 0))]) [0, 3, 5, 6, 7] rfl ?_
      exact h
  · have h := h.2 hc
    refine ow_iconst (pc' := 12) (n := 0) dX0_arcsOf_11 rfl rfl ?_
    exact ow_iret dX0_arcsOf_12 rfl rfl h
set_option maxRecDepth 20000 in
theorem bX0_arcsOf_69 {C : ow_C} {E : ow_E} {d : Nat} {M : ow_M} {K : Int → ow_M → Prop} {l0 l3 l5 l6 l7 : Int} (h : ow_O E M l0 0 ∧ ow_O E M (ow_gv E M l0 0) 10 ∧ ((ow_gv E M (ow_gv E M l0 0) 0) ≤ l7 → K l6 M) ∧ (l7 < (ow_gv E M (ow_gv E M l0 0) 0) → ow_I (l7 * l3) ∧ ow_I (l5 + (l7 * l3)) ∧ ow_O E M l0 0 ∧ ow_Sp C E d mX0_holdsAny (0, 0) [(3, l0), (0, l5 + (l7 * l3)), (0, l3)] M (fun r1 N1 => (r1 = 0 → ow_I (l7 + 1) ∧ ow_At C E (d + 1) mX0_arcsOf 69 [(0, (3, l0)), (3, (0, l3)), (5, (0, l5)), (6, (0, l6)), (7, (0, l7 + 1))] [] (0, 0) N1 K) ∧ (r1 ≠ 0 → ow_I (l6 + 1) ∧ ow_I (l7 + 1) ∧ ow_At C E (d + 1) mX0_arcsOf 69 [(0, (3, l0)), (3, (0, l3)), (5, (0, l5)), (6, (0, l6 + 1)), (7, (0, l7 + 1))] [] (0, 0) N1 K)))) : ow_At C E (d + 1) mX0_arcsOf 69 [(0, (3, l0)), (3, (0, l3)), (5, (0, l5)), (6, (0, l6)), (7, (0, l7))] [] (0, 0) M K := by
  refine ow_iload (pc' := 71) (x := l7) dX0_arcsOf_69 rfl rfl ?_
  refine ow_aload_n (pc' := 72) (x := l0) dX0_arcsOf_71 rfl rfl ?_
  obtain ⟨w, h⟩ := h
  refine ow_getf2 (pc' := 75) (t := 3) (ji := 0) dX0_arcsOf_72 fRX0_22 rfl rfl rfl w ?_
  obtain ⟨w, h⟩ := h
  refine ow_getf2 (pc' := 78) (t := 0) (ji := 0) dX0_arcsOf_75 fRX0_45 rfl rfl rfl w ?_
  refine ow_icmpge (pc' := 81) (tg := 105) dX0_arcsOf_78 rfl rfl (fun hc => ?_) (fun hc => ?_)
  · have h := h.1 hc
    refine ow_iload (pc' := 107) (x := l6) dX0_arcsOf_105 rfl rfl ?_
    exact ow_iret dX0_arcsOf_107 rfl rfl h
  · have h := h.2 hc
    refine ow_aload_n (pc' := 82) (x := l0) dX0_arcsOf_81 rfl rfl ?_
    refine ow_iload (pc' := 84) (x := l5) dX0_arcsOf_82 rfl rfl ?_
    refine ow_iload (pc' := 86) (x := l7) dX0_arcsOf_84 rfl rfl ?_
    refine ow_iload_n (pc' := 87) (x := l3) dX0_arcsOf_86 rfl rfl ?_
    obtain ⟨w, h⟩ := h
    refine ow_imul (pc' := 88) dX0_arcsOf_87 w rfl ?_
    obtain ⟨w, h⟩ := h
    refine ow_iadd (pc' := 89) dX0_arcsOf_88 w rfl ?_
    refine ow_iload_n (pc' := 90) (x := l3) dX0_arcsOf_89 rfl rfl ?_
    obtain ⟨w, h⟩ := h
    refine ow_callVp (z := mX0_holdsAny) (n := 2) (k := 0) (vs := [(0, l5 + (l7 * l3)), (0, l3)]) (x := l0) (st := []) (pc' := 93) (b1 := (0, 0)) (b2 := (0, 0)) dX0_arcsOf_90 lRX0_66 kX0_holdsAny iX0_holdsAny rfl rfl rfl rfl rfl rfl w (ow_Sp.mono h (fun r1 N1 h => ?_))
    refine ow_ifeq (pc' := 96) (tg := 99) dX0_arcsOf_93 rfl rfl (fun hc => ?_) (fun hc => ?_)
    · have h := h.1 hc
      obtain ⟨w, h⟩ := h
      refine ow_iinc (pc' := 102) (lv' := [(0, (3, l0)), (3, (0, l3)), (5, (0, l5)), (6, (0, l6)), (7, (0, l7 + 1))]) dX0_arcsOf_99 rfl w rfl rfl rfl ?_
      refine ow_goto (tg := 69) dX0_arcsOf_102 rfl ?_
      exact h
    · have h := h.2 hc
      obtain ⟨w, h⟩ := h
      refine ow_iinc (pc' := 99) (lv' := [(0, (3, l0)), (3, (0, l3)), (5, (0, l5)), (6, (0, l6 + 1)), (7, (0, l7))]) dX0_arcsOf_96 rfl w rfl rfl rfl ?_
      obtain ⟨w, h⟩ := h
      refine ow_iinc (pc' := 102) (lv' := [(0, (3, l0)), (3, (0, l3)), (5, (0, l5)), (6, (0, l6 + 1)), (7, (0, l7 + 1))]) dX0_arcsOf_99 rfl w rfl rfl rfl ?_
      refine ow_goto (tg := 69) dX0_arcsOf_102 rfl ?_
      exact h
theorem eX0_arcsOf {C : ow_C} {E : ow_E} {d : Nat} {M : ow_M} {K : Int → ow_M → Prop} {l0 l1 l2 : Int} (h : ow_O E M l0 0 ∧ ow_O E M (ow_gv E M l0 0) 10 ∧ (l2 < (ow_gv E M (ow_gv E M l0 0) 1) → ow_O E M l0 0 ∧ ow_O E M (ow_gv E M l0 0) 10 ∧ ow_O E M l0 0 ∧ ow_O E M (ow_gv E M l0 0) 10 ∧ ow_I ((ow_gv E M (ow_gv E M l0 0) 1) - l2) ∧ ow_I (((ow_gv E M (ow_gv E M l0 0) 1) - l2) - 1) ∧ ow_Sp C E d mX10_raised (0, 0) [(0, ow_gv E M (ow_gv E M l0 0) 0), (0, ((ow_gv E M (ow_gv E M l0 0) 1) - l2) - 1)] M (fun r1 N1 => ow_O E N1 l0 0 ∧ ow_O E N1 (ow_gv E N1 l0 0) 10 ∧ ow_I (r1 * (ow_gv E N1 (ow_gv E N1 l0 0) 0)) ∧ ((r1 * (ow_gv E N1 (ow_gv E N1 l0 0) 0)) ≤ 0 → ow_At C E (d + 1) mX0_arcsOf 69 [(0, (3, l0)), (3, (0, r1)), (5, (0, 0)), (6, (0, 0)), (7, (0, 0))] [] (0, 0) N1 K) ∧ (0 < (r1 * (ow_gv E N1 (ow_gv E N1 l0 0) 0)) → (r1 * (ow_gv E N1 (ow_gv E N1 l0 0) 0)) ≠ 0 ∧ ow_I (Int.tdiv l1 (r1 * (ow_gv E N1 (ow_gv E N1 l0 0) 0))) ∧ ow_I (Int.tmod l1 (r1 * (ow_gv E N1 (ow_gv E N1 l0 0) 0))) ∧ ow_I (l1 - (Int.tmod l1 (r1 * (ow_gv E N1 (ow_gv E N1 l0 0) 0)))) ∧ ow_At C E (d + 1) mX0_arcsOf 69 [(0, (3, l0)), (3, (0, r1)), (5, (0, l1 - (Int.tmod l1 (r1 * (ow_gv E N1 (ow_gv E N1 l0 0) 0))))), (6, (0, 0)), (7, (0, 0))] [] (0, 0) N1 K))) ∧ ((ow_gv E M (ow_gv E M l0 0) 1) ≤ l2 → K 0 M)) : ow_Sp C E (d + 1) mX0_arcsOf (0, 0) [(3, l0), (0, l1), (0, l2)] M K := ow_enter (by decide +kernel) rfl rfl (bX0_arcsOf_0 h)
set_option maxRecDepth 20000 in
theorem bX0_holdsAny_0 {C : ow_C} {E : ow_E} {d : Nat} {M : ow_M} {K : Int → ow_M → Prop} {l0 l1 l2 : Int} (h : ow_At C E d mX0_holdsAny 2 [(0, (3, l0)), (1, (0, l1)), (2, (0, l2)), (3, (0, l1))] [] (0, 0) M K) : ow_At C E d mX0_holdsAny 0 [(0, (3, l0)), (1, (0, l1)), (2, (0, l2))] [] (0, 0) M K := by
  refine ow_iload_n (pc' := 1) (x := l1) dX0_holdsAny_0 rfl rfl ?_
  refine ow_istore_n (pc' := 2) (lv' := [(0, (3, l0)), (1, (0, l1)), (2, (0, l2)), (3, (0, l1))]) dX0_holdsAny_1 rfl rfl rfl ?_
  exact h
set_option maxRecDepth 20000 in
theorem bX0_holdsAny_2 {C : ow_C} {E : ow_E} {d : Nat} {M : ow_M} {K : Int → ow_M → Prop} {l0 l1 l2 l3 : Int} (h : ow_I (l1 + l2) ∧ ((l1 + l2) ≤ l3 → K 0 M) ∧ (l3 < (l1 + l2) → ow_O E M l0 0 ∧ (0 ≤ (ow_gv E M l0 3) ∧ (ow_gv E M l0 3) < ow_nb E M ∧ (E.2.1 (ow_gv E M l0 3)).1 = 102 ∧ 0 ≤ (E.2.1 (ow_gv E M l0 3)).2 ∧ (E.2.1 (ow_gv E M l0 3)).2 ≤ 2147483647) ∧ (((E.2.1 (ow_gv E M l0 3)).2) ≤ l3 → K 0 M) ∧ (l3 < ((E.2.1 (ow_gv E M l0 3)).2) → ow_O E M l0 0 ∧ ow_R E M (ow_gv E M l0 3) 102 l3 ∧ ((ow_gv E M (ow_gv E M l0 3) l3) = 0 → ow_I (l3 + 1) ∧ ow_At C E d mX0_holdsAny 2 [(0, (3, l0)), (1, (0, l1)), (2, (0, l2)), (3, (0, l3 + 1))] [] (0, 0) M K) ∧ ((ow_gv E M (ow_gv E M l0 3) l3) ≠ 0 → K 1 M)))) : ow_At C E d mX0_holdsAny 2 [(0, (3, l0)), (1, (0, l1)), (2, (0, l2)), (3, (0, l3))] [] (0, 0) M K := by
  refine ow_iload_n (pc' := 3) (x := l3) dX0_holdsAny_2 rfl rfl ?_
  refine ow_iload_n (pc' := 4) (x := l1) dX0_holdsAny_3 rfl rfl ?_
  refine ow_iload_n (pc' := 5) (x := l2) dX0_holdsAny_4 rfl rfl ?_
  obtain ⟨w, h⟩ := h
  refine ow_iadd (pc' := 6) dX0_holdsAny_5 w rfl ?_
  refine ow_icmpge (pc' := 9) (tg := 35) dX0_holdsAny_6 rfl rfl (fun hc => ?_) (fun hc => ?_)
  · have h := h.1 hc
    refine ow_iconst (pc' := 36) (n := 0) dX0_holdsAny_35 rfl rfl ?_
    exact ow_zret dX0_holdsAny_36 rfl rfl (Or.inl rfl) h
  · have h := h.2 hc
    refine ow_iload_n (pc' := 10) (x := l3) dX0_holdsAny_9 rfl rfl ?_
    refine ow_aload_n (pc' := 11) (x := l0) dX0_holdsAny_10 rfl rfl ?_
    obtain ⟨w, h⟩ := h
    refine ow_getf2 (pc' := 14) (t := 3) (ji := 3) dX0_holdsAny_11 fRX0_31 rfl rfl rfl w ?_
    obtain ⟨⟨w, w1, w2, w3, w4⟩, h⟩ := h
    refine ow_alen (pc' := 15) (t := 102) dX0_holdsAny_14 rfl rfl w w1 w2 w3 w4 ?_
    refine ow_icmpge (pc' := 18) (tg := 35) dX0_holdsAny_15 rfl rfl (fun hc => ?_) (fun hc => ?_)
    · have h := h.1 hc
      refine ow_iconst (pc' := 36) (n := 0) dX0_holdsAny_35 rfl rfl ?_
      exact ow_zret dX0_holdsAny_36 rfl rfl (Or.inl rfl) h
    · have h := h.2 hc
      refine ow_aload_n (pc' := 19) (x := l0) dX0_holdsAny_18 rfl rfl ?_
      obtain ⟨w, h⟩ := h
      refine ow_getf2 (pc' := 22) (t := 3) (ji := 3) dX0_holdsAny_19 fRX0_31 rfl rfl rfl w ?_
      refine ow_iload_n (pc' := 23) (x := l3) dX0_holdsAny_22 rfl rfl ?_
      obtain ⟨w, h⟩ := h
      refine ow_baload (pc' := 24) dX0_holdsAny_23 rfl w ?_
      refine ow_ifeq (pc' := 27) (tg := 29) dX0_holdsAny_24 rfl rfl (fun hc => ?_) (fun hc => ?_)
      · have h := h.1 hc
        obtain ⟨w, h⟩ := h
        refine ow_iinc (pc' := 32) (lv' := [(0, (3, l0)), (1, (0, l1)), (2, (0, l2)), (3, (0, l3 + 1))]) dX0_holdsAny_29 rfl w rfl rfl rfl ?_
        refine ow_goto (tg := 2) dX0_holdsAny_32 rfl ?_
        exact h
      · have h := h.2 hc
        refine ow_iconst (pc' := 28) (n := 1) dX0_holdsAny_27 rfl rfl ?_
        exact ow_zret dX0_holdsAny_28 rfl rfl (Or.inr rfl) h
theorem eX0_holdsAny {C : ow_C} {E : ow_E} {d : Nat} {M : ow_M} {K : Int → ow_M → Prop} {l0 l1 l2 : Int} (h : ow_At C E d mX0_holdsAny 2 [(0, (3, l0)), (1, (0, l1)), (2, (0, l2)), (3, (0, l1))] [] (0, 0) M K) : ow_Sp C E d mX0_holdsAny (0, 0) [(3, l0), (0, l1), (0, l2)] M K := ow_enter (by decide +kernel) rfl rfl (bX0_holdsAny_0 h)
set_option maxRecDepth 20000 in
theorem bX4_init_0 {C : ow_C} {E : ow_E} {d : Nat} {M : ow_M} {K : Int → ow_M → Prop} {bc bs : Nat} {l0 : Int} (hE : E.2.2 = none) (hF : ∀ c i, E.1 c i = none) (h : 0 ≤ l0 ∧ l0 < 900 ∧ ow_O E M l0 4 ∧ E.1 l0 0 = none ∧ ∀ N1, N1 = ow_up M l0 0 0 → ow_O E N1 l0 4 ∧ E.1 l0 1 = none ∧ ∀ N2, N2 = ow_up N1 l0 1 0 → E.2.1 (N2 (-1) 0) = (100, 40) ∧ N2 (-1) 0 < 800 ∧ (0 : Int) ≤ 40 ∧ (40 : Int) ≤ ((40 : Nat) : Int) ∧ ∀ q3 N3, q3 = N2 (-1) 0 → N3 = ow_mk1 N2 (fun _ => 0) → ow_O E N3 l0 4 ∧ E.1 l0 2 = none ∧ ∀ N4, N4 = ow_up N3 l0 2 q3 → E.2.1 (N4 (-1) 0) = (100, 40) ∧ N4 (-1) 0 < 800 ∧ (0 : Int) ≤ 40 ∧ (40 : Int) ≤ ((40 : Nat) : Int) ∧ ∀ q5 N5, q5 = N4 (-1) 0 → N5 = ow_mk1 N4 (fun _ => 0) → ow_O E N5 l0 4 ∧ E.1 l0 3 = none ∧ ∀ N6, N6 = ow_up N5 l0 3 q5 → E.2.1 (N6 (-1) 0) = (100, 40) ∧ N6 (-1) 0 < 800 ∧ (0 : Int) ≤ 40 ∧ (40 : Int) ≤ ((40 : Nat) : Int) ∧ ∀ q7 N7, q7 = N6 (-1) 0 → N7 = ow_mk1 N6 (fun _ => 0) → ow_O E N7 l0 4 ∧ E.1 l0 4 = none ∧ ∀ N8, N8 = ow_up N7 l0 4 q7 → K 0 N8) : ow_At C E (d + 1) mX4_init 0 [(0, (3, l0))] [] (bc + 3, bs + 120) M K := by
  refine ow_aload_n (pc' := 1) (x := l0) dX4_init_0 rfl rfl ?_
  obtain ⟨w, w1, h⟩ := h
  refine ow_objinit (pc' := 4) dX4_init_1 lRX4_3 ow_oi1 ow_oi2 rfl rfl w w1 ?_
  refine ow_aload_n (pc' := 5) (x := l0) dX4_init_4 rfl rfl ?_
  refine ow_iconst (pc' := 6) (n := 0) dX4_init_5 rfl rfl ?_
  obtain ⟨w, w1, h⟩ := h
  refine ow_putf2 (pc' := 9) (t := 0) (ji := 0) dX4_init_6 fRX4_9 rfl rfl rfl rfl w w1 (fun hz => absurd hz (by decide)) (fun N1 eN1 => ?_)
  have h := h N1 eN1
  refine ow_aload_n (pc' := 10) (x := l0) dX4_init_9 rfl rfl ?_
  refine ow_iconst (pc' := 11) (n := 0) dX4_init_10 rfl rfl ?_
  obtain ⟨w, w1, h⟩ := h
  refine ow_putf2 (pc' := 14) (t := 0) (ji := 1) dX4_init_11 fRX4_15 rfl rfl rfl rfl w w1 (fun hz => absurd hz (by decide)) (fun N2 eN2 => ?_)
  have h := h N2 eN2
  refine ow_aload_n (pc' := 15) (x := l0) dX4_init_14 rfl rfl ?_
  refine ow_bipush (pc' := 17) (n := 40) dX4_init_15 rfl rfl ?_
  obtain ⟨w, w1, w2, w3, h⟩ := h
  refine ow_newi2 (pc' := 19) (N := 40) (b2 := (bc + 2, bs + 80)) dX4_init_17 ow_arI rfl hE hF w w1 w2 w3 rfl (Prod.ext (by show bc + _ = _ + (bc + _); omega) (by show bs + _ = _ + (bs + _); omega)) (fun q3 N3 eq3 eN3 => ?_)
  have h := h q3 N3 eq3 eN3
  obtain ⟨w, w1, h⟩ := h
  refine ow_putF2 (pc' := 22) (t := 3) (ji := 2) dX4_init_19 gRX4_18 rfl rfl rfl rfl rfl w w1 (fun hz => absurd hz (by decide)) (fun N4 eN4 => ?_)
  have h := h N4 eN4
  refine ow_aload_n (pc' := 23) (x := l0) dX4_init_22 rfl rfl ?_
  refine ow_bipush (pc' := 25) (n := 40) dX4_init_23 rfl rfl ?_
  obtain ⟨w, w1, w2, w3, h⟩ := h
  refine ow_newi2 (pc' := 27) (N := 40) (b2 := (bc + 1, bs + 40)) dX4_init_25 ow_arI rfl hE hF w w1 w2 w3 rfl (Prod.ext (by show bc + _ = _ + (bc + _); omega) (by show bs + _ = _ + (bs + _); omega)) (fun q5 N5 eq5 eN5 => ?_)
  have h := h q5 N5 eq5 eN5
  obtain ⟨w, w1, h⟩ := h
  refine ow_putF2 (pc' := 30) (t := 3) (ji := 3) dX4_init_27 gRX4_22 rfl rfl rfl rfl rfl w w1 (fun hz => absurd hz (by decide)) (fun N6 eN6 => ?_)
  have h := h N6 eN6
  refine ow_aload_n (pc' := 31) (x := l0) dX4_init_30 rfl rfl ?_
  refine ow_bipush (pc' := 33) (n := 40) dX4_init_31 rfl rfl ?_
  obtain ⟨w, w1, w2, w3, h⟩ := h
  refine ow_newi2 (pc' := 35) (N := 40) (b2 := (bc + 0, bs + 0)) dX4_init_33 ow_arI rfl hE hF w w1 w2 w3 rfl (Prod.ext (by show bc + _ = _ + (bc + _); omega) (by show bs + _ = _ + (bs + _); omega)) (fun q7 N7 eq7 eN7 => ?_)
  have h := h q7 N7 eq7 eN7
  obtain ⟨w, w1, h⟩ := h
  refine ow_putF2 (pc' := 38) (t := 3) (ji := 4) dX4_init_35 gRX4_25 rfl rfl rfl rfl rfl w w1 (fun hz => absurd hz (by decide)) (fun N8 eN8 => ?_)
  have h := h N8 eN8
  refine ow_less (b' := (0, 0)) rfl rfl ?_
  exact ow_vret dX4_init_38 rfl rfl h
theorem eX4_init {C : ow_C} {E : ow_E} {d : Nat} {M : ow_M} {K : Int → ow_M → Prop} {l0 : Int} (hE : E.2.2 = none) (hF : ∀ c i, E.1 c i = none) (h : 0 ≤ l0 ∧ l0 < 900 ∧ ow_O E M l0 4 ∧ E.1 l0 0 = none ∧ ∀ N1, N1 = ow_up M l0 0 0 → ow_O E N1 l0 4 ∧ E.1 l0 1 = none ∧ ∀ N2, N2 = ow_up N1 l0 1 0 → E.2.1 (N2 (-1) 0) = (100, 40) ∧ N2 (-1) 0 < 800 ∧ (0 : Int) ≤ 40 ∧ (40 : Int) ≤ ((40 : Nat) : Int) ∧ ∀ q3 N3, q3 = N2 (-1) 0 → N3 = ow_mk1 N2 (fun _ => 0) → ow_O E N3 l0 4 ∧ E.1 l0 2 = none ∧ ∀ N4, N4 = ow_up N3 l0 2 q3 → E.2.1 (N4 (-1) 0) = (100, 40) ∧ N4 (-1) 0 < 800 ∧ (0 : Int) ≤ 40 ∧ (40 : Int) ≤ ((40 : Nat) : Int) ∧ ∀ q5 N5, q5 = N4 (-1) 0 → N5 = ow_mk1 N4 (fun _ => 0) → ow_O E N5 l0 4 ∧ E.1 l0 3 = none ∧ ∀ N6, N6 = ow_up N5 l0 3 q5 → E.2.1 (N6 (-1) 0) = (100, 40) ∧ N6 (-1) 0 < 800 ∧ (0 : Int) ≤ 40 ∧ (40 : Int) ≤ ((40 : Nat) : Int) ∧ ∀ q7 N7, q7 = N6 (-1) 0 → N7 = ow_mk1 N6 (fun _ => 0) → ow_O E N7 l0 4 ∧ E.1 l0 4 = none ∧ ∀ N8, N8 = ow_up N7 l0 4 q7 → K 0 N8) : ow_Sp C E (d + 1) mX4_init (0 + 3, 0 + 120) [(3, l0)] M K := ow_enter (by decide +kernel) rfl rfl (bX4_init_0 hE hF h)
set_option maxRecDepth 20000 in
theorem bX4_begin_0 {C : ow_C} {E : ow_E} {d : Nat} {M : ow_M} {K : Int → ow_M → Prop} {l0 l1 : Int} (h : ow_O E M l0 4 ∧ E.1 l0 0 = none ∧ ∀ N1, N1 = ow_up M l0 0 l1 → ow_O E N1 l0 4 ∧ E.1 l0 1 = none ∧ ∀ N2, N2 = ow_up N1 l0 1 0 → K 0 N2) : ow_At C E d mX4_begin 0 [(0, (3, l0)), (1, (0, l1))] [] (0, 0) M K := by
  refine ow_aload_n (pc' := 1) (x := l0) dX4_begin_0 rfl rfl ?_
  refine ow_iload_n (pc' := 2) (x := l1) dX4_begin_1 rfl rfl ?_
  obtain ⟨w, w1, h⟩ := h
  refine ow_putf2 (pc' := 5) (t := 0) (ji := 0) dX4_begin_2 fRX4_9 rfl rfl rfl rfl w w1 (fun hz => absurd hz (by decide)) (fun N1 eN1 => ?_)
  have h := h N1 eN1
  refine ow_aload_n (pc' := 6) (x := l0) dX4_begin_5 rfl rfl ?_
  refine ow_iconst (pc' := 7) (n := 0) dX4_begin_6 rfl rfl ?_
  obtain ⟨w, w1, h⟩ := h
  refine ow_putf2 (pc' := 10) (t := 0) (ji := 1) dX4_begin_7 fRX4_15 rfl rfl rfl rfl w w1 (fun hz => absurd hz (by decide)) (fun N2 eN2 => ?_)
  have h := h N2 eN2
  exact ow_vret dX4_begin_10 rfl rfl h
theorem eX4_begin {C : ow_C} {E : ow_E} {d : Nat} {M : ow_M} {K : Int → ow_M → Prop} {l0 l1 : Int} (h : ow_O E M l0 4 ∧ E.1 l0 0 = none ∧ ∀ N1, N1 = ow_up M l0 0 l1 → ow_O E N1 l0 4 ∧ E.1 l0 1 = none ∧ ∀ N2, N2 = ow_up N1 l0 1 0 → K 0 N2) : ow_Sp C E d mX4_begin (0, 0) [(3, l0), (0, l1)] M K := ow_enter (by decide +kernel) rfl rfl (bX4_begin_0 h)
set_option maxRecDepth 20000 in
theorem bX4_add_0 {C : ow_C} {E : ow_E} {d : Nat} {M : ow_M} {K : Int → ow_M → Prop} {l0 l1 l2 l3 : Int} (h : ow_O E M l0 4 ∧ ((ow_gv E M l0 1) < 40 → ow_O E M l0 4 ∧ ow_O E M l0 4 ∧ ow_R E M (ow_gv E M l0 2) 100 (ow_gv E M l0 1) ∧ E.1 (ow_gv E M l0 2) (ow_gv E M l0 1) = none ∧ ∀ N1, N1 = ow_up M (ow_gv E M l0 2) (ow_gv E M l0 1) l1 → ow_O E N1 l0 4 ∧ ow_O E N1 l0 4 ∧ ow_R E N1 (ow_gv E N1 l0 3) 100 (ow_gv E N1 l0 1) ∧ E.1 (ow_gv E N1 l0 3) (ow_gv E N1 l0 1) = none ∧ ∀ N2, N2 = ow_up N1 (ow_gv E N1 l0 3) (ow_gv E N1 l0 1) l2 → ow_O E N2 l0 4 ∧ ow_O E N2 l0 4 ∧ ow_R E N2 (ow_gv E N2 l0 4) 100 (ow_gv E N2 l0 1) ∧ E.1 (ow_gv E N2 l0 4) (ow_gv E N2 l0 1) = none ∧ ∀ N3, N3 = ow_up N2 (ow_gv E N2 l0 4) (ow_gv E N2 l0 1) l3 → ow_O E N3 l0 4 ∧ ow_I ((ow_gv E N3 l0 1) + 1) ∧ ow_O E N3 l0 4 ∧ E.1 l0 1 = none ∧ ∀ N4, N4 = ow_up N3 l0 1 ((ow_gv E N3 l0 1) + 1) → K 1 N4) ∧ (40 ≤ (ow_gv E M l0 1) → K 0 M)) : ow_At C E d mX4_add 0 [(0, (3, l0)), (1, (0, l1)), (2, (0, l2)), (3, (0, l3))] [] (0, 0) M K := by
  refine ow_aload_n (pc' := 1) (x := l0) dX4_add_0 rfl rfl ?_
  obtain ⟨w, h⟩ := h
  refine ow_getf2 (pc' := 4) (t := 0) (ji := 1) dX4_add_1 fRX4_15 rfl rfl rfl w ?_
  refine ow_bipush (pc' := 6) (n := 40) dX4_add_4 rfl rfl ?_
  refine ow_icmplt (pc' := 9) (tg := 11) dX4_add_6 rfl rfl (fun hc => ?_) (fun hc => ?_)
  · have h := h.1 hc
    refine ow_aload_n (pc' := 12) (x := l0) dX4_add_11 rfl rfl ?_
    obtain ⟨w, h⟩ := h
    refine ow_getf2 (pc' := 15) (t := 3) (ji := 2) dX4_add_12 fRX4_18 rfl rfl rfl w ?_
    refine ow_aload_n (pc' := 16) (x := l0) dX4_add_15 rfl rfl ?_
    obtain ⟨w, h⟩ := h
    refine ow_getf2 (pc' := 19) (t := 0) (ji := 1) dX4_add_16 fRX4_15 rfl rfl rfl w ?_
    refine ow_iload_n (pc' := 20) (x := l1) dX4_add_19 rfl rfl ?_
    obtain ⟨w, w1, h⟩ := h
    refine ow_iastore2 (pc' := 21) dX4_add_20 rfl w w1 (fun N1 eN1 => ?_)
    have h := h N1 eN1
    refine ow_aload_n (pc' := 22) (x := l0) dX4_add_21 rfl rfl ?_
    obtain ⟨w, h⟩ := h
    refine ow_getf2 (pc' := 25) (t := 3) (ji := 3) dX4_add_22 fRX4_22 rfl rfl rfl w ?_
    refine ow_aload_n (pc' := 26) (x := l0) dX4_add_25 rfl rfl ?_
    obtain ⟨w, h⟩ := h
    refine ow_getf2 (pc' := 29) (t := 0) (ji := 1) dX4_add_26 fRX4_15 rfl rfl rfl w ?_
    refine ow_iload_n (pc' := 30) (x := l2) dX4_add_29 rfl rfl ?_
    obtain ⟨w, w1, h⟩ := h
    refine ow_iastore2 (pc' := 31) dX4_add_30 rfl w w1 (fun N2 eN2 => ?_)
    have h := h N2 eN2
    refine ow_aload_n (pc' := 32) (x := l0) dX4_add_31 rfl rfl ?_
    obtain ⟨w, h⟩ := h
    refine ow_getf2 (pc' := 35) (t := 3) (ji := 4) dX4_add_32 fRX4_25 rfl rfl rfl w ?_
    refine ow_aload_n (pc' := 36) (x := l0) dX4_add_35 rfl rfl ?_
    obtain ⟨w, h⟩ := h
    refine ow_getf2 (pc' := 39) (t := 0) (ji := 1) dX4_add_36 fRX4_15 rfl rfl rfl w ?_
    refine ow_iload_n (pc' := 40) (x := l3) dX4_add_39 rfl rfl ?_
    obtain ⟨w, w1, h⟩ := h
    refine ow_iastore2 (pc' := 41) dX4_add_40 rfl w w1 (fun N3 eN3 => ?_)
    have h := h N3 eN3
    refine ow_aload_n (pc' := 42) (x := l0) dX4_add_41 rfl rfl ?_
    refine ow_dup (pc' := 43) dX4_add_42 rfl rfl ?_
    obtain ⟨w, h⟩ := h
    refine ow_getf2 (pc' := 46) (t := 0) (ji := 1) dX4_add_43 fRX4_15 rfl rfl rfl w ?_
    refine ow_iconst (pc' := 47) (n := 1) dX4_add_46 rfl rfl ?_
    obtain ⟨w, h⟩ := h
    refine ow_iadd (pc' := 48) dX4_add_47 w rfl ?_
    obtain ⟨w, w1, h⟩ := h
    refine ow_putf2 (pc' := 51) (t := 0) (ji := 1) dX4_add_48 fRX4_15 rfl rfl rfl rfl w w1 (fun hz => absurd hz (by decide)) (fun N4 eN4 => ?_)
    have h := h N4 eN4
    refine ow_iconst (pc' := 52) (n := 1) dX4_add_51 rfl rfl ?_
    exact ow_zret dX4_add_52 rfl rfl (Or.inr rfl) h
  · have h := h.2 hc
    refine ow_iconst (pc' := 10) (n := 0) dX4_add_9 rfl rfl ?_
    exact ow_zret dX4_add_10 rfl rfl (Or.inl rfl) h
theorem eX4_add {C : ow_C} {E : ow_E} {d : Nat} {M : ow_M} {K : Int → ow_M → Prop} {l0 l1 l2 l3 : Int} (h : ow_O E M l0 4 ∧ ((ow_gv E M l0 1) < 40 → ow_O E M l0 4 ∧ ow_O E M l0 4 ∧ ow_R E M (ow_gv E M l0 2) 100 (ow_gv E M l0 1) ∧ E.1 (ow_gv E M l0 2) (ow_gv E M l0 1) = none ∧ ∀ N1, N1 = ow_up M (ow_gv E M l0 2) (ow_gv E M l0 1) l1 → ow_O E N1 l0 4 ∧ ow_O E N1 l0 4 ∧ ow_R E N1 (ow_gv E N1 l0 3) 100 (ow_gv E N1 l0 1) ∧ E.1 (ow_gv E N1 l0 3) (ow_gv E N1 l0 1) = none ∧ ∀ N2, N2 = ow_up N1 (ow_gv E N1 l0 3) (ow_gv E N1 l0 1) l2 → ow_O E N2 l0 4 ∧ ow_O E N2 l0 4 ∧ ow_R E N2 (ow_gv E N2 l0 4) 100 (ow_gv E N2 l0 1) ∧ E.1 (ow_gv E N2 l0 4) (ow_gv E N2 l0 1) = none ∧ ∀ N3, N3 = ow_up N2 (ow_gv E N2 l0 4) (ow_gv E N2 l0 1) l3 → ow_O E N3 l0 4 ∧ ow_I ((ow_gv E N3 l0 1) + 1) ∧ ow_O E N3 l0 4 ∧ E.1 l0 1 = none ∧ ∀ N4, N4 = ow_up N3 l0 1 ((ow_gv E N3 l0 1) + 1) → K 1 N4) ∧ (40 ≤ (ow_gv E M l0 1) → K 0 M)) : ow_Sp C E d mX4_add (0, 0) [(3, l0), (0, l1), (0, l2), (0, l3)] M K := ow_enter (by decide +kernel) rfl rfl (bX4_add_0 h)
set_option maxRecDepth 20000 in
theorem bX4_known_0 {C : ow_C} {E : ow_E} {d : Nat} {M : ow_M} {K : Int → ow_M → Prop} {l0 l1 l2 : Int} (h : ow_O E M l0 4 ∧ ow_I ((ow_gv E M l0 1) - 1) ∧ ow_At C E d mX4_known 7 [(0, (3, l0)), (1, (0, l1)), (2, (0, l2)), (3, (0, (ow_gv E M l0 1) - 1))] [] (0, 0) M K) : ow_At C E d mX4_known 0 [(0, (3, l0)), (1, (0, l1)), (2, (0, l2))] [] (0, 0) M K := by
  refine ow_aload_n (pc' := 1) (x := l0) dX4_known_0 rfl rfl ?_
  obtain ⟨w, h⟩ := h
  refine ow_getf2 (pc' := 4) (t := 0) (ji := 1) dX4_known_1 fRX4_15 rfl rfl rfl w ?_
  refine ow_iconst (pc' := 5) (n := 1) dX4_known_4 rfl rfl ?_
  obtain ⟨w, h⟩ := h
  refine ow_isub (pc' := 6) dX4_known_5 w rfl ?_
  refine ow_istore_n (pc' := 7) (lv' := [(0, (3, l0)), (1, (0, l1)), (2, (0, l2)), (3, (0, (ow_gv E M l0 1) - 1))]) dX4_known_6 rfl rfl rfl ?_
  exact h
set_option maxRecDepth 20000 in
theorem bX4_known_7 {C : ow_C} {E : ow_E} {d : Nat} {M : ow_M} {K : Int → ow_M → Prop} {l0 l1 l2 l3 : Int} (h : (l3 < 0 → K ((-1)) M) ∧ (0 ≤ l3 → ow_O E M l0 4 ∧ ow_R E M (ow_gv E M l0 2) 100 l3 ∧ ((ow_gv E M (ow_gv E M l0 2) l3) ≠ l1 → ow_I (l3 + (-1)) ∧ ow_At C E d mX4_known 7 [(0, (3, l0)), (1, (0, l1)), (2, (0, l2)), (3, (0, l3 + (-1)))] [] (0, 0) M K) ∧ ((ow_gv E M (ow_gv E M l0 2) l3) = l1 → ow_O E M l0 4 ∧ ow_R E M (ow_gv E M l0 4) 100 l3 ∧ (l2 < (ow_gv E M (ow_gv E M l0 4) l3) → ow_I (l3 + (-1)) ∧ ow_At C E d mX4_known 7 [(0, (3, l0)), (1, (0, l1)), (2, (0, l2)), (3, (0, l3 + (-1)))] [] (0, 0) M K) ∧ ((ow_gv E M (ow_gv E M l0 4) l3) ≤ l2 → ow_O E M l0 4 ∧ ow_R E M (ow_gv E M l0 3) 100 l3 ∧ K (ow_gv E M (ow_gv E M l0 3) l3) M)))) : ow_At C E d mX4_known 7 [(0, (3, l0)), (1, (0, l1)), (2, (0, l2)), (3, (0, l3))] [] (0, 0) M K := by
  refine ow_iload_n (pc' := 8) (x := l3) dX4_known_7 rfl rfl ?_
  refine ow_iflt (pc' := 11) (tg := 44) dX4_known_8 rfl rfl (fun hc => ?_) (fun hc => ?_)
  · have h := h.1 hc
    refine ow_iconst (pc' := 45) (n := (-1)) dX4_known_44 rfl rfl ?_
    exact ow_iret dX4_known_45 rfl rfl h
  · have h := h.2 hc
    refine ow_aload_n (pc' := 12) (x := l0) dX4_known_11 rfl rfl ?_
    obtain ⟨w, h⟩ := h
    refine ow_getf2 (pc' := 15) (t := 3) (ji := 2) dX4_known_12 fRX4_18 rfl rfl rfl w ?_
    refine ow_iload_n (pc' := 16) (x := l3) dX4_known_15 rfl rfl ?_
    obtain ⟨w, h⟩ := h
    refine ow_iaload (pc' := 17) dX4_known_16 rfl w ?_
    refine ow_iload_n (pc' := 18) (x := l1) dX4_known_17 rfl rfl ?_
    refine ow_icmpne (pc' := 21) (tg := 38) dX4_known_18 rfl rfl (fun hc => ?_) (fun hc => ?_)
    · have h := h.1 hc
      obtain ⟨w, h⟩ := h
      refine ow_iinc (pc' := 41) (lv' := [(0, (3, l0)), (1, (0, l1)), (2, (0, l2)), (3, (0, l3 + (-1)))]) dX4_known_38 rfl w rfl rfl rfl ?_
      refine ow_goto (tg := 7) dX4_known_41 rfl ?_
      exact h
    · have h := h.2 hc
      refine ow_aload_n (pc' := 22) (x := l0) dX4_known_21 rfl rfl ?_
      obtain ⟨w, h⟩ := h
      refine ow_getf2 (pc' := 25) (t := 3) (ji := 4) dX4_known_22 fRX4_25 rfl rfl rfl w ?_
      refine ow_iload_n (pc' := 26) (x := l3) dX4_known_25 rfl rfl ?_
      obtain ⟨w, h⟩ := h
      refine ow_iaload (pc' := 27) dX4_known_26 rfl w ?_
      refine ow_iload_n (pc' := 28) (x := l2) dX4_known_27 rfl rfl ?_
      refine ow_icmpgt (pc' := 31) (tg := 38) dX4_known_28 rfl rfl (fun hc => ?_) (fun hc => ?_)
      · have h := h.1 hc
        obtain ⟨w, h⟩ := h
        refine ow_iinc (pc' := 41) (lv' := [(0, (3, l0)), (1, (0, l1)), (2, (0, l2)), (3, (0, l3 + (-1)))]) dX4_known_38 rfl w rfl rfl rfl ?_
        refine ow_goto (tg := 7) dX4_known_41 rfl ?_
        exact h
      · have h := h.2 hc
        refine ow_aload_n (pc' := 32) (x := l0) dX4_known_31 rfl rfl ?_
        obtain ⟨w, h⟩ := h
        refine ow_getf2 (pc' := 35) (t := 3) (ji := 3) dX4_known_32 fRX4_22 rfl rfl rfl w ?_
        refine ow_iload_n (pc' := 36) (x := l3) dX4_known_35 rfl rfl ?_
        obtain ⟨w, h⟩ := h
        refine ow_iaload (pc' := 37) dX4_known_36 rfl w ?_
        exact ow_iret dX4_known_37 rfl rfl h
theorem eX4_known {C : ow_C} {E : ow_E} {d : Nat} {M : ow_M} {K : Int → ow_M → Prop} {l0 l1 l2 : Int} (h : ow_O E M l0 4 ∧ ow_I ((ow_gv E M l0 1) - 1) ∧ ow_At C E d mX4_known 7 [(0, (3, l0)), (1, (0, l1)), (2, (0, l2)), (3, (0, (ow_gv E M l0 1) - 1))] [] (0, 0) M K) : ow_Sp C E d mX4_known (0, 0) [(3, l0), (0, l1), (0, l2)] M K := ow_enter (by decide +kernel) rfl rfl (bX4_known_0 h)
set_option maxRecDepth 20000 in
theorem bX4_become_0 {C : ow_C} {E : ow_E} {d : Nat} {M : ow_M} {K : Int → ow_M → Prop} {l0 l1 : Int} (h : ow_O E M l1 4 ∧ ow_O E M l0 4 ∧ E.1 l0 0 = none ∧ ∀ N1, N1 = ow_up M l0 0 (ow_gv E M l1 0) → ow_O E N1 l1 4 ∧ ow_O E N1 l0 4 ∧ E.1 l0 1 = none ∧ ∀ N2, N2 = ow_up N1 l0 1 (ow_gv E N1 l1 1) → ow_O E N2 l1 4 ∧ ow_O E N2 l0 4 ∧ E.2.2 ≠ none ∧ (0 ≤ (ow_gv E N2 l1 2) ∧ (ow_gv E N2 l1 2) < ow_nb E N2 ∧ (E.2.1 (ow_gv E N2 l1 2)).1 = 100 ∧ (0 : Int) ≤ 0 ∧ (0 : Int) ≤ 40 ∧ 0 + 40 ≤ (E.2.1 (ow_gv E N2 l1 2)).2) ∧ (0 ≤ (ow_gv E N2 l0 2) ∧ (ow_gv E N2 l0 2) < ow_nb E N2 ∧ (E.2.1 (ow_gv E N2 l0 2)).1 = 100 ∧ (0 : Int) ≤ 0 ∧ 0 + 40 ≤ (E.2.1 (ow_gv E N2 l0 2)).2) ∧ (∀ i, E.1 (ow_gv E N2 l0 2) i = none) ∧ ∀ N3, N3 = ow_cp E N2 (ow_gv E N2 l1 2) 0 (ow_gv E N2 l0 2) 0 40 → ow_O E N3 l1 4 ∧ ow_O E N3 l0 4 ∧ E.2.2 ≠ none ∧ (0 ≤ (ow_gv E N3 l1 3) ∧ (ow_gv E N3 l1 3) < ow_nb E N3 ∧ (E.2.1 (ow_gv E N3 l1 3)).1 = 100 ∧ (0 : Int) ≤ 0 ∧ (0 : Int) ≤ 40 ∧ 0 + 40 ≤ (E.2.1 (ow_gv E N3 l1 3)).2) ∧ (0 ≤ (ow_gv E N3 l0 3) ∧ (ow_gv E N3 l0 3) < ow_nb E N3 ∧ (E.2.1 (ow_gv E N3 l0 3)).1 = 100 ∧ (0 : Int) ≤ 0 ∧ 0 + 40 ≤ (E.2.1 (ow_gv E N3 l0 3)).2) ∧ (∀ i, E.1 (ow_gv E N3 l0 3) i = none) ∧ ∀ N4, N4 = ow_cp E N3 (ow_gv E N3 l1 3) 0 (ow_gv E N3 l0 3) 0 40 → ow_O E N4 l1 4 ∧ ow_O E N4 l0 4 ∧ E.2.2 ≠ none ∧ (0 ≤ (ow_gv E N4 l1 4) ∧ (ow_gv E N4 l1 4) < ow_nb E N4 ∧ (E.2.1 (ow_gv E N4 l1 4)).1 = 100 ∧ (0 : Int) ≤ 0 ∧ (0 : Int) ≤ 40 ∧ 0 + 40 ≤ (E.2.1 (ow_gv E N4 l1 4)).2) ∧ (0 ≤ (ow_gv E N4 l0 4) ∧ (ow_gv E N4 l0 4) < ow_nb E N4 ∧ (E.2.1 (ow_gv E N4 l0 4)).1 = 100 ∧ (0 : Int) ≤ 0 ∧ 0 + 40 ≤ (E.2.1 (ow_gv E N4 l0 4)).2) ∧ (∀ i, E.1 (ow_gv E N4 l0 4) i = none) ∧ ∀ N5, N5 = ow_cp E N4 (ow_gv E N4 l1 4) 0 (ow_gv E N4 l0 4) 0 40 → K 0 N5) : ow_At C E (d + 1) mX4_become 0 [(0, (3, l0)), (1, (3, l1))] [] (0, 0) M K := by
  refine ow_aload_n (pc' := 1) (x := l0) dX4_become_0 rfl rfl ?_
  refine ow_aload_n (pc' := 2) (x := l1) dX4_become_1 rfl rfl ?_
  obtain ⟨w, h⟩ := h
  refine ow_getf2 (pc' := 5) (t := 0) (ji := 0) dX4_become_2 fRX4_9 rfl rfl rfl w ?_
  obtain ⟨w, w1, h⟩ := h
  refine ow_putf2 (pc' := 8) (t := 0) (ji := 0) dX4_become_5 fRX4_9 rfl rfl rfl rfl w w1 (fun hz => absurd hz (by decide)) (fun N1 eN1 => ?_)
  have h := h N1 eN1
  refine ow_aload_n (pc' := 9) (x := l0) dX4_become_8 rfl rfl ?_
  refine ow_aload_n (pc' := 10) (x := l1) dX4_become_9 rfl rfl ?_
  obtain ⟨w, h⟩ := h
  refine ow_getf2 (pc' := 13) (t := 0) (ji := 1) dX4_become_10 fRX4_15 rfl rfl rfl w ?_
  obtain ⟨w, w1, h⟩ := h
  refine ow_putf2 (pc' := 16) (t := 0) (ji := 1) dX4_become_13 fRX4_15 rfl rfl rfl rfl w w1 (fun hz => absurd hz (by decide)) (fun N2 eN2 => ?_)
  have h := h N2 eN2
  refine ow_aload_n (pc' := 17) (x := l1) dX4_become_16 rfl rfl ?_
  obtain ⟨w, h⟩ := h
  refine ow_getf2 (pc' := 20) (t := 3) (ji := 2) dX4_become_17 fRX4_18 rfl rfl rfl w ?_
  refine ow_iconst (pc' := 21) (n := 0) dX4_become_20 rfl rfl ?_
  refine ow_aload_n (pc' := 22) (x := l0) dX4_become_21 rfl rfl ?_
  obtain ⟨w, h⟩ := h
  refine ow_getf2 (pc' := 25) (t := 3) (ji := 2) dX4_become_22 fRX4_18 rfl rfl rfl w ?_
  refine ow_iconst (pc' := 26) (n := 0) dX4_become_25 rfl rfl ?_
  refine ow_bipush (pc' := 28) (n := 40) dX4_become_26 rfl rfl ?_
  obtain ⟨w, w1, w2, w3, h⟩ := h
  refine ow_copy2 (pc' := 31) dX4_become_28 lRX4_28 ow_ac1 ow_ac2 ow_ac3 rfl rfl w w1 w2 w3 (fun N3 eN3 => ?_)
  have h := h N3 eN3
  refine ow_aload_n (pc' := 32) (x := l1) dX4_become_31 rfl rfl ?_
  obtain ⟨w, h⟩ := h
  refine ow_getf2 (pc' := 35) (t := 3) (ji := 3) dX4_become_32 fRX4_22 rfl rfl rfl w ?_
  refine ow_iconst (pc' := 36) (n := 0) dX4_become_35 rfl rfl ?_
  refine ow_aload_n (pc' := 37) (x := l0) dX4_become_36 rfl rfl ?_
  obtain ⟨w, h⟩ := h
  refine ow_getf2 (pc' := 40) (t := 3) (ji := 3) dX4_become_37 fRX4_22 rfl rfl rfl w ?_
  refine ow_iconst (pc' := 41) (n := 0) dX4_become_40 rfl rfl ?_
  refine ow_bipush (pc' := 43) (n := 40) dX4_become_41 rfl rfl ?_
  obtain ⟨w, w1, w2, w3, h⟩ := h
  refine ow_copy2 (pc' := 46) dX4_become_43 lRX4_28 ow_ac1 ow_ac2 ow_ac3 rfl rfl w w1 w2 w3 (fun N4 eN4 => ?_)
  have h := h N4 eN4
  refine ow_aload_n (pc' := 47) (x := l1) dX4_become_46 rfl rfl ?_
  obtain ⟨w, h⟩ := h
  refine ow_getf2 (pc' := 50) (t := 3) (ji := 4) dX4_become_47 fRX4_25 rfl rfl rfl w ?_
  refine ow_iconst (pc' := 51) (n := 0) dX4_become_50 rfl rfl ?_
  refine ow_aload_n (pc' := 52) (x := l0) dX4_become_51 rfl rfl ?_
  obtain ⟨w, h⟩ := h
  refine ow_getf2 (pc' := 55) (t := 3) (ji := 4) dX4_become_52 fRX4_25 rfl rfl rfl w ?_
  refine ow_iconst (pc' := 56) (n := 0) dX4_become_55 rfl rfl ?_
  refine ow_bipush (pc' := 58) (n := 40) dX4_become_56 rfl rfl ?_
  obtain ⟨w, w1, w2, w3, h⟩ := h
  refine ow_copy2 (pc' := 61) dX4_become_58 lRX4_28 ow_ac1 ow_ac2 ow_ac3 rfl rfl w w1 w2 w3 (fun N5 eN5 => ?_)
  have h := h N5 eN5
  exact ow_vret dX4_become_61 rfl rfl h
theorem eX4_become {C : ow_C} {E : ow_E} {d : Nat} {M : ow_M} {K : Int → ow_M → Prop} {l0 l1 : Int} (h : ow_O E M l1 4 ∧ ow_O E M l0 4 ∧ E.1 l0 0 = none ∧ ∀ N1, N1 = ow_up M l0 0 (ow_gv E M l1 0) → ow_O E N1 l1 4 ∧ ow_O E N1 l0 4 ∧ E.1 l0 1 = none ∧ ∀ N2, N2 = ow_up N1 l0 1 (ow_gv E N1 l1 1) → ow_O E N2 l1 4 ∧ ow_O E N2 l0 4 ∧ E.2.2 ≠ none ∧ (0 ≤ (ow_gv E N2 l1 2) ∧ (ow_gv E N2 l1 2) < ow_nb E N2 ∧ (E.2.1 (ow_gv E N2 l1 2)).1 = 100 ∧ (0 : Int) ≤ 0 ∧ (0 : Int) ≤ 40 ∧ 0 + 40 ≤ (E.2.1 (ow_gv E N2 l1 2)).2) ∧ (0 ≤ (ow_gv E N2 l0 2) ∧ (ow_gv E N2 l0 2) < ow_nb E N2 ∧ (E.2.1 (ow_gv E N2 l0 2)).1 = 100 ∧ (0 : Int) ≤ 0 ∧ 0 + 40 ≤ (E.2.1 (ow_gv E N2 l0 2)).2) ∧ (∀ i, E.1 (ow_gv E N2 l0 2) i = none) ∧ ∀ N3, N3 = ow_cp E N2 (ow_gv E N2 l1 2) 0 (ow_gv E N2 l0 2) 0 40 → ow_O E N3 l1 4 ∧ ow_O E N3 l0 4 ∧ E.2.2 ≠ none ∧ (0 ≤ (ow_gv E N3 l1 3) ∧ (ow_gv E N3 l1 3) < ow_nb E N3 ∧ (E.2.1 (ow_gv E N3 l1 3)).1 = 100 ∧ (0 : Int) ≤ 0 ∧ (0 : Int) ≤ 40 ∧ 0 + 40 ≤ (E.2.1 (ow_gv E N3 l1 3)).2) ∧ (0 ≤ (ow_gv E N3 l0 3) ∧ (ow_gv E N3 l0 3) < ow_nb E N3 ∧ (E.2.1 (ow_gv E N3 l0 3)).1 = 100 ∧ (0 : Int) ≤ 0 ∧ 0 + 40 ≤ (E.2.1 (ow_gv E N3 l0 3)).2) ∧ (∀ i, E.1 (ow_gv E N3 l0 3) i = none) ∧ ∀ N4, N4 = ow_cp E N3 (ow_gv E N3 l1 3) 0 (ow_gv E N3 l0 3) 0 40 → ow_O E N4 l1 4 ∧ ow_O E N4 l0 4 ∧ E.2.2 ≠ none ∧ (0 ≤ (ow_gv E N4 l1 4) ∧ (ow_gv E N4 l1 4) < ow_nb E N4 ∧ (E.2.1 (ow_gv E N4 l1 4)).1 = 100 ∧ (0 : Int) ≤ 0 ∧ (0 : Int) ≤ 40 ∧ 0 + 40 ≤ (E.2.1 (ow_gv E N4 l1 4)).2) ∧ (0 ≤ (ow_gv E N4 l0 4) ∧ (ow_gv E N4 l0 4) < ow_nb E N4 ∧ (E.2.1 (ow_gv E N4 l0 4)).1 = 100 ∧ (0 : Int) ≤ 0 ∧ 0 + 40 ≤ (E.2.1 (ow_gv E N4 l0 4)).2) ∧ (∀ i, E.1 (ow_gv E N4 l0 4) i = none) ∧ ∀ N5, N5 = ow_cp E N4 (ow_gv E N4 l1 4) 0 (ow_gv E N4 l0 4) 0 40 → K 0 N5) : ow_Sp C E (d + 1) mX4_become (0, 0) [(3, l0), (3, l1)] M K := ow_enter (by decide +kernel) rfl rfl (bX4_become_0 h)
set_option maxRecDepth 20000 in
theorem bX7_init_0 {C : ow_C} {E : ow_E} {d : Nat} {M : ow_M} {K : Int → ow_M → Prop} {bc bs : Nat} {l0 : Int} (hE : E.2.2 = none) (hF : ∀ c i, E.1 c i = none) (h : 0 ≤ l0 ∧ l0 < 900 ∧ E.2.1 (M (-1) 0) = (100, 300) ∧ M (-1) 0 < 800 ∧ (0 : Int) ≤ 300 ∧ (300 : Int) ≤ ((300 : Nat) : Int) ∧ ∀ q1 N1, q1 = M (-1) 0 → N1 = ow_mk1 M (fun _ => 0) → ow_O E N1 l0 7 ∧ E.1 l0 0 = none ∧ ∀ N2, N2 = ow_up N1 l0 0 q1 → ow_O E N2 l0 7 ∧ E.1 l0 1 = none ∧ ∀ N3, N3 = ow_up N2 l0 1 0 → ow_O E N3 l0 7 ∧ E.1 l0 2 = none ∧ ∀ N4, N4 = ow_up N3 l0 2 0 → ow_O E N4 l0 7 ∧ E.1 l0 3 = none ∧ ∀ N5, N5 = ow_up N4 l0 3 0 → ow_O E N5 l0 7 ∧ E.1 l0 4 = none ∧ ∀ N6, N6 = ow_up N5 l0 4 0 → ow_O E N6 l0 7 ∧ E.1 l0 5 = none ∧ ∀ N7, N7 = ow_up N6 l0 5 0 → ow_O E N7 l0 7 ∧ E.1 l0 6 = none ∧ ∀ N8, N8 = ow_up N7 l0 6 0 → ow_O E N8 l0 7 ∧ E.1 l0 7 = none ∧ ∀ N9, N9 = ow_up N8 l0 7 0 → ow_O E N9 l0 7 ∧ E.1 l0 8 = none ∧ ∀ N10, N10 = ow_up N9 l0 8 0 → E.2.1 (N10 (-1) 0) = (100, 24) ∧ N10 (-1) 0 < 800 ∧ (0 : Int) ≤ 24 ∧ (24 : Int) ≤ ((24 : Nat) : Int) ∧ ∀ q11 N11, q11 = N10 (-1) 0 → N11 = ow_mk1 N10 (fun _ => 0) → ow_O E N11 l0 7 ∧ E.1 l0 9 = none ∧ ∀ N12, N12 = ow_up N11 l0 9 q11 → E.2.1 (N12 (-1) 0) = (100, 24) ∧ N12 (-1) 0 < 800 ∧ (0 : Int) ≤ 24 ∧ (24 : Int) ≤ ((24 : Nat) : Int) ∧ ∀ q13 N13, q13 = N12 (-1) 0 → N13 = ow_mk1 N12 (fun _ => 0) → ow_O E N13 l0 7 ∧ E.1 l0 10 = none ∧ ∀ N14, N14 = ow_up N13 l0 10 q13 → ow_O E N14 l0 7 ∧ E.1 l0 11 = none ∧ ∀ N15, N15 = ow_up N14 l0 11 0 → E.2.1 (N15 (-1) 0) = (100, 24) ∧ N15 (-1) 0 < 800 ∧ (0 : Int) ≤ 24 ∧ (24 : Int) ≤ ((24 : Nat) : Int) ∧ ∀ q16 N16, q16 = N15 (-1) 0 → N16 = ow_mk1 N15 (fun _ => 0) → ow_O E N16 l0 7 ∧ E.1 l0 12 = none ∧ ∀ N17, N17 = ow_up N16 l0 12 q16 → E.2.1 (N17 (-1) 0) = (100, 24) ∧ N17 (-1) 0 < 800 ∧ (0 : Int) ≤ 24 ∧ (24 : Int) ≤ ((24 : Nat) : Int) ∧ ∀ q18 N18, q18 = N17 (-1) 0 → N18 = ow_mk1 N17 (fun _ => 0) → ow_O E N18 l0 7 ∧ E.1 l0 13 = none ∧ ∀ N19, N19 = ow_up N18 l0 13 q18 → ow_O E N19 l0 7 ∧ E.1 l0 14 = none ∧ ∀ N20, N20 = ow_up N19 l0 14 0 → K 0 N20) : ow_At C E (d + 1) mX7_init 0 [(0, (3, l0))] [] (bc + 5, bs + 396) M K := by
  refine ow_aload_n (pc' := 1) (x := l0) dX7_init_0 rfl rfl ?_
  obtain ⟨w, w1, h⟩ := h
  refine ow_objinit (pc' := 4) dX7_init_1 lRX7_3 ow_oi1 ow_oi2 rfl rfl w w1 ?_
  refine ow_aload_n (pc' := 5) (x := l0) dX7_init_4 rfl rfl ?_
  refine ow_sipush (pc' := 8) (n := 300) dX7_init_5 rfl rfl ?_
  obtain ⟨w, w1, w2, w3, h⟩ := h
  refine ow_newi2 (pc' := 10) (N := 300) (b2 := (bc + 4, bs + 96)) dX7_init_8 ow_arI rfl hE hF w w1 w2 w3 rfl (Prod.ext (by show bc + _ = _ + (bc + _); omega) (by show bs + _ = _ + (bs + _); omega)) (fun q1 N1 eq1 eN1 => ?_)
  have h := h q1 N1 eq1 eN1
  obtain ⟨w, w1, h⟩ := h
  refine ow_putF2 (pc' := 13) (t := 3) (ji := 0) dX7_init_10 gRX7_9 rfl rfl rfl rfl rfl w w1 (fun hz => absurd hz (by decide)) (fun N2 eN2 => ?_)
  have h := h N2 eN2
  refine ow_aload_n (pc' := 14) (x := l0) dX7_init_13 rfl rfl ?_
  refine ow_iconst (pc' := 15) (n := 0) dX7_init_14 rfl rfl ?_
  obtain ⟨w, w1, h⟩ := h
  refine ow_putf2 (pc' := 18) (t := 0) (ji := 1) dX7_init_15 fRX7_15 rfl rfl rfl rfl w w1 (fun hz => absurd hz (by decide)) (fun N3 eN3 => ?_)
  have h := h N3 eN3
  refine ow_aload_n (pc' := 19) (x := l0) dX7_init_18 rfl rfl ?_
  refine ow_iconst (pc' := 20) (n := 0) dX7_init_19 rfl rfl ?_
  obtain ⟨w, w1, h⟩ := h
  have w2 : (0 : Int) = 0 ∨ (0 : Int) = 1 := by decide
  refine ow_putf2 (pc' := 23) (t := 0) (ji := 2) dX7_init_20 fRX7_19 rfl rfl rfl rfl w w1 (fun _ => w2) (fun N4 eN4 => ?_)
  have h := h N4 eN4
  refine ow_aload_n (pc' := 24) (x := l0) dX7_init_23 rfl rfl ?_
  refine ow_iconst (pc' := 25) (n := 0) dX7_init_24 rfl rfl ?_
  obtain ⟨w, w1, h⟩ := h
  have w2 : (0 : Int) = 0 ∨ (0 : Int) = 1 := by decide
  refine ow_putf2 (pc' := 28) (t := 0) (ji := 3) dX7_init_25 fRX7_23 rfl rfl rfl rfl w w1 (fun _ => w2) (fun N5 eN5 => ?_)
  have h := h N5 eN5
  refine ow_aload_n (pc' := 29) (x := l0) dX7_init_28 rfl rfl ?_
  refine ow_iconst (pc' := 30) (n := 0) dX7_init_29 rfl rfl ?_
  obtain ⟨w, w1, h⟩ := h
  refine ow_putf2 (pc' := 33) (t := 0) (ji := 4) dX7_init_30 fRX7_26 rfl rfl rfl rfl w w1 (fun hz => absurd hz (by decide)) (fun N6 eN6 => ?_)
  have h := h N6 eN6
  refine ow_aload_n (pc' := 34) (x := l0) dX7_init_33 rfl rfl ?_
  refine ow_iconst (pc' := 35) (n := 0) dX7_init_34 rfl rfl ?_
  obtain ⟨w, w1, h⟩ := h
  refine ow_putf2 (pc' := 38) (t := 0) (ji := 5) dX7_init_35 fRX7_29 rfl rfl rfl rfl w w1 (fun hz => absurd hz (by decide)) (fun N7 eN7 => ?_)
  have h := h N7 eN7
  refine ow_aload_n (pc' := 39) (x := l0) dX7_init_38 rfl rfl ?_
  refine ow_iconst (pc' := 40) (n := 0) dX7_init_39 rfl rfl ?_
  obtain ⟨w, w1, h⟩ := h
  have w2 : (0 : Int) = 0 ∨ (0 : Int) = 1 := by decide
  refine ow_putf2 (pc' := 43) (t := 0) (ji := 6) dX7_init_40 fRX7_32 rfl rfl rfl rfl w w1 (fun _ => w2) (fun N8 eN8 => ?_)
  have h := h N8 eN8
  refine ow_aload_n (pc' := 44) (x := l0) dX7_init_43 rfl rfl ?_
  refine ow_iconst (pc' := 45) (n := 0) dX7_init_44 rfl rfl ?_
  obtain ⟨w, w1, h⟩ := h
  refine ow_putf2 (pc' := 48) (t := 0) (ji := 7) dX7_init_45 fRX7_35 rfl rfl rfl rfl w w1 (fun hz => absurd hz (by decide)) (fun N9 eN9 => ?_)
  have h := h N9 eN9
  refine ow_aload_n (pc' := 49) (x := l0) dX7_init_48 rfl rfl ?_
  refine ow_iconst (pc' := 50) (n := 0) dX7_init_49 rfl rfl ?_
  obtain ⟨w, w1, h⟩ := h
  refine ow_putf2 (pc' := 53) (t := 0) (ji := 8) dX7_init_50 fRX7_38 rfl rfl rfl rfl w w1 (fun hz => absurd hz (by decide)) (fun N10 eN10 => ?_)
  have h := h N10 eN10
  refine ow_aload_n (pc' := 54) (x := l0) dX7_init_53 rfl rfl ?_
  refine ow_bipush (pc' := 56) (n := 24) dX7_init_54 rfl rfl ?_
  obtain ⟨w, w1, w2, w3, h⟩ := h
  refine ow_newi2 (pc' := 58) (N := 24) (b2 := (bc + 3, bs + 72)) dX7_init_56 ow_arI rfl hE hF w w1 w2 w3 rfl (Prod.ext (by show bc + _ = _ + (bc + _); omega) (by show bs + _ = _ + (bs + _); omega)) (fun q11 N11 eq11 eN11 => ?_)
  have h := h q11 N11 eq11 eN11
  obtain ⟨w, w1, h⟩ := h
  refine ow_putF2 (pc' := 61) (t := 3) (ji := 9) dX7_init_58 gRX7_41 rfl rfl rfl rfl rfl w w1 (fun hz => absurd hz (by decide)) (fun N12 eN12 => ?_)
  have h := h N12 eN12
  refine ow_aload_n (pc' := 62) (x := l0) dX7_init_61 rfl rfl ?_
  refine ow_bipush (pc' := 64) (n := 24) dX7_init_62 rfl rfl ?_
  obtain ⟨w, w1, w2, w3, h⟩ := h
  refine ow_newi2 (pc' := 66) (N := 24) (b2 := (bc + 2, bs + 48)) dX7_init_64 ow_arI rfl hE hF w w1 w2 w3 rfl (Prod.ext (by show bc + _ = _ + (bc + _); omega) (by show bs + _ = _ + (bs + _); omega)) (fun q13 N13 eq13 eN13 => ?_)
  have h := h q13 N13 eq13 eN13
  obtain ⟨w, w1, h⟩ := h
  refine ow_putF2 (pc' := 69) (t := 3) (ji := 10) dX7_init_66 gRX7_44 rfl rfl rfl rfl rfl w w1 (fun hz => absurd hz (by decide)) (fun N14 eN14 => ?_)
  have h := h N14 eN14
  refine ow_aload_n (pc' := 70) (x := l0) dX7_init_69 rfl rfl ?_
  refine ow_iconst (pc' := 71) (n := 0) dX7_init_70 rfl rfl ?_
  obtain ⟨w, w1, h⟩ := h
  refine ow_putf2 (pc' := 74) (t := 0) (ji := 11) dX7_init_71 fRX7_47 rfl rfl rfl rfl w w1 (fun hz => absurd hz (by decide)) (fun N15 eN15 => ?_)
  have h := h N15 eN15
  refine ow_aload_n (pc' := 75) (x := l0) dX7_init_74 rfl rfl ?_
  refine ow_bipush (pc' := 77) (n := 24) dX7_init_75 rfl rfl ?_
  obtain ⟨w, w1, w2, w3, h⟩ := h
  refine ow_newi2 (pc' := 79) (N := 24) (b2 := (bc + 1, bs + 24)) dX7_init_77 ow_arI rfl hE hF w w1 w2 w3 rfl (Prod.ext (by show bc + _ = _ + (bc + _); omega) (by show bs + _ = _ + (bs + _); omega)) (fun q16 N16 eq16 eN16 => ?_)
  have h := h q16 N16 eq16 eN16
  obtain ⟨w, w1, h⟩ := h
  refine ow_putF2 (pc' := 82) (t := 3) (ji := 12) dX7_init_79 gRX7_50 rfl rfl rfl rfl rfl w w1 (fun hz => absurd hz (by decide)) (fun N17 eN17 => ?_)
  have h := h N17 eN17
  refine ow_aload_n (pc' := 83) (x := l0) dX7_init_82 rfl rfl ?_
  refine ow_bipush (pc' := 85) (n := 24) dX7_init_83 rfl rfl ?_
  obtain ⟨w, w1, w2, w3, h⟩ := h
  refine ow_newi2 (pc' := 87) (N := 24) (b2 := (bc + 0, bs + 0)) dX7_init_85 ow_arI rfl hE hF w w1 w2 w3 rfl (Prod.ext (by show bc + _ = _ + (bc + _); omega) (by show bs + _ = _ + (bs + _); omega)) (fun q18 N18 eq18 eN18 => ?_)
  have h := h q18 N18 eq18 eN18
  obtain ⟨w, w1, h⟩ := h
  refine ow_putF2 (pc' := 90) (t := 3) (ji := 13) dX7_init_87 gRX7_53 rfl rfl rfl rfl rfl w w1 (fun hz => absurd hz (by decide)) (fun N19 eN19 => ?_)
  have h := h N19 eN19
  refine ow_aload_n (pc' := 91) (x := l0) dX7_init_90 rfl rfl ?_
  refine ow_iconst (pc' := 92) (n := 0) dX7_init_91 rfl rfl ?_
  obtain ⟨w, w1, h⟩ := h
  refine ow_putf2 (pc' := 95) (t := 0) (ji := 14) dX7_init_92 fRX7_56 rfl rfl rfl rfl w w1 (fun hz => absurd hz (by decide)) (fun N20 eN20 => ?_)
  have h := h N20 eN20
  refine ow_less (b' := (0, 0)) rfl rfl ?_
  exact ow_vret dX7_init_95 rfl rfl h
theorem eX7_init {C : ow_C} {E : ow_E} {d : Nat} {M : ow_M} {K : Int → ow_M → Prop} {l0 : Int} (hE : E.2.2 = none) (hF : ∀ c i, E.1 c i = none) (h : 0 ≤ l0 ∧ l0 < 900 ∧ E.2.1 (M (-1) 0) = (100, 300) ∧ M (-1) 0 < 800 ∧ (0 : Int) ≤ 300 ∧ (300 : Int) ≤ ((300 : Nat) : Int) ∧ ∀ q1 N1, q1 = M (-1) 0 → N1 = ow_mk1 M (fun _ => 0) → ow_O E N1 l0 7 ∧ E.1 l0 0 = none ∧ ∀ N2, N2 = ow_up N1 l0 0 q1 → ow_O E N2 l0 7 ∧ E.1 l0 1 = none ∧ ∀ N3, N3 = ow_up N2 l0 1 0 → ow_O E N3 l0 7 ∧ E.1 l0 2 = none ∧ ∀ N4, N4 = ow_up N3 l0 2 0 → ow_O E N4 l0 7 ∧ E.1 l0 3 = none ∧ ∀ N5, N5 = ow_up N4 l0 3 0 → ow_O E N5 l0 7 ∧ E.1 l0 4 = none ∧ ∀ N6, N6 = ow_up N5 l0 4 0 → ow_O E N6 l0 7 ∧ E.1 l0 5 = none ∧ ∀ N7, N7 = ow_up N6 l0 5 0 → ow_O E N7 l0 7 ∧ E.1 l0 6 = none ∧ ∀ N8, N8 = ow_up N7 l0 6 0 → ow_O E N8 l0 7 ∧ E.1 l0 7 = none ∧ ∀ N9, N9 = ow_up N8 l0 7 0 → ow_O E N9 l0 7 ∧ E.1 l0 8 = none ∧ ∀ N10, N10 = ow_up N9 l0 8 0 → E.2.1 (N10 (-1) 0) = (100, 24) ∧ N10 (-1) 0 < 800 ∧ (0 : Int) ≤ 24 ∧ (24 : Int) ≤ ((24 : Nat) : Int) ∧ ∀ q11 N11, q11 = N10 (-1) 0 → N11 = ow_mk1 N10 (fun _ => 0) → ow_O E N11 l0 7 ∧ E.1 l0 9 = none ∧ ∀ N12, N12 = ow_up N11 l0 9 q11 → E.2.1 (N12 (-1) 0) = (100, 24) ∧ N12 (-1) 0 < 800 ∧ (0 : Int) ≤ 24 ∧ (24 : Int) ≤ ((24 : Nat) : Int) ∧ ∀ q13 N13, q13 = N12 (-1) 0 → N13 = ow_mk1 N12 (fun _ => 0) → ow_O E N13 l0 7 ∧ E.1 l0 10 = none ∧ ∀ N14, N14 = ow_up N13 l0 10 q13 → ow_O E N14 l0 7 ∧ E.1 l0 11 = none ∧ ∀ N15, N15 = ow_up N14 l0 11 0 → E.2.1 (N15 (-1) 0) = (100, 24) ∧ N15 (-1) 0 < 800 ∧ (0 : Int) ≤ 24 ∧ (24 : Int) ≤ ((24 : Nat) : Int) ∧ ∀ q16 N16, q16 = N15 (-1) 0 → N16 = ow_mk1 N15 (fun _ => 0) → ow_O E N16 l0 7 ∧ E.1 l0 12 = none ∧ ∀ N17, N17 = ow_up N16 l0 12 q16 → E.2.1 (N17 (-1) 0) = (100, 24) ∧ N17 (-1) 0 < 800 ∧ (0 : Int) ≤ 24 ∧ (24 : Int) ≤ ((24 : Nat) : Int) ∧ ∀ q18 N18, q18 = N17 (-1) 0 → N18 = ow_mk1 N17 (fun _ => 0) → ow_O E N18 l0 7 ∧ E.1 l0 13 = none ∧ ∀ N19, N19 = ow_up N18 l0 13 q18 → ow_O E N19 l0 7 ∧ E.1 l0 14 = none ∧ ∀ N20, N20 = ow_up N19 l0 14 0 → K 0 N20) : ow_Sp C E (d + 1) mX7_init (0 + 5, 0 + 396) [(3, l0)] M K := ow_enter (by decide +kernel) rfl rfl (bX7_init_0 hE hF h)
set_option maxRecDepth 20000 in
theorem bX7_clear_0 {C : ow_C} {E : ow_E} {d : Nat} {M : ow_M} {K : Int → ow_M → Prop} {l0 : Int} (h : ow_O E M l0 7 ∧ E.1 l0 1 = none ∧ ∀ N1, N1 = ow_up M l0 1 0 → ow_O E N1 l0 7 ∧ E.1 l0 2 = none ∧ ∀ N2, N2 = ow_up N1 l0 2 0 → ow_O E N2 l0 7 ∧ E.1 l0 3 = none ∧ ∀ N3, N3 = ow_up N2 l0 3 0 → ow_O E N3 l0 7 ∧ E.1 l0 6 = none ∧ ∀ N4, N4 = ow_up N3 l0 6 0 → ow_O E N4 l0 7 ∧ E.1 l0 11 = none ∧ ∀ N5, N5 = ow_up N4 l0 11 0 → ow_O E N5 l0 7 ∧ E.1 l0 14 = none ∧ ∀ N6, N6 = ow_up N5 l0 14 0 → K 0 N6) : ow_At C E d mX7_clear 0 [(0, (3, l0))] [] (0, 0) M K := by
  refine ow_aload_n (pc' := 1) (x := l0) dX7_clear_0 rfl rfl ?_
  refine ow_iconst (pc' := 2) (n := 0) dX7_clear_1 rfl rfl ?_
  obtain ⟨w, w1, h⟩ := h
  refine ow_putf2 (pc' := 5) (t := 0) (ji := 1) dX7_clear_2 fRX7_15 rfl rfl rfl rfl w w1 (fun hz => absurd hz (by decide)) (fun N1 eN1 => ?_)
  have h := h N1 eN1
  refine ow_aload_n (pc' := 6) (x := l0) dX7_clear_5 rfl rfl ?_
  refine ow_iconst (pc' := 7) (n := 0) dX7_clear_6 rfl rfl ?_
  obtain ⟨w, w1, h⟩ := h
  have w2 : (0 : Int) = 0 ∨ (0 : Int) = 1 := by decide
  refine ow_putf2 (pc' := 10) (t := 0) (ji := 2) dX7_clear_7 fRX7_19 rfl rfl rfl rfl w w1 (fun _ => w2) (fun N2 eN2 => ?_)
  have h := h N2 eN2
  refine ow_aload_n (pc' := 11) (x := l0) dX7_clear_10 rfl rfl ?_
  refine ow_iconst (pc' := 12) (n := 0) dX7_clear_11 rfl rfl ?_
  obtain ⟨w, w1, h⟩ := h
  have w2 : (0 : Int) = 0 ∨ (0 : Int) = 1 := by decide
  refine ow_putf2 (pc' := 15) (t := 0) (ji := 3) dX7_clear_12 fRX7_23 rfl rfl rfl rfl w w1 (fun _ => w2) (fun N3 eN3 => ?_)
  have h := h N3 eN3
  refine ow_aload_n (pc' := 16) (x := l0) dX7_clear_15 rfl rfl ?_
  refine ow_iconst (pc' := 17) (n := 0) dX7_clear_16 rfl rfl ?_
  obtain ⟨w, w1, h⟩ := h
  have w2 : (0 : Int) = 0 ∨ (0 : Int) = 1 := by decide
  refine ow_putf2 (pc' := 20) (t := 0) (ji := 6) dX7_clear_17 fRX7_32 rfl rfl rfl rfl w w1 (fun _ => w2) (fun N4 eN4 => ?_)
  have h := h N4 eN4
  refine ow_aload_n (pc' := 21) (x := l0) dX7_clear_20 rfl rfl ?_
  refine ow_iconst (pc' := 22) (n := 0) dX7_clear_21 rfl rfl ?_
  obtain ⟨w, w1, h⟩ := h
  refine ow_putf2 (pc' := 25) (t := 0) (ji := 11) dX7_clear_22 fRX7_47 rfl rfl rfl rfl w w1 (fun hz => absurd hz (by decide)) (fun N5 eN5 => ?_)
  have h := h N5 eN5
  refine ow_aload_n (pc' := 26) (x := l0) dX7_clear_25 rfl rfl ?_
  refine ow_iconst (pc' := 27) (n := 0) dX7_clear_26 rfl rfl ?_
  obtain ⟨w, w1, h⟩ := h
  refine ow_putf2 (pc' := 30) (t := 0) (ji := 14) dX7_clear_27 fRX7_56 rfl rfl rfl rfl w w1 (fun hz => absurd hz (by decide)) (fun N6 eN6 => ?_)
  have h := h N6 eN6
  exact ow_vret dX7_clear_30 rfl rfl h
theorem eX7_clear {C : ow_C} {E : ow_E} {d : Nat} {M : ow_M} {K : Int → ow_M → Prop} {l0 : Int} (h : ow_O E M l0 7 ∧ E.1 l0 1 = none ∧ ∀ N1, N1 = ow_up M l0 1 0 → ow_O E N1 l0 7 ∧ E.1 l0 2 = none ∧ ∀ N2, N2 = ow_up N1 l0 2 0 → ow_O E N2 l0 7 ∧ E.1 l0 3 = none ∧ ∀ N3, N3 = ow_up N2 l0 3 0 → ow_O E N3 l0 7 ∧ E.1 l0 6 = none ∧ ∀ N4, N4 = ow_up N3 l0 6 0 → ow_O E N4 l0 7 ∧ E.1 l0 11 = none ∧ ∀ N5, N5 = ow_up N4 l0 11 0 → ow_O E N5 l0 7 ∧ E.1 l0 14 = none ∧ ∀ N6, N6 = ow_up N5 l0 14 0 → K 0 N6) : ow_Sp C E d mX7_clear (0, 0) [(3, l0)] M K := ow_enter (by decide +kernel) rfl rfl (bX7_clear_0 h)
set_option maxRecDepth 20000 in
theorem bX7_emit_0 {C : ow_C} {E : ow_E} {d : Nat} {M : ow_M} {K : Int → ow_M → Prop} {l0 l1 : Int} (h : ow_O E M l0 7 ∧ (300 ≤ (ow_gv E M l0 1) → K 0 M) ∧ ((ow_gv E M l0 1) < 300 → ow_O E M l0 7 ∧ ow_O E M l0 7 ∧ ow_R E M (ow_gv E M l0 0) 100 (ow_gv E M l0 1) ∧ E.1 (ow_gv E M l0 0) (ow_gv E M l0 1) = none ∧ ∀ N1, N1 = ow_up M (ow_gv E M l0 0) (ow_gv E M l0 1) l1 → ow_O E N1 l0 7 ∧ ow_I ((ow_gv E N1 l0 1) + 1) ∧ ow_O E N1 l0 7 ∧ E.1 l0 1 = none ∧ ∀ N2, N2 = ow_up N1 l0 1 ((ow_gv E N1 l0 1) + 1) → K 0 N2)) : ow_At C E d mX7_emit 0 [(0, (3, l0)), (1, (0, l1))] [] (0, 0) M K := by
  refine ow_aload_n (pc' := 1) (x := l0) dX7_emit_0 rfl rfl ?_
  obtain ⟨w, h⟩ := h
  refine ow_getf2 (pc' := 4) (t := 0) (ji := 1) dX7_emit_1 fRX7_15 rfl rfl rfl w ?_
  refine ow_sipush (pc' := 7) (n := 300) dX7_emit_4 rfl rfl ?_
  refine ow_icmpge (pc' := 10) (tg := 30) dX7_emit_7 rfl rfl (fun hc => ?_) (fun hc => ?_)
  · have h := h.1 hc
    exact ow_vret dX7_emit_30 rfl rfl h
  · have h := h.2 hc
    refine ow_aload_n (pc' := 11) (x := l0) dX7_emit_10 rfl rfl ?_
    obtain ⟨w, h⟩ := h
    refine ow_getf2 (pc' := 14) (t := 3) (ji := 0) dX7_emit_11 fRX7_9 rfl rfl rfl w ?_
    refine ow_aload_n (pc' := 15) (x := l0) dX7_emit_14 rfl rfl ?_
    obtain ⟨w, h⟩ := h
    refine ow_getf2 (pc' := 18) (t := 0) (ji := 1) dX7_emit_15 fRX7_15 rfl rfl rfl w ?_
    refine ow_iload_n (pc' := 19) (x := l1) dX7_emit_18 rfl rfl ?_
    obtain ⟨w, w1, h⟩ := h
    refine ow_iastore2 (pc' := 20) dX7_emit_19 rfl w w1 (fun N1 eN1 => ?_)
    have h := h N1 eN1
    refine ow_aload_n (pc' := 21) (x := l0) dX7_emit_20 rfl rfl ?_
    refine ow_dup (pc' := 22) dX7_emit_21 rfl rfl ?_
    obtain ⟨w, h⟩ := h
    refine ow_getf2 (pc' := 25) (t := 0) (ji := 1) dX7_emit_22 fRX7_15 rfl rfl rfl w ?_
    refine ow_iconst (pc' := 26) (n := 1) dX7_emit_25 rfl rfl ?_
    obtain ⟨w, h⟩ := h
    refine ow_iadd (pc' := 27) dX7_emit_26 w rfl ?_
    obtain ⟨w, w1, h⟩ := h
    refine ow_putf2 (pc' := 30) (t := 0) (ji := 1) dX7_emit_27 fRX7_15 rfl rfl rfl rfl w w1 (fun hz => absurd hz (by decide)) (fun N2 eN2 => ?_)
    have h := h N2 eN2
    exact ow_vret dX7_emit_30 rfl rfl h
theorem eX7_emit {C : ow_C} {E : ow_E} {d : Nat} {M : ow_M} {K : Int → ow_M → Prop} {l0 l1 : Int} (h : ow_O E M l0 7 ∧ (300 ≤ (ow_gv E M l0 1) → K 0 M) ∧ ((ow_gv E M l0 1) < 300 → ow_O E M l0 7 ∧ ow_O E M l0 7 ∧ ow_R E M (ow_gv E M l0 0) 100 (ow_gv E M l0 1) ∧ E.1 (ow_gv E M l0 0) (ow_gv E M l0 1) = none ∧ ∀ N1, N1 = ow_up M (ow_gv E M l0 0) (ow_gv E M l0 1) l1 → ow_O E N1 l0 7 ∧ ow_I ((ow_gv E N1 l0 1) + 1) ∧ ow_O E N1 l0 7 ∧ E.1 l0 1 = none ∧ ∀ N2, N2 = ow_up N1 l0 1 ((ow_gv E N1 l0 1) + 1) → K 0 N2)) : ow_Sp C E d mX7_emit (0, 0) [(3, l0), (0, l1)] M K := ow_enter (by decide +kernel) rfl rfl (bX7_emit_0 h)
set_option maxRecDepth 20000 in
theorem bX7_addEntry_0 {C : ow_C} {E : ow_E} {d : Nat} {M : ow_M} {K : Int → ow_M → Prop} {l0 l1 l2 : Int} (h : ow_O E M l0 7 ∧ (24 ≤ (ow_gv E M l0 11) → K 0 M) ∧ ((ow_gv E M l0 11) < 24 → ow_O E M l0 7 ∧ ow_O E M l0 7 ∧ ow_R E M (ow_gv E M l0 9) 100 (ow_gv E M l0 11) ∧ E.1 (ow_gv E M l0 9) (ow_gv E M l0 11) = none ∧ ∀ N1, N1 = ow_up M (ow_gv E M l0 9) (ow_gv E M l0 11) l1 → ow_O E N1 l0 7 ∧ ow_O E N1 l0 7 ∧ ow_R E N1 (ow_gv E N1 l0 10) 100 (ow_gv E N1 l0 11) ∧ E.1 (ow_gv E N1 l0 10) (ow_gv E N1 l0 11) = none ∧ ∀ N2, N2 = ow_up N1 (ow_gv E N1 l0 10) (ow_gv E N1 l0 11) l2 → ow_O E N2 l0 7 ∧ ow_I ((ow_gv E N2 l0 11) + 1) ∧ ow_O E N2 l0 7 ∧ E.1 l0 11 = none ∧ ∀ N3, N3 = ow_up N2 l0 11 ((ow_gv E N2 l0 11) + 1) → K 0 N3)) : ow_At C E d mX7_addEntry 0 [(0, (3, l0)), (1, (0, l1)), (2, (0, l2))] [] (0, 0) M K := by
  refine ow_aload_n (pc' := 1) (x := l0) dX7_addEntry_0 rfl rfl ?_
  obtain ⟨w, h⟩ := h
  refine ow_getf2 (pc' := 4) (t := 0) (ji := 11) dX7_addEntry_1 fRX7_47 rfl rfl rfl w ?_
  refine ow_bipush (pc' := 6) (n := 24) dX7_addEntry_4 rfl rfl ?_
  refine ow_icmpge (pc' := 9) (tg := 39) dX7_addEntry_6 rfl rfl (fun hc => ?_) (fun hc => ?_)
  · have h := h.1 hc
    exact ow_vret dX7_addEntry_39 rfl rfl h
  · have h := h.2 hc
    refine ow_aload_n (pc' := 10) (x := l0) dX7_addEntry_9 rfl rfl ?_
    obtain ⟨w, h⟩ := h
    refine ow_getf2 (pc' := 13) (t := 3) (ji := 9) dX7_addEntry_10 fRX7_41 rfl rfl rfl w ?_
    refine ow_aload_n (pc' := 14) (x := l0) dX7_addEntry_13 rfl rfl ?_
    obtain ⟨w, h⟩ := h
    refine ow_getf2 (pc' := 17) (t := 0) (ji := 11) dX7_addEntry_14 fRX7_47 rfl rfl rfl w ?_
    refine ow_iload_n (pc' := 18) (x := l1) dX7_addEntry_17 rfl rfl ?_
    obtain ⟨w, w1, h⟩ := h
    refine ow_iastore2 (pc' := 19) dX7_addEntry_18 rfl w w1 (fun N1 eN1 => ?_)
    have h := h N1 eN1
    refine ow_aload_n (pc' := 20) (x := l0) dX7_addEntry_19 rfl rfl ?_
    obtain ⟨w, h⟩ := h
    refine ow_getf2 (pc' := 23) (t := 3) (ji := 10) dX7_addEntry_20 fRX7_44 rfl rfl rfl w ?_
    refine ow_aload_n (pc' := 24) (x := l0) dX7_addEntry_23 rfl rfl ?_
    obtain ⟨w, h⟩ := h
    refine ow_getf2 (pc' := 27) (t := 0) (ji := 11) dX7_addEntry_24 fRX7_47 rfl rfl rfl w ?_
    refine ow_iload_n (pc' := 28) (x := l2) dX7_addEntry_27 rfl rfl ?_
    obtain ⟨w, w1, h⟩ := h
    refine ow_iastore2 (pc' := 29) dX7_addEntry_28 rfl w w1 (fun N2 eN2 => ?_)
    have h := h N2 eN2
    refine ow_aload_n (pc' := 30) (x := l0) dX7_addEntry_29 rfl rfl ?_
    refine ow_dup (pc' := 31) dX7_addEntry_30 rfl rfl ?_
    obtain ⟨w, h⟩ := h
    refine ow_getf2 (pc' := 34) (t := 0) (ji := 11) dX7_addEntry_31 fRX7_47 rfl rfl rfl w ?_
    refine ow_iconst (pc' := 35) (n := 1) dX7_addEntry_34 rfl rfl ?_
    obtain ⟨w, h⟩ := h
    refine ow_iadd (pc' := 36) dX7_addEntry_35 w rfl ?_
    obtain ⟨w, w1, h⟩ := h
    refine ow_putf2 (pc' := 39) (t := 0) (ji := 11) dX7_addEntry_36 fRX7_47 rfl rfl rfl rfl w w1 (fun hz => absurd hz (by decide)) (fun N3 eN3 => ?_)
    have h := h N3 eN3
    exact ow_vret dX7_addEntry_39 rfl rfl h
theorem eX7_addEntry {C : ow_C} {E : ow_E} {d : Nat} {M : ow_M} {K : Int → ow_M → Prop} {l0 l1 l2 : Int} (h : ow_O E M l0 7 ∧ (24 ≤ (ow_gv E M l0 11) → K 0 M) ∧ ((ow_gv E M l0 11) < 24 → ow_O E M l0 7 ∧ ow_O E M l0 7 ∧ ow_R E M (ow_gv E M l0 9) 100 (ow_gv E M l0 11) ∧ E.1 (ow_gv E M l0 9) (ow_gv E M l0 11) = none ∧ ∀ N1, N1 = ow_up M (ow_gv E M l0 9) (ow_gv E M l0 11) l1 → ow_O E N1 l0 7 ∧ ow_O E N1 l0 7 ∧ ow_R E N1 (ow_gv E N1 l0 10) 100 (ow_gv E N1 l0 11) ∧ E.1 (ow_gv E N1 l0 10) (ow_gv E N1 l0 11) = none ∧ ∀ N2, N2 = ow_up N1 (ow_gv E N1 l0 10) (ow_gv E N1 l0 11) l2 → ow_O E N2 l0 7 ∧ ow_I ((ow_gv E N2 l0 11) + 1) ∧ ow_O E N2 l0 7 ∧ E.1 l0 11 = none ∧ ∀ N3, N3 = ow_up N2 l0 11 ((ow_gv E N2 l0 11) + 1) → K 0 N3)) : ow_Sp C E d mX7_addEntry (0, 0) [(3, l0), (0, l1), (0, l2)] M K := ow_enter (by decide +kernel) rfl rfl (bX7_addEntry_0 h)
set_option maxRecDepth 20000 in
theorem bX7_addRoad_0 {C : ow_C} {E : ow_E} {d : Nat} {M : ow_M} {K : Int → ow_M → Prop} {l0 l1 l2 : Int} (h : ow_O E M l0 7 ∧ (24 ≤ (ow_gv E M l0 14) → K 0 M) ∧ ((ow_gv E M l0 14) < 24 → ow_O E M l0 7 ∧ ow_O E M l0 7 ∧ ow_R E M (ow_gv E M l0 12) 100 (ow_gv E M l0 14) ∧ E.1 (ow_gv E M l0 12) (ow_gv E M l0 14) = none ∧ ∀ N1, N1 = ow_up M (ow_gv E M l0 12) (ow_gv E M l0 14) l1 → ow_O E N1 l0 7 ∧ ow_O E N1 l0 7 ∧ ow_R E N1 (ow_gv E N1 l0 13) 100 (ow_gv E N1 l0 14) ∧ E.1 (ow_gv E N1 l0 13) (ow_gv E N1 l0 14) = none ∧ ∀ N2, N2 = ow_up N1 (ow_gv E N1 l0 13) (ow_gv E N1 l0 14) l2 → ow_O E N2 l0 7 ∧ ow_I ((ow_gv E N2 l0 14) + 1) ∧ ow_O E N2 l0 7 ∧ E.1 l0 14 = none ∧ ∀ N3, N3 = ow_up N2 l0 14 ((ow_gv E N2 l0 14) + 1) → K 0 N3)) : ow_At C E d mX7_addRoad 0 [(0, (3, l0)), (1, (0, l1)), (2, (0, l2))] [] (0, 0) M K := by
  refine ow_aload_n (pc' := 1) (x := l0) dX7_addRoad_0 rfl rfl ?_
  obtain ⟨w, h⟩ := h
  refine ow_getf2 (pc' := 4) (t := 0) (ji := 14) dX7_addRoad_1 fRX7_56 rfl rfl rfl w ?_
  refine ow_bipush (pc' := 6) (n := 24) dX7_addRoad_4 rfl rfl ?_
  refine ow_icmpge (pc' := 9) (tg := 39) dX7_addRoad_6 rfl rfl (fun hc => ?_) (fun hc => ?_)
  · have h := h.1 hc
    exact ow_vret dX7_addRoad_39 rfl rfl h
  · have h := h.2 hc
    refine ow_aload_n (pc' := 10) (x := l0) dX7_addRoad_9 rfl rfl ?_
    obtain ⟨w, h⟩ := h
    refine ow_getf2 (pc' := 13) (t := 3) (ji := 12) dX7_addRoad_10 fRX7_50 rfl rfl rfl w ?_
    refine ow_aload_n (pc' := 14) (x := l0) dX7_addRoad_13 rfl rfl ?_
    obtain ⟨w, h⟩ := h
    refine ow_getf2 (pc' := 17) (t := 0) (ji := 14) dX7_addRoad_14 fRX7_56 rfl rfl rfl w ?_
    refine ow_iload_n (pc' := 18) (x := l1) dX7_addRoad_17 rfl rfl ?_
    obtain ⟨w, w1, h⟩ := h
    refine ow_iastore2 (pc' := 19) dX7_addRoad_18 rfl w w1 (fun N1 eN1 => ?_)
    have h := h N1 eN1
    refine ow_aload_n (pc' := 20) (x := l0) dX7_addRoad_19 rfl rfl ?_
    obtain ⟨w, h⟩ := h
    refine ow_getf2 (pc' := 23) (t := 3) (ji := 13) dX7_addRoad_20 fRX7_53 rfl rfl rfl w ?_
    refine ow_aload_n (pc' := 24) (x := l0) dX7_addRoad_23 rfl rfl ?_
    obtain ⟨w, h⟩ := h
    refine ow_getf2 (pc' := 27) (t := 0) (ji := 14) dX7_addRoad_24 fRX7_56 rfl rfl rfl w ?_
    refine ow_iload_n (pc' := 28) (x := l2) dX7_addRoad_27 rfl rfl ?_
    obtain ⟨w, w1, h⟩ := h
    refine ow_iastore2 (pc' := 29) dX7_addRoad_28 rfl w w1 (fun N2 eN2 => ?_)
    have h := h N2 eN2
    refine ow_aload_n (pc' := 30) (x := l0) dX7_addRoad_29 rfl rfl ?_
    refine ow_dup (pc' := 31) dX7_addRoad_30 rfl rfl ?_
    obtain ⟨w, h⟩ := h
    refine ow_getf2 (pc' := 34) (t := 0) (ji := 14) dX7_addRoad_31 fRX7_56 rfl rfl rfl w ?_
    refine ow_iconst (pc' := 35) (n := 1) dX7_addRoad_34 rfl rfl ?_
    obtain ⟨w, h⟩ := h
    refine ow_iadd (pc' := 36) dX7_addRoad_35 w rfl ?_
    obtain ⟨w, w1, h⟩ := h
    refine ow_putf2 (pc' := 39) (t := 0) (ji := 14) dX7_addRoad_36 fRX7_56 rfl rfl rfl rfl w w1 (fun hz => absurd hz (by decide)) (fun N3 eN3 => ?_)
    have h := h N3 eN3
    exact ow_vret dX7_addRoad_39 rfl rfl h
theorem eX7_addRoad {C : ow_C} {E : ow_E} {d : Nat} {M : ow_M} {K : Int → ow_M → Prop} {l0 l1 l2 : Int} (h : ow_O E M l0 7 ∧ (24 ≤ (ow_gv E M l0 14) → K 0 M) ∧ ((ow_gv E M l0 14) < 24 → ow_O E M l0 7 ∧ ow_O E M l0 7 ∧ ow_R E M (ow_gv E M l0 12) 100 (ow_gv E M l0 14) ∧ E.1 (ow_gv E M l0 12) (ow_gv E M l0 14) = none ∧ ∀ N1, N1 = ow_up M (ow_gv E M l0 12) (ow_gv E M l0 14) l1 → ow_O E N1 l0 7 ∧ ow_O E N1 l0 7 ∧ ow_R E N1 (ow_gv E N1 l0 13) 100 (ow_gv E N1 l0 14) ∧ E.1 (ow_gv E N1 l0 13) (ow_gv E N1 l0 14) = none ∧ ∀ N2, N2 = ow_up N1 (ow_gv E N1 l0 13) (ow_gv E N1 l0 14) l2 → ow_O E N2 l0 7 ∧ ow_I ((ow_gv E N2 l0 14) + 1) ∧ ow_O E N2 l0 7 ∧ E.1 l0 14 = none ∧ ∀ N3, N3 = ow_up N2 l0 14 ((ow_gv E N2 l0 14) + 1) → K 0 N3)) : ow_Sp C E d mX7_addRoad (0, 0) [(3, l0), (0, l1), (0, l2)] M K := ow_enter (by decide +kernel) rfl rfl (bX7_addRoad_0 h)
set_option maxRecDepth 20000 in
theorem bX10_init_0 {C : ow_C} {E : ow_E} {d : Nat} {M : ow_M} {K : Int → ow_M → Prop} {bc bs : Nat} {l0 l1 l2 : Int} (hE : E.2.2 = none) (hF : ∀ c i, E.1 c i = none) (h : 0 ≤ l0 ∧ l0 < 900 ∧ ow_O E M l0 10 ∧ E.1 l0 0 = none ∧ ∀ N1, N1 = ow_up M l0 0 (max 2 (min 5 l1)) → ow_O E N1 l0 10 ∧ ow_Sp C E d mX10_lengthFor (0, 0) [(0, ow_gv E N1 l0 0), (0, l2)] N1 (fun r2 N2 => ow_O E N2 l0 10 ∧ E.1 l0 1 = none ∧ ∀ N3, N3 = ow_up N2 l0 1 r2 → ow_O E N3 l0 10 ∧ ow_O E N3 l0 10 ∧ ow_Sp C E d mX10_raised (0, 0) [(0, ow_gv E N3 l0 0), (0, ow_gv E N3 l0 1)] N3 (fun r4 N4 => ow_O E N4 l0 10 ∧ E.1 l0 2 = none ∧ ∀ N5, N5 = ow_up N4 l0 2 r4 → ow_O E N5 l0 10 ∧ E.2.1 (N5 (-1) 0) = (100, ow_gv E N5 l0 1) ∧ N5 (-1) 0 < 800 ∧ (0 : Int) ≤ (ow_gv E N5 l0 1) ∧ ((ow_gv E N5 l0 1) : Int) ≤ ((8 : Nat) : Int) ∧ ∀ q6 N6, q6 = N5 (-1) 0 → N6 = ow_mk1 N5 (fun _ => 0) → ow_O E N6 l0 10 ∧ E.1 l0 3 = none ∧ ∀ N7, N7 = ow_up N6 l0 3 q6 → ow_At C E (d + 1) mX10_init 56 [(0, (3, l0)), (3, (0, 0))] [] (bc + 1, bs + 2048) N7 K))) : ow_At C E (d + 1) mX10_init 0 [(0, (3, l0)), (1, (0, l1)), (2, (0, l2))] [] (bc + 2, bs + 2056) M K := by
  refine ow_aload_n (pc' := 1) (x := l0) dX10_init_0 rfl rfl ?_
  obtain ⟨w, w1, h⟩ := h
  refine ow_objinit (pc' := 4) dX10_init_1 lRX10_1 ow_oi1 ow_oi2 rfl rfl w w1 ?_
  refine ow_aload_n (pc' := 5) (x := l0) dX10_init_4 rfl rfl ?_
  refine ow_iconst (pc' := 6) (n := 2) dX10_init_5 rfl rfl ?_
  refine ow_iconst (pc' := 7) (n := 5) dX10_init_6 rfl rfl ?_
  refine ow_iload_n (pc' := 8) (x := l1) dX10_init_7 rfl rfl ?_
  refine ow_mmin (pc' := 11) dX10_init_8 lRX10_7 ow_mN1 ow_mi0 ow_mN2 rfl rfl ?_
  refine ow_mmax (pc' := 14) dX10_init_11 lRX10_13 ow_mM1 ow_mi0 ow_mM2 rfl rfl ?_
  obtain ⟨w, w1, h⟩ := h
  refine ow_putF2 (pc' := 17) (t := 0) (ji := 0) dX10_init_14 gRX10_16 rfl rfl rfl rfl rfl w w1 (fun hz => absurd hz (by decide)) (fun N1 eN1 => ?_)
  have h := h N1 eN1
  refine ow_aload_n (pc' := 18) (x := l0) dX10_init_17 rfl rfl ?_
  refine ow_aload_n (pc' := 19) (x := l0) dX10_init_18 rfl rfl ?_
  obtain ⟨w, h⟩ := h
  refine ow_getf2 (pc' := 22) (t := 0) (ji := 0) dX10_init_19 fRX10_16 rfl rfl rfl w ?_
  refine ow_iload_n (pc' := 23) (x := l2) dX10_init_22 rfl rfl ?_
  refine ow_callSp (z := mX10_lengthFor) (n := 2) (vs := [(0, ow_gv E N1 l0 0), (0, l2)]) (st := [(3, l0)]) (pc' := 26) (b1 := (0, 0)) (b2 := _) dX10_init_23 lRX10_22 kX10_lengthFor zX10_lengthFor rfl rfl rfl rfl rfl (Prod.ext (Nat.zero_add _).symm (Nat.zero_add _).symm) (ow_Sp.mono h (fun r2 N2 h => ?_))
  obtain ⟨w, w1, h⟩ := h
  refine ow_putF2 (pc' := 29) (t := 0) (ji := 1) dX10_init_26 gRX10_25 rfl rfl rfl rfl rfl w w1 (fun hz => absurd hz (by decide)) (fun N3 eN3 => ?_)
  have h := h N3 eN3
  refine ow_aload_n (pc' := 30) (x := l0) dX10_init_29 rfl rfl ?_
  refine ow_aload_n (pc' := 31) (x := l0) dX10_init_30 rfl rfl ?_
  obtain ⟨w, h⟩ := h
  refine ow_getf2 (pc' := 34) (t := 0) (ji := 0) dX10_init_31 fRX10_16 rfl rfl rfl w ?_
  refine ow_aload_n (pc' := 35) (x := l0) dX10_init_34 rfl rfl ?_
  obtain ⟨w, h⟩ := h
  refine ow_getf2 (pc' := 38) (t := 0) (ji := 1) dX10_init_35 fRX10_25 rfl rfl rfl w ?_
  refine ow_callSp (z := mX10_raised) (n := 2) (vs := [(0, ow_gv E N3 l0 0), (0, ow_gv E N3 l0 1)]) (st := [(3, l0)]) (pc' := 41) (b1 := (0, 0)) (b2 := _) dX10_init_38 lRX10_28 kX10_raised zX10_raised rfl rfl rfl rfl rfl (Prod.ext (Nat.zero_add _).symm (Nat.zero_add _).symm) (ow_Sp.mono h (fun r4 N4 h => ?_))
  obtain ⟨w, w1, h⟩ := h
  refine ow_putF2 (pc' := 44) (t := 0) (ji := 2) dX10_init_41 gRX10_31 rfl rfl rfl rfl rfl w w1 (fun hz => absurd hz (by decide)) (fun N5 eN5 => ?_)
  have h := h N5 eN5
  refine ow_aload_n (pc' := 45) (x := l0) dX10_init_44 rfl rfl ?_
  refine ow_aload_n (pc' := 46) (x := l0) dX10_init_45 rfl rfl ?_
  obtain ⟨w, h⟩ := h
  refine ow_getf2 (pc' := 49) (t := 0) (ji := 1) dX10_init_46 fRX10_25 rfl rfl rfl w ?_
  obtain ⟨w, w1, w2, w3, h⟩ := h
  refine ow_newi2 (pc' := 51) (N := 8) (b2 := (bc + 1, bs + 2048)) dX10_init_49 ow_arI rfl hE hF w w1 w2 w3 rfl (Prod.ext (by show bc + _ = _ + (bc + _); omega) (by show bs + _ = _ + (bs + _); omega)) (fun q6 N6 eq6 eN6 => ?_)
  have h := h q6 N6 eq6 eN6
  obtain ⟨w, w1, h⟩ := h
  refine ow_putF2 (pc' := 54) (t := 3) (ji := 3) dX10_init_51 gRX10_34 rfl rfl rfl rfl rfl w w1 (fun hz => absurd hz (by decide)) (fun N7 eN7 => ?_)
  have h := h N7 eN7
  refine ow_iconst (pc' := 55) (n := 0) dX10_init_54 rfl rfl ?_
  refine ow_istore_n (pc' := 56) (lv' := [(0, (3, l0)), (1, (0, l1)), (2, (0, l2)), (3, (0, 0))]) dX10_init_55 rfl rfl rfl ?_
  refine ow_sub (lv' := [(0, (3, l0)), (3, (0, 0))]) [0, 3] rfl ?_
  exact h
set_option maxRecDepth 20000 in
theorem bX10_init_56 {C : ow_C} {E : ow_E} {d : Nat} {M : ow_M} {K : Int → ow_M → Prop} {bc bs : Nat} {l0 l3 : Int} (hE : E.2.2 = none) (hF : ∀ c i, E.1 c i = none) (h : ow_O E M l0 10 ∧ ((ow_gv E M l0 1) ≤ l3 → ow_O E M l0 10 ∧ ow_O E M l0 10 ∧ ow_I ((ow_gv E M l0 2) * (ow_gv E M l0 1)) ∧ E.2.1 (M (-1) 0) = (100, (ow_gv E M l0 2) * (ow_gv E M l0 1)) ∧ M (-1) 0 < 800 ∧ (0 : Int) ≤ ((ow_gv E M l0 2) * (ow_gv E M l0 1)) ∧ (((ow_gv E M l0 2) * (ow_gv E M l0 1)) : Int) ≤ ((2048 : Nat) : Int) ∧ ∀ q1 N1, q1 = M (-1) 0 → N1 = ow_mk1 M (fun _ => 0) → ow_O E N1 l0 10 ∧ E.1 l0 4 = none ∧ ∀ N2, N2 = ow_up N1 l0 4 q1 → ow_At C E (d + 1) mX10_init 108 [(0, (3, l0)), (3, (0, 0))] [] (bc + 0, bs + 0) N2 K) ∧ (l3 < (ow_gv E M l0 1) → ow_O E M l0 10 ∧ ow_O E M l0 10 ∧ ow_O E M l0 10 ∧ ow_I ((ow_gv E M l0 1) - 1) ∧ ow_I (((ow_gv E M l0 1) - 1) - l3) ∧ ow_Sp C E d mX10_raised (0, 0) [(0, ow_gv E M l0 0), (0, ((ow_gv E M l0 1) - 1) - l3)] M (fun r3 N3 => ow_R E N3 (ow_gv E M l0 3) 100 l3 ∧ E.1 (ow_gv E M l0 3) l3 = none ∧ ∀ N4, N4 = ow_up N3 (ow_gv E M l0 3) l3 r3 → ow_I (l3 + 1) ∧ ow_At C E (d + 1) mX10_init 56 [(0, (3, l0)), (3, (0, l3 + 1))] [] (bc + 1, bs + 2048) N4 K))) : ow_At C E (d + 1) mX10_init 56 [(0, (3, l0)), (3, (0, l3))] [] (bc + 1, bs + 2048) M K := by
  refine ow_iload_n (pc' := 57) (x := l3) dX10_init_56 rfl rfl ?_
  refine ow_aload_n (pc' := 58) (x := l0) dX10_init_57 rfl rfl ?_
  obtain ⟨w, h⟩ := h
  refine ow_getf2 (pc' := 61) (t := 0) (ji := 1) dX10_init_58 fRX10_25 rfl rfl rfl w ?_
  refine ow_icmpge (pc' := 64) (tg := 91) dX10_init_61 rfl rfl (fun hc => ?_) (fun hc => ?_)
  · have h := h.1 hc
    refine ow_aload_n (pc' := 92) (x := l0) dX10_init_91 rfl rfl ?_
    refine ow_aload_n (pc' := 93) (x := l0) dX10_init_92 rfl rfl ?_
    obtain ⟨w, h⟩ := h
    refine ow_getf2 (pc' := 96) (t := 0) (ji := 2) dX10_init_93 fRX10_31 rfl rfl rfl w ?_
    refine ow_aload_n (pc' := 97) (x := l0) dX10_init_96 rfl rfl ?_
    obtain ⟨w, h⟩ := h
    refine ow_getf2 (pc' := 100) (t := 0) (ji := 1) dX10_init_97 fRX10_25 rfl rfl rfl w ?_
    obtain ⟨w, h⟩ := h
    refine ow_imul (pc' := 101) dX10_init_100 w rfl ?_
    obtain ⟨w, w1, w2, w3, h⟩ := h
    refine ow_newi2 (pc' := 103) (N := 2048) (b2 := (bc + 0, bs + 0)) dX10_init_101 ow_arI rfl hE hF w w1 w2 w3 rfl (Prod.ext (by show bc + _ = _ + (bc + _); omega) (by show bs + _ = _ + (bs + _); omega)) (fun q1 N1 eq1 eN1 => ?_)
    have h := h q1 N1 eq1 eN1
    obtain ⟨w, w1, h⟩ := h
    refine ow_putF2 (pc' := 106) (t := 3) (ji := 4) dX10_init_103 gRX10_38 rfl rfl rfl rfl rfl w w1 (fun hz => absurd hz (by decide)) (fun N2 eN2 => ?_)
    have h := h N2 eN2
    refine ow_iconst (pc' := 107) (n := 0) dX10_init_106 rfl rfl ?_
    refine ow_istore_n (pc' := 108) (lv' := [(0, (3, l0)), (3, (0, 0))]) dX10_init_107 rfl rfl rfl ?_
    exact h
  · have h := h.2 hc
    refine ow_aload_n (pc' := 65) (x := l0) dX10_init_64 rfl rfl ?_
    obtain ⟨w, h⟩ := h
    refine ow_getf2 (pc' := 68) (t := 3) (ji := 3) dX10_init_65 fRX10_34 rfl rfl rfl w ?_
    refine ow_iload_n (pc' := 69) (x := l3) dX10_init_68 rfl rfl ?_
    refine ow_aload_n (pc' := 70) (x := l0) dX10_init_69 rfl rfl ?_
    obtain ⟨w, h⟩ := h
    refine ow_getf2 (pc' := 73) (t := 0) (ji := 0) dX10_init_70 fRX10_16 rfl rfl rfl w ?_
    refine ow_aload_n (pc' := 74) (x := l0) dX10_init_73 rfl rfl ?_
    obtain ⟨w, h⟩ := h
    refine ow_getf2 (pc' := 77) (t := 0) (ji := 1) dX10_init_74 fRX10_25 rfl rfl rfl w ?_
    refine ow_iconst (pc' := 78) (n := 1) dX10_init_77 rfl rfl ?_
    obtain ⟨w, h⟩ := h
    refine ow_isub (pc' := 79) dX10_init_78 w rfl ?_
    refine ow_iload_n (pc' := 80) (x := l3) dX10_init_79 rfl rfl ?_
    obtain ⟨w, h⟩ := h
    refine ow_isub (pc' := 81) dX10_init_80 w rfl ?_
    refine ow_callSp (z := mX10_raised) (n := 2) (vs := [(0, ow_gv E M l0 0), (0, ((ow_gv E M l0 1) - 1) - l3)]) (st := [(0, l3), (3, ow_gv E M l0 3)]) (pc' := 84) (b1 := (0, 0)) (b2 := _) dX10_init_81 lRX10_28 kX10_raised zX10_raised rfl rfl rfl rfl rfl (Prod.ext (Nat.zero_add _).symm (Nat.zero_add _).symm) (ow_Sp.mono h (fun r3 N3 h => ?_))
    obtain ⟨w, w1, h⟩ := h
    refine ow_iastore2 (pc' := 85) dX10_init_84 rfl w w1 (fun N4 eN4 => ?_)
    have h := h N4 eN4
    obtain ⟨w, h⟩ := h
    refine ow_iinc (pc' := 88) (lv' := [(0, (3, l0)), (3, (0, l3 + 1))]) dX10_init_85 rfl w rfl rfl rfl ?_
    refine ow_goto (tg := 56) dX10_init_88 rfl ?_
    exact h
set_option maxRecDepth 20000 in
theorem bX10_init_108 {C : ow_C} {E : ow_E} {d : Nat} {M : ow_M} {K : Int → ow_M → Prop} {bc bs : Nat} {l0 l3 : Int} (h : ow_O E M l0 10 ∧ ((ow_gv E M l0 2) ≤ l3 → K 0 M) ∧ (l3 < (ow_gv E M l0 2) → ow_O E M l0 10 ∧ ow_I ((ow_gv E M l0 1) - 1) ∧ ow_At C E (d + 1) mX10_init 127 [(0, (3, l0)), (3, (0, l3)), (4, (0, l3)), (5, (0, (ow_gv E M l0 1) - 1))] [] (bc + 0, bs + 0) M K)) : ow_At C E (d + 1) mX10_init 108 [(0, (3, l0)), (3, (0, l3))] [] (bc + 0, bs + 0) M K := by
  refine ow_iload_n (pc' := 109) (x := l3) dX10_init_108 rfl rfl ?_
  refine ow_aload_n (pc' := 110) (x := l0) dX10_init_109 rfl rfl ?_
  obtain ⟨w, h⟩ := h
  refine ow_getf2 (pc' := 113) (t := 0) (ji := 2) dX10_init_110 fRX10_31 rfl rfl rfl w ?_
  refine ow_icmpge (pc' := 116) (tg := 174) dX10_init_113 rfl rfl (fun hc => ?_) (fun hc => ?_)
  · have h := h.1 hc
    refine ow_less (b' := (0, 0)) rfl rfl ?_
    exact ow_vret dX10_init_174 rfl rfl h
  · have h := h.2 hc
    refine ow_iload_n (pc' := 117) (x := l3) dX10_init_116 rfl rfl ?_
    refine ow_istore (pc' := 119) (lv' := [(0, (3, l0)), (3, (0, l3)), (4, (0, l3))]) dX10_init_117 rfl rfl rfl ?_
    refine ow_aload_n (pc' := 120) (x := l0) dX10_init_119 rfl rfl ?_
    obtain ⟨w, h⟩ := h
    refine ow_getf2 (pc' := 123) (t := 0) (ji := 1) dX10_init_120 fRX10_25 rfl rfl rfl w ?_
    refine ow_iconst (pc' := 124) (n := 1) dX10_init_123 rfl rfl ?_
    obtain ⟨w, h⟩ := h
    refine ow_isub (pc' := 125) dX10_init_124 w rfl ?_
    refine ow_istore (pc' := 127) (lv' := [(0, (3, l0)), (3, (0, l3)), (4, (0, l3)), (5, (0, (ow_gv E M l0 1) - 1))]) dX10_init_125 rfl rfl rfl ?_
    exact h
set_option maxRecDepth 20000 in
theorem bX10_init_127 {C : ow_C} {E : ow_E} {d : Nat} {M : ow_M} {K : Int → ow_M → Prop} {bc bs : Nat} {l0 l3 l4 l5 : Int} (h : (l5 < 0 → ow_I (l3 + 1) ∧ ow_At C E (d + 1) mX10_init 108 [(0, (3, l0)), (3, (0, l3 + 1))] [] (bc + 0, bs + 0) M K) ∧ (0 ≤ l5 → ow_O E M l0 10 ∧ ow_O E M l0 10 ∧ ow_I (l3 * (ow_gv E M l0 1)) ∧ ow_I ((l3 * (ow_gv E M l0 1)) + l5) ∧ ow_O E M l0 10 ∧ (ow_gv E M l0 0) ≠ 0 ∧ ow_I (Int.tdiv l4 (ow_gv E M l0 0)) ∧ ow_I (Int.tmod l4 (ow_gv E M l0 0)) ∧ ow_R E M (ow_gv E M l0 4) 100 ((l3 * (ow_gv E M l0 1)) + l5) ∧ E.1 (ow_gv E M l0 4) ((l3 * (ow_gv E M l0 1)) + l5) = none ∧ ∀ N1, N1 = ow_up M (ow_gv E M l0 4) ((l3 * (ow_gv E M l0 1)) + l5) (Int.tmod l4 (ow_gv E M l0 0)) → ow_O E N1 l0 10 ∧ (ow_gv E N1 l0 0) ≠ 0 ∧ ow_I (Int.tdiv l4 (ow_gv E N1 l0 0)) ∧ ow_I (l5 + (-1)) ∧ ow_At C E (d + 1) mX10_init 127 [(0, (3, l0)), (3, (0, l3)), (4, (0, Int.tdiv l4 (ow_gv E N1 l0 0))), (5, (0, l5 + (-1)))] [] (bc + 0, bs + 0) N1 K)) : ow_At C E (d + 1) mX10_init 127 [(0, (3, l0)), (3, (0, l3)), (4, (0, l4)), (5, (0, l5))] [] (bc + 0, bs + 0) M K := by
  refine ow_iload (pc' := 129) (x := l5) dX10_init_127 rfl rfl ?_
  refine ow_iflt (pc' := 132) (tg := 168) dX10_init_129 rfl rfl (fun hc => ?_) (fun hc => ?_)
  · have h := h.1 hc
    obtain ⟨w, h⟩ := h
    refine ow_iinc (pc' := 171) (lv' := [(0, (3, l0)), (3, (0, l3 + 1)), (4, (0, l4)), (5, (0, l5))]) dX10_init_168 rfl w rfl rfl rfl ?_
    refine ow_goto (tg := 108) dX10_init_171 rfl ?_
    refine ow_sub (lv' := [(0, (3, l0)), (3, (0, l3 + 1))]) [0, 1] rfl ?_
    exact h
  · have h := h.2 hc
    refine ow_aload_n (pc' := 133) (x := l0) dX10_init_132 rfl rfl ?_
    obtain ⟨w, h⟩ := h
    refine ow_getf2 (pc' := 136) (t := 3) (ji := 4) dX10_init_133 fRX10_38 rfl rfl rfl w ?_
    refine ow_iload_n (pc' := 137) (x := l3) dX10_init_136 rfl rfl ?_
    refine ow_aload_n (pc' := 138) (x := l0) dX10_init_137 rfl rfl ?_
    obtain ⟨w, h⟩ := h
    refine ow_getf2 (pc' := 141) (t := 0) (ji := 1) dX10_init_138 fRX10_25 rfl rfl rfl w ?_
    obtain ⟨w, h⟩ := h
    refine ow_imul (pc' := 142) dX10_init_141 w rfl ?_
    refine ow_iload (pc' := 144) (x := l5) dX10_init_142 rfl rfl ?_
    obtain ⟨w, h⟩ := h
    refine ow_iadd (pc' := 145) dX10_init_144 w rfl ?_
    refine ow_iload (pc' := 147) (x := l4) dX10_init_145 rfl rfl ?_
    refine ow_aload_n (pc' := 148) (x := l0) dX10_init_147 rfl rfl ?_
    obtain ⟨w, h⟩ := h
    refine ow_getf2 (pc' := 151) (t := 0) (ji := 0) dX10_init_148 fRX10_16 rfl rfl rfl w ?_
    obtain ⟨w0, w, w1, h⟩ := h
    refine ow_irem (pc' := 152) dX10_init_151 w0 w w1 rfl ?_
    obtain ⟨w, w1, h⟩ := h
    refine ow_iastore2 (pc' := 153) dX10_init_152 rfl w w1 (fun N1 eN1 => ?_)
    have h := h N1 eN1
    refine ow_iload (pc' := 155) (x := l4) dX10_init_153 rfl rfl ?_
    refine ow_aload_n (pc' := 156) (x := l0) dX10_init_155 rfl rfl ?_
    obtain ⟨w, h⟩ := h
    refine ow_getf2 (pc' := 159) (t := 0) (ji := 0) dX10_init_156 fRX10_16 rfl rfl rfl w ?_
    obtain ⟨w0, w, h⟩ := h
    refine ow_idiv (pc' := 160) dX10_init_159 w0 w rfl ?_
    refine ow_istore (pc' := 162) (lv' := [(0, (3, l0)), (3, (0, l3)), (4, (0, Int.tdiv l4 (ow_gv E N1 l0 0))), (5, (0, l5))]) dX10_init_160 rfl rfl rfl ?_
    obtain ⟨w, h⟩ := h
    refine ow_iinc (pc' := 165) (lv' := [(0, (3, l0)), (3, (0, l3)), (4, (0, Int.tdiv l4 (ow_gv E N1 l0 0))), (5, (0, l5 + (-1)))]) dX10_init_162 rfl w rfl rfl rfl ?_
    refine ow_goto (tg := 127) dX10_init_165 rfl ?_
    exact h
theorem eX10_init {C : ow_C} {E : ow_E} {d : Nat} {M : ow_M} {K : Int → ow_M → Prop} {l0 l1 l2 : Int} (hE : E.2.2 = none) (hF : ∀ c i, E.1 c i = none) (h : 0 ≤ l0 ∧ l0 < 900 ∧ ow_O E M l0 10 ∧ E.1 l0 0 = none ∧ ∀ N1, N1 = ow_up M l0 0 (max 2 (min 5 l1)) → ow_O E N1 l0 10 ∧ ow_Sp C E d mX10_lengthFor (0, 0) [(0, ow_gv E N1 l0 0), (0, l2)] N1 (fun r2 N2 => ow_O E N2 l0 10 ∧ E.1 l0 1 = none ∧ ∀ N3, N3 = ow_up N2 l0 1 r2 → ow_O E N3 l0 10 ∧ ow_O E N3 l0 10 ∧ ow_Sp C E d mX10_raised (0, 0) [(0, ow_gv E N3 l0 0), (0, ow_gv E N3 l0 1)] N3 (fun r4 N4 => ow_O E N4 l0 10 ∧ E.1 l0 2 = none ∧ ∀ N5, N5 = ow_up N4 l0 2 r4 → ow_O E N5 l0 10 ∧ E.2.1 (N5 (-1) 0) = (100, ow_gv E N5 l0 1) ∧ N5 (-1) 0 < 800 ∧ (0 : Int) ≤ (ow_gv E N5 l0 1) ∧ ((ow_gv E N5 l0 1) : Int) ≤ ((8 : Nat) : Int) ∧ ∀ q6 N6, q6 = N5 (-1) 0 → N6 = ow_mk1 N5 (fun _ => 0) → ow_O E N6 l0 10 ∧ E.1 l0 3 = none ∧ ∀ N7, N7 = ow_up N6 l0 3 q6 → ow_At C E (d + 1) mX10_init 56 [(0, (3, l0)), (3, (0, 0))] [] (0 + 1, 0 + 2048) N7 K))) : ow_Sp C E (d + 1) mX10_init (0 + 2, 0 + 2056) [(3, l0), (0, l1), (0, l2)] M K := ow_enter (by decide +kernel) rfl rfl (bX10_init_0 hE hF h)
set_option maxRecDepth 20000 in
theorem bX10_lengthFor_0 {C : ow_C} {E : ow_E} {d : Nat} {M : ow_M} {K : Int → ow_M → Prop} {l0 l1 : Int} (h : ow_At C E (d + 1) mX10_lengthFor 13 [(0, (0, l0)), (2, (0, max 2 (min 8 l1))), (3, (0, 0))] [] (0, 0) M K) : ow_At C E (d + 1) mX10_lengthFor 0 [(0, (0, l0)), (1, (0, l1))] [] (0, 0) M K := by
  refine ow_iconst (pc' := 1) (n := 2) dX10_lengthFor_0 rfl rfl ?_
  refine ow_bipush (pc' := 3) (n := 8) dX10_lengthFor_1 rfl rfl ?_
  refine ow_iload_n (pc' := 4) (x := l1) dX10_lengthFor_3 rfl rfl ?_
  refine ow_mmin (pc' := 7) dX10_lengthFor_4 lRX10_7 ow_mN1 ow_mi0 ow_mN2 rfl rfl ?_
  refine ow_mmax (pc' := 10) dX10_lengthFor_7 lRX10_13 ow_mM1 ow_mi0 ow_mM2 rfl rfl ?_
  refine ow_istore_n (pc' := 11) (lv' := [(0, (0, l0)), (1, (0, l1)), (2, (0, max 2 (min 8 l1)))]) dX10_lengthFor_10 rfl rfl rfl ?_
  refine ow_iconst (pc' := 12) (n := 0) dX10_lengthFor_11 rfl rfl ?_
  refine ow_istore_n (pc' := 13) (lv' := [(0, (0, l0)), (1, (0, l1)), (2, (0, max 2 (min 8 l1))), (3, (0, 0))]) dX10_lengthFor_12 rfl rfl rfl ?_
  refine ow_sub (lv' := [(0, (0, l0)), (2, (0, max 2 (min 8 l1))), (3, (0, 0))]) [0, 2, 3] rfl ?_
  exact h
set_option maxRecDepth 20000 in
theorem bX10_lengthFor_13 {C : ow_C} {E : ow_E} {d : Nat} {M : ow_M} {K : Int → ow_M → Prop} {l0 l2 l3 : Int} (h : (8 ≤ l3 → K l2 M) ∧ (l3 < 8 → ow_Sp C E d mX10_raised (0, 0) [(0, l0), (0, l2)] M (fun r1 N1 => (r1 ≤ 256 → K l2 N1) ∧ (256 < r1 → ow_I (l2 + (-1)) ∧ ow_I (l3 + 1) ∧ ow_At C E (d + 1) mX10_lengthFor 13 [(0, (0, l0)), (2, (0, l2 + (-1))), (3, (0, l3 + 1))] [] (0, 0) N1 K)))) : ow_At C E (d + 1) mX10_lengthFor 13 [(0, (0, l0)), (2, (0, l2)), (3, (0, l3))] [] (0, 0) M K := by
  refine ow_iload_n (pc' := 14) (x := l3) dX10_lengthFor_13 rfl rfl ?_
  refine ow_bipush (pc' := 16) (n := 8) dX10_lengthFor_14 rfl rfl ?_
  refine ow_icmpge (pc' := 19) (tg := 39) dX10_lengthFor_16 rfl rfl (fun hc => ?_) (fun hc => ?_)
  · have h := h.1 hc
    refine ow_iload_n (pc' := 40) (x := l2) dX10_lengthFor_39 rfl rfl ?_
    exact ow_iret dX10_lengthFor_40 rfl rfl h
  · have h := h.2 hc
    refine ow_iload_n (pc' := 20) (x := l0) dX10_lengthFor_19 rfl rfl ?_
    refine ow_iload_n (pc' := 21) (x := l2) dX10_lengthFor_20 rfl rfl ?_
    refine ow_callSp (z := mX10_raised) (n := 2) (vs := [(0, l0), (0, l2)]) (st := []) (pc' := 24) (b1 := (0, 0)) (b2 := (0, 0)) dX10_lengthFor_21 lRX10_28 kX10_raised zX10_raised rfl rfl rfl rfl rfl rfl (ow_Sp.mono h (fun r1 N1 h => ?_))
    refine ow_sipush (pc' := 27) (n := 256) dX10_lengthFor_24 rfl rfl ?_
    refine ow_icmple (pc' := 30) (tg := 39) dX10_lengthFor_27 rfl rfl (fun hc => ?_) (fun hc => ?_)
    · have h := h.1 hc
      refine ow_iload_n (pc' := 40) (x := l2) dX10_lengthFor_39 rfl rfl ?_
      exact ow_iret dX10_lengthFor_40 rfl rfl h
    · have h := h.2 hc
      obtain ⟨w, h⟩ := h
      refine ow_iinc (pc' := 33) (lv' := [(0, (0, l0)), (2, (0, l2 + (-1))), (3, (0, l3))]) dX10_lengthFor_30 rfl w rfl rfl rfl ?_
      obtain ⟨w, h⟩ := h
      refine ow_iinc (pc' := 36) (lv' := [(0, (0, l0)), (2, (0, l2 + (-1))), (3, (0, l3 + 1))]) dX10_lengthFor_33 rfl w rfl rfl rfl ?_
      refine ow_goto (tg := 13) dX10_lengthFor_36 rfl ?_
      exact h
theorem eX10_lengthFor {C : ow_C} {E : ow_E} {d : Nat} {M : ow_M} {K : Int → ow_M → Prop} {l0 l1 : Int} (h : ow_At C E (d + 1) mX10_lengthFor 13 [(0, (0, l0)), (2, (0, max 2 (min 8 l1))), (3, (0, 0))] [] (0, 0) M K) : ow_Sp C E (d + 1) mX10_lengthFor (0, 0) [(0, l0), (0, l1)] M K := ow_enter (by decide +kernel) rfl rfl (bX10_lengthFor_0 h)
set_option maxRecDepth 20000 in
theorem bX10_raised_0 {C : ow_C} {E : ow_E} {d : Nat} {M : ow_M} {K : Int → ow_M → Prop} {l0 l1 : Int} (h : ow_At C E d mX10_raised 4 [(0, (0, l0)), (1, (0, l1)), (2, (0, 1)), (3, (0, 0))] [] (0, 0) M K) : ow_At C E d mX10_raised 0 [(0, (0, l0)), (1, (0, l1))] [] (0, 0) M K := by
  refine ow_iconst (pc' := 1) (n := 1) dX10_raised_0 rfl rfl ?_
  refine ow_istore_n (pc' := 2) (lv' := [(0, (0, l0)), (1, (0, l1)), (2, (0, 1))]) dX10_raised_1 rfl rfl rfl ?_
  refine ow_iconst (pc' := 3) (n := 0) dX10_raised_2 rfl rfl ?_
  refine ow_istore_n (pc' := 4) (lv' := [(0, (0, l0)), (1, (0, l1)), (2, (0, 1)), (3, (0, 0))]) dX10_raised_3 rfl rfl rfl ?_
  exact h
set_option maxRecDepth 20000 in
theorem bX10_raised_4 {C : ow_C} {E : ow_E} {d : Nat} {M : ow_M} {K : Int → ow_M → Prop} {l0 l1 l2 l3 : Int} (h : (l1 ≤ l3 → K l2 M) ∧ (l3 < l1 → ow_I (l2 * l0) ∧ ow_I (l3 + 1) ∧ ow_At C E d mX10_raised 4 [(0, (0, l0)), (1, (0, l1)), (2, (0, l2 * l0)), (3, (0, l3 + 1))] [] (0, 0) M K)) : ow_At C E d mX10_raised 4 [(0, (0, l0)), (1, (0, l1)), (2, (0, l2)), (3, (0, l3))] [] (0, 0) M K := by
  refine ow_iload_n (pc' := 5) (x := l3) dX10_raised_4 rfl rfl ?_
  refine ow_iload_n (pc' := 6) (x := l1) dX10_raised_5 rfl rfl ?_
  refine ow_icmpge (pc' := 9) (tg := 19) dX10_raised_6 rfl rfl (fun hc => ?_) (fun hc => ?_)
  · have h := h.1 hc
    refine ow_iload_n (pc' := 20) (x := l2) dX10_raised_19 rfl rfl ?_
    exact ow_iret dX10_raised_20 rfl rfl h
  · have h := h.2 hc
    refine ow_iload_n (pc' := 10) (x := l2) dX10_raised_9 rfl rfl ?_
    refine ow_iload_n (pc' := 11) (x := l0) dX10_raised_10 rfl rfl ?_
    obtain ⟨w, h⟩ := h
    refine ow_imul (pc' := 12) dX10_raised_11 w rfl ?_
    refine ow_istore_n (pc' := 13) (lv' := [(0, (0, l0)), (1, (0, l1)), (2, (0, l2 * l0)), (3, (0, l3))]) dX10_raised_12 rfl rfl rfl ?_
    obtain ⟨w, h⟩ := h
    refine ow_iinc (pc' := 16) (lv' := [(0, (0, l0)), (1, (0, l1)), (2, (0, l2 * l0)), (3, (0, l3 + 1))]) dX10_raised_13 rfl w rfl rfl rfl ?_
    refine ow_goto (tg := 4) dX10_raised_16 rfl ?_
    exact h
theorem eX10_raised {C : ow_C} {E : ow_E} {d : Nat} {M : ow_M} {K : Int → ow_M → Prop} {l0 l1 : Int} (h : ow_At C E d mX10_raised 4 [(0, (0, l0)), (1, (0, l1)), (2, (0, 1)), (3, (0, 0))] [] (0, 0) M K) : ow_Sp C E d mX10_raised (0, 0) [(0, l0), (0, l1)] M K := ow_enter (by decide +kernel) rfl rfl (bX10_raised_0 h)
set_option maxRecDepth 20000 in
theorem bX10_isWord_0 {C : ow_C} {E : ow_E} {d : Nat} {M : ow_M} {K : Int → ow_M → Prop} {l0 l1 : Int} (h : (l1 < 0 → K 0 M) ∧ (0 ≤ l1 → ow_O E M l0 10 ∧ ((ow_gv E M l0 2) ≤ l1 → K 0 M) ∧ (l1 < (ow_gv E M l0 2) → K 1 M))) : ow_At C E d mX10_isWord 0 [(0, (3, l0)), (1, (0, l1))] [] (0, 0) M K := by
  refine ow_iload_n (pc' := 1) (x := l1) dX10_isWord_0 rfl rfl ?_
  refine ow_iflt (pc' := 4) (tg := 16) dX10_isWord_1 rfl rfl (fun hc => ?_) (fun hc => ?_)
  · have h := h.1 hc
    refine ow_iconst (pc' := 17) (n := 0) dX10_isWord_16 rfl rfl ?_
    exact ow_zret dX10_isWord_17 rfl rfl (Or.inl rfl) h
  · have h := h.2 hc
    refine ow_iload_n (pc' := 5) (x := l1) dX10_isWord_4 rfl rfl ?_
    refine ow_aload_n (pc' := 6) (x := l0) dX10_isWord_5 rfl rfl ?_
    obtain ⟨w, h⟩ := h
    refine ow_getf2 (pc' := 9) (t := 0) (ji := 2) dX10_isWord_6 fRX10_31 rfl rfl rfl w ?_
    refine ow_icmpge (pc' := 12) (tg := 16) dX10_isWord_9 rfl rfl (fun hc => ?_) (fun hc => ?_)
    · have h := h.1 hc
      refine ow_iconst (pc' := 17) (n := 0) dX10_isWord_16 rfl rfl ?_
      exact ow_zret dX10_isWord_17 rfl rfl (Or.inl rfl) h
    · have h := h.2 hc
      refine ow_iconst (pc' := 13) (n := 1) dX10_isWord_12 rfl rfl ?_
      refine ow_goto (tg := 17) dX10_isWord_13 rfl ?_
      exact ow_zret dX10_isWord_17 rfl rfl (Or.inr rfl) h
theorem eX10_isWord {C : ow_C} {E : ow_E} {d : Nat} {M : ow_M} {K : Int → ow_M → Prop} {l0 l1 : Int} (h : (l1 < 0 → K 0 M) ∧ (0 ≤ l1 → ow_O E M l0 10 ∧ ((ow_gv E M l0 2) ≤ l1 → K 0 M) ∧ (l1 < (ow_gv E M l0 2) → K 1 M))) : ow_Sp C E d mX10_isWord (0, 0) [(3, l0), (0, l1)] M K := ow_enter (by decide +kernel) rfl rfl (bX10_isWord_0 h)
set_option maxRecDepth 20000 in
theorem bX10_letter_0 {C : ow_C} {E : ow_E} {d : Nat} {M : ow_M} {K : Int → ow_M → Prop} {l0 l1 l2 : Int} (h : ow_O E M l0 10 ∧ ow_O E M l0 10 ∧ ow_I (l1 * (ow_gv E M l0 1)) ∧ ow_I ((l1 * (ow_gv E M l0 1)) + l2) ∧ ow_R E M (ow_gv E M l0 4) 100 ((l1 * (ow_gv E M l0 1)) + l2) ∧ K (ow_gv E M (ow_gv E M l0 4) ((l1 * (ow_gv E M l0 1)) + l2)) M) : ow_At C E d mX10_letter 0 [(0, (3, l0)), (1, (0, l1)), (2, (0, l2))] [] (0, 0) M K := by
  refine ow_aload_n (pc' := 1) (x := l0) dX10_letter_0 rfl rfl ?_
  obtain ⟨w, h⟩ := h
  refine ow_getf2 (pc' := 4) (t := 3) (ji := 4) dX10_letter_1 fRX10_38 rfl rfl rfl w ?_
  refine ow_iload_n (pc' := 5) (x := l1) dX10_letter_4 rfl rfl ?_
  refine ow_aload_n (pc' := 6) (x := l0) dX10_letter_5 rfl rfl ?_
  obtain ⟨w, h⟩ := h
  refine ow_getf2 (pc' := 9) (t := 0) (ji := 1) dX10_letter_6 fRX10_25 rfl rfl rfl w ?_
  obtain ⟨w, h⟩ := h
  refine ow_imul (pc' := 10) dX10_letter_9 w rfl ?_
  refine ow_iload_n (pc' := 11) (x := l2) dX10_letter_10 rfl rfl ?_
  obtain ⟨w, h⟩ := h
  refine ow_iadd (pc' := 12) dX10_letter_11 w rfl ?_
  obtain ⟨w, h⟩ := h
  refine ow_iaload (pc' := 13) dX10_letter_12 rfl w ?_
  exact ow_iret dX10_letter_13 rfl rfl h
theorem eX10_letter {C : ow_C} {E : ow_E} {d : Nat} {M : ow_M} {K : Int → ow_M → Prop} {l0 l1 l2 : Int} (h : ow_O E M l0 10 ∧ ow_O E M l0 10 ∧ ow_I (l1 * (ow_gv E M l0 1)) ∧ ow_I ((l1 * (ow_gv E M l0 1)) + l2) ∧ ow_R E M (ow_gv E M l0 4) 100 ((l1 * (ow_gv E M l0 1)) + l2) ∧ K (ow_gv E M (ow_gv E M l0 4) ((l1 * (ow_gv E M l0 1)) + l2)) M) : ow_Sp C E d mX10_letter (0, 0) [(3, l0), (0, l1), (0, l2)] M K := ow_enter (by decide +kernel) rfl rfl (bX10_letter_0 h)
set_option maxRecDepth 20000 in
theorem bX10_cleared_0 {C : ow_C} {E : ow_E} {d : Nat} {M : ow_M} {K : Int → ow_M → Prop} {l0 l1 l2 : Int} (h : ow_O E M l0 10 ∧ ow_O E M l0 10 ∧ ow_I (l1 * (ow_gv E M l0 1)) ∧ ow_I ((l1 * (ow_gv E M l0 1)) + l2) ∧ ow_R E M (ow_gv E M l0 4) 100 ((l1 * (ow_gv E M l0 1)) + l2) ∧ ow_O E M l0 10 ∧ ow_R E M (ow_gv E M l0 3) 100 l2 ∧ ow_I ((ow_gv E M (ow_gv E M l0 4) ((l1 * (ow_gv E M l0 1)) + l2)) * (ow_gv E M (ow_gv E M l0 3) l2)) ∧ ow_I (l1 - ((ow_gv E M (ow_gv E M l0 4) ((l1 * (ow_gv E M l0 1)) + l2)) * (ow_gv E M (ow_gv E M l0 3) l2))) ∧ K (l1 - ((ow_gv E M (ow_gv E M l0 4) ((l1 * (ow_gv E M l0 1)) + l2)) * (ow_gv E M (ow_gv E M l0 3) l2))) M) : ow_At C E d mX10_cleared 0 [(0, (3, l0)), (1, (0, l1)), (2, (0, l2))] [] (0, 0) M K := by
  refine ow_iload_n (pc' := 1) (x := l1) dX10_cleared_0 rfl rfl ?_
  refine ow_aload_n (pc' := 2) (x := l0) dX10_cleared_1 rfl rfl ?_
  obtain ⟨w, h⟩ := h
  refine ow_getf2 (pc' := 5) (t := 3) (ji := 4) dX10_cleared_2 fRX10_38 rfl rfl rfl w ?_
  refine ow_iload_n (pc' := 6) (x := l1) dX10_cleared_5 rfl rfl ?_
  refine ow_aload_n (pc' := 7) (x := l0) dX10_cleared_6 rfl rfl ?_
  obtain ⟨w, h⟩ := h
  refine ow_getf2 (pc' := 10) (t := 0) (ji := 1) dX10_cleared_7 fRX10_25 rfl rfl rfl w ?_
  obtain ⟨w, h⟩ := h
  refine ow_imul (pc' := 11) dX10_cleared_10 w rfl ?_
  refine ow_iload_n (pc' := 12) (x := l2) dX10_cleared_11 rfl rfl ?_
  obtain ⟨w, h⟩ := h
  refine ow_iadd (pc' := 13) dX10_cleared_12 w rfl ?_
  obtain ⟨w, h⟩ := h
  refine ow_iaload (pc' := 14) dX10_cleared_13 rfl w ?_
  refine ow_aload_n (pc' := 15) (x := l0) dX10_cleared_14 rfl rfl ?_
  obtain ⟨w, h⟩ := h
  refine ow_getf2 (pc' := 18) (t := 3) (ji := 3) dX10_cleared_15 fRX10_34 rfl rfl rfl w ?_
  refine ow_iload_n (pc' := 19) (x := l2) dX10_cleared_18 rfl rfl ?_
  obtain ⟨w, h⟩ := h
  refine ow_iaload (pc' := 20) dX10_cleared_19 rfl w ?_
  obtain ⟨w, h⟩ := h
  refine ow_imul (pc' := 21) dX10_cleared_20 w rfl ?_
  obtain ⟨w, h⟩ := h
  refine ow_isub (pc' := 22) dX10_cleared_21 w rfl ?_
  exact ow_iret dX10_cleared_22 rfl rfl h
theorem eX10_cleared {C : ow_C} {E : ow_E} {d : Nat} {M : ow_M} {K : Int → ow_M → Prop} {l0 l1 l2 : Int} (h : ow_O E M l0 10 ∧ ow_O E M l0 10 ∧ ow_I (l1 * (ow_gv E M l0 1)) ∧ ow_I ((l1 * (ow_gv E M l0 1)) + l2) ∧ ow_R E M (ow_gv E M l0 4) 100 ((l1 * (ow_gv E M l0 1)) + l2) ∧ ow_O E M l0 10 ∧ ow_R E M (ow_gv E M l0 3) 100 l2 ∧ ow_I ((ow_gv E M (ow_gv E M l0 4) ((l1 * (ow_gv E M l0 1)) + l2)) * (ow_gv E M (ow_gv E M l0 3) l2)) ∧ ow_I (l1 - ((ow_gv E M (ow_gv E M l0 4) ((l1 * (ow_gv E M l0 1)) + l2)) * (ow_gv E M (ow_gv E M l0 3) l2))) ∧ K (l1 - ((ow_gv E M (ow_gv E M l0 4) ((l1 * (ow_gv E M l0 1)) + l2)) * (ow_gv E M (ow_gv E M l0 3) l2))) M) : ow_Sp C E d mX10_cleared (0, 0) [(3, l0), (0, l1), (0, l2)] M K := ow_enter (by decide +kernel) rfl rfl (bX10_cleared_0 h)
set_option maxRecDepth 20000 in
theorem bX10_changed_0 {C : ow_C} {E : ow_E} {d : Nat} {M : ow_M} {K : Int → ow_M → Prop} {l0 l1 l2 l3 : Int} (h : ow_O E M l0 10 ∧ ow_Sp C E d mX10_cleared (0, 0) [(3, l0), (0, l1), (0, l2)] M (fun r1 N1 => ow_O E N1 l0 10 ∧ ow_R E N1 (ow_gv E N1 l0 3) 100 l2 ∧ ow_I (l3 * (ow_gv E N1 (ow_gv E N1 l0 3) l2)) ∧ ow_I (r1 + (l3 * (ow_gv E N1 (ow_gv E N1 l0 3) l2))) ∧ K (r1 + (l3 * (ow_gv E N1 (ow_gv E N1 l0 3) l2))) N1)) : ow_At C E (d + 1) mX10_changed 0 [(0, (3, l0)), (1, (0, l1)), (2, (0, l2)), (3, (0, l3))] [] (0, 0) M K := by
  refine ow_aload_n (pc' := 1) (x := l0) dX10_changed_0 rfl rfl ?_
  refine ow_iload_n (pc' := 2) (x := l1) dX10_changed_1 rfl rfl ?_
  refine ow_iload_n (pc' := 3) (x := l2) dX10_changed_2 rfl rfl ?_
  obtain ⟨w, h⟩ := h
  refine ow_callVp (z := mX10_cleared) (n := 2) (k := 10) (vs := [(0, l1), (0, l2)]) (x := l0) (st := []) (pc' := 6) (b1 := (0, 0)) (b2 := (0, 0)) dX10_changed_3 lRX10_41 kX10_cleared iX10_cleared rfl rfl rfl rfl rfl rfl w (ow_Sp.mono h (fun r1 N1 h => ?_))
  refine ow_iload_n (pc' := 7) (x := l3) dX10_changed_6 rfl rfl ?_
  refine ow_aload_n (pc' := 8) (x := l0) dX10_changed_7 rfl rfl ?_
  obtain ⟨w, h⟩ := h
  refine ow_getf2 (pc' := 11) (t := 3) (ji := 3) dX10_changed_8 fRX10_34 rfl rfl rfl w ?_
  refine ow_iload_n (pc' := 12) (x := l2) dX10_changed_11 rfl rfl ?_
  obtain ⟨w, h⟩ := h
  refine ow_iaload (pc' := 13) dX10_changed_12 rfl w ?_
  obtain ⟨w, h⟩ := h
  refine ow_imul (pc' := 14) dX10_changed_13 w rfl ?_
  obtain ⟨w, h⟩ := h
  refine ow_iadd (pc' := 15) dX10_changed_14 w rfl ?_
  exact ow_iret dX10_changed_15 rfl rfl h
theorem eX10_changed {C : ow_C} {E : ow_E} {d : Nat} {M : ow_M} {K : Int → ow_M → Prop} {l0 l1 l2 l3 : Int} (h : ow_O E M l0 10 ∧ ow_Sp C E d mX10_cleared (0, 0) [(3, l0), (0, l1), (0, l2)] M (fun r1 N1 => ow_O E N1 l0 10 ∧ ow_R E N1 (ow_gv E N1 l0 3) 100 l2 ∧ ow_I (l3 * (ow_gv E N1 (ow_gv E N1 l0 3) l2)) ∧ ow_I (r1 + (l3 * (ow_gv E N1 (ow_gv E N1 l0 3) l2))) ∧ K (r1 + (l3 * (ow_gv E N1 (ow_gv E N1 l0 3) l2))) N1)) : ow_Sp C E (d + 1) mX10_changed (0, 0) [(3, l0), (0, l1), (0, l2), (0, l3)] M K := ow_enter (by decide +kernel) rfl rfl (bX10_changed_0 h)
set_option maxRecDepth 20000 in
theorem bX10_unlike_0 {C : ow_C} {E : ow_E} {d : Nat} {M : ow_M} {K : Int → ow_M → Prop} {l0 l1 l2 : Int} (h : ow_At C E (d + 1) mX10_unlike 5 [(0, (3, l0)), (1, (0, l1)), (2, (0, l2)), (3, (0, 0)), (4, (0, 0))] [] (0, 0) M K) : ow_At C E (d + 1) mX10_unlike 0 [(0, (3, l0)), (1, (0, l1)), (2, (0, l2))] [] (0, 0) M K := by
  refine ow_iconst (pc' := 1) (n := 0) dX10_unlike_0 rfl rfl ?_
  refine ow_istore_n (pc' := 2) (lv' := [(0, (3, l0)), (1, (0, l1)), (2, (0, l2)), (3, (0, 0))]) dX10_unlike_1 rfl rfl rfl ?_
  refine ow_iconst (pc' := 3) (n := 0) dX10_unlike_2 rfl rfl ?_
  refine ow_istore (pc' := 5) (lv' := [(0, (3, l0)), (1, (0, l1)), (2, (0, l2)), (3, (0, 0)), (4, (0, 0))]) dX10_unlike_3 rfl rfl rfl ?_
  exact h
set_option maxRecDepth 20000 in
theorem bX10_unlike_5 {C : ow_C} {E : ow_E} {d : Nat} {M : ow_M} {K : Int → ow_M → Prop} {l0 l1 l2 l3 l4 : Int} (h : ow_O E M l0 10 ∧ ((ow_gv E M l0 1) ≤ l4 → K l3 M) ∧ (l4 < (ow_gv E M l0 1) → ow_O E M l0 10 ∧ ow_Sp C E d mX10_letter (0, 0) [(3, l0), (0, l1), (0, l4)] M (fun r1 N1 => ow_O E N1 l0 10 ∧ ow_Sp C E d mX10_letter (0, 0) [(3, l0), (0, l2), (0, l4)] N1 (fun r2 N2 => (r1 = r2 → ow_I (l4 + 1) ∧ ow_At C E (d + 1) mX10_unlike 5 [(0, (3, l0)), (1, (0, l1)), (2, (0, l2)), (3, (0, l3)), (4, (0, l4 + 1))] [] (0, 0) N2 K) ∧ (r1 ≠ r2 → ow_I (l3 + 1) ∧ ow_I (l4 + 1) ∧ ow_At C E (d + 1) mX10_unlike 5 [(0, (3, l0)), (1, (0, l1)), (2, (0, l2)), (3, (0, l3 + 1)), (4, (0, l4 + 1))] [] (0, 0) N2 K))))) : ow_At C E (d + 1) mX10_unlike 5 [(0, (3, l0)), (1, (0, l1)), (2, (0, l2)), (3, (0, l3)), (4, (0, l4))] [] (0, 0) M K := by
  refine ow_iload (pc' := 7) (x := l4) dX10_unlike_5 rfl rfl ?_
  refine ow_aload_n (pc' := 8) (x := l0) dX10_unlike_7 rfl rfl ?_
  obtain ⟨w, h⟩ := h
  refine ow_getf2 (pc' := 11) (t := 0) (ji := 1) dX10_unlike_8 fRX10_25 rfl rfl rfl w ?_
  refine ow_icmpge (pc' := 14) (tg := 40) dX10_unlike_11 rfl rfl (fun hc => ?_) (fun hc => ?_)
  · have h := h.1 hc
    refine ow_iload_n (pc' := 41) (x := l3) dX10_unlike_40 rfl rfl ?_
    exact ow_iret dX10_unlike_41 rfl rfl h
  · have h := h.2 hc
    refine ow_aload_n (pc' := 15) (x := l0) dX10_unlike_14 rfl rfl ?_
    refine ow_iload_n (pc' := 16) (x := l1) dX10_unlike_15 rfl rfl ?_
    refine ow_iload (pc' := 18) (x := l4) dX10_unlike_16 rfl rfl ?_
    obtain ⟨w, h⟩ := h
    refine ow_callVp (z := mX10_letter) (n := 2) (k := 10) (vs := [(0, l1), (0, l4)]) (x := l0) (st := []) (pc' := 21) (b1 := (0, 0)) (b2 := (0, 0)) dX10_unlike_18 lRX10_44 kX10_letter iX10_letter rfl rfl rfl rfl rfl rfl w (ow_Sp.mono h (fun r1 N1 h => ?_))
    refine ow_aload_n (pc' := 22) (x := l0) dX10_unlike_21 rfl rfl ?_
    refine ow_iload_n (pc' := 23) (x := l2) dX10_unlike_22 rfl rfl ?_
    refine ow_iload (pc' := 25) (x := l4) dX10_unlike_23 rfl rfl ?_
    obtain ⟨w, h⟩ := h
    refine ow_callVp (z := mX10_letter) (n := 2) (k := 10) (vs := [(0, l2), (0, l4)]) (x := l0) (st := [(0, r1)]) (pc' := 28) (b1 := (0, 0)) (b2 := (0, 0)) dX10_unlike_25 lRX10_44 kX10_letter iX10_letter rfl rfl rfl rfl rfl rfl w (ow_Sp.mono h (fun r2 N2 h => ?_))
    refine ow_icmpeq (pc' := 31) (tg := 34) dX10_unlike_28 rfl rfl (fun hc => ?_) (fun hc => ?_)
    · have h := h.1 hc
      obtain ⟨w, h⟩ := h
      refine ow_iinc (pc' := 37) (lv' := [(0, (3, l0)), (1, (0, l1)), (2, (0, l2)), (3, (0, l3)), (4, (0, l4 + 1))]) dX10_unlike_34 rfl w rfl rfl rfl ?_
      refine ow_goto (tg := 5) dX10_unlike_37 rfl ?_
      exact h
    · have h := h.2 hc
      obtain ⟨w, h⟩ := h
      refine ow_iinc (pc' := 34) (lv' := [(0, (3, l0)), (1, (0, l1)), (2, (0, l2)), (3, (0, l3 + 1)), (4, (0, l4))]) dX10_unlike_31 rfl w rfl rfl rfl ?_
      obtain ⟨w, h⟩ := h
      refine ow_iinc (pc' := 37) (lv' := [(0, (3, l0)), (1, (0, l1)), (2, (0, l2)), (3, (0, l3 + 1)), (4, (0, l4 + 1))]) dX10_unlike_34 rfl w rfl rfl rfl ?_
      refine ow_goto (tg := 5) dX10_unlike_37 rfl ?_
      exact h
theorem eX10_unlike {C : ow_C} {E : ow_E} {d : Nat} {M : ow_M} {K : Int → ow_M → Prop} {l0 l1 l2 : Int} (h : ow_At C E (d + 1) mX10_unlike 5 [(0, (3, l0)), (1, (0, l1)), (2, (0, l2)), (3, (0, 0)), (4, (0, 0))] [] (0, 0) M K) : ow_Sp C E (d + 1) mX10_unlike (0, 0) [(3, l0), (0, l1), (0, l2)] M K := ow_enter (by decide +kernel) rfl rfl (bX10_unlike_0 h)
set_option maxRecDepth 20000 in
theorem bX10_canTurn_0 {C : ow_C} {E : ow_E} {d : Nat} {M : ow_M} {K : Int → ow_M → Prop} {l0 l1 l2 : Int} (h : (l1 ≤ l2 → ow_O E M l0 10 ∧ ((ow_gv E M l0 0) ≠ 2 → (0 < l1 → K 1 M) ∧ (l1 ≤ 0 → (l2 = 1 → K 0 M) ∧ (l2 ≠ 1 → K 1 M))) ∧ ((ow_gv E M l0 0) = 2 → ow_I (l2 - l1) ∧ (2 : Int) ≠ 0 ∧ ow_I (Int.tdiv (l2 - l1) 2) ∧ ow_I (Int.tmod (l2 - l1) 2) ∧ ((Int.tmod (l2 - l1) 2) ≠ 0 → K 0 M) ∧ ((Int.tmod (l2 - l1) 2) = 0 → K 1 M))) ∧ (l2 < l1 → K 0 M)) : ow_At C E d mX10_canTurn 0 [(0, (3, l0)), (1, (0, l1)), (2, (0, l2))] [] (0, 0) M K := by
  refine ow_iload_n (pc' := 1) (x := l2) dX10_canTurn_0 rfl rfl ?_
  refine ow_iload_n (pc' := 2) (x := l1) dX10_canTurn_1 rfl rfl ?_
  refine ow_icmpge (pc' := 5) (tg := 7) dX10_canTurn_2 rfl rfl (fun hc => ?_) (fun hc => ?_)
  · have h := h.1 hc
    refine ow_aload_n (pc' := 8) (x := l0) dX10_canTurn_7 rfl rfl ?_
    obtain ⟨w, h⟩ := h
    refine ow_getf2 (pc' := 11) (t := 0) (ji := 0) dX10_canTurn_8 fRX10_16 rfl rfl rfl w ?_
    refine ow_iconst (pc' := 12) (n := 2) dX10_canTurn_11 rfl rfl ?_
    refine ow_icmpne (pc' := 15) (tg := 29) dX10_canTurn_12 rfl rfl (fun hc => ?_) (fun hc => ?_)
    · have h := h.1 hc
      refine ow_iload_n (pc' := 30) (x := l1) dX10_canTurn_29 rfl rfl ?_
      refine ow_ifgt (pc' := 33) (tg := 38) dX10_canTurn_30 rfl rfl (fun hc => ?_) (fun hc => ?_)
      · have h := h.1 hc
        refine ow_iconst (pc' := 39) (n := 1) dX10_canTurn_38 rfl rfl ?_
        refine ow_goto (tg := 43) dX10_canTurn_39 rfl ?_
        exact ow_zret dX10_canTurn_43 rfl rfl (Or.inr rfl) h
      · have h := h.2 hc
        refine ow_iload_n (pc' := 34) (x := l2) dX10_canTurn_33 rfl rfl ?_
        refine ow_iconst (pc' := 35) (n := 1) dX10_canTurn_34 rfl rfl ?_
        refine ow_icmpeq (pc' := 38) (tg := 42) dX10_canTurn_35 rfl rfl (fun hc => ?_) (fun hc => ?_)
        · have h := h.1 hc
          refine ow_iconst (pc' := 43) (n := 0) dX10_canTurn_42 rfl rfl ?_
          exact ow_zret dX10_canTurn_43 rfl rfl (Or.inl rfl) h
        · have h := h.2 hc
          refine ow_iconst (pc' := 39) (n := 1) dX10_canTurn_38 rfl rfl ?_
          refine ow_goto (tg := 43) dX10_canTurn_39 rfl ?_
          exact ow_zret dX10_canTurn_43 rfl rfl (Or.inr rfl) h
    · have h := h.2 hc
      refine ow_iload_n (pc' := 16) (x := l2) dX10_canTurn_15 rfl rfl ?_
      refine ow_iload_n (pc' := 17) (x := l1) dX10_canTurn_16 rfl rfl ?_
      obtain ⟨w, h⟩ := h
      refine ow_isub (pc' := 18) dX10_canTurn_17 w rfl ?_
      refine ow_iconst (pc' := 19) (n := 2) dX10_canTurn_18 rfl rfl ?_
      obtain ⟨w0, w, w1, h⟩ := h
      refine ow_irem (pc' := 20) dX10_canTurn_19 w0 w w1 rfl ?_
      refine ow_ifne (pc' := 23) (tg := 27) dX10_canTurn_20 rfl rfl (fun hc => ?_) (fun hc => ?_)
      · have h := h.1 hc
        refine ow_iconst (pc' := 28) (n := 0) dX10_canTurn_27 rfl rfl ?_
        exact ow_zret dX10_canTurn_28 rfl rfl (Or.inl rfl) h
      · have h := h.2 hc
        refine ow_iconst (pc' := 24) (n := 1) dX10_canTurn_23 rfl rfl ?_
        refine ow_goto (tg := 28) dX10_canTurn_24 rfl ?_
        exact ow_zret dX10_canTurn_28 rfl rfl (Or.inr rfl) h
  · have h := h.2 hc
    refine ow_iconst (pc' := 6) (n := 0) dX10_canTurn_5 rfl rfl ?_
    exact ow_zret dX10_canTurn_6 rfl rfl (Or.inl rfl) h
theorem eX10_canTurn {C : ow_C} {E : ow_E} {d : Nat} {M : ow_M} {K : Int → ow_M → Prop} {l0 l1 l2 : Int} (h : (l1 ≤ l2 → ow_O E M l0 10 ∧ ((ow_gv E M l0 0) ≠ 2 → (0 < l1 → K 1 M) ∧ (l1 ≤ 0 → (l2 = 1 → K 0 M) ∧ (l2 ≠ 1 → K 1 M))) ∧ ((ow_gv E M l0 0) = 2 → ow_I (l2 - l1) ∧ (2 : Int) ≠ 0 ∧ ow_I (Int.tdiv (l2 - l1) 2) ∧ ow_I (Int.tmod (l2 - l1) 2) ∧ ((Int.tmod (l2 - l1) 2) ≠ 0 → K 0 M) ∧ ((Int.tmod (l2 - l1) 2) = 0 → K 1 M))) ∧ (l2 < l1 → K 0 M)) : ow_Sp C E d mX10_canTurn (0, 0) [(3, l0), (0, l1), (0, l2)] M K := ow_enter (by decide +kernel) rfl rfl (bX10_canTurn_0 h)
set_option maxRecDepth 20000 in
theorem bJ6_bitCount_0f7a4_0 {C : ow_C} {E : ow_E} {d : Nat} {M : ow_M} {K : Int → ow_M → Prop} {l0 : Int} (h : ow_I (l0 - (ow_and (ow_ushr l0 1) 1431655765)) ∧ ow_I ((ow_and (l0 - (ow_and (ow_ushr l0 1) 1431655765)) 858993459) + (ow_and (ow_ushr (l0 - (ow_and (ow_ushr l0 1) 1431655765)) 2) 858993459)) ∧ ow_I (((ow_and (l0 - (ow_and (ow_ushr l0 1) 1431655765)) 858993459) + (ow_and (ow_ushr (l0 - (ow_and (ow_ushr l0 1) 1431655765)) 2) 858993459)) + (ow_ushr ((ow_and (l0 - (ow_and (ow_ushr l0 1) 1431655765)) 858993459) + (ow_and (ow_ushr (l0 - (ow_and (ow_ushr l0 1) 1431655765)) 2) 858993459)) 4)) ∧ ow_I ((ow_and (((ow_and (l0 - (ow_and (ow_ushr l0 1) 1431655765)) 858993459) + (ow_and (ow_ushr (l0 - (ow_and (ow_ushr l0 1) 1431655765)) 2) 858993459)) + (ow_ushr ((ow_and (l0 - (ow_and (ow_ushr l0 1) 1431655765)) 858993459) + (ow_and (ow_ushr (l0 - (ow_and (ow_ushr l0 1) 1431655765)) 2) 858993459)) 4)) 252645135) + (ow_ushr (ow_and (((ow_and (l0 - (ow_and (ow_ushr l0 1) 1431655765)) 858993459) + (ow_and (ow_ushr (l0 - (ow_and (ow_ushr l0 1) 1431655765)) 2) 858993459)) + (ow_ushr ((ow_and (l0 - (ow_and (ow_ushr l0 1) 1431655765)) 858993459) + (ow_and (ow_ushr (l0 - (ow_and (ow_ushr l0 1) 1431655765)) 2) 858993459)) 4)) 252645135) 8)) ∧ ow_I (((ow_and (((ow_and (l0 - (ow_and (ow_ushr l0 1) 1431655765)) 858993459) + (ow_and (ow_ushr (l0 - (ow_and (ow_ushr l0 1) 1431655765)) 2) 858993459)) + (ow_ushr ((ow_and (l0 - (ow_and (ow_ushr l0 1) 1431655765)) 858993459) + (ow_and (ow_ushr (l0 - (ow_and (ow_ushr l0 1) 1431655765)) 2) 858993459)) 4)) 252645135) + (ow_ushr (ow_and (((ow_and (l0 - (ow_and (ow_ushr l0 1) 1431655765)) 858993459) + (ow_and (ow_ushr (l0 - (ow_and (ow_ushr l0 1) 1431655765)) 2) 858993459)) + (ow_ushr ((ow_and (l0 - (ow_and (ow_ushr l0 1) 1431655765)) 858993459) + (ow_and (ow_ushr (l0 - (ow_and (ow_ushr l0 1) 1431655765)) 2) 858993459)) 4)) 252645135) 8)) + (ow_ushr ((ow_and (((ow_and (l0 - (ow_and (ow_ushr l0 1) 1431655765)) 858993459) + (ow_and (ow_ushr (l0 - (ow_and (ow_ushr l0 1) 1431655765)) 2) 858993459)) + (ow_ushr ((ow_and (l0 - (ow_and (ow_ushr l0 1) 1431655765)) 858993459) + (ow_and (ow_ushr (l0 - (ow_and (ow_ushr l0 1) 1431655765)) 2) 858993459)) 4)) 252645135) + (ow_ushr (ow_and (((ow_and (l0 - (ow_and (ow_ushr l0 1) 1431655765)) 858993459) + (ow_and (ow_ushr (l0 - (ow_and (ow_ushr l0 1) 1431655765)) 2) 858993459)) + (ow_ushr ((ow_and (l0 - (ow_and (ow_ushr l0 1) 1431655765)) 858993459) + (ow_and (ow_ushr (l0 - (ow_and (ow_ushr l0 1) 1431655765)) 2) 858993459)) 4)) 252645135) 8)) 16)) ∧ K (ow_and (((ow_and (((ow_and (l0 - (ow_and (ow_ushr l0 1) 1431655765)) 858993459) + (ow_and (ow_ushr (l0 - (ow_and (ow_ushr l0 1) 1431655765)) 2) 858993459)) + (ow_ushr ((ow_and (l0 - (ow_and (ow_ushr l0 1) 1431655765)) 858993459) + (ow_and (ow_ushr (l0 - (ow_and (ow_ushr l0 1) 1431655765)) 2) 858993459)) 4)) 252645135) + (ow_ushr (ow_and (((ow_and (l0 - (ow_and (ow_ushr l0 1) 1431655765)) 858993459) + (ow_and (ow_ushr (l0 - (ow_and (ow_ushr l0 1) 1431655765)) 2) 858993459)) + (ow_ushr ((ow_and (l0 - (ow_and (ow_ushr l0 1) 1431655765)) 858993459) + (ow_and (ow_ushr (l0 - (ow_and (ow_ushr l0 1) 1431655765)) 2) 858993459)) 4)) 252645135) 8)) + (ow_ushr ((ow_and (((ow_and (l0 - (ow_and (ow_ushr l0 1) 1431655765)) 858993459) + (ow_and (ow_ushr (l0 - (ow_and (ow_ushr l0 1) 1431655765)) 2) 858993459)) + (ow_ushr ((ow_and (l0 - (ow_and (ow_ushr l0 1) 1431655765)) 858993459) + (ow_and (ow_ushr (l0 - (ow_and (ow_ushr l0 1) 1431655765)) 2) 858993459)) 4)) 252645135) + (ow_ushr (ow_and (((ow_and (l0 - (ow_and (ow_ushr l0 1) 1431655765)) 858993459) + (ow_and (ow_ushr (l0 - (ow_and (ow_ushr l0 1) 1431655765)) 2) 858993459)) + (ow_ushr ((ow_and (l0 - (ow_and (ow_ushr l0 1) 1431655765)) 858993459) + (ow_and (ow_ushr (l0 - (ow_and (ow_ushr l0 1) 1431655765)) 2) 858993459)) 4)) 252645135) 8)) 16)) 63) M) : ow_At C E d mJ6_bitCount_0f7a4 0 [(0, (0, l0))] [] (0, 0) M K := by
  refine ow_iload_n (pc' := 1) (x := l0) dJ6_bitCount_0f7a4_0 rfl rfl ?_
  refine ow_iload_n (pc' := 2) (x := l0) dJ6_bitCount_0f7a4_1 rfl rfl ?_
  refine ow_iconst (pc' := 3) (n := 1) dJ6_bitCount_0f7a4_2 rfl rfl ?_
  refine ow_iushr (pc' := 4) dJ6_bitCount_0f7a4_3 rfl ?_
  refine ow_ldcw (pc' := 7) (n := 1431655765) dJ6_bitCount_0f7a4_4 cRJ6_265 rfl rfl ?_
  refine ow_iand (pc' := 8) dJ6_bitCount_0f7a4_7 rfl ?_
  obtain ⟨w, h⟩ := h
  refine ow_isub (pc' := 9) dJ6_bitCount_0f7a4_8 w rfl ?_
  refine ow_istore_n (pc' := 10) (lv' := [(0, (0, l0 - (ow_and (ow_ushr l0 1) 1431655765)))]) dJ6_bitCount_0f7a4_9 rfl rfl rfl ?_
  refine ow_iload_n (pc' := 11) (x := l0 - (ow_and (ow_ushr l0 1) 1431655765)) dJ6_bitCount_0f7a4_10 rfl rfl ?_
  refine ow_ldcw (pc' := 14) (n := 858993459) dJ6_bitCount_0f7a4_11 cRJ6_266 rfl rfl ?_
  refine ow_iand (pc' := 15) dJ6_bitCount_0f7a4_14 rfl ?_
  refine ow_iload_n (pc' := 16) (x := l0 - (ow_and (ow_ushr l0 1) 1431655765)) dJ6_bitCount_0f7a4_15 rfl rfl ?_
  refine ow_iconst (pc' := 17) (n := 2) dJ6_bitCount_0f7a4_16 rfl rfl ?_
  refine ow_iushr (pc' := 18) dJ6_bitCount_0f7a4_17 rfl ?_
  refine ow_ldcw (pc' := 21) (n := 858993459) dJ6_bitCount_0f7a4_18 cRJ6_266 rfl rfl ?_
  refine ow_iand (pc' := 22) dJ6_bitCount_0f7a4_21 rfl ?_
  obtain ⟨w, h⟩ := h
  refine ow_iadd (pc' := 23) dJ6_bitCount_0f7a4_22 w rfl ?_
  refine ow_istore_n (pc' := 24) (lv' := [(0, (0, (ow_and (l0 - (ow_and (ow_ushr l0 1) 1431655765)) 858993459) + (ow_and (ow_ushr (l0 - (ow_and (ow_ushr l0 1) 1431655765)) 2) 858993459)))]) dJ6_bitCount_0f7a4_23 rfl rfl rfl ?_
  refine ow_iload_n (pc' := 25) (x := (ow_and (l0 - (ow_and (ow_ushr l0 1) 1431655765)) 858993459) + (ow_and (ow_ushr (l0 - (ow_and (ow_ushr l0 1) 1431655765)) 2) 858993459)) dJ6_bitCount_0f7a4_24 rfl rfl ?_
  refine ow_iload_n (pc' := 26) (x := (ow_and (l0 - (ow_and (ow_ushr l0 1) 1431655765)) 858993459) + (ow_and (ow_ushr (l0 - (ow_and (ow_ushr l0 1) 1431655765)) 2) 858993459)) dJ6_bitCount_0f7a4_25 rfl rfl ?_
  refine ow_iconst (pc' := 27) (n := 4) dJ6_bitCount_0f7a4_26 rfl rfl ?_
  refine ow_iushr (pc' := 28) dJ6_bitCount_0f7a4_27 rfl ?_
  obtain ⟨w, h⟩ := h
  refine ow_iadd (pc' := 29) dJ6_bitCount_0f7a4_28 w rfl ?_
  refine ow_ldcw (pc' := 32) (n := 252645135) dJ6_bitCount_0f7a4_29 cRJ6_267 rfl rfl ?_
  refine ow_iand (pc' := 33) dJ6_bitCount_0f7a4_32 rfl ?_
  refine ow_istore_n (pc' := 34) (lv' := [(0, (0, ow_and (((ow_and (l0 - (ow_and (ow_ushr l0 1) 1431655765)) 858993459) + (ow_and (ow_ushr (l0 - (ow_and (ow_ushr l0 1) 1431655765)) 2) 858993459)) + (ow_ushr ((ow_and (l0 - (ow_and (ow_ushr l0 1) 1431655765)) 858993459) + (ow_and (ow_ushr (l0 - (ow_and (ow_ushr l0 1) 1431655765)) 2) 858993459)) 4)) 252645135))]) dJ6_bitCount_0f7a4_33 rfl rfl rfl ?_
  refine ow_iload_n (pc' := 35) (x := ow_and (((ow_and (l0 - (ow_and (ow_ushr l0 1) 1431655765)) 858993459) + (ow_and (ow_ushr (l0 - (ow_and (ow_ushr l0 1) 1431655765)) 2) 858993459)) + (ow_ushr ((ow_and (l0 - (ow_and (ow_ushr l0 1) 1431655765)) 858993459) + (ow_and (ow_ushr (l0 - (ow_and (ow_ushr l0 1) 1431655765)) 2) 858993459)) 4)) 252645135) dJ6_bitCount_0f7a4_34 rfl rfl ?_
  refine ow_iload_n (pc' := 36) (x := ow_and (((ow_and (l0 - (ow_and (ow_ushr l0 1) 1431655765)) 858993459) + (ow_and (ow_ushr (l0 - (ow_and (ow_ushr l0 1) 1431655765)) 2) 858993459)) + (ow_ushr ((ow_and (l0 - (ow_and (ow_ushr l0 1) 1431655765)) 858993459) + (ow_and (ow_ushr (l0 - (ow_and (ow_ushr l0 1) 1431655765)) 2) 858993459)) 4)) 252645135) dJ6_bitCount_0f7a4_35 rfl rfl ?_
  refine ow_bipush (pc' := 38) (n := 8) dJ6_bitCount_0f7a4_36 rfl rfl ?_
  refine ow_iushr (pc' := 39) dJ6_bitCount_0f7a4_38 rfl ?_
  obtain ⟨w, h⟩ := h
  refine ow_iadd (pc' := 40) dJ6_bitCount_0f7a4_39 w rfl ?_
  refine ow_istore_n (pc' := 41) (lv' := [(0, (0, (ow_and (((ow_and (l0 - (ow_and (ow_ushr l0 1) 1431655765)) 858993459) + (ow_and (ow_ushr (l0 - (ow_and (ow_ushr l0 1) 1431655765)) 2) 858993459)) + (ow_ushr ((ow_and (l0 - (ow_and (ow_ushr l0 1) 1431655765)) 858993459) + (ow_and (ow_ushr (l0 - (ow_and (ow_ushr l0 1) 1431655765)) 2) 858993459)) 4)) 252645135) + (ow_ushr (ow_and (((ow_and (l0 - (ow_and (ow_ushr l0 1) 1431655765)) 858993459) + (ow_and (ow_ushr (l0 - (ow_and (ow_ushr l0 1) 1431655765)) 2) 858993459)) + (ow_ushr ((ow_and (l0 - (ow_and (ow_ushr l0 1) 1431655765)) 858993459) + (ow_and (ow_ushr (l0 - (ow_and (ow_ushr l0 1) 1431655765)) 2) 858993459)) 4)) 252645135) 8)))]) dJ6_bitCount_0f7a4_40 rfl rfl rfl ?_
  refine ow_iload_n (pc' := 42) (x := (ow_and (((ow_and (l0 - (ow_and (ow_ushr l0 1) 1431655765)) 858993459) + (ow_and (ow_ushr (l0 - (ow_and (ow_ushr l0 1) 1431655765)) 2) 858993459)) + (ow_ushr ((ow_and (l0 - (ow_and (ow_ushr l0 1) 1431655765)) 858993459) + (ow_and (ow_ushr (l0 - (ow_and (ow_ushr l0 1) 1431655765)) 2) 858993459)) 4)) 252645135) + (ow_ushr (ow_and (((ow_and (l0 - (ow_and (ow_ushr l0 1) 1431655765)) 858993459) + (ow_and (ow_ushr (l0 - (ow_and (ow_ushr l0 1) 1431655765)) 2) 858993459)) + (ow_ushr ((ow_and (l0 - (ow_and (ow_ushr l0 1) 1431655765)) 858993459) + (ow_and (ow_ushr (l0 - (ow_and (ow_ushr l0 1) 1431655765)) 2) 858993459)) 4)) 252645135) 8)) dJ6_bitCount_0f7a4_41 rfl rfl ?_
  refine ow_iload_n (pc' := 43) (x := (ow_and (((ow_and (l0 - (ow_and (ow_ushr l0 1) 1431655765)) 858993459) + (ow_and (ow_ushr (l0 - (ow_and (ow_ushr l0 1) 1431655765)) 2) 858993459)) + (ow_ushr ((ow_and (l0 - (ow_and (ow_ushr l0 1) 1431655765)) 858993459) + (ow_and (ow_ushr (l0 - (ow_and (ow_ushr l0 1) 1431655765)) 2) 858993459)) 4)) 252645135) + (ow_ushr (ow_and (((ow_and (l0 - (ow_and (ow_ushr l0 1) 1431655765)) 858993459) + (ow_and (ow_ushr (l0 - (ow_and (ow_ushr l0 1) 1431655765)) 2) 858993459)) + (ow_ushr ((ow_and (l0 - (ow_and (ow_ushr l0 1) 1431655765)) 858993459) + (ow_and (ow_ushr (l0 - (ow_and (ow_ushr l0 1) 1431655765)) 2) 858993459)) 4)) 252645135) 8)) dJ6_bitCount_0f7a4_42 rfl rfl ?_
  refine ow_bipush (pc' := 45) (n := 16) dJ6_bitCount_0f7a4_43 rfl rfl ?_
  refine ow_iushr (pc' := 46) dJ6_bitCount_0f7a4_45 rfl ?_
  obtain ⟨w, h⟩ := h
  refine ow_iadd (pc' := 47) dJ6_bitCount_0f7a4_46 w rfl ?_
  refine ow_istore_n (pc' := 48) (lv' := [(0, (0, ((ow_and (((ow_and (l0 - (ow_and (ow_ushr l0 1) 1431655765)) 858993459) + (ow_and (ow_ushr (l0 - (ow_and (ow_ushr l0 1) 1431655765)) 2) 858993459)) + (ow_ushr ((ow_and (l0 - (ow_and (ow_ushr l0 1) 1431655765)) 858993459) + (ow_and (ow_ushr (l0 - (ow_and (ow_ushr l0 1) 1431655765)) 2) 858993459)) 4)) 252645135) + (ow_ushr (ow_and (((ow_and (l0 - (ow_and (ow_ushr l0 1) 1431655765)) 858993459) + (ow_and (ow_ushr (l0 - (ow_and (ow_ushr l0 1) 1431655765)) 2) 858993459)) + (ow_ushr ((ow_and (l0 - (ow_and (ow_ushr l0 1) 1431655765)) 858993459) + (ow_and (ow_ushr (l0 - (ow_and (ow_ushr l0 1) 1431655765)) 2) 858993459)) 4)) 252645135) 8)) + (ow_ushr ((ow_and (((ow_and (l0 - (ow_and (ow_ushr l0 1) 1431655765)) 858993459) + (ow_and (ow_ushr (l0 - (ow_and (ow_ushr l0 1) 1431655765)) 2) 858993459)) + (ow_ushr ((ow_and (l0 - (ow_and (ow_ushr l0 1) 1431655765)) 858993459) + (ow_and (ow_ushr (l0 - (ow_and (ow_ushr l0 1) 1431655765)) 2) 858993459)) 4)) 252645135) + (ow_ushr (ow_and (((ow_and (l0 - (ow_and (ow_ushr l0 1) 1431655765)) 858993459) + (ow_and (ow_ushr (l0 - (ow_and (ow_ushr l0 1) 1431655765)) 2) 858993459)) + (ow_ushr ((ow_and (l0 - (ow_and (ow_ushr l0 1) 1431655765)) 858993459) + (ow_and (ow_ushr (l0 - (ow_and (ow_ushr l0 1) 1431655765)) 2) 858993459)) 4)) 252645135) 8)) 16)))]) dJ6_bitCount_0f7a4_47 rfl rfl rfl ?_
  refine ow_iload_n (pc' := 49) (x := ((ow_and (((ow_and (l0 - (ow_and (ow_ushr l0 1) 1431655765)) 858993459) + (ow_and (ow_ushr (l0 - (ow_and (ow_ushr l0 1) 1431655765)) 2) 858993459)) + (ow_ushr ((ow_and (l0 - (ow_and (ow_ushr l0 1) 1431655765)) 858993459) + (ow_and (ow_ushr (l0 - (ow_and (ow_ushr l0 1) 1431655765)) 2) 858993459)) 4)) 252645135) + (ow_ushr (ow_and (((ow_and (l0 - (ow_and (ow_ushr l0 1) 1431655765)) 858993459) + (ow_and (ow_ushr (l0 - (ow_and (ow_ushr l0 1) 1431655765)) 2) 858993459)) + (ow_ushr ((ow_and (l0 - (ow_and (ow_ushr l0 1) 1431655765)) 858993459) + (ow_and (ow_ushr (l0 - (ow_and (ow_ushr l0 1) 1431655765)) 2) 858993459)) 4)) 252645135) 8)) + (ow_ushr ((ow_and (((ow_and (l0 - (ow_and (ow_ushr l0 1) 1431655765)) 858993459) + (ow_and (ow_ushr (l0 - (ow_and (ow_ushr l0 1) 1431655765)) 2) 858993459)) + (ow_ushr ((ow_and (l0 - (ow_and (ow_ushr l0 1) 1431655765)) 858993459) + (ow_and (ow_ushr (l0 - (ow_and (ow_ushr l0 1) 1431655765)) 2) 858993459)) 4)) 252645135) + (ow_ushr (ow_and (((ow_and (l0 - (ow_and (ow_ushr l0 1) 1431655765)) 858993459) + (ow_and (ow_ushr (l0 - (ow_and (ow_ushr l0 1) 1431655765)) 2) 858993459)) + (ow_ushr ((ow_and (l0 - (ow_and (ow_ushr l0 1) 1431655765)) 858993459) + (ow_and (ow_ushr (l0 - (ow_and (ow_ushr l0 1) 1431655765)) 2) 858993459)) 4)) 252645135) 8)) 16)) dJ6_bitCount_0f7a4_48 rfl rfl ?_
  refine ow_bipush (pc' := 51) (n := 63) dJ6_bitCount_0f7a4_49 rfl rfl ?_
  refine ow_iand (pc' := 52) dJ6_bitCount_0f7a4_51 rfl ?_
  exact ow_iret dJ6_bitCount_0f7a4_52 rfl rfl h
theorem eJ6_bitCount_0f7a4 {C : ow_C} {E : ow_E} {d : Nat} {M : ow_M} {K : Int → ow_M → Prop} {l0 : Int} (h : ow_I (l0 - (ow_and (ow_ushr l0 1) 1431655765)) ∧ ow_I ((ow_and (l0 - (ow_and (ow_ushr l0 1) 1431655765)) 858993459) + (ow_and (ow_ushr (l0 - (ow_and (ow_ushr l0 1) 1431655765)) 2) 858993459)) ∧ ow_I (((ow_and (l0 - (ow_and (ow_ushr l0 1) 1431655765)) 858993459) + (ow_and (ow_ushr (l0 - (ow_and (ow_ushr l0 1) 1431655765)) 2) 858993459)) + (ow_ushr ((ow_and (l0 - (ow_and (ow_ushr l0 1) 1431655765)) 858993459) + (ow_and (ow_ushr (l0 - (ow_and (ow_ushr l0 1) 1431655765)) 2) 858993459)) 4)) ∧ ow_I ((ow_and (((ow_and (l0 - (ow_and (ow_ushr l0 1) 1431655765)) 858993459) + (ow_and (ow_ushr (l0 - (ow_and (ow_ushr l0 1) 1431655765)) 2) 858993459)) + (ow_ushr ((ow_and (l0 - (ow_and (ow_ushr l0 1) 1431655765)) 858993459) + (ow_and (ow_ushr (l0 - (ow_and (ow_ushr l0 1) 1431655765)) 2) 858993459)) 4)) 252645135) + (ow_ushr (ow_and (((ow_and (l0 - (ow_and (ow_ushr l0 1) 1431655765)) 858993459) + (ow_and (ow_ushr (l0 - (ow_and (ow_ushr l0 1) 1431655765)) 2) 858993459)) + (ow_ushr ((ow_and (l0 - (ow_and (ow_ushr l0 1) 1431655765)) 858993459) + (ow_and (ow_ushr (l0 - (ow_and (ow_ushr l0 1) 1431655765)) 2) 858993459)) 4)) 252645135) 8)) ∧ ow_I (((ow_and (((ow_and (l0 - (ow_and (ow_ushr l0 1) 1431655765)) 858993459) + (ow_and (ow_ushr (l0 - (ow_and (ow_ushr l0 1) 1431655765)) 2) 858993459)) + (ow_ushr ((ow_and (l0 - (ow_and (ow_ushr l0 1) 1431655765)) 858993459) + (ow_and (ow_ushr (l0 - (ow_and (ow_ushr l0 1) 1431655765)) 2) 858993459)) 4)) 252645135) + (ow_ushr (ow_and (((ow_and (l0 - (ow_and (ow_ushr l0 1) 1431655765)) 858993459) + (ow_and (ow_ushr (l0 - (ow_and (ow_ushr l0 1) 1431655765)) 2) 858993459)) + (ow_ushr ((ow_and (l0 - (ow_and (ow_ushr l0 1) 1431655765)) 858993459) + (ow_and (ow_ushr (l0 - (ow_and (ow_ushr l0 1) 1431655765)) 2) 858993459)) 4)) 252645135) 8)) + (ow_ushr ((ow_and (((ow_and (l0 - (ow_and (ow_ushr l0 1) 1431655765)) 858993459) + (ow_and (ow_ushr (l0 - (ow_and (ow_ushr l0 1) 1431655765)) 2) 858993459)) + (ow_ushr ((ow_and (l0 - (ow_and (ow_ushr l0 1) 1431655765)) 858993459) + (ow_and (ow_ushr (l0 - (ow_and (ow_ushr l0 1) 1431655765)) 2) 858993459)) 4)) 252645135) + (ow_ushr (ow_and (((ow_and (l0 - (ow_and (ow_ushr l0 1) 1431655765)) 858993459) + (ow_and (ow_ushr (l0 - (ow_and (ow_ushr l0 1) 1431655765)) 2) 858993459)) + (ow_ushr ((ow_and (l0 - (ow_and (ow_ushr l0 1) 1431655765)) 858993459) + (ow_and (ow_ushr (l0 - (ow_and (ow_ushr l0 1) 1431655765)) 2) 858993459)) 4)) 252645135) 8)) 16)) ∧ K (ow_and (((ow_and (((ow_and (l0 - (ow_and (ow_ushr l0 1) 1431655765)) 858993459) + (ow_and (ow_ushr (l0 - (ow_and (ow_ushr l0 1) 1431655765)) 2) 858993459)) + (ow_ushr ((ow_and (l0 - (ow_and (ow_ushr l0 1) 1431655765)) 858993459) + (ow_and (ow_ushr (l0 - (ow_and (ow_ushr l0 1) 1431655765)) 2) 858993459)) 4)) 252645135) + (ow_ushr (ow_and (((ow_and (l0 - (ow_and (ow_ushr l0 1) 1431655765)) 858993459) + (ow_and (ow_ushr (l0 - (ow_and (ow_ushr l0 1) 1431655765)) 2) 858993459)) + (ow_ushr ((ow_and (l0 - (ow_and (ow_ushr l0 1) 1431655765)) 858993459) + (ow_and (ow_ushr (l0 - (ow_and (ow_ushr l0 1) 1431655765)) 2) 858993459)) 4)) 252645135) 8)) + (ow_ushr ((ow_and (((ow_and (l0 - (ow_and (ow_ushr l0 1) 1431655765)) 858993459) + (ow_and (ow_ushr (l0 - (ow_and (ow_ushr l0 1) 1431655765)) 2) 858993459)) + (ow_ushr ((ow_and (l0 - (ow_and (ow_ushr l0 1) 1431655765)) 858993459) + (ow_and (ow_ushr (l0 - (ow_and (ow_ushr l0 1) 1431655765)) 2) 858993459)) 4)) 252645135) + (ow_ushr (ow_and (((ow_and (l0 - (ow_and (ow_ushr l0 1) 1431655765)) 858993459) + (ow_and (ow_ushr (l0 - (ow_and (ow_ushr l0 1) 1431655765)) 2) 858993459)) + (ow_ushr ((ow_and (l0 - (ow_and (ow_ushr l0 1) 1431655765)) 858993459) + (ow_and (ow_ushr (l0 - (ow_and (ow_ushr l0 1) 1431655765)) 2) 858993459)) 4)) 252645135) 8)) 16)) 63) M) : ow_Sp C E d mJ6_bitCount_0f7a4 (0, 0) [(0, l0)] M K := ow_enter (by decide +kernel) rfl rfl (bJ6_bitCount_0f7a4_0 h)
set_option maxRecDepth 20000 in
theorem bJ7_fill_d0a16_0 {C : ow_C} {E : ow_E} {d : Nat} {M : ow_M} {K : Int → ow_M → Prop} {l0 l1 : Int} (h : (0 ≤ l0 ∧ l0 < ow_nb E M ∧ (E.2.1 l0).1 = 101 ∧ 0 ≤ (E.2.1 l0).2 ∧ (E.2.1 l0).2 ≤ 2147483647) ∧ ow_At C E d mJ7_fill_d0a16 6 [(0, (3, l0)), (1, (1, l1)), (3, (0, 0)), (4, (0, (E.2.1 l0).2))] [] (0, 0) M K) : ow_At C E d mJ7_fill_d0a16 0 [(0, (3, l0)), (1, (1, l1))] [] (0, 0) M K := by
  refine ow_iconst (pc' := 1) (n := 0) dJ7_fill_d0a16_0 rfl rfl ?_
  refine ow_istore_n (pc' := 2) (lv' := [(0, (3, l0)), (1, (1, l1)), (3, (0, 0))]) dJ7_fill_d0a16_1 rfl rfl rfl ?_
  refine ow_aload_n (pc' := 3) (x := l0) dJ7_fill_d0a16_2 rfl rfl ?_
  obtain ⟨⟨w, w1, w2, w3, w4⟩, h⟩ := h
  refine ow_alen (pc' := 4) (t := 101) dJ7_fill_d0a16_3 rfl rfl w w1 w2 w3 w4 ?_
  refine ow_istore (pc' := 6) (lv' := [(0, (3, l0)), (1, (1, l1)), (3, (0, 0)), (4, (0, (E.2.1 l0).2))]) dJ7_fill_d0a16_4 rfl rfl rfl ?_
  exact h
set_option maxRecDepth 20000 in
theorem bJ7_fill_d0a16_6 {C : ow_C} {E : ow_E} {d : Nat} {M : ow_M} {K : Int → ow_M → Prop} {l0 l1 l3 l4 : Int} (h : (l4 ≤ l3 → K 0 M) ∧ (l3 < l4 → ow_R E M l0 101 l3 ∧ E.1 l0 l3 = none ∧ ∀ N1, N1 = ow_up M l0 l3 l1 → ow_I (l3 + 1) ∧ ow_At C E d mJ7_fill_d0a16 6 [(0, (3, l0)), (1, (1, l1)), (3, (0, l3 + 1)), (4, (0, l4))] [] (0, 0) N1 K)) : ow_At C E d mJ7_fill_d0a16 6 [(0, (3, l0)), (1, (1, l1)), (3, (0, l3)), (4, (0, l4))] [] (0, 0) M K := by
  refine ow_iload_n (pc' := 7) (x := l3) dJ7_fill_d0a16_6 rfl rfl ?_
  refine ow_iload (pc' := 9) (x := l4) dJ7_fill_d0a16_7 rfl rfl ?_
  refine ow_icmpge (pc' := 12) (tg := 22) dJ7_fill_d0a16_9 rfl rfl (fun hc => ?_) (fun hc => ?_)
  · have h := h.1 hc
    exact ow_vret dJ7_fill_d0a16_22 rfl rfl h
  · have h := h.2 hc
    refine ow_aload_n (pc' := 13) (x := l0) dJ7_fill_d0a16_12 rfl rfl ?_
    refine ow_iload_n (pc' := 14) (x := l3) dJ7_fill_d0a16_13 rfl rfl ?_
    refine ow_lload_n (pc' := 15) (x := l1) dJ7_fill_d0a16_14 rfl rfl ?_
    obtain ⟨w, w1, h⟩ := h
    refine ow_lastore2 (pc' := 16) dJ7_fill_d0a16_15 rfl w w1 (fun N1 eN1 => ?_)
    have h := h N1 eN1
    obtain ⟨w, h⟩ := h
    refine ow_iinc (pc' := 19) (lv' := [(0, (3, l0)), (1, (1, l1)), (3, (0, l3 + 1)), (4, (0, l4))]) dJ7_fill_d0a16_16 rfl w rfl rfl rfl ?_
    refine ow_goto (tg := 6) dJ7_fill_d0a16_19 rfl ?_
    exact h
theorem eJ7_fill_d0a16 {C : ow_C} {E : ow_E} {d : Nat} {M : ow_M} {K : Int → ow_M → Prop} {l0 l1 : Int} (h : (0 ≤ l0 ∧ l0 < ow_nb E M ∧ (E.2.1 l0).1 = 101 ∧ 0 ≤ (E.2.1 l0).2 ∧ (E.2.1 l0).2 ≤ 2147483647) ∧ ow_At C E d mJ7_fill_d0a16 6 [(0, (3, l0)), (1, (1, l1)), (3, (0, 0)), (4, (0, (E.2.1 l0).2))] [] (0, 0) M K) : ow_Sp C E d mJ7_fill_d0a16 (0, 0) [(3, l0), (1, l1)] M K := ow_enter (by decide +kernel) rfl rfl (bJ7_fill_d0a16_0 h)
set_option maxRecDepth 20000 in
theorem bJ7_fill_53178_0 {C : ow_C} {E : ow_E} {d : Nat} {M : ow_M} {K : Int → ow_M → Prop} {l0 l1 : Int} (h : (0 ≤ l0 ∧ l0 < ow_nb E M ∧ (E.2.1 l0).1 = 100 ∧ 0 ≤ (E.2.1 l0).2 ∧ (E.2.1 l0).2 ≤ 2147483647) ∧ ow_At C E d mJ7_fill_53178 5 [(0, (3, l0)), (1, (0, l1)), (2, (0, 0)), (3, (0, (E.2.1 l0).2))] [] (0, 0) M K) : ow_At C E d mJ7_fill_53178 0 [(0, (3, l0)), (1, (0, l1))] [] (0, 0) M K := by
  refine ow_iconst (pc' := 1) (n := 0) dJ7_fill_53178_0 rfl rfl ?_
  refine ow_istore_n (pc' := 2) (lv' := [(0, (3, l0)), (1, (0, l1)), (2, (0, 0))]) dJ7_fill_53178_1 rfl rfl rfl ?_
  refine ow_aload_n (pc' := 3) (x := l0) dJ7_fill_53178_2 rfl rfl ?_
  obtain ⟨⟨w, w1, w2, w3, w4⟩, h⟩ := h
  refine ow_alen (pc' := 4) (t := 100) dJ7_fill_53178_3 rfl rfl w w1 w2 w3 w4 ?_
  refine ow_istore_n (pc' := 5) (lv' := [(0, (3, l0)), (1, (0, l1)), (2, (0, 0)), (3, (0, (E.2.1 l0).2))]) dJ7_fill_53178_4 rfl rfl rfl ?_
  exact h
set_option maxRecDepth 20000 in
theorem bJ7_fill_53178_5 {C : ow_C} {E : ow_E} {d : Nat} {M : ow_M} {K : Int → ow_M → Prop} {l0 l1 l2 l3 : Int} (h : (l3 ≤ l2 → K 0 M) ∧ (l2 < l3 → ow_R E M l0 100 l2 ∧ E.1 l0 l2 = none ∧ ∀ N1, N1 = ow_up M l0 l2 l1 → ow_I (l2 + 1) ∧ ow_At C E d mJ7_fill_53178 5 [(0, (3, l0)), (1, (0, l1)), (2, (0, l2 + 1)), (3, (0, l3))] [] (0, 0) N1 K)) : ow_At C E d mJ7_fill_53178 5 [(0, (3, l0)), (1, (0, l1)), (2, (0, l2)), (3, (0, l3))] [] (0, 0) M K := by
  refine ow_iload_n (pc' := 6) (x := l2) dJ7_fill_53178_5 rfl rfl ?_
  refine ow_iload_n (pc' := 7) (x := l3) dJ7_fill_53178_6 rfl rfl ?_
  refine ow_icmpge (pc' := 10) (tg := 20) dJ7_fill_53178_7 rfl rfl (fun hc => ?_) (fun hc => ?_)
  · have h := h.1 hc
    exact ow_vret dJ7_fill_53178_20 rfl rfl h
  · have h := h.2 hc
    refine ow_aload_n (pc' := 11) (x := l0) dJ7_fill_53178_10 rfl rfl ?_
    refine ow_iload_n (pc' := 12) (x := l2) dJ7_fill_53178_11 rfl rfl ?_
    refine ow_iload_n (pc' := 13) (x := l1) dJ7_fill_53178_12 rfl rfl ?_
    obtain ⟨w, w1, h⟩ := h
    refine ow_iastore2 (pc' := 14) dJ7_fill_53178_13 rfl w w1 (fun N1 eN1 => ?_)
    have h := h N1 eN1
    obtain ⟨w, h⟩ := h
    refine ow_iinc (pc' := 17) (lv' := [(0, (3, l0)), (1, (0, l1)), (2, (0, l2 + 1)), (3, (0, l3))]) dJ7_fill_53178_14 rfl w rfl rfl rfl ?_
    refine ow_goto (tg := 5) dJ7_fill_53178_17 rfl ?_
    exact h
theorem eJ7_fill_53178 {C : ow_C} {E : ow_E} {d : Nat} {M : ow_M} {K : Int → ow_M → Prop} {l0 l1 : Int} (h : (0 ≤ l0 ∧ l0 < ow_nb E M ∧ (E.2.1 l0).1 = 100 ∧ 0 ≤ (E.2.1 l0).2 ∧ (E.2.1 l0).2 ≤ 2147483647) ∧ ow_At C E d mJ7_fill_53178 5 [(0, (3, l0)), (1, (0, l1)), (2, (0, 0)), (3, (0, (E.2.1 l0).2))] [] (0, 0) M K) : ow_Sp C E d mJ7_fill_53178 (0, 0) [(3, l0), (0, l1)] M K := ow_enter (by decide +kernel) rfl rfl (bJ7_fill_53178_0 h)
