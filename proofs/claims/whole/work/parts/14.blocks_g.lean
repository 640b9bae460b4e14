set_option maxRecDepth 20000 in
theorem bL_cell_0 {C : ow_C} {E : ow_E} {d : Nat} {M : ow_M} {K : Int → ow_M → Prop} {l1 : Int} (h : (C.2.2.2.2.1.2.1 : Int) ≤ 2147483647 ∧ (((C.2.2.2.2.1.2.1 : Int)) ≤ l1 → K 0 M) ∧ (l1 < ((C.2.2.2.2.1.2.1 : Int)) → 0 ≤ l1 ∧ l1 < (C.2.2.2.2.1.2.1 : Int) ∧ K (ow_sc C l1) M)) : ow_At C E d mL_cell 0 [(0, (3, 999)), (1, (0, l1))] [] (0, 0) M K := by
  refine ow_iload_n (pc' := 1) (x := l1) dL_cell_0 rfl rfl ?_
  refine ow_aload_n (pc' := 2) (x := 999) dL_cell_1 rfl rfl ?_
  obtain ⟨w, h⟩ := h
  refine ow_sclen (pc' := 3) dL_cell_2 rfl w ?_
  refine ow_icmpge (pc' := 6) (tg := 12) dL_cell_3 rfl rfl (fun hc => ?_) (fun hc => ?_)
  · have h := h.1 hc
    refine ow_iconst (pc' := 13) (n := 0) dL_cell_12 rfl rfl ?_
    exact ow_iret dL_cell_13 rfl rfl h
  · have h := h.2 hc
    refine ow_aload_n (pc' := 7) (x := 999) dL_cell_6 rfl rfl ?_
    refine ow_iload_n (pc' := 8) (x := l1) dL_cell_7 rfl rfl ?_
    obtain ⟨w, w1, h⟩ := h
    refine ow_scload (pc' := 9) dL_cell_8 rfl w w1 ?_
    refine ow_goto (tg := 13) dL_cell_9 rfl ?_
    exact ow_iret dL_cell_13 rfl rfl h
theorem eL_cell {C : ow_C} {E : ow_E} {d : Nat} {M : ow_M} {K : Int → ow_M → Prop} {l1 : Int} (h : (C.2.2.2.2.1.2.1 : Int) ≤ 2147483647 ∧ (((C.2.2.2.2.1.2.1 : Int)) ≤ l1 → K 0 M) ∧ (l1 < ((C.2.2.2.2.1.2.1 : Int)) → 0 ≤ l1 ∧ l1 < (C.2.2.2.2.1.2.1 : Int) ∧ K (ow_sc C l1) M)) : ow_Sp C E d mL_cell (0, 0) [(3, 999), (0, l1)] M K := ow_enter (by decide +kernel) rfl rfl (bL_cell_0 h)
set_option maxRecDepth 20000 in
theorem bL_law_0 {C : ow_C} {E : ow_E} {d : Nat} {M : ow_M} {K : Int → ow_M → Prop} {bc bs : Nat} (hE : E.2.2 = none) (hF : ∀ c i, E.1 c i = none) (h : E.2.1 (M (-1) 0) = (11, (19 : Int)) ∧ M (-1) 0 < 800 ∧ ∀ q1 N1, q1 = M (-1) 0 → N1 = ow_mk1 M (ow_df 11) → ow_Sp C E d mL_cell (0, 0) [(3, 999), (0, 0)] N1 (fun r2 N2 => ow_Sp C E d mL_cell (0, 0) [(3, 999), (0, 1)] N2 (fun r3 N3 => 0 ≤ q1 ∧ q1 < 900 ∧ ow_Sp C E d mX11_init (82, 21863) [(3, q1), (0, r2), (0, r3)] N3 (fun r4 N4 => E.2.1 (N4 (-1) 0) = (12, (40 : Int)) ∧ N4 (-1) 0 < 800 ∧ ∀ q5 N5, q5 = N4 (-1) 0 → N5 = ow_mk1 N4 (ow_df 12) → ow_Sp C E d mL_cell (0, 0) [(3, 999), (0, 0)] N5 (fun r6 N6 => ow_Sp C E d mL_cell (0, 0) [(3, 999), (0, 1)] N6 (fun r7 N7 => 0 ≤ q5 ∧ q5 < 900 ∧ ow_Sp C E d mX12_init (18, 114692) [(3, q5), (0, r6), (0, r7)] N7 (fun r8 N8 => ow_At C E (d + 1) mL_law 38 [(0, (3, 999)), (1, (3, q1)), (2, (3, q5)), (3, (0, 2))] [] (bc + 0, bs + 0) N8 K))))))) : ow_At C E (d + 1) mL_law 0 [(0, (3, 999))] [] (bc + 102, bs + 136614) M K := by
  obtain ⟨w, w1, h⟩ := h
  refine ow_new2 (pc' := 3) (b2 := (bc + 101, bs + 136595)) dL_law_0 nRL_7 rfl hE hF w w1 (Prod.ext (by show bc + _ = _ + (bc + _); omega) (by show bs + _ = 19 + (bs + _); omega)) (fun q1 N1 eq1 eN1 => ?_)
  have h := h q1 N1 eq1 eN1
  refine ow_dup (pc' := 4) dL_law_3 rfl rfl ?_
  refine ow_aload_n (pc' := 5) (x := 999) dL_law_4 rfl rfl ?_
  refine ow_iconst (pc' := 6) (n := 0) dL_law_5 rfl rfl ?_
  refine ow_callSp (z := mL_cell) (n := 2) (vs := [(3, 999), (0, 0)]) (st := [(3, q1), (3, q1)]) (pc' := 9) (b1 := (0, 0)) (b2 := _) dL_law_6 lRL_9 kL_cell zL_cell rfl rfl rfl rfl rfl (Prod.ext (Nat.zero_add _).symm (Nat.zero_add _).symm) (ow_Sp.mono h (fun r2 N2 h => ?_))
  refine ow_aload_n (pc' := 10) (x := 999) dL_law_9 rfl rfl ?_
  refine ow_iconst (pc' := 11) (n := 1) dL_law_10 rfl rfl ?_
  refine ow_callSp (z := mL_cell) (n := 2) (vs := [(3, 999), (0, 1)]) (st := [(0, r2), (3, q1), (3, q1)]) (pc' := 14) (b1 := (0, 0)) (b2 := _) dL_law_11 lRL_9 kL_cell zL_cell rfl rfl rfl rfl rfl (Prod.ext (Nat.zero_add _).symm (Nat.zero_add _).symm) (ow_Sp.mono h (fun r3 N3 h => ?_))
  obtain ⟨w, w1, h⟩ := h
  refine ow_callI (z := mX11_init) (n := 2) (vs := [(0, r2), (0, r3)]) (x := q1) (st := [(3, q1)]) (pc' := 17) (b1 := (82, 21863)) (b2 := (bc + 19, bs + 114732)) dL_law_14 (Or.inl lRL_15) kX11_init rfl rfl iX11_init rfl rfl rfl rfl (Prod.ext (by show bc + _ = _ + (bc + _); omega) (by show bs + _ = _ + (bs + _); omega)) w w1 (ow_Sp.mono h (fun r4 N4 h => ?_))
  refine ow_astore_n (pc' := 18) (lv' := [(0, (3, 999)), (1, (3, q1))]) dL_law_17 rfl rfl rfl ?_
  obtain ⟨w, w1, h⟩ := h
  refine ow_new2 (pc' := 21) (b2 := (bc + 18, bs + 114692)) dL_law_18 nRL_18 rfl hE hF w w1 (Prod.ext (by show bc + _ = _ + (bc + _); omega) (by show bs + _ = 40 + (bs + _); omega)) (fun q5 N5 eq5 eN5 => ?_)
  have h := h q5 N5 eq5 eN5
  refine ow_dup (pc' := 22) dL_law_21 rfl rfl ?_
  refine ow_aload_n (pc' := 23) (x := 999) dL_law_22 rfl rfl ?_
  refine ow_iconst (pc' := 24) (n := 0) dL_law_23 rfl rfl ?_
  refine ow_callSp (z := mL_cell) (n := 2) (vs := [(3, 999), (0, 0)]) (st := [(3, q5), (3, q5)]) (pc' := 27) (b1 := (0, 0)) (b2 := _) dL_law_24 lRL_9 kL_cell zL_cell rfl rfl rfl rfl rfl (Prod.ext (Nat.zero_add _).symm (Nat.zero_add _).symm) (ow_Sp.mono h (fun r6 N6 h => ?_))
  refine ow_aload_n (pc' := 28) (x := 999) dL_law_27 rfl rfl ?_
  refine ow_iconst (pc' := 29) (n := 1) dL_law_28 rfl rfl ?_
  refine ow_callSp (z := mL_cell) (n := 2) (vs := [(3, 999), (0, 1)]) (st := [(0, r6), (3, q5), (3, q5)]) (pc' := 32) (b1 := (0, 0)) (b2 := _) dL_law_29 lRL_9 kL_cell zL_cell rfl rfl rfl rfl rfl (Prod.ext (Nat.zero_add _).symm (Nat.zero_add _).symm) (ow_Sp.mono h (fun r7 N7 h => ?_))
  obtain ⟨w, w1, h⟩ := h
  refine ow_callI (z := mX12_init) (n := 2) (vs := [(0, r6), (0, r7)]) (x := q5) (st := [(3, q5)]) (pc' := 35) (b1 := (18, 114692)) (b2 := (bc + 0, bs + 0)) dL_law_32 (Or.inl lRL_20) kX12_init rfl rfl iX12_init rfl rfl rfl rfl (Prod.ext (by show bc + _ = _ + (bc + _); omega) (by show bs + _ = _ + (bs + _); omega)) w w1 (ow_Sp.mono h (fun r8 N8 h => ?_))
  refine ow_astore_n (pc' := 36) (lv' := [(0, (3, 999)), (1, (3, q1)), (2, (3, q5))]) dL_law_35 rfl rfl rfl ?_
  refine ow_iconst (pc' := 37) (n := 2) dL_law_36 rfl rfl ?_
  refine ow_istore_n (pc' := 38) (lv' := [(0, (3, 999)), (1, (3, q1)), (2, (3, q5)), (3, (0, 2))]) dL_law_37 rfl rfl rfl ?_
  exact h
set_option maxRecDepth 20000 in
theorem bL_law_38 {C : ow_C} {E : ow_E} {d : Nat} {M : ow_M} {K : Int → ow_M → Prop} {bc bs : Nat} {l1 l2 l3 : Int} (h : (C.2.2.2.2.1.2.1 : Int) ≤ 2147483647 ∧ ow_I (((C.2.2.2.2.1.2.1 : Int)) - 6) ∧ ((((C.2.2.2.2.1.2.1 : Int)) - 6) < l3 → K 1 M) ∧ (l3 ≤ (((C.2.2.2.2.1.2.1 : Int)) - 6) → 0 ≤ l3 ∧ l3 < (C.2.2.2.2.1.2.1 : Int) ∧ ((ow_and (ow_sc C l3) 31) = 0 → ow_I (l3 + 1) ∧ 0 ≤ (l3 + 1) ∧ (l3 + 1) < (C.2.2.2.2.1.2.1 : Int) ∧ ow_I (l3 + 2) ∧ 0 ≤ (l3 + 2) ∧ (l3 + 2) < (C.2.2.2.2.1.2.1 : Int) ∧ ow_O E M l1 11 ∧ ow_Sp C E d mX11_put (0, 0) [(3, l1), (0, ow_sc C (l3 + 1)), (0, ow_sc C (l3 + 2))] M (fun r1 N1 => ow_I (l3 + 1) ∧ 0 ≤ (l3 + 1) ∧ (l3 + 1) < (C.2.2.2.2.1.2.1 : Int) ∧ ow_I (l3 + 2) ∧ 0 ≤ (l3 + 2) ∧ (l3 + 2) < (C.2.2.2.2.1.2.1 : Int) ∧ ow_O E N1 l2 12 ∧ ow_Sp C E d mX12_put (0, 0) [(3, l2), (0, ow_sc C (l3 + 1)), (0, ow_sc C (l3 + 2))] N1 (fun r2 N2 => (r1 = r2 → ow_I (l3 + 6) ∧ ow_At C E (d + 1) mL_law 38 [(0, (3, 999)), (1, (3, l1)), (2, (3, l2)), (3, (0, l3 + 6))] [] (bc + 0, bs + 0) N2 K) ∧ (r1 ≠ r2 → K 0 N2)))) ∧ ((ow_and (ow_sc C l3) 31) ≠ 0 → ((ow_and (ow_sc C l3) 31) = 1 → ow_I (l3 + 1) ∧ 0 ≤ (l3 + 1) ∧ (l3 + 1) < (C.2.2.2.2.1.2.1 : Int) ∧ ow_O E M l1 11 ∧ ow_Sp C E d mX11_take (0, 0) [(3, l1), (0, ow_sc C (l3 + 1))] M (fun r3 N3 => ow_I (l3 + 1) ∧ 0 ≤ (l3 + 1) ∧ (l3 + 1) < (C.2.2.2.2.1.2.1 : Int) ∧ ow_O E N3 l2 12 ∧ ow_Sp C E d mX12_take (0, 0) [(3, l2), (0, ow_sc C (l3 + 1))] N3 (fun r4 N4 => (r3 = r4 → ow_I (l3 + 6) ∧ ow_At C E (d + 1) mL_law 38 [(0, (3, 999)), (1, (3, l1)), (2, (3, l2)), (3, (0, l3 + 6))] [] (bc + 0, bs + 0) N4 K) ∧ (r3 ≠ r4 → K 0 N4)))) ∧ ((ow_and (ow_sc C l3) 31) ≠ 1 → ((ow_and (ow_sc C l3) 31) = 2 → ow_I (l3 + 1) ∧ 0 ≤ (l3 + 1) ∧ (l3 + 1) < (C.2.2.2.2.1.2.1 : Int) ∧ ow_I (l3 + 2) ∧ 0 ≤ (l3 + 2) ∧ (l3 + 2) < (C.2.2.2.2.1.2.1 : Int) ∧ ow_I (l3 + 3) ∧ 0 ≤ (l3 + 3) ∧ (l3 + 3) < (C.2.2.2.2.1.2.1 : Int) ∧ ow_I (l3 + 4) ∧ 0 ≤ (l3 + 4) ∧ (l3 + 4) < (C.2.2.2.2.1.2.1 : Int) ∧ ow_I (l3 + 5) ∧ 0 ≤ (l3 + 5) ∧ (l3 + 5) < (C.2.2.2.2.1.2.1 : Int) ∧ ow_O E M l1 11 ∧ ow_Sp C E d mX11_feed (0, 0) [(3, l1), (0, ow_sc C (l3 + 1)), (0, ow_sc C (l3 + 2)), (0, ow_sc C (l3 + 3)), (0, ow_sc C (l3 + 4)), (0, ow_sc C (l3 + 5))] M (fun r5 N5 => ow_I (l3 + 1) ∧ 0 ≤ (l3 + 1) ∧ (l3 + 1) < (C.2.2.2.2.1.2.1 : Int) ∧ ow_I (l3 + 2) ∧ 0 ≤ (l3 + 2) ∧ (l3 + 2) < (C.2.2.2.2.1.2.1 : Int) ∧ ow_I (l3 + 3) ∧ 0 ≤ (l3 + 3) ∧ (l3 + 3) < (C.2.2.2.2.1.2.1 : Int) ∧ ow_I (l3 + 4) ∧ 0 ≤ (l3 + 4) ∧ (l3 + 4) < (C.2.2.2.2.1.2.1 : Int) ∧ ow_I (l3 + 5) ∧ 0 ≤ (l3 + 5) ∧ (l3 + 5) < (C.2.2.2.2.1.2.1 : Int) ∧ ow_O E N5 l2 12 ∧ ow_Sp C E d mX12_feed (0, 0) [(3, l2), (0, ow_sc C (l3 + 1)), (0, ow_sc C (l3 + 2)), (0, ow_sc C (l3 + 3)), (0, ow_sc C (l3 + 4)), (0, ow_sc C (l3 + 5))] N5 (fun r6 N6 => (r5 = r6 → ow_I (l3 + 6) ∧ ow_At C E (d + 1) mL_law 38 [(0, (3, 999)), (1, (3, l1)), (2, (3, l2)), (3, (0, l3 + 6))] [] (bc + 0, bs + 0) N6 K) ∧ (r5 ≠ r6 → K 0 N6)))) ∧ ((ow_and (ow_sc C l3) 31) ≠ 2 → ((ow_and (ow_sc C l3) 31) = 3 → ow_I (l3 + 1) ∧ 0 ≤ (l3 + 1) ∧ (l3 + 1) < (C.2.2.2.2.1.2.1 : Int) ∧ ow_O E M l1 11 ∧ ow_Sp C E d mX11_end (0, 0) [(3, l1), (0, ow_sc C (l3 + 1))] M (fun r7 N7 => ow_I (l3 + 1) ∧ 0 ≤ (l3 + 1) ∧ (l3 + 1) < (C.2.2.2.2.1.2.1 : Int) ∧ ow_O E N7 l2 12 ∧ ow_Sp C E d mX12_end (0, 0) [(3, l2), (0, ow_sc C (l3 + 1))] N7 (fun r8 N8 => (r7 = r8 → ow_I (l3 + 6) ∧ ow_At C E (d + 1) mL_law 38 [(0, (3, 999)), (1, (3, l1)), (2, (3, l2)), (3, (0, l3 + 6))] [] (bc + 0, bs + 0) N8 K) ∧ (r7 ≠ r8 → K 0 N8)))) ∧ ((ow_and (ow_sc C l3) 31) ≠ 3 → ((ow_and (ow_sc C l3) 31) = 4 → ow_O E M l1 11 ∧ ow_Sp C E d mX11_text (0, 0) [(3, l1)] M (fun r9 N9 => ow_O E N9 l2 12 ∧ ow_Sp C E d mX12_text (0, 0) [(3, l2)] N9 (fun r10 N10 => (r9 = r10 → ow_I (l3 + 6) ∧ ow_At C E (d + 1) mL_law 38 [(0, (3, 999)), (1, (3, l1)), (2, (3, l2)), (3, (0, l3 + 6))] [] (bc + 0, bs + 0) N10 K) ∧ (r9 ≠ r10 → K 0 N10)))) ∧ ((ow_and (ow_sc C l3) 31) ≠ 4 → ((ow_and (ow_sc C l3) 31) = 5 → ow_I (l3 + 1) ∧ 0 ≤ (l3 + 1) ∧ (l3 + 1) < (C.2.2.2.2.1.2.1 : Int) ∧ ow_O E M l1 11 ∧ ow_Sp C E d mX11_fault (0, 0) [(3, l1), (0, ow_sc C (l3 + 1))] M (fun r11 N11 => ow_I (l3 + 1) ∧ 0 ≤ (l3 + 1) ∧ (l3 + 1) < (C.2.2.2.2.1.2.1 : Int) ∧ ow_O E N11 l2 12 ∧ ow_Sp C E d mX12_fault (0, 0) [(3, l2), (0, ow_sc C (l3 + 1))] N11 (fun r12 N12 => (r11 = r12 → ow_I (l3 + 6) ∧ ow_At C E (d + 1) mL_law 38 [(0, (3, 999)), (1, (3, l1)), (2, (3, l2)), (3, (0, l3 + 6))] [] (bc + 0, bs + 0) N12 K) ∧ (r11 ≠ r12 → K 0 N12)))) ∧ ((ow_and (ow_sc C l3) 31) ≠ 5 → ((ow_and (ow_sc C l3) 31) = 6 → ow_I (l3 + 1) ∧ 0 ≤ (l3 + 1) ∧ (l3 + 1) < (C.2.2.2.2.1.2.1 : Int) ∧ ow_O E M l1 11 ∧ ow_Sp C E d mX11_by (0, 0) [(3, l1), (0, ow_sc C (l3 + 1))] M (fun r13 N13 => ow_I (l3 + 1) ∧ 0 ≤ (l3 + 1) ∧ (l3 + 1) < (C.2.2.2.2.1.2.1 : Int) ∧ ow_O E N13 l2 12 ∧ ow_Sp C E d mX12_by (0, 0) [(3, l2), (0, ow_sc C (l3 + 1))] N13 (fun r14 N14 => (r13 = r14 → ow_I (l3 + 6) ∧ ow_At C E (d + 1) mL_law 38 [(0, (3, 999)), (1, (3, l1)), (2, (3, l2)), (3, (0, l3 + 6))] [] (bc + 0, bs + 0) N14 K) ∧ (r13 ≠ r14 → K 0 N14)))) ∧ ((ow_and (ow_sc C l3) 31) ≠ 6 → ((ow_and (ow_sc C l3) 31) = 7 → ow_I (l3 + 1) ∧ 0 ≤ (l3 + 1) ∧ (l3 + 1) < (C.2.2.2.2.1.2.1 : Int) ∧ ow_O E M l1 11 ∧ ow_Sp C E d mX11_filled (0, 0) [(3, l1), (0, ow_sc C (l3 + 1))] M (fun r15 N15 => ow_I (l3 + 1) ∧ 0 ≤ (l3 + 1) ∧ (l3 + 1) < (C.2.2.2.2.1.2.1 : Int) ∧ ow_O E N15 l2 12 ∧ ow_Sp C E d mX12_filled (0, 0) [(3, l2), (0, ow_sc C (l3 + 1))] N15 (fun r16 N16 => (r15 = r16 → ow_I (l3 + 6) ∧ ow_At C E (d + 1) mL_law 38 [(0, (3, 999)), (1, (3, l1)), (2, (3, l2)), (3, (0, l3 + 6))] [] (bc + 0, bs + 0) N16 K) ∧ (r15 ≠ r16 → K 0 N16)))) ∧ ((ow_and (ow_sc C l3) 31) ≠ 7 → ((ow_and (ow_sc C l3) 31) = 8 → ow_I (l3 + 1) ∧ 0 ≤ (l3 + 1) ∧ (l3 + 1) < (C.2.2.2.2.1.2.1 : Int) ∧ ow_O E M l1 11 ∧ ow_Sp C E d mX11_book (0, 0) [(3, l1), (0, ow_sc C (l3 + 1))] M (fun r17 N17 => ow_I (l3 + 1) ∧ 0 ≤ (l3 + 1) ∧ (l3 + 1) < (C.2.2.2.2.1.2.1 : Int) ∧ ow_O E N17 l2 12 ∧ ow_Sp C E d mX12_book (0, 0) [(3, l2), (0, ow_sc C (l3 + 1))] N17 (fun r18 N18 => (r17 = r18 → ow_I (l3 + 6) ∧ ow_At C E (d + 1) mL_law 38 [(0, (3, 999)), (1, (3, l1)), (2, (3, l2)), (3, (0, l3 + 6))] [] (bc + 0, bs + 0) N18 K) ∧ (r17 ≠ r18 → K 0 N18)))) ∧ ((ow_and (ow_sc C l3) 31) ≠ 8 → ((ow_and (ow_sc C l3) 31) = 9 → ow_I (l3 + 1) ∧ 0 ≤ (l3 + 1) ∧ (l3 + 1) < (C.2.2.2.2.1.2.1 : Int) ∧ ow_I (l3 + 2) ∧ 0 ≤ (l3 + 2) ∧ (l3 + 2) < (C.2.2.2.2.1.2.1 : Int) ∧ ow_I (l3 + 3) ∧ 0 ≤ (l3 + 3) ∧ (l3 + 3) < (C.2.2.2.2.1.2.1 : Int) ∧ ow_O E M l1 11 ∧ ow_Sp C E d mX11_bars (0, 0) [(3, l1), (0, ow_sc C (l3 + 1)), (0, ow_sc C (l3 + 2)), (0, ow_sc C (l3 + 3))] M (fun r19 N19 => ow_I (l3 + 1) ∧ 0 ≤ (l3 + 1) ∧ (l3 + 1) < (C.2.2.2.2.1.2.1 : Int) ∧ ow_I (l3 + 2) ∧ 0 ≤ (l3 + 2) ∧ (l3 + 2) < (C.2.2.2.2.1.2.1 : Int) ∧ ow_I (l3 + 3) ∧ 0 ≤ (l3 + 3) ∧ (l3 + 3) < (C.2.2.2.2.1.2.1 : Int) ∧ ow_O E N19 l2 12 ∧ ow_Sp C E d mX12_bars (0, 0) [(3, l2), (0, ow_sc C (l3 + 1)), (0, ow_sc C (l3 + 2)), (0, ow_sc C (l3 + 3))] N19 (fun r20 N20 => (r19 = r20 → ow_I (l3 + 6) ∧ ow_At C E (d + 1) mL_law 38 [(0, (3, 999)), (1, (3, l1)), (2, (3, l2)), (3, (0, l3 + 6))] [] (bc + 0, bs + 0) N20 K) ∧ (r19 ≠ r20 → K 0 N20)))) ∧ ((ow_and (ow_sc C l3) 31) ≠ 9 → ((ow_and (ow_sc C l3) 31) = 10 → ow_I (l3 + 1) ∧ 0 ≤ (l3 + 1) ∧ (l3 + 1) < (C.2.2.2.2.1.2.1 : Int) ∧ ow_I (l3 + 2) ∧ 0 ≤ (l3 + 2) ∧ (l3 + 2) < (C.2.2.2.2.1.2.1 : Int) ∧ ow_I (l3 + 3) ∧ 0 ≤ (l3 + 3) ∧ (l3 + 3) < (C.2.2.2.2.1.2.1 : Int) ∧ ow_O E M l1 11 ∧ ow_Sp C E d mX11_ways (0, 0) [(3, l1), (0, ow_sc C (l3 + 1)), (0, ow_sc C (l3 + 2)), (0, ow_sc C (l3 + 3))] M (fun r21 N21 => ow_I (l3 + 1) ∧ 0 ≤ (l3 + 1) ∧ (l3 + 1) < (C.2.2.2.2.1.2.1 : Int) ∧ ow_I (l3 + 2) ∧ 0 ≤ (l3 + 2) ∧ (l3 + 2) < (C.2.2.2.2.1.2.1 : Int) ∧ ow_I (l3 + 3) ∧ 0 ≤ (l3 + 3) ∧ (l3 + 3) < (C.2.2.2.2.1.2.1 : Int) ∧ ow_O E N21 l2 12 ∧ ow_Sp C E d mX12_ways (0, 0) [(3, l2), (0, ow_sc C (l3 + 1)), (0, ow_sc C (l3 + 2)), (0, ow_sc C (l3 + 3))] N21 (fun r22 N22 => ((ow_lcmp r21 r22) = 0 → ow_I (l3 + 6) ∧ ow_At C E (d + 1) mL_law 38 [(0, (3, 999)), (1, (3, l1)), (2, (3, l2)), (3, (0, l3 + 6))] [] (bc + 0, bs + 0) N22 K) ∧ ((ow_lcmp r21 r22) ≠ 0 → K 0 N22)))) ∧ ((ow_and (ow_sc C l3) 31) ≠ 10 → ((ow_and (ow_sc C l3) 31) = 11 → ow_I (l3 + 1) ∧ 0 ≤ (l3 + 1) ∧ (l3 + 1) < (C.2.2.2.2.1.2.1 : Int) ∧ ow_I (l3 + 2) ∧ 0 ≤ (l3 + 2) ∧ (l3 + 2) < (C.2.2.2.2.1.2.1 : Int) ∧ ow_I (l3 + 3) ∧ 0 ≤ (l3 + 3) ∧ (l3 + 3) < (C.2.2.2.2.1.2.1 : Int) ∧ ow_I (l3 + 4) ∧ 0 ≤ (l3 + 4) ∧ (l3 + 4) < (C.2.2.2.2.1.2.1 : Int) ∧ ow_O E M l1 11 ∧ ow_Sp C E d mX11_row (0, 0) [(3, l1), (0, ow_sc C (l3 + 1)), (0, ow_sc C (l3 + 2)), (0, ow_sc C (l3 + 3)), (0, ow_sc C (l3 + 4))] M (fun r23 N23 => ow_I (l3 + 1) ∧ 0 ≤ (l3 + 1) ∧ (l3 + 1) < (C.2.2.2.2.1.2.1 : Int) ∧ ow_I (l3 + 2) ∧ 0 ≤ (l3 + 2) ∧ (l3 + 2) < (C.2.2.2.2.1.2.1 : Int) ∧ ow_I (l3 + 3) ∧ 0 ≤ (l3 + 3) ∧ (l3 + 3) < (C.2.2.2.2.1.2.1 : Int) ∧ ow_I (l3 + 4) ∧ 0 ≤ (l3 + 4) ∧ (l3 + 4) < (C.2.2.2.2.1.2.1 : Int) ∧ ow_O E N23 l2 12 ∧ ow_Sp C E d mX12_row (0, 0) [(3, l2), (0, ow_sc C (l3 + 1)), (0, ow_sc C (l3 + 2)), (0, ow_sc C (l3 + 3)), (0, ow_sc C (l3 + 4))] N23 (fun r24 N24 => (r23 = r24 → ow_I (l3 + 6) ∧ ow_At C E (d + 1) mL_law 38 [(0, (3, 999)), (1, (3, l1)), (2, (3, l2)), (3, (0, l3 + 6))] [] (bc + 0, bs + 0) N24 K) ∧ (r23 ≠ r24 → K 0 N24)))) ∧ ((ow_and (ow_sc C l3) 31) ≠ 11 → ((ow_and (ow_sc C l3) 31) = 12 → ow_I (l3 + 1) ∧ 0 ≤ (l3 + 1) ∧ (l3 + 1) < (C.2.2.2.2.1.2.1 : Int) ∧ ow_I (l3 + 2) ∧ 0 ≤ (l3 + 2) ∧ (l3 + 2) < (C.2.2.2.2.1.2.1 : Int) ∧ ow_I (l3 + 3) ∧ 0 ≤ (l3 + 3) ∧ (l3 + 3) < (C.2.2.2.2.1.2.1 : Int) ∧ ow_O E M l1 11 ∧ ow_Sp C E d mX11_heard (0, 0) [(3, l1), (0, ow_sc C (l3 + 1)), (0, ow_sc C (l3 + 2)), (0, ow_sc C (l3 + 3))] M (fun r25 N25 => ow_I (l3 + 1) ∧ 0 ≤ (l3 + 1) ∧ (l3 + 1) < (C.2.2.2.2.1.2.1 : Int) ∧ ow_I (l3 + 2) ∧ 0 ≤ (l3 + 2) ∧ (l3 + 2) < (C.2.2.2.2.1.2.1 : Int) ∧ ow_I (l3 + 3) ∧ 0 ≤ (l3 + 3) ∧ (l3 + 3) < (C.2.2.2.2.1.2.1 : Int) ∧ ow_O E N25 l2 12 ∧ ow_Sp C E d mX12_heard (0, 0) [(3, l2), (0, ow_sc C (l3 + 1)), (0, ow_sc C (l3 + 2)), (0, ow_sc C (l3 + 3))] N25 (fun r26 N26 => (r25 = r26 → ow_I (l3 + 6) ∧ ow_At C E (d + 1) mL_law 38 [(0, (3, 999)), (1, (3, l1)), (2, (3, l2)), (3, (0, l3 + 6))] [] (bc + 0, bs + 0) N26 K) ∧ (r25 ≠ r26 → K 0 N26)))) ∧ ((ow_and (ow_sc C l3) 31) ≠ 12 → ((ow_and (ow_sc C l3) 31) = 13 → ow_I (l3 + 1) ∧ 0 ≤ (l3 + 1) ∧ (l3 + 1) < (C.2.2.2.2.1.2.1 : Int) ∧ ow_I (l3 + 2) ∧ 0 ≤ (l3 + 2) ∧ (l3 + 2) < (C.2.2.2.2.1.2.1 : Int) ∧ ow_I (l3 + 3) ∧ 0 ≤ (l3 + 3) ∧ (l3 + 3) < (C.2.2.2.2.1.2.1 : Int) ∧ ow_I (l3 + 4) ∧ 0 ≤ (l3 + 4) ∧ (l3 + 4) < (C.2.2.2.2.1.2.1 : Int) ∧ ow_O E M l1 11 ∧ ow_Sp C E d mX11_odds (0, 0) [(3, l1), (0, ow_sc C (l3 + 1)), (0, ow_sc C (l3 + 2)), (0, ow_sc C (l3 + 3)), (0, ow_sc C (l3 + 4))] M (fun r27 N27 => ow_I (l3 + 1) ∧ 0 ≤ (l3 + 1) ∧ (l3 + 1) < (C.2.2.2.2.1.2.1 : Int) ∧ ow_I (l3 + 2) ∧ 0 ≤ (l3 + 2) ∧ (l3 + 2) < (C.2.2.2.2.1.2.1 : Int) ∧ ow_I (l3 + 3) ∧ 0 ≤ (l3 + 3) ∧ (l3 + 3) < (C.2.2.2.2.1.2.1 : Int) ∧ ow_I (l3 + 4) ∧ 0 ≤ (l3 + 4) ∧ (l3 + 4) < (C.2.2.2.2.1.2.1 : Int) ∧ ow_O E N27 l2 12 ∧ ow_Sp C E d mX12_odds (0, 0) [(3, l2), (0, ow_sc C (l3 + 1)), (0, ow_sc C (l3 + 2)), (0, ow_sc C (l3 + 3)), (0, ow_sc C (l3 + 4))] N27 (fun r28 N28 => ((ow_lcmp r27 r28) = 0 → ow_I (l3 + 6) ∧ ow_At C E (d + 1) mL_law 38 [(0, (3, 999)), (1, (3, l1)), (2, (3, l2)), (3, (0, l3 + 6))] [] (bc + 0, bs + 0) N28 K) ∧ ((ow_lcmp r27 r28) ≠ 0 → K 0 N28)))) ∧ ((ow_and (ow_sc C l3) 31) ≠ 13 → ((ow_and (ow_sc C l3) 31) = 14 → ow_I (l3 + 1) ∧ 0 ≤ (l3 + 1) ∧ (l3 + 1) < (C.2.2.2.2.1.2.1 : Int) ∧ ow_I (l3 + 2) ∧ 0 ≤ (l3 + 2) ∧ (l3 + 2) < (C.2.2.2.2.1.2.1 : Int) ∧ ow_I (l3 + 3) ∧ 0 ≤ (l3 + 3) ∧ (l3 + 3) < (C.2.2.2.2.1.2.1 : Int) ∧ ow_O E M l1 11 ∧ ow_Sp C E d mX11_road (0, 0) [(3, l1), (0, ow_sc C (l3 + 1)), (0, ow_sc C (l3 + 2)), (0, ow_sc C (l3 + 3))] M (fun r29 N29 => ow_I (l3 + 1) ∧ 0 ≤ (l3 + 1) ∧ (l3 + 1) < (C.2.2.2.2.1.2.1 : Int) ∧ ow_I (l3 + 2) ∧ 0 ≤ (l3 + 2) ∧ (l3 + 2) < (C.2.2.2.2.1.2.1 : Int) ∧ ow_I (l3 + 3) ∧ 0 ≤ (l3 + 3) ∧ (l3 + 3) < (C.2.2.2.2.1.2.1 : Int) ∧ ow_O E N29 l2 12 ∧ ow_Sp C E d mX12_road (0, 0) [(3, l2), (0, ow_sc C (l3 + 1)), (0, ow_sc C (l3 + 2)), (0, ow_sc C (l3 + 3))] N29 (fun r30 N30 => (r29 = r30 → ow_I (l3 + 6) ∧ ow_At C E (d + 1) mL_law 38 [(0, (3, 999)), (1, (3, l1)), (2, (3, l2)), (3, (0, l3 + 6))] [] (bc + 0, bs + 0) N30 K) ∧ (r29 ≠ r30 → K 0 N30)))) ∧ ((ow_and (ow_sc C l3) 31) ≠ 14 → ((ow_and (ow_sc C l3) 31) = 15 → ow_I (l3 + 1) ∧ 0 ≤ (l3 + 1) ∧ (l3 + 1) < (C.2.2.2.2.1.2.1 : Int) ∧ ow_I (l3 + 2) ∧ 0 ≤ (l3 + 2) ∧ (l3 + 2) < (C.2.2.2.2.1.2.1 : Int) ∧ ow_I (l3 + 3) ∧ 0 ≤ (l3 + 3) ∧ (l3 + 3) < (C.2.2.2.2.1.2.1 : Int) ∧ ow_I (l3 + 4) ∧ 0 ≤ (l3 + 4) ∧ (l3 + 4) < (C.2.2.2.2.1.2.1 : Int) ∧ ow_I (l3 + 5) ∧ 0 ≤ (l3 + 5) ∧ (l3 + 5) < (C.2.2.2.2.1.2.1 : Int) ∧ ow_O E M l1 11 ∧ ow_Sp C E d mX11_fits (0, 0) [(3, l1), (0, ow_sc C (l3 + 1)), (0, ow_sc C (l3 + 2)), (0, ow_sc C (l3 + 3)), (0, ow_sc C (l3 + 4)), (0, ow_sc C (l3 + 5))] M (fun r31 N31 => ow_I (l3 + 1) ∧ 0 ≤ (l3 + 1) ∧ (l3 + 1) < (C.2.2.2.2.1.2.1 : Int) ∧ ow_I (l3 + 2) ∧ 0 ≤ (l3 + 2) ∧ (l3 + 2) < (C.2.2.2.2.1.2.1 : Int) ∧ ow_I (l3 + 3) ∧ 0 ≤ (l3 + 3) ∧ (l3 + 3) < (C.2.2.2.2.1.2.1 : Int) ∧ ow_I (l3 + 4) ∧ 0 ≤ (l3 + 4) ∧ (l3 + 4) < (C.2.2.2.2.1.2.1 : Int) ∧ ow_I (l3 + 5) ∧ 0 ≤ (l3 + 5) ∧ (l3 + 5) < (C.2.2.2.2.1.2.1 : Int) ∧ ow_O E N31 l2 12 ∧ ow_Sp C E d mX12_fits (0, 0) [(3, l2), (0, ow_sc C (l3 + 1)), (0, ow_sc C (l3 + 2)), (0, ow_sc C (l3 + 3)), (0, ow_sc C (l3 + 4)), (0, ow_sc C (l3 + 5))] N31 (fun r32 N32 => (r31 = r32 → ow_I (l3 + 6) ∧ ow_At C E (d + 1) mL_law 38 [(0, (3, 999)), (1, (3, l1)), (2, (3, l2)), (3, (0, l3 + 6))] [] (bc + 0, bs + 0) N32 K) ∧ (r31 ≠ r32 → K 0 N32)))) ∧ ((ow_and (ow_sc C l3) 31) ≠ 15 → ((ow_and (ow_sc C l3) 31) = 16 → ow_I (l3 + 1) ∧ 0 ≤ (l3 + 1) ∧ (l3 + 1) < (C.2.2.2.2.1.2.1 : Int) ∧ ow_O E M l1 11 ∧ ow_Sp C E d mX11_tree (0, 0) [(3, l1), (0, ow_sc C (l3 + 1))] M (fun r33 N33 => ow_I (l3 + 1) ∧ 0 ≤ (l3 + 1) ∧ (l3 + 1) < (C.2.2.2.2.1.2.1 : Int) ∧ ow_O E N33 l2 12 ∧ ow_Sp C E d mX12_tree (0, 0) [(3, l2), (0, ow_sc C (l3 + 1))] N33 (fun r34 N34 => (r33 = r34 → ow_I (l3 + 6) ∧ ow_At C E (d + 1) mL_law 38 [(0, (3, 999)), (1, (3, l1)), (2, (3, l2)), (3, (0, l3 + 6))] [] (bc + 0, bs + 0) N34 K) ∧ (r33 ≠ r34 → K 0 N34)))) ∧ ((ow_and (ow_sc C l3) 31) ≠ 16 → ((ow_and (ow_sc C l3) 31) = 17 → ow_I (l3 + 1) ∧ 0 ≤ (l3 + 1) ∧ (l3 + 1) < (C.2.2.2.2.1.2.1 : Int) ∧ ow_I (l3 + 2) ∧ 0 ≤ (l3 + 2) ∧ (l3 + 2) < (C.2.2.2.2.1.2.1 : Int) ∧ ow_I (l3 + 3) ∧ 0 ≤ (l3 + 3) ∧ (l3 + 3) < (C.2.2.2.2.1.2.1 : Int) ∧ ow_O E M l1 11 ∧ ow_Sp C E d mX11_shares (0, 0) [(3, l1), (0, ow_sc C (l3 + 1)), (0, ow_sc C (l3 + 2)), (0, ow_sc C (l3 + 3))] M (fun r35 N35 => ow_I (l3 + 1) ∧ 0 ≤ (l3 + 1) ∧ (l3 + 1) < (C.2.2.2.2.1.2.1 : Int) ∧ ow_I (l3 + 2) ∧ 0 ≤ (l3 + 2) ∧ (l3 + 2) < (C.2.2.2.2.1.2.1 : Int) ∧ ow_I (l3 + 3) ∧ 0 ≤ (l3 + 3) ∧ (l3 + 3) < (C.2.2.2.2.1.2.1 : Int) ∧ ow_O E N35 l2 12 ∧ ow_Sp C E d mX12_shares (0, 0) [(3, l2), (0, ow_sc C (l3 + 1)), (0, ow_sc C (l3 + 2)), (0, ow_sc C (l3 + 3))] N35 (fun r36 N36 => (r35 = r36 → ow_I (l3 + 6) ∧ ow_At C E (d + 1) mL_law 38 [(0, (3, 999)), (1, (3, l1)), (2, (3, l2)), (3, (0, l3 + 6))] [] (bc + 0, bs + 0) N36 K) ∧ (r35 ≠ r36 → K 0 N36)))) ∧ ((ow_and (ow_sc C l3) 31) ≠ 17 → ((ow_and (ow_sc C l3) 31) = 18 → ow_I (l3 + 1) ∧ 0 ≤ (l3 + 1) ∧ (l3 + 1) < (C.2.2.2.2.1.2.1 : Int) ∧ ow_I (l3 + 2) ∧ 0 ≤ (l3 + 2) ∧ (l3 + 2) < (C.2.2.2.2.1.2.1 : Int) ∧ ow_I (l3 + 3) ∧ 0 ≤ (l3 + 3) ∧ (l3 + 3) < (C.2.2.2.2.1.2.1 : Int) ∧ ow_O E M l1 11 ∧ ow_Sp C E d mX11_near (0, 0) [(3, l1), (0, ow_sc C (l3 + 1)), (0, ow_sc C (l3 + 2)), (0, ow_sc C (l3 + 3))] M (fun r37 N37 => ow_I (l3 + 1) ∧ 0 ≤ (l3 + 1) ∧ (l3 + 1) < (C.2.2.2.2.1.2.1 : Int) ∧ ow_I (l3 + 2) ∧ 0 ≤ (l3 + 2) ∧ (l3 + 2) < (C.2.2.2.2.1.2.1 : Int) ∧ ow_I (l3 + 3) ∧ 0 ≤ (l3 + 3) ∧ (l3 + 3) < (C.2.2.2.2.1.2.1 : Int) ∧ ow_O E N37 l2 12 ∧ ow_Sp C E d mX12_near (0, 0) [(3, l2), (0, ow_sc C (l3 + 1)), (0, ow_sc C (l3 + 2)), (0, ow_sc C (l3 + 3))] N37 (fun r38 N38 => (r37 = r38 → ow_I (l3 + 6) ∧ ow_At C E (d + 1) mL_law 38 [(0, (3, 999)), (1, (3, l1)), (2, (3, l2)), (3, (0, l3 + 6))] [] (bc + 0, bs + 0) N38 K) ∧ (r37 ≠ r38 → K 0 N38)))) ∧ ((ow_and (ow_sc C l3) 31) ≠ 18 → ((ow_and (ow_sc C l3) 31) = 19 → ow_I (l3 + 1) ∧ 0 ≤ (l3 + 1) ∧ (l3 + 1) < (C.2.2.2.2.1.2.1 : Int) ∧ ow_O E M l1 11 ∧ ow_Sp C E d mX11_apart (0, 0) [(3, l1), (0, ow_sc C (l3 + 1))] M (fun r39 N39 => ow_I (l3 + 1) ∧ 0 ≤ (l3 + 1) ∧ (l3 + 1) < (C.2.2.2.2.1.2.1 : Int) ∧ ow_O E N39 l2 12 ∧ ow_Sp C E d mX12_apart (0, 0) [(3, l2), (0, ow_sc C (l3 + 1))] N39 (fun r40 N40 => (r39 = r40 → ow_I (l3 + 6) ∧ ow_At C E (d + 1) mL_law 38 [(0, (3, 999)), (1, (3, l1)), (2, (3, l2)), (3, (0, l3 + 6))] [] (bc + 0, bs + 0) N40 K) ∧ (r39 ≠ r40 → K 0 N40)))) ∧ ((ow_and (ow_sc C l3) 31) ≠ 19 → ((ow_and (ow_sc C l3) 31) = 20 → ow_I (l3 + 1) ∧ 0 ≤ (l3 + 1) ∧ (l3 + 1) < (C.2.2.2.2.1.2.1 : Int) ∧ ow_O E M l1 11 ∧ ow_Sp C E d mX11_log (0, 0) [(3, l1), (0, ow_sc C (l3 + 1))] M (fun r41 N41 => ow_I (l3 + 1) ∧ 0 ≤ (l3 + 1) ∧ (l3 + 1) < (C.2.2.2.2.1.2.1 : Int) ∧ ow_O E N41 l2 12 ∧ ow_Sp C E d mX12_log (0, 0) [(3, l2), (0, ow_sc C (l3 + 1))] N41 (fun r42 N42 => (r41 = r42 → ow_I (l3 + 6) ∧ ow_At C E (d + 1) mL_law 38 [(0, (3, 999)), (1, (3, l1)), (2, (3, l2)), (3, (0, l3 + 6))] [] (bc + 0, bs + 0) N42 K) ∧ (r41 ≠ r42 → K 0 N42)))) ∧ ((ow_and (ow_sc C l3) 31) ≠ 20 → ((ow_and (ow_sc C l3) 31) = 21 → ow_I (l3 + 1) ∧ 0 ≤ (l3 + 1) ∧ (l3 + 1) < (C.2.2.2.2.1.2.1 : Int) ∧ ow_I (l3 + 2) ∧ 0 ≤ (l3 + 2) ∧ (l3 + 2) < (C.2.2.2.2.1.2.1 : Int) ∧ ow_I (l3 + 3) ∧ 0 ≤ (l3 + 3) ∧ (l3 + 3) < (C.2.2.2.2.1.2.1 : Int) ∧ ow_O E M l1 11 ∧ ow_Sp C E d mX11_said (0, 0) [(3, l1), (0, ow_sc C (l3 + 1)), (0, ow_sc C (l3 + 2)), (0, ow_sc C (l3 + 3))] M (fun r43 N43 => ow_I (l3 + 1) ∧ 0 ≤ (l3 + 1) ∧ (l3 + 1) < (C.2.2.2.2.1.2.1 : Int) ∧ ow_I (l3 + 2) ∧ 0 ≤ (l3 + 2) ∧ (l3 + 2) < (C.2.2.2.2.1.2.1 : Int) ∧ ow_I (l3 + 3) ∧ 0 ≤ (l3 + 3) ∧ (l3 + 3) < (C.2.2.2.2.1.2.1 : Int) ∧ ow_O E N43 l2 12 ∧ ow_Sp C E d mX12_said (0, 0) [(3, l2), (0, ow_sc C (l3 + 1)), (0, ow_sc C (l3 + 2)), (0, ow_sc C (l3 + 3))] N43 (fun r44 N44 => (r43 = r44 → ow_I (l3 + 6) ∧ ow_At C E (d + 1) mL_law 38 [(0, (3, 999)), (1, (3, l1)), (2, (3, l2)), (3, (0, l3 + 6))] [] (bc + 0, bs + 0) N44 K) ∧ (r43 ≠ r44 → K 0 N44)))) ∧ ((ow_and (ow_sc C l3) 31) ≠ 21 → ((ow_and (ow_sc C l3) 31) = 22 → ow_I (l3 + 1) ∧ 0 ≤ (l3 + 1) ∧ (l3 + 1) < (C.2.2.2.2.1.2.1 : Int) ∧ ow_I (l3 + 2) ∧ 0 ≤ (l3 + 2) ∧ (l3 + 2) < (C.2.2.2.2.1.2.1 : Int) ∧ ow_O E M l1 11 ∧ ow_Sp C E d mX11_broke (0, 0) [(3, l1), (0, ow_sc C (l3 + 1)), (0, ow_sc C (l3 + 2))] M (fun r45 N45 => ow_I (l3 + 1) ∧ 0 ≤ (l3 + 1) ∧ (l3 + 1) < (C.2.2.2.2.1.2.1 : Int) ∧ ow_I (l3 + 2) ∧ 0 ≤ (l3 + 2) ∧ (l3 + 2) < (C.2.2.2.2.1.2.1 : Int) ∧ ow_O E N45 l2 12 ∧ ow_Sp C E d mX12_broke (0, 0) [(3, l2), (0, ow_sc C (l3 + 1)), (0, ow_sc C (l3 + 2))] N45 (fun r46 N46 => (r45 = r46 → ow_I (l3 + 6) ∧ ow_At C E (d + 1) mL_law 38 [(0, (3, 999)), (1, (3, l1)), (2, (3, l2)), (3, (0, l3 + 6))] [] (bc + 0, bs + 0) N46 K) ∧ (r45 ≠ r46 → K 0 N46)))) ∧ ((ow_and (ow_sc C l3) 31) ≠ 22 → ((ow_and (ow_sc C l3) 31) = 23 → ow_I (l3 + 1) ∧ 0 ≤ (l3 + 1) ∧ (l3 + 1) < (C.2.2.2.2.1.2.1 : Int) ∧ ow_I (l3 + 2) ∧ 0 ≤ (l3 + 2) ∧ (l3 + 2) < (C.2.2.2.2.1.2.1 : Int) ∧ ow_I (l3 + 3) ∧ 0 ≤ (l3 + 3) ∧ (l3 + 3) < (C.2.2.2.2.1.2.1 : Int) ∧ ow_O E M l1 11 ∧ ow_Sp C E d mX11_message (0, 0) [(3, l1), (0, ow_sc C (l3 + 1)), (0, ow_sc C (l3 + 2)), (0, ow_sc C (l3 + 3))] M (fun r47 N47 => ow_I (l3 + 1) ∧ 0 ≤ (l3 + 1) ∧ (l3 + 1) < (C.2.2.2.2.1.2.1 : Int) ∧ ow_I (l3 + 2) ∧ 0 ≤ (l3 + 2) ∧ (l3 + 2) < (C.2.2.2.2.1.2.1 : Int) ∧ ow_I (l3 + 3) ∧ 0 ≤ (l3 + 3) ∧ (l3 + 3) < (C.2.2.2.2.1.2.1 : Int) ∧ ow_O E N47 l2 12 ∧ ow_Sp C E d mX12_message (0, 0) [(3, l2), (0, ow_sc C (l3 + 1)), (0, ow_sc C (l3 + 2)), (0, ow_sc C (l3 + 3))] N47 (fun r48 N48 => (r47 = r48 → ow_I (l3 + 6) ∧ ow_At C E (d + 1) mL_law 38 [(0, (3, 999)), (1, (3, l1)), (2, (3, l2)), (3, (0, l3 + 6))] [] (bc + 0, bs + 0) N48 K) ∧ (r47 ≠ r48 → K 0 N48)))) ∧ ((ow_and (ow_sc C l3) 31) ≠ 23 → ((ow_and (ow_sc C l3) 31) = 24 → ow_O E M l1 11 ∧ ow_Sp C E d mX11_image (0, 0) [(3, l1)] M (fun r49 N49 => ow_O E N49 l2 12 ∧ ow_Sp C E d mX12_image (0, 0) [(3, l2)] N49 (fun r50 N50 => (r49 = r50 → ow_I (l3 + 6) ∧ ow_At C E (d + 1) mL_law 38 [(0, (3, 999)), (1, (3, l1)), (2, (3, l2)), (3, (0, l3 + 6))] [] (bc + 0, bs + 0) N50 K) ∧ (r49 ≠ r50 → K 0 N50)))) ∧ ((ow_and (ow_sc C l3) 31) ≠ 24 → ((ow_and (ow_sc C l3) 31) = 25 → ow_O E M l1 11 ∧ ow_Sp C E d mX11_back (0, 0) [(3, l1)] M (fun r51 N51 => ow_O E N51 l2 12 ∧ ow_Sp C E d mX12_back (0, 0) [(3, l2)] N51 (fun r52 N52 => (r51 = r52 → ow_I (l3 + 6) ∧ ow_At C E (d + 1) mL_law 38 [(0, (3, 999)), (1, (3, l1)), (2, (3, l2)), (3, (0, l3 + 6))] [] (bc + 0, bs + 0) N52 K) ∧ (r51 ≠ r52 → K 0 N52)))) ∧ ((ow_and (ow_sc C l3) 31) ≠ 25 → ((ow_and (ow_sc C l3) 31) = 26 → ow_I (l3 + 1) ∧ 0 ≤ (l3 + 1) ∧ (l3 + 1) < (C.2.2.2.2.1.2.1 : Int) ∧ ow_O E M l1 11 ∧ ow_Sp C E d mX11_about (0, 0) [(3, l1), (0, ow_sc C (l3 + 1))] M (fun r53 N53 => ow_I (l3 + 1) ∧ 0 ≤ (l3 + 1) ∧ (l3 + 1) < (C.2.2.2.2.1.2.1 : Int) ∧ ow_O E N53 l2 12 ∧ ow_Sp C E d mX12_about (0, 0) [(3, l2), (0, ow_sc C (l3 + 1))] N53 (fun r54 N54 => (r53 = r54 → ow_I (l3 + 6) ∧ ow_At C E (d + 1) mL_law 38 [(0, (3, 999)), (1, (3, l1)), (2, (3, l2)), (3, (0, l3 + 6))] [] (bc + 0, bs + 0) N54 K) ∧ (r53 ≠ r54 → K 0 N54)))) ∧ ((ow_and (ow_sc C l3) 31) ≠ 26 → ow_I (l3 + 6) ∧ ow_At C E (d + 1) mL_law 38 [(0, (3, 999)), (1, (3, l1)), (2, (3, l2)), (3, (0, l3 + 6))] [] (bc + 0, bs + 0) M K))))))))))))))))))))))))))))) : ow_At C E (d + 1) mL_law 38 [(0, (3, 999)), (1, (3, l1)), (2, (3, l2)), (3, (0, l3))] [] (bc + 0, bs + 0) M K := by
  refine ow_iload_n (pc' := 39) (x := l3) dL_law_38 rfl rfl ?_
  refine ow_aload_n (pc' := 40) (x := 999) dL_law_39 rfl rfl ?_
  obtain ⟨w, h⟩ := h
  refine ow_sclen (pc' := 41) dL_law_40 rfl w ?_
  refine ow_bipush (pc' := 43) (n := 6) dL_law_41 rfl rfl ?_
  obtain ⟨w, h⟩ := h
  refine ow_isub (pc' := 44) dL_law_43 w rfl ?_
  refine ow_icmpgt (pc' := 47) (tg := 1095) dL_law_44 rfl rfl (fun hc => ?_) (fun hc => ?_)
  · have h := h.1 hc
    refine ow_iconst (pc' := 1096) (n := 1) dL_law_1095 rfl rfl ?_
    refine ow_less (b' := (0, 0)) rfl rfl ?_
    exact ow_zret dL_law_1096 rfl rfl (Or.inr rfl) h
  · have h := h.2 hc
    refine ow_aload_n (pc' := 48) (x := 999) dL_law_47 rfl rfl ?_
    refine ow_iload_n (pc' := 49) (x := l3) dL_law_48 rfl rfl ?_
    obtain ⟨w, w1, h⟩ := h
    refine ow_scload (pc' := 50) dL_law_49 rfl w w1 ?_
    refine ow_bipush (pc' := 52) (n := 31) dL_law_50 rfl rfl ?_
    refine ow_iand (pc' := 53) dL_law_52 rfl ?_
    refine ow_tsw (tbl := [(0, 176), (1, 209), (2, 232), (3, 295), (4, 318), (5, 331), (6, 354), (7, 377), (8, 400), (9, 423), (10, 466), (11, 510), (12, 563), (13, 606), (14, 660), (15, 703), (16, 766), (17, 789), (18, 832), (19, 875), (20, 898), (21, 921), (22, 964), (23, 997), (24, 1040), (25, 1053), (26, 1066)]) (td := 1089) dL_law_53 rfl rfl rfl rfl ?_
    refine And.intro (fun hc => ?_) (fun hc => ?_)
    · have h := h.1 hc
      refine ow_aload_n (pc' := 177) (x := l1) dL_law_176 rfl rfl ?_
      refine ow_aload_n (pc' := 178) (x := 999) dL_law_177 rfl rfl ?_
      refine ow_iload_n (pc' := 179) (x := l3) dL_law_178 rfl rfl ?_
      refine ow_iconst (pc' := 180) (n := 1) dL_law_179 rfl rfl ?_
      obtain ⟨w, h⟩ := h
      refine ow_iadd (pc' := 181) dL_law_180 w rfl ?_
      obtain ⟨w, w1, h⟩ := h
      refine ow_scload (pc' := 182) dL_law_181 rfl w w1 ?_
      refine ow_aload_n (pc' := 183) (x := 999) dL_law_182 rfl rfl ?_
      refine ow_iload_n (pc' := 184) (x := l3) dL_law_183 rfl rfl ?_
      refine ow_iconst (pc' := 185) (n := 2) dL_law_184 rfl rfl ?_
      obtain ⟨w, h⟩ := h
      refine ow_iadd (pc' := 186) dL_law_185 w rfl ?_
      obtain ⟨w, w1, h⟩ := h
      refine ow_scload (pc' := 187) dL_law_186 rfl w w1 ?_
      obtain ⟨w, h⟩ := h
      refine ow_callVp (z := mX11_put) (n := 2) (k := 11) (vs := [(0, ow_sc C (l3 + 1)), (0, ow_sc C (l3 + 2))]) (x := l1) (st := []) (pc' := 190) (b1 := (0, 0)) (b2 := (bc + 0, bs + 0)) dL_law_187 lRL_21 kX11_put iX11_put rfl rfl rfl rfl rfl (Prod.ext (Nat.zero_add _).symm (Nat.zero_add _).symm) w (ow_Sp.mono h (fun r1 N1 h => ?_))
      refine ow_aload_n (pc' := 191) (x := l2) dL_law_190 rfl rfl ?_
      refine ow_aload_n (pc' := 192) (x := 999) dL_law_191 rfl rfl ?_
      refine ow_iload_n (pc' := 193) (x := l3) dL_law_192 rfl rfl ?_
      refine ow_iconst (pc' := 194) (n := 1) dL_law_193 rfl rfl ?_
      obtain ⟨w, h⟩ := h
      refine ow_iadd (pc' := 195) dL_law_194 w rfl ?_
      obtain ⟨w, w1, h⟩ := h
      refine ow_scload (pc' := 196) dL_law_195 rfl w w1 ?_
      refine ow_aload_n (pc' := 197) (x := 999) dL_law_196 rfl rfl ?_
      refine ow_iload_n (pc' := 198) (x := l3) dL_law_197 rfl rfl ?_
      refine ow_iconst (pc' := 199) (n := 2) dL_law_198 rfl rfl ?_
      obtain ⟨w, h⟩ := h
      refine ow_iadd (pc' := 200) dL_law_199 w rfl ?_
      obtain ⟨w, w1, h⟩ := h
      refine ow_scload (pc' := 201) dL_law_200 rfl w w1 ?_
      obtain ⟨w, h⟩ := h
      refine ow_callVp (z := mX12_put) (n := 2) (k := 12) (vs := [(0, ow_sc C (l3 + 1)), (0, ow_sc C (l3 + 2))]) (x := l2) (st := [(0, r1)]) (pc' := 204) (b1 := (0, 0)) (b2 := (bc + 0, bs + 0)) dL_law_201 lRL_25 kX12_put iX12_put rfl rfl rfl rfl rfl (Prod.ext (Nat.zero_add _).symm (Nat.zero_add _).symm) w (ow_Sp.mono h (fun r2 N2 h => ?_))
      refine ow_icmpeq (pc' := 207) (tg := 1089) dL_law_204 rfl rfl (fun hc => ?_) (fun hc => ?_)
      · have h := h.1 hc
        obtain ⟨w, h⟩ := h
        refine ow_iinc (pc' := 1092) (lv' := [(0, (3, 999)), (1, (3, l1)), (2, (3, l2)), (3, (0, l3 + 6))]) dL_law_1089 rfl w rfl rfl rfl ?_
        refine ow_goto (tg := 38) dL_law_1092 rfl ?_
        exact h
      · have h := h.2 hc
        refine ow_iconst (pc' := 208) (n := 0) dL_law_207 rfl rfl ?_
        refine ow_less (b' := (0, 0)) rfl rfl ?_
        exact ow_zret dL_law_208 rfl rfl (Or.inl rfl) h
    have h := h.2 hc
    refine And.intro (fun hc => ?_) (fun hc => ?_)
    · have h := h.1 hc
      refine ow_aload_n (pc' := 210) (x := l1) dL_law_209 rfl rfl ?_
      refine ow_aload_n (pc' := 211) (x := 999) dL_law_210 rfl rfl ?_
      refine ow_iload_n (pc' := 212) (x := l3) dL_law_211 rfl rfl ?_
      refine ow_iconst (pc' := 213) (n := 1) dL_law_212 rfl rfl ?_
      obtain ⟨w, h⟩ := h
      refine ow_iadd (pc' := 214) dL_law_213 w rfl ?_
      obtain ⟨w, w1, h⟩ := h
      refine ow_scload (pc' := 215) dL_law_214 rfl w w1 ?_
      obtain ⟨w, h⟩ := h
      refine ow_callVp (z := mX11_take) (n := 1) (k := 11) (vs := [(0, ow_sc C (l3 + 1))]) (x := l1) (st := []) (pc' := 218) (b1 := (0, 0)) (b2 := (bc + 0, bs + 0)) dL_law_215 lRL_26 kX11_take iX11_take rfl rfl rfl rfl rfl (Prod.ext (Nat.zero_add _).symm (Nat.zero_add _).symm) w (ow_Sp.mono h (fun r3 N3 h => ?_))
      refine ow_aload_n (pc' := 219) (x := l2) dL_law_218 rfl rfl ?_
      refine ow_aload_n (pc' := 220) (x := 999) dL_law_219 rfl rfl ?_
      refine ow_iload_n (pc' := 221) (x := l3) dL_law_220 rfl rfl ?_
      refine ow_iconst (pc' := 222) (n := 1) dL_law_221 rfl rfl ?_
      obtain ⟨w, h⟩ := h
      refine ow_iadd (pc' := 223) dL_law_222 w rfl ?_
      obtain ⟨w, w1, h⟩ := h
      refine ow_scload (pc' := 224) dL_law_223 rfl w w1 ?_
      obtain ⟨w, h⟩ := h
      refine ow_callVp (z := mX12_take) (n := 1) (k := 12) (vs := [(0, ow_sc C (l3 + 1))]) (x := l2) (st := [(0, r3)]) (pc' := 227) (b1 := (0, 0)) (b2 := (bc + 0, bs + 0)) dL_law_224 lRL_30 kX12_take iX12_take rfl rfl rfl rfl rfl (Prod.ext (Nat.zero_add _).symm (Nat.zero_add _).symm) w (ow_Sp.mono h (fun r4 N4 h => ?_))
      refine ow_icmpeq (pc' := 230) (tg := 1089) dL_law_227 rfl rfl (fun hc => ?_) (fun hc => ?_)
      · have h := h.1 hc
        obtain ⟨w, h⟩ := h
        refine ow_iinc (pc' := 1092) (lv' := [(0, (3, 999)), (1, (3, l1)), (2, (3, l2)), (3, (0, l3 + 6))]) dL_law_1089 rfl w rfl rfl rfl ?_
        refine ow_goto (tg := 38) dL_law_1092 rfl ?_
        exact h
      · have h := h.2 hc
        refine ow_iconst (pc' := 231) (n := 0) dL_law_230 rfl rfl ?_
        refine ow_less (b' := (0, 0)) rfl rfl ?_
        exact ow_zret dL_law_231 rfl rfl (Or.inl rfl) h
    have h := h.2 hc
    refine And.intro (fun hc => ?_) (fun hc => ?_)
    · have h := h.1 hc
      refine ow_aload_n (pc' := 233) (x := l1) dL_law_232 rfl rfl ?_
      refine ow_aload_n (pc' := 234) (x := 999) dL_law_233 rfl rfl ?_
      refine ow_iload_n (pc' := 235) (x := l3) dL_law_234 rfl rfl ?_
      refine ow_iconst (pc' := 236) (n := 1) dL_law_235 rfl rfl ?_
      obtain ⟨w, h⟩ := h
      refine ow_iadd (pc' := 237) dL_law_236 w rfl ?_
      obtain ⟨w, w1, h⟩ := h
      refine ow_scload (pc' := 238) dL_law_237 rfl w w1 ?_
      refine ow_aload_n (pc' := 239) (x := 999) dL_law_238 rfl rfl ?_
      refine ow_iload_n (pc' := 240) (x := l3) dL_law_239 rfl rfl ?_
      refine ow_iconst (pc' := 241) (n := 2) dL_law_240 rfl rfl ?_
      obtain ⟨w, h⟩ := h
      refine ow_iadd (pc' := 242) dL_law_241 w rfl ?_
      obtain ⟨w, w1, h⟩ := h
      refine ow_scload (pc' := 243) dL_law_242 rfl w w1 ?_
      refine ow_aload_n (pc' := 244) (x := 999) dL_law_243 rfl rfl ?_
      refine ow_iload_n (pc' := 245) (x := l3) dL_law_244 rfl rfl ?_
      refine ow_iconst (pc' := 246) (n := 3) dL_law_245 rfl rfl ?_
      obtain ⟨w, h⟩ := h
      refine ow_iadd (pc' := 247) dL_law_246 w rfl ?_
      obtain ⟨w, w1, h⟩ := h
      refine ow_scload (pc' := 248) dL_law_247 rfl w w1 ?_
      refine ow_aload_n (pc' := 249) (x := 999) dL_law_248 rfl rfl ?_
      refine ow_iload_n (pc' := 250) (x := l3) dL_law_249 rfl rfl ?_
      refine ow_iconst (pc' := 251) (n := 4) dL_law_250 rfl rfl ?_
      obtain ⟨w, h⟩ := h
      refine ow_iadd (pc' := 252) dL_law_251 w rfl ?_
      obtain ⟨w, w1, h⟩ := h
      refine ow_scload (pc' := 253) dL_law_252 rfl w w1 ?_
      refine ow_aload_n (pc' := 254) (x := 999) dL_law_253 rfl rfl ?_
      refine ow_iload_n (pc' := 255) (x := l3) dL_law_254 rfl rfl ?_
      refine ow_iconst (pc' := 256) (n := 5) dL_law_255 rfl rfl ?_
      obtain ⟨w, h⟩ := h
      refine ow_iadd (pc' := 257) dL_law_256 w rfl ?_
      obtain ⟨w, w1, h⟩ := h
      refine ow_scload (pc' := 258) dL_law_257 rfl w w1 ?_
      obtain ⟨w, h⟩ := h
      refine ow_callVp (z := mX11_feed) (n := 5) (k := 11) (vs := [(0, ow_sc C (l3 + 1)), (0, ow_sc C (l3 + 2)), (0, ow_sc C (l3 + 3)), (0, ow_sc C (l3 + 4)), (0, ow_sc C (l3 + 5))]) (x := l1) (st := []) (pc' := 261) (b1 := (0, 0)) (b2 := (bc + 0, bs + 0)) dL_law_258 lRL_31 kX11_feed iX11_feed rfl rfl rfl rfl rfl (Prod.ext (Nat.zero_add _).symm (Nat.zero_add _).symm) w (ow_Sp.mono h (fun r5 N5 h => ?_))
      refine ow_aload_n (pc' := 262) (x := l2) dL_law_261 rfl rfl ?_
      refine ow_aload_n (pc' := 263) (x := 999) dL_law_262 rfl rfl ?_
      refine ow_iload_n (pc' := 264) (x := l3) dL_law_263 rfl rfl ?_
      refine ow_iconst (pc' := 265) (n := 1) dL_law_264 rfl rfl ?_
      obtain ⟨w, h⟩ := h
      refine ow_iadd (pc' := 266) dL_law_265 w rfl ?_
      obtain ⟨w, w1, h⟩ := h
      refine ow_scload (pc' := 267) dL_law_266 rfl w w1 ?_
      refine ow_aload_n (pc' := 268) (x := 999) dL_law_267 rfl rfl ?_
      refine ow_iload_n (pc' := 269) (x := l3) dL_law_268 rfl rfl ?_
      refine ow_iconst (pc' := 270) (n := 2) dL_law_269 rfl rfl ?_
      obtain ⟨w, h⟩ := h
      refine ow_iadd (pc' := 271) dL_law_270 w rfl ?_
      obtain ⟨w, w1, h⟩ := h
      refine ow_scload (pc' := 272) dL_law_271 rfl w w1 ?_
      refine ow_aload_n (pc' := 273) (x := 999) dL_law_272 rfl rfl ?_
      refine ow_iload_n (pc' := 274) (x := l3) dL_law_273 rfl rfl ?_
      refine ow_iconst (pc' := 275) (n := 3) dL_law_274 rfl rfl ?_
      obtain ⟨w, h⟩ := h
      refine ow_iadd (pc' := 276) dL_law_275 w rfl ?_
      obtain ⟨w, w1, h⟩ := h
      refine ow_scload (pc' := 277) dL_law_276 rfl w w1 ?_
      refine ow_aload_n (pc' := 278) (x := 999) dL_law_277 rfl rfl ?_
      refine ow_iload_n (pc' := 279) (x := l3) dL_law_278 rfl rfl ?_
      refine ow_iconst (pc' := 280) (n := 4) dL_law_279 rfl rfl ?_
      obtain ⟨w, h⟩ := h
      refine ow_iadd (pc' := 281) dL_law_280 w rfl ?_
      obtain ⟨w, w1, h⟩ := h
      refine ow_scload (pc' := 282) dL_law_281 rfl w w1 ?_
      refine ow_aload_n (pc' := 283) (x := 999) dL_law_282 rfl rfl ?_
      refine ow_iload_n (pc' := 284) (x := l3) dL_law_283 rfl rfl ?_
      refine ow_iconst (pc' := 285) (n := 5) dL_law_284 rfl rfl ?_
      obtain ⟨w, h⟩ := h
      refine ow_iadd (pc' := 286) dL_law_285 w rfl ?_
      obtain ⟨w, w1, h⟩ := h
      refine ow_scload (pc' := 287) dL_law_286 rfl w w1 ?_
      obtain ⟨w, h⟩ := h
      refine ow_callVp (z := mX12_feed) (n := 5) (k := 12) (vs := [(0, ow_sc C (l3 + 1)), (0, ow_sc C (l3 + 2)), (0, ow_sc C (l3 + 3)), (0, ow_sc C (l3 + 4)), (0, ow_sc C (l3 + 5))]) (x := l2) (st := [(0, r5)]) (pc' := 290) (b1 := (0, 0)) (b2 := (bc + 0, bs + 0)) dL_law_287 lRL_35 kX12_feed iX12_feed rfl rfl rfl rfl rfl (Prod.ext (Nat.zero_add _).symm (Nat.zero_add _).symm) w (ow_Sp.mono h (fun r6 N6 h => ?_))
      refine ow_icmpeq (pc' := 293) (tg := 1089) dL_law_290 rfl rfl (fun hc => ?_) (fun hc => ?_)
      · have h := h.1 hc
        obtain ⟨w, h⟩ := h
        refine ow_iinc (pc' := 1092) (lv' := [(0, (3, 999)), (1, (3, l1)), (2, (3, l2)), (3, (0, l3 + 6))]) dL_law_1089 rfl w rfl rfl rfl ?_
        refine ow_goto (tg := 38) dL_law_1092 rfl ?_
        exact h
      · have h := h.2 hc
        refine ow_iconst (pc' := 294) (n := 0) dL_law_293 rfl rfl ?_
        refine ow_less (b' := (0, 0)) rfl rfl ?_
        exact ow_zret dL_law_294 rfl rfl (Or.inl rfl) h
    have h := h.2 hc
    refine And.intro (fun hc => ?_) (fun hc => ?_)
    · have h := h.1 hc
      refine ow_aload_n (pc' := 296) (x := l1) dL_law_295 rfl rfl ?_
      refine ow_aload_n (pc' := 297) (x := 999) dL_law_296 rfl rfl ?_
      refine ow_iload_n (pc' := 298) (x := l3) dL_law_297 rfl rfl ?_
      refine ow_iconst (pc' := 299) (n := 1) dL_law_298 rfl rfl ?_
      obtain ⟨w, h⟩ := h
      refine ow_iadd (pc' := 300) dL_law_299 w rfl ?_
      obtain ⟨w, w1, h⟩ := h
      refine ow_scload (pc' := 301) dL_law_300 rfl w w1 ?_
      obtain ⟨w, h⟩ := h
      refine ow_callVp (z := mX11_end) (n := 1) (k := 11) (vs := [(0, ow_sc C (l3 + 1))]) (x := l1) (st := []) (pc' := 304) (b1 := (0, 0)) (b2 := (bc + 0, bs + 0)) dL_law_301 lRL_36 kX11_end iX11_end rfl rfl rfl rfl rfl (Prod.ext (Nat.zero_add _).symm (Nat.zero_add _).symm) w (ow_Sp.mono h (fun r7 N7 h => ?_))
      refine ow_aload_n (pc' := 305) (x := l2) dL_law_304 rfl rfl ?_
      refine ow_aload_n (pc' := 306) (x := 999) dL_law_305 rfl rfl ?_
      refine ow_iload_n (pc' := 307) (x := l3) dL_law_306 rfl rfl ?_
      refine ow_iconst (pc' := 308) (n := 1) dL_law_307 rfl rfl ?_
      obtain ⟨w, h⟩ := h
      refine ow_iadd (pc' := 309) dL_law_308 w rfl ?_
      obtain ⟨w, w1, h⟩ := h
      refine ow_scload (pc' := 310) dL_law_309 rfl w w1 ?_
      obtain ⟨w, h⟩ := h
      refine ow_callVp (z := mX12_end) (n := 1) (k := 12) (vs := [(0, ow_sc C (l3 + 1))]) (x := l2) (st := [(0, r7)]) (pc' := 313) (b1 := (0, 0)) (b2 := (bc + 0, bs + 0)) dL_law_310 lRL_39 kX12_end iX12_end rfl rfl rfl rfl rfl (Prod.ext (Nat.zero_add _).symm (Nat.zero_add _).symm) w (ow_Sp.mono h (fun r8 N8 h => ?_))
      refine ow_icmpeq (pc' := 316) (tg := 1089) dL_law_313 rfl rfl (fun hc => ?_) (fun hc => ?_)
      · have h := h.1 hc
        obtain ⟨w, h⟩ := h
        refine ow_iinc (pc' := 1092) (lv' := [(0, (3, 999)), (1, (3, l1)), (2, (3, l2)), (3, (0, l3 + 6))]) dL_law_1089 rfl w rfl rfl rfl ?_
        refine ow_goto (tg := 38) dL_law_1092 rfl ?_
        exact h
      · have h := h.2 hc
        refine ow_iconst (pc' := 317) (n := 0) dL_law_316 rfl rfl ?_
        refine ow_less (b' := (0, 0)) rfl rfl ?_
        exact ow_zret dL_law_317 rfl rfl (Or.inl rfl) h
    have h := h.2 hc
    refine And.intro (fun hc => ?_) (fun hc => ?_)
    · have h := h.1 hc
      refine ow_aload_n (pc' := 319) (x := l1) dL_law_318 rfl rfl ?_
      obtain ⟨w, h⟩ := h
      refine ow_callVp (z := mX11_text) (n := 0) (k := 11) (vs := []) (x := l1) (st := []) (pc' := 322) (b1 := (0, 0)) (b2 := (bc + 0, bs + 0)) dL_law_319 lRL_40 kX11_text iX11_text rfl rfl rfl rfl rfl (Prod.ext (Nat.zero_add _).symm (Nat.zero_add _).symm) w (ow_Sp.mono h (fun r9 N9 h => ?_))
      refine ow_aload_n (pc' := 323) (x := l2) dL_law_322 rfl rfl ?_
      obtain ⟨w, h⟩ := h
      refine ow_callVp (z := mX12_text) (n := 0) (k := 12) (vs := []) (x := l2) (st := [(0, r9)]) (pc' := 326) (b1 := (0, 0)) (b2 := (bc + 0, bs + 0)) dL_law_323 lRL_44 kX12_text iX12_text rfl rfl rfl rfl rfl (Prod.ext (Nat.zero_add _).symm (Nat.zero_add _).symm) w (ow_Sp.mono h (fun r10 N10 h => ?_))
      refine ow_icmpeq (pc' := 329) (tg := 1089) dL_law_326 rfl rfl (fun hc => ?_) (fun hc => ?_)
      · have h := h.1 hc
        obtain ⟨w, h⟩ := h
        refine ow_iinc (pc' := 1092) (lv' := [(0, (3, 999)), (1, (3, l1)), (2, (3, l2)), (3, (0, l3 + 6))]) dL_law_1089 rfl w rfl rfl rfl ?_
        refine ow_goto (tg := 38) dL_law_1092 rfl ?_
        exact h
      · have h := h.2 hc
        refine ow_iconst (pc' := 330) (n := 0) dL_law_329 rfl rfl ?_
        refine ow_less (b' := (0, 0)) rfl rfl ?_
        exact ow_zret dL_law_330 rfl rfl (Or.inl rfl) h
    have h := h.2 hc
    refine And.intro (fun hc => ?_) (fun hc => ?_)
    · have h := h.1 hc
      refine ow_aload_n (pc' := 332) (x := l1) dL_law_331 rfl rfl ?_
      refine ow_aload_n (pc' := 333) (x := 999) dL_law_332 rfl rfl ?_
      refine ow_iload_n (pc' := 334) (x := l3) dL_law_333 rfl rfl ?_
      refine ow_iconst (pc' := 335) (n := 1) dL_law_334 rfl rfl ?_
      obtain ⟨w, h⟩ := h
      refine ow_iadd (pc' := 336) dL_law_335 w rfl ?_
      obtain ⟨w, w1, h⟩ := h
      refine ow_scload (pc' := 337) dL_law_336 rfl w w1 ?_
      obtain ⟨w, h⟩ := h
      refine ow_callVp (z := mX11_fault) (n := 1) (k := 11) (vs := [(0, ow_sc C (l3 + 1))]) (x := l1) (st := []) (pc' := 340) (b1 := (0, 0)) (b2 := (bc + 0, bs + 0)) dL_law_337 lRL_45 kX11_fault iX11_fault rfl rfl rfl rfl rfl (Prod.ext (Nat.zero_add _).symm (Nat.zero_add _).symm) w (ow_Sp.mono h (fun r11 N11 h => ?_))
      refine ow_aload_n (pc' := 341) (x := l2) dL_law_340 rfl rfl ?_
      refine ow_aload_n (pc' := 342) (x := 999) dL_law_341 rfl rfl ?_
      refine ow_iload_n (pc' := 343) (x := l3) dL_law_342 rfl rfl ?_
      refine ow_iconst (pc' := 344) (n := 1) dL_law_343 rfl rfl ?_
      obtain ⟨w, h⟩ := h
      refine ow_iadd (pc' := 345) dL_law_344 w rfl ?_
      obtain ⟨w, w1, h⟩ := h
      refine ow_scload (pc' := 346) dL_law_345 rfl w w1 ?_
      obtain ⟨w, h⟩ := h
      refine ow_callVp (z := mX12_fault) (n := 1) (k := 12) (vs := [(0, ow_sc C (l3 + 1))]) (x := l2) (st := [(0, r11)]) (pc' := 349) (b1 := (0, 0)) (b2 := (bc + 0, bs + 0)) dL_law_346 lRL_48 kX12_fault iX12_fault rfl rfl rfl rfl rfl (Prod.ext (Nat.zero_add _).symm (Nat.zero_add _).symm) w (ow_Sp.mono h (fun r12 N12 h => ?_))
      refine ow_icmpeq (pc' := 352) (tg := 1089) dL_law_349 rfl rfl (fun hc => ?_) (fun hc => ?_)
      · have h := h.1 hc
        obtain ⟨w, h⟩ := h
        refine ow_iinc (pc' := 1092) (lv' := [(0, (3, 999)), (1, (3, l1)), (2, (3, l2)), (3, (0, l3 + 6))]) dL_law_1089 rfl w rfl rfl rfl ?_
        refine ow_goto (tg := 38) dL_law_1092 rfl ?_
        exact h
      · have h := h.2 hc
        refine ow_iconst (pc' := 353) (n := 0) dL_law_352 rfl rfl ?_
        refine ow_less (b' := (0, 0)) rfl rfl ?_
        exact ow_zret dL_law_353 rfl rfl (Or.inl rfl) h
    have h := h.2 hc
    refine And.intro (fun hc => ?_) (fun hc => ?_)
    · have h := h.1 hc
      refine ow_aload_n (pc' := 355) (x := l1) dL_law_354 rfl rfl ?_
      refine ow_aload_n (pc' := 356) (x := 999) dL_law_355 rfl rfl ?_
      refine ow_iload_n (pc' := 357) (x := l3) dL_law_356 rfl rfl ?_
      refine ow_iconst (pc' := 358) (n := 1) dL_law_357 rfl rfl ?_
      obtain ⟨w, h⟩ := h
      refine ow_iadd (pc' := 359) dL_law_358 w rfl ?_
      obtain ⟨w, w1, h⟩ := h
      refine ow_scload (pc' := 360) dL_law_359 rfl w w1 ?_
      obtain ⟨w, h⟩ := h
      refine ow_callVp (z := mX11_by) (n := 1) (k := 11) (vs := [(0, ow_sc C (l3 + 1))]) (x := l1) (st := []) (pc' := 363) (b1 := (0, 0)) (b2 := (bc + 0, bs + 0)) dL_law_360 lRL_49 kX11_by iX11_by rfl rfl rfl rfl rfl (Prod.ext (Nat.zero_add _).symm (Nat.zero_add _).symm) w (ow_Sp.mono h (fun r13 N13 h => ?_))
      refine ow_aload_n (pc' := 364) (x := l2) dL_law_363 rfl rfl ?_
      refine ow_aload_n (pc' := 365) (x := 999) dL_law_364 rfl rfl ?_
      refine ow_iload_n (pc' := 366) (x := l3) dL_law_365 rfl rfl ?_
      refine ow_iconst (pc' := 367) (n := 1) dL_law_366 rfl rfl ?_
      obtain ⟨w, h⟩ := h
      refine ow_iadd (pc' := 368) dL_law_367 w rfl ?_
      obtain ⟨w, w1, h⟩ := h
      refine ow_scload (pc' := 369) dL_law_368 rfl w w1 ?_
      obtain ⟨w, h⟩ := h
      refine ow_callVp (z := mX12_by) (n := 1) (k := 12) (vs := [(0, ow_sc C (l3 + 1))]) (x := l2) (st := [(0, r13)]) (pc' := 372) (b1 := (0, 0)) (b2 := (bc + 0, bs + 0)) dL_law_369 lRL_53 kX12_by iX12_by rfl rfl rfl rfl rfl (Prod.ext (Nat.zero_add _).symm (Nat.zero_add _).symm) w (ow_Sp.mono h (fun r14 N14 h => ?_))
      refine ow_icmpeq (pc' := 375) (tg := 1089) dL_law_372 rfl rfl (fun hc => ?_) (fun hc => ?_)
      · have h := h.1 hc
        obtain ⟨w, h⟩ := h
        refine ow_iinc (pc' := 1092) (lv' := [(0, (3, 999)), (1, (3, l1)), (2, (3, l2)), (3, (0, l3 + 6))]) dL_law_1089 rfl w rfl rfl rfl ?_
        refine ow_goto (tg := 38) dL_law_1092 rfl ?_
        exact h
      · have h := h.2 hc
        refine ow_iconst (pc' := 376) (n := 0) dL_law_375 rfl rfl ?_
        refine ow_less (b' := (0, 0)) rfl rfl ?_
        exact ow_zret dL_law_376 rfl rfl (Or.inl rfl) h
    have h := h.2 hc
    refine And.intro (fun hc => ?_) (fun hc => ?_)
    · have h := h.1 hc
      refine ow_aload_n (pc' := 378) (x := l1) dL_law_377 rfl rfl ?_
      refine ow_aload_n (pc' := 379) (x := 999) dL_law_378 rfl rfl ?_
      refine ow_iload_n (pc' := 380) (x := l3) dL_law_379 rfl rfl ?_
      refine ow_iconst (pc' := 381) (n := 1) dL_law_380 rfl rfl ?_
      obtain ⟨w, h⟩ := h
      refine ow_iadd (pc' := 382) dL_law_381 w rfl ?_
      obtain ⟨w, w1, h⟩ := h
      refine ow_scload (pc' := 383) dL_law_382 rfl w w1 ?_
      obtain ⟨w, h⟩ := h
      refine ow_callVp (z := mX11_filled) (n := 1) (k := 11) (vs := [(0, ow_sc C (l3 + 1))]) (x := l1) (st := []) (pc' := 386) (b1 := (0, 0)) (b2 := (bc + 0, bs + 0)) dL_law_383 lRL_54 kX11_filled iX11_filled rfl rfl rfl rfl rfl (Prod.ext (Nat.zero_add _).symm (Nat.zero_add _).symm) w (ow_Sp.mono h (fun r15 N15 h => ?_))
      refine ow_aload_n (pc' := 387) (x := l2) dL_law_386 rfl rfl ?_
      refine ow_aload_n (pc' := 388) (x := 999) dL_law_387 rfl rfl ?_
      refine ow_iload_n (pc' := 389) (x := l3) dL_law_388 rfl rfl ?_
      refine ow_iconst (pc' := 390) (n := 1) dL_law_389 rfl rfl ?_
      obtain ⟨w, h⟩ := h
      refine ow_iadd (pc' := 391) dL_law_390 w rfl ?_
      obtain ⟨w, w1, h⟩ := h
      refine ow_scload (pc' := 392) dL_law_391 rfl w w1 ?_
      obtain ⟨w, h⟩ := h
      refine ow_callVp (z := mX12_filled) (n := 1) (k := 12) (vs := [(0, ow_sc C (l3 + 1))]) (x := l2) (st := [(0, r15)]) (pc' := 395) (b1 := (0, 0)) (b2 := (bc + 0, bs + 0)) dL_law_392 lRL_57 kX12_filled iX12_filled rfl rfl rfl rfl rfl (Prod.ext (Nat.zero_add _).symm (Nat.zero_add _).symm) w (ow_Sp.mono h (fun r16 N16 h => ?_))
      refine ow_icmpeq (pc' := 398) (tg := 1089) dL_law_395 rfl rfl (fun hc => ?_) (fun hc => ?_)
      · have h := h.1 hc
        obtain ⟨w, h⟩ := h
        refine ow_iinc (pc' := 1092) (lv' := [(0, (3, 999)), (1, (3, l1)), (2, (3, l2)), (3, (0, l3 + 6))]) dL_law_1089 rfl w rfl rfl rfl ?_
        refine ow_goto (tg := 38) dL_law_1092 rfl ?_
        exact h
      · have h := h.2 hc
        refine ow_iconst (pc' := 399) (n := 0) dL_law_398 rfl rfl ?_
        refine ow_less (b' := (0, 0)) rfl rfl ?_
        exact ow_zret dL_law_399 rfl rfl (Or.inl rfl) h
    have h := h.2 hc
    refine And.intro (fun hc => ?_) (fun hc => ?_)
    · have h := h.1 hc
      refine ow_aload_n (pc' := 401) (x := l1) dL_law_400 rfl rfl ?_
      refine ow_aload_n (pc' := 402) (x := 999) dL_law_401 rfl rfl ?_
      refine ow_iload_n (pc' := 403) (x := l3) dL_law_402 rfl rfl ?_
      refine ow_iconst (pc' := 404) (n := 1) dL_law_403 rfl rfl ?_
      obtain ⟨w, h⟩ := h
      refine ow_iadd (pc' := 405) dL_law_404 w rfl ?_
      obtain ⟨w, w1, h⟩ := h
      refine ow_scload (pc' := 406) dL_law_405 rfl w w1 ?_
      obtain ⟨w, h⟩ := h
      refine ow_callVp (z := mX11_book) (n := 1) (k := 11) (vs := [(0, ow_sc C (l3 + 1))]) (x := l1) (st := []) (pc' := 409) (b1 := (0, 0)) (b2 := (bc + 0, bs + 0)) dL_law_406 lRL_58 kX11_book iX11_book rfl rfl rfl rfl rfl (Prod.ext (Nat.zero_add _).symm (Nat.zero_add _).symm) w (ow_Sp.mono h (fun r17 N17 h => ?_))
      refine ow_aload_n (pc' := 410) (x := l2) dL_law_409 rfl rfl ?_
      refine ow_aload_n (pc' := 411) (x := 999) dL_law_410 rfl rfl ?_
      refine ow_iload_n (pc' := 412) (x := l3) dL_law_411 rfl rfl ?_
      refine ow_iconst (pc' := 413) (n := 1) dL_law_412 rfl rfl ?_
      obtain ⟨w, h⟩ := h
      refine ow_iadd (pc' := 414) dL_law_413 w rfl ?_
      obtain ⟨w, w1, h⟩ := h
      refine ow_scload (pc' := 415) dL_law_414 rfl w w1 ?_
      obtain ⟨w, h⟩ := h
      refine ow_callVp (z := mX12_book) (n := 1) (k := 12) (vs := [(0, ow_sc C (l3 + 1))]) (x := l2) (st := [(0, r17)]) (pc' := 418) (b1 := (0, 0)) (b2 := (bc + 0, bs + 0)) dL_law_415 lRL_61 kX12_book iX12_book rfl rfl rfl rfl rfl (Prod.ext (Nat.zero_add _).symm (Nat.zero_add _).symm) w (ow_Sp.mono h (fun r18 N18 h => ?_))
      refine ow_icmpeq (pc' := 421) (tg := 1089) dL_law_418 rfl rfl (fun hc => ?_) (fun hc => ?_)
      · have h := h.1 hc
        obtain ⟨w, h⟩ := h
        refine ow_iinc (pc' := 1092) (lv' := [(0, (3, 999)), (1, (3, l1)), (2, (3, l2)), (3, (0, l3 + 6))]) dL_law_1089 rfl w rfl rfl rfl ?_
        refine ow_goto (tg := 38) dL_law_1092 rfl ?_
        exact h
      · have h := h.2 hc
        refine ow_iconst (pc' := 422) (n := 0) dL_law_421 rfl rfl ?_
        refine ow_less (b' := (0, 0)) rfl rfl ?_
        exact ow_zret dL_law_422 rfl rfl (Or.inl rfl) h
    have h := h.2 hc
    refine And.intro (fun hc => ?_) (fun hc => ?_)
    · have h := h.1 hc
      refine ow_aload_n (pc' := 424) (x := l1) dL_law_423 rfl rfl ?_
      refine ow_aload_n (pc' := 425) (x := 999) dL_law_424 rfl rfl ?_
      refine ow_iload_n (pc' := 426) (x := l3) dL_law_425 rfl rfl ?_
      refine ow_iconst (pc' := 427) (n := 1) dL_law_426 rfl rfl ?_
      obtain ⟨w, h⟩ := h
      refine ow_iadd (pc' := 428) dL_law_427 w rfl ?_
      obtain ⟨w, w1, h⟩ := h
      refine ow_scload (pc' := 429) dL_law_428 rfl w w1 ?_
      refine ow_aload_n (pc' := 430) (x := 999) dL_law_429 rfl rfl ?_
      refine ow_iload_n (pc' := 431) (x := l3) dL_law_430 rfl rfl ?_
      refine ow_iconst (pc' := 432) (n := 2) dL_law_431 rfl rfl ?_
      obtain ⟨w, h⟩ := h
      refine ow_iadd (pc' := 433) dL_law_432 w rfl ?_
      obtain ⟨w, w1, h⟩ := h
      refine ow_scload (pc' := 434) dL_law_433 rfl w w1 ?_
      refine ow_aload_n (pc' := 435) (x := 999) dL_law_434 rfl rfl ?_
      refine ow_iload_n (pc' := 436) (x := l3) dL_law_435 rfl rfl ?_
      refine ow_iconst (pc' := 437) (n := 3) dL_law_436 rfl rfl ?_
      obtain ⟨w, h⟩ := h
      refine ow_iadd (pc' := 438) dL_law_437 w rfl ?_
      obtain ⟨w, w1, h⟩ := h
      refine ow_scload (pc' := 439) dL_law_438 rfl w w1 ?_
      obtain ⟨w, h⟩ := h
      refine ow_callVp (z := mX11_bars) (n := 3) (k := 11) (vs := [(0, ow_sc C (l3 + 1)), (0, ow_sc C (l3 + 2)), (0, ow_sc C (l3 + 3))]) (x := l1) (st := []) (pc' := 442) (b1 := (0, 0)) (b2 := (bc + 0, bs + 0)) dL_law_439 lRL_62 kX11_bars iX11_bars rfl rfl rfl rfl rfl (Prod.ext (Nat.zero_add _).symm (Nat.zero_add _).symm) w (ow_Sp.mono h (fun r19 N19 h => ?_))
      refine ow_aload_n (pc' := 443) (x := l2) dL_law_442 rfl rfl ?_
      refine ow_aload_n (pc' := 444) (x := 999) dL_law_443 rfl rfl ?_
      refine ow_iload_n (pc' := 445) (x := l3) dL_law_444 rfl rfl ?_
      refine ow_iconst (pc' := 446) (n := 1) dL_law_445 rfl rfl ?_
      obtain ⟨w, h⟩ := h
      refine ow_iadd (pc' := 447) dL_law_446 w rfl ?_
      obtain ⟨w, w1, h⟩ := h
      refine ow_scload (pc' := 448) dL_law_447 rfl w w1 ?_
      refine ow_aload_n (pc' := 449) (x := 999) dL_law_448 rfl rfl ?_
      refine ow_iload_n (pc' := 450) (x := l3) dL_law_449 rfl rfl ?_
      refine ow_iconst (pc' := 451) (n := 2) dL_law_450 rfl rfl ?_
      obtain ⟨w, h⟩ := h
      refine ow_iadd (pc' := 452) dL_law_451 w rfl ?_
      obtain ⟨w, w1, h⟩ := h
      refine ow_scload (pc' := 453) dL_law_452 rfl w w1 ?_
      refine ow_aload_n (pc' := 454) (x := 999) dL_law_453 rfl rfl ?_
      refine ow_iload_n (pc' := 455) (x := l3) dL_law_454 rfl rfl ?_
      refine ow_iconst (pc' := 456) (n := 3) dL_law_455 rfl rfl ?_
      obtain ⟨w, h⟩ := h
      refine ow_iadd (pc' := 457) dL_law_456 w rfl ?_
      obtain ⟨w, w1, h⟩ := h
      refine ow_scload (pc' := 458) dL_law_457 rfl w w1 ?_
      obtain ⟨w, h⟩ := h
      refine ow_callVp (z := mX12_bars) (n := 3) (k := 12) (vs := [(0, ow_sc C (l3 + 1)), (0, ow_sc C (l3 + 2)), (0, ow_sc C (l3 + 3))]) (x := l2) (st := [(0, r19)]) (pc' := 461) (b1 := (0, 0)) (b2 := (bc + 0, bs + 0)) dL_law_458 lRL_66 kX12_bars iX12_bars rfl rfl rfl rfl rfl (Prod.ext (Nat.zero_add _).symm (Nat.zero_add _).symm) w (ow_Sp.mono h (fun r20 N20 h => ?_))
      refine ow_icmpeq (pc' := 464) (tg := 1089) dL_law_461 rfl rfl (fun hc => ?_) (fun hc => ?_)
      · have h := h.1 hc
        obtain ⟨w, h⟩ := h
        refine ow_iinc (pc' := 1092) (lv' := [(0, (3, 999)), (1, (3, l1)), (2, (3, l2)), (3, (0, l3 + 6))]) dL_law_1089 rfl w rfl rfl rfl ?_
        refine ow_goto (tg := 38) dL_law_1092 rfl ?_
        exact h
      · have h := h.2 hc
        refine ow_iconst (pc' := 465) (n := 0) dL_law_464 rfl rfl ?_
        refine ow_less (b' := (0, 0)) rfl rfl ?_
        exact ow_zret dL_law_465 rfl rfl (Or.inl rfl) h
    have h := h.2 hc
    refine And.intro (fun hc => ?_) (fun hc => ?_)
    · have h := h.1 hc
      refine ow_aload_n (pc' := 467) (x := l1) dL_law_466 rfl rfl ?_
      refine ow_aload_n (pc' := 468) (x := 999) dL_law_467 rfl rfl ?_
      refine ow_iload_n (pc' := 469) (x := l3) dL_law_468 rfl rfl ?_
      refine ow_iconst (pc' := 470) (n := 1) dL_law_469 rfl rfl ?_
      obtain ⟨w, h⟩ := h
      refine ow_iadd (pc' := 471) dL_law_470 w rfl ?_
      obtain ⟨w, w1, h⟩ := h
      refine ow_scload (pc' := 472) dL_law_471 rfl w w1 ?_
      refine ow_aload_n (pc' := 473) (x := 999) dL_law_472 rfl rfl ?_
      refine ow_iload_n (pc' := 474) (x := l3) dL_law_473 rfl rfl ?_
      refine ow_iconst (pc' := 475) (n := 2) dL_law_474 rfl rfl ?_
      obtain ⟨w, h⟩ := h
      refine ow_iadd (pc' := 476) dL_law_475 w rfl ?_
      obtain ⟨w, w1, h⟩ := h
      refine ow_scload (pc' := 477) dL_law_476 rfl w w1 ?_
      refine ow_aload_n (pc' := 478) (x := 999) dL_law_477 rfl rfl ?_
      refine ow_iload_n (pc' := 479) (x := l3) dL_law_478 rfl rfl ?_
      refine ow_iconst (pc' := 480) (n := 3) dL_law_479 rfl rfl ?_
      obtain ⟨w, h⟩ := h
      refine ow_iadd (pc' := 481) dL_law_480 w rfl ?_
      obtain ⟨w, w1, h⟩ := h
      refine ow_scload (pc' := 482) dL_law_481 rfl w w1 ?_
      obtain ⟨w, h⟩ := h
      refine ow_callVp (z := mX11_ways) (n := 3) (k := 11) (vs := [(0, ow_sc C (l3 + 1)), (0, ow_sc C (l3 + 2)), (0, ow_sc C (l3 + 3))]) (x := l1) (st := []) (pc' := 485) (b1 := (0, 0)) (b2 := (bc + 0, bs + 0)) dL_law_482 lRL_67 kX11_ways iX11_ways rfl rfl rfl rfl rfl (Prod.ext (Nat.zero_add _).symm (Nat.zero_add _).symm) w (ow_Sp.mono h (fun r21 N21 h => ?_))
      refine ow_aload_n (pc' := 486) (x := l2) dL_law_485 rfl rfl ?_
      refine ow_aload_n (pc' := 487) (x := 999) dL_law_486 rfl rfl ?_
      refine ow_iload_n (pc' := 488) (x := l3) dL_law_487 rfl rfl ?_
      refine ow_iconst (pc' := 489) (n := 1) dL_law_488 rfl rfl ?_
      obtain ⟨w, h⟩ := h
      refine ow_iadd (pc' := 490) dL_law_489 w rfl ?_
      obtain ⟨w, w1, h⟩ := h
      refine ow_scload (pc' := 491) dL_law_490 rfl w w1 ?_
      refine ow_aload_n (pc' := 492) (x := 999) dL_law_491 rfl rfl ?_
      refine ow_iload_n (pc' := 493) (x := l3) dL_law_492 rfl rfl ?_
      refine ow_iconst (pc' := 494) (n := 2) dL_law_493 rfl rfl ?_
      obtain ⟨w, h⟩ := h
      refine ow_iadd (pc' := 495) dL_law_494 w rfl ?_
      obtain ⟨w, w1, h⟩ := h
      refine ow_scload (pc' := 496) dL_law_495 rfl w w1 ?_
      refine ow_aload_n (pc' := 497) (x := 999) dL_law_496 rfl rfl ?_
      refine ow_iload_n (pc' := 498) (x := l3) dL_law_497 rfl rfl ?_
      refine ow_iconst (pc' := 499) (n := 3) dL_law_498 rfl rfl ?_
      obtain ⟨w, h⟩ := h
      refine ow_iadd (pc' := 500) dL_law_499 w rfl ?_
      obtain ⟨w, w1, h⟩ := h
      refine ow_scload (pc' := 501) dL_law_500 rfl w w1 ?_
      obtain ⟨w, h⟩ := h
      refine ow_callVp (z := mX12_ways) (n := 3) (k := 12) (vs := [(0, ow_sc C (l3 + 1)), (0, ow_sc C (l3 + 2)), (0, ow_sc C (l3 + 3))]) (x := l2) (st := [(1, r21)]) (pc' := 504) (b1 := (0, 0)) (b2 := (bc + 0, bs + 0)) dL_law_501 lRL_71 kX12_ways iX12_ways rfl rfl rfl rfl rfl (Prod.ext (Nat.zero_add _).symm (Nat.zero_add _).symm) w (ow_Sp.mono h (fun r22 N22 h => ?_))
      refine ow_Lcmp (pc' := 505) dL_law_504 rfl ?_
      refine ow_ifeq (pc' := 508) (tg := 1089) dL_law_505 rfl rfl (fun hc => ?_) (fun hc => ?_)
      · have h := h.1 hc
        obtain ⟨w, h⟩ := h
        refine ow_iinc (pc' := 1092) (lv' := [(0, (3, 999)), (1, (3, l1)), (2, (3, l2)), (3, (0, l3 + 6))]) dL_law_1089 rfl w rfl rfl rfl ?_
        refine ow_goto (tg := 38) dL_law_1092 rfl ?_
        exact h
      · have h := h.2 hc
        refine ow_iconst (pc' := 509) (n := 0) dL_law_508 rfl rfl ?_
        refine ow_less (b' := (0, 0)) rfl rfl ?_
        exact ow_zret dL_law_509 rfl rfl (Or.inl rfl) h
    have h := h.2 hc
    refine And.intro (fun hc => ?_) (fun hc => ?_)
    · have h := h.1 hc
      refine ow_aload_n (pc' := 511) (x := l1) dL_law_510 rfl rfl ?_
      refine ow_aload_n (pc' := 512) (x := 999) dL_law_511 rfl rfl ?_
      refine ow_iload_n (pc' := 513) (x := l3) dL_law_512 rfl rfl ?_
      refine ow_iconst (pc' := 514) (n := 1) dL_law_513 rfl rfl ?_
      obtain ⟨w, h⟩ := h
      refine ow_iadd (pc' := 515) dL_law_514 w rfl ?_
      obtain ⟨w, w1, h⟩ := h
      refine ow_scload (pc' := 516) dL_law_515 rfl w w1 ?_
      refine ow_aload_n (pc' := 517) (x := 999) dL_law_516 rfl rfl ?_
      refine ow_iload_n (pc' := 518) (x := l3) dL_law_517 rfl rfl ?_
      refine ow_iconst (pc' := 519) (n := 2) dL_law_518 rfl rfl ?_
      obtain ⟨w, h⟩ := h
      refine ow_iadd (pc' := 520) dL_law_519 w rfl ?_
      obtain ⟨w, w1, h⟩ := h
      refine ow_scload (pc' := 521) dL_law_520 rfl w w1 ?_
      refine ow_aload_n (pc' := 522) (x := 999) dL_law_521 rfl rfl ?_
      refine ow_iload_n (pc' := 523) (x := l3) dL_law_522 rfl rfl ?_
      refine ow_iconst (pc' := 524) (n := 3) dL_law_523 rfl rfl ?_
      obtain ⟨w, h⟩ := h
      refine ow_iadd (pc' := 525) dL_law_524 w rfl ?_
      obtain ⟨w, w1, h⟩ := h
      refine ow_scload (pc' := 526) dL_law_525 rfl w w1 ?_
      refine ow_aload_n (pc' := 527) (x := 999) dL_law_526 rfl rfl ?_
      refine ow_iload_n (pc' := 528) (x := l3) dL_law_527 rfl rfl ?_
      refine ow_iconst (pc' := 529) (n := 4) dL_law_528 rfl rfl ?_
      obtain ⟨w, h⟩ := h
      refine ow_iadd (pc' := 530) dL_law_529 w rfl ?_
      obtain ⟨w, w1, h⟩ := h
      refine ow_scload (pc' := 531) dL_law_530 rfl w w1 ?_
      obtain ⟨w, h⟩ := h
      refine ow_callVp (z := mX11_row) (n := 4) (k := 11) (vs := [(0, ow_sc C (l3 + 1)), (0, ow_sc C (l3 + 2)), (0, ow_sc C (l3 + 3)), (0, ow_sc C (l3 + 4))]) (x := l1) (st := []) (pc' := 534) (b1 := (0, 0)) (b2 := (bc + 0, bs + 0)) dL_law_531 lRL_72 kX11_row iX11_row rfl rfl rfl rfl rfl (Prod.ext (Nat.zero_add _).symm (Nat.zero_add _).symm) w (ow_Sp.mono h (fun r23 N23 h => ?_))
      refine ow_aload_n (pc' := 535) (x := l2) dL_law_534 rfl rfl ?_
      refine ow_aload_n (pc' := 536) (x := 999) dL_law_535 rfl rfl ?_
      refine ow_iload_n (pc' := 537) (x := l3) dL_law_536 rfl rfl ?_
      refine ow_iconst (pc' := 538) (n := 1) dL_law_537 rfl rfl ?_
      obtain ⟨w, h⟩ := h
      refine ow_iadd (pc' := 539) dL_law_538 w rfl ?_
      obtain ⟨w, w1, h⟩ := h
      refine ow_scload (pc' := 540) dL_law_539 rfl w w1 ?_
      refine ow_aload_n (pc' := 541) (x := 999) dL_law_540 rfl rfl ?_
      refine ow_iload_n (pc' := 542) (x := l3) dL_law_541 rfl rfl ?_
      refine ow_iconst (pc' := 543) (n := 2) dL_law_542 rfl rfl ?_
      obtain ⟨w, h⟩ := h
      refine ow_iadd (pc' := 544) dL_law_543 w rfl ?_
      obtain ⟨w, w1, h⟩ := h
      refine ow_scload (pc' := 545) dL_law_544 rfl w w1 ?_
      refine ow_aload_n (pc' := 546) (x := 999) dL_law_545 rfl rfl ?_
      refine ow_iload_n (pc' := 547) (x := l3) dL_law_546 rfl rfl ?_
      refine ow_iconst (pc' := 548) (n := 3) dL_law_547 rfl rfl ?_
      obtain ⟨w, h⟩ := h
      refine ow_iadd (pc' := 549) dL_law_548 w rfl ?_
      obtain ⟨w, w1, h⟩ := h
      refine ow_scload (pc' := 550) dL_law_549 rfl w w1 ?_
      refine ow_aload_n (pc' := 551) (x := 999) dL_law_550 rfl rfl ?_
      refine ow_iload_n (pc' := 552) (x := l3) dL_law_551 rfl rfl ?_
      refine ow_iconst (pc' := 553) (n := 4) dL_law_552 rfl rfl ?_
      obtain ⟨w, h⟩ := h
      refine ow_iadd (pc' := 554) dL_law_553 w rfl ?_
      obtain ⟨w, w1, h⟩ := h
      refine ow_scload (pc' := 555) dL_law_554 rfl w w1 ?_
      obtain ⟨w, h⟩ := h
      refine ow_callVp (z := mX12_row) (n := 4) (k := 12) (vs := [(0, ow_sc C (l3 + 1)), (0, ow_sc C (l3 + 2)), (0, ow_sc C (l3 + 3)), (0, ow_sc C (l3 + 4))]) (x := l2) (st := [(0, r23)]) (pc' := 558) (b1 := (0, 0)) (b2 := (bc + 0, bs + 0)) dL_law_555 lRL_76 kX12_row iX12_row rfl rfl rfl rfl rfl (Prod.ext (Nat.zero_add _).symm (Nat.zero_add _).symm) w (ow_Sp.mono h (fun r24 N24 h => ?_))
      refine ow_icmpeq (pc' := 561) (tg := 1089) dL_law_558 rfl rfl (fun hc => ?_) (fun hc => ?_)
      · have h := h.1 hc
        obtain ⟨w, h⟩ := h
        refine ow_iinc (pc' := 1092) (lv' := [(0, (3, 999)), (1, (3, l1)), (2, (3, l2)), (3, (0, l3 + 6))]) dL_law_1089 rfl w rfl rfl rfl ?_
        refine ow_goto (tg := 38) dL_law_1092 rfl ?_
        exact h
      · have h := h.2 hc
        refine ow_iconst (pc' := 562) (n := 0) dL_law_561 rfl rfl ?_
        refine ow_less (b' := (0, 0)) rfl rfl ?_
        exact ow_zret dL_law_562 rfl rfl (Or.inl rfl) h
    have h := h.2 hc
    refine And.intro (fun hc => ?_) (fun hc => ?_)
    · have h := h.1 hc
      refine ow_aload_n (pc' := 564) (x := l1) dL_law_563 rfl rfl ?_
      refine ow_aload_n (pc' := 565) (x := 999) dL_law_564 rfl rfl ?_
      refine ow_iload_n (pc' := 566) (x := l3) dL_law_565 rfl rfl ?_
      refine ow_iconst (pc' := 567) (n := 1) dL_law_566 rfl rfl ?_
      obtain ⟨w, h⟩ := h
      refine ow_iadd (pc' := 568) dL_law_567 w rfl ?_
      obtain ⟨w, w1, h⟩ := h
      refine ow_scload (pc' := 569) dL_law_568 rfl w w1 ?_
      refine ow_aload_n (pc' := 570) (x := 999) dL_law_569 rfl rfl ?_
      refine ow_iload_n (pc' := 571) (x := l3) dL_law_570 rfl rfl ?_
      refine ow_iconst (pc' := 572) (n := 2) dL_law_571 rfl rfl ?_
      obtain ⟨w, h⟩ := h
      refine ow_iadd (pc' := 573) dL_law_572 w rfl ?_
      obtain ⟨w, w1, h⟩ := h
      refine ow_scload (pc' := 574) dL_law_573 rfl w w1 ?_
      refine ow_aload_n (pc' := 575) (x := 999) dL_law_574 rfl rfl ?_
      refine ow_iload_n (pc' := 576) (x := l3) dL_law_575 rfl rfl ?_
      refine ow_iconst (pc' := 577) (n := 3) dL_law_576 rfl rfl ?_
      obtain ⟨w, h⟩ := h
      refine ow_iadd (pc' := 578) dL_law_577 w rfl ?_
      obtain ⟨w, w1, h⟩ := h
      refine ow_scload (pc' := 579) dL_law_578 rfl w w1 ?_
      obtain ⟨w, h⟩ := h
      refine ow_callVp (z := mX11_heard) (n := 3) (k := 11) (vs := [(0, ow_sc C (l3 + 1)), (0, ow_sc C (l3 + 2)), (0, ow_sc C (l3 + 3))]) (x := l1) (st := []) (pc' := 582) (b1 := (0, 0)) (b2 := (bc + 0, bs + 0)) dL_law_579 lRL_77 kX11_heard iX11_heard rfl rfl rfl rfl rfl (Prod.ext (Nat.zero_add _).symm (Nat.zero_add _).symm) w (ow_Sp.mono h (fun r25 N25 h => ?_))
      refine ow_aload_n (pc' := 583) (x := l2) dL_law_582 rfl rfl ?_
      refine ow_aload_n (pc' := 584) (x := 999) dL_law_583 rfl rfl ?_
      refine ow_iload_n (pc' := 585) (x := l3) dL_law_584 rfl rfl ?_
      refine ow_iconst (pc' := 586) (n := 1) dL_law_585 rfl rfl ?_
      obtain ⟨w, h⟩ := h
      refine ow_iadd (pc' := 587) dL_law_586 w rfl ?_
      obtain ⟨w, w1, h⟩ := h
      refine ow_scload (pc' := 588) dL_law_587 rfl w w1 ?_
      refine ow_aload_n (pc' := 589) (x := 999) dL_law_588 rfl rfl ?_
      refine ow_iload_n (pc' := 590) (x := l3) dL_law_589 rfl rfl ?_
      refine ow_iconst (pc' := 591) (n := 2) dL_law_590 rfl rfl ?_
      obtain ⟨w, h⟩ := h
      refine ow_iadd (pc' := 592) dL_law_591 w rfl ?_
      obtain ⟨w, w1, h⟩ := h
      refine ow_scload (pc' := 593) dL_law_592 rfl w w1 ?_
      refine ow_aload_n (pc' := 594) (x := 999) dL_law_593 rfl rfl ?_
      refine ow_iload_n (pc' := 595) (x := l3) dL_law_594 rfl rfl ?_
      refine ow_iconst (pc' := 596) (n := 3) dL_law_595 rfl rfl ?_
      obtain ⟨w, h⟩ := h
      refine ow_iadd (pc' := 597) dL_law_596 w rfl ?_
      obtain ⟨w, w1, h⟩ := h
      refine ow_scload (pc' := 598) dL_law_597 rfl w w1 ?_
      obtain ⟨w, h⟩ := h
      refine ow_callVp (z := mX12_heard) (n := 3) (k := 12) (vs := [(0, ow_sc C (l3 + 1)), (0, ow_sc C (l3 + 2)), (0, ow_sc C (l3 + 3))]) (x := l2) (st := [(0, r25)]) (pc' := 601) (b1 := (0, 0)) (b2 := (bc + 0, bs + 0)) dL_law_598 lRL_80 kX12_heard iX12_heard rfl rfl rfl rfl rfl (Prod.ext (Nat.zero_add _).symm (Nat.zero_add _).symm) w (ow_Sp.mono h (fun r26 N26 h => ?_))
      refine ow_icmpeq (pc' := 604) (tg := 1089) dL_law_601 rfl rfl (fun hc => ?_) (fun hc => ?_)
      · have h := h.1 hc
        obtain ⟨w, h⟩ := h
        refine ow_iinc (pc' := 1092) (lv' := [(0, (3, 999)), (1, (3, l1)), (2, (3, l2)), (3, (0, l3 + 6))]) dL_law_1089 rfl w rfl rfl rfl ?_
        refine ow_goto (tg := 38) dL_law_1092 rfl ?_
        exact h
      · have h := h.2 hc
        refine ow_iconst (pc' := 605) (n := 0) dL_law_604 rfl rfl ?_
        refine ow_less (b' := (0, 0)) rfl rfl ?_
        exact ow_zret dL_law_605 rfl rfl (Or.inl rfl) h
    have h := h.2 hc
    refine And.intro (fun hc => ?_) (fun hc => ?_)
    · have h := h.1 hc
      refine ow_aload_n (pc' := 607) (x := l1) dL_law_606 rfl rfl ?_
      refine ow_aload_n (pc' := 608) (x := 999) dL_law_607 rfl rfl ?_
      refine ow_iload_n (pc' := 609) (x := l3) dL_law_608 rfl rfl ?_
      refine ow_iconst (pc' := 610) (n := 1) dL_law_609 rfl rfl ?_
      obtain ⟨w, h⟩ := h
      refine ow_iadd (pc' := 611) dL_law_610 w rfl ?_
      obtain ⟨w, w1, h⟩ := h
      refine ow_scload (pc' := 612) dL_law_611 rfl w w1 ?_
      refine ow_aload_n (pc' := 613) (x := 999) dL_law_612 rfl rfl ?_
      refine ow_iload_n (pc' := 614) (x := l3) dL_law_613 rfl rfl ?_
      refine ow_iconst (pc' := 615) (n := 2) dL_law_614 rfl rfl ?_
      obtain ⟨w, h⟩ := h
      refine ow_iadd (pc' := 616) dL_law_615 w rfl ?_
      obtain ⟨w, w1, h⟩ := h
      refine ow_scload (pc' := 617) dL_law_616 rfl w w1 ?_
      refine ow_aload_n (pc' := 618) (x := 999) dL_law_617 rfl rfl ?_
      refine ow_iload_n (pc' := 619) (x := l3) dL_law_618 rfl rfl ?_
      refine ow_iconst (pc' := 620) (n := 3) dL_law_619 rfl rfl ?_
      obtain ⟨w, h⟩ := h
      refine ow_iadd (pc' := 621) dL_law_620 w rfl ?_
      obtain ⟨w, w1, h⟩ := h
      refine ow_scload (pc' := 622) dL_law_621 rfl w w1 ?_
      refine ow_aload_n (pc' := 623) (x := 999) dL_law_622 rfl rfl ?_
      refine ow_iload_n (pc' := 624) (x := l3) dL_law_623 rfl rfl ?_
      refine ow_iconst (pc' := 625) (n := 4) dL_law_624 rfl rfl ?_
      obtain ⟨w, h⟩ := h
      refine ow_iadd (pc' := 626) dL_law_625 w rfl ?_
      obtain ⟨w, w1, h⟩ := h
      refine ow_scload (pc' := 627) dL_law_626 rfl w w1 ?_
      obtain ⟨w, h⟩ := h
      refine ow_callVp (z := mX11_odds) (n := 4) (k := 11) (vs := [(0, ow_sc C (l3 + 1)), (0, ow_sc C (l3 + 2)), (0, ow_sc C (l3 + 3)), (0, ow_sc C (l3 + 4))]) (x := l1) (st := []) (pc' := 630) (b1 := (0, 0)) (b2 := (bc + 0, bs + 0)) dL_law_627 lRL_81 kX11_odds iX11_odds rfl rfl rfl rfl rfl (Prod.ext (Nat.zero_add _).symm (Nat.zero_add _).symm) w (ow_Sp.mono h (fun r27 N27 h => ?_))
      refine ow_aload_n (pc' := 631) (x := l2) dL_law_630 rfl rfl ?_
      refine ow_aload_n (pc' := 632) (x := 999) dL_law_631 rfl rfl ?_
      refine ow_iload_n (pc' := 633) (x := l3) dL_law_632 rfl rfl ?_
      refine ow_iconst (pc' := 634) (n := 1) dL_law_633 rfl rfl ?_
      obtain ⟨w, h⟩ := h
      refine ow_iadd (pc' := 635) dL_law_634 w rfl ?_
      obtain ⟨w, w1, h⟩ := h
      refine ow_scload (pc' := 636) dL_law_635 rfl w w1 ?_
      refine ow_aload_n (pc' := 637) (x := 999) dL_law_636 rfl rfl ?_
      refine ow_iload_n (pc' := 638) (x := l3) dL_law_637 rfl rfl ?_
      refine ow_iconst (pc' := 639) (n := 2) dL_law_638 rfl rfl ?_
      obtain ⟨w, h⟩ := h
      refine ow_iadd (pc' := 640) dL_law_639 w rfl ?_
      obtain ⟨w, w1, h⟩ := h
      refine ow_scload (pc' := 641) dL_law_640 rfl w w1 ?_
      refine ow_aload_n (pc' := 642) (x := 999) dL_law_641 rfl rfl ?_
      refine ow_iload_n (pc' := 643) (x := l3) dL_law_642 rfl rfl ?_
      refine ow_iconst (pc' := 644) (n := 3) dL_law_643 rfl rfl ?_
      obtain ⟨w, h⟩ := h
      refine ow_iadd (pc' := 645) dL_law_644 w rfl ?_
      obtain ⟨w, w1, h⟩ := h
      refine ow_scload (pc' := 646) dL_law_645 rfl w w1 ?_
      refine ow_aload_n (pc' := 647) (x := 999) dL_law_646 rfl rfl ?_
      refine ow_iload_n (pc' := 648) (x := l3) dL_law_647 rfl rfl ?_
      refine ow_iconst (pc' := 649) (n := 4) dL_law_648 rfl rfl ?_
      obtain ⟨w, h⟩ := h
      refine ow_iadd (pc' := 650) dL_law_649 w rfl ?_
      obtain ⟨w, w1, h⟩ := h
      refine ow_scload (pc' := 651) dL_law_650 rfl w w1 ?_
      obtain ⟨w, h⟩ := h
      refine ow_callVp (z := mX12_odds) (n := 4) (k := 12) (vs := [(0, ow_sc C (l3 + 1)), (0, ow_sc C (l3 + 2)), (0, ow_sc C (l3 + 3)), (0, ow_sc C (l3 + 4))]) (x := l2) (st := [(1, r27)]) (pc' := 654) (b1 := (0, 0)) (b2 := (bc + 0, bs + 0)) dL_law_651 lRL_85 kX12_odds iX12_odds rfl rfl rfl rfl rfl (Prod.ext (Nat.zero_add _).symm (Nat.zero_add _).symm) w (ow_Sp.mono h (fun r28 N28 h => ?_))
      refine ow_Lcmp (pc' := 655) dL_law_654 rfl ?_
      refine ow_ifeq (pc' := 658) (tg := 1089) dL_law_655 rfl rfl (fun hc => ?_) (fun hc => ?_)
      · have h := h.1 hc
        obtain ⟨w, h⟩ := h
        refine ow_iinc (pc' := 1092) (lv' := [(0, (3, 999)), (1, (3, l1)), (2, (3, l2)), (3, (0, l3 + 6))]) dL_law_1089 rfl w rfl rfl rfl ?_
        refine ow_goto (tg := 38) dL_law_1092 rfl ?_
        exact h
      · have h := h.2 hc
        refine ow_iconst (pc' := 659) (n := 0) dL_law_658 rfl rfl ?_
        refine ow_less (b' := (0, 0)) rfl rfl ?_
        exact ow_zret dL_law_659 rfl rfl (Or.inl rfl) h
    have h := h.2 hc
    refine And.intro (fun hc => ?_) (fun hc => ?_)
    · have h := h.1 hc
      refine ow_aload_n (pc' := 661) (x := l1) dL_law_660 rfl rfl ?_
      refine ow_aload_n (pc' := 662) (x := 999) dL_law_661 rfl rfl ?_
      refine ow_iload_n (pc' := 663) (x := l3) dL_law_662 rfl rfl ?_
      refine ow_iconst (pc' := 664) (n := 1) dL_law_663 rfl rfl ?_
      obtain ⟨w, h⟩ := h
      refine ow_iadd (pc' := 665) dL_law_664 w rfl ?_
      obtain ⟨w, w1, h⟩ := h
      refine ow_scload (pc' := 666) dL_law_665 rfl w w1 ?_
      refine ow_aload_n (pc' := 667) (x := 999) dL_law_666 rfl rfl ?_
      refine ow_iload_n (pc' := 668) (x := l3) dL_law_667 rfl rfl ?_
      refine ow_iconst (pc' := 669) (n := 2) dL_law_668 rfl rfl ?_
      obtain ⟨w, h⟩ := h
      refine ow_iadd (pc' := 670) dL_law_669 w rfl ?_
      obtain ⟨w, w1, h⟩ := h
      refine ow_scload (pc' := 671) dL_law_670 rfl w w1 ?_
      refine ow_aload_n (pc' := 672) (x := 999) dL_law_671 rfl rfl ?_
      refine ow_iload_n (pc' := 673) (x := l3) dL_law_672 rfl rfl ?_
      refine ow_iconst (pc' := 674) (n := 3) dL_law_673 rfl rfl ?_
      obtain ⟨w, h⟩ := h
      refine ow_iadd (pc' := 675) dL_law_674 w rfl ?_
      obtain ⟨w, w1, h⟩ := h
      refine ow_scload (pc' := 676) dL_law_675 rfl w w1 ?_
      obtain ⟨w, h⟩ := h
      refine ow_callVp (z := mX11_road) (n := 3) (k := 11) (vs := [(0, ow_sc C (l3 + 1)), (0, ow_sc C (l3 + 2)), (0, ow_sc C (l3 + 3))]) (x := l1) (st := []) (pc' := 679) (b1 := (0, 0)) (b2 := (bc + 0, bs + 0)) dL_law_676 lRL_86 kX11_road iX11_road rfl rfl rfl rfl rfl (Prod.ext (Nat.zero_add _).symm (Nat.zero_add _).symm) w (ow_Sp.mono h (fun r29 N29 h => ?_))
      refine ow_aload_n (pc' := 680) (x := l2) dL_law_679 rfl rfl ?_
      refine ow_aload_n (pc' := 681) (x := 999) dL_law_680 rfl rfl ?_
      refine ow_iload_n (pc' := 682) (x := l3) dL_law_681 rfl rfl ?_
      refine ow_iconst (pc' := 683) (n := 1) dL_law_682 rfl rfl ?_
      obtain ⟨w, h⟩ := h
      refine ow_iadd (pc' := 684) dL_law_683 w rfl ?_
      obtain ⟨w, w1, h⟩ := h
      refine ow_scload (pc' := 685) dL_law_684 rfl w w1 ?_
      refine ow_aload_n (pc' := 686) (x := 999) dL_law_685 rfl rfl ?_
      refine ow_iload_n (pc' := 687) (x := l3) dL_law_686 rfl rfl ?_
      refine ow_iconst (pc' := 688) (n := 2) dL_law_687 rfl rfl ?_
      obtain ⟨w, h⟩ := h
      refine ow_iadd (pc' := 689) dL_law_688 w rfl ?_
      obtain ⟨w, w1, h⟩ := h
      refine ow_scload (pc' := 690) dL_law_689 rfl w w1 ?_
      refine ow_aload_n (pc' := 691) (x := 999) dL_law_690 rfl rfl ?_
      refine ow_iload_n (pc' := 692) (x := l3) dL_law_691 rfl rfl ?_
      refine ow_iconst (pc' := 693) (n := 3) dL_law_692 rfl rfl ?_
      obtain ⟨w, h⟩ := h
      refine ow_iadd (pc' := 694) dL_law_693 w rfl ?_
      obtain ⟨w, w1, h⟩ := h
      refine ow_scload (pc' := 695) dL_law_694 rfl w w1 ?_
      obtain ⟨w, h⟩ := h
      refine ow_callVp (z := mX12_road) (n := 3) (k := 12) (vs := [(0, ow_sc C (l3 + 1)), (0, ow_sc C (l3 + 2)), (0, ow_sc C (l3 + 3))]) (x := l2) (st := [(0, r29)]) (pc' := 698) (b1 := (0, 0)) (b2 := (bc + 0, bs + 0)) dL_law_695 lRL_90 kX12_road iX12_road rfl rfl rfl rfl rfl (Prod.ext (Nat.zero_add _).symm (Nat.zero_add _).symm) w (ow_Sp.mono h (fun r30 N30 h => ?_))
      refine ow_icmpeq (pc' := 701) (tg := 1089) dL_law_698 rfl rfl (fun hc => ?_) (fun hc => ?_)
      · have h := h.1 hc
        obtain ⟨w, h⟩ := h
        refine ow_iinc (pc' := 1092) (lv' := [(0, (3, 999)), (1, (3, l1)), (2, (3, l2)), (3, (0, l3 + 6))]) dL_law_1089 rfl w rfl rfl rfl ?_
        refine ow_goto (tg := 38) dL_law_1092 rfl ?_
        exact h
      · have h := h.2 hc
        refine ow_iconst (pc' := 702) (n := 0) dL_law_701 rfl rfl ?_
        refine ow_less (b' := (0, 0)) rfl rfl ?_
        exact ow_zret dL_law_702 rfl rfl (Or.inl rfl) h
    have h := h.2 hc
    refine And.intro (fun hc => ?_) (fun hc => ?_)
    · have h := h.1 hc
      refine ow_aload_n (pc' := 704) (x := l1) dL_law_703 rfl rfl ?_
      refine ow_aload_n (pc' := 705) (x := 999) dL_law_704 rfl rfl ?_
      refine ow_iload_n (pc' := 706) (x := l3) dL_law_705 rfl rfl ?_
      refine ow_iconst (pc' := 707) (n := 1) dL_law_706 rfl rfl ?_
      obtain ⟨w, h⟩ := h
      refine ow_iadd (pc' := 708) dL_law_707 w rfl ?_
      obtain ⟨w, w1, h⟩ := h
      refine ow_scload (pc' := 709) dL_law_708 rfl w w1 ?_
      refine ow_aload_n (pc' := 710) (x := 999) dL_law_709 rfl rfl ?_
      refine ow_iload_n (pc' := 711) (x := l3) dL_law_710 rfl rfl ?_
      refine ow_iconst (pc' := 712) (n := 2) dL_law_711 rfl rfl ?_
      obtain ⟨w, h⟩ := h
      refine ow_iadd (pc' := 713) dL_law_712 w rfl ?_
      obtain ⟨w, w1, h⟩ := h
      refine ow_scload (pc' := 714) dL_law_713 rfl w w1 ?_
      refine ow_aload_n (pc' := 715) (x := 999) dL_law_714 rfl rfl ?_
      refine ow_iload_n (pc' := 716) (x := l3) dL_law_715 rfl rfl ?_
      refine ow_iconst (pc' := 717) (n := 3) dL_law_716 rfl rfl ?_
      obtain ⟨w, h⟩ := h
      refine ow_iadd (pc' := 718) dL_law_717 w rfl ?_
      obtain ⟨w, w1, h⟩ := h
      refine ow_scload (pc' := 719) dL_law_718 rfl w w1 ?_
      refine ow_aload_n (pc' := 720) (x := 999) dL_law_719 rfl rfl ?_
      refine ow_iload_n (pc' := 721) (x := l3) dL_law_720 rfl rfl ?_
      refine ow_iconst (pc' := 722) (n := 4) dL_law_721 rfl rfl ?_
      obtain ⟨w, h⟩ := h
      refine ow_iadd (pc' := 723) dL_law_722 w rfl ?_
      obtain ⟨w, w1, h⟩ := h
      refine ow_scload (pc' := 724) dL_law_723 rfl w w1 ?_
      refine ow_aload_n (pc' := 725) (x := 999) dL_law_724 rfl rfl ?_
      refine ow_iload_n (pc' := 726) (x := l3) dL_law_725 rfl rfl ?_
      refine ow_iconst (pc' := 727) (n := 5) dL_law_726 rfl rfl ?_
      obtain ⟨w, h⟩ := h
      refine ow_iadd (pc' := 728) dL_law_727 w rfl ?_
      obtain ⟨w, w1, h⟩ := h
      refine ow_scload (pc' := 729) dL_law_728 rfl w w1 ?_
      obtain ⟨w, h⟩ := h
      refine ow_callVp (z := mX11_fits) (n := 5) (k := 11) (vs := [(0, ow_sc C (l3 + 1)), (0, ow_sc C (l3 + 2)), (0, ow_sc C (l3 + 3)), (0, ow_sc C (l3 + 4)), (0, ow_sc C (l3 + 5))]) (x := l1) (st := []) (pc' := 732) (b1 := (0, 0)) (b2 := (bc + 0, bs + 0)) dL_law_729 lRL_91 kX11_fits iX11_fits rfl rfl rfl rfl rfl (Prod.ext (Nat.zero_add _).symm (Nat.zero_add _).symm) w (ow_Sp.mono h (fun r31 N31 h => ?_))
      refine ow_aload_n (pc' := 733) (x := l2) dL_law_732 rfl rfl ?_
      refine ow_aload_n (pc' := 734) (x := 999) dL_law_733 rfl rfl ?_
      refine ow_iload_n (pc' := 735) (x := l3) dL_law_734 rfl rfl ?_
      refine ow_iconst (pc' := 736) (n := 1) dL_law_735 rfl rfl ?_
      obtain ⟨w, h⟩ := h
      refine ow_iadd (pc' := 737) dL_law_736 w rfl ?_
      obtain ⟨w, w1, h⟩ := h
      refine ow_scload (pc' := 738) dL_law_737 rfl w w1 ?_
      refine ow_aload_n (pc' := 739) (x := 999) dL_law_738 rfl rfl ?_
      refine ow_iload_n (pc' := 740) (x := l3) dL_law_739 rfl rfl ?_
      refine ow_iconst (pc' := 741) (n := 2) dL_law_740 rfl rfl ?_
      obtain ⟨w, h⟩ := h
      refine ow_iadd (pc' := 742) dL_law_741 w rfl ?_
      obtain ⟨w, w1, h⟩ := h
      refine ow_scload (pc' := 743) dL_law_742 rfl w w1 ?_
      refine ow_aload_n (pc' := 744) (x := 999) dL_law_743 rfl rfl ?_
      refine ow_iload_n (pc' := 745) (x := l3) dL_law_744 rfl rfl ?_
      refine ow_iconst (pc' := 746) (n := 3) dL_law_745 rfl rfl ?_
      obtain ⟨w, h⟩ := h
      refine ow_iadd (pc' := 747) dL_law_746 w rfl ?_
      obtain ⟨w, w1, h⟩ := h
      refine ow_scload (pc' := 748) dL_law_747 rfl w w1 ?_
      refine ow_aload_n (pc' := 749) (x := 999) dL_law_748 rfl rfl ?_
      refine ow_iload_n (pc' := 750) (x := l3) dL_law_749 rfl rfl ?_
      refine ow_iconst (pc' := 751) (n := 4) dL_law_750 rfl rfl ?_
      obtain ⟨w, h⟩ := h
      refine ow_iadd (pc' := 752) dL_law_751 w rfl ?_
      obtain ⟨w, w1, h⟩ := h
      refine ow_scload (pc' := 753) dL_law_752 rfl w w1 ?_
      refine ow_aload_n (pc' := 754) (x := 999) dL_law_753 rfl rfl ?_
      refine ow_iload_n (pc' := 755) (x := l3) dL_law_754 rfl rfl ?_
      refine ow_iconst (pc' := 756) (n := 5) dL_law_755 rfl rfl ?_
      obtain ⟨w, h⟩ := h
      refine ow_iadd (pc' := 757) dL_law_756 w rfl ?_
      obtain ⟨w, w1, h⟩ := h
      refine ow_scload (pc' := 758) dL_law_757 rfl w w1 ?_
      obtain ⟨w, h⟩ := h
      refine ow_callVp (z := mX12_fits) (n := 5) (k := 12) (vs := [(0, ow_sc C (l3 + 1)), (0, ow_sc C (l3 + 2)), (0, ow_sc C (l3 + 3)), (0, ow_sc C (l3 + 4)), (0, ow_sc C (l3 + 5))]) (x := l2) (st := [(0, r31)]) (pc' := 761) (b1 := (0, 0)) (b2 := (bc + 0, bs + 0)) dL_law_758 lRL_94 kX12_fits iX12_fits rfl rfl rfl rfl rfl (Prod.ext (Nat.zero_add _).symm (Nat.zero_add _).symm) w (ow_Sp.mono h (fun r32 N32 h => ?_))
      refine ow_icmpeq (pc' := 764) (tg := 1089) dL_law_761 rfl rfl (fun hc => ?_) (fun hc => ?_)
      · have h := h.1 hc
        obtain ⟨w, h⟩ := h
        refine ow_iinc (pc' := 1092) (lv' := [(0, (3, 999)), (1, (3, l1)), (2, (3, l2)), (3, (0, l3 + 6))]) dL_law_1089 rfl w rfl rfl rfl ?_
        refine ow_goto (tg := 38) dL_law_1092 rfl ?_
        exact h
      · have h := h.2 hc
        refine ow_iconst (pc' := 765) (n := 0) dL_law_764 rfl rfl ?_
        refine ow_less (b' := (0, 0)) rfl rfl ?_
        exact ow_zret dL_law_765 rfl rfl (Or.inl rfl) h
    have h := h.2 hc
    refine And.intro (fun hc => ?_) (fun hc => ?_)
    · have h := h.1 hc
      refine ow_aload_n (pc' := 767) (x := l1) dL_law_766 rfl rfl ?_
      refine ow_aload_n (pc' := 768) (x := 999) dL_law_767 rfl rfl ?_
      refine ow_iload_n (pc' := 769) (x := l3) dL_law_768 rfl rfl ?_
      refine ow_iconst (pc' := 770) (n := 1) dL_law_769 rfl rfl ?_
      obtain ⟨w, h⟩ := h
      refine ow_iadd (pc' := 771) dL_law_770 w rfl ?_
      obtain ⟨w, w1, h⟩ := h
      refine ow_scload (pc' := 772) dL_law_771 rfl w w1 ?_
      obtain ⟨w, h⟩ := h
      refine ow_callVp (z := mX11_tree) (n := 1) (k := 11) (vs := [(0, ow_sc C (l3 + 1))]) (x := l1) (st := []) (pc' := 775) (b1 := (0, 0)) (b2 := (bc + 0, bs + 0)) dL_law_772 lRL_95 kX11_tree iX11_tree rfl rfl rfl rfl rfl (Prod.ext (Nat.zero_add _).symm (Nat.zero_add _).symm) w (ow_Sp.mono h (fun r33 N33 h => ?_))
      refine ow_aload_n (pc' := 776) (x := l2) dL_law_775 rfl rfl ?_
      refine ow_aload_n (pc' := 777) (x := 999) dL_law_776 rfl rfl ?_
      refine ow_iload_n (pc' := 778) (x := l3) dL_law_777 rfl rfl ?_
      refine ow_iconst (pc' := 779) (n := 1) dL_law_778 rfl rfl ?_
      obtain ⟨w, h⟩ := h
      refine ow_iadd (pc' := 780) dL_law_779 w rfl ?_
      obtain ⟨w, w1, h⟩ := h
      refine ow_scload (pc' := 781) dL_law_780 rfl w w1 ?_
      obtain ⟨w, h⟩ := h
      refine ow_callVp (z := mX12_tree) (n := 1) (k := 12) (vs := [(0, ow_sc C (l3 + 1))]) (x := l2) (st := [(0, r33)]) (pc' := 784) (b1 := (0, 0)) (b2 := (bc + 0, bs + 0)) dL_law_781 lRL_98 kX12_tree iX12_tree rfl rfl rfl rfl rfl (Prod.ext (Nat.zero_add _).symm (Nat.zero_add _).symm) w (ow_Sp.mono h (fun r34 N34 h => ?_))
      refine ow_icmpeq (pc' := 787) (tg := 1089) dL_law_784 rfl rfl (fun hc => ?_) (fun hc => ?_)
      · have h := h.1 hc
        obtain ⟨w, h⟩ := h
        refine ow_iinc (pc' := 1092) (lv' := [(0, (3, 999)), (1, (3, l1)), (2, (3, l2)), (3, (0, l3 + 6))]) dL_law_1089 rfl w rfl rfl rfl ?_
        refine ow_goto (tg := 38) dL_law_1092 rfl ?_
        exact h
      · have h := h.2 hc
        refine ow_iconst (pc' := 788) (n := 0) dL_law_787 rfl rfl ?_
        refine ow_less (b' := (0, 0)) rfl rfl ?_
        exact ow_zret dL_law_788 rfl rfl (Or.inl rfl) h
    have h := h.2 hc
    refine And.intro (fun hc => ?_) (fun hc => ?_)
    · have h := h.1 hc
      refine ow_aload_n (pc' := 790) (x := l1) dL_law_789 rfl rfl ?_
      refine ow_aload_n (pc' := 791) (x := 999) dL_law_790 rfl rfl ?_
      refine ow_iload_n (pc' := 792) (x := l3) dL_law_791 rfl rfl ?_
      refine ow_iconst (pc' := 793) (n := 1) dL_law_792 rfl rfl ?_
      obtain ⟨w, h⟩ := h
      refine ow_iadd (pc' := 794) dL_law_793 w rfl ?_
      obtain ⟨w, w1, h⟩ := h
      refine ow_scload (pc' := 795) dL_law_794 rfl w w1 ?_
      refine ow_aload_n (pc' := 796) (x := 999) dL_law_795 rfl rfl ?_
      refine ow_iload_n (pc' := 797) (x := l3) dL_law_796 rfl rfl ?_
      refine ow_iconst (pc' := 798) (n := 2) dL_law_797 rfl rfl ?_
      obtain ⟨w, h⟩ := h
      refine ow_iadd (pc' := 799) dL_law_798 w rfl ?_
      obtain ⟨w, w1, h⟩ := h
      refine ow_scload (pc' := 800) dL_law_799 rfl w w1 ?_
      refine ow_aload_n (pc' := 801) (x := 999) dL_law_800 rfl rfl ?_
      refine ow_iload_n (pc' := 802) (x := l3) dL_law_801 rfl rfl ?_
      refine ow_iconst (pc' := 803) (n := 3) dL_law_802 rfl rfl ?_
      obtain ⟨w, h⟩ := h
      refine ow_iadd (pc' := 804) dL_law_803 w rfl ?_
      obtain ⟨w, w1, h⟩ := h
      refine ow_scload (pc' := 805) dL_law_804 rfl w w1 ?_
      obtain ⟨w, h⟩ := h
      refine ow_callVp (z := mX11_shares) (n := 3) (k := 11) (vs := [(0, ow_sc C (l3 + 1)), (0, ow_sc C (l3 + 2)), (0, ow_sc C (l3 + 3))]) (x := l1) (st := []) (pc' := 808) (b1 := (0, 0)) (b2 := (bc + 0, bs + 0)) dL_law_805 lRL_99 kX11_shares iX11_shares rfl rfl rfl rfl rfl (Prod.ext (Nat.zero_add _).symm (Nat.zero_add _).symm) w (ow_Sp.mono h (fun r35 N35 h => ?_))
      refine ow_aload_n (pc' := 809) (x := l2) dL_law_808 rfl rfl ?_
      refine ow_aload_n (pc' := 810) (x := 999) dL_law_809 rfl rfl ?_
      refine ow_iload_n (pc' := 811) (x := l3) dL_law_810 rfl rfl ?_
      refine ow_iconst (pc' := 812) (n := 1) dL_law_811 rfl rfl ?_
      obtain ⟨w, h⟩ := h
      refine ow_iadd (pc' := 813) dL_law_812 w rfl ?_
      obtain ⟨w, w1, h⟩ := h
      refine ow_scload (pc' := 814) dL_law_813 rfl w w1 ?_
      refine ow_aload_n (pc' := 815) (x := 999) dL_law_814 rfl rfl ?_
      refine ow_iload_n (pc' := 816) (x := l3) dL_law_815 rfl rfl ?_
      refine ow_iconst (pc' := 817) (n := 2) dL_law_816 rfl rfl ?_
      obtain ⟨w, h⟩ := h
      refine ow_iadd (pc' := 818) dL_law_817 w rfl ?_
      obtain ⟨w, w1, h⟩ := h
      refine ow_scload (pc' := 819) dL_law_818 rfl w w1 ?_
      refine ow_aload_n (pc' := 820) (x := 999) dL_law_819 rfl rfl ?_
      refine ow_iload_n (pc' := 821) (x := l3) dL_law_820 rfl rfl ?_
      refine ow_iconst (pc' := 822) (n := 3) dL_law_821 rfl rfl ?_
      obtain ⟨w, h⟩ := h
      refine ow_iadd (pc' := 823) dL_law_822 w rfl ?_
      obtain ⟨w, w1, h⟩ := h
      refine ow_scload (pc' := 824) dL_law_823 rfl w w1 ?_
      obtain ⟨w, h⟩ := h
      refine ow_callVp (z := mX12_shares) (n := 3) (k := 12) (vs := [(0, ow_sc C (l3 + 1)), (0, ow_sc C (l3 + 2)), (0, ow_sc C (l3 + 3))]) (x := l2) (st := [(0, r35)]) (pc' := 827) (b1 := (0, 0)) (b2 := (bc + 0, bs + 0)) dL_law_824 lRL_102 kX12_shares iX12_shares rfl rfl rfl rfl rfl (Prod.ext (Nat.zero_add _).symm (Nat.zero_add _).symm) w (ow_Sp.mono h (fun r36 N36 h => ?_))
      refine ow_icmpeq (pc' := 830) (tg := 1089) dL_law_827 rfl rfl (fun hc => ?_) (fun hc => ?_)
      · have h := h.1 hc
        obtain ⟨w, h⟩ := h
        refine ow_iinc (pc' := 1092) (lv' := [(0, (3, 999)), (1, (3, l1)), (2, (3, l2)), (3, (0, l3 + 6))]) dL_law_1089 rfl w rfl rfl rfl ?_
        refine ow_goto (tg := 38) dL_law_1092 rfl ?_
        exact h
      · have h := h.2 hc
        refine ow_iconst (pc' := 831) (n := 0) dL_law_830 rfl rfl ?_
        refine ow_less (b' := (0, 0)) rfl rfl ?_
        exact ow_zret dL_law_831 rfl rfl (Or.inl rfl) h
    have h := h.2 hc
    refine And.intro (fun hc => ?_) (fun hc => ?_)
    · have h := h.1 hc
      refine ow_aload_n (pc' := 833) (x := l1) dL_law_832 rfl rfl ?_
      refine ow_aload_n (pc' := 834) (x := 999) dL_law_833 rfl rfl ?_
      refine ow_iload_n (pc' := 835) (x := l3) dL_law_834 rfl rfl ?_
      refine ow_iconst (pc' := 836) (n := 1) dL_law_835 rfl rfl ?_
      obtain ⟨w, h⟩ := h
      refine ow_iadd (pc' := 837) dL_law_836 w rfl ?_
      obtain ⟨w, w1, h⟩ := h
      refine ow_scload (pc' := 838) dL_law_837 rfl w w1 ?_
      refine ow_aload_n (pc' := 839) (x := 999) dL_law_838 rfl rfl ?_
      refine ow_iload_n (pc' := 840) (x := l3) dL_law_839 rfl rfl ?_
      refine ow_iconst (pc' := 841) (n := 2) dL_law_840 rfl rfl ?_
      obtain ⟨w, h⟩ := h
      refine ow_iadd (pc' := 842) dL_law_841 w rfl ?_
      obtain ⟨w, w1, h⟩ := h
      refine ow_scload (pc' := 843) dL_law_842 rfl w w1 ?_
      refine ow_aload_n (pc' := 844) (x := 999) dL_law_843 rfl rfl ?_
      refine ow_iload_n (pc' := 845) (x := l3) dL_law_844 rfl rfl ?_
      refine ow_iconst (pc' := 846) (n := 3) dL_law_845 rfl rfl ?_
      obtain ⟨w, h⟩ := h
      refine ow_iadd (pc' := 847) dL_law_846 w rfl ?_
      obtain ⟨w, w1, h⟩ := h
      refine ow_scload (pc' := 848) dL_law_847 rfl w w1 ?_
      obtain ⟨w, h⟩ := h
      refine ow_callVp (z := mX11_near) (n := 3) (k := 11) (vs := [(0, ow_sc C (l3 + 1)), (0, ow_sc C (l3 + 2)), (0, ow_sc C (l3 + 3))]) (x := l1) (st := []) (pc' := 851) (b1 := (0, 0)) (b2 := (bc + 0, bs + 0)) dL_law_848 lRL_103 kX11_near iX11_near rfl rfl rfl rfl rfl (Prod.ext (Nat.zero_add _).symm (Nat.zero_add _).symm) w (ow_Sp.mono h (fun r37 N37 h => ?_))
      refine ow_aload_n (pc' := 852) (x := l2) dL_law_851 rfl rfl ?_
      refine ow_aload_n (pc' := 853) (x := 999) dL_law_852 rfl rfl ?_
      refine ow_iload_n (pc' := 854) (x := l3) dL_law_853 rfl rfl ?_
      refine ow_iconst (pc' := 855) (n := 1) dL_law_854 rfl rfl ?_
      obtain ⟨w, h⟩ := h
      refine ow_iadd (pc' := 856) dL_law_855 w rfl ?_
      obtain ⟨w, w1, h⟩ := h
      refine ow_scload (pc' := 857) dL_law_856 rfl w w1 ?_
      refine ow_aload_n (pc' := 858) (x := 999) dL_law_857 rfl rfl ?_
      refine ow_iload_n (pc' := 859) (x := l3) dL_law_858 rfl rfl ?_
      refine ow_iconst (pc' := 860) (n := 2) dL_law_859 rfl rfl ?_
      obtain ⟨w, h⟩ := h
      refine ow_iadd (pc' := 861) dL_law_860 w rfl ?_
      obtain ⟨w, w1, h⟩ := h
      refine ow_scload (pc' := 862) dL_law_861 rfl w w1 ?_
      refine ow_aload_n (pc' := 863) (x := 999) dL_law_862 rfl rfl ?_
      refine ow_iload_n (pc' := 864) (x := l3) dL_law_863 rfl rfl ?_
      refine ow_iconst (pc' := 865) (n := 3) dL_law_864 rfl rfl ?_
      obtain ⟨w, h⟩ := h
      refine ow_iadd (pc' := 866) dL_law_865 w rfl ?_
      obtain ⟨w, w1, h⟩ := h
      refine ow_scload (pc' := 867) dL_law_866 rfl w w1 ?_
      obtain ⟨w, h⟩ := h
      refine ow_callVp (z := mX12_near) (n := 3) (k := 12) (vs := [(0, ow_sc C (l3 + 1)), (0, ow_sc C (l3 + 2)), (0, ow_sc C (l3 + 3))]) (x := l2) (st := [(0, r37)]) (pc' := 870) (b1 := (0, 0)) (b2 := (bc + 0, bs + 0)) dL_law_867 lRL_106 kX12_near iX12_near rfl rfl rfl rfl rfl (Prod.ext (Nat.zero_add _).symm (Nat.zero_add _).symm) w (ow_Sp.mono h (fun r38 N38 h => ?_))
      refine ow_icmpeq (pc' := 873) (tg := 1089) dL_law_870 rfl rfl (fun hc => ?_) (fun hc => ?_)
      · have h := h.1 hc
        obtain ⟨w, h⟩ := h
        refine ow_iinc (pc' := 1092) (lv' := [(0, (3, 999)), (1, (3, l1)), (2, (3, l2)), (3, (0, l3 + 6))]) dL_law_1089 rfl w rfl rfl rfl ?_
        refine ow_goto (tg := 38) dL_law_1092 rfl ?_
        exact h
      · have h := h.2 hc
        refine ow_iconst (pc' := 874) (n := 0) dL_law_873 rfl rfl ?_
        refine ow_less (b' := (0, 0)) rfl rfl ?_
        exact ow_zret dL_law_874 rfl rfl (Or.inl rfl) h
    have h := h.2 hc
    refine And.intro (fun hc => ?_) (fun hc => ?_)
    · have h := h.1 hc
      refine ow_aload_n (pc' := 876) (x := l1) dL_law_875 rfl rfl ?_
      refine ow_aload_n (pc' := 877) (x := 999) dL_law_876 rfl rfl ?_
      refine ow_iload_n (pc' := 878) (x := l3) dL_law_877 rfl rfl ?_
      refine ow_iconst (pc' := 879) (n := 1) dL_law_878 rfl rfl ?_
      obtain ⟨w, h⟩ := h
      refine ow_iadd (pc' := 880) dL_law_879 w rfl ?_
      obtain ⟨w, w1, h⟩ := h
      refine ow_scload (pc' := 881) dL_law_880 rfl w w1 ?_
      obtain ⟨w, h⟩ := h
      refine ow_callVp (z := mX11_apart) (n := 1) (k := 11) (vs := [(0, ow_sc C (l3 + 1))]) (x := l1) (st := []) (pc' := 884) (b1 := (0, 0)) (b2 := (bc + 0, bs + 0)) dL_law_881 lRL_107 kX11_apart iX11_apart rfl rfl rfl rfl rfl (Prod.ext (Nat.zero_add _).symm (Nat.zero_add _).symm) w (ow_Sp.mono h (fun r39 N39 h => ?_))
      refine ow_aload_n (pc' := 885) (x := l2) dL_law_884 rfl rfl ?_
      refine ow_aload_n (pc' := 886) (x := 999) dL_law_885 rfl rfl ?_
      refine ow_iload_n (pc' := 887) (x := l3) dL_law_886 rfl rfl ?_
      refine ow_iconst (pc' := 888) (n := 1) dL_law_887 rfl rfl ?_
      obtain ⟨w, h⟩ := h
      refine ow_iadd (pc' := 889) dL_law_888 w rfl ?_
      obtain ⟨w, w1, h⟩ := h
      refine ow_scload (pc' := 890) dL_law_889 rfl w w1 ?_
      obtain ⟨w, h⟩ := h
      refine ow_callVp (z := mX12_apart) (n := 1) (k := 12) (vs := [(0, ow_sc C (l3 + 1))]) (x := l2) (st := [(0, r39)]) (pc' := 893) (b1 := (0, 0)) (b2 := (bc + 0, bs + 0)) dL_law_890 lRL_110 kX12_apart iX12_apart rfl rfl rfl rfl rfl (Prod.ext (Nat.zero_add _).symm (Nat.zero_add _).symm) w (ow_Sp.mono h (fun r40 N40 h => ?_))
      refine ow_icmpeq (pc' := 896) (tg := 1089) dL_law_893 rfl rfl (fun hc => ?_) (fun hc => ?_)
      · have h := h.1 hc
        obtain ⟨w, h⟩ := h
        refine ow_iinc (pc' := 1092) (lv' := [(0, (3, 999)), (1, (3, l1)), (2, (3, l2)), (3, (0, l3 + 6))]) dL_law_1089 rfl w rfl rfl rfl ?_
        refine ow_goto (tg := 38) dL_law_1092 rfl ?_
        exact h
      · have h := h.2 hc
        refine ow_iconst (pc' := 897) (n := 0) dL_law_896 rfl rfl ?_
        refine ow_less (b' := (0, 0)) rfl rfl ?_
        exact ow_zret dL_law_897 rfl rfl (Or.inl rfl) h
    have h := h.2 hc
    refine And.intro (fun hc => ?_) (fun hc => ?_)
    · have h := h.1 hc
      refine ow_aload_n (pc' := 899) (x := l1) dL_law_898 rfl rfl ?_
      refine ow_aload_n (pc' := 900) (x := 999) dL_law_899 rfl rfl ?_
      refine ow_iload_n (pc' := 901) (x := l3) dL_law_900 rfl rfl ?_
      refine ow_iconst (pc' := 902) (n := 1) dL_law_901 rfl rfl ?_
      obtain ⟨w, h⟩ := h
      refine ow_iadd (pc' := 903) dL_law_902 w rfl ?_
      obtain ⟨w, w1, h⟩ := h
      refine ow_scload (pc' := 904) dL_law_903 rfl w w1 ?_
      obtain ⟨w, h⟩ := h
      refine ow_callVp (z := mX11_log) (n := 1) (k := 11) (vs := [(0, ow_sc C (l3 + 1))]) (x := l1) (st := []) (pc' := 907) (b1 := (0, 0)) (b2 := (bc + 0, bs + 0)) dL_law_904 lRL_111 kX11_log iX11_log rfl rfl rfl rfl rfl (Prod.ext (Nat.zero_add _).symm (Nat.zero_add _).symm) w (ow_Sp.mono h (fun r41 N41 h => ?_))
      refine ow_aload_n (pc' := 908) (x := l2) dL_law_907 rfl rfl ?_
      refine ow_aload_n (pc' := 909) (x := 999) dL_law_908 rfl rfl ?_
      refine ow_iload_n (pc' := 910) (x := l3) dL_law_909 rfl rfl ?_
      refine ow_iconst (pc' := 911) (n := 1) dL_law_910 rfl rfl ?_
      obtain ⟨w, h⟩ := h
      refine ow_iadd (pc' := 912) dL_law_911 w rfl ?_
      obtain ⟨w, w1, h⟩ := h
      refine ow_scload (pc' := 913) dL_law_912 rfl w w1 ?_
      obtain ⟨w, h⟩ := h
      refine ow_callVp (z := mX12_log) (n := 1) (k := 12) (vs := [(0, ow_sc C (l3 + 1))]) (x := l2) (st := [(0, r41)]) (pc' := 916) (b1 := (0, 0)) (b2 := (bc + 0, bs + 0)) dL_law_913 lRL_114 kX12_log iX12_log rfl rfl rfl rfl rfl (Prod.ext (Nat.zero_add _).symm (Nat.zero_add _).symm) w (ow_Sp.mono h (fun r42 N42 h => ?_))
      refine ow_icmpeq (pc' := 919) (tg := 1089) dL_law_916 rfl rfl (fun hc => ?_) (fun hc => ?_)
      · have h := h.1 hc
        obtain ⟨w, h⟩ := h
        refine ow_iinc (pc' := 1092) (lv' := [(0, (3, 999)), (1, (3, l1)), (2, (3, l2)), (3, (0, l3 + 6))]) dL_law_1089 rfl w rfl rfl rfl ?_
        refine ow_goto (tg := 38) dL_law_1092 rfl ?_
        exact h
      · have h := h.2 hc
        refine ow_iconst (pc' := 920) (n := 0) dL_law_919 rfl rfl ?_
        refine ow_less (b' := (0, 0)) rfl rfl ?_
        exact ow_zret dL_law_920 rfl rfl (Or.inl rfl) h
    have h := h.2 hc
    refine And.intro (fun hc => ?_) (fun hc => ?_)
    · have h := h.1 hc
      refine ow_aload_n (pc' := 922) (x := l1) dL_law_921 rfl rfl ?_
      refine ow_aload_n (pc' := 923) (x := 999) dL_law_922 rfl rfl ?_
      refine ow_iload_n (pc' := 924) (x := l3) dL_law_923 rfl rfl ?_
      refine ow_iconst (pc' := 925) (n := 1) dL_law_924 rfl rfl ?_
      obtain ⟨w, h⟩ := h
      refine ow_iadd (pc' := 926) dL_law_925 w rfl ?_
      obtain ⟨w, w1, h⟩ := h
      refine ow_scload (pc' := 927) dL_law_926 rfl w w1 ?_
      refine ow_aload_n (pc' := 928) (x := 999) dL_law_927 rfl rfl ?_
      refine ow_iload_n (pc' := 929) (x := l3) dL_law_928 rfl rfl ?_
      refine ow_iconst (pc' := 930) (n := 2) dL_law_929 rfl rfl ?_
      obtain ⟨w, h⟩ := h
      refine ow_iadd (pc' := 931) dL_law_930 w rfl ?_
      obtain ⟨w, w1, h⟩ := h
      refine ow_scload (pc' := 932) dL_law_931 rfl w w1 ?_
      refine ow_aload_n (pc' := 933) (x := 999) dL_law_932 rfl rfl ?_
      refine ow_iload_n (pc' := 934) (x := l3) dL_law_933 rfl rfl ?_
      refine ow_iconst (pc' := 935) (n := 3) dL_law_934 rfl rfl ?_
      obtain ⟨w, h⟩ := h
      refine ow_iadd (pc' := 936) dL_law_935 w rfl ?_
      obtain ⟨w, w1, h⟩ := h
      refine ow_scload (pc' := 937) dL_law_936 rfl w w1 ?_
      obtain ⟨w, h⟩ := h
      refine ow_callVp (z := mX11_said) (n := 3) (k := 11) (vs := [(0, ow_sc C (l3 + 1)), (0, ow_sc C (l3 + 2)), (0, ow_sc C (l3 + 3))]) (x := l1) (st := []) (pc' := 940) (b1 := (0, 0)) (b2 := (bc + 0, bs + 0)) dL_law_937 lRL_115 kX11_said iX11_said rfl rfl rfl rfl rfl (Prod.ext (Nat.zero_add _).symm (Nat.zero_add _).symm) w (ow_Sp.mono h (fun r43 N43 h => ?_))
      refine ow_aload_n (pc' := 941) (x := l2) dL_law_940 rfl rfl ?_
      refine ow_aload_n (pc' := 942) (x := 999) dL_law_941 rfl rfl ?_
      refine ow_iload_n (pc' := 943) (x := l3) dL_law_942 rfl rfl ?_
      refine ow_iconst (pc' := 944) (n := 1) dL_law_943 rfl rfl ?_
      obtain ⟨w, h⟩ := h
      refine ow_iadd (pc' := 945) dL_law_944 w rfl ?_
      obtain ⟨w, w1, h⟩ := h
      refine ow_scload (pc' := 946) dL_law_945 rfl w w1 ?_
      refine ow_aload_n (pc' := 947) (x := 999) dL_law_946 rfl rfl ?_
      refine ow_iload_n (pc' := 948) (x := l3) dL_law_947 rfl rfl ?_
      refine ow_iconst (pc' := 949) (n := 2) dL_law_948 rfl rfl ?_
      obtain ⟨w, h⟩ := h
      refine ow_iadd (pc' := 950) dL_law_949 w rfl ?_
      obtain ⟨w, w1, h⟩ := h
      refine ow_scload (pc' := 951) dL_law_950 rfl w w1 ?_
      refine ow_aload_n (pc' := 952) (x := 999) dL_law_951 rfl rfl ?_
      refine ow_iload_n (pc' := 953) (x := l3) dL_law_952 rfl rfl ?_
      refine ow_iconst (pc' := 954) (n := 3) dL_law_953 rfl rfl ?_
      obtain ⟨w, h⟩ := h
      refine ow_iadd (pc' := 955) dL_law_954 w rfl ?_
      obtain ⟨w, w1, h⟩ := h
      refine ow_scload (pc' := 956) dL_law_955 rfl w w1 ?_
      obtain ⟨w, h⟩ := h
      refine ow_callVp (z := mX12_said) (n := 3) (k := 12) (vs := [(0, ow_sc C (l3 + 1)), (0, ow_sc C (l3 + 2)), (0, ow_sc C (l3 + 3))]) (x := l2) (st := [(0, r43)]) (pc' := 959) (b1 := (0, 0)) (b2 := (bc + 0, bs + 0)) dL_law_956 lRL_118 kX12_said iX12_said rfl rfl rfl rfl rfl (Prod.ext (Nat.zero_add _).symm (Nat.zero_add _).symm) w (ow_Sp.mono h (fun r44 N44 h => ?_))
      refine ow_icmpeq (pc' := 962) (tg := 1089) dL_law_959 rfl rfl (fun hc => ?_) (fun hc => ?_)
      · have h := h.1 hc
        obtain ⟨w, h⟩ := h
        refine ow_iinc (pc' := 1092) (lv' := [(0, (3, 999)), (1, (3, l1)), (2, (3, l2)), (3, (0, l3 + 6))]) dL_law_1089 rfl w rfl rfl rfl ?_
        refine ow_goto (tg := 38) dL_law_1092 rfl ?_
        exact h
      · have h := h.2 hc
        refine ow_iconst (pc' := 963) (n := 0) dL_law_962 rfl rfl ?_
        refine ow_less (b' := (0, 0)) rfl rfl ?_
        exact ow_zret dL_law_963 rfl rfl (Or.inl rfl) h
    have h := h.2 hc
    refine And.intro (fun hc => ?_) (fun hc => ?_)
    · have h := h.1 hc
      refine ow_aload_n (pc' := 965) (x := l1) dL_law_964 rfl rfl ?_
      refine ow_aload_n (pc' := 966) (x := 999) dL_law_965 rfl rfl ?_
      refine ow_iload_n (pc' := 967) (x := l3) dL_law_966 rfl rfl ?_
      refine ow_iconst (pc' := 968) (n := 1) dL_law_967 rfl rfl ?_
      obtain ⟨w, h⟩ := h
      refine ow_iadd (pc' := 969) dL_law_968 w rfl ?_
      obtain ⟨w, w1, h⟩ := h
      refine ow_scload (pc' := 970) dL_law_969 rfl w w1 ?_
      refine ow_aload_n (pc' := 971) (x := 999) dL_law_970 rfl rfl ?_
      refine ow_iload_n (pc' := 972) (x := l3) dL_law_971 rfl rfl ?_
      refine ow_iconst (pc' := 973) (n := 2) dL_law_972 rfl rfl ?_
      obtain ⟨w, h⟩ := h
      refine ow_iadd (pc' := 974) dL_law_973 w rfl ?_
      obtain ⟨w, w1, h⟩ := h
      refine ow_scload (pc' := 975) dL_law_974 rfl w w1 ?_
      obtain ⟨w, h⟩ := h
      refine ow_callVp (z := mX11_broke) (n := 2) (k := 11) (vs := [(0, ow_sc C (l3 + 1)), (0, ow_sc C (l3 + 2))]) (x := l1) (st := []) (pc' := 978) (b1 := (0, 0)) (b2 := (bc + 0, bs + 0)) dL_law_975 lRL_119 kX11_broke iX11_broke rfl rfl rfl rfl rfl (Prod.ext (Nat.zero_add _).symm (Nat.zero_add _).symm) w (ow_Sp.mono h (fun r45 N45 h => ?_))
      refine ow_aload_n (pc' := 979) (x := l2) dL_law_978 rfl rfl ?_
      refine ow_aload_n (pc' := 980) (x := 999) dL_law_979 rfl rfl ?_
      refine ow_iload_n (pc' := 981) (x := l3) dL_law_980 rfl rfl ?_
      refine ow_iconst (pc' := 982) (n := 1) dL_law_981 rfl rfl ?_
      obtain ⟨w, h⟩ := h
      refine ow_iadd (pc' := 983) dL_law_982 w rfl ?_
      obtain ⟨w, w1, h⟩ := h
      refine ow_scload (pc' := 984) dL_law_983 rfl w w1 ?_
      refine ow_aload_n (pc' := 985) (x := 999) dL_law_984 rfl rfl ?_
      refine ow_iload_n (pc' := 986) (x := l3) dL_law_985 rfl rfl ?_
      refine ow_iconst (pc' := 987) (n := 2) dL_law_986 rfl rfl ?_
      obtain ⟨w, h⟩ := h
      refine ow_iadd (pc' := 988) dL_law_987 w rfl ?_
      obtain ⟨w, w1, h⟩ := h
      refine ow_scload (pc' := 989) dL_law_988 rfl w w1 ?_
      obtain ⟨w, h⟩ := h
      refine ow_callVp (z := mX12_broke) (n := 2) (k := 12) (vs := [(0, ow_sc C (l3 + 1)), (0, ow_sc C (l3 + 2))]) (x := l2) (st := [(0, r45)]) (pc' := 992) (b1 := (0, 0)) (b2 := (bc + 0, bs + 0)) dL_law_989 lRL_122 kX12_broke iX12_broke rfl rfl rfl rfl rfl (Prod.ext (Nat.zero_add _).symm (Nat.zero_add _).symm) w (ow_Sp.mono h (fun r46 N46 h => ?_))
      refine ow_icmpeq (pc' := 995) (tg := 1089) dL_law_992 rfl rfl (fun hc => ?_) (fun hc => ?_)
      · have h := h.1 hc
        obtain ⟨w, h⟩ := h
        refine ow_iinc (pc' := 1092) (lv' := [(0, (3, 999)), (1, (3, l1)), (2, (3, l2)), (3, (0, l3 + 6))]) dL_law_1089 rfl w rfl rfl rfl ?_
        refine ow_goto (tg := 38) dL_law_1092 rfl ?_
        exact h
      · have h := h.2 hc
        refine ow_iconst (pc' := 996) (n := 0) dL_law_995 rfl rfl ?_
        refine ow_less (b' := (0, 0)) rfl rfl ?_
        exact ow_zret dL_law_996 rfl rfl (Or.inl rfl) h
    have h := h.2 hc
    refine And.intro (fun hc => ?_) (fun hc => ?_)
    · have h := h.1 hc
      refine ow_aload_n (pc' := 998) (x := l1) dL_law_997 rfl rfl ?_
      refine ow_aload_n (pc' := 999) (x := 999) dL_law_998 rfl rfl ?_
      refine ow_iload_n (pc' := 1000) (x := l3) dL_law_999 rfl rfl ?_
      refine ow_iconst (pc' := 1001) (n := 1) dL_law_1000 rfl rfl ?_
      obtain ⟨w, h⟩ := h
      refine ow_iadd (pc' := 1002) dL_law_1001 w rfl ?_
      obtain ⟨w, w1, h⟩ := h
      refine ow_scload (pc' := 1003) dL_law_1002 rfl w w1 ?_
      refine ow_aload_n (pc' := 1004) (x := 999) dL_law_1003 rfl rfl ?_
      refine ow_iload_n (pc' := 1005) (x := l3) dL_law_1004 rfl rfl ?_
      refine ow_iconst (pc' := 1006) (n := 2) dL_law_1005 rfl rfl ?_
      obtain ⟨w, h⟩ := h
      refine ow_iadd (pc' := 1007) dL_law_1006 w rfl ?_
      obtain ⟨w, w1, h⟩ := h
      refine ow_scload (pc' := 1008) dL_law_1007 rfl w w1 ?_
      refine ow_aload_n (pc' := 1009) (x := 999) dL_law_1008 rfl rfl ?_
      refine ow_iload_n (pc' := 1010) (x := l3) dL_law_1009 rfl rfl ?_
      refine ow_iconst (pc' := 1011) (n := 3) dL_law_1010 rfl rfl ?_
      obtain ⟨w, h⟩ := h
      refine ow_iadd (pc' := 1012) dL_law_1011 w rfl ?_
      obtain ⟨w, w1, h⟩ := h
      refine ow_scload (pc' := 1013) dL_law_1012 rfl w w1 ?_
      obtain ⟨w, h⟩ := h
      refine ow_callVp (z := mX11_message) (n := 3) (k := 11) (vs := [(0, ow_sc C (l3 + 1)), (0, ow_sc C (l3 + 2)), (0, ow_sc C (l3 + 3))]) (x := l1) (st := []) (pc' := 1016) (b1 := (0, 0)) (b2 := (bc + 0, bs + 0)) dL_law_1013 lRL_123 kX11_message iX11_message rfl rfl rfl rfl rfl (Prod.ext (Nat.zero_add _).symm (Nat.zero_add _).symm) w (ow_Sp.mono h (fun r47 N47 h => ?_))
      refine ow_aload_n (pc' := 1017) (x := l2) dL_law_1016 rfl rfl ?_
      refine ow_aload_n (pc' := 1018) (x := 999) dL_law_1017 rfl rfl ?_
      refine ow_iload_n (pc' := 1019) (x := l3) dL_law_1018 rfl rfl ?_
      refine ow_iconst (pc' := 1020) (n := 1) dL_law_1019 rfl rfl ?_
      obtain ⟨w, h⟩ := h
      refine ow_iadd (pc' := 1021) dL_law_1020 w rfl ?_
      obtain ⟨w, w1, h⟩ := h
      refine ow_scload (pc' := 1022) dL_law_1021 rfl w w1 ?_
      refine ow_aload_n (pc' := 1023) (x := 999) dL_law_1022 rfl rfl ?_
      refine ow_iload_n (pc' := 1024) (x := l3) dL_law_1023 rfl rfl ?_
      refine ow_iconst (pc' := 1025) (n := 2) dL_law_1024 rfl rfl ?_
      obtain ⟨w, h⟩ := h
      refine ow_iadd (pc' := 1026) dL_law_1025 w rfl ?_
      obtain ⟨w, w1, h⟩ := h
      refine ow_scload (pc' := 1027) dL_law_1026 rfl w w1 ?_
      refine ow_aload_n (pc' := 1028) (x := 999) dL_law_1027 rfl rfl ?_
      refine ow_iload_n (pc' := 1029) (x := l3) dL_law_1028 rfl rfl ?_
      refine ow_iconst (pc' := 1030) (n := 3) dL_law_1029 rfl rfl ?_
      obtain ⟨w, h⟩ := h
      refine ow_iadd (pc' := 1031) dL_law_1030 w rfl ?_
      obtain ⟨w, w1, h⟩ := h
      refine ow_scload (pc' := 1032) dL_law_1031 rfl w w1 ?_
      obtain ⟨w, h⟩ := h
      refine ow_callVp (z := mX12_message) (n := 3) (k := 12) (vs := [(0, ow_sc C (l3 + 1)), (0, ow_sc C (l3 + 2)), (0, ow_sc C (l3 + 3))]) (x := l2) (st := [(0, r47)]) (pc' := 1035) (b1 := (0, 0)) (b2 := (bc + 0, bs + 0)) dL_law_1032 lRL_126 kX12_message iX12_message rfl rfl rfl rfl rfl (Prod.ext (Nat.zero_add _).symm (Nat.zero_add _).symm) w (ow_Sp.mono h (fun r48 N48 h => ?_))
      refine ow_icmpeq (pc' := 1038) (tg := 1089) dL_law_1035 rfl rfl (fun hc => ?_) (fun hc => ?_)
      · have h := h.1 hc
        obtain ⟨w, h⟩ := h
        refine ow_iinc (pc' := 1092) (lv' := [(0, (3, 999)), (1, (3, l1)), (2, (3, l2)), (3, (0, l3 + 6))]) dL_law_1089 rfl w rfl rfl rfl ?_
        refine ow_goto (tg := 38) dL_law_1092 rfl ?_
        exact h
      · have h := h.2 hc
        refine ow_iconst (pc' := 1039) (n := 0) dL_law_1038 rfl rfl ?_
        refine ow_less (b' := (0, 0)) rfl rfl ?_
        exact ow_zret dL_law_1039 rfl rfl (Or.inl rfl) h
    have h := h.2 hc
    refine And.intro (fun hc => ?_) (fun hc => ?_)
    · have h := h.1 hc
      refine ow_aload_n (pc' := 1041) (x := l1) dL_law_1040 rfl rfl ?_
      obtain ⟨w, h⟩ := h
      refine ow_callVp (z := mX11_image) (n := 0) (k := 11) (vs := []) (x := l1) (st := []) (pc' := 1044) (b1 := (0, 0)) (b2 := (bc + 0, bs + 0)) dL_law_1041 lRL_127 kX11_image iX11_image rfl rfl rfl rfl rfl (Prod.ext (Nat.zero_add _).symm (Nat.zero_add _).symm) w (ow_Sp.mono h (fun r49 N49 h => ?_))
      refine ow_aload_n (pc' := 1045) (x := l2) dL_law_1044 rfl rfl ?_
      obtain ⟨w, h⟩ := h
      refine ow_callVp (z := mX12_image) (n := 0) (k := 12) (vs := []) (x := l2) (st := [(0, r49)]) (pc' := 1048) (b1 := (0, 0)) (b2 := (bc + 0, bs + 0)) dL_law_1045 lRL_130 kX12_image iX12_image rfl rfl rfl rfl rfl (Prod.ext (Nat.zero_add _).symm (Nat.zero_add _).symm) w (ow_Sp.mono h (fun r50 N50 h => ?_))
      refine ow_icmpeq (pc' := 1051) (tg := 1089) dL_law_1048 rfl rfl (fun hc => ?_) (fun hc => ?_)
      · have h := h.1 hc
        obtain ⟨w, h⟩ := h
        refine ow_iinc (pc' := 1092) (lv' := [(0, (3, 999)), (1, (3, l1)), (2, (3, l2)), (3, (0, l3 + 6))]) dL_law_1089 rfl w rfl rfl rfl ?_
        refine ow_goto (tg := 38) dL_law_1092 rfl ?_
        exact h
      · have h := h.2 hc
        refine ow_iconst (pc' := 1052) (n := 0) dL_law_1051 rfl rfl ?_
        refine ow_less (b' := (0, 0)) rfl rfl ?_
        exact ow_zret dL_law_1052 rfl rfl (Or.inl rfl) h
    have h := h.2 hc
    refine And.intro (fun hc => ?_) (fun hc => ?_)
    · have h := h.1 hc
      refine ow_aload_n (pc' := 1054) (x := l1) dL_law_1053 rfl rfl ?_
      obtain ⟨w, h⟩ := h
      refine ow_callVp (z := mX11_back) (n := 0) (k := 11) (vs := []) (x := l1) (st := []) (pc' := 1057) (b1 := (0, 0)) (b2 := (bc + 0, bs + 0)) dL_law_1054 lRL_131 kX11_back iX11_back rfl rfl rfl rfl rfl (Prod.ext (Nat.zero_add _).symm (Nat.zero_add _).symm) w (ow_Sp.mono h (fun r51 N51 h => ?_))
      refine ow_aload_n (pc' := 1058) (x := l2) dL_law_1057 rfl rfl ?_
      obtain ⟨w, h⟩ := h
      refine ow_callVp (z := mX12_back) (n := 0) (k := 12) (vs := []) (x := l2) (st := [(0, r51)]) (pc' := 1061) (b1 := (0, 0)) (b2 := (bc + 0, bs + 0)) dL_law_1058 lRL_134 kX12_back iX12_back rfl rfl rfl rfl rfl (Prod.ext (Nat.zero_add _).symm (Nat.zero_add _).symm) w (ow_Sp.mono h (fun r52 N52 h => ?_))
      refine ow_icmpeq (pc' := 1064) (tg := 1089) dL_law_1061 rfl rfl (fun hc => ?_) (fun hc => ?_)
      · have h := h.1 hc
        obtain ⟨w, h⟩ := h
        refine ow_iinc (pc' := 1092) (lv' := [(0, (3, 999)), (1, (3, l1)), (2, (3, l2)), (3, (0, l3 + 6))]) dL_law_1089 rfl w rfl rfl rfl ?_
        refine ow_goto (tg := 38) dL_law_1092 rfl ?_
        exact h
      · have h := h.2 hc
        refine ow_iconst (pc' := 1065) (n := 0) dL_law_1064 rfl rfl ?_
        refine ow_less (b' := (0, 0)) rfl rfl ?_
        exact ow_zret dL_law_1065 rfl rfl (Or.inl rfl) h
    have h := h.2 hc
    refine And.intro (fun hc => ?_) (fun hc => ?_)
    · have h := h.1 hc
      refine ow_aload_n (pc' := 1067) (x := l1) dL_law_1066 rfl rfl ?_
      refine ow_aload_n (pc' := 1068) (x := 999) dL_law_1067 rfl rfl ?_
      refine ow_iload_n (pc' := 1069) (x := l3) dL_law_1068 rfl rfl ?_
      refine ow_iconst (pc' := 1070) (n := 1) dL_law_1069 rfl rfl ?_
      obtain ⟨w, h⟩ := h
      refine ow_iadd (pc' := 1071) dL_law_1070 w rfl ?_
      obtain ⟨w, w1, h⟩ := h
      refine ow_scload (pc' := 1072) dL_law_1071 rfl w w1 ?_
      obtain ⟨w, h⟩ := h
      refine ow_callVp (z := mX11_about) (n := 1) (k := 11) (vs := [(0, ow_sc C (l3 + 1))]) (x := l1) (st := []) (pc' := 1075) (b1 := (0, 0)) (b2 := (bc + 0, bs + 0)) dL_law_1072 lRL_135 kX11_about iX11_about rfl rfl rfl rfl rfl (Prod.ext (Nat.zero_add _).symm (Nat.zero_add _).symm) w (ow_Sp.mono h (fun r53 N53 h => ?_))
      refine ow_aload_n (pc' := 1076) (x := l2) dL_law_1075 rfl rfl ?_
      refine ow_aload_n (pc' := 1077) (x := 999) dL_law_1076 rfl rfl ?_
      refine ow_iload_n (pc' := 1078) (x := l3) dL_law_1077 rfl rfl ?_
      refine ow_iconst (pc' := 1079) (n := 1) dL_law_1078 rfl rfl ?_
      obtain ⟨w, h⟩ := h
      refine ow_iadd (pc' := 1080) dL_law_1079 w rfl ?_
      obtain ⟨w, w1, h⟩ := h
      refine ow_scload (pc' := 1081) dL_law_1080 rfl w w1 ?_
      obtain ⟨w, h⟩ := h
      refine ow_callVp (z := mX12_about) (n := 1) (k := 12) (vs := [(0, ow_sc C (l3 + 1))]) (x := l2) (st := [(0, r53)]) (pc' := 1084) (b1 := (0, 0)) (b2 := (bc + 0, bs + 0)) dL_law_1081 lRL_138 kX12_about iX12_about rfl rfl rfl rfl rfl (Prod.ext (Nat.zero_add _).symm (Nat.zero_add _).symm) w (ow_Sp.mono h (fun r54 N54 h => ?_))
      refine ow_icmpeq (pc' := 1087) (tg := 1089) dL_law_1084 rfl rfl (fun hc => ?_) (fun hc => ?_)
      · have h := h.1 hc
        obtain ⟨w, h⟩ := h
        refine ow_iinc (pc' := 1092) (lv' := [(0, (3, 999)), (1, (3, l1)), (2, (3, l2)), (3, (0, l3 + 6))]) dL_law_1089 rfl w rfl rfl rfl ?_
        refine ow_goto (tg := 38) dL_law_1092 rfl ?_
        exact h
      · have h := h.2 hc
        refine ow_iconst (pc' := 1088) (n := 0) dL_law_1087 rfl rfl ?_
        refine ow_less (b' := (0, 0)) rfl rfl ?_
        exact ow_zret dL_law_1088 rfl rfl (Or.inl rfl) h
    have h := h.2 hc
    obtain ⟨w, h⟩ := h
    refine ow_iinc (pc' := 1092) (lv' := [(0, (3, 999)), (1, (3, l1)), (2, (3, l2)), (3, (0, l3 + 6))]) dL_law_1089 rfl w rfl rfl rfl ?_
    refine ow_goto (tg := 38) dL_law_1092 rfl ?_
    exact h
