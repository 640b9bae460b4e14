/-! ===== the texts of the class: their lengths and letters ===== -/
theorem lJ0_9 : Cond.fieldLink RJ0 9 "java/lang/String" "value" "[B" ∈ ow_gt := ow_mem7 168 rfl rfl
theorem lJ0_15 : Cond.fieldLink RJ0 15 "java/lang/String" "coder" "B" ∈ ow_gt := ow_mem7 169 rfl rfl
theorem lJ0_38 : Cond.fieldLink RJ0 38 "java/lang/String" "COMPACT_STRINGS" "Z" ∈ ow_gt := ow_mem3 79 rfl rfl
theorem lJ0_335 : Cond.methodLink RJ0 335 yJ0_coder_7d493 ∈ ow_gt := ow_mem3 75 rfl rfl
theorem lJ0_492 : Cond.methodLink RJ0 492 yJ0_isLatin1_aae02 ∈ ow_gt := ow_mem3 85 rfl rfl
theorem lJ0_495 : Cond.methodLink RJ0 495 yJ1_charAt_3b067 ∈ ow_gt := ow_mem3 89 rfl rfl
theorem lJ1_9 : Cond.methodLink RJ1 9 yJ0_checkIndex_df160 ∈ ow_gt := ow_mem3 92 rfl rfl
theorem lJ0_1053 : Cond.fieldLink RJ0 1053 "jdk/internal/util/Preconditions" "SIOOBE_FORMATTER" "Ljava/util/function/BiFunction;" ∈ ow_gt := ow_mem3 95 rfl rfl
theorem lJ0_1059 : Cond.methodLink RJ0 1059 yJ3_checkIndex_8e157 ∈ ow_gt := ow_mem3 97 rfl rfl
section SGS
variable {C : ow_C} {E : ow_E} {d k : Nat} {M : ow_M} {K : Int → ow_M → Prop}
theorem tJ3_checkIndex {i n v : Int} (h0 : 0 ≤ i) (h1 : i < n) (hK : K i M) : ow_Sp C E d mJ3_checkIndex_8e157 (0, 0) [(0, i), (0, n), (3, v)] M K := by
  refine ow_enter (by decide +kernel) rfl rfl ?_
  refine ow_iload_n (pc' := 1) (x := i) dJ3_checkIndex_8e157_0 rfl rfl ?_
  refine ow_iflt (pc' := 4) (tg := 9) dJ3_checkIndex_8e157_1 rfl rfl (fun q => by omega) (fun _ => ?_)
  refine ow_iload_n (pc' := 5) (x := i) dJ3_checkIndex_8e157_4 rfl rfl ?_
  refine ow_iload_n (pc' := 6) (x := n) dJ3_checkIndex_8e157_5 rfl rfl ?_
  refine ow_icmplt (pc' := 9) (tg := 16) dJ3_checkIndex_8e157_6 rfl rfl (fun _ => ?_) (fun q => by omega)
  refine ow_iload_n (pc' := 17) (x := i) dJ3_checkIndex_8e157_16 rfl rfl ?_
  exact ow_iret dJ3_checkIndex_8e157_17 rfl rfl hK
theorem tJ0_checkIndex {i n : Int} (h0 : 0 ≤ i) (h1 : i < n) (hK : K 0 M) : ow_Sp C E (d + 1) mJ0_checkIndex_df160 (0, 0) [(0, i), (0, n)] M K := by
  refine ow_enter (by decide +kernel) rfl rfl ?_
  refine ow_iload_n (pc' := 1) (x := i) dJ0_checkIndex_df160_0 rfl rfl ?_
  refine ow_iload_n (pc' := 2) (x := n) dJ0_checkIndex_df160_1 rfl rfl ?_
  refine ow_getsio (pc' := 5) dJ0_checkIndex_df160_2 lJ0_1053 rfl ?_
  refine ow_callSp (z := mJ3_checkIndex_8e157) (n := 3) (vs := [(0, i), (0, n), (3, ow_sio C)]) (st := []) (pc' := 8) (b1 := (0, 0)) (b2 := (0, 0)) dJ0_checkIndex_df160_5 lJ0_1059 kJ3_checkIndex_8e157 zJ3_checkIndex_8e157 rfl rfl rfl rfl rfl rfl (tJ3_checkIndex h0 h1 ?_)
  refine ow_pop (pc' := 9) dJ0_checkIndex_df160_8 rfl rfl ?_
  exact ow_vret dJ0_checkIndex_df160_9 rfl rfl hK
theorem ow_byt_rg : ∀ k : Fin 16, ∀ j : Fin 12, 0 ≤ ow_byt k.val (j.val : Int) ∧ ow_byt k.val (j.val : Int) ≤ 122 := by decide +kernel
theorem tJ1_charAt {i : Int} (hk : k < 16) (h0 : 0 ≤ i) (h1 : i < ow_len k) (hK : K (ow_byt k i) M) : ow_Sp C E (d + 2) mJ1_charAt_3b067 (0, 0) [(3, 2000 + (k : Int)), (0, i)] M K := by
  have hl : ow_len k ≤ 11 := by
    have := ow_len_le k hk
    unfold ow_len
    omega
  have rg : 0 ≤ ow_byt k i ∧ ow_byt k i ≤ 122 := by
    obtain ⟨j, rfl⟩ := Int.eq_ofNat_of_zero_le h0
    exact ow_byt_rg ⟨k, hk⟩ ⟨j, by omega⟩
  have an : ow_and (ow_byt k i) 255 = ow_byt k i := by rw [ow_and255]; omega
  refine ow_enter (by decide +kernel) rfl rfl ?_
  refine ow_iload_n (pc' := 1) (x := i) dJ1_charAt_3b067_0 rfl rfl ?_
  refine ow_aload_n (pc' := 2) (x := 2000 + (k : Int)) dJ1_charAt_3b067_1 rfl rfl ?_
  refine ow_slen (pc' := 3) dJ1_charAt_3b067_2 hk rfl ?_
  refine ow_callSv (z := mJ0_checkIndex_df160) (n := 2) (vs := [(0, i), (0, ow_len k)]) (st := []) (pc' := 6) (b1 := (0, 0)) (b2 := (0, 0)) dJ1_charAt_3b067_3 lJ1_9 kJ0_checkIndex_df160 zJ0_checkIndex_df160 rfl rfl rfl rfl rfl rfl (tJ0_checkIndex h0 h1 ?_)
  refine ow_aload_n (pc' := 7) (x := 2000 + (k : Int)) dJ1_charAt_3b067_6 rfl rfl ?_
  refine ow_iload_n (pc' := 8) (x := i) dJ1_charAt_3b067_7 rfl rfl ?_
  refine ow_sbald (pc' := 9) dJ1_charAt_3b067_8 hk rfl h0 h1 ?_
  refine ow_sipush (pc' := 12) (n := 255) dJ1_charAt_3b067_9 rfl rfl ?_
  refine ow_iand (pc' := 13) dJ1_charAt_3b067_12 rfl ?_
  rw [an]
  refine ow_i2c (pc' := 14) dJ1_charAt_3b067_13 rfl rg.1 (by omega) ?_
  exact ow_cret dJ1_charAt_3b067_14 rfl rfl rg.1 (by omega) hK
theorem tJ0_coder (hk : k < 16) (hK : K 0 M) : ow_Sp C E d mJ0_coder_7d493 (0, 0) [(3, 1000 + (k : Int))] M K := by
  refine ow_enter (by decide +kernel) rfl rfl ?_
  refine ow_getcs (pc' := 3) dJ0_coder_7d493_0 lJ0_38 rfl ?_
  refine ow_ifeq (pc' := 6) (tg := 13) dJ0_coder_7d493_3 rfl rfl (fun q => absurd q (by decide)) (fun _ => ?_)
  refine ow_aload_n (pc' := 7) (x := 1000 + (k : Int)) dJ0_coder_7d493_6 rfl rfl ?_
  refine ow_getcod (pc' := 10) dJ0_coder_7d493_7 hk lJ0_15 rfl ?_
  refine ow_goto (tg := 14) dJ0_coder_7d493_10 rfl ?_
  exact ow_bret dJ0_coder_7d493_14 rfl rfl rfl hK
theorem tJ0_isLatin1 (hk : k < 16) (hK : K 1 M) : ow_Sp C E d mJ0_isLatin1_aae02 (0, 0) [(3, 1000 + (k : Int))] M K := by
  refine ow_enter (by decide +kernel) rfl rfl ?_
  refine ow_getcs (pc' := 3) dJ0_isLatin1_aae02_0 lJ0_38 rfl ?_
  refine ow_ifeq (pc' := 6) (tg := 17) dJ0_isLatin1_aae02_3 rfl rfl (fun q => absurd q (by decide)) (fun _ => ?_)
  refine ow_aload_n (pc' := 7) (x := 1000 + (k : Int)) dJ0_isLatin1_aae02_6 rfl rfl ?_
  refine ow_getcod (pc' := 10) dJ0_isLatin1_aae02_7 hk lJ0_15 rfl ?_
  refine ow_ifne (pc' := 13) (tg := 17) dJ0_isLatin1_aae02_10 rfl rfl (fun q => absurd rfl q) (fun _ => ?_)
  refine ow_iconst (pc' := 14) (n := 1) dJ0_isLatin1_aae02_13 rfl rfl ?_
  refine ow_goto (tg := 18) dJ0_isLatin1_aae02_14 rfl ?_
  exact ow_zret dJ0_isLatin1_aae02_18 rfl rfl (Or.inr rfl) hK
theorem ow_shr0 : ∀ n : Fin 12, ow_shr (n.val : Int) 0 = (n.val : Int) := by decide
theorem tJ0_length (hk : k < 16) (hK : K (ow_len k) M) : ow_Sp C E (d + 1) mJ0_length_8abf5 (0, 0) [(3, 1000 + (k : Int))] M K := by
  have hl := ow_len_le k hk
  have es : ow_shr (ow_len k) 0 = ow_len k := ow_shr0 ⟨ow_sl.getD k 0, by omega⟩
  refine ow_enter (by decide +kernel) rfl rfl ?_
  refine ow_aload_n (pc' := 1) (x := 1000 + (k : Int)) dJ0_length_8abf5_0 rfl rfl ?_
  refine ow_getval (pc' := 4) dJ0_length_8abf5_1 hk lJ0_9 rfl ?_
  refine ow_slen (pc' := 5) dJ0_length_8abf5_4 hk rfl ?_
  refine ow_aload_n (pc' := 6) (x := 1000 + (k : Int)) dJ0_length_8abf5_5 rfl rfl ?_
  refine ow_callTp (z := mJ0_coder_7d493) (n := 0) (k := k) (vs := []) (st := [(0, ow_len k)]) (pc' := 9) (b1 := (0, 0)) (b2 := (0, 0)) dJ0_length_8abf5_6 lJ0_335 kJ0_coder_7d493 iJ0_coder_7d493 sJ0_coder_7d493 rfl hk rfl rfl rfl rfl rfl rfl (tJ0_coder hk ?_)
  refine ow_ishr (pc' := 10) dJ0_length_8abf5_9 rfl ?_
  rw [es]
  exact ow_iret dJ0_length_8abf5_10 rfl rfl hK
theorem tJ0_charAt {i : Int} (hk : k < 16) (h0 : 0 ≤ i) (h1 : i < ow_len k) (hK : K (ow_byt k i) M) : ow_Sp C E (d + 3) mJ0_charAt_5068e (0, 0) [(3, 1000 + (k : Int)), (0, i)] M K := by
  have hl : ow_len k ≤ 11 := by
    have := ow_len_le k hk
    unfold ow_len
    omega
  have rg : 0 ≤ ow_byt k i ∧ ow_byt k i ≤ 122 := by
    obtain ⟨j, rfl⟩ := Int.eq_ofNat_of_zero_le h0
    exact ow_byt_rg ⟨k, hk⟩ ⟨j, by omega⟩
  refine ow_enter (by decide +kernel) rfl rfl ?_
  refine ow_aload_n (pc' := 1) (x := 1000 + (k : Int)) dJ0_charAt_5068e_0 rfl rfl ?_
  refine ow_callTp (z := mJ0_isLatin1_aae02) (n := 0) (k := k) (vs := []) (st := []) (pc' := 4) (b1 := (0, 0)) (b2 := (0, 0)) dJ0_charAt_5068e_1 lJ0_492 kJ0_isLatin1_aae02 iJ0_isLatin1_aae02 sJ0_isLatin1_aae02 rfl hk rfl rfl rfl rfl rfl rfl (tJ0_isLatin1 hk ?_)
  refine ow_ifeq (pc' := 7) (tg := 16) dJ0_charAt_5068e_4 rfl rfl (fun q => absurd q (by decide)) (fun _ => ?_)
  refine ow_aload_n (pc' := 8) (x := 1000 + (k : Int)) dJ0_charAt_5068e_7 rfl rfl ?_
  refine ow_getval (pc' := 11) dJ0_charAt_5068e_8 hk lJ0_9 rfl ?_
  refine ow_iload_n (pc' := 12) (x := i) dJ0_charAt_5068e_11 rfl rfl ?_
  refine ow_callSp (z := mJ1_charAt_3b067) (n := 2) (vs := [(3, 2000 + (k : Int)), (0, i)]) (st := []) (pc' := 15) (b1 := (0, 0)) (b2 := (0, 0)) dJ0_charAt_5068e_12 lJ0_495 kJ1_charAt_3b067 zJ1_charAt_3b067 rfl rfl rfl rfl rfl rfl (tJ1_charAt hk h0 h1 ?_)
  exact ow_cret dJ0_charAt_5068e_15 rfl rfl rg.1 (by omega) hK
end SGS
