/-! ===== the class cuts a tape ===== -/
def tb_C (M : ow_M) (n : Int) (t : Int → Int) : Prop := M 53 6 = 1 ∧ M 53 7 = n ∧ ∀ i, 0 ≤ i → i < n → M 1 i = t i
section CTS
variable {C : ow_C} {A L N : Int} {d : Nat} {M : ow_M} {K : Int → ow_M → Prop} {n : Int} {t : Int → Int}
theorem tb_C.fr {M' : ow_M} (h : tb_C M n t) (o : ow_of [54, 55, 56, 57] [(53, 5)] M M') : tb_C M' n t := ⟨by rw [o 53 6 (by decide) (by decide)]; exact h.1, by rw [o 53 7 (by decide) (by decide)]; exact h.2.1, fun i i0 i1 => by rw [o.at (by decide) (by decide)]; exact h.2.2 i i0 i1⟩
theorem tX8_byteAt (hp : tp_ok n t) (hx : tb_C M n t) {i : Int} (hK : K (ty_b n t i) M) : ow_Sp C (EM A L N) d mX8_byteAt (0, 0) [(3, 53), (0, i)] M K := by
  obtain ⟨x1, x2, x3⟩ := hx
  have n3 := hp.2.1
  refine fX8_byteAt ?_
  rw [x1, x2]
  refine ⟨fun q => by omega, fun _ => ⟨fun q => ?_, fun q => ⟨fun q2 => ?_, fun q2 => ⟨⟨by decide, (show (1 : Int) < 102 by decide), rfl, q, (show i < 300 by omega)⟩, ?_⟩⟩⟩⟩
  · unfold ty_b at hK; rw [if_neg (by omega)] at hK; exact hK
  · rw [ty_no q2] at hK; exact hK
  · rw [ty_in q q2, ← x3 i q q2] at hK; exact hK
theorem tX8_isBlank {E : ow_E} {c : Int} (h1 : tq_b c = true → K 1 M) (h2 : tq_b c ≠ true → K 0 M) : ow_Sp C E d mX8_isBlank (0, 0) [(0, c)] M K := by
  refine eX8_isBlank ⟨fun q => h1 (decide_eq_true (Or.inl q)), fun q => ⟨fun q2 => h2 (fun z => by rcases of_decide_eq_true z with y | y; exact q y; exact q2 y), fun q2 => h1 (decide_eq_true (Or.inr q2))⟩⟩
theorem tX8_isLetter {c : Int} (h1 : tq_l c = true → K 1 M) (h2 : tq_l c ≠ true → K 0 M) : ow_Sp C (EM A L N) d mX8_isLetter (0, 0) [(0, c)] M K := by
  have up : (¬ (97 ≤ c ∧ c ≤ 122)) → ow_At C (EM A L N) d mX8_isLetter 12 [(0, (0, c))] [] (0, 0) M K := by
    intro hn
    exact cX8_isLetter_12 ⟨fun q => h2 (fun z => by have := of_decide_eq_true z; omega), fun q => ⟨fun q2 => h2 (fun z => by have := of_decide_eq_true z; omega), fun q2 => h1 (decide_eq_true (Or.inr ⟨q, q2⟩))⟩⟩
  exact fX8_isLetter ⟨fun q => up (by omega), fun q => ⟨fun q2 => h1 (decide_eq_true (Or.inl ⟨q, q2⟩)), fun q2 => up (by omega)⟩⟩
theorem tX8_isDigit {c : Int} (h1 : tq_d c = true → K 1 M) (h2 : tq_d c ≠ true → K 0 M) : ow_Sp C (EM A L N) d mX8_isDigit (0, 0) [(0, c)] M K := by
  exact fX8_isDigit ⟨fun q => h2 (fun z => by have := of_decide_eq_true z; omega), fun q => ⟨fun q2 => h2 (fun z => by have := of_decide_eq_true z; omega), fun q2 => h1 (decide_eq_true ⟨q, q2⟩)⟩⟩
theorem tq_sb : ∀ j : Fin 11, tq_s (ow_byt 15 (j.val : Int)) = true := by decide
theorem tX8_isSign {c : Int} (h1 : tq_s c = true → K 1 M) (h2 : tq_s c ≠ true → K 0 M) : ow_Sp C (EM A L N) (d + 4) mX8_isSign (0, 0) [(0, c)] M K := by
  have e11 : ow_len 15 = 11 := by decide
  refine fX8_isSign ?_
  refine ow_upto (S := Unit) (P := fun i _ => ow_At C (EM A L N) (d + 4) mX8_isSign 2 [(0, (0, c)), (1, (0, i))] [] (0, 0) M K) (I := fun i _ => 0 ≤ i ∧ ∀ j, 0 ≤ j → j < i → ow_byt 15 j ≠ c) 11 (fun _ hI => ?_) (fun i _ i1 hI ih => ?_) 0 () (by omega) ⟨by omega, fun j j0 j1 => by omega⟩
  · refine cX8_isSign_2 (tJ0_length (by decide) ?_)
    rw [e11]
    refine ⟨fun _ => h2 (fun z => ?_), fun q => by omega⟩
    have hn := hI.2
    rcases of_decide_eq_true z with e | e | e | e | e | e | e | e | e | e | e
    · exact hn 0 (by decide) (by decide) e.symm
    · exact hn 1 (by decide) (by decide) e.symm
    · exact hn 2 (by decide) (by decide) e.symm
    · exact hn 3 (by decide) (by decide) e.symm
    · exact hn 4 (by decide) (by decide) e.symm
    · exact hn 5 (by decide) (by decide) e.symm
    · exact hn 6 (by decide) (by decide) e.symm
    · exact hn 7 (by decide) (by decide) e.symm
    · exact hn 8 (by decide) (by decide) e.symm
    · exact hn 9 (by decide) (by decide) e.symm
    · exact hn 10 (by decide) (by decide) e.symm
  · obtain ⟨i0, i2⟩ := hI
    refine cX8_isSign_2 (tJ0_length (by decide) ?_)
    rw [e11]
    refine ⟨fun q => by omega, fun _ => tJ0_charAt (by decide) i0 (by rw [e11]; exact i1) ⟨fun q => ⟨⟨by omega, by omega⟩, ih () ⟨by omega, fun j j0 j1 => ?_⟩⟩, fun q => h1 ?_⟩⟩
    · by_cases e : j = i
      · rw [e]; exact q
      · exact i2 j j0 (by omega)
    · obtain ⟨k, rfl⟩ := Int.eq_ofNat_of_zero_le i0
      rw [← q]
      exact tq_sb ⟨k, by omega⟩
theorem tX8_lettersStop (hp : tp_ok n t) (hx : tb_C M n t) {p : Int} (h0 : 0 ≤ p) (h1 : p ≤ n) (hK : K (run n t tq_l p) M) : ow_Sp C (EM A L N) (d + 1) mX8_lettersStop (0, 0) [(3, 53), (0, p)] M K := by
  have n3 := hp.2.1
  refine fX8_lettersStop ?_
  refine ow_upto (S := Unit) (P := fun i _ => ow_At C (EM A L N) (d + 1) mX8_lettersStop 4 [(0, (3, 53)), (2, (0, i)), (3, (0, i))] [] (0, 0) M K) (I := fun i _ => 0 ≤ i ∧ run n t tq_l i = run n t tq_l p) n (fun _ hI => ?_) (fun i _ i1 hI ih => ?_) p () h1 ⟨h0, rfl⟩
  · refine cX8_lettersStop_4 ⟨fun _ => ?_, fun q => by rw [hx.2.1] at q; omega⟩
    rw [← hI.2, run_end (Int.le_refl n)] at hK; exact hK
  · obtain ⟨i0, i2⟩ := hI
    refine cX8_lettersStop_4 ⟨fun q => by rw [hx.2.1] at q; omega, fun _ => tX8_byteAt hp hx (tX8_isLetter (fun y => ⟨fun z => absurd z (by decide), fun _ => ⟨⟨by omega, by omega⟩, ih () ⟨by omega, by rw [← run_yes i1 y]; exact i2⟩⟩⟩) (fun y => ⟨fun _ => ?_, fun z => absurd rfl z⟩))⟩
    rw [← i2, run_no y] at hK; exact hK
theorem tX8_digitsStop (hp : tp_ok n t) (hx : tb_C M n t) {p : Int} (h0 : 0 ≤ p) (h1 : p ≤ n) (hK : K (run n t tq_d p) M) : ow_Sp C (EM A L N) (d + 1) mX8_digitsStop (0, 0) [(3, 53), (0, p)] M K := by
  have n3 := hp.2.1
  refine fX8_digitsStop ?_
  refine ow_upto (S := Unit) (P := fun i _ => ow_At C (EM A L N) (d + 1) mX8_digitsStop 4 [(0, (3, 53)), (2, (0, i)), (3, (0, i))] [] (0, 0) M K) (I := fun i _ => 0 ≤ i ∧ run n t tq_d i = run n t tq_d p) n (fun _ hI => ?_) (fun i _ i1 hI ih => ?_) p () h1 ⟨h0, rfl⟩
  · refine cX8_digitsStop_4 ⟨fun _ => ?_, fun q => by rw [hx.2.1] at q; omega⟩
    rw [← hI.2, run_end (Int.le_refl n)] at hK; exact hK
  · obtain ⟨i0, i2⟩ := hI
    refine cX8_digitsStop_4 ⟨fun q => by rw [hx.2.1] at q; omega, fun _ => tX8_byteAt hp hx (tX8_isDigit (fun y => ⟨fun z => absurd z (by decide), fun _ => ⟨⟨by omega, by omega⟩, ih () ⟨by omega, by rw [← run_yes i1 y]; exact i2⟩⟩⟩) (fun y => ⟨fun _ => ?_, fun z => absurd rfl z⟩))⟩
    rw [← i2, run_no y] at hK; exact hK
theorem tX8_numberOf (hp : tp_ok n t) (hx : tb_C M n t) {p e : Int} (h0 : 0 ≤ p) (h1 : p ≤ e) (h2 : e ≤ n) (hd : ∀ j, p ≤ j → j < e → tq_d (ty_b n t j) = true) (hK : K (nu n t (e - p).toNat p 0) M) : ow_Sp C (EM A L N) (d + 1) mX8_numberOf (0, 0) [(3, 53), (0, p), (0, e)] M K := by
  have n3 := hp.2.1
  refine fX8_numberOf ?_
  refine ow_upto (S := Int) (P := fun i s => ow_At C (EM A L N) (d + 1) mX8_numberOf 5 [(0, (3, 53)), (2, (0, e)), (3, (0, s)), (4, (0, i))] [] (0, 0) M K) (I := fun i s => p ≤ i ∧ (0 ≤ s ∧ s ≤ 10000) ∧ nu n t (e - i).toNat i s = nu n t (e - p).toNat p 0) e (fun s hI => ?_) (fun i s i1 hI ih => ?_) p 0 h1 ⟨Int.le_refl p, ⟨by decide, by decide⟩, rfl⟩
  · obtain ⟨_, _, i3⟩ := hI
    rw [show (e - e).toNat = 0 by omega] at i3
    exact cX8_numberOf_5 ⟨fun _ => by rw [← i3] at hK; exact hK, fun q => by omega⟩
  · obtain ⟨i0, i2, i3⟩ := hI
    have dg := of_decide_eq_true (hd i i0 i1)
    refine cX8_numberOf_5 ⟨fun q => by omega, fun _ => ⟨⟨by omega, by omega⟩, tX8_byteAt hp hx ⟨⟨by omega, by omega⟩, ⟨by omega, by omega⟩, ⟨by omega, by omega⟩, ih _ ⟨by omega, ⟨by omega, by omega⟩, ?_⟩⟩⟩⟩
    rw [show (e - i).toNat = (e - (i + 1)).toNat + 1 by omega] at i3
    exact i3
theorem tX8_wordOf (h : em_ok A L N) (hp : tp_ok n t) (hx : tb_C M n t) {p e : Int} (h0 : 0 ≤ p) (h1 : p ≤ e) (h2 : e ≤ n) (hK : K (wv A L n t p e) M) : ow_Sp C (EM A L N) (d + 1) mX8_wordOf (0, 0) [(3, 53), (0, p), (0, e)] M K := by
  have n3 := hp.2.1
  have hL := h.2.2.1
  have hL8 := h.2.2.2.1
  have hA := h.1
  have hA5 := h.2.1
  have hN := h.2.2.2.2.1
  have hN2 := h.2.2.2.2.2
  unfold wv at hK
  refine fX8_wordOf ⟨⟨by omega, by omega⟩, fun q => ?_, fun q => by rw [if_neg q] at hK; exact hK⟩
  rw [if_pos q] at hK
  refine ow_upto (S := Int) (P := fun i s => ow_At C (EM A L N) (d + 1) mX8_wordOf 20 [(0, (3, 53)), (2, (0, e)), (3, (0, s)), (4, (0, i))] [] (0, 0) M K) (I := fun i s => p ≤ i ∧ (0 ≤ s ∧ s < em_pw A (i - p)) ∧ wu A n t (e - i).toNat i s = wu A n t L.toNat p 0) e (fun s hI => ?_) (fun i s i1 hI ih => ?_) p 0 h1 ⟨Int.le_refl p, ⟨by decide, by rw [show p - p = 0 by omega, em_pw0]; decide⟩, by rw [q]⟩
  · obtain ⟨_, _, i3⟩ := hI
    rw [show (e - e).toNat = 0 by omega] at i3
    exact cX8_wordOf_20 ⟨fun _ => by rw [← i3] at hK; exact hK, fun q => by omega⟩
  · obtain ⟨i0, i2, i3⟩ := hI
    have rg := ty_rg hp i
    have ub := em_pw_le (a := A) (by omega) (show 0 ≤ i - p + 1 by omega) (show i - p + 1 ≤ L by omega)
    rw [← hN, em_pw_s A (by omega)] at ub
    have mu := Int.mul_le_mul_of_nonneg_right (show s + 1 ≤ em_pw A (i - p) by omega) (show 0 ≤ A by omega)
    rw [Int.add_mul, Int.one_mul] at mu
    have m0 := Int.mul_nonneg i2.1 (show 0 ≤ A by omega)
    rw [show (e - i).toNat = (e - (i + 1)).toNat + 1 by omega] at i3
    have i3' : (if 0 ≤ ty_b n t i - 97 ∧ ty_b n t i - 97 < A then wu A n t (e - (i + 1)).toNat (i + 1) (s * A + (ty_b n t i - 97)) else -1) = wu A n t L.toNat p 0 := i3
    refine cX8_wordOf_20 ⟨fun q => by omega, fun _ => tX8_byteAt hp hx ⟨⟨by omega, by omega⟩, fun y => ?_, fun y => ⟨fun y2 => ?_, fun y2 => ?_⟩⟩⟩
    · rw [if_neg (by omega)] at i3'; rw [← i3'] at hK; exact hK
    · rw [if_pos ⟨y, y2⟩] at i3'
      refine ⟨⟨by omega, by omega⟩, ⟨by omega, by omega⟩, ⟨by omega, by omega⟩, ih _ ⟨by omega, ⟨by omega, ?_⟩, i3'⟩⟩
      rw [show i + 1 - p = i - p + 1 by omega, em_pw_s A (by omega)]
      omega
    · rw [if_neg (by omega)] at i3'; rw [← i3'] at hK; exact hK
theorem tX8_spells (hp : tp_ok n t) (hx : tb_C M n t) {k : Nat} (hk : k < 16) {p e : Int} (h0 : 0 ≤ p) (h1 : p ≤ e) (h2 : e ≤ n) (k1 : sp n t k p e = true → K 1 M) (k2 : sp n t k p e ≠ true → K 0 M) : ow_Sp C (EM A L N) (d + 4) mX8_spells (0, 0) [(3, 53), (0, p), (0, e), (3, 1000 + (k : Int))] M K := by
  have n3 := hp.2.1
  have hl := ow_len_le k hk
  have el : ow_len k = ((ow_sl.getD k 0 : Nat) : Int) := rfl
  refine fX8_spells hk ⟨⟨by omega, by omega⟩, tJ0_length hk ⟨fun q => ?_, fun q => k2 (fun z => q (of_decide_eq_true z).1)⟩⟩
  refine ow_upto (S := Unit) (P := fun j _ => ow_At C (EM A L N) (d + 4) mX8_spells 15 [(0, (3, 53)), (1, (0, p)), (3, (3, 1000 + (k : Int))), (4, (0, j))] [] (0, 0) M K) (I := fun j _ => 0 ≤ j ∧ ow_ct (sp_d n t k p) j = 0) (ow_len k) (fun _ hI => ?_) (fun j _ j1 hI ih => ?_) 0 () (by omega) ⟨by omega, rfl⟩
  · exact cX8_spells_15 hk (tJ0_length hk ⟨fun _ => k1 (decide_eq_true ⟨q, hI.2⟩), fun z => by omega⟩)
  · obtain ⟨j0, j2⟩ := hI
    have up := ow_ct_up (q := sp_d n t k p) (show 0 ≤ j + 1 by omega) (show j + 1 ≤ ow_len k by omega)
    have cS := ow_ctS (q := sp_d n t k p) j0
    refine cX8_spells_15 hk (tJ0_length hk ⟨fun z => by omega, fun _ => ⟨⟨by omega, by omega⟩, tX8_byteAt hp hx (tJ0_charAt hk j0 j1 ⟨fun z => ⟨⟨by omega, by omega⟩, ih () ⟨by omega, ?_⟩⟩, fun z => k2 (fun y => ?_)⟩)⟩⟩)
    · rw [cS, if_neg (show ¬ sp_d n t k p j = true from fun y => absurd z (of_decide_eq_true y)), j2]; rfl
    · rw [if_pos (show sp_d n t k p j = true from decide_eq_true z)] at cS
      have := (of_decide_eq_true y).2
      omega
theorem tX8_nameBy {i : Int} (h0 : 0 ≤ i) (h1 : i < 14) (hK : K (1000 + ((i.toNat : Nat) : Int)) M) : ow_Sp C (EM A L N) d mX8_nameBy (0, 0) [(0, i)] M K := by
  have e : i = 0 ∨ i = 1 ∨ i = 2 ∨ i = 3 ∨ i = 4 ∨ i = 5 ∨ i = 6 ∨ i = 7 ∨ i = 8 ∨ i = 9 ∨ i = 10 ∨ i = 11 ∨ i = 12 ∨ i = 13 := by omega
  refine fX8_nameBy ⟨fun q => by subst q; exact hK, fun n0 => ⟨fun q => by subst q; exact hK, fun n1 => ⟨fun q => by subst q; exact hK, fun n2 => ⟨fun q => by subst q; exact hK, fun n3 => ⟨fun q => by subst q; exact hK, fun n4 => ⟨fun q => by subst q; exact hK, fun n5 => ⟨fun q => by subst q; exact hK, fun n6 => ⟨fun q => by subst q; exact hK, fun n7 => ⟨fun q => by subst q; exact hK, fun n8 => ⟨fun q => by subst q; exact hK, fun n9 => ⟨fun q => by subst q; exact hK, fun n10 => ⟨fun q => by subst q; exact hK, fun n11 => ⟨fun q => by subst q; exact hK, fun n12 => ⟨fun q => by subst q; exact hK, fun n13 => by omega⟩⟩⟩⟩⟩⟩⟩⟩⟩⟩⟩⟩⟩⟩
theorem tX8_nameOf (hp : tp_ok n t) (hx : tb_C M n t) {p e : Int} (h0 : 0 ≤ p) (h1 : p ≤ e) (h2 : e ≤ n) (hK : K (nm n t p e) M) : ow_Sp C (EM A L N) (d + 5) mX8_nameOf (0, 0) [(3, 53), (0, p), (0, e)] M K := by
  unfold nm at hK
  refine fX8_nameOf ?_
  refine ow_upto (S := Unit) (P := fun i _ => ow_At C (EM A L N) (d + 5) mX8_nameOf 2 [(0, (3, 53)), (1, (0, p)), (2, (0, e)), (3, (0, i))] [] (0, 0) M K) (I := fun i _ => 0 ≤ i ∧ ow_pk (fun k => sp n t k.toNat p e) (fun k => k) 0 i = none ∧ ow_ct (fun k => sp n t k.toNat p e) i = 0) 14 (fun _ hI => ?_) (fun i _ i1 hI ih => ?_) 0 () (by omega) ⟨by omega, rfl, rfl⟩
  · rw [ow_pk_end hI.2.1, if_neg (by decide)] at hK
    exact cX8_nameOf_2 ⟨fun _ => hK, fun q => by omega⟩
  · obtain ⟨i0, i2, i3⟩ := hI
    refine cX8_nameOf_2 ⟨fun q => by omega, fun _ => tX8_nameBy i0 i1 (tX8_spells hp hx (by omega) h0 h1 h2 (fun y => ⟨fun z => absurd z (by decide), fun _ => ?_⟩) (fun y => ⟨fun _ => ⟨⟨by omega, by omega⟩, ih () ⟨by omega, ?_, ?_⟩⟩, fun z => absurd rfl z⟩))⟩
    · rw [ow_pk_hit i0 i2 y i3 i1] at hK; exact hK
    · exact ow_pkS i0 i2 (fun z => y z.1)
    · rw [ow_ctS i0, if_neg y, i3]; rfl
end CTS
