/-! ===== the world at the law's entry ===== -/
/-- a piece of the start's words, by its way down -/
def cp_at : List Bool → Cond → Cond
  | [], c => c
  | b :: t, .and x y => cp_at t (if b then x else y)
  | _ :: _, c => c
theorem cp_at_before {args : Array Value} {s : State} : ∀ (p : List Bool) (c : Cond), c.before args s = true → (cp_at p c).before args s = true := by
  intro p
  induction p with
  | nil => intro c h; exact h
  | cons b t ih =>
    intro c h
    cases c with
    | and x y =>
      rw [Cond.before_and, Bool.and_eq_true] at h
      show (cp_at t (if b then x else y)).before args s = true
      apply ih
      cases b
      · exact h.2
      · exact h.1
    | _ => exact h
theorem tb_1 {w : Cond} (i : Nat) (h : tables_1_1[i]? = some w) : w ∈ tables_1 := List.mem_append_left _ (List.mem_of_getElem? h)
theorem tb_2 {w : Cond} (i : Nat) (h : tables_1_2[i]? = some w) : w ∈ tables_1 := List.mem_append_right _ (List.mem_append_left _ (List.mem_of_getElem? h))
theorem tb_3 {w : Cond} (i : Nat) (h : tables_1_3[i]? = some w) : w ∈ tables_1 := List.mem_append_right _ (List.mem_append_right _ (List.mem_append_left _ (List.mem_of_getElem? h)))
theorem tb_4 {w : Cond} (i : Nat) (h : tables_1_4[i]? = some w) : w ∈ tables_1 := List.mem_append_right _ (List.mem_append_right _ (List.mem_append_right _ (List.mem_append_left _ (List.mem_of_getElem? h))))
theorem tb_5 {w : Cond} (i : Nat) (h : tables_1_5[i]? = some w) : w ∈ tables_1 := List.mem_append_right _ (List.mem_append_right _ (List.mem_append_right _ (List.mem_append_right _ (List.mem_append_left _ (List.mem_of_getElem? h)))))
theorem tb_6 {w : Cond} (i : Nat) (h : tables_1_6[i]? = some w) : w ∈ tables_1 := List.mem_append_right _ (List.mem_append_right _ (List.mem_append_right _ (List.mem_append_right _ (List.mem_append_right _ (List.mem_append_left _ (List.mem_of_getElem? h))))))
theorem tb_7 {w : Cond} (i : Nat) (h : tables_1_7[i]? = some w) : w ∈ tables_1 := List.mem_append_right _ (List.mem_append_right _ (List.mem_append_right _ (List.mem_append_right _ (List.mem_append_right _ (List.mem_append_right _ (List.mem_of_getElem? h))))))
def sp_tm (i : Nat) : Term := .string "OneLetterWrong$Tokens" (ow_sx.getD i (0, "")).1
def sp_vl (i : Nat) : Term := .field (sp_tm i) "java/lang/String" "value" "[B"
def sp_ex : List (List Bool) := [[true, true, true, true, false, true, true, true], [true, true, true, false, true, true, true, false], [true, true, true, false, false, true, false, true], [true, true, false, true, true, false, true, true], [true, true, false, true, false, false, false, false], [true, true, false, false, false, true, false, false], [true, false, true, true, false, true, true, true], [true, false, true, false, true, false, true, false], [true, false, false, true, true, false, false, true], [true, false, false, false, true, false, false, true], [false, true, true, true, false, true, true, true], [false, true, true, false, false, true, true, true], [false, true, false, true, false, true, true, false], [false, true, false, false, false, false, true, true], [false, false, true, false, true, true, true, true], [false, false, false, true, true, true, false, true]]
def sp_co : List (List Bool) := [[true, true, true, true, false, true, true, false], [true, true, true, false, true, true, false, true], [true, true, true, false, false, true, false, false], [true, true, false, true, true, false, true, false], [true, true, false, false, true, true, true, true], [true, true, false, false, false, false, true, true], [true, false, true, true, false, true, true, false], [true, false, true, false, true, false, false, true], [true, false, false, true, true, false, false, false], [true, false, false, false, true, false, false, false], [false, true, true, true, false, true, true, false], [false, true, true, false, false, true, true, false], [false, true, false, true, false, true, false, true], [false, true, false, false, false, false, true, false], [false, false, true, false, true, true, true, false], [false, false, false, true, true, true, false, false]]
def sp_ar : List (List Bool) := [[true, true, true, true, false, true, false, true], [true, true, true, false, true, true, false, false], [true, true, true, false, false, false, true, true], [true, true, false, true, true, false, false, true], [true, true, false, false, true, true, true, false], [true, true, false, false, false, false, true, false], [true, false, true, true, false, true, false, true], [true, false, true, false, true, false, false, false], [true, false, false, true, false, true, true, true], [true, false, false, false, false, true, true, true], [false, true, true, true, false, true, false, true], [false, true, true, false, false, true, false, true], [false, true, false, true, false, true, false, false], [false, true, false, false, false, false, false, true], [false, false, true, false, true, true, false, true], [false, false, false, true, true, false, true, true]]
def sp_le : List (List Bool) := [[true, true, true, true, false, true, false, false], [true, true, true, false, true, false, true, true], [true, true, true, false, false, false, true, false], [true, true, false, true, true, false, false, false], [true, true, false, false, true, true, false, true], [true, true, false, false, false, false, false, true], [true, false, true, true, false, true, false, false], [true, false, true, false, false, true, true, true], [true, false, false, true, false, true, true, false], [true, false, false, false, false, true, true, false], [false, true, true, true, false, true, false, false], [false, true, true, false, false, true, false, false], [false, true, false, true, false, false, true, true], [false, true, false, false, false, false, false, false], [false, false, true, false, true, true, false, false], [false, false, false, true, true, false, true, false]]
def sp_el : List (List (List Bool)) := [[[true, true, true, true, false, false, true, true], [true, true, true, true, false, false, true, false], [true, true, true, true, false, false, false, true], [true, true, true, true, false, false, false, false], [true, true, true, false, true, true, true, true]], [[true, true, true, false, true, false, true, false], [true, true, true, false, true, false, false, true], [true, true, true, false, true, false, false, false], [true, true, true, false, false, true, true, true]], [[true, true, true, false, false, false, false, true], [true, true, true, false, false, false, false, false], [true, true, false, true, true, true, true, true], [true, true, false, true, true, true, true, false]], [[true, true, false, true, false, true, true, true], [true, true, false, true, false, true, true, false], [true, true, false, true, false, true, false, true], [true, true, false, true, false, true, false, false]], [[true, true, false, false, true, true, false, false], [true, true, false, false, true, false, true, true], [true, true, false, false, true, false, true, false], [true, true, false, false, true, false, false, true]], [[true, true, false, false, false, false, false, false], [true, false, true, true, true, true, true], [true, false, true, true, true, true, false, true]], [[true, false, true, true, false, false, true, true], [true, false, true, true, false, false, true, false], [true, false, true, true, false, false, false, true]], [[true, false, true, false, false, true, true, false], [true, false, true, false, false, true, false, true], [true, false, true, false, false, true, false, false], [true, false, true, false, false, false, true, true], [true, false, true, false, false, false, true, false], [true, false, true, false, false, false, false, true]], [[true, false, false, true, false, true, false, true], [true, false, false, true, false, true, false, false], [true, false, false, true, false, false, true, true], [true, false, false, true, false, false, true, false]], [[true, false, false, false, false, true, false, true], [true, false, false, false, false, true, false, false], [true, false, false, false, false, false, true, true], [true, false, false, false, false, false, true, false]], [[false, true, true, true, false, false, true, true], [false, true, true, true, false, false, true, false]], [[false, true, true, false, false, false, true, true], [false, true, true, false, false, false, true, false]], [[false, true, false, true, false, false, true, false], [false, true, false, true, false, false, false, true], [false, true, false, true, false, false, false, false]], [[false, false, true, true, true, true, true, true], [false, false, true, true, true, true, true, false], [false, false, true, true, true, true, false, true]], [], [[false, false, false, true, true, false, false, true], [false, false, false, true, true, false, false, false], [false, false, false, true, false, true, true, true], [false, false, false, true, false, true, true, false], [false, false, false, true, false, true, false, true], [false, false, false, true, false, true, false, false], [false, false, false, true, false, false, true, true], [false, false, false, true, false, false, true, false], [false, false, false, true, false, false, false, true], [false, false, false, true, false, false, false, false], [false, false, false, false, true, true, true, true]]]
def sp_ne : List (List (List Bool)) := [[], [[true, true, true, false, false, true, true, false]], [[true, true, false, true, true, true, false, true], [true, true, false, true, true, true, false, false]], [[true, true, false, true, false, false, true, true], [true, true, false, true, false, false, true, false], [true, true, false, true, false, false, false, true]], [[true, true, false, false, true, false, false, false], [true, true, false, false, false, true, true, true], [true, true, false, false, false, true, true, false], [true, true, false, false, false, true, false, true]], [[true, false, true, true, true, true, false, false], [true, false, true, true, true, false, true, true], [true, false, true, true, true, false, true, false], [true, false, true, true, true, false, false, true], [true, false, true, true, true, false, false, false]], [[true, false, true, true, false, false, false, false], [true, false, true, false, true, true, true, true], [true, false, true, false, true, true, true, false], [true, false, true, false, true, true, false, true], [true, false, true, false, true, true, false, false], [true, false, true, false, true, false, true, true]], [[true, false, true, false, false, false, false, false], [true, false, false, true, true, true, true, true], [true, false, false, true, true, true, true, false], [true, false, false, true, true, true, false, true], [true, false, false, true, true, true, false, false], [true, false, false, true, true, false, true, true], [true, false, false, true, true, false, true, false]], [[true, false, false, true, false, false, false, true], [true, false, false, true, false, false, false, false], [true, false, false, false, true, true, true, true], [true, false, false, false, true, true, true, false], [true, false, false, false, true, true, false, true], [true, false, false, false, true, true, false, false], [true, false, false, false, true, false, true, true], [true, false, false, false, true, false, true, false]], [[true, false, false, false, false, false, false, true], [true, false, false, false, false, false, false, false], [false, true, true, true, true, true, true], [false, true, true, true, true, true, false, true], [false, true, true, true, true, true, false, false], [false, true, true, true, true, false, true, true], [false, true, true, true, true, false, true, false], [false, true, true, true, true, false, false, true], [false, true, true, true, true, false, false, false]], [[false, true, true, true, false, false, false, true], [false, true, true, true, false, false, false, false], [false, true, true, false, true, true, true, true], [false, true, true, false, true, true, true, false], [false, true, true, false, true, true, false, true], [false, true, true, false, true, true, false, false], [false, true, true, false, true, false, true, true], [false, true, true, false, true, false, true, false], [false, true, true, false, true, false, false, true], [false, true, true, false, true, false, false, false]], [[false, true, true, false, false, false, false, true], [false, true, true, false, false, false, false, false], [false, true, false, true, true, true, true, true], [false, true, false, true, true, true, true, false], [false, true, false, true, true, true, false, true], [false, true, false, true, true, true, false, false], [false, true, false, true, true, false, true, true], [false, true, false, true, true, false, true, false], [false, true, false, true, true, false, false, true], [false, true, false, true, true, false, false, false], [false, true, false, true, false, true, true, true]], [[false, true, false, false, true, true, true, true], [false, true, false, false, true, true, true, false], [false, true, false, false, true, true, false, true], [false, true, false, false, true, true, false, false], [false, true, false, false, true, false, true, true], [false, true, false, false, true, false, true, false], [false, true, false, false, true, false, false, true], [false, true, false, false, true, false, false, false], [false, true, false, false, false, true, true, true], [false, true, false, false, false, true, true, false], [false, true, false, false, false, true, false, true], [false, true, false, false, false, true, false, false]], [[false, false, true, true, true, true, false, false], [false, false, true, true, true, false, true, true], [false, false, true, true, true, false, true, false], [false, false, true, true, true, false, false, true], [false, false, true, true, true, false, false, false], [false, false, true, true, false, true, true, true], [false, false, true, true, false, true, true, false], [false, false, true, true, false, true, false, true], [false, false, true, true, false, true, false, false], [false, false, true, true, false, false, true, true], [false, false, true, true, false, false, true, false], [false, false, true, true, false, false, false, true], [false, false, true, true, false, false, false, false]], [[false, false, true, false, true, false, true, true], [false, false, true, false, true, false, true, false], [false, false, true, false, true, false, false, true], [false, false, true, false, true, false, false, false], [false, false, true, false, false, true, true, true], [false, false, true, false, false, true, true, false], [false, false, true, false, false, true, false, true], [false, false, true, false, false, true, false, false], [false, false, true, false, false, false, true, true], [false, false, true, false, false, false, true, false], [false, false, true, false, false, false, false, true], [false, false, true, false, false, false, false, false], [false, false, false, true, true, true, true, true], [false, false, false, true, true, true, true, false]], [[false, false, false, false, true, true, true, false], [false, false, false, false, true, true, false, true], [false, false, false, false, true, true, false, false], [false, false, false, false, true, false, true, true], [false, false, false, false, true, false, true, false], [false, false, false, false, true, false, false, true], [false, false, false, false, true, false, false, false], [false, false, false, false, false, true, true, true], [false, false, false, false, false, true, true, false], [false, false, false, false, false, true, false, true], [false, false, false, false, false, true, false, false], [false, false, false, false, false, false, true, true], [false, false, false, false, false, false, true, false], [false, false, false, false, false, false, false, true], [false, false, false, false, false, false, false, false]]]
theorem sp_ex_ok : ∀ i : Nat, i < 16 → cp_at (sp_ex.getD i []) narrow_1 = Cond.exactly (sp_tm i) "java/lang/String" := by decide +kernel
theorem sp_co_ok : ∀ i : Nat, i < 16 → cp_at (sp_co.getD i []) narrow_1 = Cond.eq (.field (sp_tm i) "java/lang/String" "coder" "B") (.int 0) := by decide +kernel
theorem sp_ar_ok : ∀ i : Nat, i < 16 → cp_at (sp_ar.getD i []) narrow_1 = Cond.arrayOf (.field (sp_tm i) "java/lang/String" "value" "[B") .byte := by decide +kernel
theorem sp_le_ok : ∀ i : Nat, i < 16 → cp_at (sp_le.getD i []) narrow_1 = Cond.eq (.length (.field (sp_tm i) "java/lang/String" "value" "[B")) (.int (Int32.ofNat (ow_sl.getD i 0))) := by decide +kernel
theorem sp_el_ok : ∀ i : Nat, i < 16 → ∀ j : Nat, j < ow_sl.getD i 0 → cp_at ((sp_el.getD i []).getD j []) narrow_1 = Cond.eq (.elem (.field (sp_tm i) "java/lang/String" "value" "[B") (.int (Int32.ofNat j))) (.int ((ow_sb.getD i []).getD j 0)) := by decide +kernel
theorem sp_ne_ok : ∀ j : Nat, j < 16 → ∀ i : Nat, i < j → cp_at ((sp_ne.getD j []).getD i []) narrow_1 = Cond.not (Cond.eq (sp_tm i) (sp_tm j)) := by decide +kernel
theorem sp_len_ok : ∀ i : Nat, i < 16 → ow_sl.getD i 0 < 2 ^ 31 := by decide +kernel
/-- the texts of the program -/
theorem sp_texts {args : Array Value} {s : State} {A : Nat → Prop} (h : narrow_1.before args s = true) (hA : ∀ a : Nat, a < s.heap.size → ¬ A a) : ∃ adK adV : Nat → Nat, vk_S 16 ow_sl ow_sb adK adV A s s.heap ∧ ∀ i : Nat, i < 16 → (sp_tm i).eval args s none [] s = some (.ref (adK i)) := by
  refine vk_Sof (tm := sp_tm) sp_len_ok (fun i hi => ?_) (fun i hi => ?_) (fun i hi => ?_) (fun i hi => ?_) (fun i hi j hj => ?_) (fun i j hi hj hij => ?_) hA
  · rw [← sp_ex_ok i hi]; exact cp_at_before _ _ h
  · rw [← sp_co_ok i hi]; exact cp_at_before _ _ h
  · rw [← sp_ar_ok i hi]; exact cp_at_before _ _ h
  · rw [← sp_le_ok i hi]; exact cp_at_before _ _ h
  · rw [← sp_el_ok i hi j hj]; exact cp_at_before _ _ h
  · rcases Nat.lt_or_gt_of_ne hij with z | z
    · exact Or.inl (by rw [← sp_ne_ok j hj i z]; exact cp_at_before _ _ h)
    · exact Or.inr (by rw [← sp_ne_ok i hi j z]; exact cp_at_before _ _ h)
theorem sp_cs {args : Array Value} {s : State} (h : narrow_1.before args s = true) : (Cond.eq (.static "java/lang/String" "COMPACT_STRINGS" "Z") (.int 1)).before args s = true := cp_at_before [true, true, true, true, true, true, false, false] narrow_1 h
theorem sp_si {args : Array Value} {s : State} (h : narrow_1.before args s = true) : (Cond.isRef (.static "jdk/internal/util/Preconditions" "SIOOBE_FORMATTER" "Ljava/util/function/BiFunction;")).before args s = true := cp_at_before [true, true, true, true, true, false, true, true] narrow_1 h
theorem sp_t1 : Cond.laysStatic "java/lang/String" "COMPACT_STRINGS" "Z" ∈ tables_1 := (tb_3 80 rfl)
theorem sp_t2 : Cond.initialized "java/lang/String" ∈ tables_1 := (tb_1 15 rfl)
theorem sp_t3 : Cond.laysStatic "jdk/internal/util/Preconditions" "SIOOBE_FORMATTER" "Ljava/util/function/BiFunction;" ∈ tables_1 := (tb_3 96 rfl)
theorem sp_t4 : Cond.initialized "jdk/internal/util/Preconditions" ∈ tables_1 := (tb_1 17 rfl)
theorem sp_t5 : Cond.arrayOver (.object "OneLetterWrong$Text") ∈ tables_1 := (tb_1 31 rfl)
theorem sp_t6 : Cond.arrayOver (.array .int) ∈ tables_1 := (tb_2 94 rfl)
theorem sp_sr : ∀ (k : Nat) (q : Nat × String), ow_sx[k]? = some q → Cond.stringRef "OneLetterWrong$Tokens" q.1 q.2 ∈ tables_1 := by
  intro k q h
  match k, h with
  | 0, h => cases h; exact (tb_3 52 rfl)
  | 1, h => cases h; exact (tb_3 53 rfl)
  | 2, h => cases h; exact (tb_3 54 rfl)
  | 3, h => cases h; exact (tb_3 55 rfl)
  | 4, h => cases h; exact (tb_3 56 rfl)
  | 5, h => cases h; exact (tb_3 57 rfl)
  | 6, h => cases h; exact (tb_3 58 rfl)
  | 7, h => cases h; exact (tb_3 59 rfl)
  | 8, h => cases h; exact (tb_3 60 rfl)
  | 9, h => cases h; exact (tb_3 61 rfl)
  | 10, h => cases h; exact (tb_3 62 rfl)
  | 11, h => cases h; exact (tb_3 63 rfl)
  | 12, h => cases h; exact (tb_3 64 rfl)
  | 13, h => cases h; exact (tb_3 65 rfl)
  | 14, h => cases h; exact (tb_3 66 rfl)
  | 15, h => cases h; exact (tb_3 137 rfl)
  | k + 16, h =>
    have h9 : k + 16 < 16 := (List.getElem?_eq_some_iff.mp h).1
    omega
theorem sp_sx : ∀ (k : Nat) (q : Nat × String), ow_sx[k]? = some q → k < 16 ∧ sp_tm k = Term.string "OneLetterWrong$Tokens" q.1 := by
  intro k q h
  have h9 : k < 16 := (List.getElem?_eq_some_iff.mp h).1
  refine ⟨h9, ?_⟩
  unfold sp_tm
  rw [List.getD_eq_getElem?_getD, h, Option.getD_some]
/-- the classes and the arrays' classes -/
theorem K_of {s : State} {args : Array Value} (hts : ∀ w ∈ ow_gt, w.before args s = true) (hT : va_AO "OneLetterWrong$Text" s) (hA : va_AOA .int s) : ∃ (D : va_G) (ar : Nat → ClassId), ∀ C : ow_C, C.2.2.1 = D → C.2.2.2.1 = ar → va_K C.2.2.1 vwCl (ow_tys C) s := by
  have one : ∀ k, k < 13 → (∃ r : vw_C, vwCl[k]? = some r ∧ Cond.instantiable r.1 r.2.2 ∈ ow_gt) → ∃ q : ClassId × (Nat → Nat), ∀ r : vw_C, vwCl[k]? = some r → u_Kn s r.1 r.2.1 r.2.2 q.1 q.2 := by
    intro k hk hr
    obtain ⟨r, h1, h2⟩ := hr
    obtain ⟨c, i, h⟩ := u_known (n := r.2.2) hts (ow_cls_in k hk r h1) (hts _ h2)
    refine ⟨(c, i), fun r' h' => ?_⟩
    rw [h1] at h'
    cases h'
    exact h
  have hk : ∀ k : Nat, ∃ q : ClassId × (Nat → Nat), ∀ r : vw_C, vwCl[k]? = some r → u_Kn s r.1 r.2.1 r.2.2 q.1 q.2 := by
    intro k
    match k with
    | 0 => obtain ⟨r, a, -, b, -⟩ := nRX11_50; exact one 0 (by decide) ⟨r, a, b⟩
    | 1 => obtain ⟨r, a, -, b, -⟩ := nRX11_103; exact one 1 (by decide) ⟨r, a, b⟩
    | 2 => obtain ⟨r, a, -, b, -⟩ := nRX11_96; exact one 2 (by decide) ⟨r, a, b⟩
    | 3 => obtain ⟨r, a, -, b, -⟩ := nRX9_9; exact one 3 (by decide) ⟨r, a, b⟩
    | 4 => obtain ⟨r, a, -, b, -⟩ := nRX11_62; exact one 4 (by decide) ⟨r, a, b⟩
    | 5 => obtain ⟨r, a, -, b, -⟩ := nRX11_87; exact one 5 (by decide) ⟨r, a, b⟩
    | 6 => obtain ⟨r, a, -, b, -⟩ := nRX11_73; exact one 6 (by decide) ⟨r, a, b⟩
    | 7 => obtain ⟨r, a, -, b, -⟩ := nRX11_17; exact one 7 (by decide) ⟨r, a, b⟩
    | 8 => obtain ⟨r, a, -, b, -⟩ := nRX6_31; exact one 8 (by decide) ⟨r, a, b⟩
    | 9 => obtain ⟨r, a, -, b, -⟩ := nRX11_80; exact one 9 (by decide) ⟨r, a, b⟩
    | 10 => obtain ⟨r, a, -, b, -⟩ := nRX11_41; exact one 10 (by decide) ⟨r, a, b⟩
    | 11 => obtain ⟨r, a, -, b, -⟩ := nRL_7; exact one 11 (by decide) ⟨r, a, b⟩
    | 12 => obtain ⟨r, a, -, b, -⟩ := nRL_18; exact one 12 (by decide) ⟨r, a, b⟩
    | k + 13 =>
      refine ⟨(0, fun _ => 0), fun r h => ?_⟩
      have h9 : k + 13 < 13 := (List.getElem?_eq_some_iff.mp h).1
      omega
  obtain ⟨ad, had⟩ := Classical.axiomOfChoice hk
  have pr : ∀ ty : FieldType, Cond.arrayClass ty ∈ ow_gt → ∃ cA, ArrOfT s cA ty ∧ s.vm.findClass ("[" ++ ty.toString) = some cA := by
    intro ty h
    obtain ⟨cA, kA, comp, h1, h2, h3⟩ := Cond.arrayClass_spec (hts _ h)
    exact ⟨cA, fun n z => ⟨fun k h => (by cases h), kA, h2, comp, h3⟩, h1⟩
  obtain ⟨c0, a0, b0⟩ := pr .int ow_arI
  obtain ⟨c1, a1, b1⟩ := pr .long ow_arJ
  obtain ⟨c2, a2, b2⟩ := pr .boolean ow_arZ
  obtain ⟨m3, c3, k3, f1, -, f3, f4, f5⟩ := Cond.arrayOver_spec hT
  obtain ⟨m4, c4, k4, g1, -, g3, g4, g5⟩ := arrayOverA_spec hA
  refine ⟨(fun k => (ad k).1, fun k => (ad k).2), fun k => match k with | 0 => c0 | 1 => c1 | 2 => c2 | 3 => c3 | _ => c4, fun C e1 e2 => ⟨fun c q hq => by rw [e1]; exact had c q hq, fun k q hq => ?_⟩⟩
  unfold ow_tys at hq
  rw [e2] at hq
  match k, hq with
  | 0, hq => cases hq; exact ⟨a0, b0⟩
  | 1, hq => cases hq; exact ⟨a1, b1⟩
  | 2, hq => cases hq; exact ⟨a2, b2⟩
  | 3, hq => cases hq; exact ⟨fun n z => ⟨fun k h => (by cases h), k3, f3, m3, f4⟩, k3, m3, f3, f4, f1, f5⟩
  | 4, hq => cases hq; exact ⟨fun n z => ⟨fun k h => (by cases h), k4, g3, m4, g4⟩, g5⟩
  | k + 5, hq =>
    have h9 : k + 5 < 5 := (List.getElem?_eq_some_iff.mp hq).1
    omega
/-- the world -/
theorem C_of {s : State} {args : Array Value} (l : Launch) {b L : Nat} {xs : Nat → Int32} (hts : ∀ w ∈ lw_tbl, w.before args s = true) (hX : va_X b L xs s s.heap) (hb : b < s.heap.size) (hn : narrow_1.before args s = true) : ∃ C : ow_C, C.1 = l ∧ C.2.1 = s.heap.size ∧ C.2.2.2.2.1 = (b, L, xs) ∧ va_K C.2.2.1 vwCl (ow_tys C) s ∧ ow_X C s := by
  have hg : ∀ w ∈ ow_gt, w.before args s = true := fun w hw => hts w (List.mem_filter.mp hw).1
  have ht : ∀ w ∈ tables_1, w.before args s = true := fun w hw => hts w (List.mem_append_right _ hw)
  have hT : va_AO "OneLetterWrong$Text" s := va_AO.of (ht _ sp_t5)
  have hI : va_AOA .int s := ht _ sp_t6
  have hnA : ∀ a : Nat, a < s.heap.size → ¬ (fun q : Nat => s.heap.size ≤ q) a := fun a h => Nat.not_le.mpr h
  obtain ⟨adK, adV, hS, hE⟩ := sp_texts (A := fun q : Nat => s.heap.size ≤ q) hn hnA
  obtain ⟨D, ar, hD⟩ := K_of hg hT hI
  have hz1 : va_Z "java/lang/String" "COMPACT_STRINGS" "Z" (.int 1) (fun q : Nat => s.heap.size ≤ q) s s.heap := va_Zof (ht _ sp_t1) (ht _ sp_t2) (va_eqt (sp_cs hn)) hnA
  obtain ⟨o, hz2⟩ : ∃ o : Option Nat, va_Z "jdk/internal/util/Preconditions" "SIOOBE_FORMATTER" "Ljava/util/function/BiFunction;" (va_rf o) (fun q : Nat => s.heap.size ≤ q) s s.heap := by
    rcases va_Zqof (ht _ sp_t3) (ht _ sp_t4) (sp_si hn) hnA with h | ⟨t, h⟩
    · exact ⟨none, h⟩
    · exact ⟨some t, h⟩
  refine ⟨(l, s.heap.size, D, ar, (b, L, xs), adK, adV, o), rfl, rfl, rfl, hD _ rfl rfl, fun w hw => ?_, hT, hI, hb, hX, hS, fun k q hk => ?_, hz1, hz2⟩
  · have h1 := List.mem_filter.mp hw
    have h0 := ht w h1.1
    have hw9 : ow_nst w = true := h1.2
    cases w <;> first | exact va_Nw.of rfl h0 | cases hw9
  · obtain ⟨k1, k2⟩ := sp_sx k q hk
    refine vk_R.of (ht _ (sp_sr k q hk)) ?_
    rw [← k2]
    exact hE k k1
