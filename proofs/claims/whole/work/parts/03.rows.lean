/-! ===== the judgement of the plain machine, and its rows ===== -/
def ow_rm (d mc ms : Nat) : Room := { frames := d, cells := mc, slots := ms, locals := 60 * d }
def ow_rt (C : ow_C) (t : Option FieldType) (r : Int) : Option Value := match t with
  | some ty => some (ow_cv C (ow_tt ty, r))
  | none => none
def ow_Q (C : ow_C) (E : ow_E) (ret : Option FieldType) (K : Int → ow_M → Prop) : Array Value → State → Outcome → State → Prop := fun _ st o t =>
  (∃ (r : Int) (M' : ow_M), o = .returned (ow_rt C ret r) ∧ (∀ ty, ret = some ty → ow_rg (ow_tt ty, r)) ∧ K r M' ∧ ow_rep C E M' t.heap) ∧ va_F (ow_A C) st t
def ow_Cx (C : ow_C) (y : ow_Y) (p : Program) (s : State) (m : MethodId) (args : Array Value) (meth : Method) (c : Code) : Prop :=
  p.tables.exec = Jvm.exec ∧ c.code = y.2.1 ∧ c.maxLocals = y.2.2.1 ∧ meth.sig.returnType = y.2.2.2 ∧ meth.locks = false ∧ s.vm.findClass y.1.cls = some m.cls ∧ (∀ w ∈ ow_gt, w.before args s = true) ∧ va_K C.2.2.1 vwCl (ow_tys C) s ∧ ow_X C s ∧ meth.name = y.1.name ∧ C.2.1 ≤ s.heap.size
def ow_lc (C : ow_C) (lv : List (Nat × ow_V)) : List (Nat × Value) := lv.map (fun q => (q.1, ow_cv C q.2))
/-- from here on (method y at pc, locals lv, stack st, b cells and slots still to make, memory M) the method ends, and K holds of its answer and the memory then -/
def ow_At (C : ow_C) (E : ow_E) (d : Nat) (y : ow_Y) (pc : Nat) (lv : List (Nat × ow_V)) (st : List ow_V) (b : Nat × Nat) (M : ow_M) (K : Int → ow_M → Prop) : Prop :=
  ∀ (p : Program) (e : Env) (s : State) (m : MethodId) (args : Array Value) (below : List Frame) (meth : Method) (c : Code) (H : Heap) (locs : List Loc) (ls : Array Slot) (cells slots : Nat),
    ow_Cx C y p s m args meth c → ow_rep C E M H → va_S (ow_A C) s.heap H locs → lv_has ls y.2.2.1 (ow_lc C lv) → (∀ q ∈ lv, ow_rg q.2) → (∀ v ∈ st, ow_rg v) →
    W p C.1 e (ow_rm d (cells + b.1) (slots + b.2)) s m args below meth c H locs cells slots (MQ below (ow_Q C E y.2.2.2 K) args s (cells + b.1) (slots + b.2) (ow_A C)) (F0 m pc ls (st.map (ow_cv C)))
def ow_Pc (C : ow_C) (E : ow_E) (vs : List ow_V) (M : ow_M) : Array Value → State → Prop := fun a U => a = (vs.map (ow_cv C)).toArray ∧ (∀ v ∈ vs, ow_rg v) ∧ ow_rep C E M U.heap ∧ va_K C.2.2.1 vwCl (ow_tys C) U ∧ ow_X C U ∧ C.2.1 ≤ U.heap.size
def ow_Sp (C : ow_C) (E : ow_E) (d : Nat) (y : ow_Y) (b : Nat × Nat) (vs : List ow_V) (M : ow_M) (K : Int → ow_M → Prop) : Prop :=
  Met C.1 y.1 (.code y.1 y.2.1 y.2.2.1 y.2.2.2 :: ow_gt) (ow_rm d b.1 b.2) (ow_Pc C E vs M) (ow_Q C E y.2.2.2 K) b.1 b.2 (ow_A C)
theorem ow_Q.mono {C : ow_C} {E : ow_E} {ret : Option FieldType} {K K' : Int → ow_M → Prop} (h : ∀ r M, K r M → K' r M) {a : Array Value} {s : State} {o : Outcome} {t : State} (q : ow_Q C E ret K a s o t) : ow_Q C E ret K' a s o t := by
  obtain ⟨⟨r, M', q1, q2, q3, q4⟩, q5⟩ := q
  exact ⟨⟨r, M', q1, q2, h r M' q3, q4⟩, q5⟩
theorem ow_At.mono {C : ow_C} {E : ow_E} {d : Nat} {y : ow_Y} {pc : Nat} {lv : List (Nat × ow_V)} {st : List ow_V} {b : Nat × Nat} {M : ow_M} {K K' : Int → ow_M → Prop} (h : ow_At C E d y pc lv st b M K) (hk : ∀ r M, K r M → K' r M) : ow_At C E d y pc lv st b M K' := by
  intro p e s m args below meth c H locs ls cells slots cx hr hS hl hv hs T hT X
  obtain ⟨t, a1, o, b1, b2, b3, b4⟩ := h p e s m args below meth c H locs ls cells slots cx hr hS hl hv hs T hT X
  exact ⟨t, a1, o, b1, b2, b3.mono hk, b4⟩
theorem ow_ti {a : Int} (h : ow_I a) : (Int32.ofInt a).toInt = a := Int32.toInt_ofInt_of_le (by have := h.1; omega) (by have := h.2; omega)
theorem ow_tl {a : Int} (h : ow_L a) : (Int64.ofInt a).toInt = a := Int64.toInt_ofInt_of_le (by have := h.1; omega) (by have := h.2; omega)
theorem ow_it (x : Int32) : ow_I x.toInt := ⟨by have := Int32.le_toInt x; omega, by have := Int32.toInt_lt x; omega⟩
theorem ow_lt (x : Int64) : ow_L x.toInt := ⟨by have := Int64.le_toInt x; omega, by have := Int64.toInt_lt x; omega⟩
theorem ow_iq {x : Int32} {a : Int} (h : x.toInt = a) : x = Int32.ofInt a := by rw [← h, Int32.ofInt_toInt]
theorem ow_lq {x : Int64} {a : Int} (h : x.toInt = a) : x = Int64.ofInt a := by rw [← h, Int64.ofInt_toInt]
def ow_Ib (n : Int) : Bool := decide (-2147483648 ≤ n) && decide (n ≤ 2147483647)
theorem ow_Ib_ok {n : Int} (h : ow_Ib n = true) : ow_I n := by
  simp only [ow_Ib, Bool.and_eq_true, decide_eq_true_eq] at h
  exact h
def ow_Lb (n : Int) : Bool := decide (-9223372036854775808 ≤ n) && decide (n ≤ 9223372036854775807)
theorem ow_Lb_ok {n : Int} (h : ow_Lb n = true) : ow_L n := by
  simp only [ow_Lb, Bool.and_eq_true, decide_eq_true_eq] at h
  exact h
theorem ow_b8 {n : Int} (h1 : -128 ≤ n) (h2 : n ≤ 127) : (Int8.ofInt n).toInt32 = Int32.ofInt n := by
  apply ow_iq
  rw [Int8.toInt_toInt32]
  exact Int8.toInt_ofInt_of_le (by omega) (by omega)
theorem ow_b16 {n : Int} (h1 : -32768 ≤ n) (h2 : n ≤ 32767) : (Int16.ofInt n).toInt32 = Int32.ofInt n := by
  apply ow_iq
  rw [Int16.toInt_toInt32]
  exact Int16.toInt_ofInt_of_le (by omega) (by omega)
/-! sums of ints as of whole numbers -/
def ow_and (a b : Int) : Int := (Int32.ofInt a &&& Int32.ofInt b).toInt
def ow_or (a b : Int) : Int := (Int32.ofInt a ||| Int32.ofInt b).toInt
def ow_xor (a b : Int) : Int := (Int32.ofInt a ^^^ Int32.ofInt b).toInt
def ow_shl (a b : Int) : Int := (Int32.ofInt a <<< (Int32.ofInt b &&& 31)).toInt
def ow_shr (a b : Int) : Int := (Int32.ofInt a >>> (Int32.ofInt b &&& 31)).toInt
def ow_ushr (a b : Int) : Int := ((Int32.ofInt a).toUInt32 >>> ((Int32.ofInt b).toUInt32 &&& Int32.toUInt32 31)).toInt32.toInt
def ow_land (a b : Int) : Int := (Int64.ofInt a &&& Int64.ofInt b).toInt
def ow_lor (a b : Int) : Int := (Int64.ofInt a ||| Int64.ofInt b).toInt
def ow_lshl (a b : Int) : Int := (Int64.ofInt a <<< ((Int32.ofInt b).toInt64 &&& 63)).toInt
def ow_lshr (a b : Int) : Int := (Int64.ofInt a >>> ((Int32.ofInt b).toInt64 &&& 63)).toInt
def ow_lcmp (a b : Int) : Int := if b < a then 1 else if a = b then 0 else -1
theorem ow_div_i {a b : Int} (ha : ow_I a) (hb : ow_I b) (h : ow_I (a.tdiv b)) : Int32.ofInt a / Int32.ofInt b = Int32.ofInt (a.tdiv b) := by
  apply ow_iq
  rw [Int32.toInt_div, ow_ti ha, ow_ti hb]
  exact Int.bmod_eq_of_le (by have := h.1; omega) (by have := h.2; omega)
theorem ow_div_l {a b : Int} (ha : ow_L a) (hb : ow_L b) (h : ow_L (a.tdiv b)) : Int64.ofInt a / Int64.ofInt b = Int64.ofInt (a.tdiv b) := by
  apply ow_lq
  rw [Int64.toInt_div, ow_tl ha, ow_tl hb]
  exact Int.bmod_eq_of_le (by have := h.1; omega) (by have := h.2; omega)
theorem ow_sub_i (a b : Int) : Int32.ofInt a - Int32.ofInt b = Int32.ofInt (a - b) := (Int32.ofInt_sub a b).symm
theorem ow_add_i (a b : Int) : Int32.ofInt a + Int32.ofInt b = Int32.ofInt (a + b) := (Int32.ofInt_add a b).symm
theorem ow_mul_i (a b : Int) : Int32.ofInt a * Int32.ofInt b = Int32.ofInt (a * b) := (Int32.ofInt_mul a b).symm
theorem ow_neg_i (a : Int) : -Int32.ofInt a = Int32.ofInt (-a) := (Int32.ofInt_neg a).symm
theorem ow_sub_l (a b : Int) : Int64.ofInt a - Int64.ofInt b = Int64.ofInt (a - b) := (Int64.ofInt_sub a b).symm
theorem ow_add_l (a b : Int) : Int64.ofInt a + Int64.ofInt b = Int64.ofInt (a + b) := (Int64.ofInt_add a b).symm
theorem ow_mul_l (a b : Int) : Int64.ofInt a * Int64.ofInt b = Int64.ofInt (a * b) := (Int64.ofInt_mul a b).symm
theorem ow_neg_l (a : Int) : -Int64.ofInt a = Int64.ofInt (-a) := (Int64.ofInt_neg a).symm
theorem ow_rem_i {a b : Int} (ha : ow_I a) (hb : ow_I b) (h : ow_I (a.tdiv b)) : Int32.ofInt a - Int32.ofInt a / Int32.ofInt b * Int32.ofInt b = Int32.ofInt (a.tmod b) := by
  rw [ow_div_i ha hb h, ow_mul_i, ow_sub_i, Int.tmod_def, Int.mul_comm]
theorem ow_rem_l {a b : Int} (ha : ow_L a) (hb : ow_L b) (h : ow_L (a.tdiv b)) : Int64.ofInt a - Int64.ofInt a / Int64.ofInt b * Int64.ofInt b = Int64.ofInt (a.tmod b) := by
  rw [ow_div_l ha hb h, ow_mul_l, ow_sub_l, Int.tmod_def, Int.mul_comm]
theorem ow_ne0_i {b : Int} (hb : ow_I b) (h : b ≠ 0) : ¬ Int32.ofInt b = 0 := fun q => h (by have := ow_ti hb; rw [q] at this; exact this.symm)
theorem ow_ne0_l {b : Int} (hb : ow_L b) (h : b ≠ 0) : ¬ Int64.ofInt b = 0 := fun q => h (by have := ow_tl hb; rw [q] at this; exact this.symm)
theorem ow_i2l {a : Int} (ha : ow_I a) : (Int32.ofInt a).toInt64 = Int64.ofInt a := by
  apply ow_lq
  rw [Int32.toInt_toInt64]
  exact ow_ti ha
theorem ow_l2i {a : Int} (hl : ow_L a) (ha : ow_I a) : (Int64.ofInt a).toInt32 = Int32.ofInt a := by
  apply ow_iq
  rw [Int64.toInt_toInt32, ow_tl hl]
  exact Int.bmod_eq_of_le (by have := ha.1; omega) (by have := ha.2; omega)
theorem ow_ilt {a b : Int} (ha : ow_I a) (hb : ow_I b) : Int32.ofInt a < Int32.ofInt b ↔ a < b := by rw [Int32.lt_iff_toInt_lt, ow_ti ha, ow_ti hb]
theorem ow_ile {a b : Int} (ha : ow_I a) (hb : ow_I b) : Int32.ofInt a ≤ Int32.ofInt b ↔ a ≤ b := by rw [Int32.le_iff_toInt_le, ow_ti ha, ow_ti hb]
theorem ow_ieq {a b : Int} (ha : ow_I a) (hb : ow_I b) : Int32.ofInt a = Int32.ofInt b ↔ a = b := by rw [← Int32.toInt_inj, ow_ti ha, ow_ti hb]
theorem ow_llt {a b : Int} (ha : ow_L a) (hb : ow_L b) : Int64.ofInt a < Int64.ofInt b ↔ a < b := by rw [Int64.lt_iff_toInt_lt, ow_tl ha, ow_tl hb]
theorem ow_leq {a b : Int} (ha : ow_L a) (hb : ow_L b) : Int64.ofInt a = Int64.ofInt b ↔ a = b := by rw [← Int64.toInt_inj, ow_tl ha, ow_tl hb]
theorem ow_i0 : ow_I 0 := ⟨by decide, by decide⟩
theorem ow_z0 : (0 : Int32) = Int32.ofInt 0 := by decide
theorem ow_cmp_l {a b : Int} (ha : ow_L a) (hb : ow_L b) : lg_cmp (Int64.ofInt a) (Int64.ofInt b) = Int32.ofInt (ow_lcmp a b) := by
  unfold lg_cmp ow_lcmp
  by_cases h1 : b < a
  · rw [if_pos ((ow_llt hb ha).mpr h1), if_pos h1]; rfl
  · rw [if_neg (fun q => h1 ((ow_llt hb ha).mp q)), if_neg h1]
    by_cases h2 : a = b
    · rw [if_pos ((ow_leq ha hb).mpr h2), if_pos h2]; rfl
    · rw [if_neg (fun q => h2 ((ow_leq ha hb).mp q)), if_neg h2]; rfl
theorem ow_lcmp_I (a b : Int) : ow_I (ow_lcmp a b) := by
  unfold ow_lcmp ow_I
  split
  · omega
  · split <;> omega
/-! locals -/
def ow_get (lv : List (Nat × ow_V)) (i : Nat) : Option ow_V := match lv with
  | [] => none
  | (j, v) :: t => if j = i then some v else ow_get t i
theorem ow_get_mem {lv : List (Nat × ow_V)} {i : Nat} {v : ow_V} (h : ow_get lv i = some v) : (i, v) ∈ lv := by
  induction lv with
  | nil => cases h
  | cons q t ih =>
    obtain ⟨j, w⟩ := q
    unfold ow_get at h
    by_cases e : j = i
    · rw [if_pos e] at h
      cases h
      subst e
      exact List.mem_cons_self
    · rw [if_neg e] at h
      exact List.mem_cons_of_mem _ (ih h)
theorem ow_lv_at {C : ow_C} {ls : Array Slot} {n : Nat} {lv : List (Nat × ow_V)} {i : Nat} {v : ow_V} (hl : lv_has ls n (ow_lc C lv)) (h : ow_get lv i = some v) : ls[i]? = some (.val (ow_cv C v)) :=
  hl.2.2 (i, ow_cv C v) (List.mem_map.mpr ⟨(i, v), ow_get_mem h, rfl⟩)
def ow_ins (lv : List (Nat × ow_V)) (i : Nat) (v : ow_V) : List (Nat × ow_V) :=
  lv.filter (fun q => Nat.blt q.1 i && !(Nat.beq (q.1 + 1) i && Nat.beq q.2.1 1)) ++ (i, v) :: lv.filter (fun q => Nat.blt i q.1 && !(Nat.beq v.1 1 && Nat.beq q.1 (i + 1)))
theorem ow_cat (C : ow_C) (v : ow_V) : (ow_cv C v).category = if v.1 = 1 then 2 else 1 := by
  obtain ⟨t, x⟩ := v
  match t with
  | 0 => rfl
  | 1 => rfl
  | 2 => rfl
  | n + 3 =>
    show (va_rf (ow_rf C x)).category = _
    rw [if_neg (by omega)]
    cases ow_rf C x <;> rfl
theorem ow_ins_mem {lv : List (Nat × ow_V)} {i : Nat} {v : ow_V} {q : Nat × ow_V} (h : q ∈ ow_ins lv i v) : q = (i, v) ∨ (q ∈ lv ∧ q.1 ≠ i ∧ ¬ (q.1 + 1 = i ∧ q.2.1 = 1) ∧ ¬ (v.1 = 1 ∧ q.1 = i + 1)) := by
  rcases List.mem_append.mp h with h | h
  · obtain ⟨h1, h2⟩ := List.mem_filter.mp h
    simp only [Bool.and_eq_true, Nat.blt_eq, Bool.not_eq_true', Bool.and_eq_false_iff, Nat.beq_eq_true_eq] at h2
    refine Or.inr ⟨h1, by omega, fun z => ?_, by omega⟩
    rcases h2.2 with h3 | h3
    · have := Nat.ne_of_beq_eq_false h3; omega
    · have := Nat.ne_of_beq_eq_false h3; omega
  · rcases List.mem_cons.mp h with h | h
    · exact Or.inl h
    · obtain ⟨h1, h2⟩ := List.mem_filter.mp h
      simp only [Bool.and_eq_true, Nat.blt_eq, Bool.not_eq_true', Bool.and_eq_false_iff] at h2
      refine Or.inr ⟨h1, by omega, by omega, fun z => ?_⟩
      rcases h2.2 with h3 | h3
      · have := Nat.ne_of_beq_eq_false h3; omega
      · have := Nat.ne_of_beq_eq_false h3; omega
theorem ow_ins_rg {lv : List (Nat × ow_V)} {i : Nat} {v : ow_V} (hv : ow_rg v) (h : ∀ q ∈ lv, ow_rg q.2) : ∀ q ∈ ow_ins lv i v, ow_rg q.2 := by
  intro q hq
  rcases ow_ins_mem hq with rfl | ⟨h1, -⟩
  · exact hv
  · exact h q h1
theorem ow_ins_has {C : ow_C} {ls : Array Slot} {n : Nat} {lv : List (Nat × ow_V)} {i : Nat} {v : ow_V} {L : List (Nat × Value)} (h1 : v.1 ≠ 1 → L = (i, ow_cv C v) :: (ow_lc C lv).filter (fun q => !(q.1 == i) && !(q.1 + 1 == i && q.2.category == 2)))
    (h2 : v.1 = 1 → L = (i, ow_cv C v) :: (ow_lc C lv).filter (fun q => !(q.1 == i) && (!(q.1 == i + 1) && !(q.1 + 1 == i && q.2.category == 2)))) (h : lv_has ls n L) : lv_has ls n (ow_lc C (ow_ins lv i v)) := by
  refine ⟨h.1, h.2.1, fun q hq => ?_⟩
  obtain ⟨r, hr, rfl⟩ := List.mem_map.mp hq
  apply h.2.2
  rcases ow_ins_mem hr with rfl | ⟨g1, g2, g3, g4⟩
  · by_cases e : v.1 = 1
    · rw [h2 e]; exact List.mem_cons_self
    · rw [h1 e]; exact List.mem_cons_self
  · have hm : (r.1, ow_cv C r.2) ∈ ow_lc C lv := List.mem_map.mpr ⟨r, g1, rfl⟩
    have hc : ¬ (r.1 + 1 = i ∧ (ow_cv C r.2).category = 2) := by
      intro z
      rw [ow_cat] at z
      by_cases e : r.2.1 = 1
      · exact g3 ⟨z.1, e⟩
      · rw [if_neg e] at z; omega
    by_cases e : v.1 = 1
    · rw [h2 e]
      refine List.mem_cons_of_mem _ (List.mem_filter.mpr ⟨hm, ?_⟩)
      simp only [Bool.and_eq_true, Bool.not_eq_true', beq_eq_false_iff_ne, Bool.and_eq_false_iff]
      refine ⟨g2, fun z => g4 ⟨e, z⟩, ?_⟩
      by_cases z : r.1 + 1 = i
      · exact Or.inr (fun z2 => hc ⟨z, z2⟩)
      · exact Or.inl z
    · rw [h1 e]
      refine List.mem_cons_of_mem _ (List.mem_filter.mpr ⟨hm, ?_⟩)
      simp only [Bool.and_eq_true, Bool.not_eq_true', beq_eq_false_iff_ne, Bool.and_eq_false_iff]
      refine ⟨g2, ?_⟩
      by_cases z : r.1 + 1 = i
      · exact Or.inr (fun z2 => hc ⟨z, z2⟩)
      · exact Or.inl z
theorem ow_rc {v : ow_V} {st : List ow_V} (hv : ow_rg v) (h : ∀ w ∈ st, ow_rg w) : ∀ w ∈ v :: st, ow_rg w := fun w hw => (List.mem_cons.mp hw).elim (fun e => e ▸ hv) (h w)
theorem ow_r1 {v : ow_V} {st : List ow_V} (h : ∀ w ∈ v :: st, ow_rg w) : ow_rg v := h v List.mem_cons_self
theorem ow_rs {v : ow_V} {st : List ow_V} (h : ∀ w ∈ v :: st, ow_rg w) : ∀ w ∈ st, ow_rg w := fun w hw => h w (List.mem_cons_of_mem _ hw)
section OWR
variable {C : ow_C} {E : ow_E} {d : Nat} {y : ow_Y} {pc pc' tg : Nat} {lv lv' : List (Nat × ow_V)} {st : List ow_V} {b : Nat × Nat} {M : ow_M} {K : Int → ow_M → Prop}
/-- the ranges of the locals and of the stack are known -/
theorem ow_rng (k : (∀ q ∈ lv, ow_rg q.2) → (∀ v ∈ st, ow_rg v) → ow_At C E d y pc lv st b M K) : ow_At C E d y pc lv st b M K := by
  intro p e s m args below meth c H locs ls cells slots cx hr hS hl hv hs
  exact k hv hs p e s m args below meth c H locs ls cells slots cx hr hS hl hv hs
/-- the ranges of what the cells hold are known -/
theorem ow_mok (k : ow_ok E M → ow_At C E d y pc lv st b M K) : ow_At C E d y pc lv st b M K := by
  intro p e s m args below meth c H locs ls cells slots cx hr hS hl hv hs
  exact k hr.2.2.2.2 p e s m args below meth c H locs ls cells slots cx hr hS hl hv hs
/-- fewer locals -/
theorem ow_sub (is : List Nat) (h : is.filterMap (fun i => lv[i]?) = lv') (k : ow_At C E d y pc lv' st b M K) : ow_At C E d y pc lv st b M K := by
  intro p e s m args below meth c H locs ls cells slots cx hr hS hl hv hs
  have hm : ∀ q ∈ lv', q ∈ lv := by
    intro q hq
    rw [← h] at hq
    obtain ⟨i, -, hi⟩ := List.mem_filterMap.mp hq
    exact List.mem_of_getElem? hi
  refine k p e s m args below meth c H locs ls cells slots cx hr hS ⟨hl.1, hl.2.1, fun q hq => ?_⟩ (fun q hq => hv q (hm q hq)) hs
  obtain ⟨r, hr, rfl⟩ := List.mem_map.mp hq
  exact hl.2.2 _ (List.mem_map.mpr ⟨r, hm r hr, rfl⟩)
theorem ow_iconst {n : Int} (hd : decode y.2.1 pc = .ok (.iconst n, 1)) (hn : ow_Ib n = true) (hp : pc + 1 = pc') (k : ow_At C E d y pc' lv ((0, n) :: st) b M K) : ow_At C E d y pc lv st b M K := by
  subst hp
  intro p e s m args below meth c H locs ls cells slots cx hr hS hl hv hs
  exact lv_iconst cx.1 cx.2.1 hd rfl (k p e s m args below meth c H locs ls cells slots cx hr hS hl hv (ow_rc (ow_Ib_ok hn) hs))
theorem ow_bipush {n : Int} (hd : decode y.2.1 pc = .ok (.bipush n, 2)) (hn : (decide (-128 ≤ n) && decide (n ≤ 127)) = true) (hp : pc + 2 = pc') (k : ow_At C E d y pc' lv ((0, n) :: st) b M K) : ow_At C E d y pc lv st b M K := by
  subst hp
  intro p e s m args below meth c H locs ls cells slots cx hr hS hl hv hs
  simp only [Bool.and_eq_true, decide_eq_true_eq] at hn
  exact lv_bipush cx.1 cx.2.1 hd (ow_b8 hn.1 hn.2) (k p e s m args below meth c H locs ls cells slots cx hr hS hl hv (ow_rc (show ow_I n from ⟨by omega, by omega⟩) hs))
theorem ow_sipush {n : Int} (hd : decode y.2.1 pc = .ok (.sipush n, 3)) (hn : (decide (-32768 ≤ n) && decide (n ≤ 32767)) = true) (hp : pc + 3 = pc') (k : ow_At C E d y pc' lv ((0, n) :: st) b M K) : ow_At C E d y pc lv st b M K := by
  subst hp
  intro p e s m args below meth c H locs ls cells slots cx hr hS hl hv hs
  simp only [Bool.and_eq_true, decide_eq_true_eq] at hn
  exact lv_sipush cx.1 cx.2.1 hd (ow_b16 hn.1 hn.2) (k p e s m args below meth c H locs ls cells slots cx hr hS hl hv (ow_rc (show ow_I n from ⟨by omega, by omega⟩) hs))
theorem ow_lconst {n : Fin 2} {i : Int} (hd : decode y.2.1 pc = .ok (.lconst n, 1)) (hi : ((n : Nat) : Int) = i) (hp : pc + 1 = pc') (k : ow_At C E d y pc' lv ((1, i) :: st) b M K) : ow_At C E d y pc lv st b M K := by
  subst hp
  intro p e s m args below meth c H locs ls cells slots cx hr hS hl hv hs
  subst hi
  have e0 : ow_L ((n : Nat) : Int) := ⟨by omega, by have := n.2; omega⟩
  exact lv_lconst cx.1 cx.2.1 hd (by apply ow_lq; rw [show Int64.ofNat (n : Nat) = Int64.ofInt ((n : Nat) : Int) from (Int64.ofInt_eq_ofNat).symm]; exact ow_tl e0) (k p e s m args below meth c H locs ls cells slots cx hr hS hl hv (ow_rc e0 hs))
theorem ow_ldc {ix : Nat} {v : Int32} {n : Int} (hd : decode y.2.1 pc = .ok (.ldc ix, 2)) (hw : Cond.constant y.1.cls ix v ∈ ow_gt) (hn : v.toInt = n) (hp : pc + 2 = pc') (k : ow_At C E d y pc' lv ((0, n) :: st) b M K) : ow_At C E d y pc lv st b M K := by
  subst hp
  intro p e s m args below meth c H locs ls cells slots cx hr hS hl hv hs
  subst hn
  refine lv_ldc cx.1 cx.2.1 cx.2.2.2.2.2.1 (cx.2.2.2.2.2.2.1 _ hw) hd ?_
  have h := k p e s m args below meth c H locs ls cells slots cx hr hS hl hv (ow_rc (ow_it v) hs)
  simpa [ow_cv] using h
theorem ow_ldcw {ix : Nat} {v : Int32} {n : Int} (hd : decode y.2.1 pc = .ok (.ldc_w ix, 3)) (hw : Cond.constant y.1.cls ix v ∈ ow_gt) (hn : v.toInt = n) (hp : pc + 3 = pc') (k : ow_At C E d y pc' lv ((0, n) :: st) b M K) : ow_At C E d y pc lv st b M K := by
  subst hp
  intro p e s m args below meth c H locs ls cells slots cx hr hS hl hv hs
  subst hn
  refine lv_ldcw cx.1 cx.2.1 cx.2.2.2.2.2.1 (cx.2.2.2.2.2.2.1 _ hw) hd ?_
  have h := k p e s m args below meth c H locs ls cells slots cx hr hS hl hv (ow_rc (ow_it v) hs)
  simpa [ow_cv] using h
theorem ow_ldc2 {ix : Nat} {v : Int64} {n : Int} (hd : decode y.2.1 pc = .ok (.ldc2_w ix, 3)) (hw : Cond.constantLong y.1.cls ix v ∈ ow_gt) (hn : v.toInt = n) (hp : pc + 3 = pc') (k : ow_At C E d y pc' lv ((1, n) :: st) b M K) : ow_At C E d y pc lv st b M K := by
  subst hp
  intro p e s m args below meth c H locs ls cells slots cx hr hS hl hv hs
  subst hn
  refine lv_ldc2 cx.1 cx.2.1 cx.2.2.2.2.2.1 (cx.2.2.2.2.2.2.1 _ hw) hd ?_
  have h := k p e s m args below meth c H locs ls cells slots cx hr hS hl hv (ow_rc (ow_lt v) hs)
  simpa [ow_cv] using h
theorem ow_null (hd : decode y.2.1 pc = .ok (.aconst_null, 1)) (hp : pc + 1 = pc') (k : ow_At C E d y pc' lv ((3, -1) :: st) b M K) : ow_At C E d y pc lv st b M K := by
  subst hp
  intro p e s m args below meth c H locs ls cells slots cx hr hS hl hv hs
  exact lv_null cx.1 cx.2.1 hd (k p e s m args below meth c H locs ls cells slots cx hr hS hl hv (ow_rc (v := (3, -1)) trivial hs))
theorem ow_iload_n {j : Fin 4} {x : Int} (hd : decode y.2.1 pc = .ok (.iload_n j, 1)) (hg : ow_get lv j = some (0, x)) (hp : pc + 1 = pc') (k : ow_At C E d y pc' lv ((0, x) :: st) b M K) : ow_At C E d y pc lv st b M K := by
  subst hp
  intro p e s m args below meth c H locs ls cells slots cx hr hS hl hv hs
  exact lv_iload_n cx.1 cx.2.1 hd rfl (ow_lv_at hl hg) (k p e s m args below meth c H locs ls cells slots cx hr hS hl hv (ow_rc (hv _ (ow_get_mem hg)) hs))
theorem ow_iload {j : Nat} {x : Int} (hd : decode y.2.1 pc = .ok (.iload j, 2)) (hg : ow_get lv j = some (0, x)) (hp : pc + 2 = pc') (k : ow_At C E d y pc' lv ((0, x) :: st) b M K) : ow_At C E d y pc lv st b M K := by
  subst hp
  intro p e s m args below meth c H locs ls cells slots cx hr hS hl hv hs
  exact lv_iload cx.1 cx.2.1 hd (ow_lv_at hl hg) (k p e s m args below meth c H locs ls cells slots cx hr hS hl hv (ow_rc (hv _ (ow_get_mem hg)) hs))
theorem ow_lload_n {j : Fin 4} {x : Int} (hd : decode y.2.1 pc = .ok (.lload_n j, 1)) (hg : ow_get lv j = some (1, x)) (hp : pc + 1 = pc') (k : ow_At C E d y pc' lv ((1, x) :: st) b M K) : ow_At C E d y pc lv st b M K := by
  subst hp
  intro p e s m args below meth c H locs ls cells slots cx hr hS hl hv hs
  exact lv_lload_n cx.1 cx.2.1 hd rfl (ow_lv_at hl hg) (k p e s m args below meth c H locs ls cells slots cx hr hS hl hv (ow_rc (hv _ (ow_get_mem hg)) hs))
theorem ow_lload {j : Nat} {x : Int} (hd : decode y.2.1 pc = .ok (.lload j, 2)) (hg : ow_get lv j = some (1, x)) (hp : pc + 2 = pc') (k : ow_At C E d y pc' lv ((1, x) :: st) b M K) : ow_At C E d y pc lv st b M K := by
  subst hp
  intro p e s m args below meth c H locs ls cells slots cx hr hS hl hv hs
  exact lv_lload cx.1 cx.2.1 hd (ow_lv_at hl hg) (k p e s m args below meth c H locs ls cells slots cx hr hS hl hv (ow_rc (hv _ (ow_get_mem hg)) hs))
theorem ow_aload_n {j : Fin 4} {x : Int} (hd : decode y.2.1 pc = .ok (.aload_n j, 1)) (hg : ow_get lv j = some (3, x)) (hp : pc + 1 = pc') (k : ow_At C E d y pc' lv ((3, x) :: st) b M K) : ow_At C E d y pc lv st b M K := by
  subst hp
  intro p e s m args below meth c H locs ls cells slots cx hr hS hl hv hs
  have h9 := k p e s m args below meth c H locs ls cells slots cx hr hS hl hv (ow_rc (v := (3, x)) trivial hs)
  have h8 := ow_lv_at hl hg
  cases er : ow_rf C x with
  | none =>
    have e1 : ow_cv C (3, x) = .null := by show va_rf (ow_rf C x) = _; rw [er]; rfl
    rw [List.map_cons, e1] at h9
    rw [e1] at h8
    exact lv_aload_nN cx.1 cx.2.1 hd rfl h8 h9
  | some a =>
    have e1 : ow_cv C (3, x) = .ref a := by show va_rf (ow_rf C x) = _; rw [er]; rfl
    rw [List.map_cons, e1] at h9
    rw [e1] at h8
    exact lv_aload_n cx.1 cx.2.1 hd rfl h8 h9
theorem ow_aload {j : Nat} {x : Int} (hd : decode y.2.1 pc = .ok (.aload j, 2)) (hg : ow_get lv j = some (3, x)) (hp : pc + 2 = pc') (k : ow_At C E d y pc' lv ((3, x) :: st) b M K) : ow_At C E d y pc lv st b M K := by
  subst hp
  intro p e s m args below meth c H locs ls cells slots cx hr hS hl hv hs
  have h9 := k p e s m args below meth c H locs ls cells slots cx hr hS hl hv (ow_rc (v := (3, x)) trivial hs)
  have h8 := ow_lv_at hl hg
  cases er : ow_rf C x with
  | none =>
    have e1 : ow_cv C (3, x) = .null := by show va_rf (ow_rf C x) = _; rw [er]; rfl
    rw [List.map_cons, e1] at h9
    rw [e1] at h8
    exact lv_aloadN cx.1 cx.2.1 hd h8 h9
  | some a =>
    have e1 : ow_cv C (3, x) = .ref a := by show va_rf (ow_rf C x) = _; rw [er]; rfl
    rw [List.map_cons, e1] at h9
    rw [e1] at h8
    exact lv_aload cx.1 cx.2.1 hd h8 h9
theorem ow_istore_n {j : Fin 4} {x : Int} (hd : decode y.2.1 pc = .ok (.istore_n j, 1)) (hp : pc + 1 = pc') (hb : Nat.blt ((j : Nat)) y.2.2.1 = true) (hi : ow_ins lv j (0, x) = lv') (k : ow_At C E d y pc' lv' st b M K) : ow_At C E d y pc lv ((0, x) :: st) b M K := by
  subst hp
  subst hi
  have hb : (j : Nat) < y.2.2.1 := by simpa using hb
  intro p e s m args below meth c H locs ls cells slots cx hr hS hl hv hs
  exact lv_istore_n cx.1 cx.2.1 hd rfl hl hb rfl (fun ls2 hl2 => k p e s m args below meth c H locs ls2 cells slots cx hr hS (ow_ins_has (L := _) (fun _ => rfl) (fun z => absurd z (show ¬ (0 : Nat) = 1 by decide)) hl2) (ow_ins_rg (ow_r1 hs) hv) (ow_rs hs))
theorem ow_istore {j : Nat} {x : Int} (hd : decode y.2.1 pc = .ok (.istore j, 2)) (hp : pc + 2 = pc') (hb : Nat.blt ((j : Nat)) y.2.2.1 = true) (hi : ow_ins lv j (0, x) = lv') (k : ow_At C E d y pc' lv' st b M K) : ow_At C E d y pc lv ((0, x) :: st) b M K := by
  subst hp
  subst hi
  have hb : (j : Nat) < y.2.2.1 := by simpa using hb
  intro p e s m args below meth c H locs ls cells slots cx hr hS hl hv hs
  exact lv_istore cx.1 cx.2.1 hd hl hb rfl (fun ls2 hl2 => k p e s m args below meth c H locs ls2 cells slots cx hr hS (ow_ins_has (L := _) (fun _ => rfl) (fun z => absurd z (show ¬ (0 : Nat) = 1 by decide)) hl2) (ow_ins_rg (ow_r1 hs) hv) (ow_rs hs))
theorem ow_lstore_n {j : Fin 4} {x : Int} (hd : decode y.2.1 pc = .ok (.lstore_n j, 1)) (hp : pc + 1 = pc') (hb : Nat.blt ((j : Nat) + 1) y.2.2.1 = true) (hi : ow_ins lv j (1, x) = lv') (k : ow_At C E d y pc' lv' st b M K) : ow_At C E d y pc lv ((1, x) :: st) b M K := by
  subst hp
  subst hi
  have hb : (j : Nat) + 1 < y.2.2.1 := by simpa using hb
  intro p e s m args below meth c H locs ls cells slots cx hr hS hl hv hs
  exact lv_lstore_n cx.1 cx.2.1 hd rfl hl hb rfl (fun ls2 hl2 => k p e s m args below meth c H locs ls2 cells slots cx hr hS (ow_ins_has (L := _) (fun _ => absurd rfl ‹_›) (fun z => rfl) hl2) (ow_ins_rg (ow_r1 hs) hv) (ow_rs hs))
theorem ow_lstore {j : Nat} {x : Int} (hd : decode y.2.1 pc = .ok (.lstore j, 2)) (hp : pc + 2 = pc') (hb : Nat.blt ((j : Nat) + 1) y.2.2.1 = true) (hi : ow_ins lv j (1, x) = lv') (k : ow_At C E d y pc' lv' st b M K) : ow_At C E d y pc lv ((1, x) :: st) b M K := by
  subst hp
  subst hi
  have hb : (j : Nat) + 1 < y.2.2.1 := by simpa using hb
  intro p e s m args below meth c H locs ls cells slots cx hr hS hl hv hs
  exact lv_lstore cx.1 cx.2.1 hd hl hb rfl (fun ls2 hl2 => k p e s m args below meth c H locs ls2 cells slots cx hr hS (ow_ins_has (L := _) (fun _ => absurd rfl ‹_›) (fun z => rfl) hl2) (ow_ins_rg (ow_r1 hs) hv) (ow_rs hs))
theorem ow_astore_n {j : Fin 4} {x : Int} (hd : decode y.2.1 pc = .ok (.astore_n j, 1)) (hp : pc + 1 = pc') (hb : Nat.blt ((j : Nat)) y.2.2.1 = true) (hi : ow_ins lv j (3, x) = lv') (k : ow_At C E d y pc' lv' st b M K) : ow_At C E d y pc lv ((3, x) :: st) b M K := by
  subst hp
  subst hi
  have hb : (j : Nat) < y.2.2.1 := by simpa using hb
  intro p e s m args below meth c H locs ls cells slots cx hr hS hl hv hs
  cases er : ow_rf C x with
  | none =>
    have e1 : ow_cv C (3, x) = .null := by show va_rf (ow_rf C x) = _; rw [er]; rfl
    rw [List.map_cons, e1]
    exact lv_astore_nN cx.1 cx.2.1 hd rfl hl hb rfl (fun ls2 hl2 => k p e s m args below meth c H locs ls2 cells slots cx hr hS (ow_ins_has (L := _) (fun _ => by rw [e1]) (fun z => absurd z (show ¬ (3 : Nat) = 1 by decide)) hl2) (ow_ins_rg (ow_r1 hs) hv) (ow_rs hs))
  | some a =>
    have e1 : ow_cv C (3, x) = .ref a := by show va_rf (ow_rf C x) = _; rw [er]; rfl
    rw [List.map_cons, e1]
    exact lv_astore_n cx.1 cx.2.1 hd rfl hl hb rfl (fun ls2 hl2 => k p e s m args below meth c H locs ls2 cells slots cx hr hS (ow_ins_has (L := _) (fun _ => by rw [e1]) (fun z => absurd z (show ¬ (3 : Nat) = 1 by decide)) hl2) (ow_ins_rg (ow_r1 hs) hv) (ow_rs hs))
theorem ow_astore {j : Nat} {x : Int} (hd : decode y.2.1 pc = .ok (.astore j, 2)) (hp : pc + 2 = pc') (hb : Nat.blt ((j : Nat)) y.2.2.1 = true) (hi : ow_ins lv j (3, x) = lv') (k : ow_At C E d y pc' lv' st b M K) : ow_At C E d y pc lv ((3, x) :: st) b M K := by
  subst hp
  subst hi
  have hb : (j : Nat) < y.2.2.1 := by simpa using hb
  intro p e s m args below meth c H locs ls cells slots cx hr hS hl hv hs
  cases er : ow_rf C x with
  | none =>
    have e1 : ow_cv C (3, x) = .null := by show va_rf (ow_rf C x) = _; rw [er]; rfl
    rw [List.map_cons, e1]
    exact lv_astoreN cx.1 cx.2.1 hd hl hb rfl (fun ls2 hl2 => k p e s m args below meth c H locs ls2 cells slots cx hr hS (ow_ins_has (L := _) (fun _ => by rw [e1]) (fun z => absurd z (show ¬ (3 : Nat) = 1 by decide)) hl2) (ow_ins_rg (ow_r1 hs) hv) (ow_rs hs))
  | some a =>
    have e1 : ow_cv C (3, x) = .ref a := by show va_rf (ow_rf C x) = _; rw [er]; rfl
    rw [List.map_cons, e1]
    exact lv_astore cx.1 cx.2.1 hd hl hb rfl (fun ls2 hl2 => k p e s m args below meth c H locs ls2 cells slots cx hr hS (ow_ins_has (L := _) (fun _ => by rw [e1]) (fun z => absurd z (show ¬ (3 : Nat) = 1 by decide)) hl2) (ow_ins_rg (ow_r1 hs) hv) (ow_rs hs))
theorem ow_iinc {j : Nat} {x n : Int} (hd : decode y.2.1 pc = .ok (.iinc j n, 3)) (hg : ow_get lv j = some (0, x)) (hr1 : ow_I (x + n)) (hp : pc + 3 = pc') (hb : Nat.blt j y.2.2.1 = true) (hi : ow_ins lv j (0, x + n) = lv') (k : ow_At C E d y pc' lv' st b M K) : ow_At C E d y pc lv st b M K := by
  subst hp
  subst hi
  have hb : j < y.2.2.1 := by simpa using hb
  intro p e s m args below meth c H locs ls cells slots cx hr hS hl hv hs
  have hm : (j, Value.int (Int32.ofInt x)) ∈ ow_lc C lv := List.mem_map.mpr ⟨(j, (0, x)), ow_get_mem hg, rfl⟩
  obtain ⟨i, hi⟩ := List.getElem?_of_mem hm
  exact lv_iinc cx.1 cx.2.1 hd hl hi (ow_add_i x n) hb rfl (fun ls2 hl2 => k p e s m args below meth c H locs ls2 cells slots cx hr hS (ow_ins_has (v := (0, x + n)) (L := _) (fun _ => rfl) (fun z => absurd z (show ¬ (0 : Nat) = 1 by decide)) hl2) (ow_ins_rg (v := (0, x + n)) hr1 hv) hs)
theorem ow_iadd {a c9 : Int} (hd : decode y.2.1 pc = .ok (.iadd, 1)) (hr1 : ow_I (a + c9)) (hp : pc + 1 = pc') (k : ow_At C E d y pc' lv ((0, a + c9) :: st) b M K) : ow_At C E d y pc lv ((0, c9) :: (0, a) :: st) b M K := by
  subst hp
  intro p e s m args below meth c H locs ls cells slots cx hr hS hl hv hs
  refine lv_iadd cx.1 cx.2.1 hd ?_
  rw [ow_add_i]
  exact k p e s m args below meth c H locs ls cells slots cx hr hS hl hv (ow_rc (v := (0, _)) hr1 (ow_rs (ow_rs hs)))
theorem ow_isub {a c9 : Int} (hd : decode y.2.1 pc = .ok (.isub, 1)) (hr1 : ow_I (a - c9)) (hp : pc + 1 = pc') (k : ow_At C E d y pc' lv ((0, a - c9) :: st) b M K) : ow_At C E d y pc lv ((0, c9) :: (0, a) :: st) b M K := by
  subst hp
  intro p e s m args below meth c H locs ls cells slots cx hr hS hl hv hs
  refine lv_isub cx.1 cx.2.1 hd ?_
  rw [ow_sub_i]
  exact k p e s m args below meth c H locs ls cells slots cx hr hS hl hv (ow_rc (v := (0, _)) hr1 (ow_rs (ow_rs hs)))
theorem ow_imul {a c9 : Int} (hd : decode y.2.1 pc = .ok (.imul, 1)) (hr1 : ow_I (a * c9)) (hp : pc + 1 = pc') (k : ow_At C E d y pc' lv ((0, a * c9) :: st) b M K) : ow_At C E d y pc lv ((0, c9) :: (0, a) :: st) b M K := by
  subst hp
  intro p e s m args below meth c H locs ls cells slots cx hr hS hl hv hs
  refine lv_imul cx.1 cx.2.1 hd ?_
  rw [ow_mul_i]
  exact k p e s m args below meth c H locs ls cells slots cx hr hS hl hv (ow_rc (v := (0, _)) hr1 (ow_rs (ow_rs hs)))
theorem ow_ladd {a c9 : Int} (hd : decode y.2.1 pc = .ok (.ladd, 1)) (hr1 : ow_L (a + c9)) (hp : pc + 1 = pc') (k : ow_At C E d y pc' lv ((1, a + c9) :: st) b M K) : ow_At C E d y pc lv ((1, c9) :: (1, a) :: st) b M K := by
  subst hp
  intro p e s m args below meth c H locs ls cells slots cx hr hS hl hv hs
  refine lv_ladd cx.1 cx.2.1 hd ?_
  rw [ow_add_l]
  exact k p e s m args below meth c H locs ls cells slots cx hr hS hl hv (ow_rc (v := (1, _)) hr1 (ow_rs (ow_rs hs)))
theorem ow_lsub {a c9 : Int} (hd : decode y.2.1 pc = .ok (.lsub, 1)) (hr1 : ow_L (a - c9)) (hp : pc + 1 = pc') (k : ow_At C E d y pc' lv ((1, a - c9) :: st) b M K) : ow_At C E d y pc lv ((1, c9) :: (1, a) :: st) b M K := by
  subst hp
  intro p e s m args below meth c H locs ls cells slots cx hr hS hl hv hs
  refine lv_lsub cx.1 cx.2.1 hd ?_
  rw [ow_sub_l]
  exact k p e s m args below meth c H locs ls cells slots cx hr hS hl hv (ow_rc (v := (1, _)) hr1 (ow_rs (ow_rs hs)))
theorem ow_lmul {a c9 : Int} (hd : decode y.2.1 pc = .ok (.lmul, 1)) (hr1 : ow_L (a * c9)) (hp : pc + 1 = pc') (k : ow_At C E d y pc' lv ((1, a * c9) :: st) b M K) : ow_At C E d y pc lv ((1, c9) :: (1, a) :: st) b M K := by
  subst hp
  intro p e s m args below meth c H locs ls cells slots cx hr hS hl hv hs
  refine lv_lmul cx.1 cx.2.1 hd ?_
  rw [ow_mul_l]
  exact k p e s m args below meth c H locs ls cells slots cx hr hS hl hv (ow_rc (v := (1, _)) hr1 (ow_rs (ow_rs hs)))
theorem ow_idiv {a c9 : Int} (hd : decode y.2.1 pc = .ok (.idiv, 1)) (h0 : c9 ≠ 0) (hr1 : ow_I (a.tdiv c9)) (hp : pc + 1 = pc') (k : ow_At C E d y pc' lv ((0, a.tdiv c9) :: st) b M K) : ow_At C E d y pc lv ((0, c9) :: (0, a) :: st) b M K := by
  subst hp
  intro p e s m args below meth c H locs ls cells slots cx hr hS hl hv hs
  refine lv_idiv cx.1 cx.2.1 hd (ow_ne0_i (ow_r1 hs) h0) ?_
  rw [ow_div_i (ow_r1 (ow_rs hs)) (ow_r1 hs) hr1]
  exact k p e s m args below meth c H locs ls cells slots cx hr hS hl hv (ow_rc (v := (0, _)) hr1 (ow_rs (ow_rs hs)))
theorem ow_irem {a c9 : Int} (hd : decode y.2.1 pc = .ok (.irem, 1)) (h0 : c9 ≠ 0) (hr0 : ow_I (a.tdiv c9)) (hr1 : ow_I (a.tmod c9)) (hp : pc + 1 = pc') (k : ow_At C E d y pc' lv ((0, a.tmod c9) :: st) b M K) : ow_At C E d y pc lv ((0, c9) :: (0, a) :: st) b M K := by
  subst hp
  intro p e s m args below meth c H locs ls cells slots cx hr hS hl hv hs
  refine lv_irem cx.1 cx.2.1 hd (ow_ne0_i (ow_r1 hs) h0) ?_
  rw [ow_rem_i (ow_r1 (ow_rs hs)) (ow_r1 hs) hr0]
  exact k p e s m args below meth c H locs ls cells slots cx hr hS hl hv (ow_rc (v := (0, _)) hr1 (ow_rs (ow_rs hs)))
theorem ow_ineg {a : Int} (hd : decode y.2.1 pc = .ok (.ineg, 1)) (hr1 : ow_I (-a)) (hp : pc + 1 = pc') (k : ow_At C E d y pc' lv ((0, -a) :: st) b M K) : ow_At C E d y pc lv ((0, a) :: st) b M K := by
  subst hp
  intro p e s m args below meth c H locs ls cells slots cx hr hS hl hv hs
  refine lv_ineg cx.1 cx.2.1 hd ?_
  rw [ow_neg_i]
  exact k p e s m args below meth c H locs ls cells slots cx hr hS hl hv (ow_rc (v := (0, _)) hr1 (ow_rs hs))
theorem ow_ldiv {a c9 : Int} (hd : decode y.2.1 pc = .ok (.ldiv, 1)) (h0 : c9 ≠ 0) (hr1 : ow_L (a.tdiv c9)) (hp : pc + 1 = pc') (k : ow_At C E d y pc' lv ((1, a.tdiv c9) :: st) b M K) : ow_At C E d y pc lv ((1, c9) :: (1, a) :: st) b M K := by
  subst hp
  intro p e s m args below meth c H locs ls cells slots cx hr hS hl hv hs
  refine lv_ldiv cx.1 cx.2.1 hd (ow_ne0_l (ow_r1 hs) h0) ?_
  rw [ow_div_l (ow_r1 (ow_rs hs)) (ow_r1 hs) hr1]
  exact k p e s m args below meth c H locs ls cells slots cx hr hS hl hv (ow_rc (v := (1, _)) hr1 (ow_rs (ow_rs hs)))
theorem ow_lrem {a c9 : Int} (hd : decode y.2.1 pc = .ok (.lrem, 1)) (h0 : c9 ≠ 0) (hr0 : ow_L (a.tdiv c9)) (hr1 : ow_L (a.tmod c9)) (hp : pc + 1 = pc') (k : ow_At C E d y pc' lv ((1, a.tmod c9) :: st) b M K) : ow_At C E d y pc lv ((1, c9) :: (1, a) :: st) b M K := by
  subst hp
  intro p e s m args below meth c H locs ls cells slots cx hr hS hl hv hs
  refine lv_lrem cx.1 cx.2.1 hd (ow_ne0_l (ow_r1 hs) h0) ?_
  rw [ow_rem_l (ow_r1 (ow_rs hs)) (ow_r1 hs) hr0]
  exact k p e s m args below meth c H locs ls cells slots cx hr hS hl hv (ow_rc (v := (1, _)) hr1 (ow_rs (ow_rs hs)))
theorem ow_lneg {a : Int} (hd : decode y.2.1 pc = .ok (.lneg, 1)) (hr1 : ow_L (-a)) (hp : pc + 1 = pc') (k : ow_At C E d y pc' lv ((1, -a) :: st) b M K) : ow_At C E d y pc lv ((1, a) :: st) b M K := by
  subst hp
  intro p e s m args below meth c H locs ls cells slots cx hr hS hl hv hs
  refine lv_lneg cx.1 cx.2.1 hd ?_
  rw [ow_neg_l]
  exact k p e s m args below meth c H locs ls cells slots cx hr hS hl hv (ow_rc (v := (1, _)) hr1 (ow_rs hs))
theorem ow_iand {a c9 : Int} (hd : decode y.2.1 pc = .ok (.iand, 1)) (hp : pc + 1 = pc') (k : ow_At C E d y pc' lv ((0, ow_and a c9) :: st) b M K) : ow_At C E d y pc lv ((0, c9) :: (0, a) :: st) b M K := by
  subst hp
  intro p e s m args below meth c H locs ls cells slots cx hr hS hl hv hs
  refine lv_iand cx.1 cx.2.1 hd ?_
  have h := k p e s m args below meth c H locs ls cells slots cx hr hS hl hv (ow_rc (v := (0, ow_and a c9)) (ow_it _) (ow_rs (ow_rs hs)))
  rw [List.map_cons] at h
  have e1 : ow_cv C (0, ow_and a c9) = _ := congrArg Value.int (Int32.ofInt_toInt _)
  rw [e1] at h
  exact h
theorem ow_ior {a c9 : Int} (hd : decode y.2.1 pc = .ok (.ior, 1)) (hp : pc + 1 = pc') (k : ow_At C E d y pc' lv ((0, ow_or a c9) :: st) b M K) : ow_At C E d y pc lv ((0, c9) :: (0, a) :: st) b M K := by
  subst hp
  intro p e s m args below meth c H locs ls cells slots cx hr hS hl hv hs
  refine lv_ior cx.1 cx.2.1 hd ?_
  have h := k p e s m args below meth c H locs ls cells slots cx hr hS hl hv (ow_rc (v := (0, ow_or a c9)) (ow_it _) (ow_rs (ow_rs hs)))
  rw [List.map_cons] at h
  have e1 : ow_cv C (0, ow_or a c9) = _ := congrArg Value.int (Int32.ofInt_toInt _)
  rw [e1] at h
  exact h
theorem ow_ixor {a c9 : Int} (hd : decode y.2.1 pc = .ok (.ixor, 1)) (hp : pc + 1 = pc') (k : ow_At C E d y pc' lv ((0, ow_xor a c9) :: st) b M K) : ow_At C E d y pc lv ((0, c9) :: (0, a) :: st) b M K := by
  subst hp
  intro p e s m args below meth c H locs ls cells slots cx hr hS hl hv hs
  refine lv_ixor cx.1 cx.2.1 hd ?_
  have h := k p e s m args below meth c H locs ls cells slots cx hr hS hl hv (ow_rc (v := (0, ow_xor a c9)) (ow_it _) (ow_rs (ow_rs hs)))
  rw [List.map_cons] at h
  have e1 : ow_cv C (0, ow_xor a c9) = _ := congrArg Value.int (Int32.ofInt_toInt _)
  rw [e1] at h
  exact h
theorem ow_ishl {a c9 : Int} (hd : decode y.2.1 pc = .ok (.ishl, 1)) (hp : pc + 1 = pc') (k : ow_At C E d y pc' lv ((0, ow_shl a c9) :: st) b M K) : ow_At C E d y pc lv ((0, c9) :: (0, a) :: st) b M K := by
  subst hp
  intro p e s m args below meth c H locs ls cells slots cx hr hS hl hv hs
  refine lv_ishl cx.1 cx.2.1 hd ?_
  have h := k p e s m args below meth c H locs ls cells slots cx hr hS hl hv (ow_rc (v := (0, ow_shl a c9)) (ow_it _) (ow_rs (ow_rs hs)))
  rw [List.map_cons] at h
  have e1 : ow_cv C (0, ow_shl a c9) = _ := congrArg Value.int (Int32.ofInt_toInt _)
  rw [e1] at h
  exact h
theorem ow_ishr {a c9 : Int} (hd : decode y.2.1 pc = .ok (.ishr, 1)) (hp : pc + 1 = pc') (k : ow_At C E d y pc' lv ((0, ow_shr a c9) :: st) b M K) : ow_At C E d y pc lv ((0, c9) :: (0, a) :: st) b M K := by
  subst hp
  intro p e s m args below meth c H locs ls cells slots cx hr hS hl hv hs
  refine lv_ishr cx.1 cx.2.1 hd ?_
  have h := k p e s m args below meth c H locs ls cells slots cx hr hS hl hv (ow_rc (v := (0, ow_shr a c9)) (ow_it _) (ow_rs (ow_rs hs)))
  rw [List.map_cons] at h
  have e1 : ow_cv C (0, ow_shr a c9) = _ := congrArg Value.int (Int32.ofInt_toInt _)
  rw [e1] at h
  exact h
theorem ow_iushr {a c9 : Int} (hd : decode y.2.1 pc = .ok (.iushr, 1)) (hp : pc + 1 = pc') (k : ow_At C E d y pc' lv ((0, ow_ushr a c9) :: st) b M K) : ow_At C E d y pc lv ((0, c9) :: (0, a) :: st) b M K := by
  subst hp
  intro p e s m args below meth c H locs ls cells slots cx hr hS hl hv hs
  refine lv_iushr cx.1 cx.2.1 hd (v := Int32.ofInt (ow_ushr a c9)) (Int32.ofInt_toInt _).symm ?_
  exact k p e s m args below meth c H locs ls cells slots cx hr hS hl hv (ow_rc (v := (0, ow_ushr a c9)) (ow_it _) (ow_rs (ow_rs hs)))
theorem ow_jand {a c9 : Int} (hd : decode y.2.1 pc = .ok (.land, 1)) (hp : pc + 1 = pc') (k : ow_At C E d y pc' lv ((1, ow_land a c9) :: st) b M K) : ow_At C E d y pc lv ((1, c9) :: (1, a) :: st) b M K := by
  subst hp
  intro p e s m args below meth c H locs ls cells slots cx hr hS hl hv hs
  refine lv_land cx.1 cx.2.1 hd ?_
  have h := k p e s m args below meth c H locs ls cells slots cx hr hS hl hv (ow_rc (v := (1, ow_land a c9)) (ow_lt _) (ow_rs (ow_rs hs)))
  rw [List.map_cons] at h
  have e1 : ow_cv C (1, ow_land a c9) = _ := congrArg Value.long (Int64.ofInt_toInt _)
  rw [e1] at h
  exact h
theorem ow_jor {a c9 : Int} (hd : decode y.2.1 pc = .ok (.lor, 1)) (hp : pc + 1 = pc') (k : ow_At C E d y pc' lv ((1, ow_lor a c9) :: st) b M K) : ow_At C E d y pc lv ((1, c9) :: (1, a) :: st) b M K := by
  subst hp
  intro p e s m args below meth c H locs ls cells slots cx hr hS hl hv hs
  refine lv_lor cx.1 cx.2.1 hd ?_
  have h := k p e s m args below meth c H locs ls cells slots cx hr hS hl hv (ow_rc (v := (1, ow_lor a c9)) (ow_lt _) (ow_rs (ow_rs hs)))
  rw [List.map_cons] at h
  have e1 : ow_cv C (1, ow_lor a c9) = _ := congrArg Value.long (Int64.ofInt_toInt _)
  rw [e1] at h
  exact h
theorem ow_jshl {a c9 : Int} (hd : decode y.2.1 pc = .ok (.lshl, 1)) (hp : pc + 1 = pc') (k : ow_At C E d y pc' lv ((1, ow_lshl a c9) :: st) b M K) : ow_At C E d y pc lv ((0, c9) :: (1, a) :: st) b M K := by
  subst hp
  intro p e s m args below meth c H locs ls cells slots cx hr hS hl hv hs
  refine lv_lshl cx.1 cx.2.1 hd (v := Int64.ofInt (ow_lshl a c9)) (Int64.ofInt_toInt _).symm ?_
  exact k p e s m args below meth c H locs ls cells slots cx hr hS hl hv (ow_rc (v := (1, ow_lshl a c9)) (ow_lt _) (ow_rs (ow_rs hs)))
theorem ow_jshr {a c9 : Int} (hd : decode y.2.1 pc = .ok (.lshr, 1)) (hp : pc + 1 = pc') (k : ow_At C E d y pc' lv ((1, ow_lshr a c9) :: st) b M K) : ow_At C E d y pc lv ((0, c9) :: (1, a) :: st) b M K := by
  subst hp
  intro p e s m args below meth c H locs ls cells slots cx hr hS hl hv hs
  refine lv_lshr cx.1 cx.2.1 hd (v := Int64.ofInt (ow_lshr a c9)) (Int64.ofInt_toInt _).symm ?_
  exact k p e s m args below meth c H locs ls cells slots cx hr hS hl hv (ow_rc (v := (1, ow_lshr a c9)) (ow_lt _) (ow_rs (ow_rs hs)))
theorem ow_i2L {a : Int} (hd : decode y.2.1 pc = .ok (.i2l, 1)) (hp : pc + 1 = pc') (k : ow_At C E d y pc' lv ((1, a) :: st) b M K) : ow_At C E d y pc lv ((0, a) :: st) b M K := by
  subst hp
  intro p e s m args below meth c H locs ls cells slots cx hr hS hl hv hs
  have ha : ow_I a := ow_r1 hs
  exact lv_i2l cx.1 cx.2.1 hd (ow_i2l ha) (k p e s m args below meth c H locs ls cells slots cx hr hS hl hv (ow_rc (v := (1, a)) (show ow_L a from ⟨by have := ha.1; omega, by have := ha.2; omega⟩) (ow_rs hs)))
theorem ow_L2i {a : Int} (hd : decode y.2.1 pc = .ok (.l2i, 1)) (hr1 : ow_I a) (hp : pc + 1 = pc') (k : ow_At C E d y pc' lv ((0, a) :: st) b M K) : ow_At C E d y pc lv ((1, a) :: st) b M K := by
  subst hp
  intro p e s m args below meth c H locs ls cells slots cx hr hS hl hv hs
  exact lv_l2i cx.1 cx.2.1 hd (ow_l2i (ow_r1 hs) hr1) (k p e s m args below meth c H locs ls cells slots cx hr hS hl hv (ow_rc (v := (0, a)) hr1 (ow_rs hs)))
theorem ow_Lcmp {a c9 : Int} (hd : decode y.2.1 pc = .ok (.lcmp, 1)) (hp : pc + 1 = pc') (k : ow_At C E d y pc' lv ((0, ow_lcmp a c9) :: st) b M K) : ow_At C E d y pc lv ((1, c9) :: (1, a) :: st) b M K := by
  subst hp
  intro p e s m args below meth c H locs ls cells slots cx hr hS hl hv hs
  refine W.lcmp cx.1 cx.2.1 hd ?_
  rw [ow_cmp_l (ow_r1 (ow_rs hs)) (ow_r1 hs)]
  exact k p e s m args below meth c H locs ls cells slots cx hr hS hl hv (ow_rc (v := (0, ow_lcmp a c9)) (ow_lcmp_I a c9) (ow_rs (ow_rs hs)))
theorem ow_dup {v : ow_V} (hd : decode y.2.1 pc = .ok (.dup, 1)) (hc : Nat.beq v.1 1 = false) (hp : pc + 1 = pc') (k : ow_At C E d y pc' lv (v :: v :: st) b M K) : ow_At C E d y pc lv (v :: st) b M K := by
  subst hp
  intro p e s m args below meth c H locs ls cells slots cx hr hS hl hv hs
  exact lv_dup cx.1 cx.2.1 hd (by rw [ow_cat, if_neg (Nat.ne_of_beq_eq_false hc)]) (k p e s m args below meth c H locs ls cells slots cx hr hS hl hv (ow_rc (ow_r1 hs) hs))
theorem ow_dup2 {v v2 : ow_V} (hd : decode y.2.1 pc = .ok (.dup2, 1)) (hc : Nat.beq v.1 1 = false) (hc2 : Nat.beq v2.1 1 = false) (hp : pc + 1 = pc') (k : ow_At C E d y pc' lv (v :: v2 :: v :: v2 :: st) b M K) : ow_At C E d y pc lv (v :: v2 :: st) b M K := by
  subst hp
  intro p e s m args below meth c H locs ls cells slots cx hr hS hl hv hs
  exact lv_dup2_11 cx.1 cx.2.1 hd (by rw [ow_cat, if_neg (Nat.ne_of_beq_eq_false hc)]) (by rw [ow_cat, if_neg (Nat.ne_of_beq_eq_false hc2)]) (k p e s m args below meth c H locs ls cells slots cx hr hS hl hv (ow_rc (ow_r1 hs) (ow_rc (ow_r1 (ow_rs hs)) hs)))
theorem ow_icmpeq {a c9 : Int} {off : Int} (hd : decode y.2.1 pc = .ok (.if_icmp .eq off, 3)) (ht : (pc : Int) + off = (tg : Int)) (hp : pc + 3 = pc') (kt : a = c9 → ow_At C E d y tg lv st b M K) (kf : a ≠ c9 → ow_At C E d y pc' lv st b M K) : ow_At C E d y pc lv ((0, c9) :: (0, a) :: st) b M K := by
  subst hp
  intro p e s m args below meth c H locs ls cells slots cx hr hS hl hv hs
  have ha : ow_I a := ow_r1 (ow_rs hs)
  have hc : ow_I c9 := ow_r1 hs
  have hq : ((Int32.ofInt a) = (Int32.ofInt c9)) ↔ (a = c9) := ow_ieq ha hc
  exact lv_icmp_eq cx.1 cx.2.1 hd ht (fun z => kt (hq.mp z) p e s m args below meth c H locs ls cells slots cx hr hS hl hv (ow_rs (ow_rs hs))) (fun z => kf (fun z2 => z (hq.mpr z2)) p e s m args below meth c H locs ls cells slots cx hr hS hl hv (ow_rs (ow_rs hs)))
theorem ow_ifeq {a : Int} {off : Int} (hd : decode y.2.1 pc = .ok (.ifCond .eq off, 3)) (ht : (pc : Int) + off = (tg : Int)) (hp : pc + 3 = pc') (kt : a = 0 → ow_At C E d y tg lv st b M K) (kf : a ≠ 0 → ow_At C E d y pc' lv st b M K) : ow_At C E d y pc lv ((0, a) :: st) b M K := by
  subst hp
  intro p e s m args below meth c H locs ls cells slots cx hr hS hl hv hs
  have ha : ow_I a := ow_r1 hs
  have hz := ow_z0
  have hq : ((Int32.ofInt a) = (Int32.ofInt 0)) ↔ (a = 0) := ow_ieq ha ow_i0
  exact lv_if_eq cx.1 cx.2.1 hd ht (fun z => kt (hq.mp z) p e s m args below meth c H locs ls cells slots cx hr hS hl hv (ow_rs hs)) (fun z => kf (fun z2 => z (hq.mpr z2)) p e s m args below meth c H locs ls cells slots cx hr hS hl hv (ow_rs hs))
theorem ow_icmpne {a c9 : Int} {off : Int} (hd : decode y.2.1 pc = .ok (.if_icmp .ne off, 3)) (ht : (pc : Int) + off = (tg : Int)) (hp : pc + 3 = pc') (kt : a ≠ c9 → ow_At C E d y tg lv st b M K) (kf : a = c9 → ow_At C E d y pc' lv st b M K) : ow_At C E d y pc lv ((0, c9) :: (0, a) :: st) b M K := by
  subst hp
  intro p e s m args below meth c H locs ls cells slots cx hr hS hl hv hs
  have ha : ow_I a := ow_r1 (ow_rs hs)
  have hc : ow_I c9 := ow_r1 hs
  have hq : (¬ (Int32.ofInt a) = (Int32.ofInt c9)) ↔ (a ≠ c9) := not_congr (ow_ieq ha hc)
  exact lv_icmp_ne cx.1 cx.2.1 hd ht (fun z => kt (hq.mp z) p e s m args below meth c H locs ls cells slots cx hr hS hl hv (ow_rs (ow_rs hs))) (fun z => kf ((ow_ieq ha hc).mp z) p e s m args below meth c H locs ls cells slots cx hr hS hl hv (ow_rs (ow_rs hs)))
theorem ow_ifne {a : Int} {off : Int} (hd : decode y.2.1 pc = .ok (.ifCond .ne off, 3)) (ht : (pc : Int) + off = (tg : Int)) (hp : pc + 3 = pc') (kt : a ≠ 0 → ow_At C E d y tg lv st b M K) (kf : a = 0 → ow_At C E d y pc' lv st b M K) : ow_At C E d y pc lv ((0, a) :: st) b M K := by
  subst hp
  intro p e s m args below meth c H locs ls cells slots cx hr hS hl hv hs
  have ha : ow_I a := ow_r1 hs
  have hz := ow_z0
  have hq : (¬ (Int32.ofInt a) = (Int32.ofInt 0)) ↔ (a ≠ 0) := not_congr (ow_ieq ha ow_i0)
  exact lv_if_ne cx.1 cx.2.1 hd ht (fun z => kt (hq.mp z) p e s m args below meth c H locs ls cells slots cx hr hS hl hv (ow_rs hs)) (fun z => kf ((ow_ieq ha ow_i0).mp z) p e s m args below meth c H locs ls cells slots cx hr hS hl hv (ow_rs hs))
theorem ow_icmplt {a c9 : Int} {off : Int} (hd : decode y.2.1 pc = .ok (.if_icmp .lt off, 3)) (ht : (pc : Int) + off = (tg : Int)) (hp : pc + 3 = pc') (kt : a < c9 → ow_At C E d y tg lv st b M K) (kf : c9 ≤ a → ow_At C E d y pc' lv st b M K) : ow_At C E d y pc lv ((0, c9) :: (0, a) :: st) b M K := by
  subst hp
  intro p e s m args below meth c H locs ls cells slots cx hr hS hl hv hs
  have ha : ow_I a := ow_r1 (ow_rs hs)
  have hc : ow_I c9 := ow_r1 hs
  have hq : ((Int32.ofInt a) < (Int32.ofInt c9)) ↔ (a < c9) := ow_ilt ha hc
  exact lv_icmp_lt cx.1 cx.2.1 hd ht (fun z => kt (hq.mp z) p e s m args below meth c H locs ls cells slots cx hr hS hl hv (ow_rs (ow_rs hs))) (fun z => kf (Int.not_lt.mp (fun z2 => z (hq.mpr z2))) p e s m args below meth c H locs ls cells slots cx hr hS hl hv (ow_rs (ow_rs hs)))
theorem ow_iflt {a : Int} {off : Int} (hd : decode y.2.1 pc = .ok (.ifCond .lt off, 3)) (ht : (pc : Int) + off = (tg : Int)) (hp : pc + 3 = pc') (kt : a < 0 → ow_At C E d y tg lv st b M K) (kf : 0 ≤ a → ow_At C E d y pc' lv st b M K) : ow_At C E d y pc lv ((0, a) :: st) b M K := by
  subst hp
  intro p e s m args below meth c H locs ls cells slots cx hr hS hl hv hs
  have ha : ow_I a := ow_r1 hs
  have hz := ow_z0
  have hq : ((Int32.ofInt a) < (Int32.ofInt 0)) ↔ (a < 0) := ow_ilt ha ow_i0
  exact lv_if_lt cx.1 cx.2.1 hd ht (fun z => kt (hq.mp z) p e s m args below meth c H locs ls cells slots cx hr hS hl hv (ow_rs hs)) (fun z => kf (Int.not_lt.mp (fun z2 => z (hq.mpr z2))) p e s m args below meth c H locs ls cells slots cx hr hS hl hv (ow_rs hs))
theorem ow_icmpge {a c9 : Int} {off : Int} (hd : decode y.2.1 pc = .ok (.if_icmp .ge off, 3)) (ht : (pc : Int) + off = (tg : Int)) (hp : pc + 3 = pc') (kt : c9 ≤ a → ow_At C E d y tg lv st b M K) (kf : a < c9 → ow_At C E d y pc' lv st b M K) : ow_At C E d y pc lv ((0, c9) :: (0, a) :: st) b M K := by
  subst hp
  intro p e s m args below meth c H locs ls cells slots cx hr hS hl hv hs
  have ha : ow_I a := ow_r1 (ow_rs hs)
  have hc : ow_I c9 := ow_r1 hs
  have hq : ((Int32.ofInt c9) ≤ (Int32.ofInt a)) ↔ (c9 ≤ a) := ow_ile hc ha
  exact lv_icmp_ge cx.1 cx.2.1 hd ht (fun z => kt (hq.mp z) p e s m args below meth c H locs ls cells slots cx hr hS hl hv (ow_rs (ow_rs hs))) (fun z => kf (Int.not_le.mp (fun z2 => z (hq.mpr z2))) p e s m args below meth c H locs ls cells slots cx hr hS hl hv (ow_rs (ow_rs hs)))
theorem ow_ifge {a : Int} {off : Int} (hd : decode y.2.1 pc = .ok (.ifCond .ge off, 3)) (ht : (pc : Int) + off = (tg : Int)) (hp : pc + 3 = pc') (kt : 0 ≤ a → ow_At C E d y tg lv st b M K) (kf : a < 0 → ow_At C E d y pc' lv st b M K) : ow_At C E d y pc lv ((0, a) :: st) b M K := by
  subst hp
  intro p e s m args below meth c H locs ls cells slots cx hr hS hl hv hs
  have ha : ow_I a := ow_r1 hs
  have hz := ow_z0
  have hq : ((Int32.ofInt 0) ≤ (Int32.ofInt a)) ↔ (0 ≤ a) := ow_ile ow_i0 ha
  exact lv_if_ge cx.1 cx.2.1 hd ht (fun z => kt (hq.mp z) p e s m args below meth c H locs ls cells slots cx hr hS hl hv (ow_rs hs)) (fun z => kf (Int.not_le.mp (fun z2 => z (hq.mpr z2))) p e s m args below meth c H locs ls cells slots cx hr hS hl hv (ow_rs hs))
theorem ow_icmpgt {a c9 : Int} {off : Int} (hd : decode y.2.1 pc = .ok (.if_icmp .gt off, 3)) (ht : (pc : Int) + off = (tg : Int)) (hp : pc + 3 = pc') (kt : c9 < a → ow_At C E d y tg lv st b M K) (kf : a ≤ c9 → ow_At C E d y pc' lv st b M K) : ow_At C E d y pc lv ((0, c9) :: (0, a) :: st) b M K := by
  subst hp
  intro p e s m args below meth c H locs ls cells slots cx hr hS hl hv hs
  have ha : ow_I a := ow_r1 (ow_rs hs)
  have hc : ow_I c9 := ow_r1 hs
  have hq : ((Int32.ofInt c9) < (Int32.ofInt a)) ↔ (c9 < a) := ow_ilt hc ha
  exact lv_icmp_gt cx.1 cx.2.1 hd ht (fun z => kt (hq.mp z) p e s m args below meth c H locs ls cells slots cx hr hS hl hv (ow_rs (ow_rs hs))) (fun z => kf (Int.not_lt.mp (fun z2 => z (hq.mpr z2))) p e s m args below meth c H locs ls cells slots cx hr hS hl hv (ow_rs (ow_rs hs)))
theorem ow_ifgt {a : Int} {off : Int} (hd : decode y.2.1 pc = .ok (.ifCond .gt off, 3)) (ht : (pc : Int) + off = (tg : Int)) (hp : pc + 3 = pc') (kt : 0 < a → ow_At C E d y tg lv st b M K) (kf : a ≤ 0 → ow_At C E d y pc' lv st b M K) : ow_At C E d y pc lv ((0, a) :: st) b M K := by
  subst hp
  intro p e s m args below meth c H locs ls cells slots cx hr hS hl hv hs
  have ha : ow_I a := ow_r1 hs
  have hz := ow_z0
  have hq : ((Int32.ofInt 0) < (Int32.ofInt a)) ↔ (0 < a) := ow_ilt ow_i0 ha
  exact lv_if_gt cx.1 cx.2.1 hd ht (fun z => kt (hq.mp z) p e s m args below meth c H locs ls cells slots cx hr hS hl hv (ow_rs hs)) (fun z => kf (Int.not_lt.mp (fun z2 => z (hq.mpr z2))) p e s m args below meth c H locs ls cells slots cx hr hS hl hv (ow_rs hs))
theorem ow_icmple {a c9 : Int} {off : Int} (hd : decode y.2.1 pc = .ok (.if_icmp .le off, 3)) (ht : (pc : Int) + off = (tg : Int)) (hp : pc + 3 = pc') (kt : a ≤ c9 → ow_At C E d y tg lv st b M K) (kf : c9 < a → ow_At C E d y pc' lv st b M K) : ow_At C E d y pc lv ((0, c9) :: (0, a) :: st) b M K := by
  subst hp
  intro p e s m args below meth c H locs ls cells slots cx hr hS hl hv hs
  have ha : ow_I a := ow_r1 (ow_rs hs)
  have hc : ow_I c9 := ow_r1 hs
  have hq : ((Int32.ofInt a) ≤ (Int32.ofInt c9)) ↔ (a ≤ c9) := ow_ile ha hc
  exact lv_icmp_le cx.1 cx.2.1 hd ht (fun z => kt (hq.mp z) p e s m args below meth c H locs ls cells slots cx hr hS hl hv (ow_rs (ow_rs hs))) (fun z => kf (Int.not_le.mp (fun z2 => z (hq.mpr z2))) p e s m args below meth c H locs ls cells slots cx hr hS hl hv (ow_rs (ow_rs hs)))
theorem ow_ifle {a : Int} {off : Int} (hd : decode y.2.1 pc = .ok (.ifCond .le off, 3)) (ht : (pc : Int) + off = (tg : Int)) (hp : pc + 3 = pc') (kt : a ≤ 0 → ow_At C E d y tg lv st b M K) (kf : 0 < a → ow_At C E d y pc' lv st b M K) : ow_At C E d y pc lv ((0, a) :: st) b M K := by
  subst hp
  intro p e s m args below meth c H locs ls cells slots cx hr hS hl hv hs
  have ha : ow_I a := ow_r1 hs
  have hz := ow_z0
  have hq : ((Int32.ofInt a) ≤ (Int32.ofInt 0)) ↔ (a ≤ 0) := ow_ile ha ow_i0
  exact lv_if_le cx.1 cx.2.1 hd ht (fun z => kt (hq.mp z) p e s m args below meth c H locs ls cells slots cx hr hS hl hv (ow_rs hs)) (fun z => kf (Int.not_le.mp (fun z2 => z (hq.mpr z2))) p e s m args below meth c H locs ls cells slots cx hr hS hl hv (ow_rs hs))
theorem ow_goto {off : Int} (hd : decode y.2.1 pc = .ok (.goto off, 3)) (ht : (pc : Int) + off = (tg : Int)) (k : ow_At C E d y tg lv st b M K) : ow_At C E d y pc lv st b M K := by
  intro p e s m args below meth c H locs ls cells slots cx hr hS hl hv hs
  exact lv_goto cx.1 cx.2.1 hd ht (k p e s m args below meth c H locs ls cells slots cx hr hS hl hv hs)
theorem ow_ifnull {x : Int} {off : Int} (hd : decode y.2.1 pc = .ok (.ifnull off, 3)) (ht : (pc : Int) + off = (tg : Int)) (hp : pc + 3 = pc') (kt : x < 0 → ow_At C E d y tg lv st b M K) (kf : 0 ≤ x → ow_At C E d y pc' lv st b M K) : ow_At C E d y pc lv ((3, x) :: st) b M K := by
  subst hp
  intro p e s m args below meth c H locs ls cells slots cx hr hS hl hv hs
  by_cases hx : x < 0
  · have e1 : ow_cv C (3, x) = .null := by show va_rf (ow_rf C x) = _; rw [ow_rf, if_pos hx]; rfl
    rw [List.map_cons, e1]
    exact lv_ifnullN cx.1 cx.2.1 hd ht (kt (by omega) p e s m args below meth c H locs ls cells slots cx hr hS hl hv (ow_rs hs))
  · have e0 : ∃ a, ow_rf C x = some a := by
      unfold ow_rf
      rw [if_neg hx]
      split
      · exact ⟨_, rfl⟩
      · split
        · exact ⟨_, rfl⟩
        · split
          · exact ⟨_, rfl⟩
          · split <;> exact ⟨_, rfl⟩
    obtain ⟨a, e0⟩ := e0
    have e1 : ow_cv C (3, x) = .ref a := by show va_rf (ow_rf C x) = _; rw [e0]; rfl
    rw [List.map_cons, e1]
    exact lv_ifnull cx.1 cx.2.1 hd (kf (by omega) p e s m args below meth c H locs ls cells slots cx hr hS hl hv (ow_rs hs))
theorem ow_ifnonnull {x : Int} {off : Int} (hd : decode y.2.1 pc = .ok (.ifnonnull off, 3)) (ht : (pc : Int) + off = (tg : Int)) (hp : pc + 3 = pc') (kt : 0 ≤ x → ow_At C E d y tg lv st b M K) (kf : x < 0 → ow_At C E d y pc' lv st b M K) : ow_At C E d y pc lv ((3, x) :: st) b M K := by
  subst hp
  intro p e s m args below meth c H locs ls cells slots cx hr hS hl hv hs
  by_cases hx : x < 0
  · have e1 : ow_cv C (3, x) = .null := by show va_rf (ow_rf C x) = _; rw [ow_rf, if_pos hx]; rfl
    rw [List.map_cons, e1]
    exact lv_ifnonnullN cx.1 cx.2.1 hd (kf (by omega) p e s m args below meth c H locs ls cells slots cx hr hS hl hv (ow_rs hs))
  · have e0 : ∃ a, ow_rf C x = some a := by
      unfold ow_rf
      rw [if_neg hx]
      split
      · exact ⟨_, rfl⟩
      · split
        · exact ⟨_, rfl⟩
        · split
          · exact ⟨_, rfl⟩
          · split <;> exact ⟨_, rfl⟩
    obtain ⟨a, e0⟩ := e0
    have e1 : ow_cv C (3, x) = .ref a := by show va_rf (ow_rf C x) = _; rw [e0]; rfl
    rw [List.map_cons, e1]
    exact lv_ifnonnull cx.1 cx.2.1 hd ht (kt (by omega) p e s m args below meth c H locs ls cells slots cx hr hS hl hv (ow_rs hs))
end OWR
