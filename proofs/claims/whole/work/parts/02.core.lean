/-! ===== the plain machine: cells by number, values as whole numbers ===== -/
abbrev vwCl : List vw_C := [(RX0, TX0, 5), (RX1, TX1, 5), (RX2, TX2, 5), (RX3, TX3, 3), (RX4, TX4, 5), (RX5, TX5, 6), (RX6, TX6, 6), (RX7, TX7, 15), (RX8, TX8, 8), (RX9, TX9, 7), (RX10, TX10, 5), (RX11, TX11, 19), (RX12, TX12, 40)]
def ow_ty (k : Nat) : Nat → FieldType := match k with
  | 0 => tyX0 | 1 => tyX1 | 2 => tyX2 | 3 => tyX3 | 4 => tyX4 | 5 => tyX5 | 6 => tyX6 | 7 => tyX7 | 8 => tyX8 | 9 => tyX9 | 10 => tyX10 | 11 => tyX11 | _ => tyX12
abbrev ow_M : Type := Int → Int → Int
abbrev ow_V : Type := Nat × Int
/-- what stays: fields that are known, the cells' kinds and sizes, how many cells there are -/
abbrev ow_E : Type := (Int → Int → Option Int) × (Int → Nat × Int) × Option Int
abbrev ow_Y : Type := MethodName × ByteArray × Nat × Option FieldType
/-- the launch, where the cells begin, the classes, the arrays' classes, the script (address, length, ints), the texts and their bytes -/
abbrev ow_C : Type := Launch × Nat × va_G × (Nat → ClassId) × (Nat × Nat × (Nat → Int32)) × (Nat → Nat) × (Nat → Nat) × Option Nat
def ow_I (x : Int) : Prop := -2147483648 ≤ x ∧ x ≤ 2147483647
def ow_L (x : Int) : Prop := -9223372036854775808 ≤ x ∧ x ≤ 9223372036854775807
def ow_rf (C : ow_C) (x : Int) : Option Nat := if x < 0 then none else if x < 900 then some (C.2.1 + x.toNat) else if x = 999 then some C.2.2.2.2.1.1 else if x = 998 then some (C.2.2.2.2.2.2.2.getD 0) else if x < 1900 then some (C.2.2.2.2.2.1 (x - 1000).toNat) else some (C.2.2.2.2.2.2.1 (x - 2000).toNat)
/-- tags: 0 an int, 1 a long, 2 a truth, 3 a cell -/
def ow_cv (C : ow_C) (v : ow_V) : Value := match v.1 with
  | 0 => .int (Int32.ofInt v.2)
  | 1 => .long (Int64.ofInt v.2)
  | 2 => .int (Int32.ofInt v.2)
  | _ => va_rf (ow_rf C v.2)
def ow_rg (v : ow_V) : Prop := match v.1 with
  | 0 => ow_I v.2
  | 1 => ow_L v.2
  | 2 => v.2 = 0 ∨ v.2 = 1
  | _ => True
def ow_tt (t : FieldType) : Nat := match t with
  | .long => 1 | .boolean => 2 | .object _ => 3 | .array _ => 3 | _ => 0
def ow_gv (E : ow_E) (M : ow_M) (c i : Int) : Int := match E.1 c i with
  | some v => v
  | none => M c i
def ow_up (M : ow_M) (c i v : Int) : ow_M := fun c' i' => if c' = c ∧ i' = i then v else M c' i'
def ow_nb (E : ow_E) (M : ow_M) : Int := match E.2.2 with
  | some n => n
  | none => M (-1) 0
/-- the tag of what a cell of a kind holds at a place -/
def ow_tg (k j : Nat) : Nat := match k with
  | 100 => 0 | 101 => 1 | 102 => 2 | 103 => 3 | 104 => 3 | k => ow_tt (ow_ty k j)
def ow_cell (C : ow_C) (E : ow_E) (M : ow_M) (c : Int) : va_E := match (E.2.1 c).1 with
  | 100 => .inl (C.2.2.2.1 0, (E.2.1 c).2.toNat, .inl (fun j => Int32.ofInt (ow_gv E M c j)))
  | 101 => .inl (C.2.2.2.1 1, (E.2.1 c).2.toNat, .inr (.inl (fun j => Int64.ofInt (ow_gv E M c j))))
  | 102 => .inl (C.2.2.2.1 2, (E.2.1 c).2.toNat, .inl (fun j => Int32.ofInt (ow_gv E M c j)))
  | 103 => .inl (C.2.2.2.1 3, (E.2.1 c).2.toNat, .inr (.inr (.inr (.inr (fun j => ow_rf C (ow_gv E M c j))))))
  | 104 => .inl (C.2.2.2.1 4, (E.2.1 c).2.toNat, .inr (.inr (.inr (.inr (fun j => ow_rf C (ow_gv E M c j))))))
  | k => .inr (k, (List.range (E.2.1 c).2.toNat).map (fun j => ow_cv C (ow_tg k j, ow_gv E M c j)))
def ow_ws (C : ow_C) (E : ow_E) (M : ow_M) : va_W := (List.range (ow_nb E M).toNat).map (fun (i : Nat) => (C.2.1 + i, ow_cell C E M i))
def ow_tys (C : ow_C) : List (ClassId × FieldType) := [(C.2.2.2.1 0, .int), (C.2.2.2.1 1, .long), (C.2.2.2.1 2, .boolean), (C.2.2.2.1 3, .object "OneLetterWrong$Text"), (C.2.2.2.1 4, .array .int)]
def ow_A (C : ow_C) : Nat → Prop := fun q => C.2.1 ≤ q
def ow_ok (E : ow_E) (M : ow_M) : Prop := ∀ c : Int, 0 ≤ c → c < ow_nb E M → ∀ i : Int, 0 ≤ i → i < (E.2.1 c).2 → ow_rg (ow_tg (E.2.1 c).1 i.toNat, ow_gv E M c i)
def ow_rep (C : ow_C) (E : ow_E) (M : ow_M) (H : Heap) : Prop := 0 ≤ ow_nb E M ∧ ow_nb E M ≤ 800 ∧ (E.2.2 = none → H.size = C.2.1 + (ow_nb E M).toNat) ∧ va_P C.2.2.1 vwCl (ow_ws C E M) H ∧ ow_ok E M
def ow_gt : List Cond := lw_tbl.filter goodWord
def ow_nst (w : Cond) : Bool := match w with
  | .fieldLinkNest .. => true
  | .methodLinkNest .. => true
  | _ => false
def ow_nt : List Cond := tables_1.filter ow_nst
def ow_sx : List (Nat × String) := [(101, "place"), (103, "from"), (105, "into"), (107, "hand"), (109, "last"), (111, "far"), (113, "may"), (115, "weight"), (117, "book"), (119, "road"), (121, "to"), (123, "or"), (125, "and"), (127, "not"), (129, ""), (82, "<>=#+-*/();")]
def ow_sl : List Nat := [5, 4, 4, 4, 4, 3, 3, 6, 4, 4, 2, 2, 3, 3, 0, 11]
def ow_sb : List (List Int32) := [[112, 108, 97, 99, 101], [102, 114, 111, 109], [105, 110, 116, 111], [104, 97, 110, 100], [108, 97, 115, 116], [102, 97, 114], [109, 97, 121], [119, 101, 105, 103, 104, 116], [98, 111, 111, 107], [114, 111, 97, 100], [116, 111], [111, 114], [97, 110, 100], [110, 111, 116], [], [60, 62, 61, 35, 43, 45, 42, 47, 40, 41, 59]]
/-- arrays over arrays, as the kit has it of arrays over objects -/
def va_AOA (t : FieldType) (U : State) : Prop := (Cond.arrayOver (.array t)).before #[] U = true
theorem va_AOA.moved {t : FieldType} {u U : State} (hvm : u.vm.Alike U.vm) (h : va_AOA t u) : va_AOA t U := over_moved (a := #[]) (a' := #[]) hvm h
theorem va_AOA.use {t : FieldType} {A : Array Value} {U : State} (h : va_AOA t U) : (Cond.arrayOver (.array t)).before A U = true := h
/-- what lies below the cells, and words that the kit carries apart -/
def ow_X (C : ow_C) (U : State) : Prop :=
  (∀ w ∈ ow_nt, va_Nw w U) ∧ va_AO "OneLetterWrong$Text" U ∧ va_AOA .int U ∧ C.2.2.2.2.1.1 < C.2.1 ∧ va_X C.2.2.2.2.1.1 C.2.2.2.2.1.2.1 C.2.2.2.2.1.2.2 U U.heap ∧ vk_S 16 ow_sl ow_sb C.2.2.2.2.2.1 C.2.2.2.2.2.2.1 (ow_A C) U U.heap ∧ (∀ (k : Nat) (q : Nat × String), ow_sx[k]? = some q → vk_R "OneLetterWrong$Tokens" q.1 q.2 (C.2.2.2.2.2.1 k) U) ∧ va_Z "java/lang/String" "COMPACT_STRINGS" "Z" (.int 1) (ow_A C) U U.heap ∧ va_Z "jdk/internal/util/Preconditions" "SIOOBE_FORMATTER" "Ljava/util/function/BiFunction;" (va_rf C.2.2.2.2.2.2.2) (ow_A C) U U.heap
theorem ow_nt_warm {s U : State} (hW : s.WarmedH U.vm) {w : Cond} (hw : w ∈ ow_nt) (h : va_Nw w s) : va_Nw w U := by
  have h1 : ow_nst w = true := (List.mem_filter.mp hw).2
  cases w <;> first | exact va_Nw.warmF hW h | exact va_Nw.warmM hW h | cases h1
theorem ow_X.moved {C : ow_C} {s U : State} (hW : s.WarmedH U.vm) (hb : C.2.1 ≤ s.heap.size) (hq : ∀ q : Nat, q < s.heap.size → ¬ ow_A C q → U.heap[q]? = s.heap[q]?) (h : ow_X C s) : ow_X C U := by
  obtain ⟨h1, h2, h3, h4, h5, h6, h7, h8, h9⟩ := h
  have hv := hW.alike
  refine ⟨fun w hw => ow_nt_warm hW hw (h1 w hw), va_AO.moved hv h2, va_AOA.moved hv h3, h4, ?_, ?_, fun k q hk => vk_R.warm hW (h7 k q hk), ?_, ?_⟩
  · exact va_X.moved hv (h5.kept (hq _ (Nat.lt_of_lt_of_le h4 hb) (fun z => Nat.lt_irrefl _ (Nat.lt_of_lt_of_le h4 z))))
  · exact vk_S.moved hv (h6.kept hq)
  · exact va_Z.moved hv (h8.kept hq)
  · exact va_Z.moved hv (h9.kept hq)
theorem ow_X.frames {C : ow_C} {s U : State} (hv : s.vm = U.vm) (hh : s.heap = U.heap) (h : ow_X C s) : ow_X C U := by
  obtain ⟨h1, h2, h3, h4, h5, h6, h7, h8, h9⟩ := h
  have ha : s.vm.Alike U.vm := by rw [hv]; exact Vm.Alike.refl _
  refine ⟨fun w hw => ?_, va_AO.moved ha h2, va_AOA.moved ha h3, h4, ?_, ?_, fun k q hk => vk_R.same hv.symm (h7 k q hk), ?_, ?_⟩
  · have hw9 : ow_nst w = true := (List.mem_filter.mp hw).2
    have h0 := h1 w hw
    cases w <;> first | exact va_Nw.same rfl hv h0 | cases hw9
  · rw [← hh]; exact va_X.moved ha h5
  · rw [← hh]; exact vk_S.moved ha h6
  · rw [← hh]; exact va_Z.moved ha h8
  · rw [← hh]; exact va_Z.moved ha h9
/-! cells and their list -/
theorem ow_ws_at {C : ow_C} {E : ow_E} {M : ow_M} {c : Int} (h0 : 0 ≤ c) (h1 : c < ow_nb E M) : (ow_ws C E M)[c.toNat]? = some (C.2.1 + c.toNat, ow_cell C E M c) := by
  have h2 : c.toNat < (ow_nb E M).toNat := by omega
  have h3 : ((c.toNat : Nat) : Int) = c := by omega
  simp [ow_ws, h2, h3]
theorem ow_ws_len (C : ow_C) (E : ow_E) (M : ow_M) : (ow_ws C E M).length = (ow_nb E M).toNat := by simp [ow_ws]
theorem ow_ws_inv {C : ow_C} {E : ow_E} {M : ow_M} {k : Nat} {q : Nat × va_E} (h : (ow_ws C E M)[k]? = some q) : k < (ow_nb E M).toNat ∧ q = (C.2.1 + k, ow_cell C E M k) := by
  have hl : k < (ow_ws C E M).length := (List.getElem?_eq_some_iff.mp h).1
  rw [ow_ws_len] at hl
  have h1 := ow_ws_at (C := C) (E := E) (M := M) (c := (k : Int)) (by omega) (by omega)
  simp only [Int.toNat_natCast] at h1
  rw [h1] at h
  cases h
  exact ⟨hl, rfl⟩
theorem ow_D (C : ow_C) (E : ow_E) (M : ow_M) : va_D (ow_A C) (ow_ws C E M) := by
  refine ⟨fun i j p q hi hj e => ?_, fun k q hk => ?_⟩
  · obtain ⟨-, rfl⟩ := ow_ws_inv hi
    obtain ⟨-, rfl⟩ := ow_ws_inv hj
    have : C.2.1 + i = C.2.1 + j := e
    omega
  · obtain ⟨-, rfl⟩ := ow_ws_inv hk
    exact Nat.le_add_right _ _
theorem ow_nb_up {E : ow_E} {M : ow_M} {c i v : Int} (h0 : 0 ≤ c) : ow_nb E (ow_up M c i v) = ow_nb E M := by
  unfold ow_nb
  cases E.2.2 with
  | some n => rfl
  | none => exact if_neg (fun h => by have := h.1; omega)
theorem ow_gv_ne {E : ow_E} {M : ow_M} {c i v c' i' : Int} (h : ¬ (c' = c ∧ i' = i)) : ow_gv E (ow_up M c i v) c' i' = ow_gv E M c' i' := by
  unfold ow_gv
  cases E.1 c' i' with
  | some n => rfl
  | none => exact if_neg h
theorem ow_gv_self {E : ow_E} {M : ow_M} {c i v : Int} (h : E.1 c i = none) : ow_gv E (ow_up M c i v) c i = v := by
  unfold ow_gv
  rw [h]
  exact if_pos ⟨rfl, rfl⟩
theorem ow_cell_ne {C : ow_C} {E : ow_E} {M : ow_M} {c i v c' : Int} (h : c' ≠ c) : ow_cell C E (ow_up M c i v) c' = ow_cell C E M c' := by
  have hg : ∀ j : Int, ow_gv E (ow_up M c i v) c' j = ow_gv E M c' j := fun j => ow_gv_ne (fun q => h q.1)
  unfold ow_cell
  simp only [hg]
theorem ow_ws_set {C : ow_C} {E : ow_E} {M : ow_M} {c i v : Int} (h0 : 0 ≤ c) (h1 : c < ow_nb E M) : (ow_ws C E M).set c.toNat (C.2.1 + c.toNat, ow_cell C E (ow_up M c i v) c) = ow_ws C E (ow_up M c i v) := by
  apply List.ext_getElem?
  intro k
  have hn : ow_nb E (ow_up M c i v) = ow_nb E M := ow_nb_up h0
  by_cases hk : k < (ow_nb E M).toNat
  · have e1 := ow_ws_at (C := C) (E := E) (M := ow_up M c i v) (c := (k : Int)) (by omega) (by omega)
    have e2 := ow_ws_at (C := C) (E := E) (M := M) (c := (k : Int)) (by omega) (by omega)
    simp only [Int.toNat_natCast] at e1 e2
    rw [e1]
    by_cases hc : k = c.toNat
    · subst hc
      rw [List.getElem?_set_self (by rw [ow_ws_len]; exact hk)]
      have h3 : ((c.toNat : Nat) : Int) = c := by omega
      rw [h3]
    · rw [List.getElem?_set_ne (Ne.symm hc), e2, ow_cell_ne (by omega)]
  · rw [List.getElem?_eq_none (by rw [List.length_set, ow_ws_len]; omega), List.getElem?_eq_none (by rw [ow_ws_len, hn]; omega)]
theorem ow_ok_up {E : ow_E} {M : ow_M} {c i v : Int} (h0 : 0 ≤ c) (h : ow_ok E M) (hv : ow_rg (ow_tg (E.2.1 c).1 i.toNat, v)) : ow_ok E (ow_up M c i v) := by
  intro c' g0 g1 i' q0 q1
  rw [ow_nb_up h0] at g1
  by_cases e : c' = c ∧ i' = i
  · obtain ⟨rfl, rfl⟩ := e
    cases hE : E.1 c' i' with
    | none => rw [ow_gv_self hE]; exact hv
    | some w =>
      have h9 := h c' g0 g1 i' q0 q1
      have e9 : ow_gv E (ow_up M c' i' v) c' i' = ow_gv E M c' i' := by unfold ow_gv; rw [hE]
      rw [e9]; exact h9
  · rw [ow_gv_ne e]; exact h c' g0 g1 i' q0 q1
