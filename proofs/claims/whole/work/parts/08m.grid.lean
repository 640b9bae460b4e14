/-! ===== new int[N][K]: the machine's own step, out of the laws of single arrays ===== -/
/-- the outer array when i of its rows stand -/
def na_o (cA : ClassId) (N h i : Nat) : Cell := arrV cA N (fun j => va_rf (if j < i then some (h + 1 + j) else none))
def na_r (cI : ClassId) (K : Nat) : Cell := arrV cI K (fun _ => .int 0)
/-- the state when i rows stand -/
def na_st (T : State) (cA cI : ClassId) (N K : Nat) : Nat → State
  | 0 => T.pushCell (na_o cA N T.heap.size 0)
  | i + 1 => ((na_st T cA cI N K i).pushCell (na_r cI K)).setCell T.heap.size (na_o cA N T.heap.size (i + 1))
theorem na_o_new (cA : ClassId) (N h : Nat) : ({ cls := cA, slots := Array.replicate N .null, vm := .none } : Cell) = na_o cA N h 0 := by
  rw [arrV_new]
  refine congrArg (arrV cA N) (funext fun j => ?_)
  simp [va_rf]
theorem na_o_next (cA : ClassId) (N h i : Nat) : (na_o cA N h i).setSlot i (.ref (h + 1 + i)) = na_o cA N h (i + 1) := by
  unfold na_o
  rw [arrV_store]
  refine congrArg (arrV cA N) (funext fun j => ?_)
  rcases Nat.lt_trichotomy j i with h1 | h1 | h1
  · simp [updV, va_rf, h1, Nat.ne_of_lt h1, Nat.lt_succ_of_lt h1]
  · subst h1; simp [updV, va_rf]
  · simp [updV, va_rf, Nat.ne_of_gt h1, Nat.not_lt.mpr (Nat.le_of_lt h1), show ¬ j < i + 1 by omega]
section NA
variable {T : State} {cA cI : ClassId} {N K : Nat}
theorem na_vm : ∀ i : Nat, (na_st T cA cI N K i).vm = T.vm
  | 0 => rfl
  | i + 1 => na_vm i
theorem na_tj : ∀ i : Nat, (na_st T cA cI N K i).topJava? = T.topJava?
  | 0 => rfl
  | i + 1 => na_tj i
theorem na_top (f : JFrame) : ∀ i : Nat, na_st (T.setTop f) cA cI N K i = (na_st T cA cI N K i).setTop f
  | 0 => rfl
  | i + 1 => by
    show ((na_st (T.setTop f) cA cI N K i).pushCell (na_r cI K)).setCell T.heap.size (na_o cA N T.heap.size (i + 1)) = _
    rw [na_top f i]
    rfl
theorem na_size : ∀ i : Nat, (na_st T cA cI N K i).heap.size = T.heap.size + 1 + i
  | 0 => by simp [na_st]
  | i + 1 => by
    show ((State.pushCell _ _).setCell _ _).heap.size = _
    rw [size_setCell, State.heap_pushCell, Array.size_push, na_size i]
    omega
theorem na_used : ∀ i : Nat, (na_st T cA cI N K i).slotsUsed = T.slotsUsed + N + i * K
  | 0 => by
    show T.slotsUsed + (na_o cA N T.heap.size 0).slots.size = _
    unfold na_o
    rw [arrV_size]
    omega
  | i + 1 => by
    show (na_st T cA cI N K i).slotsUsed + (na_r cI K).slots.size = _
    unfold na_r
    rw [arrV_size, na_used i, Nat.succ_mul]
    omega
theorem na_at : ∀ i : Nat, (na_st T cA cI N K i).heap[T.heap.size]? = some (na_o cA N T.heap.size i)
  | 0 => State.heap_pushCell_size _ _
  | i + 1 => by
    have hz := na_size (T := T) (cA := cA) (cI := cI) (N := N) (K := K) i
    have h : T.heap.size < ((na_st T cA cI N K i).pushCell (na_r cI K)).heap.size := by
      rw [State.heap_pushCell, Array.size_push, hz]
      omega
    exact heapAt_setCell_self _ h
theorem na_old {x : Nat} (h : x < T.heap.size) : ∀ i : Nat, (na_st T cA cI N K i).heap[x]? = T.heap[x]?
  | 0 => State.heap_pushCell_of_lt _ _ h
  | i + 1 => by
    have hz := na_size (T := T) (cA := cA) (cI := cI) (N := N) (K := K) i
    have h1 : T.heap.size ≠ x := by omega
    have h2 : x < (na_st T cA cI N K i).heap.size := by omega
    exact (heapAt_setCell_ne _ h1).trans ((State.heap_pushCell_of_lt _ _ h2).trans (na_old h i))
theorem na_row : ∀ (i j : Nat), j < i → (na_st T cA cI N K i).heap[T.heap.size + 1 + j]? = some (na_r cI K)
  | 0, _, h => absurd h (Nat.not_lt_zero _)
  | i + 1, j, h => by
    have hz := na_size (T := T) (cA := cA) (cI := cI) (N := N) (K := K) i
    have h1 : T.heap.size ≠ T.heap.size + 1 + j := by omega
    refine (heapAt_setCell_ne _ h1).trans ?_
    by_cases e : j = i
    · subst e
      rw [← hz]
      exact State.heap_pushCell_size _ _
    · have h2 : T.heap.size + 1 + j < (na_st T cA cI N K i).heap.size := by omega
      exact (State.heap_pushCell_of_lt _ _ h2).trans (na_row i j (by omega))
theorem na_stand {p : Program} {l : Launch} {e : Env} {R : Room} {s : State} {m : MethodId} {args : Array Value} {below : List Frame} {meth : Method} {c : Code} {locs : List Loc} {cells slots : Nat} (X : Stand p l e R s m args below meth c T locs cells slots) : ∀ i : Nat, Stand p l e R s m args below meth c (na_st T cA cI N K i) locs (cells + 1 + i) (slots + N + i * K)
  | 0 => by
    have h := X.pushed (na_o cA N T.heap.size 0)
    rw [show (na_o cA N T.heap.size 0).slots.size = N from arrV_size _ _ _] at h
    rw [Nat.zero_mul]
    exact h
  | i + 1 => by
    have h := (na_stand X i).pushed (na_r cI K)
    rw [show (na_r cI K).slots.size = K from arrV_size _ _ _] at h
    have hs : s.heap.size ≤ T.heap.size := X.same.2.1
    have hz := na_size (T := T) (cA := cA) (cI := cI) (N := N) (K := K) i
    have h1 : T.heap.size < (na_st T cA cI N K i).heap.size := by omega
    have h2 := (h.stored (a := T.heap.size) (cell := na_o cA N T.heap.size i) ((State.heap_pushCell_of_lt _ _ h1).trans (na_at i)) i (.ref (T.heap.size + 1 + i))).dropFresh (fun x hx => by rw [List.mem_singleton.mp hx]; exact hs)
    rw [na_o_next] at h2
    rw [show slots + N + (i + 1) * K = slots + N + i * K + K by rw [Nat.succ_mul]; omega]
    exact h2
end NA
section NB
variable {E : CtlPost} {e : Env} {d : Bool} {acts : List Action} {s : State} {cA cI cx : ClassId} {kA kI : Class}
/-- one row: an array of ints -/
theorem na_one {k : Int32} {K : Nat} {Q : Addr → Pre} (hkI : s.vm.classes[cI]? = some kI) (hkindI : kI.kind = .array cx .int) (hk : ¬ k < 0) (hK : k.toNatClampNeg = K) (hl : ¬ K > e.platform.arrayLengthLimit) (hh : ¬ K * 4 > e.platform.maxHeapBytes) (hc : s.heap.size < e.platform.maxCells) (hs : s.slotsUsed + K ≤ e.platform.maxSlots)
    (hq : ∀ acts', Q s.heap.size d acts' (s.pushCell (na_r cI K))) : wp (multianewarray.make cI [k]) Q E e d acts s := by
  unfold multianewarray.make
  simp only [wp_bind', W.ite, hk, if_false, wp_pure', W.theClass, hkI, Option.some.injEq, exists_eq_left', hkindI]
  rw [hK]
  refine W.newArray_of hkI hkindI hl hh hc hs rfl fun acts' => ?_
  have h := hq acts'
  unfold na_r at h
  rw [← arrV_new] at h
  exact h
/-- both dimensions -/
theorem na_two {n k : Int32} {N K : Nat} {Q : Addr → Pre} (hkA : s.vm.classes[cA]? = some kA) (hkindA : kA.kind = .array cI (.array .int)) (hkI : s.vm.classes[cI]? = some kI) (hkindI : kI.kind = .array cx .int) (hn : ¬ n < 0) (hN : n.toNatClampNeg = N) (hk : ¬ k < 0) (hK : k.toNatClampNeg = K)
    (hl : ¬ N > e.platform.arrayLengthLimit) (hh : ¬ N * 4 > e.platform.maxHeapBytes) (hl2 : ¬ K > e.platform.arrayLengthLimit) (hh2 : ¬ K * 4 > e.platform.maxHeapBytes) (hc : s.heap.size + (1 + N) ≤ e.platform.maxCells) (hs : s.slotsUsed + (N + N * K) ≤ e.platform.maxSlots)
    (hq : ∀ d' acts', Q s.heap.size d' acts' (na_st s cA cI N K N)) : wp (multianewarray.make cA [n, k]) Q E e d acts s := by
  unfold multianewarray.make
  simp only [wp_bind', W.ite, hn, if_false, wp_pure', W.theClass, hkA, Option.some.injEq, exists_eq_left', hkindA]
  rw [hN]
  refine W.newArray_of hkA hkindA hl hh (by omega) (by omega) rfl fun acts' => ?_
  rw [show ({ cls := cA, slots := Array.replicate N .null } : Cell) = na_o cA N s.heap.size 0 from na_o_new _ _ _]
  have hfind : [k].find? (fun x => decide (x < 0)) = none := by simp [hk]
  simp only [hfind, ite_self, wp_pure', wp_bind', Std.Legacy.Range.forIn_eq_forIn_range']
  refine wp_forIn_inv (fun rest s' => ∃ i, i ≤ N ∧ rest = List.range' i (N - i) ∧ s' = na_st s cA cI N K i) _ _ ⟨0, Nat.zero_le _, by simp [Std.Legacy.Range.size], rfl⟩ ?_ ?_
  · rintro x rest s' d' acts2 Q' ⟨i, hi, hr, rfl⟩ hq2
    have hz := na_size (T := s) (cA := cA) (cI := cI) (N := N) (K := K) i
    have hu := na_used (T := s) (cA := cA) (cI := cI) (N := N) (K := K) i
    have hlt : i < N := by
      rcases Nat.lt_or_ge i N with h | h
      · exact h
      · rw [Nat.sub_eq_zero_of_le h] at hr
        cases hr
    have hKK : i * K + K ≤ N * K := by
      rw [← Nat.succ_mul]
      exact Nat.mul_le_mul_right K hlt
    rw [show N - i = (N - (i + 1)) + 1 by omega, List.range'_succ] at hr
    obtain ⟨rfl, rfl⟩ := List.cons.inj hr
    have hv : (na_st s cA cI N K x).vm = s.vm := na_vm x
    simp only [wp_bind']
    refine na_one (by rw [hv]; exact hkI) hkindI hk hK hl2 hh2 (by omega) (by omega) fun acts3 => ?_
    have h1 : s.heap.size < (na_st s cA cI N K x).heap.size := by omega
    simp only [wp_bind', W.writeLoc, wp_pure']
    refine ⟨na_o cA N s.heap.size x, (State.heap_pushCell_of_lt _ _ h1).trans (na_at x), (fun h => by cases h), (by unfold na_o; rw [arrV_size]; exact hlt), ?_, ?_⟩
    · have hv2 : ((na_st s cA cI N K x).pushCell (na_r cI K)).vm = s.vm := hv
      show State.fitsSlot _ cA .none x _ = true
      simp only [State.fitsSlot, State.slotType?, hv2, hkA, Option.bind_eq_bind, Option.bind_some, hkindA]
      rfl
    · rw [hz, na_o_next]
      exact hq2 _ _ _ ⟨x + 1, hlt, rfl, rfl⟩
  · rintro s' d' acts2 ⟨i, hi, hr, rfl⟩
    have hNi : N - i = 0 := by
      have := congrArg List.length hr
      simpa using this.symm
    have : i = N := by omega
    subst this
    exact hq _ _
/-- the whole instruction, where its entry stands -/
theorem na_sem {f : JFrame} {index : Nat} {n k : Int32} {N K : Nat} {rest : List Value} {Q : Unit → Pre} (ht : s.topJava?.isSome) (hr : s.vm.classReady f.method.cls index cA) (hstack : f.stack = .int k :: .int n :: rest) (hkA : s.vm.classes[cA]? = some kA) (hkindA : kA.kind = .array cI (.array .int)) (hkI : s.vm.classes[cI]? = some kI) (hkindI : kI.kind = .array cx .int) (hn : ¬ n < 0) (hN : n.toNatClampNeg = N) (hk : ¬ k < 0) (hK : k.toNatClampNeg = K)
    (hl : ¬ N > e.platform.arrayLengthLimit) (hh : ¬ N * 4 > e.platform.maxHeapBytes) (hl2 : ¬ K > e.platform.arrayLengthLimit) (hh2 : ¬ K * 4 > e.platform.maxHeapBytes) (hc : s.heap.size + (1 + N) ≤ e.platform.maxCells) (hs : s.slotsUsed + (N + N * K) ≤ e.platform.maxSlots)
    (hq : ∀ d' acts', Q () d' acts' ((na_st s cA cI N K N).setTop { f with stack := .ref s.heap.size :: rest })) : wp (multianewarray.sem index 2) Q E e d acts (s.setTop f) := by
  unfold multianewarray.sem
  simp only [wp_bind', W.resolveClassAt_ready (State.method?_setTop f ht) hr]
  refine (popN_top (args := [.int n, .int k]) (rest := rest) ht hstack).mpr ?_
  simp only [List.mapM_cons, List.mapM_nil, wp_bind', wp_pure']
  refine na_two (s := s.setTop { f with stack := rest }) hkA hkindA hkI hkindI hn hN hk hK hl hh hl2 hh2 hc hs fun d' acts' => ?_
  have ht2 : (na_st s cA cI N K N).topJava?.isSome := by
    rw [na_tj]
    exact ht
  simp only [wp_bind', W.mark, W.pushRef, na_top, State.topJava?_setTop' _ ht2, Option.some.injEq, exists_eq_left', State.setTop_setTop]
  exact hq _ _
end NB
section NC
variable {p : Program} {l : Launch} {e : Env} {R : Room} {s : State} {m : MethodId} {args : Array Value} {below : List Frame} {meth : Method} {c : Code} {T : State} {locs : List Loc} {cells slots : Nat}
/-- the step, over the room that the method has -/
theorem na_step (X : Stand p l e R s m args below meth c T locs cells slots) (hexec : p.tables.exec = Jvm.exec) {own : String} {index : Nat} (hown : s.vm.findClass own = some m.cls) (hclink : (Cond.classLink own index ("[" ++ (FieldType.array .int).toString)).before args s = true) (hover : (Cond.arrayOver (.array .int)).before args s = true) (harr : (Cond.arrayClass .int).before args s = true)
    {g : JFrame} (hg : g.method = m) (hdg : decode c.code g.pc = .ok (.multianewarray index 2, 4)) {n k : Int32} {N K : Nat} {rest : List Value} (hstack : g.stack = .int k :: .int n :: rest) (hn : ¬ n < 0) (hN : n.toNatClampNeg = N) (hk : ¬ k < 0) (hK : k.toNatClampNeg = K) (hb : N * 4 ≤ 536870912) (hb2 : K * 4 ≤ 536870912) (hcells : cells + (1 + N) ≤ R.cells) (hslots : slots + (N + N * K) ≤ R.slots) :
    ∃ (vm₁ : Vm) (cA cI : ClassId), s.vm.findClass ("[" ++ (FieldType.array .int).toString) = some cA ∧ s.vm.findClass ("[" ++ FieldType.int.toString) = some cI ∧
      Stand p l e R s m args below meth c (na_st (T.setVm vm₁) cA cI N K N) locs (cells + 1 + N) (slots + N + N * K) ∧
      ∀ target, Steps p.tables e below ((na_st (T.setVm vm₁) cA cI N K N).setTop { g with pc := g.pc + 4, stack := .ref T.heap.size :: rest }) target → Steps p.tables e below (T.setTop g) target := by
  subst hg
  have hpl : e.platform.magicAccessors = ({} : Platform).magicAccessors := by rw [X.admits.platform]
  obtain ⟨cI, cA, kA, hI, -, hkA, hkindA, hA⟩ := arrayOverA_spec hover
  obtain ⟨cI2, kI, cx, hI2, hkI, hkindI⟩ := Cond.arrayClass_spec harr
  have hII : cI2 = cI := Option.some.inj (hI2.symm.trans hI)
  subst hII
  obtain ⟨cA2, hA2, hcl⟩ := Cond.classLink_spec hown hclink e.platform hpl
  have hAA : cA2 = cA := Option.some.inj (hA2.symm.trans hA)
  subst hAA
  obtain ⟨hg₁, hwarm₁, hready₁⟩ := State.classEntry (e := e) X.warmed hcl
  generalize T.vm.noted g.method.cls index (.cls cA2) = vm₁ at hg₁ hwarm₁ hready₁
  have hal : s.vm.Alike vm₁ := hwarm₁.alike
  obtain ⟨kA₁, hkA₁, heA⟩ := hal.2.2 _ _ hkA
  obtain ⟨kI₁, hkI₁, heI⟩ := hal.2.2 _ _ hkI
  have hkindA₁ : kA₁.kind = .array cI2 (.array .int) := by rw [heA]; exact hkindA
  have hkindI₁ : kI₁.kind = .array cx .int := by rw [heI]; exact hkindI
  have hmax := Launch.admits_arrayLengthLimit X.admits
  have hbytes := Launch.admits_maxHeapBytes X.admits
  obtain ⟨hr1, hr2⟩ := X.roomAbove hcells hslots
  refine ⟨vm₁, cA2, cI2, hA, hI2, na_stand (X.noted hwarm₁) N, fun target hrest => ?_⟩
  have hsem : ∀ (Q : Unit → Pre) (E : CtlPost) (d : Bool) (acts : List Action), (∀ d' acts', Q () d' acts' ((na_st (T.setVm vm₁) cA2 cI2 N K N).setTop { g with stack := .ref T.heap.size :: rest })) → wp (multianewarray.sem index 2) Q E e d acts (T.setTop g) := by
    intro Q E d acts hq
    have h := na_sem (E := E) (e := e) (d := d) (acts := acts) (s := T.setVm vm₁) (f := g) (Q := Q) X.here.top hready₁ hstack hkA₁ hkindA₁ hkI₁ hkindI₁ hn hN hk hK (by rw [hmax]; omega) (by rw [hbytes]; omega) (by rw [hmax]; omega) (by rw [hbytes]; omega) hr1 hr2 hq
    unfold multianewarray.sem at h ⊢
    rw [wp_bind'] at h ⊢
    exact (W.resolveClassAt_transfer (s := T.setTop g) (State.method?_setTop g X.here.top) hg₁ hready₁).mpr h
  refine Steps.instr (c := _) X.here ?_
  rw [hdg]
  simp only [hexec, exec, wpRun]
  refine hsem _ _ _ _ fun d' acts' acts => ?_
  rw [afterInstr_ok]
  exact hrest
end NC
