/-! ===== calls ===== -/
def ow_ps (ret : Option FieldType) (r : Int) (st : List ow_V) : List ow_V := match ret with
  | some ty => (ow_pt (ow_tt ty), r) :: st
  | none => st
def ow_rtg (ret : Option FieldType) : Option Nat := match ret with
  | some ty => some (ow_pt (ow_tt ty))
  | none => none
theorem ow_ps_some {ret : Option FieldType} {t : Nat} (h : ow_rtg ret = some t) (r : Int) (st : List ow_V) : ow_ps ret r st = (t, r) :: st := by
  cases ret with
  | none => cases h
  | some ty => cases h; rfl
theorem ow_ps_none {ret : Option FieldType} (h : ow_rtg ret = none) (r : Int) (st : List ow_V) : ow_ps ret r st = st := by
  cases ret with
  | none => rfl
  | some ty => cases h
theorem ow_ps_cv (C : ow_C) (ret : Option FieldType) (r : Int) (st : List ow_V) : (ow_rt C ret r).toList ++ st.map (ow_cv C) = (ow_ps ret r st).map (ow_cv C) := by
  cases ret with
  | none => rfl
  | some ty =>
    show ow_cv C (ow_tt ty, r) :: st.map (ow_cv C) = ow_cv C (ow_pt (ow_tt ty), r) :: st.map (ow_cv C)
    rw [ow_cv_pt]
theorem ow_ps_rg {ret : Option FieldType} {r : Int} {st : List ow_V} (h : ∀ ty, ret = some ty → ow_rg (ow_tt ty, r)) (hs : ∀ v ∈ st, ow_rg v) : ∀ v ∈ ow_ps ret r st, ow_rg v := by
  cases ret with
  | none => exact hs
  | some ty => exact ow_rc (ow_rg_pt (h ty rfl)) hs
def ow_sw (st : List ow_V) : Nat := match st with
  | [] => 0
  | v :: t => (if v.1 = 1 then 2 else 1) + ow_sw t
theorem ow_sw_cat (C : ow_C) (st : List ow_V) : ((st.map (ow_cv C)).map fun v => v.category).sum = ow_sw st := by
  induction st with
  | nil => rfl
  | cons v t ih =>
    rw [List.map_cons, List.map_cons, List.sum_cons, ih, ow_cat]
    rfl
/-- what every call asks of the method that is called -/
def ow_mk (z : ow_Y) (n : Nat) : Prop := (z.1.cls ≠ "java/lang/invoke/MethodHandle" ∧ z.1.cls ≠ "java/lang/invoke/VarHandle" ∧ (parseMethodDescriptor z.1.desc).map (fun d => d.parameters.length) = some n) ∧ Cond.code z.1 z.2.1 z.2.2.1 z.2.2.2 ∈ ow_gt ∧ Cond.initialized z.1.cls ∈ ow_gt ∧ Nat.ble z.2.2.1 41 = true
def ow_mi (z : ow_Y) (k : Nat) : Prop := Cond.instanceMethod z.1 ∈ ow_gt ∧ Cond.selects z.1.cls z.1 z.1 ∈ ow_gt ∧ ∃ r, vwCl[k]? = some r ∧ r.1 = z.1.cls
theorem ow_good {w0 : Cond} (h : w0 ∈ ow_gt) : GoodIn ow_gt (w0 :: ow_gt) := by
  intro w hw
  have h1 : w ∈ ow_gt := (List.mem_cons.mp hw).elim (fun e => e ▸ h) id
  exact ⟨h1, good_of_word (List.mem_filter.mp h1).2⟩
theorem ow_blind (C : ow_C) (E : ow_E) (vs : List ow_V) (M : ow_M) : FrameBlind (ow_Pc C E vs M) := by
  intro a U g mk h
  obtain ⟨h1, h2, h3, h4, h5, h6⟩ := h
  exact ⟨h1, h2, h3, va_K.moved (u := U) (U := U.calling g mk a) (Vm.Alike.refl U.vm) h4, ow_X.frames (s := U) (U := U.calling g mk a) rfl rfl h5, h6⟩
theorem ow_Sp.mono {C : ow_C} {E : ow_E} {d : Nat} {z : ow_Y} {b : Nat × Nat} {vs : List ow_V} {M : ow_M} {K K' : Int → ow_M → Prop} (h : ow_Sp C E d z b vs M K) (hk : ∀ r M', K r M' → K' r M') : ow_Sp C E d z b vs M K' := by
  unfold ow_Sp Met at h ⊢
  exact h.mono (fun _ _ h => h) (fun _ _ _ _ _ h => h) (fun a s o t _ q => ⟨q.1.mono hk, q.2⟩)
section OWK
variable {C : ow_C} {E : ow_E} {d : Nat} {y z : ow_Y} {pc pc' tg ix n k : Nat} {lv lv' : List (Nat × ow_V)} {st stk vs : List ow_V} {b b1 b2 : Nat × Nat} {M : ow_M} {K : Int → ow_M → Prop} {x : Int}
theorem ow_pre {p : Program} {s : State} {m : MethodId} {args : Array Value} {meth : Method} {c : Code} {H : Heap} {locs : List Loc} (cx : ow_Cx C y p s m args meth c) (hr : ow_rep C E M H) (hS : va_S (ow_A C) s.heap H locs) (hv : ∀ v ∈ vs, ow_rg v) : ∀ U : State, U.heap = H → s.WarmedH U.vm → ow_Pc C E vs M (vs.map (ow_cv C)).toArray U := by
  intro U hU hW
  have hX := cx.2.2.2.2.2.2.2.2.1
  refine ⟨rfl, hv, by rw [hU]; exact hr, va_K.moved hW.alike cx.2.2.2.2.2.2.2.1, ow_X.moved hW cx.2.2.2.2.2.2.2.2.2.2 (fun q h1 h2 => by rw [hU]; exact hS.2.1 q h1 h2) hX, ?_⟩
  rw [hU]
  exact Nat.le_trans cx.2.2.2.2.2.2.2.2.2.2 hS.1
theorem ow_after {p : Program} {e : Env} {s : State} {m : MethodId} {args a : Array Value} {below : List Frame} {meth : Method} {c : Code} {H : Heap} {locs : List Loc} {ls : Array Slot} {cells slots : Nat} {st0 : List Value} {ret : Option FieldType} (cx : ow_Cx C y p s m args meth c) (hS : va_S (ow_A C) s.heap H locs) (hl : lv_has ls y.2.2.1 (ow_lc C lv)) (hv : ∀ q ∈ lv, ow_rg q.2) (hs : ∀ v ∈ st, ow_rg v) (hb : b = (b1.1 + b2.1, b1.2 + b2.2))
    (hr : va_Run p C.1 e (ow_rm (d + 1) (cells + b.1) (slots + b.2)) s m args below meth c H locs cells slots b1.1 b1.2 (F0 m pc ls st0) (st.map (ow_cv C)) (ow_Q C E ret (fun r M' => ow_At C E (d + 1) y (pc + 3) lv (ow_ps ret r st) b2 M' K) a) (ow_A C)) :
    W p C.1 e (ow_rm (d + 1) (cells + b.1) (slots + b.2)) s m args below meth c H locs cells slots (MQ below (ow_Q C E y.2.2.2 K) args s (cells + b.1) (slots + b.2) (ow_A C)) (F0 m pc ls st0) := by
  intro T hT X
  obtain ⟨v, st₀, t, T', L, h0, X', hL, e1, e2, ⟨⟨r, M', hv', hrg, hk, hrep⟩, hz, hkp⟩, stp⟩ := hr T hT X
  cases hv'
  rw [h0] at hz hkp
  have hS' : va_S (ow_A C) s.heap T'.heap (locs ++ L) := by
    refine ⟨Nat.le_trans hS.1 (by rw [e1]; exact hz), fun q h1 h2 => ?_, fun q hq => ?_⟩
    · rw [e1, hkp q (Nat.lt_of_lt_of_le h1 hS.1) h2]
      exact hS.2.1 q h1 h2
    · rcases List.mem_append.mp hq with h | h
      · exact hS.2.2 q h
      · exact hL q h
  have hW := hk p e s m args below meth c T'.heap (locs ++ L) ls (cells + b1.1) (slots + b1.2) cx (by rw [e1]; exact hrep) hS' hl hv (ow_ps_rg hrg hs)
  have a1 : cells + b1.1 + b2.1 = cells + b.1 := by rw [hb]; simp only []; omega
  have a2 : slots + b1.2 + b2.2 = slots + b.2 := by rw [hb]; simp only []; omega
  rw [a1, a2, ← ow_ps_cv] at hW
  obtain ⟨t2, q1, q2⟩ := hW T' rfl X'
  exact ⟨t2, stp t2 q1, q2⟩
theorem ow_cB {p : Program} {s : State} {m : MethodId} {args : Array Value} {meth : Method} {c : Code} {cells slots : Nat} (cx : ow_Cx C y p s m args meth c) (hm : ow_mk z n) (hl : Cond.methodLink y.1.cls ix z.1 ∈ ow_gt) : CallB (ow_rm (d + 1) cells slots) s args y.1.cls ix z.1 z.2.1 z.2.2.1 z.2.2.2 (.code z.1 z.2.1 z.2.2.1 z.2.2.2 :: ow_gt) (ow_rm d b1.1 b1.2) b1.1 b1.2 n := by
  have hts := cx.2.2.2.2.2.2.1
  refine callB_of n hts (ow_good hm.2.1) rfl rfl rfl (hts _ hm.2.2.1) (hts _ hl) hm.1 ⟨Nat.le_refl _, ?_⟩
  have h9 : z.2.2.1 ≤ 41 := Nat.ble_eq.mp hm.2.2.2
  show 8 + (z.2.2.1 + 11) + 60 * d ≤ 60 * (d + 1)
  omega
theorem ow_callV (hd : decode y.2.1 pc = .ok (.invokevirtual ix, 3)) (hl : Cond.methodLink y.1.cls ix z.1 ∈ ow_gt) (hm : ow_mk z n) (hi : ow_mi z k) (hn : vs.length = n) (hst : vs.reverse ++ (3, x) :: st = stk) (hw : Nat.ble (ow_sw st) 8 = true) (hp : pc + 3 = pc') (hb : b = (b1.1 + b2.1, b1.2 + b2.2)) (hO : ow_O E M x k)
    (h : ow_Sp C E d z b1 ((3, x) :: vs) M (fun r M' => ow_At C E (d + 1) y pc' lv (ow_ps z.2.2.2 r st) b2 M' K)) : ow_At C E (d + 1) y pc lv stk b M K := by
  subst hp
  subst hst
  intro p e s m args below meth c H locs ls cells slots cx hr hS hlv hv hs
  obtain ⟨o0, o1, o2, o3⟩ := hO
  have hx : x < 900 := by have := hr.2.1; omega
  obtain ⟨i1, i2, r, i3, i4⟩ := hi
  have hk : k < 100 := by
    have := (List.getElem?_eq_some_iff.mp i3).1
    have h13 : vwCl.length = 13 := rfl
    omega
  have hs1 : ∀ v ∈ st, ow_rg v := fun v h => hs v (List.mem_append_right _ (List.mem_cons_of_mem _ h))
  have hs2 : ∀ v ∈ (3, x) :: vs, ow_rg v := fun v h => (List.mem_cons.mp h).elim (fun e => by rw [e]; trivial) (fun h => hs v (List.mem_append_left _ (List.mem_reverse.mpr h)))
  have hat : (ow_ws C E M)[x.toNat]? = some (C.2.1 + x.toNat, .inr (k, ow_fs C E M x)) := by rw [ow_ws_at o0 o1, ow_cell_o o2 hk]
  have hrec := va_recv cx.2.2.2.2.2.2.2.1 hr.2.2.2.1 i3 hat
  rw [i4] at hrec
  have hpre := ow_pre (vs := (3, x) :: vs) cx hr hS hs2
  rw [List.map_cons, ow_ref C o0 hx] at hpre
  refine ow_after (st := st) (b1 := b1) (b2 := b2) cx hS hlv hv hs1 hb (va_runV (C := z.1.cls) (b := C.2.1 + x.toNat) (As := vs.map (ow_cv C)) (rest := st.map (ow_cv C)) (Ts := ow_gt) (nL := y.2.2.1) ⟨cx.1, cx.2.1, cx.2.2.1, cx.2.2.2.2.2.1, cx.2.2.2.2.2.2.1⟩ h ⟨ow_cB cx hm hl, cx.2.2.2.2.2.2.1 _ i1, cx.2.2.2.2.2.2.1 _ i2⟩ ⟨ow_blind C E _ M, hrec, hpre⟩ rfl (by rw [List.length_map]; exact hn) hlv.1 ?_ (lv_room (by rw [ow_sw_cat]; exact Nat.ble_eq.mp hw)) hd ?_)
  · show (vs.reverse ++ (3, x) :: st).map (ow_cv C) = _
    rw [List.map_append, List.map_cons, ow_ref C o0 hx, List.map_reverse]
  · show cells + b1.1 ≤ cells + b.1 ∧ slots + b1.2 ≤ slots + b.2
    rw [hb]; simp only []; omega
theorem ow_callS (hd : decode y.2.1 pc = .ok (.invokestatic ix, 3)) (hl : Cond.methodLink y.1.cls ix z.1 ∈ ow_gt) (hm : ow_mk z n) (hi : Cond.static z.1 ∈ ow_gt) (hn : vs.length = n) (hst : vs.reverse ++ st = stk) (hw : Nat.ble (ow_sw st) 8 = true) (hp : pc + 3 = pc') (hb : b = (b1.1 + b2.1, b1.2 + b2.2))
    (h : ow_Sp C E d z b1 vs M (fun r M' => ow_At C E (d + 1) y pc' lv (ow_ps z.2.2.2 r st) b2 M' K)) : ow_At C E (d + 1) y pc lv stk b M K := by
  subst hp
  subst hst
  intro p e s m args below meth c H locs ls cells slots cx hr hS hlv hv hs
  have hs1 : ∀ v ∈ st, ow_rg v := fun v h => hs v (List.mem_append_right _ h)
  have hs2 : ∀ v ∈ vs, ow_rg v := fun v h => hs v (List.mem_append_left _ (List.mem_reverse.mpr h))
  refine ow_after (st := st) (b1 := b1) (b2 := b2) cx hS hlv hv hs1 hb (va_runS (As := vs.map (ow_cv C)) (rest := st.map (ow_cv C)) (Ts := ow_gt) (nL := y.2.2.1) ⟨cx.1, cx.2.1, cx.2.2.1, cx.2.2.2.2.2.1, cx.2.2.2.2.2.2.1⟩ h ⟨ow_cB cx hm hl, cx.2.2.2.2.2.2.1 _ hi⟩ ⟨ow_blind C E _ M, ow_pre cx hr hS hs2⟩ rfl (by rw [List.length_map]; exact hn) hlv.1 ?_ (lv_room (by rw [ow_sw_cat]; exact Nat.ble_eq.mp hw)) hd ?_)
  · show (vs.reverse ++ st).map (ow_cv C) = _
    rw [List.map_append, List.map_reverse]
  · show cells + b1.1 ≤ cells + b.1 ∧ slots + b1.2 ≤ slots + b.2
    rw [hb]; simp only []; omega
theorem ow_callI (hd : decode y.2.1 pc = .ok (.invokespecial ix, 3)) (hl : Cond.methodLink y.1.cls ix z.1 ∈ ow_gt ∨ ∃ host, Cond.methodLinkNest y.1.cls ix z.1 host ∈ ow_nt) (hm : ow_mk z n) (hin : z.1.name = "<init>") (hv0 : z.2.2.2 = none) (hi : Cond.instanceMethod z.1 ∈ ow_gt) (hn : vs.length = n) (hst : vs.reverse ++ (3, x) :: st = stk) (hw : Nat.ble (ow_sw st) 8 = true) (hp : pc + 3 = pc') (hb : b = (b1.1 + b2.1, b1.2 + b2.2)) (hx0 : 0 ≤ x) (hx1 : x < 900)
    (h : ow_Sp C E d z b1 ((3, x) :: vs) M (fun r M' => ow_At C E (d + 1) y pc' lv st b2 M' K)) : ow_At C E (d + 1) y pc lv stk b M K := by
  subst hp
  subst hst
  intro p e s m args below meth c H locs ls cells slots cx hr hS hlv hv hs
  have hs1 : ∀ v ∈ st, ow_rg v := fun v h => hs v (List.mem_append_right _ (List.mem_cons_of_mem _ h))
  have hs2 : ∀ v ∈ (3, x) :: vs, ow_rg v := fun v h => (List.mem_cons.mp h).elim (fun e => by rw [e]; trivial) (fun h => hs v (List.mem_append_left _ (List.mem_reverse.mpr h)))
  have hpre := ow_pre (vs := (3, x) :: vs) cx hr hS hs2
  rw [List.map_cons, ow_ref C hx0 hx1] at hpre
  have hstk : (vs.reverse ++ (3, x) :: st).map (ow_cv C) = (vs.map (ow_cv C)).reverse ++ .ref (C.2.1 + x.toNat) :: st.map (ow_cv C) := by rw [List.map_append, List.map_cons, ow_ref C hx0 hx1, List.map_reverse]
  have hsm : cells + b1.1 ≤ cells + b.1 ∧ slots + b1.2 ≤ slots + b.2 := by rw [hb]; simp only []; omega
  have hQ : (fun r M' => ow_At C E (d + 1) y (pc + 3) lv st b2 M' K) = (fun r M' => ow_At C E (d + 1) y (pc + 3) lv (ow_ps z.2.2.2 r st) b2 M' K) := by
    funext r M'
    rw [hv0]
    rfl
  rw [hQ] at h
  have hts := cx.2.2.2.2.2.2.1
  rcases hl with hl | ⟨host, hl⟩
  · have hcb := ow_cB (d := d) (b1 := b1) (cells := cells + b.1) (slots := slots + b.2) cx hm hl
    have hMt : Met C.1 z.1 (.code z.1 z.2.1 z.2.2.1 none :: ow_gt) (ow_rm d b1.1 b1.2) (ow_Pc C E ((3, x) :: vs) M) (ow_Q C E z.2.2.2 (fun r M' => ow_At C E (d + 1) y (pc + 3) lv (ow_ps z.2.2.2 r st) b2 M' K)) b1.1 b1.2 (ow_A C) := by
      have h9 := h
      unfold ow_Sp at h9
      rw [hv0] at h9 ⊢
      exact h9
    rw [hv0] at hcb
    exact ow_after (st := st) (b1 := b1) (b2 := b2) cx hS hlv hv hs1 hb (va_runI (b := C.2.1 + x.toNat) (As := vs.map (ow_cv C)) (rest := st.map (ow_cv C)) (Ts := ow_gt) (nL := y.2.2.1) ⟨cx.1, cx.2.1, cx.2.2.1, cx.2.2.2.2.2.1, hts⟩ hMt ⟨hcb, hin, hts _ hi⟩ ⟨ow_blind C E _ M, hpre⟩ rfl (by rw [List.length_map]; exact hn) hlv.1 hstk (lv_room (by rw [ow_sw_cat]; exact Nat.ble_eq.mp hw)) hd hsm)
  · have h41 : z.2.2.1 ≤ 41 := Nat.ble_eq.mp hm.2.2.2
    have hcn := va_cnB (own := y.1.cls) (host := host) (index := ix) (maxL := z.2.2.1) (mc := b1.1) (ms := b1.2) (y := z.1) (bytes := z.2.1) (ret := z.2.2.2) (rm := ow_rm d b1.1 b1.2) (R := ow_rm (d + 1) (cells + b.1) (slots + b.2)) (args := args) n hts (ow_good hm.2.1) rfl rfl rfl (cx.2.2.2.2.2.2.2.2.1.1 _ hl) (hts _ hm.2.2.1) hm.1 ⟨Nat.le_refl _, by show 8 + (z.2.2.1 + 11) + 60 * d ≤ 60 * (d + 1); omega⟩
    have hMt : Met C.1 z.1 (.code z.1 z.2.1 z.2.2.1 none :: ow_gt) (ow_rm d b1.1 b1.2) (ow_Pc C E ((3, x) :: vs) M) (ow_Q C E z.2.2.2 (fun r M' => ow_At C E (d + 1) y (pc + 3) lv (ow_ps z.2.2.2 r st) b2 M' K)) b1.1 b1.2 (ow_A C) := by
      have h9 := h
      unfold ow_Sp at h9
      rw [hv0] at h9 ⊢
      exact h9
    rw [hv0] at hcn
    exact ow_after (st := st) (b1 := b1) (b2 := b2) cx hS hlv hv hs1 hb (va_runIN (b := C.2.1 + x.toNat) (As := vs.map (ow_cv C)) (rest := st.map (ow_cv C)) (Ts := ow_gt) (nL := y.2.2.1) ⟨cx.1, cx.2.1, cx.2.2.1, cx.2.2.2.2.2.1, hts⟩ hMt ⟨hcn, hin, hts _ hi⟩ ⟨ow_blind C E _ M, hpre⟩ rfl (by rw [List.length_map]; exact hn) hlv.1 hstk (lv_room (by rw [ow_sw_cat]; exact Nat.ble_eq.mp hw)) hd hsm)
theorem ow_objinit (hd : decode y.2.1 pc = .ok (.invokespecial ix, 3)) (hl : Cond.methodLink y.1.cls ix objectInit ∈ ow_gt) (h2 : Cond.instanceMethod objectInit ∈ ow_gt) (h3 : Cond.code objectInit ⟨#[0xb1]⟩ 1 none ∈ ow_gt) (hw : Nat.ble (ow_sw st) 8 = true) (hp : pc + 3 = pc') (hx0 : 0 ≤ x) (hx1 : x < 900) (k : ow_At C E (d + 1) y pc' lv st b M K) : ow_At C E (d + 1) y pc lv ((3, x) :: st) b M K := by
  subst hp
  intro p e s m args below meth c H locs ls cells slots cx hr hS hlv hv hs
  have hts := cx.2.2.2.2.2.2.1
  rw [List.map_cons, ow_ref C hx0 hx1]
  have hrm := lv_room (m := m) (pc := pc) (ls := ls) (rest := .ref (C.2.1 + x.toNat) :: st.map (ow_cv C)) (st := st.map (ow_cv C)) (by rw [ow_sw_cat]; exact Nat.ble_eq.mp hw)
  refine W.objInit cx.1 cx.2.1 cx.2.2.2.2.2.1 (hts _ hl) (hts _ h2) (hts _ h3) rfl (hlv.1.trans cx.2.2.1.symm) rfl hd (by show 1 ≤ d + 1; omega) (by show _ ≤ 60 * (d + 1); omega) ?_
  exact k p e s m args below meth c H locs ls cells slots cx hr hS hlv hv (ow_rs hs)
end OWK
