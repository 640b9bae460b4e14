/-! ===== two environments: before and after ===== -/
def ow_At2 (C : ow_C) (E E' : ow_E) (d : Nat) (y : ow_Y) (pc : Nat) (lv : List (Nat × ow_V)) (st : List ow_V) (b : Nat × Nat) (M : ow_M) (K : Int → ow_M → Prop) : Prop :=
  ∀ (p : Program) (e : Env) (s : State) (m : MethodId) (args : Array Value) (below : List Frame) (meth : Method) (c : Code) (H : Heap) (locs : List Loc) (ls : Array Slot) (cells slots : Nat),
    ow_Cx C y p s m args meth c → ow_rep C E M H → va_S (ow_A C) s.heap H locs → lv_has ls y.2.2.1 (ow_lc C lv) → (∀ q ∈ lv, ow_rg q.2) → (∀ v ∈ st, ow_rg v) →
    W p C.1 e (ow_rm d (cells + b.1) (slots + b.2)) s m args below meth c H locs cells slots (MQ below (ow_Q C E' y.2.2.2 K) args s (cells + b.1) (slots + b.2) (ow_A C)) (F0 m pc ls (st.map (ow_cv C)))
section TWO
variable {C : ow_C} {E E' : ow_E} {d : Nat} {y z : ow_Y} {pc pc' tg ix n k t : Nat} {lv lv' : List (Nat × ow_V)} {st stk vs : List ow_V} {b b1 b2 : Nat × Nat} {M : ow_M} {K : Int → ow_M → Prop} {x : Int}
theorem ow_dup_2 {v : ow_V} (hd : decode y.2.1 pc = .ok (.dup, 1)) (hc : Nat.beq v.1 1 = false) (hp : pc + 1 = pc') (k : ow_At2 C E E' d y pc' lv (v :: v :: st) b M K) : ow_At2 C E E' d y pc lv (v :: st) b M K := by
  subst hp
  intro p e s m args below meth c H locs ls cells slots cx hr hS hl hv hs
  exact lv_dup cx.1 cx.2.1 hd (by rw [ow_cat, if_neg (Nat.ne_of_beq_eq_false hc)]) (k p e s m args below meth c H locs ls cells slots cx hr hS hl hv (ow_rc (ow_r1 hs) hs))
theorem ow_aload_n_2 {j : Fin 4} {x : Int} (hd : decode y.2.1 pc = .ok (.aload_n j, 1)) (hg : ow_get lv j = some (3, x)) (hp : pc + 1 = pc') (k : ow_At2 C E E' d y pc' lv ((3, x) :: st) b M K) : ow_At2 C E E' d y pc lv st b M K := by
  subst hp
  intro p e s m args below meth c H locs ls cells slots cx hr hS hl hv hs
  have h9 := k p e s m args below meth c H locs ls cells slots cx hr hS hl hv (ow_rc (v := (3, x)) trivial hs)
  have h8 := ow_lv_at hl hg
  cases er : ow_rf C x with
  | none =>
    have e1 : ow_cv C (3, x) = .null := by show va_rf (ow_rf C x) = _; rw [er]; rfl
    rw [List.map_cons, e1] at h9
    rw [e1] at h8
    exact lv_aload_nN cx.1 cx.2.1 hd rfl h8 h9
  | some a =>
    have e1 : ow_cv C (3, x) = .ref a := by show va_rf (ow_rf C x) = _; rw [er]; rfl
    rw [List.map_cons, e1] at h9
    rw [e1] at h8
    exact lv_aload_n cx.1 cx.2.1 hd rfl h8 h9
theorem ow_iconst_2 {n : Int} (hd : decode y.2.1 pc = .ok (.iconst n, 1)) (hn : ow_Ib n = true) (hp : pc + 1 = pc') (k : ow_At2 C E E' d y pc' lv ((0, n) :: st) b M K) : ow_At2 C E E' d y pc lv st b M K := by
  subst hp
  intro p e s m args below meth c H locs ls cells slots cx hr hS hl hv hs
  exact lv_iconst cx.1 cx.2.1 hd rfl (k p e s m args below meth c H locs ls cells slots cx hr hS hl hv (ow_rc (ow_Ib_ok hn) hs))
theorem ow_astore_n_2 {j : Fin 4} {x : Int} (hd : decode y.2.1 pc = .ok (.astore_n j, 1)) (hp : pc + 1 = pc') (hb : Nat.blt ((j : Nat)) y.2.2.1 = true) (hi : ow_ins lv j (3, x) = lv') (k : ow_At2 C E E' d y pc' lv' st b M K) : ow_At2 C E E' d y pc lv ((3, x) :: st) b M K := by
  subst hp
  subst hi
  have hb : (j : Nat) < y.2.2.1 := by simpa using hb
  intro p e s m args below meth c H locs ls cells slots cx hr hS hl hv hs
  cases er : ow_rf C x with
  | none =>
    have e1 : ow_cv C (3, x) = .null := by show va_rf (ow_rf C x) = _; rw [er]; rfl
    rw [List.map_cons, e1]
    exact lv_astore_nN cx.1 cx.2.1 hd rfl hl hb rfl (fun ls2 hl2 => k p e s m args below meth c H locs ls2 cells slots cx hr hS (ow_ins_has (L := _) (fun _ => by rw [e1]) (fun z => absurd z (show ¬ (3 : Nat) = 1 by decide)) hl2) (ow_ins_rg (ow_r1 hs) hv) (ow_rs hs))
  | some a =>
    have e1 : ow_cv C (3, x) = .ref a := by show va_rf (ow_rf C x) = _; rw [er]; rfl
    rw [List.map_cons, e1]
    exact lv_astore_n cx.1 cx.2.1 hd rfl hl hb rfl (fun ls2 hl2 => k p e s m args below meth c H locs ls2 cells slots cx hr hS (ow_ins_has (L := _) (fun _ => by rw [e1]) (fun z => absurd z (show ¬ (3 : Nat) = 1 by decide)) hl2) (ow_ins_rg (ow_r1 hs) hv) (ow_rs hs))
theorem ow_istore_n_2 {j : Fin 4} {x : Int} (hd : decode y.2.1 pc = .ok (.istore_n j, 1)) (hp : pc + 1 = pc') (hb : Nat.blt ((j : Nat)) y.2.2.1 = true) (hi : ow_ins lv j (0, x) = lv') (k : ow_At2 C E E' d y pc' lv' st b M K) : ow_At2 C E E' d y pc lv ((0, x) :: st) b M K := by
  subst hp
  subst hi
  have hb : (j : Nat) < y.2.2.1 := by simpa using hb
  intro p e s m args below meth c H locs ls cells slots cx hr hS hl hv hs
  exact lv_istore_n cx.1 cx.2.1 hd rfl hl hb rfl (fun ls2 hl2 => k p e s m args below meth c H locs ls2 cells slots cx hr hS (ow_ins_has (L := _) (fun _ => rfl) (fun z => absurd z (show ¬ (0 : Nat) = 1 by decide)) hl2) (ow_ins_rg (ow_r1 hs) hv) (ow_rs hs))
theorem ow_after_2 {p : Program} {e : Env} {s : State} {m : MethodId} {args a : Array Value} {below : List Frame} {meth : Method} {c : Code} {H : Heap} {locs : List Loc} {ls : Array Slot} {cells slots : Nat} {st0 : List Value} {ret : Option FieldType} (cx : ow_Cx C y p s m args meth c) (hS : va_S (ow_A C) s.heap H locs) (hl : lv_has ls y.2.2.1 (ow_lc C lv)) (hv : ∀ q ∈ lv, ow_rg q.2) (hs : ∀ v ∈ st, ow_rg v) (hb : b = (b1.1 + b2.1, b1.2 + b2.2))
    (hr : va_Run p C.1 e (ow_rm (d + 1) (cells + b.1) (slots + b.2)) s m args below meth c H locs cells slots b1.1 b1.2 (F0 m pc ls st0) (st.map (ow_cv C)) (ow_Q C E ret (fun r M' => ow_At2 C E E' (d + 1) y (pc + 3) lv (ow_ps ret r st) b2 M' K) a) (ow_A C)) :
    W p C.1 e (ow_rm (d + 1) (cells + b.1) (slots + b.2)) s m args below meth c H locs cells slots (MQ below (ow_Q C E' y.2.2.2 K) args s (cells + b.1) (slots + b.2) (ow_A C)) (F0 m pc ls st0) := by
  intro T hT X
  obtain ⟨v, st₀, t, T', L, h0, X', hL, e1, e2, ⟨⟨r, M', hv', hrg, hk, hrep⟩, hz, hkp⟩, stp⟩ := hr T hT X
  cases hv'
  rw [h0] at hz hkp
  have hS' : va_S (ow_A C) s.heap T'.heap (locs ++ L) := by
    refine ⟨Nat.le_trans hS.1 (by rw [e1]; exact hz), fun q h1 h2 => ?_, fun q hq => ?_⟩
    · rw [e1, hkp q (Nat.lt_of_lt_of_le h1 hS.1) h2]
      exact hS.2.1 q h1 h2
    · rcases List.mem_append.mp hq with h | h
      · exact hS.2.2 q h
      · exact hL q h
  have hW := hk p e s m args below meth c T'.heap (locs ++ L) ls (cells + b1.1) (slots + b1.2) cx (by rw [e1]; exact hrep) hS' hl hv (ow_ps_rg hrg hs)
  have a1 : cells + b1.1 + b2.1 = cells + b.1 := by rw [hb]; simp only []; omega
  have a2 : slots + b1.2 + b2.2 = slots + b.2 := by rw [hb]; simp only []; omega
  rw [a1, a2, ← ow_ps_cv] at hW
  obtain ⟨t2, q1, q2⟩ := hW T' rfl X'
  exact ⟨t2, stp t2 q1, q2⟩
theorem ow_callS_2 (hd : decode y.2.1 pc = .ok (.invokestatic ix, 3)) (hl : Cond.methodLink y.1.cls ix z.1 ∈ ow_gt) (hm : ow_mk z n) (hi : Cond.static z.1 ∈ ow_gt) (hn : vs.length = n) (hst : vs.reverse ++ st = stk) (hw : Nat.ble (ow_sw st) 8 = true) (hp : pc + 3 = pc') (hb : b = (b1.1 + b2.1, b1.2 + b2.2))
    (h : ow_Sp C E d z b1 vs M (fun r M' => ow_At2 C E E' (d + 1) y pc' lv (ow_ps z.2.2.2 r st) b2 M' K)) : ow_At2 C E E' (d + 1) y pc lv stk b M K := by
  subst hp
  subst hst
  intro p e s m args below meth c H locs ls cells slots cx hr hS hlv hv hs
  have hs1 : ∀ v ∈ st, ow_rg v := fun v h => hs v (List.mem_append_right _ h)
  have hs2 : ∀ v ∈ vs, ow_rg v := fun v h => hs v (List.mem_append_left _ (List.mem_reverse.mpr h))
  refine ow_after_2 (st := st) (b1 := b1) (b2 := b2) cx hS hlv hv hs1 hb (va_runS (As := vs.map (ow_cv C)) (rest := st.map (ow_cv C)) (Ts := ow_gt) (nL := y.2.2.1) ⟨cx.1, cx.2.1, cx.2.2.1, cx.2.2.2.2.2.1, cx.2.2.2.2.2.2.1⟩ h ⟨ow_cB cx hm hl, cx.2.2.2.2.2.2.1 _ hi⟩ ⟨ow_blind C E _ M, ow_pre cx hr hS hs2⟩ rfl (by rw [List.length_map]; exact hn) hlv.1 ?_ (lv_room (by rw [ow_sw_cat]; exact Nat.ble_eq.mp hw)) hd ?_)
  · show (vs.reverse ++ st).map (ow_cv C) = _
    rw [List.map_append, List.map_reverse]
  · show cells + b1.1 ≤ cells + b.1 ∧ slots + b1.2 ≤ slots + b.2
    rw [hb]; simp only []; omega
theorem ow_callI_2 (hd : decode y.2.1 pc = .ok (.invokespecial ix, 3)) (hl : Cond.methodLink y.1.cls ix z.1 ∈ ow_gt ∨ ∃ host, Cond.methodLinkNest y.1.cls ix z.1 host ∈ ow_nt) (hm : ow_mk z n) (hin : z.1.name = "<init>") (hv0 : z.2.2.2 = none) (hi : Cond.instanceMethod z.1 ∈ ow_gt) (hn : vs.length = n) (hst : vs.reverse ++ (3, x) :: st = stk) (hw : Nat.ble (ow_sw st) 8 = true) (hp : pc + 3 = pc') (hb : b = (b1.1 + b2.1, b1.2 + b2.2)) (hx0 : 0 ≤ x) (hx1 : x < 900)
    (h : ow_Sp C E d z b1 ((3, x) :: vs) M (fun r M' => ow_At2 C E E' (d + 1) y pc' lv st b2 M' K)) : ow_At2 C E E' (d + 1) y pc lv stk b M K := by
  subst hp
  subst hst
  intro p e s m args below meth c H locs ls cells slots cx hr hS hlv hv hs
  have hs1 : ∀ v ∈ st, ow_rg v := fun v h => hs v (List.mem_append_right _ (List.mem_cons_of_mem _ h))
  have hs2 : ∀ v ∈ (3, x) :: vs, ow_rg v := fun v h => (List.mem_cons.mp h).elim (fun e => by rw [e]; trivial) (fun h => hs v (List.mem_append_left _ (List.mem_reverse.mpr h)))
  have hpre := ow_pre (vs := (3, x) :: vs) cx hr hS hs2
  rw [List.map_cons, ow_ref C hx0 hx1] at hpre
  have hstk : (vs.reverse ++ (3, x) :: st).map (ow_cv C) = (vs.map (ow_cv C)).reverse ++ .ref (C.2.1 + x.toNat) :: st.map (ow_cv C) := by rw [List.map_append, List.map_cons, ow_ref C hx0 hx1, List.map_reverse]
  have hsm : cells + b1.1 ≤ cells + b.1 ∧ slots + b1.2 ≤ slots + b.2 := by rw [hb]; simp only []; omega
  have hQ : (fun r M' => ow_At2 C E E' (d + 1) y (pc + 3) lv st b2 M' K) = (fun r M' => ow_At2 C E E' (d + 1) y (pc + 3) lv (ow_ps z.2.2.2 r st) b2 M' K) := by
    funext r M'
    rw [hv0]
    rfl
  rw [hQ] at h
  have hts := cx.2.2.2.2.2.2.1
  rcases hl with hl | ⟨host, hl⟩
  · have hcb := ow_cB (d := d) (b1 := b1) (cells := cells + b.1) (slots := slots + b.2) cx hm hl
    have hMt : Met C.1 z.1 (.code z.1 z.2.1 z.2.2.1 none :: ow_gt) (ow_rm d b1.1 b1.2) (ow_Pc C E ((3, x) :: vs) M) (ow_Q C E z.2.2.2 (fun r M' => ow_At2 C E E' (d + 1) y (pc + 3) lv (ow_ps z.2.2.2 r st) b2 M' K)) b1.1 b1.2 (ow_A C) := by
      have h9 := h
      unfold ow_Sp at h9
      rw [hv0] at h9 ⊢
      exact h9
    rw [hv0] at hcb
    exact ow_after_2 (st := st) (b1 := b1) (b2 := b2) cx hS hlv hv hs1 hb (va_runI (b := C.2.1 + x.toNat) (As := vs.map (ow_cv C)) (rest := st.map (ow_cv C)) (Ts := ow_gt) (nL := y.2.2.1) ⟨cx.1, cx.2.1, cx.2.2.1, cx.2.2.2.2.2.1, hts⟩ hMt ⟨hcb, hin, hts _ hi⟩ ⟨ow_blind C E _ M, hpre⟩ rfl (by rw [List.length_map]; exact hn) hlv.1 hstk (lv_room (by rw [ow_sw_cat]; exact Nat.ble_eq.mp hw)) hd hsm)
  · have h41 : z.2.2.1 ≤ 41 := Nat.ble_eq.mp hm.2.2.2
    have hcn := va_cnB (own := y.1.cls) (host := host) (index := ix) (maxL := z.2.2.1) (mc := b1.1) (ms := b1.2) (y := z.1) (bytes := z.2.1) (ret := z.2.2.2) (rm := ow_rm d b1.1 b1.2) (R := ow_rm (d + 1) (cells + b.1) (slots + b.2)) (args := args) n hts (ow_good hm.2.1) rfl rfl rfl (cx.2.2.2.2.2.2.2.2.1.1 _ hl) (hts _ hm.2.2.1) hm.1 ⟨Nat.le_refl _, by show 8 + (z.2.2.1 + 11) + 60 * d ≤ 60 * (d + 1); omega⟩
    have hMt : Met C.1 z.1 (.code z.1 z.2.1 z.2.2.1 none :: ow_gt) (ow_rm d b1.1 b1.2) (ow_Pc C E ((3, x) :: vs) M) (ow_Q C E z.2.2.2 (fun r M' => ow_At2 C E E' (d + 1) y (pc + 3) lv (ow_ps z.2.2.2 r st) b2 M' K)) b1.1 b1.2 (ow_A C) := by
      have h9 := h
      unfold ow_Sp at h9
      rw [hv0] at h9 ⊢
      exact h9
    rw [hv0] at hcn
    exact ow_after_2 (st := st) (b1 := b1) (b2 := b2) cx hS hlv hv hs1 hb (va_runIN (b := C.2.1 + x.toNat) (As := vs.map (ow_cv C)) (rest := st.map (ow_cv C)) (Ts := ow_gt) (nL := y.2.2.1) ⟨cx.1, cx.2.1, cx.2.2.1, cx.2.2.2.2.2.1, hts⟩ hMt ⟨hcn, hin, hts _ hi⟩ ⟨ow_blind C E _ M, hpre⟩ rfl (by rw [List.length_map]; exact hn) hlv.1 hstk (lv_room (by rw [ow_sw_cat]; exact Nat.ble_eq.mp hw)) hd hsm)
theorem ow_new_2 (hd : decode y.2.1 pc = .ok (.new ix, 3)) (hr9 : ∃ r : vw_C, vwCl[k]? = some r ∧ Cond.classLink y.1.cls ix r.1 ∈ ow_gt ∧ Cond.instantiable r.1 r.2.2 ∈ ow_gt ∧ Cond.initialized r.1 ∈ ow_gt) (hp : pc + 3 = pc') (hE : E.2.2 = none) (hF : ∀ c i, E.1 c i = none) (hT : E.2.1 (M (-1) 0) = (k, (ow_nf k : Int))) (h8 : M (-1) 0 < 800) (hb : b = (1 + b2.1, ow_nf k + b2.2))
    (kk : ow_At2 C E E' d y pc' lv ((3, M (-1) 0) :: st) b2 (ow_mk1 M (ow_df k)) K) : ow_At2 C E E' d y pc lv st b M K := by
  subst hp
  intro p e s m args below meth c H locs ls cells slots cx hr hS hl hv hs
  obtain ⟨⟨R, T, N⟩, i1, i2, i3, i4⟩ := hr9
  have hN : ow_nf k = N := by unfold ow_nf; rw [i1]
  have hk : k < 13 := (List.getElem?_eq_some_iff.mp i1).1
  have hts := cx.2.2.2.2.2.2.1
  have hK := cx.2.2.2.2.2.2.2.1
  have hKn := hK.1 k _ i1
  have e0 : ow_nb E M = M (-1) 0 := by unfold ow_nb; rw [hE]
  have hsz : H.size = C.2.1 + (M (-1) 0).toNat := by rw [hr.2.2.1 hE, e0]
  have h0 : 0 ≤ M (-1) 0 := by have := hr.1; rw [e0] at this; exact this
  have a1 : cells + 1 + b2.1 = cells + b.1 := by rw [hb]; simp only []; omega
  have a2 : slots + N + b2.2 = slots + b.2 := by rw [hb, hN]; simp only []; omega
  refine W.newcK cx.1 cx.2.1 cx.2.2.2.2.2.1 (hts _ i2) (hts _ i3) (hts _ i4) rfl hd (by show cells + 1 ≤ cells + b.1; omega) (by show slots + N ≤ slots + b.2; omega) hKn.2.1 hsz fun H1 kC hkC e1 z1 o1 => ?_
  have hrep : ow_rep C E (ow_mk1 M (ow_df k)) H1 := by
    refine ow_rep_new (n := M (-1) 0) hr hE rfl h8 ow_mk1_c (fun c i h1 h2 => ow_mk1_o h1 (by omega)) (fun i h1 h2 => ?_) ?_ (by rw [z1, hsz]) (fun q hq => o1 q (by rw [← hsz]; exact hq))
    · rw [hT, ow_gv_none hF, ow_mk1_n h0]
      have e9 : ((i.toNat : Nat) : Int) = i := by omega
      have h9 := ow_df_rg k i.toNat
      rw [e9] at h9
      exact h9
    · rw [ow_cell_o (k := k) (by rw [hT]) (by omega)]
      refine ⟨_, i1, (u_born (ow_ty k) hts (ow_cls_in k hk _ i1) hKn hkC e1 (ow_cls_ty k hk _ i1).1).to (fun j hj => ?_)⟩
      have hj' : j < ow_nf k := by rw [hN]; exact hj
      have h9 := ow_fs_at (C := C) (E := E) (M := ow_mk1 M (ow_df k)) (c := M (-1) 0) (k := k) (j := j) (by rw [hT]) (by rw [hT]) hj'
      rw [ow_gv_none hF, ow_mk1_n h0] at h9
      unfold vp_V
      rw [List.getD_eq_getElem?_getD, h9, Option.getD_some]
      exact ow_df_cv C hk (by have := ow_nf_le k hk; omega)
  have hS' : va_S (ow_A C) s.heap H1 locs := ⟨Nat.le_trans hS.1 (by rw [z1, hsz]; omega), fun q g1 g2 => by rw [o1 q (by have := hS.1; omega)]; exact hS.2.1 q g1 g2, hS.2.2⟩
  have hkk := kk p e s m args below meth c H1 locs ls (cells + 1) (slots + N) cx hrep hS' hl hv (ow_rc (v := (3, _)) trivial hs)
  rw [a1, a2, List.map_cons, ow_ref C h0 (by omega)] at hkk
  exact hkk
theorem ow_callSp_2 (hd : decode y.2.1 pc = .ok (.invokestatic ix, 3)) (hl : Cond.methodLink y.1.cls ix z.1 ∈ ow_gt) (hm : ow_mk z n) (hi : Cond.static z.1 ∈ ow_gt) (hn : vs.length = n) (hst : vs.reverse ++ st = stk) (hw : Nat.ble (ow_sw st) 8 = true) (hrt : ow_rtg z.2.2.2 = some t) (hp : pc + 3 = pc') (hb : b = (b1.1 + b2.1, b1.2 + b2.2))
    (h : ow_Sp C E d z b1 vs M (fun r M' => ow_At2 C E E' (d + 1) y pc' lv ((t, r) :: st) b2 M' K)) : ow_At2 C E E' (d + 1) y pc lv stk b M K :=
  ow_callS_2 hd hl hm hi hn hst hw hp hb (ow_Sp.mono h (fun r M' h => by rw [ow_ps_some hrt]; exact h))
end TWO
theorem ow_new2_2 {C : ow_C} {E E' : ow_E} {d : Nat} {y : ow_Y} {pc pc' ix k : Nat} {lv : List (Nat × ow_V)} {st : List ow_V} {b b2 : Nat × Nat} {M : ow_M} {K : Int → ow_M → Prop} (hd : decode y.2.1 pc = .ok (.new ix, 3)) (hr9 : ∃ r : vw_C, vwCl[k]? = some r ∧ Cond.classLink y.1.cls ix r.1 ∈ ow_gt ∧ Cond.instantiable r.1 r.2.2 ∈ ow_gt ∧ Cond.initialized r.1 ∈ ow_gt) (hp : pc + 3 = pc') (hE : E.2.2 = none) (hF : ∀ c i, E.1 c i = none) (hT : E.2.1 (M (-1) 0) = (k, (ow_nf k : Int))) (h8 : M (-1) 0 < 800) (hb : b = (1 + b2.1, ow_nf k + b2.2)) (kk : ∀ q N, q = M (-1) 0 → N = ow_mk1 M (ow_df k) → ow_At2 C E E' d y pc' lv ((3, q) :: st) b2 N K) : ow_At2 C E E' d y pc lv st b M K := ow_new_2 hd hr9 hp hE hF hT h8 hb (kk _ _ rfl rfl)
set_option maxRecDepth 20000 in
theorem bL_law_0_2 {C : ow_C} {E E' : ow_E} {d : Nat} {M : ow_M} {K : Int → ow_M → Prop} {bc bs : Nat} (hE : E.2.2 = none) (hF : ∀ c i, E.1 c i = none) (h : E.2.1 (M (-1) 0) = (11, (19 : Int)) ∧ M (-1) 0 < 800 ∧ ∀ q1 N1, q1 = M (-1) 0 → N1 = ow_mk1 M (ow_df 11) → ow_Sp C E d mL_cell (0, 0) [(3, 999), (0, 0)] N1 (fun r2 N2 => ow_Sp C E d mL_cell (0, 0) [(3, 999), (0, 1)] N2 (fun r3 N3 => 0 ≤ q1 ∧ q1 < 900 ∧ ow_Sp C E d mX11_init (82, 21863) [(3, q1), (0, r2), (0, r3)] N3 (fun r4 N4 => E.2.1 (N4 (-1) 0) = (12, (40 : Int)) ∧ N4 (-1) 0 < 800 ∧ ∀ q5 N5, q5 = N4 (-1) 0 → N5 = ow_mk1 N4 (ow_df 12) → ow_Sp C E d mL_cell (0, 0) [(3, 999), (0, 0)] N5 (fun r6 N6 => ow_Sp C E d mL_cell (0, 0) [(3, 999), (0, 1)] N6 (fun r7 N7 => 0 ≤ q5 ∧ q5 < 900 ∧ ow_Sp C E d mX12_init (18, 114692) [(3, q5), (0, r6), (0, r7)] N7 (fun r8 N8 => ow_At2 C E E' (d + 1) mL_law 38 [(0, (3, 999)), (1, (3, q1)), (2, (3, q5)), (3, (0, 2))] [] (bc + 0, bs + 0) N8 K))))))) : ow_At2 C E E' (d + 1) mL_law 0 [(0, (3, 999))] [] (bc + 102, bs + 136614) M K := by
  obtain ⟨w, w1, h⟩ := h
  refine ow_new2_2 (pc' := 3) (b2 := (bc + 101, bs + 136595)) dL_law_0 nRL_7 rfl hE hF w w1 (Prod.ext (by show bc + _ = _ + (bc + _); omega) (by show bs + _ = 19 + (bs + _); omega)) (fun q1 N1 eq1 eN1 => ?_)
  have h := h q1 N1 eq1 eN1
  refine ow_dup_2 (pc' := 4) dL_law_3 rfl rfl ?_
  refine ow_aload_n_2 (pc' := 5) (x := 999) dL_law_4 rfl rfl ?_
  refine ow_iconst_2 (pc' := 6) (n := 0) dL_law_5 rfl rfl ?_
  refine ow_callSp_2 (z := mL_cell) (n := 2) (vs := [(3, 999), (0, 0)]) (st := [(3, q1), (3, q1)]) (pc' := 9) (b1 := (0, 0)) (b2 := _) dL_law_6 lRL_9 kL_cell zL_cell rfl rfl rfl rfl rfl (Prod.ext (Nat.zero_add _).symm (Nat.zero_add _).symm) (ow_Sp.mono h (fun r2 N2 h => ?_))
  refine ow_aload_n_2 (pc' := 10) (x := 999) dL_law_9 rfl rfl ?_
  refine ow_iconst_2 (pc' := 11) (n := 1) dL_law_10 rfl rfl ?_
  refine ow_callSp_2 (z := mL_cell) (n := 2) (vs := [(3, 999), (0, 1)]) (st := [(0, r2), (3, q1), (3, q1)]) (pc' := 14) (b1 := (0, 0)) (b2 := _) dL_law_11 lRL_9 kL_cell zL_cell rfl rfl rfl rfl rfl (Prod.ext (Nat.zero_add _).symm (Nat.zero_add _).symm) (ow_Sp.mono h (fun r3 N3 h => ?_))
  obtain ⟨w, w1, h⟩ := h
  refine ow_callI_2 (z := mX11_init) (n := 2) (vs := [(0, r2), (0, r3)]) (x := q1) (st := [(3, q1)]) (pc' := 17) (b1 := (82, 21863)) (b2 := (bc + 19, bs + 114732)) dL_law_14 (Or.inl lRL_15) kX11_init rfl rfl iX11_init rfl rfl rfl rfl (Prod.ext (by show bc + _ = _ + (bc + _); omega) (by show bs + _ = _ + (bs + _); omega)) w w1 (ow_Sp.mono h (fun r4 N4 h => ?_))
  refine ow_astore_n_2 (pc' := 18) (lv' := [(0, (3, 999)), (1, (3, q1))]) dL_law_17 rfl rfl rfl ?_
  obtain ⟨w, w1, h⟩ := h
  refine ow_new2_2 (pc' := 21) (b2 := (bc + 18, bs + 114692)) dL_law_18 nRL_18 rfl hE hF w w1 (Prod.ext (by show bc + _ = _ + (bc + _); omega) (by show bs + _ = 40 + (bs + _); omega)) (fun q5 N5 eq5 eN5 => ?_)
  have h := h q5 N5 eq5 eN5
  refine ow_dup_2 (pc' := 22) dL_law_21 rfl rfl ?_
  refine ow_aload_n_2 (pc' := 23) (x := 999) dL_law_22 rfl rfl ?_
  refine ow_iconst_2 (pc' := 24) (n := 0) dL_law_23 rfl rfl ?_
  refine ow_callSp_2 (z := mL_cell) (n := 2) (vs := [(3, 999), (0, 0)]) (st := [(3, q5), (3, q5)]) (pc' := 27) (b1 := (0, 0)) (b2 := _) dL_law_24 lRL_9 kL_cell zL_cell rfl rfl rfl rfl rfl (Prod.ext (Nat.zero_add _).symm (Nat.zero_add _).symm) (ow_Sp.mono h (fun r6 N6 h => ?_))
  refine ow_aload_n_2 (pc' := 28) (x := 999) dL_law_27 rfl rfl ?_
  refine ow_iconst_2 (pc' := 29) (n := 1) dL_law_28 rfl rfl ?_
  refine ow_callSp_2 (z := mL_cell) (n := 2) (vs := [(3, 999), (0, 1)]) (st := [(0, r6), (3, q5), (3, q5)]) (pc' := 32) (b1 := (0, 0)) (b2 := _) dL_law_29 lRL_9 kL_cell zL_cell rfl rfl rfl rfl rfl (Prod.ext (Nat.zero_add _).symm (Nat.zero_add _).symm) (ow_Sp.mono h (fun r7 N7 h => ?_))
  obtain ⟨w, w1, h⟩ := h
  refine ow_callI_2 (z := mX12_init) (n := 2) (vs := [(0, r6), (0, r7)]) (x := q5) (st := [(3, q5)]) (pc' := 35) (b1 := (18, 114692)) (b2 := (bc + 0, bs + 0)) dL_law_32 (Or.inl lRL_20) kX12_init rfl rfl iX12_init rfl rfl rfl rfl (Prod.ext (by show bc + _ = _ + (bc + _); omega) (by show bs + _ = _ + (bs + _); omega)) w w1 (ow_Sp.mono h (fun r8 N8 h => ?_))
  refine ow_astore_n_2 (pc' := 36) (lv' := [(0, (3, 999)), (1, (3, q1)), (2, (3, q5))]) dL_law_35 rfl rfl rfl ?_
  refine ow_iconst_2 (pc' := 37) (n := 2) dL_law_36 rfl rfl ?_
  refine ow_istore_n_2 (pc' := 38) (lv' := [(0, (3, 999)), (1, (3, q1)), (2, (3, q5)), (3, (0, 2))]) dL_law_37 rfl rfl rfl ?_
  exact h
