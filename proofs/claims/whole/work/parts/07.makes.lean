/-! ===== cells that are made ===== -/
/-- the memory with one cell more, which holds f -/
def ow_mk1 (M : ow_M) (f : Int → Int) : ow_M := fun c i => if c = -1 ∧ i = 0 then M (-1) 0 + 1 else if c = M (-1) 0 then f i else M c i
def ow_df (k : Nat) (i : Int) : Int := if ow_tg k i.toNat = 3 then -1 else 0
theorem ow_rep_new {C : ow_C} {E : ow_E} {M M' : ow_M} {H H' : Heap} {n : Int} (h : ow_rep C E M H) (hE : E.2.2 = none) (hn : M (-1) 0 = n) (h8 : n < 800) (hc : M' (-1) 0 = n + 1) (hold : ∀ c i, 0 ≤ c → c < n → M' c i = M c i)
    (hrg : ∀ i, 0 ≤ i → i < (E.2.1 n).2 → ow_rg (ow_tg (E.2.1 n).1 i.toNat, ow_gv E M' n i)) (he : va_at C.2.2.1 vwCl (C.2.1 + n.toNat, ow_cell C E M' n) H') (hz : H'.size = H.size + 1) (ho : ∀ q : Nat, q < H.size → H'[q]? = H[q]?) : ow_rep C E M' H' := by
  obtain ⟨r0, r1, r2, r3, r4⟩ := h
  have e0 : ow_nb E M = n := by unfold ow_nb; rw [hE]; exact hn
  have e1 : ow_nb E M' = n + 1 := by unfold ow_nb; rw [hE]; exact hc
  have r2 := r2 hE
  rw [e0] at r0 r1 r2
  have hg : ∀ c i, 0 ≤ c → c < n → ow_gv E M' c i = ow_gv E M c i := by
    intro c i h1 h2
    unfold ow_gv
    rw [hold c i h1 h2]
  have hcell : ∀ c, 0 ≤ c → c < n → ow_cell C E M' c = ow_cell C E M c := by
    intro c h1 h2
    unfold ow_cell
    have : ∀ j : Int, ow_gv E M' c j = ow_gv E M c j := fun j => hg c j h1 h2
    simp only [this]
  refine ⟨by omega, by omega, (fun _ => by rw [hz, r2, e1]; omega), ?_, ?_⟩
  · intro k q hk
    obtain ⟨g1, rfl⟩ := ow_ws_inv hk
    rw [e1] at g1
    by_cases hkn : (k : Int) < n
    · have h9 := r3 k _ (by have := ow_ws_at (C := C) (E := E) (M := M) (c := (k : Int)) (by omega) (by omega); simpa using this)
      rw [hcell k (by omega) hkn]
      refine h9.kept (ho _ ?_)
      show C.2.1 + k < H.size
      omega
    · have : (k : Int) = n := by omega
      have h3 : k = n.toNat := by omega
      subst h3
      rw [this]
      exact he
  · intro c h1 h2 i h3 h4
    rw [e1] at h2
    by_cases hcn : c < n
    · rw [hg c i h1 hcn]
      exact r4 c h1 (by omega) i h3 h4
    · have : c = n := by omega
      subst this
      exact hrg i h3 h4
theorem ow_mk1_c {M : ow_M} {f : Int → Int} : ow_mk1 M f (-1) 0 = M (-1) 0 + 1 := by simp [ow_mk1]
theorem ow_mk1_o {M : ow_M} {f : Int → Int} {c i : Int} (h0 : 0 ≤ c) (h : c ≠ M (-1) 0) : ow_mk1 M f c i = M c i := by
  unfold ow_mk1
  rw [if_neg (by omega), if_neg h]
theorem ow_mk1_n {M : ow_M} {f : Int → Int} {i : Int} (h0 : 0 ≤ M (-1) 0) : ow_mk1 M f (M (-1) 0) i = f i := by
  unfold ow_mk1
  rw [if_neg (by omega), if_pos rfl]
theorem ow_gv_none {E : ow_E} (h : ∀ c i, E.1 c i = none) (M : ow_M) (c i : Int) : ow_gv E M c i = M c i := by
  unfold ow_gv
  rw [h]
theorem ow_df_rg (k j : Nat) : ow_rg (ow_tg k j, ow_df k (j : Int)) := by
  unfold ow_df
  rw [Int.toNat_natCast]
  have h4 : ow_tg k j = 0 ∨ ow_tg k j = 1 ∨ ow_tg k j = 2 ∨ ow_tg k j = 3 := by
    unfold ow_tg
    split
    · omega
    · omega
    · omega
    · omega
    · omega
    · unfold ow_tt
      split <;> omega
  rcases h4 with h | h | h | h <;> rw [h]
  · exact ⟨by decide, by decide⟩
  · exact ⟨by decide, by decide⟩
  · exact Or.inl rfl
  · trivial
theorem ow_df_cv (C : ow_C) {k : Nat} (hk : k < 13) {j : Nat} (hj : j < 40) : defaultValue (ow_ty k j) = ow_cv C (ow_tg k j, ow_df k (j : Int)) := by
  unfold ow_df
  rw [Int.toNat_natCast, ow_tg_lt hk]
  rcases ow_tyok_s (ow_cls_tyok k hk j hj) with h | h | h | ⟨n, h⟩ | ⟨t, h⟩ <;> rw [h] <;> rfl
section OWN
variable {C : ow_C} {E : ow_E} {d : Nat} {y z : ow_Y} {pc pc' tg ix n k : Nat} {lv lv' : List (Nat × ow_V)} {st stk vs : List ow_V} {b b2 : Nat × Nat} {M : ow_M} {K : Int → ow_M → Prop} {x : Int}
theorem ow_new (hd : decode y.2.1 pc = .ok (.new ix, 3)) (hr9 : ∃ r : vw_C, vwCl[k]? = some r ∧ Cond.classLink y.1.cls ix r.1 ∈ ow_gt ∧ Cond.instantiable r.1 r.2.2 ∈ ow_gt ∧ Cond.initialized r.1 ∈ ow_gt) (hp : pc + 3 = pc') (hE : E.2.2 = none) (hF : ∀ c i, E.1 c i = none) (hT : E.2.1 (M (-1) 0) = (k, (ow_nf k : Int))) (h8 : M (-1) 0 < 800) (hb : b = (1 + b2.1, ow_nf k + b2.2))
    (kk : ow_At C E d y pc' lv ((3, M (-1) 0) :: st) b2 (ow_mk1 M (ow_df k)) K) : ow_At C E d y pc lv st b M K := by
  subst hp
  intro p e s m args below meth c H locs ls cells slots cx hr hS hl hv hs
  obtain ⟨⟨R, T, N⟩, i1, i2, i3, i4⟩ := hr9
  have hN : ow_nf k = N := by unfold ow_nf; rw [i1]
  have hk : k < 13 := (List.getElem?_eq_some_iff.mp i1).1
  have hts := cx.2.2.2.2.2.2.1
  have hK := cx.2.2.2.2.2.2.2.1
  have hKn := hK.1 k _ i1
  have e0 : ow_nb E M = M (-1) 0 := by unfold ow_nb; rw [hE]
  have hsz : H.size = C.2.1 + (M (-1) 0).toNat := by rw [hr.2.2.1 hE, e0]
  have h0 : 0 ≤ M (-1) 0 := by have := hr.1; rw [e0] at this; exact this
  have a1 : cells + 1 + b2.1 = cells + b.1 := by rw [hb]; simp only []; omega
  have a2 : slots + N + b2.2 = slots + b.2 := by rw [hb, hN]; simp only []; omega
  refine W.newcK cx.1 cx.2.1 cx.2.2.2.2.2.1 (hts _ i2) (hts _ i3) (hts _ i4) rfl hd (by show cells + 1 ≤ cells + b.1; omega) (by show slots + N ≤ slots + b.2; omega) hKn.2.1 hsz fun H1 kC hkC e1 z1 o1 => ?_
  have hrep : ow_rep C E (ow_mk1 M (ow_df k)) H1 := by
    refine ow_rep_new (n := M (-1) 0) hr hE rfl h8 ow_mk1_c (fun c i h1 h2 => ow_mk1_o h1 (by omega)) (fun i h1 h2 => ?_) ?_ (by rw [z1, hsz]) (fun q hq => o1 q (by rw [← hsz]; exact hq))
    · rw [hT, ow_gv_none hF, ow_mk1_n h0]
      have e9 : ((i.toNat : Nat) : Int) = i := by omega
      have h9 := ow_df_rg k i.toNat
      rw [e9] at h9
      exact h9
    · rw [ow_cell_o (k := k) (by rw [hT]) (by omega)]
      refine ⟨_, i1, (u_born (ow_ty k) hts (ow_cls_in k hk _ i1) hKn hkC e1 (ow_cls_ty k hk _ i1).1).to (fun j hj => ?_)⟩
      have hj' : j < ow_nf k := by rw [hN]; exact hj
      have h9 := ow_fs_at (C := C) (E := E) (M := ow_mk1 M (ow_df k)) (c := M (-1) 0) (k := k) (j := j) (by rw [hT]) (by rw [hT]) hj'
      rw [ow_gv_none hF, ow_mk1_n h0] at h9
      unfold vp_V
      rw [List.getD_eq_getElem?_getD, h9, Option.getD_some]
      exact ow_df_cv C hk (by have := ow_nf_le k hk; omega)
  have hS' : va_S (ow_A C) s.heap H1 locs := ⟨Nat.le_trans hS.1 (by rw [z1, hsz]; omega), fun q g1 g2 => by rw [o1 q (by have := hS.1; omega)]; exact hS.2.1 q g1 g2, hS.2.2⟩
  have hkk := kk p e s m args below meth c H1 locs ls (cells + 1) (slots + N) cx hrep hS' hl hv (ow_rc (v := (3, _)) trivial hs)
  rw [a1, a2, List.map_cons, ow_ref C h0 (by omega)] at hkk
  exact hkk
theorem ow_newarr_aux {p : Program} {e : Env} {s : State} {m : MethodId} {args : Array Value} {below : List Frame} {meth : Method} {c : Code} {H H1 : Heap} {locs : List Loc} {ls : Array Slot} {cells slots : Nat} {v : Int} {nn : Int} {t N : Nat} (cx : ow_Cx C y p s m args meth c) (hr : ow_rep C E M H) (hS : va_S (ow_A C) s.heap H locs) (hl : lv_has ls y.2.2.1 (ow_lc C lv)) (hv : ∀ q ∈ lv, ow_rg q.2) (hs : ∀ w ∈ st, ow_rg w) (hE : E.2.2 = none) (hF : ∀ c i, E.1 c i = none) (hT : E.2.1 (M (-1) 0) = (t, nn)) (h8 : M (-1) 0 < 800) (hb : b = (1 + b2.1, N + b2.2)) (hvr : ∀ j : Nat, ow_rg (ow_tg t j, v))
    (hcell : va_at C.2.2.1 vwCl (C.2.1 + (M (-1) 0).toNat, ow_cell C E (ow_mk1 M (fun _ => v)) (M (-1) 0)) H1) (z1 : H1.size = H.size + 1) (o1 : ∀ q : Nat, q < H.size → H1[q]? = H[q]?)
    (kk : ow_At C E d y pc' lv ((3, M (-1) 0) :: st) b2 (ow_mk1 M (fun _ => v)) K) : W p C.1 e (ow_rm d (cells + b.1) (slots + b.2)) s m args below meth c H1 locs (cells + 1) (slots + N) (MQ below (ow_Q C E y.2.2.2 K) args s (cells + b.1) (slots + b.2) (ow_A C)) (F0 m pc' ls (.ref H.size :: st.map (ow_cv C))) := by
  have e0 : ow_nb E M = M (-1) 0 := by unfold ow_nb; rw [hE]
  have hsz : H.size = C.2.1 + (M (-1) 0).toNat := by rw [hr.2.2.1 hE, e0]
  have h0 : 0 ≤ M (-1) 0 := by have := hr.1; rw [e0] at this; exact this
  have a1 : cells + 1 + b2.1 = cells + b.1 := by rw [hb]; simp only []; omega
  have a2 : slots + N + b2.2 = slots + b.2 := by rw [hb]; simp only []; omega
  have hrep : ow_rep C E (ow_mk1 M (fun _ => v)) H1 := by
    refine ow_rep_new (n := M (-1) 0) hr hE rfl h8 ow_mk1_c (fun c i h1 h2 => ow_mk1_o h1 (by omega)) (fun i h1 h2 => ?_) hcell z1 o1
    rw [hT, ow_gv_none hF, ow_mk1_n h0]
    exact hvr _
  have hS' : va_S (ow_A C) s.heap H1 locs := ⟨Nat.le_trans hS.1 (by rw [z1]; omega), fun q g1 g2 => by rw [o1 q (by have := hS.1; omega)]; exact hS.2.1 q g1 g2, hS.2.2⟩
  have hkk := kk p e s m args below meth c H1 locs ls (cells + 1) (slots + N) cx hrep hS' hl hv (ow_rc (v := (3, _)) trivial hs)
  rw [a1, a2, List.map_cons, ow_ref C h0 (by omega), ← hsz] at hkk
  exact hkk
theorem ow_tys_u {C : ow_C} {s : State} {cA : ClassId} {t : Nat} {ty : FieldType} (hK : va_K C.2.2.1 vwCl (ow_tys C) s) (ht : (ow_tys C)[t]? = some (C.2.2.2.1 t, ty)) (hty : ∀ nm, ty ≠ .object nm) (h : s.vm.findClass ("[" ++ ty.toString) = some cA) : cA = C.2.2.2.1 t := by
  have h1 := (hK.2 t _ ht).2
  cases ty <;> first | exact Option.some.inj (h.symm.trans h1) | exact absurd rfl (hty _)
theorem ow_newi {nn : Int} {N : Nat} (hd : decode y.2.1 pc = .ok (.newarray .int, 2)) (hw : Cond.arrayClass .int ∈ ow_gt) (hp : pc + 2 = pc') (hE : E.2.2 = none) (hF : ∀ c i, E.1 c i = none) (hT : E.2.1 (M (-1) 0) = (100, nn)) (h8 : M (-1) 0 < 800) (hn0 : 0 ≤ nn) (hnN : nn ≤ N) (hN : Nat.ble N 100000 = true) (hb : b = (1 + b2.1, N + b2.2))
    (kk : ow_At C E d y pc' lv ((3, M (-1) 0) :: st) b2 (ow_mk1 M (fun _ => 0)) K) : ow_At C E d y pc lv ((0, nn) :: st) b M K := by
  subst hp
  have hN : N ≤ 100000 := Nat.ble_eq.mp hN
  intro p e s m args below meth c H locs ls cells slots cx hr hS hl hv hs
  have hi : ow_I nn := ow_r1 hs
  have e0 : ow_nb E M = M (-1) 0 := by unfold ow_nb; rw [hE]
  have hsz : H.size = C.2.1 + (M (-1) 0).toNat := by rw [hr.2.2.1 hE, e0]
  have h0 : 0 ≤ M (-1) 0 := by have := hr.1; rw [e0] at this; exact this
  rw [List.map_cons]
  refine va_newaK (atype := .int) cx.1 cx.2.1 (cx.2.2.2.2.2.2.1 _ hw) rfl hd rfl (by rw [show (0 : Int32) = Int32.ofInt 0 from rfl, ow_ilt hi ow_i0]; omega) (ow_clamp hi) (by show nn.toNat * 4 ≤ _; omega) (by show cells + 1 ≤ cells + b.1; rw [hb]; simp only []; omega) (by show slots + nn.toNat ≤ slots + b.2; rw [hb]; simp only []; omega) rfl fun H1 cA e1 z1 o1 hAr hfc => ?_
  refine W.widen (k := cells + 1) (n := slots + N) (Nat.le_refl _) (by omega) ?_
  refine ow_newarr_aux (t := 100) (nn := nn) (v := 0) (N := N) cx hr hS hl hv (ow_rs hs) hE hF hT h8 hb (fun j => (show ow_I 0 from ⟨by decide, by decide⟩)) ?_ z1 o1 kk
  unfold ow_cell
  rw [hT]
  show H1[C.2.1 + (M (-1) 0).toNat]? = some (vp_cell _ _)
  rw [← hsz, e1, vp_cell_i, ow_tys_u (t := 0) cx.2.2.2.2.2.2.2.1 rfl (fun _ h => by cases h) hfc]
  congr 2
  funext j
  rw [ow_gv_none hF, ow_mk1_n h0]
  rfl
theorem ow_newj {nn : Int} {N : Nat} (hd : decode y.2.1 pc = .ok (.newarray .long, 2)) (hw : Cond.arrayClass .long ∈ ow_gt) (hp : pc + 2 = pc') (hE : E.2.2 = none) (hF : ∀ c i, E.1 c i = none) (hT : E.2.1 (M (-1) 0) = (101, nn)) (h8 : M (-1) 0 < 800) (hn0 : 0 ≤ nn) (hnN : nn ≤ N) (hN : Nat.ble N 100000 = true) (hb : b = (1 + b2.1, N + b2.2))
    (kk : ow_At C E d y pc' lv ((3, M (-1) 0) :: st) b2 (ow_mk1 M (fun _ => 0)) K) : ow_At C E d y pc lv ((0, nn) :: st) b M K := by
  subst hp
  have hN : N ≤ 100000 := Nat.ble_eq.mp hN
  intro p e s m args below meth c H locs ls cells slots cx hr hS hl hv hs
  have hi : ow_I nn := ow_r1 hs
  have e0 : ow_nb E M = M (-1) 0 := by unfold ow_nb; rw [hE]
  have hsz : H.size = C.2.1 + (M (-1) 0).toNat := by rw [hr.2.2.1 hE, e0]
  have h0 : 0 ≤ M (-1) 0 := by have := hr.1; rw [e0] at this; exact this
  rw [List.map_cons]
  refine va_newaK (atype := .long) cx.1 cx.2.1 (cx.2.2.2.2.2.2.1 _ hw) rfl hd rfl (by rw [show (0 : Int32) = Int32.ofInt 0 from rfl, ow_ilt hi ow_i0]; omega) (ow_clamp hi) (by show nn.toNat * 8 ≤ _; omega) (by show cells + 1 ≤ cells + b.1; rw [hb]; simp only []; omega) (by show slots + nn.toNat ≤ slots + b.2; rw [hb]; simp only []; omega) rfl fun H1 cA e1 z1 o1 hAr hfc => ?_
  refine W.widen (k := cells + 1) (n := slots + N) (Nat.le_refl _) (by omega) ?_
  refine ow_newarr_aux (t := 101) (nn := nn) (v := 0) (N := N) cx hr hS hl hv (ow_rs hs) hE hF hT h8 hb (fun j => (show ow_L 0 from ⟨by decide, by decide⟩)) ?_ z1 o1 kk
  unfold ow_cell
  rw [hT]
  show H1[C.2.1 + (M (-1) 0).toNat]? = some (vp_cell _ _)
  rw [← hsz, e1, vp_cell_l, ow_tys_u (t := 1) cx.2.2.2.2.2.2.2.1 rfl (fun _ h => by cases h) hfc]
  congr 2
  funext j
  rw [ow_gv_none hF, ow_mk1_n h0]
  rfl
theorem ow_newz {nn : Int} {N : Nat} (hd : decode y.2.1 pc = .ok (.newarray .boolean, 2)) (hw : Cond.arrayClass .boolean ∈ ow_gt) (hp : pc + 2 = pc') (hE : E.2.2 = none) (hF : ∀ c i, E.1 c i = none) (hT : E.2.1 (M (-1) 0) = (102, nn)) (h8 : M (-1) 0 < 800) (hn0 : 0 ≤ nn) (hnN : nn ≤ N) (hN : Nat.ble N 100000 = true) (hb : b = (1 + b2.1, N + b2.2))
    (kk : ow_At C E d y pc' lv ((3, M (-1) 0) :: st) b2 (ow_mk1 M (fun _ => 0)) K) : ow_At C E d y pc lv ((0, nn) :: st) b M K := by
  subst hp
  have hN : N ≤ 100000 := Nat.ble_eq.mp hN
  intro p e s m args below meth c H locs ls cells slots cx hr hS hl hv hs
  have hi : ow_I nn := ow_r1 hs
  have e0 : ow_nb E M = M (-1) 0 := by unfold ow_nb; rw [hE]
  have hsz : H.size = C.2.1 + (M (-1) 0).toNat := by rw [hr.2.2.1 hE, e0]
  have h0 : 0 ≤ M (-1) 0 := by have := hr.1; rw [e0] at this; exact this
  rw [List.map_cons]
  refine va_newaK (atype := .boolean) cx.1 cx.2.1 (cx.2.2.2.2.2.2.1 _ hw) rfl hd rfl (by rw [show (0 : Int32) = Int32.ofInt 0 from rfl, ow_ilt hi ow_i0]; omega) (ow_clamp hi) (by show nn.toNat * 1 ≤ _; omega) (by show cells + 1 ≤ cells + b.1; rw [hb]; simp only []; omega) (by show slots + nn.toNat ≤ slots + b.2; rw [hb]; simp only []; omega) rfl fun H1 cA e1 z1 o1 hAr hfc => ?_
  refine W.widen (k := cells + 1) (n := slots + N) (Nat.le_refl _) (by omega) ?_
  refine ow_newarr_aux (t := 102) (nn := nn) (v := 0) (N := N) cx hr hS hl hv (ow_rs hs) hE hF hT h8 hb (fun j => (show (0 : Int) = 0 ∨ (0 : Int) = 1 from Or.inl rfl)) ?_ z1 o1 kk
  unfold ow_cell
  rw [hT]
  show H1[C.2.1 + (M (-1) 0).toNat]? = some (vp_cell _ _)
  rw [← hsz, e1, vp_cell_i, ow_tys_u (t := 2) cx.2.2.2.2.2.2.2.1 rfl (fun _ h => by cases h) hfc]
  congr 2
  funext j
  rw [ow_gv_none hF, ow_mk1_n h0]
  rfl
theorem ow_newt {nn : Int} {N : Nat} (hd : decode y.2.1 pc = .ok (.anewarray ix, 3)) (hw : Cond.classLink y.1.cls ix "OneLetterWrong$Text" ∈ ow_gt) (hp : pc + 3 = pc') (hE : E.2.2 = none) (hF : ∀ c i, E.1 c i = none) (hT : E.2.1 (M (-1) 0) = (103, nn)) (h8 : M (-1) 0 < 800) (hn0 : 0 ≤ nn) (hnN : nn ≤ N) (hN : Nat.ble N 100000 = true) (hb : b = (1 + b2.1, N + b2.2))
    (kk : ow_At C E d y pc' lv ((3, M (-1) 0) :: st) b2 (ow_mk1 M (fun _ => -1)) K) : ow_At C E d y pc lv ((0, nn) :: st) b M K := by
  subst hp
  have hN : N ≤ 100000 := Nat.ble_eq.mp hN
  intro p e s m args below meth c H locs ls cells slots cx hr hS hl hv hs
  have hi : ow_I nn := ow_r1 hs
  have e0 : ow_nb E M = M (-1) 0 := by unfold ow_nb; rw [hE]
  have hsz : H.size = C.2.1 + (M (-1) 0).toNat := by rw [hr.2.2.1 hE, e0]
  have h0 : 0 ≤ M (-1) 0 := by have := hr.1; rw [e0] at this; exact this
  rw [List.map_cons]
  refine W.anew cx.1 cx.2.1 cx.2.2.2.2.2.1 (cx.2.2.2.2.2.2.1 _ hw) (va_AO.use cx.2.2.2.2.2.2.2.2.1.2.1) rfl hd rfl (by rw [show (0 : Int32) = Int32.ofInt 0 from rfl, ow_ilt hi ow_i0]; omega) (by rw [ow_clamp hi]; omega) (by show cells + 1 ≤ cells + b.1; rw [hb]; simp only []; omega) (by rw [ow_clamp hi]; show slots + nn.toNat ≤ slots + b.2; rw [hb]; simp only []; omega) fun cA kA comp f1 f2 f3 f4 => ?_
  rw [ow_clamp hi]
  refine W.widen (k := cells + 1) (n := slots + N) (Nat.le_refl _) (by omega) ?_
  have hcA : cA = C.2.2.2.1 3 := by
    obtain ⟨kA', comp', k1, k2, k3, k4⟩ := (cx.2.2.2.2.2.2.2.1.2 3 _ rfl).2
    exact Option.some.inj (f1.symm.trans k4)
  refine ow_newarr_aux (t := 103) (nn := nn) (v := -1) (N := N) cx hr hS hl hv (ow_rs hs) hE hF hT h8 hb (fun j => trivial) ?_ (by rw [Array.size_push]) (fun q hq => by rw [Array.getElem?_push, if_neg (Nat.ne_of_lt hq)]) kk
  unfold ow_cell
  rw [hT]
  show (H.push _)[C.2.1 + (M (-1) 0).toNat]? = some (vp_cell _ _)
  rw [← hsz, Array.getElem?_push_size, arrV_new, vp_cell_q, hcA]
  congr 2
  funext j
  rw [ow_gv_none hF, ow_mk1_n h0]
  rfl
/-- a text is put into the row of texts -/
theorem ow_aastore {x i v : Int} (hd : decode y.2.1 pc = .ok (.aastore, 1)) (hp : pc + 1 = pc') (hR : ow_R E M x 103 i) (hn : E.1 x i = none) (hO : ow_O E M v 7) (kk : ow_At C E d y pc' lv st b (ow_up M x i v) K) : ow_At C E d y pc lv ((3, v) :: (0, i) :: (3, x) :: st) b M K := by
  subst hp
  intro p e s m args below meth c H locs ls cells slots cx hr hS hl hv hs
  obtain ⟨o0, o1, o2, o3, o4⟩ := hR
  obtain ⟨v0, v1, v2, v3⟩ := hO
  have hi : ow_I i := ow_r1 (ow_rs hs)
  have hx : x < 900 := by have := hr.2.1; omega
  have hv9 : v < 900 := by have := hr.2.1; omega
  rw [List.map_cons, List.map_cons, List.map_cons, ow_ref C o0 hx, ow_ref C v0 hv9]
  have hat := ow_ws_at (C := C) (E := E) (M := M) o0 o1
  unfold ow_cell at hat
  rw [o2] at hat
  have hatv : (ow_ws C E M)[v.toNat]? = some (C.2.1 + v.toNat, .inr (7, ow_fs C E M v)) := by rw [ow_ws_at v0 v1, ow_cell_o v2 (by omega)]
  have hP := hr.2.2.2.1
  have hK := cx.2.2.2.2.2.2.2.1
  have hin := ow_vin (n := (E.2.1 x).2.toNat) hi o3 (by omega)
  have e1 : ((i.toNat : Nat) : Int) = i := by omega
  have hlt : i.toNat < (E.2.1 x).2.toNat := by omega
  obtain ⟨r', hr', cellV, g1, g2, g3, -⟩ := hP v.toNat _ hatv
  have hcls := (hK.1 7 (RX7, TX7, 15) rfl).2
  obtain ⟨kA, comp, k1, k2, k3, -⟩ := (hK.2 3 _ rfl).2
  have hcomp : comp = C.2.2.1.1 7 := Option.some.inj (k3.symm.trans hcls.1)
  subst hcomp
  obtain ⟨kC, hkC, -⟩ := hcls.2
  refine W.aast cx.1 cx.2.1 (hP x.toNat _ hat) (fun q h => by cases h) (fun h => by cases h) k1 k2 rfl hkC ⟨fun q => hin (Or.inl q), by show _ < (arrV _ _ _).slots.size; rw [arrV_size, ow_clamp hi]; exact hlt⟩ g1 (fun q h => by rw [g3] at h; cases h) (by rw [g2]; exact hkC) (by rw [g2]; exact va_assign hcls) rfl rfl hd fun H1 e z oq => ?_
  refine kk p _ s m args below meth c H1 _ ls cells slots cx (ow_rep_up hr o0 o1 (by rw [o2]; exact trivial) ?_ z oq) (hS.put z oq (Nat.le_add_right _ _)) hl hv (ow_rs (ow_rs (ow_rs hs)))
  unfold ow_cell
  rw [o2]
  show H1[C.2.1 + x.toNat]? = some (vp_cell _ _)
  rw [e, vp_cell_q, vp_cell_q, arrV_store]
  congr 2
  funext q
  rw [ow_clamp hi]
  by_cases hq : q = i.toNat
  · subst hq
    rw [e1, ow_gv_self hn, ow_rfs C v0 hv9]
    simp [updV, va_rf]
  · rw [ow_gv_ne (fun z => hq (by have := z.2; omega))]
    simp [updV, hq]
end OWN
