/-! ===== rows of arrays, of the end and the beginning, of calls ===== -/
theorem ow_clamp {i : Int} (h : ow_I i) : (Int32.ofInt i).toNatClampNeg = i.toNat := by
  show (Int32.ofInt i).toInt.toNat = i.toNat
  rw [ow_ti h]
theorem ow_vin {i : Int} {n : Nat} (h : ow_I i) (h0 : 0 ≤ i) (h1 : i < n) : vp_in (Int32.ofInt i) n := by
  rw [vp_in_iff, ow_ti h]
  exact ⟨h0, h1⟩
theorem ow_ofN (n : Nat) : Int32.ofNat n = Int32.ofInt (n : Int) := (Int32.ofInt_eq_ofNat).symm
section OWA
variable {C : ow_C} {E : ow_E} {d : Nat} {y : ow_Y} {pc pc' tg : Nat} {lv lv' : List (Nat × ow_V)} {st : List ow_V} {b : Nat × Nat} {M : ow_M} {K : Int → ow_M → Prop}
theorem ow_iaload {x i : Int} (hd : decode y.2.1 pc = .ok (.iaload, 1)) (hp : pc + 1 = pc') (hR : ow_R E M x 100 i) (kk : ow_At C E d y pc' lv ((0, ow_gv E M x i) :: st) b M K) : ow_At C E d y pc lv ((0, i) :: (3, x) :: st) b M K := by
  subst hp
  intro p e s m args below meth c H locs ls cells slots cx hr hS hl hv hs
  obtain ⟨o0, o1, o2, o3, o4⟩ := hR
  have hi : ow_I i := ow_r1 hs
  have hx : x < 900 := by have := hr.2.1; omega
  rw [List.map_cons, List.map_cons, ow_ref C o0 hx]
  have hat := ow_ws_at (C := C) (E := E) (M := M) o0 o1
  unfold ow_cell at hat
  rw [o2] at hat
  have hrg := hr.2.2.2.2 x o0 o1 i o3 o4
  rw [o2] at hrg
  refine va_iald cx.1 cx.2.1 cx.2.2.2.2.2.2.2.1 hr.2.2.2.1 x.toNat 0 hat rfl (ow_vin hi o3 (by omega)) hd ?_
  rw [ow_clamp hi]
  have e1 : ((i.toNat : Nat) : Int) = i := by omega
  rw [e1]
  exact kk p e s m args below meth c H locs ls cells slots cx hr hS hl hv (ow_rc (v := (0, _)) hrg (ow_rs (ow_rs hs)))
theorem ow_baload {x i : Int} (hd : decode y.2.1 pc = .ok (.baload, 1)) (hp : pc + 1 = pc') (hR : ow_R E M x 102 i) (kk : ow_At C E d y pc' lv ((0, ow_gv E M x i) :: st) b M K) : ow_At C E d y pc lv ((0, i) :: (3, x) :: st) b M K := by
  subst hp
  intro p e s m args below meth c H locs ls cells slots cx hr hS hl hv hs
  obtain ⟨o0, o1, o2, o3, o4⟩ := hR
  have hi : ow_I i := ow_r1 hs
  have hx : x < 900 := by have := hr.2.1; omega
  rw [List.map_cons, List.map_cons, ow_ref C o0 hx]
  have hat := ow_ws_at (C := C) (E := E) (M := M) o0 o1
  unfold ow_cell at hat
  rw [o2] at hat
  have hrg := hr.2.2.2.2 x o0 o1 i o3 o4
  rw [o2] at hrg
  refine va_zald cx.1 cx.2.1 cx.2.2.2.2.2.2.2.1 hr.2.2.2.1 x.toNat 2 hat rfl (ow_vin hi o3 (by omega)) hd ?_
  rw [ow_clamp hi]
  have e1 : ((i.toNat : Nat) : Int) = i := by omega
  rw [e1]
  exact kk p e s m args below meth c H locs ls cells slots cx hr hS hl hv (ow_rc (v := (0, _)) (ow_rg_pt (t := 2) hrg) (ow_rs (ow_rs hs)))
theorem ow_laload {x i : Int} (hd : decode y.2.1 pc = .ok (.laload, 1)) (hp : pc + 1 = pc') (hR : ow_R E M x 101 i) (kk : ow_At C E d y pc' lv ((1, ow_gv E M x i) :: st) b M K) : ow_At C E d y pc lv ((0, i) :: (3, x) :: st) b M K := by
  subst hp
  intro p e s m args below meth c H locs ls cells slots cx hr hS hl hv hs
  obtain ⟨o0, o1, o2, o3, o4⟩ := hR
  have hi : ow_I i := ow_r1 hs
  have hx : x < 900 := by have := hr.2.1; omega
  rw [List.map_cons, List.map_cons, ow_ref C o0 hx]
  have hat := ow_ws_at (C := C) (E := E) (M := M) o0 o1
  unfold ow_cell at hat
  rw [o2] at hat
  have hrg := hr.2.2.2.2 x o0 o1 i o3 o4
  rw [o2] at hrg
  refine va_lald cx.1 cx.2.1 cx.2.2.2.2.2.2.2.1 hr.2.2.2.1 x.toNat 1 hat rfl (ow_vin hi o3 (by omega)) hd ?_
  rw [ow_clamp hi]
  have e1 : ((i.toNat : Nat) : Int) = i := by omega
  rw [e1]
  exact kk p e s m args below meth c H locs ls cells slots cx hr hS hl hv (ow_rc (v := (1, _)) hrg (ow_rs (ow_rs hs)))
theorem ow_aaload {x i : Int} {t : Nat} (hd : decode y.2.1 pc = .ok (.aaload, 1)) (ht : (Nat.beq t 103 || Nat.beq t 104) = true) (hp : pc + 1 = pc') (hR : ow_R E M x t i) (kk : ow_At C E d y pc' lv ((3, ow_gv E M x i) :: st) b M K) : ow_At C E d y pc lv ((0, i) :: (3, x) :: st) b M K := by
  subst hp
  intro p e s m args below meth c H locs ls cells slots cx hr hS hl hv hs
  obtain ⟨o0, o1, o2, o3, o4⟩ := hR
  have hi : ow_I i := ow_r1 hs
  have hx : x < 900 := by have := hr.2.1; omega
  rw [List.map_cons, List.map_cons, ow_ref C o0 hx]
  have hat := ow_ws_at (C := C) (E := E) (M := M) o0 o1
  unfold ow_cell at hat
  have hlt : i.toNat < (E.2.1 x).2.toNat := by omega
  have hin := ow_vin (n := (E.2.1 x).2.toNat) hi o3 (by omega)
  have e1 : ((i.toNat : Nat) : Int) = i := by omega
  have hkk := kk p e s m args below meth c H locs ls cells slots cx hr hS hl hv (ow_rc (v := (3, _)) trivial (ow_rs (ow_rs hs)))
  have hP := hr.2.2.2.1
  have hK := cx.2.2.2.2.2.2.2.1
  rcases (by simpa using ht : t = 103 ∨ t = 104) with rfl | rfl
  · rw [o2] at hat
    refine W.aald (v := va_rf (ow_rf C (ow_gv E M x i))) (ty := .object "OneLetterWrong$Text") cx.1 cx.2.1 (hP x.toNat _ hat) ((hK.2 3 _ rfl).1 _ (fun j => va_rf (ow_rf C (ow_gv E M x j)))) rfl (fun q => by cases q) (by show ¬ (_ ∨ (arrV _ _ _).slots.size ≤ _); rw [arrV_size]; exact hin) ?_ rfl rfl hd hkk
    show (arrV _ _ _).slots[_]? = _
    rw [ow_clamp hi, arrV_read _ _ hlt]
    show some (va_rf (ow_rf C (ow_gv E M x (i.toNat : Nat)))) = _
    rw [e1]
  · rw [o2] at hat
    refine W.aald (v := va_rf (ow_rf C (ow_gv E M x i))) (ty := .array .int) cx.1 cx.2.1 (hP x.toNat _ hat) ((hK.2 4 _ rfl).1 _ (fun j => va_rf (ow_rf C (ow_gv E M x j)))) rfl (fun q => by cases q) (by show ¬ (_ ∨ (arrV _ _ _).slots.size ≤ _); rw [arrV_size]; exact hin) ?_ rfl rfl hd hkk
    show (arrV _ _ _).slots[_]? = _
    rw [ow_clamp hi, arrV_read _ _ hlt]
    show some (va_rf (ow_rf C (ow_gv E M x (i.toNat : Nat)))) = _
    rw [e1]
theorem ow_iastore {x i v : Int} (hd : decode y.2.1 pc = .ok (.iastore, 1)) (hp : pc + 1 = pc') (hR : ow_R E M x 100 i) (hn : E.1 x i = none) (kk : ow_At C E d y pc' lv st b (ow_up M x i v) K) : ow_At C E d y pc lv ((0, v) :: (0, i) :: (3, x) :: st) b M K := by
  subst hp
  intro p e s m args below meth c H locs ls cells slots cx hr hS hl hv hs
  obtain ⟨o0, o1, o2, o3, o4⟩ := hR
  have hi : ow_I i := ow_r1 (ow_rs hs)
  have hvv : ow_I v := ow_r1 hs
  have hx : x < 900 := by have := hr.2.1; omega
  rw [List.map_cons, List.map_cons, List.map_cons, ow_ref C o0 hx]
  have hat := ow_ws_at (C := C) (E := E) (M := M) o0 o1
  unfold ow_cell at hat
  rw [o2] at hat
  have hP := hr.2.2.2.1
  have hK := cx.2.2.2.2.2.2.2.1
  have hin := ow_vin (n := (E.2.1 x).2.toNat) hi o3 (by omega)
  have e1 : ((i.toNat : Nat) : Int) = i := by omega
  refine W.iast cx.1 cx.2.1 (hP x.toNat _ hat) ((hK.2 0 _ rfl).1 _ (fun j => .int (Int32.ofInt (ow_gv E M x j)))) (fun q => by cases q) (by show ¬ (_ ∨ (arrV _ _ _).slots.size ≤ _); rw [arrV_size]; exact hin) rfl rfl hd fun H1 e z oq => ?_
  refine kk p _ s m args below meth c H1 _ ls cells slots cx (ow_rep_up hr o0 o1 (by rw [o2]; exact hvv) ?_ z oq) (hS.put z oq (Nat.le_add_right _ _)) hl hv (ow_rs (ow_rs (ow_rs hs)))
  unfold ow_cell
  rw [o2]
  show H1[C.2.1 + x.toNat]? = some (vp_cell _ _)
  rw [e, vp_cell_i, vp_cell_i, arrV_store]
  congr 2
  funext q
  rw [ow_clamp hi]
  by_cases hq : q = i.toNat
  · subst hq
    rw [e1, ow_gv_self hn]
    simp [updV]
  · rw [ow_gv_ne (fun z => hq (by have := z.2; omega))]
    simp [updV, hq]
theorem ow_bastore {x i v : Int} (hd : decode y.2.1 pc = .ok (.bastore, 1)) (hp : pc + 1 = pc') (hR : ow_R E M x 102 i) (hn : E.1 x i = none) (hg : v = 0 ∨ v = 1) (kk : ow_At C E d y pc' lv st b (ow_up M x i v) K) : ow_At C E d y pc lv ((0, v) :: (0, i) :: (3, x) :: st) b M K := by
  subst hp
  intro p e s m args below meth c H locs ls cells slots cx hr hS hl hv hs
  obtain ⟨o0, o1, o2, o3, o4⟩ := hR
  have hi : ow_I i := ow_r1 (ow_rs hs)
  have hx : x < 900 := by have := hr.2.1; omega
  rw [List.map_cons, List.map_cons, List.map_cons, ow_ref C o0 hx]
  have hat := ow_ws_at (C := C) (E := E) (M := M) o0 o1
  unfold ow_cell at hat
  rw [o2] at hat
  have hP := hr.2.2.2.1
  have hK := cx.2.2.2.2.2.2.2.1
  have hin := ow_vin (n := (E.2.1 x).2.toNat) hi o3 (by omega)
  have e1 : ((i.toNat : Nat) : Int) = i := by omega
  refine W.zast cx.1 cx.2.1 (hP x.toNat _ hat) ((hK.2 2 _ rfl).1 _ (fun j => .int (Int32.ofInt (ow_gv E M x j)))) (fun q => by cases q) (by show ¬ (_ ∨ (arrV _ _ _).slots.size ≤ _); rw [arrV_size]; exact hin) rfl rfl hd fun H1 e z oq => ?_
  refine kk p _ s m args below meth c H1 _ ls cells slots cx (ow_rep_up hr o0 o1 (by rw [o2]; exact hg) ?_ z oq) (hS.put z oq (Nat.le_add_right _ _)) hl hv (ow_rs (ow_rs (ow_rs hs)))
  unfold ow_cell
  rw [o2]
  show H1[C.2.1 + x.toNat]? = some (vp_cell _ _)
  rw [e, vp_cell_i, vp_cell_i, arrV_store]
  congr 2
  funext q
  rw [ow_clamp hi]
  have hnar : narrow .boolean (.int (Int32.ofInt v)) = .int (Int32.ofInt v) := by rcases hg with rfl | rfl <;> decide +kernel
  by_cases hq : q = i.toNat
  · subst hq
    rw [e1, ow_gv_self hn]
    simp only [updV, if_true]
    first | exact hnar | rfl
  · rw [ow_gv_ne (fun z => hq (by have := z.2; omega))]
    simp [updV, hq]
theorem ow_lastore {x i v : Int} (hd : decode y.2.1 pc = .ok (.lastore, 1)) (hp : pc + 1 = pc') (hR : ow_R E M x 101 i) (hn : E.1 x i = none) (kk : ow_At C E d y pc' lv st b (ow_up M x i v) K) : ow_At C E d y pc lv ((1, v) :: (0, i) :: (3, x) :: st) b M K := by
  subst hp
  intro p e s m args below meth c H locs ls cells slots cx hr hS hl hv hs
  obtain ⟨o0, o1, o2, o3, o4⟩ := hR
  have hi : ow_I i := ow_r1 (ow_rs hs)
  have hvv : ow_L v := ow_r1 hs
  have hx : x < 900 := by have := hr.2.1; omega
  rw [List.map_cons, List.map_cons, List.map_cons, ow_ref C o0 hx]
  have hat := ow_ws_at (C := C) (E := E) (M := M) o0 o1
  unfold ow_cell at hat
  rw [o2] at hat
  have hP := hr.2.2.2.1
  have hK := cx.2.2.2.2.2.2.2.1
  have hin := ow_vin (n := (E.2.1 x).2.toNat) hi o3 (by omega)
  have e1 : ((i.toNat : Nat) : Int) = i := by omega
  refine W.last cx.1 cx.2.1 (hP x.toNat _ hat) ((hK.2 1 _ rfl).1 _ (fun j => .long (Int64.ofInt (ow_gv E M x j)))) (fun q => by cases q) (by show ¬ (_ ∨ (arrV _ _ _).slots.size ≤ _); rw [arrV_size]; exact hin) rfl rfl hd fun H1 e z oq => ?_
  refine kk p _ s m args below meth c H1 _ ls cells slots cx (ow_rep_up hr o0 o1 (by rw [o2]; exact hvv) ?_ z oq) (hS.put z oq (Nat.le_add_right _ _)) hl hv (ow_rs (ow_rs (ow_rs hs)))
  unfold ow_cell
  rw [o2]
  show H1[C.2.1 + x.toNat]? = some (vp_cell _ _)
  rw [e, vp_cell_l, vp_cell_l, arrV_store]
  congr 2
  funext q
  rw [ow_clamp hi]
  by_cases hq : q = i.toNat
  · subst hq
    rw [e1, ow_gv_self hn]
    simp [updV]
  · rw [ow_gv_ne (fun z => hq (by have := z.2; omega))]
    simp [updV, hq]
/-- the length of an array -/
theorem ow_alen {x : Int} {t : Nat} (hd : decode y.2.1 pc = .ok (.arraylength, 1)) (ht : (Nat.ble 100 t && Nat.ble t 104) = true) (hp : pc + 1 = pc') (h0 : 0 ≤ x) (h1 : x < ow_nb E M) (h2 : (E.2.1 x).1 = t) (h3 : 0 ≤ (E.2.1 x).2) (h4 : (E.2.1 x).2 ≤ 2147483647) (kk : ow_At C E d y pc' lv ((0, (E.2.1 x).2) :: st) b M K) : ow_At C E d y pc lv ((3, x) :: st) b M K := by
  subst hp
  intro p e s m args below meth c H locs ls cells slots cx hr hS hl hv hs
  have hx : x < 900 := by have := hr.2.1; omega
  rw [List.map_cons, ow_ref C h0 hx]
  have hat := ow_ws_at (C := C) (E := E) (M := M) h0 h1
  unfold ow_cell at hat
  have hkk := kk p e s m args below meth c H locs ls cells slots cx hr hS hl hv (ow_rc (v := (0, _)) (show ow_I _ from ⟨by omega, h4⟩) (ow_rs hs))
  have e1 : Int32.ofNat (E.2.1 x).2.toNat = Int32.ofInt (E.2.1 x).2 := by rw [ow_ofN, Int.toNat_of_nonneg h3]
  have ht' : t = 100 ∨ t = 101 ∨ t = 102 ∨ t = 103 ∨ t = 104 := by
    simp only [Bool.and_eq_true, Nat.ble_eq] at ht
    omega
  rcases ht' with rfl | rfl | rfl | rfl | rfl
  · rw [h2] at hat; exact va_alen cx.1 cx.2.1 cx.2.2.2.2.2.2.2.1 hr.2.2.2.1 x.toNat 0 hat rfl e1 hd hkk
  · rw [h2] at hat; exact va_alen cx.1 cx.2.1 cx.2.2.2.2.2.2.2.1 hr.2.2.2.1 x.toNat 1 hat rfl e1 hd hkk
  · rw [h2] at hat; exact va_alen cx.1 cx.2.1 cx.2.2.2.2.2.2.2.1 hr.2.2.2.1 x.toNat 2 hat rfl e1 hd hkk
  · rw [h2] at hat; exact va_alen cx.1 cx.2.1 cx.2.2.2.2.2.2.2.1 hr.2.2.2.1 x.toNat 3 hat rfl e1 hd hkk
  · rw [h2] at hat; exact va_alen cx.1 cx.2.1 cx.2.2.2.2.2.2.2.1 hr.2.2.2.1 x.toNat 4 hat rfl e1 hd hkk
/-- the script -/
def ow_sc (C : ow_C) (i : Int) : Int := (C.2.2.2.2.1.2.2 i.toNat).toInt
theorem ow_scload {i : Int} (hd : decode y.2.1 pc = .ok (.iaload, 1)) (hp : pc + 1 = pc') (h0 : 0 ≤ i) (h1 : i < C.2.2.2.2.1.2.1) (kk : ow_At C E d y pc' lv ((0, ow_sc C i) :: st) b M K) : ow_At C E d y pc lv ((0, i) :: (3, 999) :: st) b M K := by
  subst hp
  intro p e s m args below meth c H locs ls cells slots cx hr hS hl hv hs
  have hi : ow_I i := ow_r1 hs
  have hX := cx.2.2.2.2.2.2.2.2.1
  refine va_sld (b := C.2.2.2.2.1.1) cx.1 cx.2.1 hX.2.2.2.2.1 (Nat.lt_of_lt_of_le hX.2.2.2.1 cx.2.2.2.2.2.2.2.2.2.2) (fun z => Nat.lt_irrefl _ (Nat.lt_of_lt_of_le hX.2.2.2.1 z)) hS (ow_vin hi h0 h1) hd ?_
  rw [ow_clamp hi]
  have h := kk p e s m args below meth c H locs ls cells slots cx hr hS hl hv (ow_rc (v := (0, _)) (ow_it _) (ow_rs (ow_rs hs)))
  rw [List.map_cons] at h
  have e1 : ow_cv C (0, ow_sc C i) = .int (C.2.2.2.2.1.2.2 i.toNat) := congrArg Value.int (Int32.ofInt_toInt _)
  rw [e1] at h
  exact h
theorem ow_sclen (hd : decode y.2.1 pc = .ok (.arraylength, 1)) (hp : pc + 1 = pc') (h1 : (C.2.2.2.2.1.2.1 : Int) ≤ 2147483647) (kk : ow_At C E d y pc' lv ((0, (C.2.2.2.2.1.2.1 : Int)) :: st) b M K) : ow_At C E d y pc lv ((3, 999) :: st) b M K := by
  subst hp
  intro p e s m args below meth c H locs ls cells slots cx hr hS hl hv hs
  have hX := cx.2.2.2.2.2.2.2.2.1
  refine va_slen (b := C.2.2.2.2.1.1) cx.1 cx.2.1 hX.2.2.2.2.1 (Nat.lt_of_lt_of_le hX.2.2.2.1 cx.2.2.2.2.2.2.2.2.2.2) (fun z => Nat.lt_irrefl _ (Nat.lt_of_lt_of_le hX.2.2.2.1 z)) hS hd ?_
  rw [ow_ofN]
  exact kk p e s m args below meth c H locs ls cells slots cx hr hS hl hv (ow_rc (v := (0, _)) (show ow_I _ from ⟨by omega, h1⟩) (ow_rs hs))
/-! the end -/
theorem ow_iret {v : Int} (hd : decode y.2.1 pc = .ok (.ireturn, 1)) (hy : y.2.2.2 = some .int) (hb : b = (0, 0)) (hk : K v M) : ow_At C E d y pc lv [(0, v)] b M K := by
  intro p e s m args below meth c H locs ls cells slots cx hr hS hl hv hs
  subst hb
  exact W.iret cx.1 cx.2.1 (cx.2.2.2.1.trans hy) (fun t ht hW => ⟨⟨v, M, by rw [hy]; rfl, (fun ty e9 => by rw [hy] at e9; cases e9; exact ow_r1 hs), hk, by rw [ht]; exact hr⟩, hS.F ht⟩) hS.2.2 hd cx.2.2.2.2.1
theorem ow_zret {v : Int} (hd : decode y.2.1 pc = .ok (.ireturn, 1)) (hy : y.2.2.2 = some .boolean) (hb : b = (0, 0)) (hg : v = 0 ∨ v = 1) (hk : K v M) : ow_At C E d y pc lv [(0, v)] b M K := by
  intro p e s m args below meth c H locs ls cells slots cx hr hS hl hv hs
  subst hb
  exact W.zret (ty := .boolean) cx.1 cx.2.1 (cx.2.2.2.1.trans hy) (by rcases hg with rfl | rfl <;> decide +kernel) (fun t ht hW => ⟨⟨v, M, by rw [hy]; rfl, (fun ty e9 => by rw [hy] at e9; cases e9; exact hg), hk, by rw [ht]; exact hr⟩, hS.F ht⟩) hS.2.2 hd cx.2.2.2.2.1
theorem ow_lret {v : Int} (hd : decode y.2.1 pc = .ok (.lreturn, 1)) (hy : y.2.2.2 = some .long) (hb : b = (0, 0)) (hk : K v M) : ow_At C E d y pc lv [(1, v)] b M K := by
  intro p e s m args below meth c H locs ls cells slots cx hr hS hl hv hs
  subst hb
  exact W.lret cx.1 cx.2.1 (cx.2.2.2.1.trans hy) (fun t ht hW => ⟨⟨v, M, by rw [hy]; rfl, (fun ty e9 => by rw [hy] at e9; cases e9; exact ow_r1 hs), hk, by rw [ht]; exact hr⟩, hS.F ht⟩) hS.2.2 hd cx.2.2.2.2.1
theorem ow_aret {v : Int} {nm : String} (hd : decode y.2.1 pc = .ok (.areturn, 1)) (hy : y.2.2.2 = some (.object nm)) (hb : b = (0, 0)) (hk : K v M) : ow_At C E d y pc lv [(3, v)] b M K := by
  intro p e s m args below meth c H locs ls cells slots cx hr hS hl hv hs
  subst hb
  refine W.aret (rt := .object nm) cx.1 cx.2.1 (cx.2.2.2.1.trans hy) (Or.inl ⟨nm, rfl⟩) ?_ (fun t ht hW => ⟨⟨v, M, by rw [hy]; rfl, (fun ty e9 => by rw [hy] at e9; cases e9; trivial), hk, by rw [ht]; exact hr⟩, hS.F ht⟩) hS.2.2 hd cx.2.2.2.2.1
  show va_rf (ow_rf C v) = .null ∨ ∃ a, va_rf (ow_rf C v) = .ref a
  cases ow_rf C v with
  | none => exact Or.inl rfl
  | some a => exact Or.inr ⟨a, rfl⟩
theorem ow_vret (hd : decode y.2.1 pc = .ok (.return_, 1)) (hy : y.2.2.2 = none) (hb : b = (0, 0)) (hk : K 0 M) : ow_At C E d y pc lv [] b M K := by
  intro p e s m args below meth c H locs ls cells slots cx hr hS hl hv hs
  subst hb
  exact W.vret cx.1 cx.2.1 (cx.2.2.2.1.trans hy) (fun t ht hW => ⟨⟨0, M, by rw [hy]; rfl, (fun ty e9 => by rw [hy] at e9; cases e9), hk, by rw [ht]; exact hr⟩, hS.F ht⟩) hS.2.2 hd cx.2.2.2.2.1
/-- fewer cells are made than may be -/
theorem ow_less {b' : Nat × Nat} (h : Nat.ble b'.1 b.1 = true) (h2 : Nat.ble b'.2 b.2 = true) (k : ow_At C E d y pc lv st b' M K) : ow_At C E d y pc lv st b M K := by
  intro p e s m args below meth c H locs ls cells slots cx hr hS hl hv hs
  have h : b'.1 ≤ b.1 := Nat.ble_eq.mp h
  have h2 : b'.2 ≤ b.2 := Nat.ble_eq.mp h2
  have h3 := k p e s m args below meth c H locs ls (cells + (b.1 - b'.1)) (slots + (b.2 - b'.2)) cx hr hS hl hv hs
  rw [show cells + (b.1 - b'.1) + b'.1 = cells + b.1 by omega, show slots + (b.2 - b'.2) + b'.2 = slots + b.2 by omega] at h3
  exact W.widen (by omega) (by omega) h3
/-! the beginning -/
def ow_args (i : Nat) (vs : List ow_V) : List (Nat × ow_V) := match vs with
  | [] => []
  | v :: t => (i, v) :: ow_args (if v.1 = 1 then i + 2 else i + 1) t
def ow_width (vs : List ow_V) : Nat := match vs with
  | [] => 0
  | v :: t => (if v.1 = 1 then 2 else 1) + ow_width t
theorem ow_args_lv (C : ow_C) (vs : List ow_V) : ∀ i, lv_args i (vs.map (ow_cv C)) = ow_lc C (ow_args i vs) := by
  induction vs with
  | nil => intro i; rfl
  | cons v t ih =>
    intro i
    show (i, ow_cv C v) :: lv_args (if (ow_cv C v).category = 2 then i + 2 else i + 1) (t.map (ow_cv C)) = (i, ow_cv C v) :: ow_lc C (ow_args (if v.1 = 1 then i + 2 else i + 1) t)
    rw [ih, ow_cat]
    by_cases h : v.1 = 1
    · simp [h]
    · simp [h]
theorem ow_width_sl (C : ow_C) (vs : List ow_V) : (lg_sl (vs.map (ow_cv C))).length = ow_width vs := by
  induction vs with
  | nil => rfl
  | cons v t ih =>
    unfold lg_sl at ih ⊢
    rw [List.map_cons, List.flatMap_cons, List.length_append, ih, ow_cat]
    show _ = (if v.1 = 1 then 2 else 1) + ow_width t
    by_cases h : v.1 = 1
    · simp [h]
    · simp [h]
theorem ow_args_mem {vs : List ow_V} : ∀ {i : Nat} {q : Nat × ow_V}, q ∈ ow_args i vs → q.2 ∈ vs := by
  induction vs with
  | nil => intro i q h; cases h
  | cons v t ih =>
    intro i q h
    rcases List.mem_cons.mp h with rfl | h
    · exact List.mem_cons_self
    · exact List.mem_cons_of_mem _ (ih h)
theorem ow_enter {vs : List ow_V} (hy : plainName y.1.cls = true) (hw : Nat.ble (ow_width vs) y.2.2.1 = true) (hl : ow_args 0 vs = lv) (k : ow_At C E d y 0 lv [] b M K) : ow_Sp C E d y b vs M K := by
  subst hl
  refine Met.ofW (cc := y.2.1) (maxL := y.2.2.1) (ret := y.2.2.2) hy rfl ?_
  intro p e s m args below meth c s₁ B hml hv
  obtain ⟨rfl, hg, hr, hK, hX, hbs⟩ := hv
  have hts := atoms_spec (ws := .code y.1 y.2.1 y.2.2.1 y.2.2.2 :: ow_gt) B.pre
  have hl := lv_entry (vs.map (ow_cv C)) (n := y.2.2.1) (by rw [ow_width_sl]; exact Nat.ble_eq.mp hw)
  rw [lg_entry_eq]
  rw [ow_args_lv] at hl
  have h := k p e s m (vs.map (ow_cv C)).toArray below meth c s.heap [] _ 0 0 ⟨B.exec, B.bytes, hml, B.returns, B.notSynchronized, findClass_of_methodNamed B.named, fun w hw => hts w (List.mem_cons_of_mem _ hw), hK, hX, (name_of_methodNamed B.named B.method).1, hbs⟩ hr va_S.rf hl (fun q hq => hg _ (ow_args_mem hq)) (fun v hv => by cases hv)
  rw [Nat.zero_add, Nat.zero_add] at h
  exact h
end OWA
