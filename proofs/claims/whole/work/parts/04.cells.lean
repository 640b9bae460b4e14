/-! ===== rows of fields and arrays ===== -/
def ow_nf (k : Nat) : Nat := match vwCl[k]? with
  | some r => r.2.2
  | none => 0
/-- cell x is there and an object of class k -/
def ow_O (E : ow_E) (M : ow_M) (x : Int) (k : Nat) : Prop := 0 ≤ x ∧ x < ow_nb E M ∧ (E.2.1 x).1 = k ∧ (E.2.1 x).2 = ow_nf k
/-- cell x is there and an array of kind t (100 int, 101 long, 102 boolean, 103 of texts, 104 of int arrays) with a place i -/
def ow_R (E : ow_E) (M : ow_M) (x : Int) (t : Nat) (i : Int) : Prop := 0 ≤ x ∧ x < ow_nb E M ∧ (E.2.1 x).1 = t ∧ 0 ≤ i ∧ i < (E.2.1 x).2
def ow_pt (t : Nat) : Nat := match t with
  | 2 => 0
  | t => t
theorem ow_cv_pt (C : ow_C) (t : Nat) (x : Int) : ow_cv C (ow_pt t, x) = ow_cv C (t, x) := by
  match t with
  | 0 => rfl
  | 1 => rfl
  | 2 => rfl
  | n + 3 => rfl
theorem ow_rg_pt {t : Nat} {x : Int} (h : ow_rg (t, x)) : ow_rg (ow_pt t, x) := by
  match t with
  | 0 => exact h
  | 1 => exact h
  | 2 =>
    show ow_I x
    rcases (show x = 0 ∨ x = 1 from h) with rfl | rfl
    · exact ⟨by decide, by decide⟩
    · exact ⟨by decide, by decide⟩
  | n + 3 => exact h
theorem ow_ref (C : ow_C) {x : Int} (h0 : 0 ≤ x) (h1 : x < 900) : ow_cv C (3, x) = .ref (C.2.1 + x.toNat) := by
  show va_rf (ow_rf C x) = _
  unfold ow_rf
  rw [if_neg (by omega), if_pos h1]
  rfl
theorem ow_rfs (C : ow_C) {x : Int} (h0 : 0 ≤ x) (h1 : x < 900) : ow_rf C x = some (C.2.1 + x.toNat) := by
  unfold ow_rf
  rw [if_neg (by omega), if_pos h1]
def ow_fs (C : ow_C) (E : ow_E) (M : ow_M) (c : Int) : List Value := (List.range (E.2.1 c).2.toNat).map (fun (j : Nat) => ow_cv C (ow_tg (E.2.1 c).1 j, ow_gv E M c j))
theorem ow_cell_o {C : ow_C} {E : ow_E} {M : ow_M} {c : Int} {k : Nat} (h : (E.2.1 c).1 = k) (hk : k < 100) : ow_cell C E M c = .inr (k, ow_fs C E M c) := by
  unfold ow_cell ow_fs
  rw [h]
  split
  · omega
  · omega
  · omega
  · omega
  · omega
  · rfl
theorem ow_nf_lt {k j : Nat} (h : j < ow_nf k) : k < 13 := by
  by_cases hk : k < 13
  · exact hk
  · exfalso
    have h1 : vwCl[k]? = none := List.getElem?_eq_none (by show 13 ≤ k; omega)
    unfold ow_nf at h
    rw [h1] at h
    exact Nat.not_lt_zero _ h
theorem ow_fs_at {C : ow_C} {E : ow_E} {M : ow_M} {c : Int} {k j : Nat} (h : (E.2.1 c).1 = k) (h2 : (E.2.1 c).2 = ow_nf k) (hj : j < ow_nf k) : (ow_fs C E M c)[j]? = some (ow_cv C (ow_tg k j, ow_gv E M c j)) := by
  unfold ow_fs
  have : j < (E.2.1 c).2.toNat := by omega
  simp [this, h]
theorem ow_fs_set {C : ow_C} {E : ow_E} {M : ow_M} {c v : Int} {k j : Nat} (h : (E.2.1 c).1 = k) (hn : E.1 c j = none) : (ow_fs C E M c).set j (ow_cv C (ow_tg k j, v)) = ow_fs C E (ow_up M c j v) c := by
  apply List.ext_getElem?
  intro i
  unfold ow_fs
  rw [List.getElem?_set]
  by_cases hij : j = i
  · subst hij
    by_cases hl : j < (E.2.1 c).2.toNat
    · simp [hl, h, ow_gv_self hn]
    · simp [hl]
  · rw [if_neg hij]
    by_cases hl : i < (E.2.1 c).2.toNat
    · simp only [List.getElem?_map, List.getElem?_range hl, Option.map_some]
      rw [ow_gv_ne (fun z => hij (by have := z.2; omega))]
    · simp [hl]
/-- behind a store of one place: the memory then -/
theorem ow_rep_up {C : ow_C} {E : ow_E} {M : ow_M} {H H1 : Heap} {c i v : Int} (h : ow_rep C E M H) (h0 : 0 ≤ c) (h1 : c < ow_nb E M) (hv : ow_rg (ow_tg (E.2.1 c).1 i.toNat, v)) (he : va_at C.2.2.1 vwCl (C.2.1 + c.toNat, ow_cell C E (ow_up M c i v) c) H1) (hz : H1.size = H.size) (ho : ∀ q : Nat, q ≠ C.2.1 + c.toNat → H1[q]? = H[q]?) : ow_rep C E (ow_up M c i v) H1 := by
  obtain ⟨r0, r1, r2, r3, r4⟩ := h
  have hn : ow_nb E (ow_up M c i v) = ow_nb E M := ow_nb_up h0
  refine ⟨by rw [hn]; exact r0, by rw [hn]; exact r1, (fun e9 => by rw [hz, hn]; exact r2 e9), ?_, ow_ok_up h0 r4 hv⟩
  rw [← ow_ws_set h0 h1]
  exact r3.set (ow_D C E M) (ow_ws_at h0 h1) he ho
theorem ow_cls_in : ∀ k, k < 13 → ∀ r, vwCl[k]? = some r → (∀ w ∈ u_ws r.1 r.2.1 r.2.2, w ∈ ow_gt) := by
  intro k hk r hr
  match k, hk with
  | 0, _ => cases hr; exact (by decide +kernel : ∀ w ∈ u_ws RX0 TX0 5, w ∈ ow_gt)
  | 1, _ => cases hr; exact (by decide +kernel : ∀ w ∈ u_ws RX1 TX1 5, w ∈ ow_gt)
  | 2, _ => cases hr; exact (by decide +kernel : ∀ w ∈ u_ws RX2 TX2 5, w ∈ ow_gt)
  | 3, _ => cases hr; exact (by decide +kernel : ∀ w ∈ u_ws RX3 TX3 3, w ∈ ow_gt)
  | 4, _ => cases hr; exact (by decide +kernel : ∀ w ∈ u_ws RX4 TX4 5, w ∈ ow_gt)
  | 5, _ => cases hr; exact (by decide +kernel : ∀ w ∈ u_ws RX5 TX5 6, w ∈ ow_gt)
  | 6, _ => cases hr; exact (by decide +kernel : ∀ w ∈ u_ws RX6 TX6 6, w ∈ ow_gt)
  | 7, _ => cases hr; exact (by decide +kernel : ∀ w ∈ u_ws RX7 TX7 15, w ∈ ow_gt)
  | 8, _ => cases hr; exact (by decide +kernel : ∀ w ∈ u_ws RX8 TX8 8, w ∈ ow_gt)
  | 9, _ => cases hr; exact (by decide +kernel : ∀ w ∈ u_ws RX9 TX9 7, w ∈ ow_gt)
  | 10, _ => cases hr; exact (by decide +kernel : ∀ w ∈ u_ws RX10 TX10 5, w ∈ ow_gt)
  | 11, _ => cases hr; exact (by decide +kernel : ∀ w ∈ u_ws RX11 TX11 19, w ∈ ow_gt)
  | 12, _ => cases hr; exact (by decide +kernel : ∀ w ∈ u_ws RX12 TX12 40, w ∈ ow_gt)
theorem ow_cls_ty : ∀ k, k < 13 → ∀ r, vwCl[k]? = some r → (∀ j, j < r.2.2 → parseFieldDescriptor (r.2.1 j).2.2.1 = some (ow_ty k j)) ∧ (∀ a, a < r.2.2 → ∀ b, b < r.2.2 → a ≠ b → (r.2.1 a).2.1 ≠ (r.2.1 b).2.1) := by
  intro k hk r hr
  match k, hk with
  | 0, _ => cases hr; exact ⟨tyX0_ok, nmX0⟩
  | 1, _ => cases hr; exact ⟨tyX1_ok, nmX1⟩
  | 2, _ => cases hr; exact ⟨tyX2_ok, nmX2⟩
  | 3, _ => cases hr; exact ⟨tyX3_ok, nmX3⟩
  | 4, _ => cases hr; exact ⟨tyX4_ok, nmX4⟩
  | 5, _ => cases hr; exact ⟨tyX5_ok, nmX5⟩
  | 6, _ => cases hr; exact ⟨tyX6_ok, nmX6⟩
  | 7, _ => cases hr; exact ⟨tyX7_ok, nmX7⟩
  | 8, _ => cases hr; exact ⟨tyX8_ok, nmX8⟩
  | 9, _ => cases hr; exact ⟨tyX9_ok, nmX9⟩
  | 10, _ => cases hr; exact ⟨tyX10_ok, nmX10⟩
  | 11, _ => cases hr; exact ⟨tyX11_ok, nmX11⟩
  | 12, _ => cases hr; exact ⟨tyX12_ok, nmX12⟩
/-- instruction ix of class cls names field j of class k -/
def ow_fl (cls : String) (ix k j : Nat) : Prop := ∃ r : vw_C, vwCl[k]? = some r ∧ j < r.2.2 ∧ (r.2.1 j).1 = r.1 ∧ (Cond.fieldLink cls ix r.1 (r.2.1 j).2.1 (r.2.1 j).2.2.1 ∈ ow_gt ∨ ∃ host, Cond.fieldLinkNest cls ix r.1 (r.2.1 j).2.1 (r.2.1 j).2.2.1 host ∈ ow_nt)
def ow_fin (k j : Nat) : Bool := match vwCl[k]? with
  | some r => (r.2.1 j).2.2.2
  | none => false
theorem ow_fit {C : ow_C} {ty : FieldType} {v : Int} (ht : ty = .int ∨ ty = .long ∨ ty = .boolean ∨ (∃ n, ty = .object n) ∨ ∃ t, ty = .array t) (h : ow_rg (ow_tt ty, v)) : narrow ty (ow_cv C (ow_tt ty, v)) = ow_cv C (ow_tt ty, v) ∧ fits ty (ow_cv C (ow_tt ty, v)) = true := by
  rcases ht with rfl | rfl | rfl | ⟨n, rfl⟩ | ⟨t, rfl⟩
  · exact ⟨rfl, rfl⟩
  · exact ⟨rfl, rfl⟩
  · rcases (show v = 0 ∨ v = 1 from h) with rfl | rfl
    · show narrow .boolean (.int (Int32.ofInt 0)) = .int (Int32.ofInt 0) ∧ fits .boolean (.int (Int32.ofInt 0)) = true
      exact ⟨by decide +kernel, by decide +kernel⟩
    · show narrow .boolean (.int (Int32.ofInt 1)) = .int (Int32.ofInt 1) ∧ fits .boolean (.int (Int32.ofInt 1)) = true
      exact ⟨by decide +kernel, by decide +kernel⟩
  · show narrow _ (va_rf (ow_rf C v)) = va_rf (ow_rf C v) ∧ fits _ (va_rf (ow_rf C v)) = true
    cases ow_rf C v <;> exact ⟨rfl, rfl⟩
  · show narrow _ (va_rf (ow_rf C v)) = va_rf (ow_rf C v) ∧ fits _ (va_rf (ow_rf C v)) = true
    cases ow_rf C v <;> exact ⟨rfl, rfl⟩
def ow_tyok (t : FieldType) : Bool := match t with
  | .int => true | .long => true | .boolean => true | .object _ => true | .array _ => true | _ => false
theorem ow_tyok_s {ty : FieldType} (h : ow_tyok ty = true) : ty = .int ∨ ty = .long ∨ ty = .boolean ∨ (∃ n, ty = .object n) ∨ ∃ t, ty = .array t := by
  cases ty <;> first | exact Or.inl rfl | exact Or.inr (Or.inl rfl) | exact Or.inr (Or.inr (Or.inl rfl)) | exact Or.inr (Or.inr (Or.inr (Or.inl ⟨_, rfl⟩))) | exact Or.inr (Or.inr (Or.inr (Or.inr ⟨_, rfl⟩))) | cases h
theorem ow_cls_tyok : ∀ k, k < 13 → ∀ j, j < 40 → ow_tyok (ow_ty k j) = true := by decide +kernel
theorem ow_tg_lt {k : Nat} (hk : k < 13) (j : Nat) : ow_tg k j = ow_tt (ow_ty k j) := by
  unfold ow_tg
  split <;> first | omega | rfl
theorem ow_nf_le : ∀ k, k < 13 → ow_nf k ≤ 40 := by decide +kernel
section OWC
variable {C : ow_C} {E : ow_E} {d : Nat} {y : ow_Y} {pc pc' tg : Nat} {lv lv' : List (Nat × ow_V)} {st : List ow_V} {b : Nat × Nat} {M : ow_M} {K : Int → ow_M → Prop}
theorem ow_getf {ix k j t : Nat} {x : Int} (hd : decode y.2.1 pc = .ok (.getfield ix, 3)) (hf : ow_fl y.1.cls ix k j) (ht : ow_pt (ow_tg k j) = t) (hp : pc + 3 = pc') (hO : ow_O E M x k) (kk : ow_At C E d y pc' lv ((t, ow_gv E M x j) :: st) b M K) : ow_At C E d y pc lv ((3, x) :: st) b M K := by
  subst hp
  intro p e s m args below meth c H locs ls cells slots cx hr hS hl hv hs
  obtain ⟨o0, o1, o2, o3⟩ := hO
  obtain ⟨⟨R, T, N⟩, f1, f2, f3, f4⟩ := hf
  have hN : ow_nf k = N := by unfold ow_nf; rw [f1]
  have hj : j < ow_nf k := by rw [hN]; exact f2
  have hk := ow_nf_lt hj
  have hx : x < 900 := by have := hr.2.1; omega
  rw [List.map_cons, ow_ref C o0 hx]
  have hrg : ow_rg (t, ow_gv E M x j) := by
    rw [← ht]
    have h9 := hr.2.2.2.2 x o0 o1 (j : Int) (by omega) (by omega)
    rw [o2, Int.toNat_natCast] at h9
    exact ow_rg_pt h9
  have hkk := kk p e s m args below meth c H locs ls cells slots cx hr hS hl hv (ow_rc hrg (ow_rs hs))
  rw [List.map_cons, ← ht, ow_cv_pt] at hkk
  have hat : (ow_ws C E M)[x.toNat]? = some (C.2.1 + x.toNat, .inr (k, ow_fs C E M x)) := by rw [ow_ws_at o0 o1, ow_cell_o o2 (by omega)]
  have hfs := ow_fs_at (C := C) (M := M) o2 o3 hj
  have hsame : ∀ z, s.fieldFound? (T j).1 (T j).2.1 (T j).2.2.1 = some z → s.fieldFound? R (T j).2.1 (T j).2.2.1 = some z := fun z h => by rw [← show (T j).1 = R from f3]; exact h
  rcases f4 with f4 | ⟨host, f4⟩
  · exact va_get (C := R) (T := T) (N := N) (ref := R) cx.1 cx.2.1 cx.2.2.2.2.2.2.1 (ow_cls_in k hk _ f1) cx.2.2.2.2.2.1 cx.2.2.2.2.2.2.2.1 hr.2.2.2.1 x.toNat hat f1 j f2 (cx.2.2.2.2.2.2.1 _ f4) hsame hfs hd hkk
  · exact va_getN (C := R) (T := T) (N := N) (ref := R) (host := host) cx.1 cx.2.1 cx.2.2.2.2.2.2.1 (ow_cls_in k hk _ f1) cx.2.2.2.2.2.1 cx.2.2.2.2.2.2.2.1 hr.2.2.2.1 x.toNat hat f1 j f2 (va_Nw.use rfl (cx.2.2.2.2.2.2.2.2.1.1 _ f4)) hsame hfs hd hkk
theorem ow_putf {ix k j t : Nat} {x v : Int} (hd : decode y.2.1 pc = .ok (.putfield ix, 3)) (hf : ow_fl y.1.cls ix k j) (hfi : ow_fin k j = false) (ht : ow_pt (ow_tg k j) = t) (hp : pc + 3 = pc') (hO : ow_O E M x k) (hn : E.1 x j = none) (hg : ow_rg (ow_tg k j, v)) (kk : ow_At C E d y pc' lv st b (ow_up M x j v) K) : ow_At C E d y pc lv ((t, v) :: (3, x) :: st) b M K := by
  subst hp
  intro p e s m args below meth c H locs ls cells slots cx hr hS hl hv hs
  obtain ⟨o0, o1, o2, o3⟩ := hO
  obtain ⟨⟨R, T, N⟩, f1, f2, f3, f4⟩ := hf
  have hN : ow_nf k = N := by unfold ow_nf; rw [f1]
  have hj : j < ow_nf k := by rw [hN]; exact f2
  have hk := ow_nf_lt hj
  have hx : x < 900 := by have := hr.2.1; omega
  rw [List.map_cons, List.map_cons, ow_ref C o0 hx, ← ht, ow_cv_pt]
  have hat : (ow_ws C E M)[x.toNat]? = some (C.2.1 + x.toNat, .inr (k, ow_fs C E M x)) := by rw [ow_ws_at o0 o1, ow_cell_o o2 (by omega)]
  have hsame : ∀ z, s.fieldFound? (T j).1 (T j).2.1 (T j).2.2.1 = some z → s.fieldFound? R (T j).2.1 (T j).2.2.1 = some z := fun z h => by rw [← show (T j).1 = R from f3]; exact h
  have hts := cx.2.2.2.2.2.2.1
  have hin := ow_cls_in k hk _ f1
  obtain ⟨hty, hnm⟩ := ow_cls_ty k hk _ f1
  have hK := cx.2.2.2.2.2.2.2.1
  have hown := cx.2.2.2.2.2.1
  have hap := va_apart (own := y.1.cls) hts hin (ow_ty k) hty hnm hK f1
  obtain ⟨r, h1, cell, q1, q2, q3, q4⟩ := hr.2.2.2.1 x.toNat _ hat
  have hr1 : r = (R, T, N) := Option.some.inj (h1.symm.trans f1)
  subst hr1
  obtain ⟨hSl, hfc, kC, hkC, hkind⟩ := hK.1 k _ f1
  obtain ⟨cf, kf, fi, f, hi, hsl⟩ := hSl j f2
  have hlay := hts _ (hin _ (u_in_lay f2))
  unfold u_lay at hlay
  have hfi' : (T j).2.2.2 = false := by unfold ow_fin at hfi; rw [f1] at hfi; exact hfi
  rw [if_neg (by rw [hfi']; decide)] at hlay
  have hst := (u_facts hfc hkC (u_lays hts hin f2) hi).1
  have hft := ow_fit (C := C) (v := v) (ow_tyok_s (ow_cls_tyok k hk j (by have := ow_nf_le k hk; omega))) (by rw [← ow_tg_lt hk]; exact hg)
  rw [← ow_tg_lt hk] at hft
  have h6 := u_store hfc hkC hkind hlay hi (hty j f2) hft.1 hft.2
  have hl2 : j < (ow_fs C E M x).length := by unfold ow_fs; simp; omega
  have fin : ∀ H' : Heap, H'[C.2.1 + x.toNat]? = some (cell.setSlot f.slot (ow_cv C (ow_tg k j, v))) → H'.size = H.size → (∀ q, q ≠ C.2.1 + x.toNat → H'[q]? = H[q]?) → W p C.1 e (ow_rm d (cells + b.1) (slots + b.2)) s m args below meth c H' (locs ++ [⟨C.2.1 + x.toNat, f.slot⟩]) cells slots (MQ below (ow_Q C E y.2.2.2 K) args s (cells + b.1) (slots + b.2) (ow_A C)) (F0 m (pc + 3) ls (st.map (ow_cv C))) := by
    intro H' e1 e2 e3
    rw [hsl] at e1 ⊢
    refine kk p e s m args below meth c H' _ ls cells slots cx (ow_rep_up hr o0 o1 (by rw [o2]; exact hg) ?_ e2 e3) (hS.put e2 e3 (Nat.le_add_right _ _)) hl hv (ow_rs (ow_rs hs))
    rw [ow_cell_o o2 (by omega), ← ow_fs_set o2 hn]
    exact ⟨_, f1, t_OB.to (V := updV (vp_V (ow_fs C E M x)) j (ow_cv C (ow_tg k j, v))) ⟨_, e1, q2, q3, t_set q4 hap f2 _⟩ (fun j2 _ => vp_updV_set hl2 _ j2)⟩
  rcases f4 with f4 | ⟨host, f4⟩
  · exact W.putK cx.1 cx.2.1 (f := f) ⟨hown, hts _ f4, ⟨_, _, _, hsame _ hi⟩, hst⟩ (by rw [q2]; exact h6) q1 q3 (by rw [hsl]; exact k2_hasslot (q4 j f2)) rfl rfl hd fin
  · exact va_WputK cx.1 cx.2.1 (f := f) hown (va_Nw.use rfl (cx.2.2.2.2.2.2.2.2.1.1 _ f4)) (hsame _ hi) hst (by rw [q2]; exact h6) q1 q3 (by rw [hsl]; exact k2_hasslot (q4 j f2)) rfl rfl hd fin
theorem ow_putF {ix k j t : Nat} {x v : Int} (hd : decode y.2.1 pc = .ok (.putfield ix, 3)) (hf : ∃ r : vw_C, vwCl[k]? = some r ∧ j < r.2.2 ∧ (r.2.1 j).1 = r.1 ∧ y.1.cls = r.1 ∧ Cond.fieldLink y.1.cls ix r.1 (r.2.1 j).2.1 (r.2.1 j).2.2.1 ∈ ow_gt) (hini : y.1.name = "<init>") (hfi : ow_fin k j = true) (ht : ow_pt (ow_tg k j) = t) (hp : pc + 3 = pc') (hO : ow_O E M x k) (hn : E.1 x j = none) (hg : ow_rg (ow_tg k j, v)) (kk : ow_At C E d y pc' lv st b (ow_up M x j v) K) : ow_At C E d y pc lv ((t, v) :: (3, x) :: st) b M K := by
  subst hp
  intro p e s m args below meth c H locs ls cells slots cx hr hS hl hv hs
  obtain ⟨o0, o1, o2, o3⟩ := hO
  obtain ⟨⟨R, T, N⟩, f1, f2, f3, f5, f4⟩ := hf
  have hN : ow_nf k = N := by unfold ow_nf; rw [f1]
  have hj : j < ow_nf k := by rw [hN]; exact f2
  have hk := ow_nf_lt hj
  have hx : x < 900 := by have := hr.2.1; omega
  rw [List.map_cons, List.map_cons, ow_ref C o0 hx, ← ht, ow_cv_pt]
  have hat : (ow_ws C E M)[x.toNat]? = some (C.2.1 + x.toNat, .inr (k, ow_fs C E M x)) := by rw [ow_ws_at o0 o1, ow_cell_o o2 (by omega)]
  have hsame : ∀ z, s.fieldFound? (T j).1 (T j).2.1 (T j).2.2.1 = some z → s.fieldFound? R (T j).2.1 (T j).2.2.1 = some z := fun z h => by rw [← show (T j).1 = R from f3]; exact h
  have hts := cx.2.2.2.2.2.2.1
  have hin := ow_cls_in k hk _ f1
  obtain ⟨hty, hnm⟩ := ow_cls_ty k hk _ f1
  have hK := cx.2.2.2.2.2.2.2.1
  have hown := cx.2.2.2.2.2.1
  have hap := va_apart (own := y.1.cls) hts hin (ow_ty k) hty hnm hK f1
  obtain ⟨r, h1, cell, q1, q2, q3, q4⟩ := hr.2.2.2.1 x.toNat _ hat
  have hr1 : r = (R, T, N) := Option.some.inj (h1.symm.trans f1)
  subst hr1
  obtain ⟨hSl, hfc, kC, hkC, hkind⟩ := hK.1 k _ f1
  obtain ⟨cf, kf, fi, f, hi, hsl⟩ := hSl j f2
  have hlay := hts _ (hin _ (u_in_lay f2))
  unfold u_lay at hlay
  have hfi' : (T j).2.2.2 = true := by unfold ow_fin at hfi; rw [f1] at hfi; exact hfi
  rw [if_pos hfi'] at hlay
  have hst := (u_facts hfc hkC (u_lays hts hin f2) hi).1
  have hcf : m.cls = cf := by
    obtain ⟨_, _, c', _, _, _, -, -, hf', -, -, -, hown2, -⟩ := Cond.laysFinal_spec hlay
    have e1 : c' = cf := by have := hi.symm.trans hf'; simp at this; exact this.1.symm
    rw [show (T j).1 = y.1.cls from f3.trans f5.symm] at hown2
    rw [← e1]; exact Option.some.inj (hown.symm.trans hown2)
  have hft := ow_fit (C := C) (v := v) (ow_tyok_s (ow_cls_tyok k hk j (by have := ow_nf_le k hk; omega))) (by rw [← ow_tg_lt hk]; exact hg)
  rw [← ow_tg_lt hk] at hft
  have h6 := u_fits hfc hkC hkind (Or.inr hlay) hi (hty j f2) hft.1 hft.2
  have hl2 : j < (ow_fs C E M x).length := by unfold ow_fs; simp; omega
  refine W.putFinK cx.1 cx.2.1 hown (hts _ f4) (hsame _ hi) hst hcf (cx.2.2.2.2.2.2.2.2.2.1.trans hini) (by rw [q2]; exact h6) q1 q3 (by rw [hsl]; exact k2_hasslot (q4 j f2)) rfl rfl hd fun H' e1 e2 e3 => ?_
  rw [hsl] at e1 ⊢
  refine kk p e s m args below meth c H' _ ls cells slots cx (ow_rep_up hr o0 o1 (by rw [o2]; exact hg) ?_ e2 e3) (hS.put e2 e3 (Nat.le_add_right _ _)) hl hv (ow_rs (ow_rs hs))
  rw [ow_cell_o o2 (by omega), ← ow_fs_set o2 hn]
  exact ⟨_, f1, t_OB.to (V := updV (vp_V (ow_fs C E M x)) j (ow_cv C (ow_tg k j, v))) ⟨_, e1, q2, q3, t_set q4 hap f2 _⟩ (fun j2 _ => vp_updV_set hl2 _ j2)⟩
end OWC
