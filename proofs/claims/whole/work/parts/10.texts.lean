/-! ===== rows of the texts below the cells ===== -/
theorem ow_rf_K (C : ow_C) {k : Nat} (h : k < 16) : ow_rf C (1000 + (k : Int)) = some (C.2.2.2.2.2.1 k) := by
  unfold ow_rf
  rw [if_neg (by omega), if_neg (by omega), if_neg (by omega), if_neg (by omega), if_pos (by omega)]
  rw [show (1000 + (k : Int) - 1000).toNat = k by omega]
theorem ow_rf_V (C : ow_C) {k : Nat} (h : k < 16) : ow_rf C (2000 + (k : Int)) = some (C.2.2.2.2.2.2.1 k) := by
  unfold ow_rf
  rw [if_neg (by omega), if_neg (by omega), if_neg (by omega), if_neg (by omega), if_neg (by omega)]
  rw [show (2000 + (k : Int) - 2000).toNat = k by omega]
def ow_len (k : Nat) : Int := (ow_sl.getD k 0 : Nat)
def ow_byt (k : Nat) (j : Int) : Int := ((ow_sb.getD k []).getD j.toNat 0).toInt
theorem ow_len_le : ∀ k, k < 16 → ow_sl.getD k 0 ≤ 11 := by decide +kernel
theorem ow_cvK (C : ow_C) {k : Nat} (h : k < 16) : ow_cv C (3, 1000 + (k : Int)) = .ref (C.2.2.2.2.2.1 k) := by
  have e : ow_cv C (3, 1000 + (k : Int)) = va_rf (ow_rf C (1000 + (k : Int))) := by simp only [ow_cv]
  rw [e, ow_rf_K C h]; rfl
theorem ow_cvV (C : ow_C) {k : Nat} (h : k < 16) : ow_cv C (3, 2000 + (k : Int)) = .ref (C.2.2.2.2.2.2.1 k) := by
  have e : ow_cv C (3, 2000 + (k : Int)) = va_rf (ow_rf C (2000 + (k : Int))) := by simp only [ow_cv]
  rw [e, ow_rf_V C h]; rfl
section OWT
variable {C : ow_C} {E : ow_E} {d : Nat} {y z : ow_Y} {pc pc' tg ix n k : Nat} {lv lv' : List (Nat × ow_V)} {st stk vs : List ow_V} {b b1 b2 : Nat × Nat} {M : ow_M} {K : Int → ow_M → Prop} {x : Int}
theorem ow_ldcS {q : Nat × String} (hd : decode y.2.1 pc = .ok (.ldc q.1, 2)) (hc : y.1.cls = "OneLetterWrong$Tokens") (hq : ow_sx[k]? = some q) (hp : pc + 2 = pc') (kk : ow_At C E d y pc' lv ((3, 1000 + (k : Int)) :: st) b M K) : ow_At C E d y pc lv st b M K := by
  subst hp
  intro p e s m args below meth c H locs ls cells slots cx hr hS hl hv hs
  have hk : k < 16 := (List.getElem?_eq_some_iff.mp hq).1
  have hkk := kk p e s m args below meth c H locs ls cells slots cx hr hS hl hv (ow_rc (v := (3, _)) trivial hs)
  rw [List.map_cons, ow_cvK C hk] at hkk
  exact va_ldcS cx.1 cx.2.1 (by rw [← hc]; exact cx.2.2.2.2.2.1) (cx.2.2.2.2.2.2.2.2.1.2.2.2.2.2.2.1 k q hq) hd hkk
theorem ow_getval (hd : decode y.2.1 pc = .ok (.getfield ix, 3)) (hk : k < 16) (hl9 : Cond.fieldLink y.1.cls ix "java/lang/String" "value" "[B" ∈ ow_gt) (hp : pc + 3 = pc') (kk : ow_At C E d y pc' lv ((3, 2000 + (k : Int)) :: st) b M K) : ow_At C E d y pc lv ((3, 1000 + (k : Int)) :: st) b M K := by
  subst hp
  intro p e s m args below meth c H locs ls cells slots cx hr hS hl hv hs
  have hkk := kk p e s m args below meth c H locs ls cells slots cx hr hS hl hv (ow_rc (v := (3, _)) trivial (ow_rs hs))
  rw [List.map_cons, ow_cvV C hk] at hkk
  rw [List.map_cons, ow_cvK C hk]
  exact vk_getf cx.1 cx.2.1 ((cx.2.2.2.2.2.2.2.2.1.2.2.2.2.2.1.1 k hk).2.2.1) hS cx.2.2.2.2.2.1 (cx.2.2.2.2.2.2.1 _ hl9) (fun _ h => h) hd hkk
theorem ow_getcod (hd : decode y.2.1 pc = .ok (.getfield ix, 3)) (hk : k < 16) (hl9 : Cond.fieldLink y.1.cls ix "java/lang/String" "coder" "B" ∈ ow_gt) (hp : pc + 3 = pc') (kk : ow_At C E d y pc' lv ((0, 0) :: st) b M K) : ow_At C E d y pc lv ((3, 1000 + (k : Int)) :: st) b M K := by
  subst hp
  intro p e s m args below meth c H locs ls cells slots cx hr hS hl hv hs
  have hkk := kk p e s m args below meth c H locs ls cells slots cx hr hS hl hv (ow_rc (v := (0, 0)) ow_i0 (ow_rs hs))
  rw [List.map_cons, ow_cvK C hk]
  exact vk_getf cx.1 cx.2.1 ((cx.2.2.2.2.2.2.2.2.1.2.2.2.2.2.1.1 k hk).2.1) hS cx.2.2.2.2.2.1 (cx.2.2.2.2.2.2.1 _ hl9) (fun _ h => h) hd hkk
theorem ow_getcs (hd : decode y.2.1 pc = .ok (.getstatic ix, 3)) (hl9 : Cond.fieldLink y.1.cls ix "java/lang/String" "COMPACT_STRINGS" "Z" ∈ ow_gt) (hp : pc + 3 = pc') (kk : ow_At C E d y pc' lv ((0, 1) :: st) b M K) : ow_At C E d y pc lv st b M K := by
  subst hp
  intro p e s m args below meth c H locs ls cells slots cx hr hS hl hv hs
  have hkk := kk p e s m args below meth c H locs ls cells slots cx hr hS hl hv (ow_rc (v := (0, 1)) (show ow_I 1 from ⟨by decide, by decide⟩) hs)
  exact va_gets cx.1 cx.2.1 cx.2.2.2.2.2.2.2.2.1.2.2.2.2.2.2.2.1 hS cx.2.2.2.2.2.1 (cx.2.2.2.2.2.2.1 _ hl9) (fun _ h => h) hd hkk
def ow_sio (C : ow_C) : Int := match C.2.2.2.2.2.2.2 with
  | none => -1
  | some _ => 998
theorem ow_sio_cv (C : ow_C) : ow_cv C (3, ow_sio C) = va_rf C.2.2.2.2.2.2.2 := by
  show va_rf (ow_rf C (ow_sio C)) = _
  unfold ow_sio
  cases h : C.2.2.2.2.2.2.2 with
  | none => rfl
  | some a =>
    show va_rf (ow_rf C 998) = _
    unfold ow_rf
    rw [if_neg (by omega), if_neg (by omega), if_neg (by omega), if_pos rfl, h]
    rfl
theorem ow_getsio (hd : decode y.2.1 pc = .ok (.getstatic ix, 3)) (hl9 : Cond.fieldLink y.1.cls ix "jdk/internal/util/Preconditions" "SIOOBE_FORMATTER" "Ljava/util/function/BiFunction;" ∈ ow_gt) (hp : pc + 3 = pc') (kk : ow_At C E d y pc' lv ((3, ow_sio C) :: st) b M K) : ow_At C E d y pc lv st b M K := by
  subst hp
  intro p e s m args below meth c H locs ls cells slots cx hr hS hl hv hs
  have hkk := kk p e s m args below meth c H locs ls cells slots cx hr hS hl hv (ow_rc (v := (3, _)) trivial hs)
  rw [List.map_cons, ow_sio_cv] at hkk
  exact va_gets cx.1 cx.2.1 cx.2.2.2.2.2.2.2.2.1.2.2.2.2.2.2.2.2 hS cx.2.2.2.2.2.1 (cx.2.2.2.2.2.2.1 _ hl9) (fun _ h => h) hd hkk
theorem ow_slen (hd : decode y.2.1 pc = .ok (.arraylength, 1)) (hk : k < 16) (hp : pc + 1 = pc') (kk : ow_At C E d y pc' lv ((0, ow_len k) :: st) b M K) : ow_At C E d y pc lv ((3, 2000 + (k : Int)) :: st) b M K := by
  subst hp
  intro p e s m args below meth c H locs ls cells slots cx hr hS hl hv hs
  have h11 := ow_len_le k hk
  have hkk := kk p e s m args below meth c H locs ls cells slots cx hr hS hl hv (ow_rc (v := (0, _)) (show ow_I (ow_len k) by unfold ow_I ow_len; omega) (ow_rs hs))
  rw [List.map_cons, ow_cvV C hk]
  have hT := ((cx.2.2.2.2.2.2.2.2.1.2.2.2.2.2.1.1 k hk).2.2.2).kept hS.2.1
  obtain ⟨scr, h1, h2, h3, h4, h5, h6, -⟩ := hT
  exact W.alen (n := Int32.ofInt (ow_len k)) cx.1 cx.2.1 h1 h2 (h5.trans (ow_ofN _)) rfl rfl hd hkk
theorem ow_sbald {i : Int} (hd : decode y.2.1 pc = .ok (.baload, 1)) (hk : k < 16) (hp : pc + 1 = pc') (h0 : 0 ≤ i) (h9 : i < ow_len k) (kk : ow_At C E d y pc' lv ((0, ow_byt k i) :: st) b M K) : ow_At C E d y pc lv ((0, i) :: (3, 2000 + (k : Int)) :: st) b M K := by
  subst hp
  intro p e s m args below meth c H locs ls cells slots cx hr hS hl hv hs
  have hi : ow_I i := ow_r1 hs
  have hkk := kk p e s m args below meth c H locs ls cells slots cx hr hS hl hv (ow_rc (v := (0, _)) (ow_it _) (ow_rs (ow_rs hs)))
  have e1 : ow_cv C (0, ow_byt k i) = .int ((ow_sb.getD k []).getD i.toNat 0) := congrArg Value.int (Int32.ofInt_toInt _)
  rw [List.map_cons, e1] at hkk
  rw [List.map_cons, List.map_cons, ow_cvV C hk]
  have hT := ((cx.2.2.2.2.2.2.2.2.1.2.2.2.2.2.1.1 k hk).2.2.2).kept hS.2.1
  obtain ⟨scr, h1, h2, h3, h4, h5, h6, -⟩ := hT
  have hlt : i.toNat < ow_sl.getD k 0 := by unfold ow_len at h9; omega
  have hin := ow_vin (n := ow_sl.getD k 0) hi h0 (by unfold ow_len at h9; exact h9)
  exact W.bald (v := .int ((ow_sb.getD k []).getD i.toNat 0)) cx.1 cx.2.1 h1 h2 h3 (fun q => hin (q.elim Or.inl (fun q => Or.inr (Nat.le_trans h4 q)))) (by rw [ow_clamp hi]; exact h6 _ hlt) rfl rfl hd hkk
theorem ow_i2c {a : Int} (hd : decode y.2.1 pc = .ok (.i2c, 1)) (hp : pc + 1 = pc') (h0 : 0 ≤ a) (h9 : a ≤ 65535) (kk : ow_At C E d y pc' lv ((0, a) :: st) b M K) : ow_At C E d y pc lv ((0, a) :: st) b M K := by
  subst hp
  intro p e s m args below meth c H locs ls cells slots cx hr hS hl hv hs
  refine lv_i2c cx.1 cx.2.1 hd (v := Int32.ofInt a) ?_ (kk p e s m args below meth c H locs ls cells slots cx hr hS hl hv hs)
  obtain ⟨q, rfl⟩ : ∃ q : Nat, a = q := ⟨a.toNat, by omega⟩
  have h := pk_char (nI q)
  rw [show Int32.ofInt (q : Int) = nI q from (ow_ofN q).symm, h]
  rw [pk_tn (by omega), Nat.mod_eq_of_lt (by omega)]
theorem ow_cret {v : Int} (hd : decode y.2.1 pc = .ok (.ireturn, 1)) (hy : y.2.2.2 = some .char) (hb : b = (0, 0)) (h0 : 0 ≤ v) (h9 : v ≤ 65535) (hk : K v M) : ow_At C E d y pc lv [(0, v)] b M K := by
  intro p e s m args below meth c H locs ls cells slots cx hr hS hl hv hs
  subst hb
  refine W.zret (ty := .char) cx.1 cx.2.1 (cx.2.2.2.1.trans hy) ?_ (fun t ht hW => ⟨⟨v, M, by rw [hy]; rfl, (fun ty e9 => by rw [hy] at e9; cases e9; exact ow_r1 hs), hk, by rw [ht]; exact hr⟩, hS.F ht⟩) hS.2.2 hd cx.2.2.2.2.1
  obtain ⟨q, rfl⟩ : ∃ q : Nat, v = q := ⟨v.toNat, by omega⟩
  show narrow .char (.int (Int32.ofInt (q : Int))) = .int (Int32.ofInt (q : Int))
  rw [show Int32.ofInt (q : Int) = nI q from (ow_ofN q).symm]
  exact (pk_charN (by omega)).1
theorem ow_bret {v : Int} (hd : decode y.2.1 pc = .ok (.ireturn, 1)) (hy : y.2.2.2 = some .byte) (hb : b = (0, 0)) (h0 : v = 0) (hk : K v M) : ow_At C E d y pc lv [(0, v)] b M K := by
  intro p e s m args below meth c H locs ls cells slots cx hr hS hl hv hs
  subst hb
  subst h0
  exact W.zret (ty := .byte) cx.1 cx.2.1 (cx.2.2.2.1.trans hy) (by decide +kernel) (fun t ht hW => ⟨⟨0, M, by rw [hy]; rfl, (fun ty e9 => by rw [hy] at e9; cases e9; exact ow_r1 hs), hk, by rw [ht]; exact hr⟩, hS.F ht⟩) hS.2.2 hd cx.2.2.2.2.1
theorem ow_pop {v : ow_V} (hd : decode y.2.1 pc = .ok (.pop, 1)) (hc : Nat.beq v.1 1 = false) (hp : pc + 1 = pc') (k : ow_At C E d y pc' lv st b M K) : ow_At C E d y pc lv (v :: st) b M K := by
  subst hp
  intro p e s m args below meth c H locs ls cells slots cx hr hS hl hv hs
  exact lv_pop cx.1 cx.2.1 hd (by rw [ow_cat, if_neg (Nat.ne_of_beq_eq_false hc)]) (k p e s m args below meth c H locs ls cells slots cx hr hS hl hv (ow_rs hs))
/-- a call on one of the texts -/
theorem ow_callT (hd : decode y.2.1 pc = .ok (.invokevirtual ix, 3)) (hl : Cond.methodLink y.1.cls ix z.1 ∈ ow_gt) (hm : ow_mk z n) (hi1 : Cond.instanceMethod z.1 ∈ ow_gt) (hi2 : Cond.selects z.1.cls z.1 z.1 ∈ ow_gt) (hzc : z.1.cls = "java/lang/String") (hk : k < 16) (hn : vs.length = n) (hst : vs.reverse ++ (3, 1000 + (k : Int)) :: st = stk) (hw : Nat.ble (ow_sw st) 8 = true) (hp : pc + 3 = pc') (hb : b = (b1.1 + b2.1, b1.2 + b2.2))
    (h : ow_Sp C E d z b1 ((3, 1000 + (k : Int)) :: vs) M (fun r M' => ow_At C E (d + 1) y pc' lv (ow_ps z.2.2.2 r st) b2 M' K)) : ow_At C E (d + 1) y pc lv stk b M K := by
  subst hp
  subst hst
  intro p e s m args below meth c H locs ls cells slots cx hr hS hlv hv hs
  have hs1 : ∀ v ∈ st, ow_rg v := fun v h => hs v (List.mem_append_right _ (List.mem_cons_of_mem _ h))
  have hs2 : ∀ v ∈ (3, 1000 + (k : Int)) :: vs, ow_rg v := fun v h => (List.mem_cons.mp h).elim (fun e => by rw [e]; trivial) (fun h => hs v (List.mem_append_left _ (List.mem_reverse.mpr h)))
  have hrec := vk_recv cx.2.2.2.2.2.2.2.2.1.2.2.2.2.2.1 hk hS
  rw [← hzc] at hrec
  have hpre := ow_pre (vs := (3, 1000 + (k : Int)) :: vs) cx hr hS hs2
  rw [List.map_cons, ow_cvK C hk] at hpre
  refine ow_after (st := st) (b1 := b1) (b2 := b2) cx hS hlv hv hs1 hb (va_runV (C := z.1.cls) (b := C.2.2.2.2.2.1 k) (As := vs.map (ow_cv C)) (rest := st.map (ow_cv C)) (Ts := ow_gt) (nL := y.2.2.1) ⟨cx.1, cx.2.1, cx.2.2.1, cx.2.2.2.2.2.1, cx.2.2.2.2.2.2.1⟩ h ⟨ow_cB cx hm hl, cx.2.2.2.2.2.2.1 _ hi1, cx.2.2.2.2.2.2.1 _ hi2⟩ ⟨ow_blind C E _ M, hrec, hpre⟩ rfl (by rw [List.length_map]; exact hn) hlv.1 ?_ (lv_room (by rw [ow_sw_cat]; exact Nat.ble_eq.mp hw)) hd ?_)
  · show (vs.reverse ++ (3, 1000 + (k : Int)) :: st).map (ow_cv C) = _
    rw [List.map_append, List.map_cons, ow_cvK C hk, List.map_reverse]
  · show cells + b1.1 ≤ cells + b.1 ∧ slots + b1.2 ≤ slots + b.2
    rw [hb]; simp only []; omega
end OWT
/-! ===== max, min and abs ===== -/
section OWX
variable {C : ow_C} {E : ow_E} {d : Nat} {y : ow_Y} {pc pc' ix : Nat} {lv : List (Nat × ow_V)} {st : List ow_V} {b : Nat × Nat} {M : ow_M} {K : Int → ow_M → Prop} {a c9 : Int}
theorem ow_max_rg {a c9 : Int} (h1 : ow_I a) (h2 : ow_I c9) : ow_I (max a c9) ∧ ow_I (min a c9) := by
  unfold ow_I at *
  omega
theorem ow_maxL_rg {a c9 : Int} (h1 : ow_L a) (h2 : ow_L c9) : ow_L (max a c9) ∧ ow_L (min a c9) := by
  unfold ow_L at *
  omega
theorem ow_rl (C : ow_C) (st : List ow_V) (hw : Nat.ble (ow_sw st) 8 = true) : (((st.map (ow_cv C)).map fun v => v.category).sum) ≤ 8 := by rw [ow_sw_cat]; exact Nat.ble_eq.mp hw
theorem ow_mmax (hd : decode y.2.1 pc = .ok (.invokestatic ix, 3)) (hl : Cond.methodLink y.1.cls ix Lib.Math.max.name ∈ ow_gt) (h1 : Cond.static Lib.Math.max.name ∈ ow_gt) (h2 : Cond.initialized "java/lang/Math" ∈ ow_gt) (h3 : Cond.code Lib.Math.max.name Lib.Math.max.code 2 (some .int) ∈ ow_gt) (hw : Nat.ble (ow_sw st) 8 = true) (hp : pc + 3 = pc') (kk : ow_At C E (d + 1) y pc' lv ((0, max a c9) :: st) b M K) : ow_At C E (d + 1) y pc lv ((0, c9) :: (0, a) :: st) b M K := by
  subst hp
  intro p e s m args below meth c H locs ls cells slots cx hr hS hlv hv hs
  have hts := cx.2.2.2.2.2.2.1
  have ha : ow_I a := ow_r1 (ow_rs hs)
  have hc : ow_I c9 := ow_r1 hs
  have hrl := ow_rl C st hw
  refine va_mmax cx.1 cx.2.1 (by rw [cx.2.2.1]; exact hlv.1.symm) cx.2.2.2.2.2.1 (hts _ hl) (hts _ h1) (hts _ h2) (hts _ h3) (by show 1 ≤ d + 1; omega) (by show _ ≤ 60 * (d + 1); omega) (by show cells ≤ cells + b.1; omega) (by show slots ≤ slots + b.2; omega) hd ?_
  have e1 : (if Int32.ofInt a < Int32.ofInt c9 then Int32.ofInt c9 else Int32.ofInt a) = Int32.ofInt (max a c9) := by
    by_cases h : a < c9
    · rw [if_pos ((ow_ilt ha hc).mpr h)]; congr 1; omega
    · rw [if_neg (fun z => h ((ow_ilt ha hc).mp z))]; congr 1; omega
  rw [e1]
  exact kk p e s m args below meth c H locs ls cells slots cx hr hS hlv hv (ow_rc (v := (0, _)) (ow_max_rg ha hc).1 (ow_rs (ow_rs hs)))
theorem ow_mmin (hd : decode y.2.1 pc = .ok (.invokestatic ix, 3)) (hl : Cond.methodLink y.1.cls ix Lib.Math.min.name ∈ ow_gt) (h1 : Cond.static Lib.Math.min.name ∈ ow_gt) (h2 : Cond.initialized "java/lang/Math" ∈ ow_gt) (h3 : Cond.code Lib.Math.min.name Lib.Math.min.code 2 (some .int) ∈ ow_gt) (hw : Nat.ble (ow_sw st) 8 = true) (hp : pc + 3 = pc') (kk : ow_At C E (d + 1) y pc' lv ((0, min a c9) :: st) b M K) : ow_At C E (d + 1) y pc lv ((0, c9) :: (0, a) :: st) b M K := by
  subst hp
  intro p e s m args below meth c H locs ls cells slots cx hr hS hlv hv hs
  have hts := cx.2.2.2.2.2.2.1
  have ha : ow_I a := ow_r1 (ow_rs hs)
  have hc : ow_I c9 := ow_r1 hs
  have hrl := ow_rl C st hw
  refine va_mmin cx.1 cx.2.1 (by rw [cx.2.2.1]; exact hlv.1.symm) cx.2.2.2.2.2.1 (hts _ hl) (hts _ h1) (hts _ h2) (hts _ h3) (by show 1 ≤ d + 1; omega) (by show _ ≤ 60 * (d + 1); omega) (by show cells ≤ cells + b.1; omega) (by show slots ≤ slots + b.2; omega) hd ?_
  have e1 : (if Int32.ofInt c9 < Int32.ofInt a then Int32.ofInt c9 else Int32.ofInt a) = Int32.ofInt (min a c9) := by
    by_cases h : c9 < a
    · rw [if_pos ((ow_ilt hc ha).mpr h)]; congr 1; omega
    · rw [if_neg (fun z => h ((ow_ilt hc ha).mp z))]; congr 1; omega
  rw [e1]
  exact kk p e s m args below meth c H locs ls cells slots cx hr hS hlv hv (ow_rc (v := (0, _)) (ow_max_rg ha hc).2 (ow_rs (ow_rs hs)))
def ow_abs (a : Int) : Int := if 0 ≤ a then a else -a
theorem ow_mabs (hd : decode y.2.1 pc = .ok (.invokestatic ix, 3)) (hl : Cond.methodLink y.1.cls ix Lib.Math.abs.name ∈ ow_gt) (h1 : Cond.static Lib.Math.abs.name ∈ ow_gt) (h2 : Cond.initialized "java/lang/Math" ∈ ow_gt) (h3 : Cond.code Lib.Math.abs.name Lib.Math.abs.code 1 (some .int) ∈ ow_gt) (hw : Nat.ble (ow_sw st) 8 = true) (hp : pc + 3 = pc') (hr1 : ow_I (-a)) (kk : ow_At C E (d + 1) y pc' lv ((0, ow_abs a) :: st) b M K) : ow_At C E (d + 1) y pc lv ((0, a) :: st) b M K := by
  subst hp
  intro p e s m args below meth c H locs ls cells slots cx hr hS hlv hv hs
  have hts := cx.2.2.2.2.2.2.1
  have ha : ow_I a := ow_r1 hs
  have hrl := ow_rl C st hw
  refine va_mabs cx.1 cx.2.1 (by rw [cx.2.2.1]; exact hlv.1.symm) cx.2.2.2.2.2.1 (hts _ hl) (hts _ h1) (hts _ h2) (hts _ h3) (by show 1 ≤ d + 1; omega) (by show _ ≤ 60 * (d + 1); omega) (by show cells ≤ cells + b.1; omega) (by show slots ≤ slots + b.2; omega) hd ?_
  have e1 : (if 0 ≤ Int32.ofInt a then Int32.ofInt a else 0 - Int32.ofInt a) = Int32.ofInt (ow_abs a) := by
    unfold ow_abs
    have e0 : (0 : Int32) ≤ Int32.ofInt a ↔ 0 ≤ a := ow_ile ow_i0 ha
    by_cases h : 0 ≤ a
    · rw [if_pos (e0.mpr h), if_pos h]
    · rw [if_neg (fun z => h (e0.mp z)), if_neg h, show (0 : Int32) = Int32.ofInt 0 from rfl, ow_sub_i]; congr 1; omega
  rw [e1]
  exact kk p e s m args below meth c H locs ls cells slots cx hr hS hlv hv (ow_rc (v := (0, _)) (by show ow_I (ow_abs a); unfold ow_abs; split; exact ha; exact hr1) (ow_rs hs))
theorem ow_mmaxL (hd : decode y.2.1 pc = .ok (.invokestatic ix, 3)) (hl : Cond.methodLink y.1.cls ix Lib.MathLoose.max_long.x ∈ ow_gt) (h1 : Cond.static Lib.MathLoose.max_long.x ∈ ow_gt) (h2 : Cond.initialized "java/lang/Math" ∈ ow_gt) (h3 : Cond.code Lib.MathLoose.max_long.x Lib.MathLoose.max_long.code 4 (some .long) ∈ ow_gt) (hw : Nat.ble (ow_sw st) 8 = true) (hp : pc + 3 = pc') (kk : ow_At C E (d + 1) y pc' lv ((1, max a c9) :: st) b M K) : ow_At C E (d + 1) y pc lv ((1, c9) :: (1, a) :: st) b M K := by
  subst hp
  intro p e s m args below meth c H locs ls cells slots cx hr hS hlv hv hs
  have hts := cx.2.2.2.2.2.2.1
  have ha : ow_L a := ow_r1 (ow_rs hs)
  have hc : ow_L c9 := ow_r1 hs
  have hrl := ow_rl C st hw
  refine va_mmax_long cx.1 cx.2.1 (by rw [cx.2.2.1]; exact hlv.1.symm) cx.2.2.2.2.2.1 (hts _ hl) (hts _ h1) (hts _ h2) (hts _ h3) (by show 1 ≤ d + 1; omega) (by show _ ≤ 60 * (d + 1); omega) (by show cells ≤ cells + b.1; omega) (by show slots ≤ slots + b.2; omega) hd ?_
  have e1 : (if Int64.ofInt c9 < Int64.ofInt a then Int64.ofInt a else Int64.ofInt c9) = Int64.ofInt (max a c9) := by
    by_cases h : c9 < a
    · rw [if_pos ((ow_llt hc ha).mpr h)]; congr 1; omega
    · rw [if_neg (fun z => h ((ow_llt hc ha).mp z))]; congr 1; omega
  rw [e1]
  exact kk p e s m args below meth c H locs ls cells slots cx hr hS hlv hv (ow_rc (v := (1, _)) (ow_maxL_rg ha hc).1 (ow_rs (ow_rs hs)))
theorem ow_mminL (hd : decode y.2.1 pc = .ok (.invokestatic ix, 3)) (hl : Cond.methodLink y.1.cls ix Lib.MathLoose.min_long.x ∈ ow_gt) (h1 : Cond.static Lib.MathLoose.min_long.x ∈ ow_gt) (h2 : Cond.initialized "java/lang/Math" ∈ ow_gt) (h3 : Cond.code Lib.MathLoose.min_long.x Lib.MathLoose.min_long.code 4 (some .long) ∈ ow_gt) (hw : Nat.ble (ow_sw st) 8 = true) (hp : pc + 3 = pc') (kk : ow_At C E (d + 1) y pc' lv ((1, min a c9) :: st) b M K) : ow_At C E (d + 1) y pc lv ((1, c9) :: (1, a) :: st) b M K := by
  subst hp
  intro p e s m args below meth c H locs ls cells slots cx hr hS hlv hv hs
  have hts := cx.2.2.2.2.2.2.1
  have ha : ow_L a := ow_r1 (ow_rs hs)
  have hc : ow_L c9 := ow_r1 hs
  have hrl := ow_rl C st hw
  refine va_mmin_long cx.1 cx.2.1 (by rw [cx.2.2.1]; exact hlv.1.symm) cx.2.2.2.2.2.1 (hts _ hl) (hts _ h1) (hts _ h2) (hts _ h3) (by show 1 ≤ d + 1; omega) (by show _ ≤ 60 * (d + 1); omega) (by show cells ≤ cells + b.1; omega) (by show slots ≤ slots + b.2; omega) hd ?_
  have e1 : (if Int64.ofInt c9 < Int64.ofInt a then Int64.ofInt c9 else Int64.ofInt a) = Int64.ofInt (min a c9) := by
    by_cases h : c9 < a
    · rw [if_pos ((ow_llt hc ha).mpr h)]; congr 1; omega
    · rw [if_neg (fun z => h ((ow_llt hc ha).mp z))]; congr 1; omega
  rw [e1]
  exact kk p e s m args below meth c H locs ls cells slots cx hr hS hlv hv (ow_rc (v := (1, _)) (ow_maxL_rg ha hc).2 (ow_rs (ow_rs hs)))
end OWX
