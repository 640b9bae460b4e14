/-! ===== switches, copies, rows of rows ===== -/
def ow_sel (P : Nat → Prop) (x : Int) : List (Int × Nat) → Nat → Prop
  | [], d => P d
  | (k, t) :: r, d => (x = k → P t) ∧ (x ≠ k → ow_sel P x r d)
def ow_pick (x : Int) : List (Int × Nat) → Nat → Nat
  | [], d => d
  | (k, t) :: r, d => if x = k then t else ow_pick x r d
theorem ow_sel_pick {P : Nat → Prop} {x : Int} : ∀ (l : List (Int × Nat)) (d : Nat), ow_sel P x l d → P (ow_pick x l d)
  | [], d, h => h
  | (k, t) :: r, d, h => by
    unfold ow_pick
    by_cases e : x = k
    · rw [if_pos e]; exact h.1 e
    · rw [if_neg e]; exact ow_sel_pick r d (h.2 e)
def ow_tb (pc : Nat) : Int → List Int → List (Int × Nat)
  | _, [] => []
  | lo, o :: r => (lo, ((pc : Int) + o).toNat) :: ow_tb pc (lo + 1) r
theorem ow_tb_out {pc : Nat} {x : Int} : ∀ (os : List Int) (lo : Int) (d : Nat), (x < lo ∨ lo + os.length ≤ x) → ow_pick x (ow_tb pc lo os) d = d
  | [], lo, d, _ => rfl
  | o :: r, lo, d, h => by
    unfold ow_tb ow_pick
    have hl : ((o :: r).length : Int) = r.length + 1 := by simp
    rw [hl] at h
    have : (r.length : Int) ≥ 0 := by omega
    rw [if_neg (by omega)]
    exact ow_tb_out r (lo + 1) d (by omega)
theorem ow_tb_in {pc : Nat} {x : Int} : ∀ (os : List Int) (lo : Int) (d : Nat) (off : Int), lo ≤ x → os[(x - lo).toNat]? = some off → ow_pick x (ow_tb pc lo os) d = ((pc : Int) + off).toNat
  | [], lo, d, off, _, h => by simp at h
  | o :: r, lo, d, off, h0, h => by
    unfold ow_tb ow_pick
    by_cases e : x = lo
    · rw [if_pos e]
      rw [e, Int.sub_self] at h
      simp at h
      rw [h]
    · rw [if_neg e]
      have h1 : (x - lo).toNat = (x - (lo + 1)).toNat + 1 := by omega
      rw [h1, List.getElem?_cons_succ] at h
      exact ow_tb_in r (lo + 1) d off (by omega) h
theorem ow_lk {pc : Nat} {x dflt : Int} : ∀ (ps : List (Int × Int)), ow_pick x (ps.map (fun q => (q.1, ((pc : Int) + q.2).toNat))) ((pc : Int) + dflt).toNat = ((pc : Int) + Op.lookupswitch.offset ps dflt x).toNat
  | [] => by rw [List.map_nil]; unfold ow_pick; first | rfl | simp [Op.lookupswitch.offset]
  | (a, o) :: r => by
    rw [List.map_cons, Op.lookupswitch.offset_cons]
    unfold ow_pick
    by_cases e : x = a
    · rw [if_pos e, if_pos (by first | exact e | exact e.symm)]
    · rw [if_neg e, if_neg (by first | exact e | exact fun q => e q.symm)]
      exact ow_lk r
section OWS
variable {C : ow_C} {E : ow_E} {d : Nat} {y : ow_Y} {pc pc' td : Nat} {lv : List (Nat × ow_V)} {st : List ow_V} {b : Nat × Nat} {M : ow_M} {K : Int → ow_M → Prop} {x : Int} {tbl : List (Int × Nat)}
theorem ow_tsw {dflt lo hi : Int} {offs : Array Int} {len : Nat} (hd : decode y.2.1 pc = .ok (.tableswitch dflt lo hi offs, len)) (hh : hi = lo + offs.toList.length - 1) (hck : (offs.toList.all (fun o => decide (0 ≤ (pc : Int) + o)) && decide (0 ≤ (pc : Int) + dflt)) = true) (ht : ow_tb pc lo offs.toList = tbl) (htd : ((pc : Int) + dflt).toNat = td) (k : ow_sel (fun t => ow_At C E d y t lv st b M K) x tbl td) : ow_At C E d y pc lv ((0, x) :: st) b M K := by
  subst ht
  subst htd
  intro p e s m args below meth c H locs ls cells slots cx hr hS hl hv hs
  have hx : ow_I x := ow_r1 hs
  simp only [Bool.and_eq_true, decide_eq_true_eq, List.all_eq_true] at hck
  have h := ow_sel_pick _ _ k
  by_cases ho : x < lo ∨ hi < x
  · rw [ow_tb_out _ _ _ (by omega)] at h
    exact lv_tableOut cx.1 cx.2.1 hd (by rw [ow_ti hx]; exact ho) (by omega) (h p e s m args below meth c H locs ls cells slots cx hr hS hl hv (ow_rs hs))
  · have hlt : (x - lo).toNat < offs.toList.length := by omega
    have hg : offs.toList[(x - lo).toNat]? = some (offs.toList[(x - lo).toNat]) := List.getElem?_eq_getElem hlt
    rw [ow_tb_in _ _ _ _ (by omega) hg] at h
    have h0 := hck.1 _ (List.getElem_mem hlt)
    exact lv_tableIn cx.1 cx.2.1 hd (by rw [ow_ti hx]; omega) (by rw [ow_ti hx]; omega) (by rw [ow_ti hx, ← Array.getElem?_toList]; exact hg) (by omega) (h p e s m args below meth c H locs ls cells slots cx hr hS hl hv (ow_rs hs))
theorem ow_lsw {dflt : Int} {ps : Array (Int × Int)} {len : Nat} (hd : decode y.2.1 pc = .ok (.lookupswitch dflt ps, len)) (hp : (ps.toList.zip (ps.toList.drop 1)).all (fun (a, next) => a.1 < next.1) = true) (hck : (ps.toList.all (fun o => decide (0 ≤ (pc : Int) + o.2)) && decide (0 ≤ (pc : Int) + dflt)) = true) (ht : ps.toList.map (fun q => (q.1, ((pc : Int) + q.2).toNat)) = tbl) (htd : ((pc : Int) + dflt).toNat = td) (k : ow_sel (fun t => ow_At C E d y t lv st b M K) x tbl td) : ow_At C E d y pc lv ((0, x) :: st) b M K := by
  subst ht
  subst htd
  intro p e s m args below meth c H locs ls cells slots cx hr hS hl hv hs
  have hx : ow_I x := ow_r1 hs
  simp only [Bool.and_eq_true, decide_eq_true_eq, List.all_eq_true] at hck
  have h := ow_sel_pick _ _ k
  rw [ow_lk] at h
  have h0 : 0 ≤ (pc : Int) + Op.lookupswitch.offset ps.toList dflt x := by
    have key : ∀ (l : List (Int × Int)), (∀ q ∈ l, 0 ≤ (pc : Int) + q.2) → 0 ≤ (pc : Int) + Op.lookupswitch.offset l dflt x := by
      intro l
      induction l with
      | nil => intro _; exact hck.2
      | cons q r ih =>
        intro hq
        obtain ⟨a, o⟩ := q
        rw [Op.lookupswitch.offset_cons]
        split
        · exact hq (a, o) List.mem_cons_self
        · exact ih (fun q h => hq q (List.mem_cons_of_mem _ h))
    exact key _ hck.1
  exact lv_lookup cx.1 cx.2.1 hd hp (by rw [ow_ti hx]) (by omega) (h p e s m args below meth c H locs ls cells slots cx hr hS hl hv (ow_rs hs))
/-- the memory with n places of cell a from dp on as those of a0 from sp on -/
def ow_cp (E : ow_E) (M : ow_M) (a0 sp a dp n : Int) : ow_M := fun c i => if c = a ∧ dp ≤ i ∧ i < dp + n then ow_gv E M a0 (sp + (i - dp)) else M c i
theorem ow_copy {ix : Nat} {a0 sp a dp n : Int} (hd : decode y.2.1 pc = .ok (.invokestatic ix, 3)) (hl : Cond.methodLink y.1.cls ix arraycopyName ∈ ow_gt) (h1 : Cond.native arraycopyName ∈ ow_gt) (h2 : Cond.static arraycopyName ∈ ow_gt) (h3 : Cond.initialized "java/lang/System" ∈ ow_gt) (hw : Nat.ble (ow_sw st) 8 = true) (hp : pc + 3 = pc') (hN : E.2.2 ≠ none)
    (ha0 : 0 ≤ a0 ∧ a0 < ow_nb E M ∧ (E.2.1 a0).1 = 100 ∧ 0 ≤ sp ∧ 0 ≤ n ∧ sp + n ≤ (E.2.1 a0).2) (ha : 0 ≤ a ∧ a < ow_nb E M ∧ (E.2.1 a).1 = 100 ∧ 0 ≤ dp ∧ dp + n ≤ (E.2.1 a).2) (hn : ∀ i, E.1 a i = none)
    (kk : ow_At C E (d + 1) y pc' lv st b (ow_cp E M a0 sp a dp n) K) : ow_At C E (d + 1) y pc lv ((0, n) :: (0, dp) :: (3, a) :: (0, sp) :: (3, a0) :: st) b M K := by
  subst hp
  intro p e s m args below meth c H locs ls cells slots cx hr hS hlv hv hs
  obtain ⟨o0, o1, o2, o3, o4, o5⟩ := ha0
  obtain ⟨q0, q1, q2, q3, q4⟩ := ha
  have in_n : ow_I n := ow_r1 hs
  have in_dp : ow_I dp := ow_r1 (ow_rs hs)
  have in_sp : ow_I sp := ow_r1 (ow_rs (ow_rs (ow_rs hs)))
  have hs5 : ∀ v ∈ st, ow_rg v := ow_rs (ow_rs (ow_rs (ow_rs (ow_rs hs))))
  have hx0 : a0 < 900 := by have := hr.2.1; omega
  have hx1 : a < 900 := by have := hr.2.1; omega
  have hts := cx.2.2.2.2.2.2.1
  rw [List.map_cons, List.map_cons, List.map_cons, List.map_cons, List.map_cons, ow_ref C o0 hx0, ow_ref C q0 hx1]
  have hat0 := ow_ws_at (C := C) (E := E) (M := M) o0 o1
  unfold ow_cell at hat0
  rw [o2] at hat0
  have hat1 := ow_ws_at (C := C) (E := E) (M := M) q0 q1
  unfold ow_cell at hat1
  rw [q2] at hat1
  have nlt : ∀ {z : Int}, ow_I z → 0 ≤ z → ¬ Int32.ofInt z < 0 := fun {z} hz h0 => by
    rw [show (0 : Int32) = Int32.ofInt 0 from rfl, ow_ilt hz ow_i0]; omega
  have hnbE : ∀ M2 : ow_M, ow_nb E M2 = ow_nb E M := fun M2 => by
    unfold ow_nb
    cases h9 : E.2.2 with
    | none => exact absurd h9 hN
    | some z => rfl
  have hcp : ∀ c' i', c' ≠ a → ow_gv E (ow_cp E M a0 sp a dp n) c' i' = ow_gv E M c' i' := fun c' i' h => by
    unfold ow_gv ow_cp
    cases E.1 c' i' with
    | some z => rfl
    | none => exact if_neg (fun z => h z.1)
  have hrm : (((st.map (ow_cv C)).map fun v => v.category).sum) ≤ 8 := by rw [ow_sw_cat]; exact Nat.ble_eq.mp hw
  refine va_copyi (ty := .int) cx.1 cx.2.1 (by rw [cx.2.2.1]; exact hlv.1.symm) cx.2.2.2.2.2.1 (hts _ hl) (hts _ h1) (hts _ h2) (hts _ h3) cx.2.2.2.2.2.2.2.1 hr.2.2.2.1 (ow_D C E M) hS a0.toNat a.toNat 0 0 hat0 hat1 rfl rfl rfl (nlt in_sp o3) (nlt in_dp q3) (nlt in_n o4) (by rw [ow_clamp in_sp, ow_clamp in_n]; omega) (by rw [ow_clamp in_dp, ow_clamp in_n]; omega) (fun i _ => rfl) (by show 1 ≤ d + 1; omega) (by
    have e9 : nativeFrameWords "java/lang/System" "arraycopy" 5 ≤ 30 := by decide +kernel
    show _ ≤ 60 * (d + 1)
    omega) hd fun H1 locs1 hP1 hD1 hS1 => ?_
  rw [ow_clamp in_sp, ow_clamp in_dp, ow_clamp in_n] at hP1
  refine kk p e s m args below meth c H1 locs1 ls cells slots cx ⟨by rw [hnbE]; exact hr.1, by rw [hnbE]; exact hr.2.1, fun h9 => absurd h9 hN, ?_, ?_⟩ hS1 hlv hv hs5
  · have hset : (ow_ws C E M).set a.toNat (C.2.1 + a.toNat, .inl (C.2.2.2.1 0, (E.2.1 a).2.toNat, .inl (va_cpy (fun (j : Nat) => Int32.ofInt (ow_gv E M a0 j)) (fun (j : Nat) => Int32.ofInt (ow_gv E M a j)) sp.toNat dp.toNat n.toNat))) = ow_ws C E (ow_cp E M a0 sp a dp n) := by
      apply List.ext_getElem?
      intro k
      by_cases hk : k < (ow_nb E M).toNat
      · have g1 := ow_ws_at (C := C) (E := E) (M := ow_cp E M a0 sp a dp n) (c := (k : Int)) (by omega) (by rw [hnbE]; omega)
        have g2 := ow_ws_at (C := C) (E := E) (M := M) (c := (k : Int)) (by omega) (by omega)
        simp only [Int.toNat_natCast] at g1 g2
        rw [g1]
        by_cases hc : k = a.toNat
        · subst hc
          rw [List.getElem?_set_self (by rw [ow_ws_len]; exact hk)]
          have h3 : ((a.toNat : Nat) : Int) = a := by omega
          rw [h3]
          unfold ow_cell
          rw [q2]
          congr 6
          funext j
          unfold va_cpy
          by_cases hj : dp.toNat ≤ j ∧ j < dp.toNat + n.toNat
          · rw [if_pos hj]
            have e5 : ow_gv E (ow_cp E M a0 sp a dp n) a j = ow_gv E M a0 ((sp.toNat + (j - dp.toNat) : Nat) : Int) := by
              have e6 : ((sp.toNat + (j - dp.toNat) : Nat) : Int) = sp + ((j : Int) - dp) := by omega
              rw [e6]
              conv => lhs; unfold ow_gv
              rw [hn]
              exact if_pos ⟨rfl, by omega, by omega⟩
            rw [e5]
          · rw [if_neg hj]
            have e5 : ow_gv E (ow_cp E M a0 sp a dp n) a j = ow_gv E M a j := by
              unfold ow_gv
              rw [hn]
              exact if_neg (fun z => hj (by omega))
            rw [e5]
        · rw [List.getElem?_set_ne (Ne.symm hc), g2]
          have : ow_cell C E (ow_cp E M a0 sp a dp n) k = ow_cell C E M k := by
            unfold ow_cell
            have : ∀ j : Int, ow_gv E (ow_cp E M a0 sp a dp n) (k : Int) j = ow_gv E M (k : Int) j := fun j => hcp _ _ (by omega)
            simp only [this]
          rw [this]
      · rw [List.getElem?_eq_none (by rw [List.length_set, ow_ws_len]; omega), List.getElem?_eq_none (by rw [ow_ws_len, hnbE]; omega)]
    rw [← hset]
    exact hP1
  · intro c' g0 g1 i' g2 g3
    rw [hnbE] at g1
    have h9 := hr.2.2.2.2 c' g0 g1 i' g2 g3
    by_cases hc : c' = a
    · subst hc
      by_cases hj : dp ≤ i' ∧ i' < dp + n
      · have e5 : ow_gv E (ow_cp E M a0 sp c' dp n) c' i' = ow_gv E M a0 (sp + (i' - dp)) := by
          conv => lhs; unfold ow_gv
          rw [hn]
          exact if_pos ⟨rfl, hj.1, hj.2⟩
        rw [e5, q2]
        have h8 := hr.2.2.2.2 a0 o0 o1 (sp + (i' - dp)) (by omega) (by omega)
        rw [o2] at h8
        exact h8
      · have e5 : ow_gv E (ow_cp E M a0 sp c' dp n) c' i' = ow_gv E M c' i' := by
          unfold ow_gv
          rw [hn]
          exact if_neg (fun z => hj ⟨z.2.1, z.2.2⟩)
        rw [e5]
        exact h9
    · rw [hcp _ _ hc]
      exact h9
end OWS
