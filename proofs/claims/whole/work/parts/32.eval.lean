/-! ===== formulas worked out ===== -/
def ev_cl (x : Int) : Int := max (-1000000) (min 1000000 x)
def ev_op (c l r : Int) : Int := if c = -11 then ev_cl (l + r) else if c = -12 then ev_cl (l - r) else if c = -13 then ev_cl (l * r) else if c = -14 then (if r = 0 then 0 else ev_cl (Int.tdiv l r)) else if c = -15 then (if l < r then 1 else 0) else if c = -16 then (if l ≤ r then 1 else 0) else if c = -17 then (if r < l then 1 else 0) else if c = -18 then (if r ≤ l then 1 else 0) else if c = -19 then (if l = r then 1 else 0) else if c = -20 then (if l = r then 0 else 1) else if c = -21 then (if l = 0 then 0 else if r = 0 then 0 else 1) else (if l = 0 then (if r = 0 then 0 else 1) else 1)
def ev_st (nm : Int → Int) (c : Int) (s : Int × (Int → Int)) : Int × (Int → Int) := if 0 ≤ c then (s.1 + 1, bk_put s.2 s.1 c) else if -6 ≤ c then (s.1 + 1, bk_put s.2 s.1 (nm (-1 - c))) else if c = -23 then (s.1, bk_put s.2 (s.1 - 1) (-(s.2 (s.1 - 1)))) else if c = -24 then (s.1, bk_put s.2 (s.1 - 1) (1 - s.2 (s.1 - 1))) else (s.1 - 1, bk_put s.2 (s.1 - 2) (ev_op c (s.2 (s.1 - 2)) (s.2 (s.1 - 1))))
def ev_run (nm f : Int → Int) (a : Int) : Nat → Int × (Int → Int)
  | 0 => (0, fun _ => 0)
  | n + 1 => ev_st nm (f (a + n)) (ev_run nm f a n)
/-- whether a code can stand behind n values and t truths -/
def ck_ok (c n t : Int) : Prop := (0 ≤ c ∧ c ≤ 9999) ∨ (-6 ≤ c ∧ c ≤ -1) ∨ (c = -23 ∧ 1 ≤ n) ∨ (c = -24 ∧ n = 0 ∧ 1 ≤ t) ∨ (-14 ≤ c ∧ c ≤ -11 ∧ 2 ≤ n) ∨ (-20 ≤ c ∧ c ≤ -15 ∧ n = 2) ∨ (-22 ≤ c ∧ c ≤ -21 ∧ n = 0 ∧ 2 ≤ t)
def ck_n (c n : Int) : Int := if -6 ≤ c then n + 1 else if c ≤ -21 then n else if -14 ≤ c then n - 1 else n - 2
def ck_t (c t : Int) : Int := if -15 < c then t else if -20 ≤ c then t + 1 else if -22 ≤ c then t - 1 else t
def ck_run (f : Int → Int) (a : Int) : Nat → Int × Int
  | 0 => (0, 0)
  | n + 1 => (ck_n (f (a + n)) (ck_run f a n).1, ck_t (f (a + n)) (ck_run f a n).2)
def ck_all (f : Int → Int) (a : Int) (k : Nat) : Prop := ∀ j, j < k → ck_ok (f (a + (j : Nat))) (ck_run f a j).1 (ck_run f a j).2
def ev_in (n t : Int) (s : Int × (Int → Int)) : Prop := 0 ≤ n ∧ 0 ≤ t ∧ s.1 = n + t ∧ (∀ j, 0 ≤ j → j < t → s.2 j = 0 ∨ s.2 j = 1) ∧ ∀ j, t ≤ j → j < t + n → -1000000 ≤ s.2 j ∧ s.2 j ≤ 1000000
def ev_nm (nm : Int → Int) : Prop := ∀ k, 0 ≤ k → k < 6 → -1000000 ≤ nm k ∧ nm k ≤ 1000000
theorem ev_cl_rg {x : Int} : -1000000 ≤ ev_cl x ∧ ev_cl x ≤ 1000000 := by unfold ev_cl; omega
theorem ev_op_rg {c l r : Int} : (-14 ≤ c → c ≤ -11 → -1000000 ≤ ev_op c l r ∧ ev_op c l r ≤ 1000000) ∧ (-22 ≤ c → c ≤ -15 → ev_op c l r = 0 ∨ ev_op c l r = 1) := by
  refine ⟨fun h1 h2 => ?_, fun h1 h2 => ?_⟩
  · have e : c = -11 ∨ c = -12 ∨ c = -13 ∨ c = -14 := by omega
    rcases e with e | e | e | e <;> subst e <;> simp only [ev_op, reduceCtorEq, if_true, if_false, Int.reduceNeg, Int.reduceEq] <;> first | exact ev_cl_rg | (split <;> first | omega | exact ev_cl_rg)
  · have e : c = -15 ∨ c = -16 ∨ c = -17 ∨ c = -18 ∨ c = -19 ∨ c = -20 ∨ c = -21 ∨ c = -22 := by omega
    rcases e with e | e | e | e | e | e | e | e <;> subst e <;> simp only [ev_op, if_true, if_false, Int.reduceNeg, Int.reduceEq] <;> (repeat' split) <;> simp
theorem ev_step {nm : Int → Int} {c n t : Int} {s : Int × (Int → Int)} (hnm : ev_nm nm) (hc : ck_ok c n t) (h : ev_in n t s) : ev_in (ck_n c n) (ck_t c t) (ev_st nm c s) := by
  obtain ⟨h1, h2, h3, h4, h5⟩ := h
  rcases hc with q | q | q | q | q | q | q
  · have e1 : ck_n c n = n + 1 := by unfold ck_n; rw [if_pos (by omega)]
    have e2 : ck_t c t = t := by unfold ck_t; rw [if_pos (by omega)]
    have e3 : ev_st nm c s = (s.1 + 1, bk_put s.2 s.1 c) := by unfold ev_st; rw [if_pos q.1]
    rw [e1, e2, e3]
    refine ⟨by omega, h2, by show s.1 + 1 = _; omega, fun j j0 j1 => ?_, fun j j0 j1 => ?_⟩
    · show bk_put s.2 s.1 c j = 0 ∨ bk_put s.2 s.1 c j = 1
      rw [bk_put_n (by omega)]; exact h4 j j0 j1
    · show -1000000 ≤ bk_put s.2 s.1 c j ∧ bk_put s.2 s.1 c j ≤ 1000000
      by_cases e : j = s.1
      · rw [e, bk_put_s]; omega
      · rw [bk_put_n e]; exact h5 j j0 (by omega)
  · have e1 : ck_n c n = n + 1 := by unfold ck_n; rw [if_pos (by omega)]
    have e2 : ck_t c t = t := by unfold ck_t; rw [if_pos (by omega)]
    have e3 : ev_st nm c s = (s.1 + 1, bk_put s.2 s.1 (nm (-1 - c))) := by unfold ev_st; rw [if_neg (by omega), if_pos q.1]
    have g := hnm (-1 - c) (by omega) (by omega)
    rw [e1, e2, e3]
    refine ⟨by omega, h2, by show s.1 + 1 = _; omega, fun j j0 j1 => ?_, fun j j0 j1 => ?_⟩
    · show bk_put s.2 s.1 _ j = 0 ∨ bk_put s.2 s.1 _ j = 1
      rw [bk_put_n (by omega)]; exact h4 j j0 j1
    · show -1000000 ≤ bk_put s.2 s.1 _ j ∧ bk_put s.2 s.1 _ j ≤ 1000000
      by_cases e : j = s.1
      · rw [e, bk_put_s]; omega
      · rw [bk_put_n e]; exact h5 j j0 (by omega)
  · have e1 : ck_n c n = n := by unfold ck_n; rw [if_neg (by omega), if_pos (by omega)]
    have e2 : ck_t c t = t := by unfold ck_t; rw [if_neg (by omega), if_neg (by omega), if_neg (by omega)]
    have e3 : ev_st nm c s = (s.1, bk_put s.2 (s.1 - 1) (-(s.2 (s.1 - 1)))) := by unfold ev_st; rw [if_neg (by omega), if_neg (by omega), if_pos q.1]
    have g := h5 (s.1 - 1) (by omega) (by omega)
    rw [e1, e2, e3]
    refine ⟨by omega, h2, by show s.1 = _; omega, fun j j0 j1 => ?_, fun j j0 j1 => ?_⟩
    · show bk_put s.2 (s.1 - 1) _ j = 0 ∨ bk_put s.2 (s.1 - 1) _ j = 1
      rw [bk_put_n (by omega)]; exact h4 j j0 j1
    · show -1000000 ≤ bk_put s.2 (s.1 - 1) _ j ∧ bk_put s.2 (s.1 - 1) _ j ≤ 1000000
      by_cases e : j = s.1 - 1
      · rw [e, bk_put_s]; omega
      · rw [bk_put_n e]; exact h5 j j0 (by omega)
  · have e1 : ck_n c n = n := by unfold ck_n; rw [if_neg (by omega), if_pos (by omega)]
    have e2 : ck_t c t = t := by unfold ck_t; rw [if_neg (by omega), if_neg (by omega), if_neg (by omega)]
    have e3 : ev_st nm c s = (s.1, bk_put s.2 (s.1 - 1) (1 - (s.2 (s.1 - 1)))) := by unfold ev_st; rw [if_neg (by omega), if_neg (by omega), if_neg (by omega), if_pos q.1]
    have g := h4 (s.1 - 1) (by omega) (by omega)
    rw [e1, e2, e3]
    refine ⟨by omega, h2, by show s.1 = _; omega, fun j j0 j1 => ?_, fun j j0 j1 => by omega⟩
    show bk_put s.2 (s.1 - 1) _ j = 0 ∨ bk_put s.2 (s.1 - 1) _ j = 1
    by_cases e : j = s.1 - 1
    · rw [e, bk_put_s]; omega
    · rw [bk_put_n e]; exact h4 j j0 j1
  · have e1 : ck_n c n = n - 1 := by unfold ck_n; rw [if_neg (by omega), if_neg (by omega), if_pos (by omega)]
    have e2 : ck_t c t = t := by unfold ck_t; rw [if_pos (by omega)]
    have e3 : ev_st nm c s = (s.1 - 1, bk_put s.2 (s.1 - 2) (ev_op c (s.2 (s.1 - 2)) (s.2 (s.1 - 1)))) := by unfold ev_st; rw [if_neg (by omega), if_neg (by omega), if_neg (by omega), if_neg (by omega)]
    have g := (ev_op_rg (c := c) (l := s.2 (s.1 - 2)) (r := s.2 (s.1 - 1))).1 q.1 q.2.1
    rw [e1, e2, e3]
    refine ⟨by omega, h2, by show s.1 - 1 = _; omega, fun j j0 j1 => ?_, fun j j0 j1 => ?_⟩
    · show bk_put s.2 (s.1 - 2) _ j = 0 ∨ bk_put s.2 (s.1 - 2) _ j = 1
      rw [bk_put_n (by omega)]; exact h4 j j0 j1
    · show -1000000 ≤ bk_put s.2 (s.1 - 2) _ j ∧ bk_put s.2 (s.1 - 2) _ j ≤ 1000000
      by_cases e : j = s.1 - 2
      · rw [e, bk_put_s]; exact g
      · rw [bk_put_n e]; exact h5 j j0 (by omega)
  · have e1 : ck_n c n = n - 2 := by unfold ck_n; rw [if_neg (by omega), if_neg (by omega), if_neg (by omega)]
    have e2 : ck_t c t = t + 1 := by unfold ck_t; rw [if_neg (by omega), if_pos (by omega)]
    have e3 : ev_st nm c s = (s.1 - 1, bk_put s.2 (s.1 - 2) (ev_op c (s.2 (s.1 - 2)) (s.2 (s.1 - 1)))) := by unfold ev_st; rw [if_neg (by omega), if_neg (by omega), if_neg (by omega), if_neg (by omega)]
    have g := (ev_op_rg (c := c) (l := s.2 (s.1 - 2)) (r := s.2 (s.1 - 1))).2 (by omega) (by omega)
    rw [e1, e2, e3]
    refine ⟨by omega, by omega, by show s.1 - 1 = _; omega, fun j j0 j1 => ?_, fun j j0 j1 => by omega⟩
    show bk_put s.2 (s.1 - 2) _ j = 0 ∨ bk_put s.2 (s.1 - 2) _ j = 1
    by_cases e : j = s.1 - 2
    · rw [e, bk_put_s]; exact g
    · rw [bk_put_n e]; exact h4 j j0 (by omega)
  · have e1 : ck_n c n = n := by unfold ck_n; rw [if_neg (by omega), if_pos (by omega)]
    have e2 : ck_t c t = t - 1 := by unfold ck_t; rw [if_neg (by omega), if_neg (by omega), if_pos (by omega)]
    have e3 : ev_st nm c s = (s.1 - 1, bk_put s.2 (s.1 - 2) (ev_op c (s.2 (s.1 - 2)) (s.2 (s.1 - 1)))) := by unfold ev_st; rw [if_neg (by omega), if_neg (by omega), if_neg (by omega), if_neg (by omega)]
    have g := (ev_op_rg (c := c) (l := s.2 (s.1 - 2)) (r := s.2 (s.1 - 1))).2 (by omega) (by omega)
    rw [e1, e2, e3]
    refine ⟨by omega, by omega, by show s.1 - 1 = _; omega, fun j j0 j1 => ?_, fun j j0 j1 => by omega⟩
    show bk_put s.2 (s.1 - 2) _ j = 0 ∨ bk_put s.2 (s.1 - 2) _ j = 1
    by_cases e : j = s.1 - 2
    · rw [e, bk_put_s]; exact g
    · rw [bk_put_n e]; exact h4 j j0 (by omega)
theorem ev_run_in {nm f : Int → Int} {a : Int} {k : Nat} (hnm : ev_nm nm) (hc : ck_all f a k) : ∀ j, j ≤ k → ev_in (ck_run f a j).1 (ck_run f a j).2 (ev_run nm f a j) := by
  intro j
  induction j with
  | zero =>
    intro _
    show ev_in 0 0 (0, fun _ => 0)
    exact ⟨by decide, by decide, rfl, fun j j0 j1 => by omega, fun j j0 j1 => by omega⟩
  | succ j ih => intro hj; exact ev_step hnm (hc j (by omega)) (ih (by omega))
theorem ck_le {f : Int → Int} {a : Int} {k : Nat} (hc : ck_all f a k) : ∀ j, j ≤ k → (ck_run f a j).1 + (ck_run f a j).2 ≤ j := by
  intro j
  induction j with
  | zero => intro _; exact Int.le_refl _
  | succ j ih =>
    intro hj
    have h1 := ih (by omega)
    have h2 := hc j (by omega)
    have e : (ck_run f a (j + 1)) = (ck_n (f (a + j)) (ck_run f a j).1, ck_t (f (a + j)) (ck_run f a j).2) := rfl
    rw [e]
    show ck_n (f (a + j)) (ck_run f a j).1 + ck_t (f (a + j)) (ck_run f a j).2 ≤ _
    unfold ck_n ck_t
    unfold ck_ok at h2
    split <;> (repeat' split) <;> omega
theorem ow_lcq {a b : Int} : (a < b ∧ ow_lcmp a b = -1) ∨ (a = b ∧ ow_lcmp a b = 0) ∨ (b < a ∧ ow_lcmp a b = 1) := by
  unfold ow_lcmp
  split
  · omega
  · split <;> omega
theorem ev_mul {l r : Int} (hl : -1000000 ≤ l ∧ l ≤ 1000000) (hr : -1000000 ≤ r ∧ r ≤ 1000000) : -1000000000000 ≤ l * r ∧ l * r ≤ 1000000000000 := by
  have h1 : (l * r).natAbs ≤ 1000000 * 1000000 := by
    rw [Int.natAbs_mul]
    exact Nat.mul_le_mul (by omega) (by omega)
  omega
theorem ev_div {l r : Int} (hl : -1000000 ≤ l ∧ l ≤ 1000000) : -1000000 ≤ Int.tdiv l r ∧ Int.tdiv l r ≤ 1000000 := by
  have h1 : (Int.tdiv l r).natAbs ≤ l.natAbs := by
    rw [Int.natAbs_tdiv]
    exact Nat.div_le_self _ _
  omega
def fm_C (M : ow_M) (s : Int × (Int → Int)) : Prop := M 59 2 = s.1 ∧ ∀ j, 0 ≤ j → j < s.1 → M 61 j = s.2 j
section EVS
variable {C : ow_C} {A L N : Int} {d : Nat} {M : ow_M} {K : Int → ow_M → Prop} {h : Int} {st : Int → Int}
theorem tX3_push (hF : fm_C M (h, st)) (h0 : 0 ≤ h) (h1 : h < 300) {v : Int} (hK : ∀ M', ow_of [61] [(59, 2)] M M' → fm_C M' (h + 1, bk_put st h v) → K 0 M') : ow_Sp C (EM A L N) d mX3_push (0, 0) [(3, 59), (0, v)] M K := by
  obtain ⟨f1, f2⟩ := hF
  have f1' : M 59 2 = h := f1
  refine fX3_push ?_
  rw [f1']
  refine ⟨fun q => by omega, fun _ => ⟨fun q => by omega, fun _ => ⟨⟨h0, h1⟩, ?_⟩⟩⟩
  intro N1 e1
  have g : N1 59 2 = h := by rw [e1, ow_upN (Or.inl (by decide))]; exact f1
  rw [g]
  refine ⟨⟨by omega, by omega⟩, ?_⟩
  intro N2 e2
  refine hK N2 (by rw [e2, e1]; exact (ow_of.rf.up (by decide)).uf (by decide)) ⟨by rw [e2, ow_upS], fun j j0 j1 => ?_⟩
  rw [e2, ow_upN (Or.inl (by decide)), e1]
  show ow_up M 61 h v 61 j = bk_put st h v j
  by_cases e : j = h
  · rw [e, ow_upS, bk_put_s]
  · have j1' : j < h + 1 := j1
    rw [ow_upN (Or.inr e), bk_put_n e]; exact f2 j j0 (by show j < h; omega)
theorem tX3_pop (hF : fm_C M (h, st)) (h0 : 0 < h) (h1 : h ≤ 300) (hK : ∀ M', ow_of [61] [(59, 2)] M M' → fm_C M' (h - 1, st) → K (st (h - 1)) M') : ow_Sp C (EM A L N) d mX3_pop (0, 0) [(3, 59)] M K := by
  obtain ⟨f1, f2⟩ := hF
  have f1' : M 59 2 = h := f1
  refine fX3_pop ?_
  rw [f1']
  refine ⟨fun q => by omega, fun _ => ⟨fun _ => ⟨⟨by omega, by omega⟩, ?_⟩, fun q => by omega⟩⟩
  intro N1 e1
  have g : N1 59 2 = h - 1 := by rw [e1, ow_upS]
  have g2 : ∀ j, 0 ≤ j → j < h → N1 61 j = st j := fun j j0 j1 => by rw [e1, ow_upN (Or.inl (by decide))]; exact f2 j j0 j1
  rw [g, g2 (h - 1) (by omega) (by omega)]
  exact ⟨⟨by omega, by omega⟩, hK N1 (by rw [e1]; exact ow_of.rf.uf (by decide)) ⟨g, fun j j0 j1 => g2 j j0 (by have : j < h - 1 := j1; omega)⟩⟩
theorem tX3_joined {E : ow_E} {c l r : Int} (hc : -22 ≤ c ∧ c ≤ -11) (hl : -1000000 ≤ l ∧ l ≤ 1000000) (hr : -1000000 ≤ r ∧ r ≤ 1000000) (hb : c ≤ -21 → (l = 0 ∨ l = 1) ∧ (r = 0 ∨ r = 1)) (hK : ∀ v, ev_cl v = ev_op c l r → K v M) : ow_Sp C E d mX3_joined (0, 0) [(0, c), (1, l), (1, r)] M K := by
  have hm := ev_mul hl hr
  have hd := ev_div (r := r) hl
  have hlc := ow_lcq (a := l) (b := r)
  have hl0 := ow_lcq (a := r) (b := 0)
  have c0 : ev_cl 0 = 0 := by decide
  have c1 : ev_cl 1 = 1 := by decide
  refine eX3_joined ⟨fun q => ?_, fun n1 => ⟨fun q => ?_, fun n2 => ⟨fun q => ⟨fun z => hK _ ?_, fun z => hK _ ?_⟩, fun n3 => ⟨fun q => ⟨fun z => hK _ ?_, fun z => hK _ ?_⟩, fun n4 => ⟨fun q => ⟨fun z => hK _ ?_, fun z => hK _ ?_⟩, fun n5 => ⟨fun q => ⟨fun z => hK _ ?_, fun z => hK _ ?_⟩, fun n6 => ⟨fun q => ⟨fun z => hK _ ?_, fun z => hK _ ?_⟩, fun n7 => ⟨fun q => ⟨fun z => hK _ ?_, fun z => hK _ ?_⟩, fun n8 => ⟨fun q => ⟨fun z => ⟨by omega, ⟨by omega, by omega⟩, hK _ ?_⟩, fun z => hK _ ?_⟩, fun n9 => ⟨fun q => ⟨⟨by omega, by omega⟩, hK _ ?_⟩, fun n10 => ⟨fun q => ⟨⟨by omega, by omega⟩, hK _ ?_⟩, fun n11 => ⟨fun q => ⟨⟨by omega, by omega⟩, hK _ ?_⟩, fun n12 => by omega⟩⟩⟩⟩⟩⟩⟩⟩⟩⟩⟩⟩
  · obtain ⟨q1 | q1, q2 | q2⟩ := hb (by omega) <;> subst q <;> subst q1 <;> subst q2 <;> exact hK _ (by decide)
  · obtain ⟨q1 | q1, q2 | q2⟩ := hb (by omega) <;> subst q <;> subst q1 <;> subst q2 <;> exact hK _ (by decide)
  all_goals (subst q; simp only [ev_op, if_true, if_false, Int.reduceNeg, Int.reduceEq])
  · rw [c0, if_pos (by omega)]
  · rw [c1, if_neg (by omega)]
  · rw [c0, if_neg (by omega)]
  · rw [c1, if_pos (by omega)]
  · rw [c0, if_neg (by omega)]
  · rw [c1, if_pos (by omega)]
  · rw [c0, if_neg (by omega)]
  · rw [c1, if_pos (by omega)]
  · rw [c0, if_neg (by omega)]
  · rw [c1, if_pos (by omega)]
  · rw [c0, if_neg (by omega)]
  · rw [c1, if_pos (by omega)]
  · rw [if_neg (by omega)]
  · rw [c0, if_pos (by omega)]
theorem tX3_step {nm : Int → Int} {c n t : Int} {s : Int × (Int → Int)} (hnm : ev_nm nm) (hM : ∀ k, 0 ≤ k → k < 6 → M 60 k = nm k) (hc : ck_ok c n t) (hi : ev_in n t s) (hF : fm_C M s) (h3 : n + t < 300) (hK : ∀ M', ow_of [61] [(59, 2)] M M' → fm_C M' (ev_st nm c s) → K 0 M') : ow_Sp C (EM A L N) (d + 1) mX3_step (0, 0) [(3, 59), (0, c)] M K := by
  obtain ⟨h1, h2, hs, h4, h5⟩ := hi
  refine fX3_step ⟨fun q1 => ⟨fun q2 => ⟨fun q3 => ⟨fun q4 => ?_, fun q4 => ?_⟩, fun q3 => ?_⟩, fun q2 => ?_⟩, fun q1 => ?_⟩
  · have hcb : -22 ≤ c ∧ c ≤ -11 := by unfold ck_ok at hc; omega
    have hn2 : 2 ≤ s.1 := by unfold ck_ok at hc; omega
    refine tX3_pop hF (by omega) (by omega) (fun M1 o1 F1 => tX3_pop F1 (by omega) (by omega) (fun M2 o2 F2 => ?_))
    rw [show s.1 - 1 - 1 = s.1 - 2 by omega] at F2 ⊢
    have g : (-1000000 ≤ s.2 (s.1 - 2) ∧ s.2 (s.1 - 2) ≤ 1000000) ∧ (-1000000 ≤ s.2 (s.1 - 1) ∧ s.2 (s.1 - 1) ≤ 1000000) ∧ (c ≤ -21 → (s.2 (s.1 - 2) = 0 ∨ s.2 (s.1 - 2) = 1) ∧ (s.2 (s.1 - 1) = 0 ∨ s.2 (s.1 - 1) = 1)) := by
      unfold ck_ok at hc
      by_cases e : c ≤ -21
      · have a1 := h4 (s.1 - 2) (by omega) (by omega)
        have a2 := h4 (s.1 - 1) (by omega) (by omega)
        exact ⟨by omega, by omega, fun _ => ⟨a1, a2⟩⟩
      · exact ⟨h5 _ (by omega) (by omega), h5 _ (by omega) (by omega), fun z => absurd z e⟩
    refine tX3_joined hcb g.1 g.2.1 g.2.2 (fun v hv => ?_)
    have hv' : max (-1000000) (min 1000000 v) = ev_op c (s.2 (s.1 - 2)) (s.2 (s.1 - 1)) := hv
    rw [hv']
    have hr : -1000000 ≤ ev_op c (s.2 (s.1 - 2)) (s.2 (s.1 - 1)) ∧ ev_op c (s.2 (s.1 - 2)) (s.2 (s.1 - 1)) ≤ 1000000 := by rw [← hv]; exact ev_cl_rg
    refine ⟨⟨by omega, by omega⟩, tX3_push F2 (by omega) (by omega) (fun M3 o3 F3 => hK M3 ((o1.tr o2).tr o3) ?_)⟩
    have e3 : ev_st nm c s = (s.1 - 1, bk_put s.2 (s.1 - 2) (ev_op c (s.2 (s.1 - 2)) (s.2 (s.1 - 1)))) := by unfold ev_st; rw [if_neg (by omega), if_neg (by omega), if_neg (by omega), if_neg (by omega)]
    rw [e3, show s.1 - 1 = s.1 - 2 + 1 by omega]
    rw [show s.1 - 2 + 1 = s.1 - 1 by omega] at *
    rw [show s.1 - 1 = s.1 - 2 + 1 by omega] at *
    exact F3
  · have hn2 : 1 ≤ s.1 := by unfold ck_ok at hc; omega
    have g := h4 (s.1 - 1) (by omega) (by unfold ck_ok at hc; omega)
    refine tX3_pop hF (by omega) (by omega) (fun M1 o1 F1 => ⟨⟨by omega, by omega⟩, tX3_push F1 (by omega) (by omega) (fun M2 o2 F2 => hK M2 (o1.tr o2) ?_)⟩)
    have e3 : ev_st nm c s = (s.1, bk_put s.2 (s.1 - 1) (1 - (s.2 (s.1 - 1)))) := by unfold ev_st; rw [if_neg (by omega), if_neg (by omega), if_neg (by omega), if_pos q4]
    rw [e3]
    rw [show s.1 - 1 + 1 = s.1 by omega] at F2
    exact F2
  · have hn2 : 1 ≤ n := by unfold ck_ok at hc; omega
    have g := h5 (s.1 - 1) (by omega) (by omega)
    refine tX3_pop hF (by omega) (by omega) (fun M1 o1 F1 => ⟨⟨by omega, by omega⟩, tX3_push F1 (by omega) (by omega) (fun M2 o2 F2 => hK M2 (o1.tr o2) ?_)⟩)
    have e3 : ev_st nm c s = (s.1, bk_put s.2 (s.1 - 1) (-(s.2 (s.1 - 1)))) := by unfold ev_st; rw [if_neg (by omega), if_neg (by omega), if_pos q3]
    rw [e3]
    rw [show s.1 - 1 + 1 = s.1 by omega] at F2
    exact F2
  · rw [hM _ (by omega) (by omega)]
    refine ⟨⟨by omega, by omega⟩, ⟨by omega, by omega⟩, tX3_push hF (by omega) (by omega) (fun M2 o2 F2 => hK M2 o2 ?_)⟩
    have e3 : ev_st nm c s = (s.1 + 1, bk_put s.2 s.1 (nm (-1 - c))) := by unfold ev_st; rw [if_neg (by omega), if_pos q2]
    rw [e3]; exact F2
  · refine tX3_push hF (by omega) (by omega) (fun M2 o2 F2 => hK M2 o2 ?_)
    have e3 : ev_st nm c s = (s.1 + 1, bk_put s.2 s.1 c) := by unfold ev_st; rw [if_pos q1]
    rw [e3]; exact F2
end EVS
