/-! ===== codes that can be worked out ===== -/
def ckv (E : pm_E) (a v tr : Int) : Prop := (0 ≤ a ∧ a ≤ E.1) ∧ ck_all E.2 a (E.1 - a).toNat ∧ ck_run E.2 a (E.1 - a).toNat = (v, tr)
theorem ck_run_cg {f g : Int → Int} {a : Int} : ∀ k : Nat, (∀ j : Nat, j < k → f (a + j) = g (a + j)) → ck_run f a k = ck_run g a k := by
  intro k
  induction k with
  | zero => intro _; rfl
  | succ k ih =>
    intro h
    show (ck_n (f (a + k)) (ck_run f a k).1, ck_t (f (a + k)) (ck_run f a k).2) = (ck_n (g (a + k)) (ck_run g a k).1, ck_t (g (a + k)) (ck_run g a k).2)
    rw [ih (fun j hj => h j (by omega)), h k (by omega)]
theorem ck_all_cg {f g : Int → Int} {a : Int} {k : Nat} (h : ∀ j : Nat, j < k → f (a + j) = g (a + j)) (hf : ck_all f a k) : ck_all g a k := by
  intro j hj
  have := hf j hj
  rw [h j hj, ck_run_cg j (fun q hq => h q (by omega))] at this
  exact this
theorem ckv_push {E : pm_E} {a v tr c : Int} (h : ckv E a v tr) (hc : ck_ok c v tr) : ckv (pe E c) a (ck_n c v) (ck_t c tr) := by
  obtain ⟨h1, h2, h3⟩ := h
  have same : ∀ j : Nat, j < (E.1 - a).toNat → E.2 (a + j) = (pe E c).2 (a + j) := by
    intro j hj
    show E.2 (a + j) = bk_put E.2 E.1 c (a + j)
    rw [bk_put_n (by omega)]
  have last : (pe E c).2 (a + ((E.1 - a).toNat : Nat)) = c := by
    show bk_put E.2 E.1 c _ = c
    rw [show a + (((E.1 - a).toNat : Nat) : Int) = E.1 by omega, bk_put_s]
  have e : ((pe E c).1 - a).toNat = (E.1 - a).toNat + 1 := by
    show (E.1 + 1 - a).toNat = _
    omega
  refine ⟨⟨h1.1, by show a ≤ E.1 + 1; omega⟩, ?_, ?_⟩
  · rw [e]
    intro j hj
    by_cases ej : j = (E.1 - a).toNat
    · rw [ej, last, ← ck_run_cg _ same, h3]; exact hc
    · exact ck_all_cg same h2 j (by omega)
  · rw [e]
    show (ck_n ((pe E c).2 (a + ((E.1 - a).toNat : Nat))) (ck_run (pe E c).2 a (E.1 - a).toNat).1, ck_t ((pe E c).2 (a + ((E.1 - a).toNat : Nat))) (ck_run (pe E c).2 a (E.1 - a).toNat).2) = _
    rw [last, ← ck_run_cg _ same, h3]
/-- what reading an operand adds -/
def gr (m i : Int) (E : pm_E) (j : Int) (E' : pm_E) : Prop := i < j ∧ j ≤ m ∧ E'.1 + i ≤ E.1 + j ∧ E.1 ≤ E'.1 ∧ (∀ k, 0 ≤ k → k < E.1 → E'.2 k = E.2 k) ∧ ∀ a v tr, ckv E a v tr → 0 ≤ v → ckv E' a (v + 1) tr
theorem gr_val {m i v : Int} {E : pm_E} (hi : i < m) (hv : (0 ≤ v ∧ v ≤ 9999) ∨ (-6 ≤ v ∧ v ≤ -1)) : gr m i E (i + 1) (pe E v) := by
  refine ⟨by omega, by omega, by show E.1 + 1 + i ≤ E.1 + (i + 1); omega, by show E.1 ≤ E.1 + 1; omega, fun k k0 k1 => bk_put_n (by omega), fun a w tr h h0 => ?_⟩
  have := ckv_push (c := v) h (by unfold ck_ok; omega)
  have e1 : ck_n v w = w + 1 := by unfold ck_n; rw [if_pos (by omega)]
  have e2 : ck_t v tr = tr := by unfold ck_t; rw [if_pos (by omega)]
  rw [e1, e2] at this
  exact this
theorem gr_in {m i j i' : Int} {E E' : pm_E} (h : gr m i' E j E') (hi : i < i') : gr m i E j E' := ⟨by have := h.1; omega, h.2.1, by have := h.2.2.1; omega, h.2.2.2⟩
theorem gr_end {m i j j' : Int} {E E' : pm_E} (h : gr m i E j E') (hj : j < j') (hm : j' ≤ m) : gr m i E j' E' := ⟨by have := h.1; omega, hm, by have := h.2.2.1; omega, h.2.2.2⟩
theorem gr_min {m i j : Int} {E E' : pm_E} (h : gr m (i + 1) E j E') : gr m i E j (pe E' (-23)) := by
  obtain ⟨h1, h2, h3, h4, h5, h6⟩ := h
  refine ⟨by omega, h2, by show E'.1 + 1 + i ≤ E.1 + j; omega, by show E.1 ≤ E'.1 + 1; omega, fun k k0 k1 => ?_, fun a v tr g g0 => ?_⟩
  · show bk_put E'.2 E'.1 (-23) k = E.2 k
    rw [bk_put_n (by omega)]; exact h5 k k0 k1
  · have := ckv_push (c := -23) (h6 a v tr g g0) (Or.inr (Or.inr (Or.inl ⟨rfl, by omega⟩)))
    have e1 : ck_n (-23) (v + 1) = v + 1 := by unfold ck_n; rw [if_neg (by omega), if_pos (by omega)]
    have e2 : ck_t (-23) tr = tr := by unfold ck_t; rw [if_neg (by omega), if_neg (by omega), if_neg (by omega)]
    rw [e1, e2] at this
    exact this
theorem gr_op {m i j j' x : Int} {E E1 E2 : pm_E} (h : gr m i E j E1) (h2 : gr m (j + 1) E1 j' E2) (hx : op_ x = true) : gr m i E j' (pe E2 (-8 - x)) := by
  obtain ⟨a1, a2, a3, a4, a5, a6⟩ := h
  obtain ⟨b1, b2, b3, b4, b5, b6⟩ := h2
  have hx' := of_decide_eq_true hx
  refine ⟨by omega, b2, by show E2.1 + 1 + i ≤ E.1 + j'; omega, by show E.1 ≤ E2.1 + 1; omega, fun k k0 k1 => ?_, fun a v tr g g0 => ?_⟩
  · show bk_put E2.2 E2.1 (-8 - x) k = E.2 k
    rw [bk_put_n (by omega), b5 k k0 (by omega)]; exact a5 k k0 k1
  · have := ckv_push (c := -8 - x) (b6 a (v + 1) tr (a6 a v tr g g0) (by omega)) (by unfold ck_ok; omega)
    have e1 : ck_n (-8 - x) (v + 1 + 1) = v + 1 := by unfold ck_n; rw [if_neg (by omega), if_neg (by omega), if_pos (by omega)]; omega
    have e2 : ck_t (-8 - x) tr = tr := by unfold ck_t; rw [if_pos (by omega)]
    rw [e1, e2] at this
    exact this
/-! ===== operands, products, sums by the class ===== -/
section SMS
variable {C : ow_C} {A L N : Int} {n : Int} {t : Int → Int} {m r : Int}
theorem kx2_rg (hp : tp_ok n t) {i : Int} (hk : kx n t i = 2) : 0 ≤ nv n t i ∧ nv n t i ≤ 10000 := by
  have tr := ts_rg (t := t) hp.1 (i := i)
  have hk' : tk_k n t (ts n t i) = 2 := hk
  have lt : ts n t i < n := by
    by_cases e : ts n t i < n
    · exact e
    · unfold tk_k at hk'; rw [if_pos (by omega)] at hk'; exact absurd hk' (by decide)
  have nl : tq_l (ty_b n t (ts n t i)) ≠ true := fun z => by unfold tk_k at hk'; rw [if_neg (by omega), if_pos z] at hk'; exact absurd hk' (by decide)
  have yd : tq_d (ty_b n t (ts n t i)) = true := by
    by_cases e : tq_d (ty_b n t (ts n t i)) = true
    · exact e
    · unfold tk_k at hk'
      rw [if_neg (by omega), if_neg nl, if_neg e] at hk'
      split at hk'
      · split at hk' <;> omega
      · split at hk'
        · rename_i z; have := of_decide_eq_true z; omega
        · omega
  have ee : tk_e n t (ts n t i) = run n t tq_d (ts n t i) := by unfold tk_e; rw [if_neg (by omega), if_neg nl, if_pos yd]
  have al := run_all (t := t) (q := tq_d) (by decide) tr.1 (show ts n t i ≤ n by omega)
  have rr := run_rg (t := t) (q := tq_d) (show ts n t i ≤ n by omega)
  unfold nv
  rw [ee]
  exact nu_rg hp _ (fun j hj => al.1 _ (by omega) (by omega))
theorem vx_nv {i : Int} (hk : kx n t i = 2) : vx_t A L n t i = nv n t i := by
  have hk' : tk_k n t (ts n t i) = 2 := hk
  unfold vx_t tk_v nv
  rw [if_neg (by omega)]
theorem nx_no {i : Int} (hk : kx n t i ≠ 1) : nx n t i = -1 := by
  have hk' : ¬ tk_k n t (ts n t i) = 1 := hk
  unfold nx tk_n
  rw [if_neg hk']
/-- a number, by the class -/
theorem tX6_readNumber {d : Nat} {M : ow_M} {K : Int → ow_M → Prop} (hr : 0 ≤ r ∧ r < 4) (hm : te_ok n t m) {i lo hi : Int} {E : pm_E} (h : rd A L n t m r M i E) (k1 : kx n t i = 2 → lo ≤ nv n t i → nv n t i ≤ hi → ∀ M', rF r M M' → rd A L n t m r M' (i + 1) E → K (nv n t i) M') (k2 : ∀ v f M', ((kx n t i ≠ 2 ∧ f = 1) ∨ (kx n t i = 2 ∧ f = 2 ∧ ¬ (lo ≤ nv n t i ∧ nv n t i ≤ hi))) → rF r M M' → rw_ A L n t m r M' f i → K v M') : ow_Sp C (EM A L N) (d + 1) mX6_readNumber (0, 0) [(3, 46), (0, lo), (0, hi)] M K := by
  have m3 := hm.1
  have e2 := h.2.1
  have i0 := h.1.2.2.1
  rw [e2] at i0
  have z4 : M 46 4 = 0 := h.2.2.1
  refine fX6_readNumber (tX6_kind hm h.1 ?_)
  rw [e2]
  refine ⟨fun q => cX6_readNumber_24 (tX6_kind hm h.1 ?_), fun q => ⟨⟨by omega, by omega⟩, ?_⟩⟩
  · rw [e2]
    exact ⟨fun q2 => absurd q2 q, fun _ => tX6_fail hr hm h.1 (by decide) (fun z => absurd z4 z) (fun _ M' o w => k2 _ 1 M' (Or.inl ⟨q, rfl⟩) o (by rw [e2] at w; exact w))⟩
  · have il := kx_lt hm i0.2 (show kx n t i ≠ 0 by omega)
    have ev : M 57 i = nv n t i := by rw [(h.1.2.1.2 i i0.1 i0.2).2.2.2 (Or.inr q), vx_nv q]
    rw [ev]
    have bad : ¬ (lo ≤ nv n t i ∧ nv n t i ≤ hi) → ow_At C (EM A L N) (d + 1) mX6_readNumber 51 [(0, (3, 46)), (3, (0, nv n t i))] [] (0, 0) M K := fun hb => cX6_readNumber_51 (tX6_fail hr hm h.1 (by decide) (fun z => absurd z4 z) (fun _ M' o w => k2 _ 2 M' (Or.inr ⟨q, rfl, hb⟩) o (by rw [e2] at w; exact w)))
    refine cX6_readNumber_24 (tX6_kind hm h.1 ?_)
    rw [e2]
    refine ⟨fun _ => ⟨fun y => bad (by omega), fun y => ⟨fun y2 => ⟨⟨by omega, by omega⟩, fun N2 e3 => ?_⟩, fun y2 => bad (by omega)⟩⟩, fun q2 => absurd q q2⟩
    obtain ⟨g1, g2⟩ := h.go hr il e3
    exact k1 q y y2 N2 g2 g1
/-- a name, by the class -/
theorem tX6_readName {d : Nat} {M : ow_M} {K : Int → ow_M → Prop} (hr : 0 ≤ r ∧ r < 4) (hm : te_ok n t m) {i : Int} {E : pm_E} (h : rd A L n t m r M i E) (h0 : 0 ≤ E.1) (h3 : E.1 < 300) (k1 : 0 ≤ nx n t i → nx n t i < 6 → ∀ M', rF r M M' → rd A L n t m r M' (i + 1) (pe E (-1 - nx n t i)) → K 0 M') (k2 : ¬ (0 ≤ nx n t i ∧ nx n t i < 6) → ∀ M', rF r M M' → rw_ A L n t m r M' 1 i → K 0 M') : ow_Sp C (EM A L N) (d + 1) mX6_readName (0, 0) [(3, 46)] M K := by
  have m3 := hm.1
  obtain ⟨h1, e2, z4, h4, h5, h6, h7⟩ := h
  have i0 := h1.2.2.1
  rw [e2] at i0
  have ez := h1.2.1.1
  have ev : M 56 i = nx n t i := (h1.2.1.2 i i0.1 i0.2).2.2.1
  have bad : ¬ (0 ≤ nx n t i ∧ nx n t i < 6) → ow_At C (EM A L N) (d + 1) mX6_readName 93 [(0, (3, 46))] [] (0, 0) M K := fun hb => cX6_readName_93 (tX6_fail hr hm h1 (by decide) (fun z => absurd z4 z) (fun _ M' o w => k2 hb M' o (by rw [e2] at w; exact w)))
  refine fX6_readName ?_
  rw [e2, ez, ev]
  refine ⟨fun q => by omega, fun _ => ⟨fun q => by omega, fun _ => ⟨⟨by omega, by omega⟩, cX6_readName_37 ⟨fun q => bad (by omega), fun q => ⟨fun q2 => bad (by omega), fun q2 => ⟨⟨by omega, by omega⟩, ?_⟩⟩⟩⟩⟩⟩
  have il := (nx_lt hm i0.2 q).1
  have t1 := (em_text (A := A) (L := L) (N := N) (M := M) hr).1
  rw [h1.1]
  refine ⟨t1, tX7_emit hr h1.2.2.2.1 (fun z => by omega) (fun _ N1 e1 => ?_)⟩
  rw [h4] at e1
  have a1 : N1 46 1 = 22 + 6 * r := by rw [e1, ow_upN (Or.inl (by omega)), ow_upN (Or.inl (by omega))]; exact h1.1
  have t2 := em_text (A := A) (L := L) (N := N) (M := N1) hr
  have u2 : N1 (22 + 6 * r) 2 = M (22 + 6 * r) 2 := by rw [e1, ow_upN (Or.inr (by decide)), ow_upN (Or.inl (by omega))]
  rw [a1, t2.2.2.1, u2]
  have uh := h1.2.2.2.2
  -- the flag is set, then past the token
  have fin : ∀ s0, (s0 = 0 ∨ s0 = 1) → (s0 = 1 ↔ nx n t i = 3) → ow_At C (EM A L N) (d + 1) mX6_readName 76 [(0, (3, 46))] [(0, s0), (0, M (22 + 6 * r) 2), (3, 22 + 6 * r)] (0, 0) N1 K := by
    intro s0 h01 hs
    have ov : ow_or (M (22 + 6 * r) 2) s0 = if M (22 + 6 * r) 2 = 1 ∨ s0 = 1 then 1 else 0 := by
      rcases uh with e | e <;> rcases h01 with e' | e' <;> rw [e, e'] <;> decide
    have n2 := (em_text4 (A := A) (L := L) (N := N) (M := N1) (c := 0) hr ⟨by decide, by decide⟩).2.2.2.2.1
    refine cX6_readName_76 ⟨t2.1, n2, ?_, fun N2 e3 => ?_⟩
    · rw [ov]; split
      · exact Or.inr rfl
      · exact Or.inl rfl
    · have a2 : N2 46 2 = i := by rw [e3, ow_upN (Or.inl (by omega)), e1, ow_upN (Or.inl (by omega)), ow_upN (Or.inl (by omega))]; exact e2
      rw [a2]
      refine ⟨⟨by omega, by omega⟩, fun N3 e4 => ?_⟩
      have o : rF r M N3 := by rw [e4, e3, e1]; exact (((ow_of.rf.up (by simp)).uf (by simp)).uf (by simp)).uf (by simp)
      have s : ∀ c j, ¬ (c = 22 + 6 * r ∧ (j = 1 ∨ j = 2)) → c ≠ 22 + 6 * r + 1 → ¬ (c = 46 ∧ j = 2) → N3 c j = M c j := fun c j g1 g2 g3 => by rw [e4, ow_upN (by omega), e3, ow_upN (by omega), e1, ow_upN (by omega), ow_upN (Or.inl g2)]
      have v1 : N3 (22 + 6 * r) 1 = E.1 + 1 := by rw [e4, ow_upN (Or.inl (by omega)), e3, ow_upN (Or.inr (by decide)), e1, ow_upS]
      have v2 : N3 (22 + 6 * r) 2 = ow_or (M (22 + 6 * r) 2) s0 := by rw [e4, ow_upN (Or.inl (by omega)), e3, ow_upS]
      have v3 : N3 46 2 = i + 1 := by rw [e4, ow_upS]
      refine k1 q q2 N3 o ⟨h1.fr hr o (by rw [v3]; omega) (by rw [v1]; omega) ?_, v3, by rw [s _ _ (by omega) (by omega) (by decide)]; exact z4, v1, fun k k0 k1' => ?_, fun z k k0 k1' => ?_, by rw [s _ _ (by omega) (by omega) (by decide)]; exact h7⟩
      · rw [v2, ov]; split
        · exact Or.inr rfl
        · exact Or.inl rfl
      · show N3 _ k = bk_put E.2 E.1 (-1 - nx n t i) k
        have k2' : k < E.1 + 1 := k1'
        rw [e4, ow_upN (Or.inl (by omega)), e3, ow_upN (Or.inl (by omega)), e1, ow_upN (Or.inl (by omega))]
        by_cases ek : k = E.1
        · rw [ek, bk_put_s, ow_upS]
        · rw [bk_put_n ek, ow_upN (Or.inr ek)]; exact h5 k k0 (by omega)
      · show bk_put E.2 E.1 (-1 - nx n t i) k ≠ -4
        have k2' : k < E.1 + 1 := k1'
        rw [v2, ov] at z
        by_cases hor : M (22 + 6 * r) 2 = 1 ∨ s0 = 1
        · rw [if_pos hor] at z; exact absurd z (by decide)
        · by_cases ek : k = E.1
          · rw [ek, bk_put_s]
            intro z2
            exact hor (Or.inr (hs.2 (by omega)))
          · rw [bk_put_n ek]
            exact h6 (by rcases uh with e | e; exact e; exact absurd (Or.inl e) hor) k k0 (by omega)
  exact ⟨t2.1, fun q3 => fin 0 (Or.inl rfl) ⟨fun z => absurd z (by decide), fun z => absurd z q3⟩, fun q3 => fin 1 (Or.inr rfl) ⟨fun _ => q3, fun _ => rfl⟩⟩
end SMS
