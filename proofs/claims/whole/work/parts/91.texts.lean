/-! ===== a text as it grows, a clause at a time ===== -/
def tE (T : ow_M) : pm_E := (T 0 1, T 4)
def ts0 (T : ow_M) (s a b : Int) (e : Int) (i : Int) : Int := if i = 0 then T 0 0 + 1 else if i = 1 then e else if i = 2 then (if s = 2 then T 0 2 + 1 else T 0 2) else if i = 3 then (if s = 3 then T 0 3 + 1 else T 0 3) else if i = 4 then (if s = 0 then 1 else T 0 4) else if i = 5 then (if s = 0 then a else T 0 5) else if i = 6 then (if s = 0 then b else T 0 6) else if i = 7 then (if s = 1 then 1 else T 0 7) else if i = 8 then (if s = 1 then a else T 0 8) else if i = 9 then (if s = 1 then b else T 0 9) else T 0 i
def tst (T : ow_M) (s a b : Int) (E' : pm_E) : ow_M := fun c i => if c = 0 then ts0 T s a b E'.1 i else if c = 1 then bk_put (T 1) (T 0 0) s i else if c = 2 then bk_put (T 2) (T 0 0) a i else if c = 3 then bk_put (T 3) (T 0 0) b i else if c = 4 then E'.2 i else if c = 5 then (if s = 2 then bk_put (T 5) (T 0 2) a i else T 5 i) else if c = 6 then (if s = 2 then bk_put (T 6) (T 0 2) b i else T 6 i) else if c = 7 then (if s = 3 then bk_put (T 7) (T 0 3) a i else T 7 i) else if c = 8 then (if s = 3 then bk_put (T 8) (T 0 3) b i else T 8 i) else T c i
def tif (T : ow_M) (h lo hi v tr : Int) : Prop := T 0 h = 1 → 0 ≤ T 0 lo ∧ T 0 lo ≤ T 0 hi ∧ T 0 hi ≤ T 0 1 ∧ ck_all (T 4) (T 0 lo) (T 0 hi - T 0 lo).toNat ∧ ck_run (T 4) (T 0 lo) (T 0 hi - T 0 lo).toNat = (v, tr)
def ti (N : Int) (T : ow_M) : Prop := (T 0 4 = 0 ∨ T 0 4 = 1) ∧ (T 0 7 = 0 ∨ T 0 7 = 1) ∧ (0 ≤ T 0 1 ∧ T 0 1 ≤ 300) ∧ tif T 4 5 6 0 1 ∧ tif T 7 8 9 1 0 ∧ tx_cl N T
theorem tif_ext {T T' : ow_M} {h lo hi v tr : Int} (f : tif T h lo hi v tr) (e1 : T' 0 h = T 0 h) (e2 : T' 0 lo = T 0 lo) (e3 : T' 0 hi = T 0 hi) (e4 : T 0 1 ≤ T' 0 1) (e5 : ∀ k, 0 ≤ k → k < T 0 1 → T' 4 k = T 4 k) : tif T' h lo hi v tr := by
  intro q
  rw [e1] at q
  obtain ⟨a1, a2, a3, a4, a5⟩ := f q
  rw [e2, e3]
  have cg : ∀ j : Nat, j < (T 0 hi - T 0 lo).toNat → T 4 (T 0 lo + j) = T' 4 (T 0 lo + j) := fun j hj => (e5 _ (by omega) (by omega)).symm
  exact ⟨a1, a2, by omega, ck_all_cg cg a4, by rw [← ck_run_cg _ cg]; exact a5⟩
theorem tif_new {T' : ow_M} {h lo hi v tr a : Int} {E' : pm_E} (g : ckv E' a v tr) (e2 : T' 0 lo = a) (e3 : T' 0 hi = E'.1) (e4 : T' 0 1 = E'.1) (e5 : T' 4 = E'.2) : tif T' h lo hi v tr := by
  intro _
  obtain ⟨⟨g0, g1⟩, g2, g3⟩ := g
  rw [e2, e3, e4, e5]
  exact ⟨g0, g1, Int.le_refl _, g2, g3⟩
section TST
variable {N : Int} {T : ow_M} {a b : Int} {E' : pm_E}
theorem tst_ct {s x k : Int} (h0 : 0 ≤ k) (h1 : k ≤ T 0 0) : tx_ct (tst T s a b E') x k = tx_ct T x k := by
  unfold tx_ct
  refine ow_ct_cg h0 (fun j j0 j1 => ?_)
  have e : tst T s a b E' 1 j = T 1 j := bk_put_n (by omega)
  rw [e]
theorem tst_cts {s x : Int} (h0 : 0 ≤ T 0 0) : tx_ct (tst T s a b E') x (T 0 0 + 1) = tx_ct T x (T 0 0) + (if s = x then 1 else 0) := by
  have e : tst T s a b E' 1 (T 0 0) = s := bk_put_s
  have := tst_ct (T := T) (a := a) (b := b) (E' := E') (s := s) (x := x) h0 (Int.le_refl _)
  unfold tx_ct at this ⊢
  rw [ow_ctS h0, this, e]
  by_cases z : s = x
  · rw [if_pos (decide_eq_true z), if_pos z]
  · rw [if_neg (by simp [z]), if_neg z]
theorem ti_old (h : ti N T) {k : Int} : tst T 0 a b E' 0 0 = T 0 0 + 1 := rfl
/-- what was read before stands -/
theorem ti_prev {s : Int} (h : ti N T) (h4 : s = 0 → T 0 4 = 0) (h7 : s = 1 → T 0 7 = 0) {k : Int} (k0 : 0 ≤ k) (k1 : k < T 0 0) : (0 ≤ tst T s a b E' 1 k ∧ tst T s a b E' 1 k ≤ 3) ∧ (tst T s a b E' 1 k = 0 → tst T s a b E' 0 4 = 1 ∧ tst T s a b E' 2 k = tst T s a b E' 0 5 ∧ tst T s a b E' 3 k = tst T s a b E' 0 6) ∧ (tst T s a b E' 1 k = 1 → tst T s a b E' 0 7 = 1 ∧ tst T s a b E' 2 k = tst T s a b E' 0 8 ∧ tst T s a b E' 3 k = tst T s a b E' 0 9) ∧ (tst T s a b E' 1 k = 2 → tst T s a b E' 5 (tx_ct (tst T s a b E') 2 k) = tst T s a b E' 2 k ∧ tst T s a b E' 6 (tx_ct (tst T s a b E') 2 k) = tst T s a b E' 3 k) ∧ (tst T s a b E' 1 k = 3 → tst T s a b E' 7 (tx_ct (tst T s a b E') 3 k) = tst T s a b E' 2 k ∧ tst T s a b E' 8 (tx_ct (tst T s a b E') 3 k) = tst T s a b E' 3 k) := by
  obtain ⟨_, _, _, _, _, c1, c2, c3, c4, c5, c6, c7, c8⟩ := h
  have e1 : tst T s a b E' 1 k = T 1 k := bk_put_n (by omega)
  have e2 : tst T s a b E' 2 k = T 2 k := bk_put_n (by omega)
  have e3 : tst T s a b E' 3 k = T 3 k := bk_put_n (by omega)
  rw [e1, e2, e3, tst_ct k0 (by omega), tst_ct k0 (by omega)]
  obtain ⟨d1, d2, d3, d4, d5⟩ := c2 k k0 k1
  have f4 : tst T s a b E' 0 4 = (if s = 0 then 1 else T 0 4) := rfl
  have f5 : tst T s a b E' 0 5 = (if s = 0 then a else T 0 5) := rfl
  have f6 : tst T s a b E' 0 6 = (if s = 0 then b else T 0 6) := rfl
  have f7 : tst T s a b E' 0 7 = (if s = 1 then 1 else T 0 7) := rfl
  have f8 : tst T s a b E' 0 8 = (if s = 1 then a else T 0 8) := rfl
  have f9 : tst T s a b E' 0 9 = (if s = 1 then b else T 0 9) := rfl
  refine ⟨d1, fun q => ?_, fun q => ?_, fun q => ?_, fun q => ?_⟩
  · have := d2 q
    have hs : s ≠ 0 := fun z => by have := h4 z; omega
    rw [f4, f5, f6, if_neg hs, if_neg hs, if_neg hs]; exact this
  · have := d3 q
    have hs : s ≠ 1 := fun z => by have := h7 z; omega
    rw [f7, f8, f9, if_neg hs, if_neg hs, if_neg hs]; exact this
  · have lt : tx_ct T 2 k < T 0 2 := by
      have up := ow_ct_up (q := fun j => decide (T 1 j = 2)) (show 0 ≤ k + 1 by omega) (show k + 1 ≤ T 0 0 by omega)
      rw [ow_ctS k0, if_pos (decide_eq_true q)] at up
      rw [c5]
      unfold tx_ct
      omega
    have g5 : tst T s a b E' 5 (tx_ct T 2 k) = T 5 (tx_ct T 2 k) := by
      show (if s = 2 then bk_put (T 5) (T 0 2) a (tx_ct T 2 k) else T 5 (tx_ct T 2 k)) = _
      split
      · exact bk_put_n (by omega)
      · rfl
    have g6 : tst T s a b E' 6 (tx_ct T 2 k) = T 6 (tx_ct T 2 k) := by
      show (if s = 2 then bk_put (T 6) (T 0 2) b (tx_ct T 2 k) else T 6 (tx_ct T 2 k)) = _
      split
      · exact bk_put_n (by omega)
      · rfl
    rw [g5, g6]; exact d4 q
  · have lt : tx_ct T 3 k < T 0 3 := by
      have up := ow_ct_up (q := fun j => decide (T 1 j = 3)) (show 0 ≤ k + 1 by omega) (show k + 1 ≤ T 0 0 by omega)
      rw [ow_ctS k0, if_pos (decide_eq_true q)] at up
      rw [c6]
      unfold tx_ct
      omega
    have g5 : tst T s a b E' 7 (tx_ct T 3 k) = T 7 (tx_ct T 3 k) := by
      show (if s = 3 then bk_put (T 7) (T 0 3) a (tx_ct T 3 k) else T 7 (tx_ct T 3 k)) = _
      split
      · exact bk_put_n (by omega)
      · rfl
    have g6 : tst T s a b E' 8 (tx_ct T 3 k) = T 8 (tx_ct T 3 k) := by
      show (if s = 3 then bk_put (T 8) (T 0 3) b (tx_ct T 3 k) else T 8 (tx_ct T 3 k)) = _
      split
      · exact bk_put_n (by omega)
      · rfl
    rw [g5, g6]; exact d5 q
theorem ti_step {s : Int} (h : ti N T) (ht : T 0 0 < 24) (hs : 0 ≤ s ∧ s ≤ 3) (h4 : s = 0 → T 0 4 = 0) (h7 : s = 1 → T 0 7 = 0) (hE : T 0 1 ≤ E'.1 ∧ E'.1 ≤ 300) (hp : ∀ k, 0 ≤ k → k < T 0 1 → E'.2 k = T 4 k) (hb : s ≤ 1 → a = T 0 1 ∧ b = E'.1) (hc0 : s = 0 → ckv E' a 0 1) (hc1 : s = 1 → ckv E' a 1 0) (h2 : s = 2 → (0 ≤ a ∧ a < N) ∧ 1 ≤ b ∧ b ≤ 9) (h3 : s = 3 → 0 ≤ a ∧ a ≤ b ∧ b ≤ 8) : ti N (tst T s a b E') := by
  have h' := h
  obtain ⟨f1, f2, f3, f4, f5, c1, c2, c3, c4, c5, c6, c7, c8⟩ := h
  have g0 : tst T s a b E' 0 0 = T 0 0 + 1 := rfl
  have g1 : tst T s a b E' 0 1 = E'.1 := rfl
  have g2 : tst T s a b E' 0 2 = (if s = 2 then T 0 2 + 1 else T 0 2) := rfl
  have g3 : tst T s a b E' 0 3 = (if s = 3 then T 0 3 + 1 else T 0 3) := rfl
  have g4 : tst T s a b E' 0 4 = (if s = 0 then 1 else T 0 4) := rfl
  have g5 : tst T s a b E' 0 5 = (if s = 0 then a else T 0 5) := rfl
  have g6 : tst T s a b E' 0 6 = (if s = 0 then b else T 0 6) := rfl
  have g7 : tst T s a b E' 0 7 = (if s = 1 then 1 else T 0 7) := rfl
  have g8 : tst T s a b E' 0 8 = (if s = 1 then a else T 0 8) := rfl
  have g9 : tst T s a b E' 0 9 = (if s = 1 then b else T 0 9) := rfl
  have e1 : tst T s a b E' 1 (T 0 0) = s := bk_put_s
  have e2 : tst T s a b E' 2 (T 0 0) = a := bk_put_s
  have e3 : tst T s a b E' 3 (T 0 0) = b := bk_put_s
  have e5 : s = 2 → tst T s a b E' 5 (T 0 2) = a ∧ tst T s a b E' 6 (T 0 2) = b := fun z => ⟨by show (if s = 2 then bk_put (T 5) (T 0 2) a (T 0 2) else T 5 (T 0 2)) = a; rw [if_pos z]; exact bk_put_s, by show (if s = 2 then bk_put (T 6) (T 0 2) b (T 0 2) else T 6 (T 0 2)) = b; rw [if_pos z]; exact bk_put_s⟩
  have e7 : s = 3 → tst T s a b E' 7 (T 0 3) = a ∧ tst T s a b E' 8 (T 0 3) = b := fun z => ⟨by show (if s = 3 then bk_put (T 7) (T 0 3) a (T 0 3) else T 7 (T 0 3)) = a; rw [if_pos z]; exact bk_put_s, by show (if s = 3 then bk_put (T 8) (T 0 3) b (T 0 3) else T 8 (T 0 3)) = b; rw [if_pos z]; exact bk_put_s⟩
  have o5 : ∀ e, e < T 0 2 → tst T s a b E' 5 e = T 5 e ∧ tst T s a b E' 6 e = T 6 e := by
    intro e he
    constructor
    · show (if s = 2 then bk_put (T 5) (T 0 2) a e else T 5 e) = _
      split
      · exact bk_put_n (by omega)
      · rfl
    · show (if s = 2 then bk_put (T 6) (T 0 2) b e else T 6 e) = _
      split
      · exact bk_put_n (by omega)
      · rfl
  have o7 : ∀ e, e < T 0 3 → tst T s a b E' 7 e = T 7 e ∧ tst T s a b E' 8 e = T 8 e := by
    intro e he
    constructor
    · show (if s = 3 then bk_put (T 7) (T 0 3) a e else T 7 e) = _
      split
      · exact bk_put_n (by omega)
      · rfl
    · show (if s = 3 then bk_put (T 8) (T 0 3) b e else T 8 e) = _
      split
      · exact bk_put_n (by omega)
      · rfl
  have pre : ∀ k, 0 ≤ k → k < T 0 1 → tst T s a b E' 4 k = T 4 k := hp
  refine ⟨?_, ?_, ?_, ?_, ?_, ⟨by omega, by omega⟩, fun k k0 k1 => ?_, fun q => ?_, fun q => ?_, ?_, ?_, fun e x0 x1 => ?_, fun e x0 x1 => ?_⟩
  · rw [g4]; split <;> omega
  · rw [g7]; split <;> omega
  · rw [g1]; omega
  · by_cases z : s = 0
    · have := hb (by omega)
      exact tif_new (a := a) (hc0 z) (by rw [g5, if_pos z]) (by rw [g6, if_pos z]; exact this.2) g1 rfl
    · exact tif_ext f4 (by rw [g4, if_neg z]) (by rw [g5, if_neg z]) (by rw [g6, if_neg z]) (by rw [g1]; omega) pre
  · by_cases z : s = 1
    · have := hb (by omega)
      exact tif_new (a := a) (hc1 z) (by rw [g8, if_pos z]) (by rw [g9, if_pos z]; exact this.2) g1 rfl
    · exact tif_ext f5 (by rw [g7, if_neg z]) (by rw [g8, if_neg z]) (by rw [g9, if_neg z]) (by rw [g1]; omega) pre
  · rw [g0] at k1
    by_cases kk : k = T 0 0
    · rw [kk, e1, e2, e3]
      have ct2 := tst_ct (T := T) (a := a) (b := b) (E' := E') (s := s) (x := 2) c1.1 (Int.le_refl _)
      have ct3 := tst_ct (T := T) (a := a) (b := b) (E' := E') (s := s) (x := 3) c1.1 (Int.le_refl _)
      rw [ct2, ct3, ← c5, ← c6]
      refine ⟨hs, fun z => ?_, fun z => ?_, fun z => e5 z, fun z => e7 z⟩
      · rw [g4, g5, g6, if_pos z, if_pos z, if_pos z]; exact ⟨rfl, rfl, rfl⟩
      · rw [g7, g8, g9, if_pos z, if_pos z, if_pos z]; exact ⟨rfl, rfl, rfl⟩
    · exact ti_prev h' h4 h7 k0 (by omega)
  · by_cases z : s = 0
    · exact ⟨T 0 0, c1.1, by rw [g0]; omega, by rw [e1]; exact z⟩
    · rw [g4, if_neg z] at q
      obtain ⟨k, k0, k1, k2⟩ := c3 q
      exact ⟨k, k0, by rw [g0]; omega, by rw [show tst T s a b E' 1 k = T 1 k from bk_put_n (by omega)]; exact k2⟩
  · by_cases z : s = 1
    · exact ⟨T 0 0, c1.1, by rw [g0]; omega, by rw [e1]; exact z⟩
    · rw [g7, if_neg z] at q
      obtain ⟨k, k0, k1, k2⟩ := c4 q
      exact ⟨k, k0, by rw [g0]; omega, by rw [show tst T s a b E' 1 k = T 1 k from bk_put_n (by omega)]; exact k2⟩
  · rw [g2, g0, tst_cts c1.1, ← c5]; split <;> omega
  · rw [g3, g0, tst_cts c1.1, ← c6]; split <;> omega
  · rw [g2] at x1
    by_cases z : s = 2
    · rw [if_pos z] at x1
      by_cases ee : e = T 0 2
      · rw [ee, (e5 z).1, (e5 z).2]; exact h2 z
      · rw [(o5 e (by omega)).1, (o5 e (by omega)).2]; exact c7 e x0 (by omega)
    · rw [if_neg z] at x1
      rw [(o5 e (by omega)).1, (o5 e (by omega)).2]; exact c7 e x0 (by omega)
  · rw [g3] at x1
    by_cases z : s = 3
    · rw [if_pos z] at x1
      by_cases ee : e = T 0 3
      · rw [ee, (e7 z).1, (e7 z).2]; exact h3 z
      · rw [(o7 e (by omega)).1, (o7 e (by omega)).2]; exact c8 e x0 (by omega)
    · rw [if_neg z] at x1
      rw [(o7 e (by omega)).1, (o7 e (by omega)).2]; exact c8 e x0 (by omega)
end TST
theorem ti_0 {N : Int} : ti N tx_0 := ⟨Or.inl rfl, Or.inl rfl, ⟨by decide, by decide⟩, fun q => absurd q (by decide), fun q => absurd q (by decide), tx_0_cl⟩
/-- words -/
theorem wu_rg {A n : Int} {t : Int → Int} (hA : 1 ≤ A) : ∀ (k : Nat) (q i a : Int), 0 ≤ q → 0 ≤ a → a < em_pw A q → wu A n t k i a = -1 ∨ (0 ≤ wu A n t k i a ∧ wu A n t k i a < em_pw A (q + k)) := by
  intro k
  induction k with
  | zero => intro q i a hq h0 h1; right; rw [show q + ((0 : Nat) : Int) = q by omega]; exact ⟨h0, h1⟩
  | succ k ih =>
    intro q i a hq h0 h1
    show (if 0 ≤ ty_b n t i - 97 ∧ ty_b n t i - 97 < A then wu A n t k (i + 1) (a * A + (ty_b n t i - 97)) else -1) = -1 ∨ (0 ≤ (if 0 ≤ ty_b n t i - 97 ∧ ty_b n t i - 97 < A then wu A n t k (i + 1) (a * A + (ty_b n t i - 97)) else -1) ∧ (if 0 ≤ ty_b n t i - 97 ∧ ty_b n t i - 97 < A then wu A n t k (i + 1) (a * A + (ty_b n t i - 97)) else -1) < em_pw A (q + ((k + 1 : Nat) : Int)))
    by_cases z : 0 ≤ ty_b n t i - 97 ∧ ty_b n t i - 97 < A
    · rw [if_pos z]
      have mu := Int.mul_le_mul_of_nonneg_right (show a + 1 ≤ em_pw A q by omega) (show 0 ≤ A by omega)
      rw [Int.add_mul, Int.one_mul] at mu
      have m0 := Int.mul_nonneg h0 (show 0 ≤ A by omega)
      have := ih (q + 1) (i + 1) (a * A + (ty_b n t i - 97)) (by omega) (by omega) (by rw [em_pw_s A hq]; omega)
      rw [show q + 1 + (k : Int) = q + ((k + 1 : Nat) : Int) by omega] at this
      exact this
    · rw [if_neg z]; left; rfl
theorem vxt_rg {A L N n : Int} {t : Int → Int} (h : em_ok A L N) {i : Int} (hk : kx n t i = 1) : vx_t A L n t i = -1 ∨ (0 ≤ vx_t A L n t i ∧ vx_t A L n t i < N) := by
  have hk' : tk_k n t (ts n t i) = 1 := hk
  have hA := h.1
  have hL := h.2.2.1
  unfold vx_t tk_v
  rw [if_pos hk']
  unfold wv
  split
  · have := wu_rg (A := A) (n := n) (t := t) (by omega) L.toNat 0 (ts n t i) 0 (by decide) (by decide) (by rw [em_pw0]; decide)
    rw [show (0 : Int) + (L.toNat : Int) = L by omega, ← h.2.2.2.2.1] at this
    exact this
  · left; rfl
