/-! ===== powers and letters ===== -/
def em_ok (A L N : Int) : Prop := 2 ≤ A ∧ A ≤ 5 ∧ 2 ≤ L ∧ L ≤ 8 ∧ N = em_pw A L ∧ N ≤ 256
theorem em_pw0 (a : Int) : em_pw a 0 = 1 := by simp [em_pw]
theorem em_pw_s (a : Int) {k : Int} (h : 0 ≤ k) : em_pw a (k + 1) = em_pw a k * a := by
  unfold em_pw
  rw [show (k + 1).toNat = k.toNat + 1 by omega, Int.pow_succ]
theorem em_pw_add (a : Int) {j k : Int} (hj : 0 ≤ j) (hk : 0 ≤ k) : em_pw a (j + k) = em_pw a j * em_pw a k := by
  unfold em_pw
  rw [show (j + k).toNat = j.toNat + k.toNat by omega, Int.pow_add]
theorem em_pw_pos {a : Int} (h : 0 < a) (k : Int) : 0 < em_pw a k := Int.pow_pos h
theorem em_pw1 (a : Int) : em_pw a 1 = a := by
  show a ^ 1 = a
  rw [Int.pow_succ, Int.pow_zero, Int.one_mul]
theorem em_pw_le {a : Int} (h : 1 ≤ a) {j k : Int} (hj : 0 ≤ j) (hk : j ≤ k) : em_pw a j ≤ em_pw a k := by
  rw [show k = j + (k - j) by omega, em_pw_add a hj (by omega)]
  have h1 := em_pw_pos (show 0 < a by omega) (k - j)
  have h2 := em_pw_pos (show 0 < a by omega) j
  have h3 := Int.mul_le_mul_of_nonneg_left (show 1 ≤ em_pw a (k - j) by omega) (show 0 ≤ em_pw a j by omega)
  omega
theorem em_bd {a b x y : Int} (h1 : 0 ≤ a) (h2 : a ≤ x) (h3 : 0 ≤ b) (h4 : b ≤ y) : 0 ≤ a * b ∧ a * b ≤ x * y := by
  refine ⟨Int.mul_nonneg h1 h3, ?_⟩
  have g1 := Int.mul_le_mul_of_nonneg_right h2 h3
  have g2 := Int.mul_le_mul_of_nonneg_left h4 (show 0 ≤ x by omega)
  omega
/-- a letter is put in another's place -/
theorem em_put (w c P A : Int) (hP : 0 < P) (hA : 0 < A) (h0 : 0 ≤ c) (h1 : c < A) : (w + (c - w / P % A) * P) / P % A = c ∧ (w + (c - w / P % A) * P) / (P * A) = w / (P * A) := by
  have e1 : (w + (c - w / P % A) * P) / P = w / P + (c - w / P % A) := Int.add_mul_ediv_right _ _ (by omega)
  have e2 : w / P + (c - w / P % A) = c + A * (w / P / A) := by
    have := Int.mul_ediv_add_emod (w / P) A
    omega
  refine ⟨?_, ?_⟩
  · rw [e1, e2, Int.add_mul_emod_self_left]
    exact Int.emod_eq_of_lt h0 h1
  · rw [← Int.ediv_ediv_of_nonneg (by omega), e1, e2, ← Int.ediv_ediv_of_nonneg (by omega), Int.add_mul_ediv_left _ _ (by omega), Int.ediv_eq_zero_of_lt h0 h1]
    omega
theorem em_hi (w c P A X : Int) (hP : 0 < P) (hA : 0 < A) (hX : 0 < X) (h0 : 0 ≤ c) (h1 : c < A) : (w + (c - w / P % A) * P) / (P * A * X) = w / (P * A * X) := by
  have hPA : 0 ≤ P * A := Int.le_of_lt (Int.mul_pos hP hA)
  rw [← Int.ediv_ediv_of_nonneg hPA, (em_put w c P A hP hA h0 h1).2, Int.ediv_ediv_of_nonneg hPA]
theorem em_lo (w e Q A X : Int) (hQ : 0 < Q) : (w + e * (Q * A * X)) / Q % A = w / Q % A := by
  rw [show e * (Q * A * X) = (A * (e * X)) * Q by rw [Int.mul_assoc Q, Int.mul_left_comm e Q, Int.mul_comm Q, Int.mul_left_comm e A]]
  rw [Int.add_mul_ediv_right _ _ (by omega), Int.add_mul_emod_self_left]
section EMW
variable {A L N : Int}
theorem em_dg_rg (h : em_ok A L N) (w p : Int) : 0 ≤ em_dg A L w p ∧ em_dg A L w p < A := ⟨Int.emod_nonneg _ (by have := h.1; omega), Int.emod_lt_of_pos _ (by have := h.1; omega)⟩
/-- a word with another letter at a place -/
def em_ch (A L w p c : Int) : Int := w + (c - em_dg A L w p) * em_pw A (L - 1 - p)
theorem em_N (h : em_ok A L N) {p : Int} (h0 : 0 ≤ p) (h1 : p < L) : N = em_pw A (L - 1 - p) * A * em_pw A p := by
  have hA := h.1
  rw [h.2.2.2.2.1, show L = (L - 1 - p) + 1 + p by omega, em_pw_add A (show 0 ≤ L - 1 - p + 1 by omega) h0, em_pw_s A (by omega)]
  simp only [show L - 1 - p + 1 + p - 1 - p = L - 1 - p by omega]
theorem em_pwp (h : em_ok A L N) (k : Int) : 0 < em_pw A k := em_pw_pos (by have := h.1; omega) k
theorem em_Npos (h : em_ok A L N) : 4 ≤ N := by
  obtain ⟨h1, h2, h3, h4, h5, h6⟩ := h
  rw [h5, show L = 2 + (L - 2) by omega, em_pw_add A (by omega) (by omega)]
  have e2 : em_pw A 2 = A * A := by show A ^ 2 = _; rw [Int.pow_succ, Int.pow_succ, Int.pow_zero, Int.one_mul]
  have g1 := (em_bd (a := 2) (x := A) (b := 2) (y := A) (by omega) h1 (by omega) h1).2
  have g2 := em_pw_pos (show 0 < A by omega) (L - 2)
  rw [e2]
  have g3 := Int.mul_le_mul_of_nonneg_left (show 1 ≤ em_pw A (L - 2) by omega) (show 0 ≤ A * A by omega)
  omega
theorem em_ch_dg (h : em_ok A L N) {w p c : Int} (hc : 0 ≤ c ∧ c < A) : em_dg A L (em_ch A L w p c) p = c := (em_put w c _ A (em_pwp h _) (by have := h.1; omega) hc.1 hc.2).1
theorem em_ch_rg (h : em_ok A L N) {w p c : Int} (hw : 0 ≤ w ∧ w < N) (hp : 0 ≤ p ∧ p < L) (hc : 0 ≤ c ∧ c < A) : 0 ≤ em_ch A L w p c ∧ em_ch A L w p c < N := by
  have hA := h.1
  have e := em_hi w c (em_pw A (L - 1 - p)) A (em_pw A p) (em_pwp h _) (by omega) (em_pwp h _) hc.1 hc.2
  rw [← em_N h hp.1 hp.2, Int.ediv_eq_zero_of_lt hw.1 hw.2] at e
  have hN := em_Npos h
  have e' : em_ch A L w p c / N = 0 := e
  have g := Int.mul_ediv_add_emod (em_ch A L w p c) N
  have g2 := Int.emod_nonneg (em_ch A L w p c) (show N ≠ 0 by omega)
  have g3 := Int.emod_lt_of_pos (em_ch A L w p c) (show 0 < N by omega)
  rw [e'] at g
  omega
theorem em_ch_ne (h : em_ok A L N) {w p c q : Int} (hp : 0 ≤ p ∧ p < L) (hq : 0 ≤ q ∧ q < L) (hpq : q ≠ p) (hc : 0 ≤ c ∧ c < A) : em_dg A L (em_ch A L w p c) q = em_dg A L w q := by
  have hA := h.1
  by_cases hlt : q < p
  · have e : em_pw A (L - 1 - q) = em_pw A (L - 1 - p) * A * em_pw A (p - q - 1) := by
      rw [show L - 1 - q = (L - 1 - p) + 1 + (p - q - 1) by omega, em_pw_add A (show 0 ≤ L - 1 - p + 1 by omega) (by omega), em_pw_s A (by omega)]
    unfold em_dg
    rw [e]
    unfold em_ch em_dg
    rw [em_hi w c _ A _ (em_pwp h _) (by omega) (em_pwp h _) hc.1 hc.2]
  · have e : em_pw A (L - 1 - p) = em_pw A (L - 1 - q) * A * em_pw A (q - p - 1) := by
      rw [show L - 1 - p = (L - 1 - q) + 1 + (q - p - 1) by omega, em_pw_add A (show 0 ≤ L - 1 - q + 1 by omega) (by omega), em_pw_s A (by omega)]
    unfold em_ch
    rw [e]
    unfold em_dg
    exact em_lo w _ _ A _ (em_pwp h _)
theorem em_pw_leN (h : em_ok A L N) {p : Int} (h0 : 0 ≤ p) (h1 : p < L) : em_pw A (L - 1 - p) * A ≤ 256 := by
  have e := em_N h h0 h1
  have g := em_pwp h p
  have h6 := h.2.2.2.2.2
  have hA := h.1
  have g1 := em_pwp h (L - 1 - p)
  have g2 : 0 ≤ em_pw A (L - 1 - p) * A := Int.le_of_lt (Int.mul_pos g1 (by omega))
  have g3 := Int.mul_le_mul_of_nonneg_left (show 1 ≤ em_pw A p by omega) g2
  omega
theorem em_pw_le128 (h : em_ok A L N) {p : Int} (h0 : 0 ≤ p) (h1 : p < L) : 1 ≤ em_pw A (L - 1 - p) ∧ em_pw A (L - 1 - p) ≤ 128 := by
  have g := em_pw_leN h h0 h1
  have hA := h.1
  have g1 := em_pwp h (L - 1 - p)
  have g3 := Int.mul_le_mul_of_nonneg_left hA (show 0 ≤ em_pw A (L - 1 - p) by omega)
  omega
theorem em_wL (h : em_ok A L N) {w p : Int} (hw : 0 ≤ w ∧ w < N) (hp : 0 ≤ p ∧ p < L) : 0 ≤ w * L ∧ w * L ≤ 2048 ∧ w * L + p < N * L ∧ (w * L + p) / L = w ∧ (w * L + p) % L = p := by
  obtain ⟨h1, h2, h3, h4, h5, h6⟩ := h
  have g := em_bd (a := w) (x := 256) (b := L) (y := 8) hw.1 (by omega) (by omega) h4
  have g2 := Int.mul_le_mul_of_nonneg_right (show w + 1 ≤ N by omega) (show 0 ≤ L by omega)
  rw [Int.add_mul] at g2
  refine ⟨g.1, by omega, by omega, ?_, ?_⟩
  · rw [Int.add_comm, Int.add_mul_ediv_right _ _ (by omega), Int.ediv_eq_zero_of_lt hp.1 hp.2]; omega
  · rw [Int.add_comm, Int.add_mul_emod_self_right]; exact Int.emod_eq_of_lt hp.1 hp.2
/-- what is left of a word whose letter at a place is the first one -/
theorem em_cl_rg (h : em_ok A L N) {w p : Int} (hw : 0 ≤ w ∧ w < N) (hp : 0 ≤ p ∧ p < L) : 0 ≤ em_dg A L w p * em_pw A (L - 1 - p) ∧ em_dg A L w p * em_pw A (L - 1 - p) ≤ w ∧ em_ch A L w p 0 = w - em_dg A L w p * em_pw A (L - 1 - p) := by
  have hd := em_dg_rg h w p
  have hP := em_pwp h (L - 1 - p)
  have e : em_ch A L w p 0 = w - em_dg A L w p * em_pw A (L - 1 - p) := by
    unfold em_ch
    rw [Int.sub_mul, Int.zero_mul]
    omega
  have g := (em_ch_rg h hw hp (c := 0) ⟨by omega, by have := h.1; omega⟩).1
  have g2 := Int.mul_nonneg hd.1 (Int.le_of_lt hP)
  exact ⟨g2, by omega, e⟩
theorem em_ch0 (h : em_ok A L N) {w p c : Int} : em_ch A L w p c = em_ch A L w p 0 + c * em_pw A (L - 1 - p) := by
  unfold em_ch
  rw [Int.sub_mul, Int.sub_mul, Int.zero_mul]
  omega
end EMW
/-- counting up, with a state beside the count -/
theorem ow_upto {S : Type} {P I : Int → S → Prop} (n : Int) (hx : ∀ s, I n s → P n s) (hs : ∀ i s, i < n → I i s → (∀ s', I (i + 1) s' → P (i + 1) s') → P i s) : ∀ i s, i ≤ n → I i s → P i s := by
  have key : ∀ (k : Nat) (i : Int) (s : S), n - i = k → I i s → P i s := by
    intro k
    induction k with
    | zero => intro i s h hi; have : i = n := by omega
              subst this; exact hx s hi
    | succ k ih => intro i s h hi; exact hs i s (by omega) hi (fun s' h' => ih (i + 1) s' (by omega) h')
  intro i s h hi
  exact key (n - i).toNat i s (by omega) hi
/-- counting down to 0 -/
theorem ow_dnto {S : Type} {P I : Int → S → Prop} (hx : ∀ s, I (-1) s → P (-1) s) (hs : ∀ i s, 0 ≤ i → I i s → (∀ s', I (i - 1) s' → P (i - 1) s') → P i s) : ∀ i s, -1 ≤ i → I i s → P i s := by
  have key : ∀ (k : Nat) (i : Int) (s : S), i + 1 = k → I i s → P i s := by
    intro k
    induction k with
    | zero => intro i s h hi; have : i = -1 := by omega
              subst this; exact hx s hi
    | succ k ih => intro i s h hi; exact hs i s (by omega) hi (fun s' h' => ih (i - 1) s' (by omega) h')
  intro i s h hi
  exact key (i + 1).toNat i s (by omega) hi
theorem ow_I' {x : Int} (h : -2147483648 ≤ x) (h2 : x ≤ 2147483647) : ow_I x := ⟨h, h2⟩
theorem em_tdiv {a b : Int} (h : 0 ≤ a) : Int.tdiv a b = a / b := Int.tdiv_eq_ediv_of_nonneg h
theorem em_tmod {a b : Int} (h : 0 ≤ a) : Int.tmod a b = a % b := Int.tmod_eq_emod_of_nonneg h
theorem ow_upS {M : ow_M} {c i v : Int} : ow_up M c i v c i = v := if_pos ⟨rfl, rfl⟩
theorem ow_upN {M : ow_M} {c i v c' i' : Int} (h : c' ≠ c ∨ i' ≠ i) : ow_up M c i v c' i' = M c' i' := if_neg (fun q => by rcases h with h | h; exact h q.1; exact h q.2)
