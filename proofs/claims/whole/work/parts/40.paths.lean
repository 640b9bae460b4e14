/-! ===== sums over all ways ===== -/
theorem ow_sm_cg {g g' : Int → Int} {n : Int} (hn : 0 ≤ n) (h : ∀ i, 0 ≤ i → i < n → g i = g' i) : ow_sm g n = ow_sm g' n := by
  have := ow_ind (P := fun i => i ≤ n → ow_sm g i = ow_sm g' i) (fun _ => rfl) (fun i i0 ih hi => by rw [ow_smS i0, ow_smS i0, ih (by omega), h i i0 (by omega)]) n hn
  exact this (by omega)
theorem ow_sm_le {g g' : Int → Int} {n : Int} (hn : 0 ≤ n) (h : ∀ i, 0 ≤ i → i < n → g i ≤ g' i) : ow_sm g n ≤ ow_sm g' n := by
  have := ow_ind (P := fun i => i ≤ n → ow_sm g i ≤ ow_sm g' i) (fun _ => Int.le_refl _) (fun i i0 ih hi => by
    have h1 := ih (by omega)
    have h2 := h i i0 (by omega)
    rw [ow_smS i0, ow_smS i0]
    omega) n hn
  exact this (by omega)
theorem ow_sm_mul {g : Int → Int} {c n : Int} (hn : 0 ≤ n) : ow_sm (fun i => c * g i) n = c * ow_sm g n := by
  refine ow_ind (P := fun n => ow_sm (fun i => c * g i) n = c * ow_sm g n) (by rw [ow_sm0, ow_sm0]; omega) (fun i i0 ih => ?_) n hn
  rw [ow_smS i0, ow_smS i0, ih, Int.mul_add]
theorem ow_sm_z {n : Int} (hn : 0 ≤ n) : ow_sm (fun _ => 0) n = 0 := by
  refine ow_ind (P := fun n => ow_sm (fun _ => 0) n = 0) rfl (fun i i0 ih => ?_) n hn
  rw [ow_smS i0, ih]; rfl
theorem ow_sm_nn {g : Int → Int} {n : Int} (hn : 0 ≤ n) (h : ∀ i, 0 ≤ i → i < n → 0 ≤ g i) : 0 ≤ ow_sm g n := by
  have := ow_sm_le (g := fun _ => 0) (g' := g) hn h
  rw [ow_sm_z hn] at this
  exact this
theorem ow_sm_up {g : Int → Int} {i j : Int} (h : 0 ≤ i) (hij : i ≤ j) (hg : ∀ k, 0 ≤ k → k < j → 0 ≤ g k) : ow_sm g i ≤ ow_sm g j := by
  have := ow_ind (P := fun k => i + k ≤ j → ow_sm g i ≤ ow_sm g (i + k)) (fun _ => by rw [Int.add_zero]; omega) (fun k k0 ih hk => by
    have h1 := ih (by omega)
    have h2 := hg (i + k) (by omega) (by omega)
    rw [← Int.add_assoc, ow_smS (show 0 ≤ i + k by omega)]
    omega) (j - i) (by omega) (by omega)
  rw [show i + (j - i) = j by omega] at this
  exact this
theorem ow_sm_one {g : Int → Int} {n x : Int} (hx : 0 ≤ x ∧ x < n) (hg : ∀ k, 0 ≤ k → k < n → 0 ≤ g k) : g x ≤ ow_sm g n := by
  have h1 := ow_sm_up (g := g) (i := x + 1) (j := n) (by omega) (by omega) hg
  have h2 := ow_sm_nn (g := g) hx.1 (fun k k0 k1 => hg k k0 (by omega))
  rw [ow_smS hx.1] at h1
  omega
/-- a sum where one of its parts has changed -/
theorem ow_sm_put {f g : Int → Int} {n x v : Int} (hx : 0 ≤ x ∧ x < n) : ow_sm (fun i => bk_put f x (f x + v) i * g i) n = ow_sm (fun i => f i * g i) n + v * g x := by
  have key := ow_ind (P := fun n => ow_sm (fun i => bk_put f x (f x + v) i * g i) n = ow_sm (fun i => f i * g i) n + (if x < n then v * g x else 0)) (by rw [ow_sm0, ow_sm0, if_neg (by omega)]; omega) (fun i i0 ih => by
    rw [ow_smS i0, ow_smS i0, ih]
    by_cases e : i = x
    · subst e
      rw [if_neg (by omega), if_pos (by omega), bk_put_s, Int.add_mul]
      omega
    · rw [bk_put_n e]
      by_cases e2 : x < i
      · rw [if_pos e2, if_pos (by omega)]; omega
      · rw [if_neg e2, if_neg (by omega)]; omega) n (by omega)
  rw [if_pos hx.2] at key
  exact key
/-- the weight of a hand's change of a word, by place and letter in one number -/
def cw (A L : Int) (T : ow_M) (hand w bh : Int) : Int → Int := fun z => if em_dg A L w (z / A) = z % A then 0 else ch_v T hand bh (z / A) (em_dg A L w (z / A)) (z % A)
/-- the weight of all rows of hands from a word on -/
def bw (A L : Int) (T : ow_M) (into : Int) : Nat → Int → Int → Int → Int
  | 0, _, w, _ => if w = into then 1 else 0
  | k + 1, hand, w, bh => ow_sm (fun z => cw A L T hand w bh z * bw A L T into k (hand + 1) (em_ch A L w (z / A) (z % A)) (z / A + 1)) (L * A)
section PTS
variable {A L N : Int} {T : ow_M}
theorem cw_rg {hand w bh z : Int} : 0 ≤ cw A L T hand w bh z ∧ cw A L T hand w bh z ≤ 9 := by
  unfold cw
  split
  · omega
  · exact ch_v_rg
theorem cw_v (h : em_ok A L N) {hand w bh p c : Int} (hp : 0 ≤ p ∧ p < L) (hc : 0 ≤ c ∧ c < A) : cw A L T hand w bh (p * A + c) = (if em_dg A L w p = c then 0 else ch_v T hand bh p (em_dg A L w p) c) ∧ (0 ≤ p * A + c ∧ p * A + c < L * A) ∧ (p * A + c) / A = p ∧ (p * A + c) % A = c := by
  obtain ⟨a1, a2, a3, a4⟩ := vx_b hp hc
  unfold cw
  rw [a3, a4]
  exact ⟨rfl, ⟨a1, a2⟩, rfl, rfl⟩
/-- no hand has more than 12 changes -/
theorem em_12 (h : em_ok A L N) : L * (A - 1) ≤ 12 := by
  obtain ⟨h1, h2, h3, h4, h5, h6⟩ := h
  have hA : A = 2 ∨ A = 3 ∨ A = 4 ∨ A = 5 := by omega
  have hL : L = 2 ∨ L = 3 ∨ L = 4 ∨ L = 5 ∨ L = 6 ∨ L = 7 ∨ L = 8 := by omega
  rw [h5] at h6
  rcases hA with e | e | e | e <;> subst e <;> rcases hL with e | e | e | e | e | e | e <;> subst e <;> first | omega | (exfalso; revert h6; decide)
theorem cw_sum (h : em_ok A L N) {hand w bh : Int} : 0 ≤ ow_sm (cw A L T hand w bh) (L * A) ∧ ow_sm (cw A L T hand w bh) (L * A) ≤ 108 := by
  have hA1 := h.1
  have hL3 := h.2.2.1
  have hD := vx_D h
  refine ⟨ow_sm_nn (by omega) (fun i _ _ => cw_rg.1), ?_⟩
  have key := ow_ind (P := fun p => p ≤ L → ow_sm (cw A L T hand w bh) (p * A) ≤ p * (9 * (A - 1))) (fun _ => by rw [Int.zero_mul, Int.zero_mul, ow_sm0]; omega) (fun p p0 ih hp => by
    have h1 := ih (by omega)
    have hdg := em_dg_rg h w p
    have row := ow_ind (P := fun c => c ≤ A → ow_sm (cw A L T hand w bh) (p * A + c) ≤ ow_sm (cw A L T hand w bh) (p * A) + 9 * (if em_dg A L w p < c then c - 1 else c)) (fun _ => by rw [Int.add_zero, if_neg (by omega)]; omega) (fun c c0 ih2 hc => by
      have h2 := ih2 (by omega)
      obtain ⟨v1, v2, v3, v4⟩ := cw_v (T := T) h (hand := hand) (w := w) (bh := bh) (p := p) (c := c) ⟨p0, by omega⟩ ⟨c0, by omega⟩
      have hr := cw_rg (A := A) (L := L) (T := T) (hand := hand) (w := w) (bh := bh) (z := p * A + c)
      rw [← Int.add_assoc, ow_smS v2.1]
      by_cases e : em_dg A L w p = c
      · rw [if_pos e] at v1
        rw [if_neg (by omega)] at h2
        rw [if_pos (by omega), v1]
        omega
      · by_cases e2 : em_dg A L w p < c
        · rw [if_pos e2] at h2
          rw [if_pos (by omega)]
          omega
        · rw [if_neg e2] at h2
          rw [if_neg (by omega)]
          omega) A (by omega) (by omega)
    rw [if_pos hdg.2] at row
    rw [Int.add_mul, Int.one_mul, Int.add_mul]
    omega) L (by omega) (by omega)
  have e := em_12 h
  rw [Int.mul_left_comm] at key
  omega
theorem bw_rg (h : em_ok A L N) {into : Int} : ∀ (k : Nat) (hand w bh : Int), 0 ≤ bw A L T into k hand w bh ∧ bw A L T into k hand w bh ≤ 108 ^ k := by
  have hD := vx_D h
  intro k
  induction k with
  | zero =>
    intro hand w bh
    show 0 ≤ (if w = into then (1 : Int) else 0) ∧ (if w = into then (1 : Int) else 0) ≤ 1
    split <;> omega
  | succ k ih =>
    intro hand w bh
    refine ⟨ow_sm_nn (by omega) (fun i _ _ => Int.mul_nonneg cw_rg.1 (ih _ _ _).1), ?_⟩
    have h1 : bw A L T into (k + 1) hand w bh ≤ ow_sm (fun z => 108 ^ k * cw A L T hand w bh z) (L * A) := by
      refine ow_sm_le (by omega) (fun i _ _ => ?_)
      rw [Int.mul_comm (108 ^ k)]
      exact Int.mul_le_mul_of_nonneg_left (ih _ _ _).2 cw_rg.1
    rw [ow_sm_mul (by omega)] at h1
    have h2 := Int.mul_le_mul_of_nonneg_left (cw_sum (T := T) h (hand := hand) (w := w) (bh := bh)).2 (show (0 : Int) ≤ 108 ^ k from Int.le_of_lt (Int.pow_pos (by decide)))
    rw [Int.pow_succ]
    omega
theorem em_108 : ∀ k : Nat, k ≤ 8 → (108 : Int) ^ k ≤ 18509302102818816 := by
  intro k hk
  have hk' : k = 0 ∨ k = 1 ∨ k = 2 ∨ k = 3 ∨ k = 4 ∨ k = 5 ∨ k = 6 ∨ k = 7 ∨ k = 8 := by omega
  rcases hk' with e | e | e | e | e | e | e | e | e <;> subst e <;> decide
end PTS
