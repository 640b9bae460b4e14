/-! ===== sets as bits ===== -/
theorem ow_p2 (t : Nat) : ((2 : Int) ^ t) = ((2 ^ t : Nat) : Int) := by simp
theorem ow_p2le {t : Nat} (h : t ≤ 31) : 1 ≤ 2 ^ t ∧ 2 ^ t ≤ 2147483648 := by
  have h1 : (2 : Nat) ^ t ≤ 2 ^ 31 := Nat.pow_le_pow_right (by decide) h
  have h2 : 0 < (2 : Nat) ^ t := Nat.pos_of_ne_zero (by simp)
  have h3 : (2 : Nat) ^ 31 = 2147483648 := by decide
  omega
theorem ow_p16 {t : Nat} (h : t ≤ 16) : 1 ≤ 2 ^ t ∧ 2 ^ t ≤ 65536 := by
  have h1 : (2 : Nat) ^ t ≤ 2 ^ 16 := Nat.pow_le_pow_right (by decide) h
  have h2 : 0 < (2 : Nat) ^ t := Nat.pos_of_ne_zero (by simp)
  have h3 : (2 : Nat) ^ 16 = 65536 := by decide
  omega
theorem ow_bt_31 {x : Int} (hx : ow_I x) (h : ow_bt x 31 = false) : 0 ≤ x := by
  have h2 : (Int32.ofInt x).toBitVec.msb = false := by
    rw [BitVec.msb_eq_getLsbD_last]; exact h
  rw [BitVec.msb_eq_toInt, decide_eq_false_iff_not, Int32.toInt_toBitVec] at h2
  obtain ⟨h3, h4⟩ := hx
  rw [Int32.toInt_ofInt_of_le (by simpa using h3) (by omega)] at h2
  omega
theorem ow_bt_hi {x : Int} {t : Nat} (h0 : 0 ≤ x) (h1 : x < ((2 ^ t : Nat) : Int)) (ht : t ≤ 31) {i : Int} (hi : (t : Int) ≤ i) : ow_bt x i = false := by
  have hp := ow_p2le ht
  rw [ow_bt_nn h0 (by omega)]
  apply Nat.testBit_lt_two_pow
  exact Nat.lt_of_lt_of_le (show x.toNat < 2 ^ t by omega) (Nat.pow_le_pow_right (by decide) (by omega))
theorem ow_bt_lt {x : Int} {t : Nat} (hx : ow_I x) (ht : t ≤ 31) (h : ∀ i, (t : Int) ≤ i → i < 32 → ow_bt x i = false) : 0 ≤ x ∧ x < ((2 ^ t : Nat) : Int) := by
  have h0 := ow_bt_31 hx (h 31 (by omega) (by decide))
  refine ⟨h0, ?_⟩
  have h1 := hx.2
  have : x.toNat < 2 ^ t := by
    apply Nat.lt_pow_two_of_testBit
    intro i hi
    by_cases e : i < 32
    · have := h i (by omega) (by omega)
      rw [ow_bt_nn h0 h1, Int.toNat_natCast] at this
      exact this
    · exact Nat.testBit_lt_two_pow (Nat.lt_of_lt_of_le (show x.toNat < 2 ^ 31 by omega) (Nat.pow_le_pow_right (by decide) (by omega)))
  omega
theorem ow_bt_p2 {t : Nat} (ht : t < 16) {i : Int} (hi : 0 ≤ i) : ow_bt ((2 ^ t : Nat) : Int) i = decide ((t : Int) = i) := by
  have := ow_bt_shl (k := (t : Int)) (j := i) ⟨by omega, by omega⟩ hi
  rw [ow_shl1 ⟨by omega, by omega⟩, Int.toNat_natCast, ow_p2] at this
  exact this
theorem ow_bt_pa {x : Int} {t : Nat} (ht : t < 16) (h0 : 0 ≤ x) (h1 : x < ((2 ^ t : Nat) : Int)) {i : Int} (hi : 0 ≤ i) : ow_bt (((2 ^ t : Nat) : Int) + x) i = (decide ((t : Int) = i) || ow_bt x i) := by
  have hp := ow_p16 (t := t) (by omega)
  obtain ⟨n, rfl⟩ := Int.eq_ofNat_of_zero_le h0
  obtain ⟨j, rfl⟩ := Int.eq_ofNat_of_zero_le hi
  rw [ow_bt_nn (by omega) (by omega), ow_bt_nn (by omega) (by omega), show (((2 ^ t : Nat) : Int) + (n : Int)).toNat = 2 ^ t * 1 + n by omega, Int.toNat_natCast, Int.toNat_natCast, Nat.testBit_two_pow_mul_add 1 (show n < 2 ^ t by omega) j]
  by_cases e : j < t
  · rw [if_pos e, decide_eq_false (by omega), Bool.false_or]
  · rw [if_neg e]
    have z : n.testBit j = false := Nat.testBit_lt_two_pow (Nat.lt_of_lt_of_le (show n < 2 ^ t by omega) (Nat.pow_le_pow_right (by decide) (by omega)))
    rw [z, Bool.or_false]
    by_cases e2 : t = j
    · subst e2
      rw [Nat.sub_self, decide_eq_true rfl]; rfl
    · rw [decide_eq_false (by omega)]
      exact Nat.testBit_lt_two_pow (Nat.lt_of_lt_of_le (show 1 < 2 ^ 1 by decide) (Nat.pow_le_pow_right (by decide) (by omega)))
theorem ow_or_rg {a b : Int} (ha : 0 ≤ a ∧ a < 65536) (hb : 0 ≤ b ∧ b < 65536) : 0 ≤ ow_or a b ∧ ow_or a b < 65536 := by
  have := ow_bt_lt (x := ow_or a b) (t := 16) ow_or_I (by decide) (fun i i0 i1 => by
    rw [ow_bt_or, ow_bt_hi (t := 16) ha.1 ha.2 (by decide) i0, ow_bt_hi (t := 16) hb.1 hb.2 (by decide) i0]; rfl)
  exact this
theorem ow_or_0 {b : Int} (hb : 0 ≤ b ∧ b < 65536) : ow_or 0 b = b := by
  refine ow_bt_ex ow_or_I ⟨by omega, by omega⟩ (fun k _ _ => ?_)
  rw [ow_bt_or, ow_bt_0, Bool.false_or]
theorem ow_or_pa {c x : Int} {t : Nat} (ht : t < 16) (h0 : 0 ≤ x) (h1 : x < ((2 ^ t : Nat) : Int)) : ow_or c (((2 ^ t : Nat) : Int) + x) = ow_or (ow_or c ((2 ^ t : Nat) : Int)) x := by
  refine ow_bt_ex ow_or_I ow_or_I (fun k k0 k1 => ?_)
  rw [ow_bt_or, ow_bt_or, ow_bt_or, ow_bt_pa ht h0 h1 k0, ow_bt_p2 ht k0, Bool.or_assoc]
/-! counting -/
theorem ow_ct_le2 {q q' q'' : Int → Bool} {n : Int} (hn : 0 ≤ n) (h : ∀ i, 0 ≤ i → i < n → q i = true → q' i = true ∨ q'' i = true) : ow_ct q n ≤ ow_ct q' n + ow_ct q'' n := by
  have := ow_ind (P := fun k => k ≤ n → ow_ct q k ≤ ow_ct q' k + ow_ct q'' k) (fun _ => by rw [ow_ct0, ow_ct0, ow_ct0]; decide) (fun k k0 ih hk => by
    have h1 := ih (by omega)
    rw [ow_ctS k0, ow_ctS k0, ow_ctS k0]
    by_cases e : q k = true
    · rw [if_pos e]
      rcases h k k0 (by omega) e with e1 | e1
      · rw [if_pos e1]
        split <;> omega
      · rw [if_pos e1]
        split <;> omega
    · rw [if_neg e]
      split <;> split <;> omega) n hn
  exact this (Int.le_refl n)
theorem ow_pc_or {a b : Int} : ow_pc (ow_or a b) ≤ ow_pc a + ow_pc b := by
  refine ow_ct_le2 (by decide) (fun i i0 i1 q => ?_)
  rw [ow_bt_or, Bool.or_eq_true] at q
  exact q
theorem ow_pc_sub {a b : Int} (h : ∀ i, 0 ≤ i → i < 16 → ow_bt a i = true → ow_bt b i = true) : ow_pc a ≤ ow_pc b := by
  have := ow_ct_le2 (q := fun i => ow_bt a i) (q' := fun i => ow_bt b i) (q'' := fun _ => false) (n := 16) (by decide) (fun i i0 i1 q => Or.inl (h i i0 i1 q))
  have z : ow_ct (fun _ => false) 16 = 0 := by decide
  unfold ow_pc
  omega
theorem ow_pc_0 : ow_pc 0 = 0 := by
  unfold ow_pc
  rw [ow_ct_z (by decide)]
  intro i _ _ z
  rw [ow_bt_0] at z
  exact absurd z (by decide)
theorem ow_pc_rg {a : Int} : 0 ≤ ow_pc a ∧ ow_pc a ≤ 16 := ow_ct_rg (by decide)
/-! the greatest part, as it is met -/
def wf (q : Int → Bool) (c b : Int) : Nat → Int
  | 0 => b
  | k + 1 => if q k = true ∧ ow_pc (wf q c b k) < ow_pc (ow_or c k) then ow_or c k else wf q c b k
theorem wf_cg {q q' : Int → Bool} {c b : Int} : ∀ k : Nat, (∀ x : Nat, x < k → q x = q' x) → wf q c b k = wf q' c b k := by
  intro k
  induction k with
  | zero => intro _; rfl
  | succ k ih =>
    intro h
    have h1 := ih (fun x hx => h x (by omega))
    simp only [wf, h1, h k (by omega)]
theorem wf_no {q : Int → Bool} {c b : Int} : ∀ k : Nat, (∀ x : Nat, x < k → q x = true → ow_pc (ow_or c x) ≤ ow_pc b) → wf q c b k = b := by
  intro k
  induction k with
  | zero => intro _; rfl
  | succ k ih =>
    intro h
    have h1 := ih (fun x hx => h x (by omega))
    simp only [wf, h1]
    rw [if_neg (fun z => by have := h k (by omega) z.1; omega)]
theorem wf_rg {q : Int → Bool} {c b : Int} (hc : 0 ≤ c ∧ c < 65536) (hb : 0 ≤ b ∧ b < 65536) : ∀ k : Nat, k ≤ 65536 → 0 ≤ wf q c b k ∧ wf q c b k < 65536 := by
  intro k
  induction k with
  | zero => intro _; exact hb
  | succ k ih =>
    intro h
    simp only [wf]
    split
    · exact ow_or_rg hc ⟨by omega, by omega⟩
    · exact ih (by omega)
theorem wf_split {q : Int → Bool} {c b : Int} {t : Nat} (ht : t < 16) : ∀ k : Nat, k ≤ 2 ^ t → wf q c b (2 ^ t + k) = wf (fun x => q (((2 ^ t : Nat) : Int) + x)) (ow_or c ((2 ^ t : Nat) : Int)) (wf q c b (2 ^ t)) k := by
  intro k
  induction k with
  | zero => intro _; rfl
  | succ k ih =>
    intro h
    have h1 := ih (by omega)
    have e : (((2 ^ t + k : Nat)) : Int) = ((2 ^ t : Nat) : Int) + (k : Int) := by omega
    rw [show 2 ^ t + (k + 1) = (2 ^ t + k) + 1 by omega]
    simp only [wf, h1, e]
    rw [ow_or_pa ht (by omega) (by omega)]
/-! parts of a part, and parts without rivals -/
def sb (X F : Int) : Bool := decide (ow_ct (fun i => ow_bt X i && !(ow_bt F i)) 16 = 0)
theorem sb_iff {X F : Int} : sb X F = true ↔ ∀ i, 0 ≤ i → i < 16 → ow_bt X i = true → ow_bt F i = true := by
  unfold sb
  rw [decide_eq_true_iff, ow_ct_z (by decide)]
  refine ⟨fun h i i0 i1 q => ?_, fun h i i0 i1 q => ?_⟩
  · have := h i i0 i1
    cases e : ow_bt F i with
    | true => rfl
    | false => rw [q, e] at this; exact absurd rfl this
  · simp only [Bool.and_eq_true, Bool.not_eq_true'] at q
    rw [h i i0 i1 q.1] at q
    exact absurd q.2 (by decide)
def gdb (R : Int → Int → Bool) (X : Int) : Bool := decide (ow_ct (fun x => ow_bt X (x / 16) && (ow_bt X (x % 16) && (decide (x % 16 < x / 16) && R (x / 16) (x % 16)))) 256 = 0)
theorem gdb_iff {R : Int → Int → Bool} {X : Int} : gdb R X = true ↔ ∀ i j, 0 ≤ i → i < j → j < 16 → ow_bt X i = true → ow_bt X j = true → R j i = false := by
  unfold gdb
  rw [decide_eq_true_iff, ow_ct_z (by decide)]
  refine ⟨fun h i j i0 ij j1 q1 q2 => ?_, fun h x x0 x1 q => ?_⟩
  · have := h (16 * j + i) (by omega) (by omega)
    rw [show (16 * j + i) / 16 = j by omega, show (16 * j + i) % 16 = i by omega, q1, q2, decide_eq_true ij] at this
    cases e : R j i with
    | false => rfl
    | true => rw [e] at this; exact absurd rfl this
  · simp only [Bool.and_eq_true, decide_eq_true_eq] at q
    obtain ⟨a1, a2, a3, a4⟩ := q
    rw [h (x % 16) (x / 16) (by omega) a3 (by omega) a2 a1] at a4
    exact absurd a4 (by decide)
theorem gdb_0 {R : Int → Int → Bool} : gdb R 0 = true := gdb_iff.2 (fun i j _ _ _ q _ => by rw [ow_bt_0] at q; exact absurd q (by decide))
theorem gdb_pa {R : Int → Int → Bool} {x : Int} {t : Nat} (ht : t < 16) (h0 : 0 ≤ x) (h1 : x < ((2 ^ t : Nat) : Int)) : gdb R (((2 ^ t : Nat) : Int) + x) = true ↔ gdb R x = true ∧ ∀ i : Int, 0 ≤ i → i < t → ow_bt x i = true → R t i = false := by
  rw [gdb_iff, gdb_iff]
  have hi : ∀ i, (t : Int) ≤ i → ow_bt x i = false := fun i h => ow_bt_hi h0 h1 (by omega) h
  refine ⟨fun h => ⟨fun i j i0 ij j1 q1 q2 => ?_, fun i i0 i1 q => ?_⟩, fun ⟨h, g⟩ i j i0 ij j1 q1 q2 => ?_⟩
  · refine h i j i0 ij j1 ?_ ?_
    · rw [ow_bt_pa ht h0 h1 i0, q1, Bool.or_true]
    · rw [ow_bt_pa ht h0 h1 (by omega), q2, Bool.or_true]
  · refine h i t i0 i1 (by omega) ?_ ?_
    · rw [ow_bt_pa ht h0 h1 i0, q, Bool.or_true]
    · rw [ow_bt_pa ht h0 h1 (by omega), decide_eq_true rfl, Bool.true_or]
  · rw [ow_bt_pa ht h0 h1 i0] at q1
    rw [ow_bt_pa ht h0 h1 (by omega)] at q2
    by_cases e2 : (t : Int) = j
    · have ne : ¬ (t : Int) = i := by omega
      rw [decide_eq_false ne, Bool.false_or] at q1
      rw [← e2]
      exact g i i0 (by omega) q1
    · rw [decide_eq_false e2, Bool.false_or] at q2
      have jt : j < t := by
        by_cases e3 : j < t
        · exact e3
        · rw [hi j (by omega)] at q2; exact absurd q2 (by decide)
      rw [decide_eq_false (show ¬ (t : Int) = i by omega), Bool.false_or] at q1
      exact h i j i0 ij j1 q1 q2
def qw (R : Int → Int → Bool) (F X : Int) : Bool := sb X F && gdb R X
