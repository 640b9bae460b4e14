/-! ===== bits ===== -/
/-- the k-th bit of an int -/
def ow_bt (x k : Int) : Bool := (Int32.ofInt x).toBitVec.getLsbD k.toNat
theorem ow_and_I {a b : Int} : ow_I (ow_and a b) := ⟨Int32.le_toInt _, Int.le_of_lt_add_one (Int32.toInt_lt _)⟩
theorem ow_or_I {a b : Int} : ow_I (ow_or a b) := ⟨Int32.le_toInt _, Int.le_of_lt_add_one (Int32.toInt_lt _)⟩
theorem ow_xor_I {a b : Int} : ow_I (ow_xor a b) := ⟨Int32.le_toInt _, Int.le_of_lt_add_one (Int32.toInt_lt _)⟩
theorem ow_shl_I {a b : Int} : ow_I (ow_shl a b) := ⟨Int32.le_toInt _, Int.le_of_lt_add_one (Int32.toInt_lt _)⟩
theorem ow_I0 : ow_I 0 := ⟨by decide, by decide⟩
theorem ow_bt_and {a b k : Int} : ow_bt (ow_and a b) k = (ow_bt a k && ow_bt b k) := by
  simp only [ow_bt, ow_and, Int32.ofInt_toInt, Int32.toBitVec_and, BitVec.getLsbD_and]
theorem ow_bt_or {a b k : Int} : ow_bt (ow_or a b) k = (ow_bt a k || ow_bt b k) := by
  simp only [ow_bt, ow_or, Int32.ofInt_toInt, Int32.toBitVec_or, BitVec.getLsbD_or]
theorem ow_bt_not {a k : Int} (h : 0 ≤ k ∧ k < 32) : ow_bt (ow_xor a (-1)) k = !(ow_bt a k) := by
  have e : (Int32.ofInt (-1)).toBitVec = BitVec.allOnes 32 := by decide
  have e2 : k.toNat < 32 := by omega
  simp only [ow_bt, ow_xor, Int32.ofInt_toInt, Int32.toBitVec_xor, BitVec.getLsbD_xor, e, BitVec.getLsbD_allOnes]
  simp [e2]
theorem ow_bt_ex {x y : Int} (hx : ow_I x) (hy : ow_I y) (h : ∀ k, 0 ≤ k → k < 32 → ow_bt x k = ow_bt y k) : x = y := by
  have e : Int32.ofInt x = Int32.ofInt y := by
    apply Int32.toBitVec_inj.1
    apply BitVec.eq_of_getLsbD_eq
    intro i hi
    have := h i (by omega) (by omega)
    simpa [ow_bt] using this
  have e2 := congrArg Int32.toInt e
  obtain ⟨h1, h2⟩ := hx
  obtain ⟨h3, h4⟩ := hy
  rw [Int32.toInt_ofInt_of_le (by simpa using h1) (by omega), Int32.toInt_ofInt_of_le (by simpa using h3) (by omega)] at e2
  exact e2
theorem ow_bt_nn {x k : Int} (h0 : 0 ≤ x) (h1 : x ≤ 2147483647) : ow_bt x k = x.toNat.testBit k.toNat := by
  obtain ⟨n, rfl⟩ := Int.eq_ofNat_of_zero_le h0
  unfold ow_bt
  rw [Int32.toBitVec_ofInt, BitVec.ofInt_natCast, BitVec.getLsbD_ofNat]
  by_cases hk : k.toNat < 32
  · simp [hk]
  · have : n < 2 ^ k.toNat := Nat.lt_of_lt_of_le (show n < 2 ^ 32 by omega) (Nat.pow_le_pow_right (by decide) (by omega))
    simp [hk, Nat.testBit_lt_two_pow this]
theorem ow_and_nn {a b : Int} (a0 : 0 ≤ a) (a1 : a ≤ 2147483647) (b0 : 0 ≤ b) (b1 : b ≤ 2147483647) : ow_and a b = ((a.toNat &&& b.toNat : Nat) : Int) := by
  obtain ⟨n, rfl⟩ := Int.eq_ofNat_of_zero_le a0
  obtain ⟨m, rfl⟩ := Int.eq_ofNat_of_zero_le b0
  have hm : n &&& m ≤ n := Nat.and_le_left
  refine ow_bt_ex ⟨Int32.le_toInt _, Int.le_of_lt_add_one (Int32.toInt_lt _)⟩ ⟨by omega, by simp only [Int.toNat_natCast]; omega⟩ (fun k k0 k1 => ?_)
  rw [ow_bt_and, ow_bt_nn a0 a1, ow_bt_nn b0 b1, ow_bt_nn (by omega) (by simp only [Int.toNat_natCast]; omega)]
  simp
theorem ow_or_nn {a b : Int} (a0 : 0 ≤ a) (a1 : a ≤ 2147483647) (b0 : 0 ≤ b) (b1 : b ≤ 2147483647) : ow_or a b = ((a.toNat ||| b.toNat : Nat) : Int) := by
  obtain ⟨n, rfl⟩ := Int.eq_ofNat_of_zero_le a0
  obtain ⟨m, rfl⟩ := Int.eq_ofNat_of_zero_le b0
  have hm : n ||| m < 2 ^ 31 := Nat.or_lt_two_pow (by omega) (by omega)
  refine ow_bt_ex ⟨Int32.le_toInt _, Int.le_of_lt_add_one (Int32.toInt_lt _)⟩ ⟨by omega, by simp only [Int.toNat_natCast]; omega⟩ (fun k k0 k1 => ?_)
  rw [ow_bt_or, ow_bt_nn a0 a1, ow_bt_nn b0 b1, ow_bt_nn (by omega) (by simp only [Int.toNat_natCast]; omega)]
  simp
theorem ow_sh32 : ∀ n : Fin 32, ((Int32.ofInt (n.val : Int) &&& 31).toBitVec.smod 32).toNat = n.val := by decide
theorem ow_shr_d {x k : Int} (hx : ow_I x) (h : 0 ≤ k ∧ k < 32) : ow_shr x k = x / 2 ^ k.toNat := by
  obtain ⟨n, rfl⟩ := Int.eq_ofNat_of_zero_le h.1
  obtain ⟨h1, h2⟩ := hx
  unfold ow_shr
  rw [← Int32.toInt_toBitVec, Int32.toBitVec_shiftRight]
  have e := ow_sh32 ⟨n, by omega⟩
  simp only at e
  unfold BitVec.sshiftRight'
  rw [e, BitVec.toInt_sshiftRight, Int32.toInt_toBitVec, Int32.toInt_ofInt_of_le (by simpa using h1) (by omega), Int.shiftRight_eq_div_pow]
  simp
theorem ow_shl1 {k : Int} (h : 0 ≤ k ∧ k < 31) : ow_shl 1 k = 2 ^ k.toNat := by
  obtain ⟨n, rfl⟩ := Int.eq_ofNat_of_zero_le h.1
  have key : ∀ n : Fin 31, ow_shl 1 (n.val : Int) = 2 ^ n.val := by decide
  have := key ⟨n, by omega⟩
  simpa using this
theorem ow_two {n : Nat} (h : n < 31) : (0 : Int) < 2 ^ n ∧ (2 : Int) ^ n ≤ 1073741824 := by
  have h1 : (2 : Nat) ^ n ≤ 2 ^ 30 := Nat.pow_le_pow_right (by decide) (by omega)
  have h2 : 0 < (2 : Nat) ^ n := Nat.pos_of_ne_zero (by simp)
  have e : ((2 : Int) ^ n) = ((2 ^ n : Nat) : Int) := by simp
  rw [e]
  omega
theorem ow_bt_shl {k j : Int} (h : 0 ≤ k ∧ k < 31) (hj : 0 ≤ j) : ow_bt (ow_shl 1 k) j = decide (k = j) := by
  have hk := ow_two (n := k.toNat) (by omega)
  rw [ow_shl1 h, ow_bt_nn (by omega) (by omega)]
  have e : ((2 : Int) ^ k.toNat).toNat = 2 ^ k.toNat := by
    rw [show ((2 : Int) ^ k.toNat) = ((2 ^ k.toNat : Nat) : Int) by simp, Int.toNat_natCast]
  rw [e, Nat.testBit_two_pow]
  apply decide_eq_decide.2
  omega
theorem ow_bt_0 {k : Int} : ow_bt 0 k = false := by
  rw [ow_bt_nn (by decide) (by decide)]
  simp
/-- (x >> k & 1) -/
theorem ow_bit {x k : Int} (h : 0 ≤ k ∧ k < 32) : ow_and (ow_shr x k) 1 = if ow_bt x k then 1 else 0 := by
  have e : ow_and (ow_shr x k) 1 = ow_and (if ow_bt x k then 1 else 0) 1 := by
    apply ow_bt_ex ow_and_I ow_and_I
    intro j j0 j1
    rw [ow_bt_and, ow_bt_and]
    by_cases hj : j = 0
    · subst hj
      have : ow_bt (ow_shr x k) 0 = ow_bt x k := by
        obtain ⟨n, rfl⟩ := Int.eq_ofNat_of_zero_le h.1
        unfold ow_bt ow_shr
        rw [Int32.ofInt_toInt, Int32.toBitVec_shiftRight]
        have e := ow_sh32 ⟨n, by omega⟩
        simp only at e
        unfold BitVec.sshiftRight'
        rw [e, BitVec.getLsbD_sshiftRight]
        have : n < 32 := by omega
        simp [this]
      rw [this]
      cases ow_bt x k <;> decide
    · have : ow_bt 1 j = false := by
        rw [ow_bt_nn (by decide) (by decide)]
        apply Nat.testBit_lt_two_pow
        exact Nat.lt_of_lt_of_le (show (1 : Int).toNat < 2 ^ 1 by decide) (Nat.pow_le_pow_right (by decide) (by omega))
      simp [this]
  rw [e]
  cases ow_bt x k <;> decide
/-- (x & 1 << k) -/
theorem ow_and_shl {x k : Int} (h : 0 ≤ k ∧ k < 31) : ow_and x (ow_shl 1 k) ≠ 0 ↔ ow_bt x k = true := by
  have hI : ow_I (ow_and x (ow_shl 1 k)) := ⟨Int32.le_toInt _, Int.le_of_lt_add_one (Int32.toInt_lt _)⟩
  refine ⟨fun hne => ?_, fun ht e => ?_⟩
  · refine Classical.byContradiction (fun hf => hne (ow_bt_ex hI ow_I0 (fun j j0 j1 => ?_)))
    rw [ow_bt_and, ow_bt_shl h j0, ow_bt_0]
    by_cases e : k = j
    · subst e; simp [hf]
    · simp [e]
  · have := congrArg (fun z => ow_bt z k) e
    simp only [ow_bt_and, ow_bt_shl h h.1, ow_bt_0, ht] at this
    simp at this
theorem ow_bt_ne {x : Int} (hx : ow_I x) : x ≠ 0 ↔ ∃ k, (0 ≤ k ∧ k < 32) ∧ ow_bt x k = true := by
  refine ⟨fun h => Classical.byContradiction (fun hno => h (ow_bt_ex hx ow_I0 (fun k k0 k1 => ?_))), fun ⟨k, _, ht⟩ e => ?_⟩
  · rw [ow_bt_0]
    cases hb : ow_bt x k with
    | false => rfl
    | true => exact absurd ⟨k, ⟨k0, k1⟩, hb⟩ hno
  · subst e; rw [ow_bt_0] at ht; exact absurd ht (by decide)
/-- bytes of an int -/
theorem ow_and255 {x : Int} : ow_and x 255 = x % 256 := by
  have e : ow_and x 255 = ow_and (x % 256) 255 := by
    apply ow_bt_ex ow_and_I ow_and_I
    intro j j0 j1
    rw [ow_bt_and, ow_bt_and]
    by_cases hj : j < 8
    · have : ow_bt x j = ow_bt (x % 256) j := by
        unfold ow_bt
        rw [Int32.toBitVec_ofInt, Int32.toBitVec_ofInt]
        have h8 : (BitVec.ofInt 32 x).setWidth 8 = (BitVec.ofInt 32 (x % 256)).setWidth 8 := by
          apply BitVec.eq_of_toNat_eq
          simp only [BitVec.toNat_setWidth, BitVec.toNat_ofInt]
          omega
        have := congrArg (fun z => z.getLsbD j.toNat) h8
        simp only [BitVec.getLsbD_setWidth] at this
        have h3 : j.toNat < 8 := by omega
        simpa [h3] using this
      rw [this]
    · have : ow_bt 255 j = false := by
        rw [ow_bt_nn (by decide) (by decide)]
        apply Nat.testBit_lt_two_pow
        exact Nat.lt_of_lt_of_le (show (255 : Int).toNat < 2 ^ 8 by decide) (Nat.pow_le_pow_right (by decide) (by omega))
      simp [this]
  rw [e, ow_and_nn (by omega) (by omega) (by decide) (by decide)]
  have : (x % 256).toNat &&& (255 : Int).toNat = (x % 256).toNat % 2 ^ 8 := Nat.and_two_pow_sub_one_eq_mod _ 8
  rw [this]
  omega
theorem ow_byte {x k : Int} (h : k = 0 ∨ k = 8 ∨ k = 16 ∨ k = 24) : ow_and (ow_ushr x k) 255 = ow_and (ow_shr x k) 255 := by
  apply ow_bt_ex ow_and_I ow_and_I
  intro j j0 j1
  rw [ow_bt_and, ow_bt_and]
  by_cases hj : j < 8
  · have : ow_bt (ow_ushr x k) j = ow_bt (ow_shr x k) j := by
      obtain ⟨n, rfl⟩ := Int.eq_ofNat_of_zero_le (show 0 ≤ k by omega)
      have e := ow_sh32 ⟨n, by omega⟩
      simp only at e
      have e2 : ∀ n : Fin 32, ((Int32.ofInt (n.val : Int)).toUInt32 &&& Int32.toUInt32 31).toBitVec % 32 = BitVec.ofNat 32 n.val := by decide
      have e3 := e2 ⟨n, by omega⟩
      simp only at e3
      unfold ow_bt ow_ushr ow_shr
      rw [Int32.ofInt_toInt, Int32.ofInt_toInt, Int32.toBitVec_shiftRight]
      unfold BitVec.sshiftRight'
      rw [e, BitVec.getLsbD_sshiftRight]
      show ((Int32.ofInt x).toUInt32 >>> ((Int32.ofInt (n : Int)).toUInt32 &&& Int32.toUInt32 31)).toBitVec.getLsbD _ = _
      rw [UInt32.toBitVec_shiftRight, e3]
      have h1 : (n : Nat) % 4294967296 = n := by omega
      have h2 : n + j.toNat < 32 := by omega
      have h3 : ¬ 32 ≤ j.toNat := by omega
      have h4 : BitVec.getLsbD (Int32.ofInt x).toUInt32.toBitVec (n + j.toNat) = (Int32.ofInt x).toBitVec.getLsbD (n + j.toNat) := rfl
      simp [h1, h2, h3, BitVec.getLsbD_ushiftRight]
    rw [this]
  · have : ow_bt 255 j = false := by
      rw [ow_bt_nn (by decide) (by decide)]
      apply Nat.testBit_lt_two_pow
      exact Nat.lt_of_lt_of_le (show (255 : Int).toNat < 2 ^ 8 by decide) (Nat.pow_le_pow_right (by decide) (by omega))
    simp [this]
