/-! ===== how many bits ===== -/
theorem ow_ushr_I {a b : Int} : ow_I (ow_ushr a b) := ⟨Int32.le_toInt _, Int.le_of_lt_add_one (Int32.toInt_lt _)⟩
theorem ow_shr_I {a b : Int} : ow_I (ow_shr a b) := ⟨Int32.le_toInt _, Int.le_of_lt_add_one (Int32.toInt_lt _)⟩
theorem ow_ushr_nn {x k : Int} (h0 : 0 ≤ x) (h1 : x ≤ 2147483647) (h : 0 ≤ k ∧ k < 32) : ow_ushr x k = x / 2 ^ k.toNat := by
  rw [← ow_shr_d ⟨by omega, h1⟩ h]
  apply ow_bt_ex ow_ushr_I ow_shr_I
  intro j j0 j1
  have b31 : ow_bt x 31 = false := by
    rw [ow_bt_nn h0 h1]
    exact Nat.testBit_lt_two_pow (show x.toNat < 2 ^ 31 by omega)
  have hm : (Int32.ofInt x).toBitVec.msb = false := by
    rw [BitVec.msb_eq_getLsbD_last]; exact b31
  obtain ⟨n, rfl⟩ := Int.eq_ofNat_of_zero_le h.1
  have e := ow_sh32 ⟨n, by omega⟩
  simp only at e
  have e2 : ∀ n : Fin 32, ((Int32.ofInt (n.val : Int)).toUInt32 &&& Int32.toUInt32 31).toBitVec % 32 = BitVec.ofNat 32 n.val := by decide
  have e3 := e2 ⟨n, by omega⟩
  simp only at e3
  unfold ow_bt ow_ushr ow_shr
  rw [Int32.ofInt_toInt, Int32.ofInt_toInt, Int32.toBitVec_shiftRight]
  unfold BitVec.sshiftRight'
  rw [e, BitVec.getLsbD_sshiftRight, hm]
  show ((Int32.ofInt x).toUInt32 >>> ((Int32.ofInt (n : Int)).toUInt32 &&& Int32.toUInt32 31)).toBitVec.getLsbD _ = _
  rw [UInt32.toBitVec_shiftRight, e3]
  have g1 : (n : Nat) % 4294967296 = n := by omega
  have g3 : ¬ 32 ≤ j.toNat := by omega
  have g4 : BitVec.getLsbD (Int32.ofInt x).toUInt32.toBitVec (n + j.toNat) = (Int32.ofInt x).toBitVec.getLsbD (n + j.toNat) := rfl
  by_cases g2 : n + j.toNat < 32
  · simp [g1, g2, g3, BitVec.getLsbD_ushiftRight]
  · have g5 : BitVec.getLsbD (Int32.ofInt x).toUInt32.toBitVec (n + j.toNat) = false := BitVec.getLsbD_of_ge _ _ (by omega)
    simp [g1, g2, g3, g5, BitVec.getLsbD_ushiftRight]
    exact BitVec.getLsbD_of_ge _ _ (by omega)
theorem nt_and (y m : Nat) : y &&& m = (y % 16 &&& m % 16) + 16 * (y / 16 &&& m / 16) := by
  have h1 : (y &&& m) % 2 ^ 4 = (y % 2 ^ 4) &&& (m % 2 ^ 4) := Nat.and_mod_two_pow
  have h2 : (y &&& m) / 2 ^ 4 = y / 2 ^ 4 &&& m / 2 ^ 4 := Nat.and_div_two_pow
  have e : (2 : Nat) ^ 4 = 16 := rfl
  rw [e] at h1 h2
  omega
theorem nt_4 {a b c d : Nat} (ha : a < 16) (hb : b < 16) (hc : c < 16) (hd : d < 16) (m : Nat) : (a + 16 * b + 256 * c + 4096 * d) &&& m = (a &&& m % 16) + 16 * (b &&& m / 16 % 16) + 256 * (c &&& m / 256 % 16) + 4096 * (d &&& m / 4096 % 16) := by
  have e1 := nt_and (a + 16 * b + 256 * c + 4096 * d) m
  have e2 := nt_and (b + 16 * c + 256 * d) (m / 16)
  have e3 := nt_and (c + 16 * d) (m / 256)
  have e4 := nt_and d (m / 4096)
  rw [show (a + 16 * b + 256 * c + 4096 * d) % 16 = a by omega, show (a + 16 * b + 256 * c + 4096 * d) / 16 = b + 16 * c + 256 * d by omega] at e1
  rw [show (b + 16 * c + 256 * d) % 16 = b by omega, show (b + 16 * c + 256 * d) / 16 = c + 16 * d by omega, show m / 16 / 16 = m / 256 by omega] at e2
  rw [show (c + 16 * d) % 16 = c by omega, show (c + 16 * d) / 16 = d by omega, show m / 256 / 16 = m / 4096 by omega] at e3
  rw [show d % 16 = d by omega, show d / 16 = 0 by omega, Nat.zero_and] at e4
  omega
def p_1 (a : Nat) : Nat := a - (a / 2 &&& 5)
def p_2 (a : Nat) : Nat := (p_1 a &&& 3) + (p_1 a / 4 &&& 3)
theorem p_f1 : ∀ a : Fin 16, ∀ e : Fin 2, ((a.val / 2 + 8 * e.val) &&& 5) = (a.val / 2 &&& 5) ∧ (a.val / 2 &&& 5) ≤ a.val ∧ p_1 a.val < 16 := by decide
theorem p_f2 : ∀ a : Fin 16, ∀ e : Fin 4, ((p_1 a.val / 4 + 4 * e.val) &&& 3) = (p_1 a.val / 4 &&& 3) ∧ p_2 a.val ≤ 4 ∧ p_2 a.val = a.val % 2 + a.val / 2 % 2 + a.val / 4 % 2 + a.val / 8 % 2 := by decide
theorem p_f3 : ∀ a : Fin 16, (a.val &&& 15) = a.val := by decide
theorem bc_1 {a b c d u v w z : Nat} (h1 : u ≤ a) (h2 : v ≤ b) (h3 : w ≤ c) (h4 : z ≤ d) : a + 16 * b + 256 * c + 4096 * d = (a - u) + 16 * (b - v) + 256 * (c - w) + 4096 * (d - z) + (u + 16 * v + 256 * w + 4096 * z) := by omega
theorem bc_h2 {a b c d : Nat} : (a + 16 * b + 256 * c + 4096 * d) / 2 = (a / 2 + 8 * (b % 2)) + 16 * (b / 2 + 8 * (c % 2)) + 256 * (c / 2 + 8 * (d % 2)) + 4096 * (d / 2 + 8 * 0) := by omega
theorem bc_h4 {a b c d : Nat} : (a + 16 * b + 256 * c + 4096 * d) / 4 = (a / 4 + 4 * (b % 4)) + 16 * (b / 4 + 4 * (c % 4)) + 256 * (c / 4 + 4 * (d % 4)) + 4096 * (d / 4 + 4 * 0) := by omega
theorem bc_lt {a b c d : Nat} (ha : a < 16) (hb : b < 16) (hc : c < 16) (hd : d < 16) : a + 16 * b + 256 * c + 4096 * d < 65536 := by omega
theorem bc_su {a b c d u v w z : Nat} : a + 16 * b + 256 * c + 4096 * d + (u + 16 * v + 256 * w + 4096 * z) = (a + u) + 16 * (b + v) + 256 * (c + w) + 4096 * (d + z) := by omega
theorem bc_16 {a b c d : Nat} (ha : a ≤ 4) (hb : b ≤ 4) (hc : c ≤ 4) (hd : d ≤ 4) : a + 16 * b + 256 * c + 4096 * d + (a + 16 * b + 256 * c + 4096 * d) / 16 = (a + b) + 16 * (b + c) + 256 * (c + d) + 4096 * d := by omega
theorem bc_end {a b c d : Nat} (ha : a ≤ 4) (hb : b ≤ 4) (hc : c ≤ 4) (hd : d ≤ 4) : a + b + 256 * (c + d) < 65536 ∧ a + b + 256 * (c + d) + (a + b + 256 * (c + d)) / 256 = a + b + 256 * (c + d) + (c + d) ∧ a + b + 256 * (c + d) + (c + d) < 65536 ∧ (a + b + 256 * (c + d) + (c + d)) % 64 = a + b + c + d := by omega
theorem bc_nb {a b : Nat} (ha : a < 16) : a / 2 + 8 * (b % 2) < 16 ∧ a / 4 + 4 * (b % 4) < 16 ∧ a / 2 + 8 * 0 < 16 ∧ a / 4 + 4 * 0 < 16 := by omega
theorem bc_s1 {a b c d : Nat} (ha : a < 16) (hb : b < 16) (hc : c < 16) (hd : d < 16) : a + 16 * b + 256 * c + 4096 * d = (p_1 a + 16 * p_1 b + 256 * p_1 c + 4096 * p_1 d) + (((a + 16 * b + 256 * c + 4096 * d) / 2) &&& 1431655765) := by
  have f1 : ∀ t, t < 16 → ∀ e, e < 2 → ((t / 2 + 8 * e) &&& 5) = (t / 2 &&& 5) ∧ (t / 2 &&& 5) ≤ t ∧ p_1 t < 16 := fun t ht e he => p_f1 ⟨t, ht⟩ ⟨e, he⟩
  have A1 := f1 a ha (b % 2) (Nat.mod_lt _ (by decide))
  have B1 := f1 b hb (c % 2) (Nat.mod_lt _ (by decide))
  have C1 := f1 c hc (d % 2) (Nat.mod_lt _ (by decide))
  have D1 := f1 d hd 0 (by decide)
  have m1 := nt_4 (a := a / 2 + 8 * (b % 2)) (b := b / 2 + 8 * (c % 2)) (c := c / 2 + 8 * (d % 2)) (d := d / 2 + 8 * 0) (bc_nb ha).1 (bc_nb hb).1 (bc_nb hc).1 (bc_nb (b := 0) hd).2.2.1 1431655765
  simp only [Nat.reduceDiv, Nat.reduceMod] at m1
  rw [A1.1, B1.1, C1.1, D1.1] at m1
  rw [bc_h2, m1]
  exact bc_1 A1.2.1 B1.2.1 C1.2.1 D1.2.1
theorem bc_s2 {a b c d : Nat} (ha : a < 16) (hb : b < 16) (hc : c < 16) (hd : d < 16) : ((p_1 a + 16 * p_1 b + 256 * p_1 c + 4096 * p_1 d) &&& 858993459) + ((p_1 a + 16 * p_1 b + 256 * p_1 c + 4096 * p_1 d) / 4 &&& 858993459) = p_2 a + 16 * p_2 b + 256 * p_2 c + 4096 * p_2 d := by
  have f1 : ∀ t, t < 16 → p_1 t < 16 := fun t ht => (p_f1 ⟨t, ht⟩ 0).2.2
  have f2 : ∀ t, t < 16 → ∀ e, e < 4 → ((p_1 t / 4 + 4 * e) &&& 3) = (p_1 t / 4 &&& 3) := fun t ht e he => (p_f2 ⟨t, ht⟩ ⟨e, he⟩).1
  have A2 := f2 a ha (p_1 b % 4) (Nat.mod_lt _ (by decide))
  have B2 := f2 b hb (p_1 c % 4) (Nat.mod_lt _ (by decide))
  have C2 := f2 c hc (p_1 d % 4) (Nat.mod_lt _ (by decide))
  have D2 := f2 d hd 0 (by decide)
  have m2 := nt_4 (a := p_1 a) (b := p_1 b) (c := p_1 c) (d := p_1 d) (f1 a ha) (f1 b hb) (f1 c hc) (f1 d hd) 858993459
  have m3 := nt_4 (a := p_1 a / 4 + 4 * (p_1 b % 4)) (b := p_1 b / 4 + 4 * (p_1 c % 4)) (c := p_1 c / 4 + 4 * (p_1 d % 4)) (d := p_1 d / 4 + 4 * 0) (bc_nb (f1 a ha)).2.1 (bc_nb (f1 b hb)).2.1 (bc_nb (f1 c hc)).2.1 (bc_nb (b := 0) (f1 d hd)).2.2.2 858993459
  simp only [Nat.reduceDiv, Nat.reduceMod] at m2 m3
  rw [A2, B2, C2, D2] at m3
  rw [bc_h4, m2, m3]
  exact bc_su
theorem bc_nat {a b c d : Nat} (ha : a < 16) (hb : b < 16) (hc : c < 16) (hd : d < 16) : ∃ x1 x2 x3 x4 : Nat, (a + 16 * b + 256 * c + 4096 * d) = x1 + (((a + 16 * b + 256 * c + 4096 * d) / 2) &&& 1431655765) ∧ x1 < 65536 ∧ (x1 &&& 858993459) + (x1 / 4 &&& 858993459) = x2 ∧ x2 < 65536 ∧ x2 + x2 / 16 < 65536 ∧ ((x2 + x2 / 16) &&& 252645135) = x3 ∧ x3 < 65536 ∧ x3 + x3 / 256 = x4 ∧ x4 < 65536 ∧ (x4 &&& 63) = p_2 a + p_2 b + p_2 c + p_2 d := by
  have f1 : ∀ t, t < 16 → p_1 t < 16 := fun t ht => (p_f1 ⟨t, ht⟩ 0).2.2
  have f2 : ∀ t, t < 16 → p_2 t ≤ 4 := fun t ht => (p_f2 ⟨t, ht⟩ 0).2.1
  have f3 : ∀ t, t < 16 → (t &&& 15) = t := fun t ht => p_f3 ⟨t, ht⟩
  have le : ∀ {x y : Nat}, x ≤ 4 → y ≤ 4 → x + y < 16 := fun {x y} h1 h2 => by omega
  have lt : ∀ {x : Nat}, x ≤ 4 → x < 16 := fun {x} h1 => by omega
  have qa := f2 a ha
  have qb := f2 b hb
  have qc := f2 c hc
  have qd := f2 d hd
  have m4 := nt_4 (a := p_2 a + p_2 b) (b := p_2 b + p_2 c) (c := p_2 c + p_2 d) (d := p_2 d) (le qa qb) (le qb qc) (le qc qd) (lt qd) 252645135
  simp only [Nat.reduceDiv, Nat.reduceMod, Nat.and_zero] at m4
  rw [f3 (p_2 a + p_2 b) (le qa qb), f3 (p_2 c + p_2 d) (le qc qd)] at m4
  have m5 : ((p_2 a + p_2 b + 256 * (p_2 c + p_2 d) + (p_2 c + p_2 d)) &&& 2 ^ 6 - 1) = (p_2 a + p_2 b + 256 * (p_2 c + p_2 d) + (p_2 c + p_2 d)) % 2 ^ 6 := Nat.and_two_pow_sub_one_eq_mod _ 6
  rw [show (2 : Nat) ^ 6 - 1 = 63 from rfl, show (2 : Nat) ^ 6 = 64 from rfl] at m5
  obtain ⟨n1, n2, n3, n4⟩ := bc_end qa qb qc qd
  refine ⟨p_1 a + 16 * p_1 b + 256 * p_1 c + 4096 * p_1 d, p_2 a + 16 * p_2 b + 256 * p_2 c + 4096 * p_2 d, p_2 a + p_2 b + 256 * (p_2 c + p_2 d), p_2 a + p_2 b + 256 * (p_2 c + p_2 d) + (p_2 c + p_2 d), bc_s1 ha hb hc hd, bc_lt (f1 a ha) (f1 b hb) (f1 c hc) (f1 d hd), bc_s2 ha hb hc hd, bc_lt (lt qa) (lt qb) (lt qc) (lt qd), ?_, ?_, n1, n2, n3, ?_⟩
  · rw [bc_16 qa qb qc qd]; exact bc_lt (le qa qb) (le qb qc) (le qc qd) (lt qd)
  · rw [bc_16 qa qb qc qd, m4, Nat.mul_zero, Nat.add_zero, Nat.add_zero]
  · rw [m5]; exact n4
/-- the bits of a number below 65536 -/
def ow_pc (x : Int) : Int := ow_ct (fun i => ow_bt x i) 16
theorem pc_nib {n : Nat} (h : n < 65536) : ow_pc (n : Int) = ((p_2 (n % 16) + p_2 (n / 16 % 16) + p_2 (n / 256 % 16) + p_2 (n / 4096 % 16) : Nat) : Int) := by
  have b : ∀ i : Nat, (if ow_bt (n : Int) (i : Int) = true then (1 : Int) else 0) = ((n / 2 ^ i % 2 : Nat) : Int) := by
    intro i
    rw [ow_bt_nn (by omega) (by omega), Int.toNat_natCast, Int.toNat_natCast, Nat.testBit_eq_decide_div_mod_eq]
    by_cases e : n / 2 ^ i % 2 = 1
    · rw [decide_eq_true e, if_pos rfl, e]; rfl
    · rw [decide_eq_false e, if_neg (by decide)]
      have : n / 2 ^ i % 2 = 0 := by omega
      rw [this]; rfl
  have f2 : ∀ t, t < 16 → p_2 t = t % 2 + t / 2 % 2 + t / 4 % 2 + t / 8 % 2 := fun t ht => (p_f2 ⟨t, ht⟩ 0).2.2
  have s : ∀ i : Nat, ow_ctn (fun i => ow_bt (n : Int) i) (i + 1) = ow_ctn (fun i => ow_bt (n : Int) i) i + ((n / 2 ^ i % 2 : Nat) : Int) := by
    intro i
    show _ + (if ow_bt (n : Int) (i : Int) = true then (1 : Int) else 0) = _
    rw [b i]
  have z : ow_ctn (fun i => ow_bt (n : Int) i) 0 = 0 := rfl
  show ow_ctn (fun i => ow_bt (n : Int) i) 16 = _
  rw [s 15, s 14, s 13, s 12, s 11, s 10, s 9, s 8, s 7, s 6, s 5, s 4, s 3, s 2, s 1, s 0, z]
  rw [f2 _ (show n % 16 < 16 by omega), f2 _ (show n / 16 % 16 < 16 by omega), f2 _ (show n / 256 % 16 < 16 by omega), f2 _ (show n / 4096 % 16 < 16 by omega)]
  simp only [Nat.reducePow]
  rw [show n / 1 % 2 = n % 16 % 2 by omega, show n / 2 % 2 = n % 16 / 2 % 2 by omega, show n / 4 % 2 = n % 16 / 4 % 2 by omega, show n / 8 % 2 = n % 16 / 8 % 2 by omega, show n / 16 % 2 = n / 16 % 16 % 2 by omega, show n / 32 % 2 = n / 16 % 16 / 2 % 2 by omega, show n / 64 % 2 = n / 16 % 16 / 4 % 2 by omega, show n / 128 % 2 = n / 16 % 16 / 8 % 2 by omega, show n / 256 % 2 = n / 256 % 16 % 2 by omega, show n / 512 % 2 = n / 256 % 16 / 2 % 2 by omega, show n / 1024 % 2 = n / 256 % 16 / 4 % 2 by omega, show n / 2048 % 2 = n / 256 % 16 / 8 % 2 by omega, show n / 4096 % 2 = n / 4096 % 16 % 2 by omega, show n / 8192 % 2 = n / 4096 % 16 / 2 % 2 by omega, show n / 16384 % 2 = n / 4096 % 16 / 4 % 2 by omega, show n / 32768 % 2 = n / 4096 % 16 / 8 % 2 by omega]
  simp only [Int.natCast_add]
  omega
section BCS
variable {C : ow_C} {E : ow_E} {d : Nat} {M : ow_M} {K : Int → ow_M → Prop}
theorem tJ6_bitCount {x : Int} (hx : 0 ≤ x ∧ x < 65536) (hK : K (ow_pc x) M) : ow_Sp C E d mJ6_bitCount_0f7a4 (0, 0) [(0, x)] M K := by
  obtain ⟨n, rfl⟩ := Int.eq_ofNat_of_zero_le hx.1
  have hn : n < 65536 := by omega
  rw [pc_nib hn] at hK
  obtain ⟨x1, x2, x3, x4, e1, l1, e2, l2, l2', e3, l3, e4, l4, e5⟩ := bc_nat (a := n % 16) (b := n / 16 % 16) (c := n / 256 % 16) (d := n / 4096 % 16) (by omega) (by omega) (by omega) (by omega)
  rw [show n % 16 + 16 * (n / 16 % 16) + 256 * (n / 256 % 16) + 4096 * (n / 4096 % 16) = n by omega] at e1
  rw [← e5] at hK
  have an : ∀ y m : Nat, y < 65536 → m ≤ 2147483647 → ow_and (y : Int) (m : Int) = ((y &&& m : Nat) : Int) := by
    intro y m hy hm
    rw [ow_and_nn (by omega) (by omega) (by omega) (by omega), Int.toNat_natCast, Int.toNat_natCast]
  have us : ∀ (y k : Nat), y < 65536 → k < 32 → ow_ushr (y : Int) (k : Int) = ((y / 2 ^ k : Nat) : Int) := by
    intro y k hy hk
    rw [ow_ushr_nn (by omega) (by omega) ⟨by omega, by omega⟩, Int.toNat_natCast]
    simp
  have s1 : (n : Int) - ow_and (ow_ushr (n : Int) 1) 1431655765 = (x1 : Int) := by
    have a := us n 1 hn (by decide)
    have b := an (n / 2) 1431655765 (by omega) (by decide)
    have a' : ow_ushr (n : Int) 1 = ((n / 2 : Nat) : Int) := a
    have b' : ow_and ((n / 2 : Nat) : Int) 1431655765 = ((n / 2 &&& 1431655765 : Nat) : Int) := b
    rw [a', b']
    omega
  have s2 : ow_and (x1 : Int) 858993459 + ow_and (ow_ushr (x1 : Int) 2) 858993459 = (x2 : Int) := by
    have a' : ow_ushr (x1 : Int) 2 = ((x1 / 4 : Nat) : Int) := us x1 2 l1 (by decide)
    have b' : ow_and ((x1 / 4 : Nat) : Int) 858993459 = ((x1 / 4 &&& 858993459 : Nat) : Int) := an (x1 / 4) 858993459 (by omega) (by decide)
    have c' : ow_and (x1 : Int) 858993459 = ((x1 &&& 858993459 : Nat) : Int) := an x1 858993459 l1 (by decide)
    rw [a', b', c']
    omega
  have s3 : (x2 : Int) + ow_ushr (x2 : Int) 4 = ((x2 + x2 / 16 : Nat) : Int) := by
    have a' : ow_ushr (x2 : Int) 4 = ((x2 / 16 : Nat) : Int) := us x2 4 l2 (by decide)
    rw [a']
    omega
  have s3' : ow_and ((x2 + x2 / 16 : Nat) : Int) 252645135 = (x3 : Int) := by
    have b' : ow_and ((x2 + x2 / 16 : Nat) : Int) 252645135 = ((x2 + x2 / 16 &&& 252645135 : Nat) : Int) := an (x2 + x2 / 16) 252645135 l2' (by decide)
    rw [b', e3]
  have s4 : (x3 : Int) + ow_ushr (x3 : Int) 8 = (x4 : Int) := by
    have a' : ow_ushr (x3 : Int) 8 = ((x3 / 256 : Nat) : Int) := us x3 8 l3 (by decide)
    rw [a']
    omega
  have s5 : (x4 : Int) + ow_ushr (x4 : Int) 16 = (x4 : Int) := by
    have a' : ow_ushr (x4 : Int) 16 = ((x4 / 65536 : Nat) : Int) := us x4 16 l4 (by decide)
    rw [a']
    omega
  have s6 : ow_and (x4 : Int) 63 = ((x4 &&& 63 : Nat) : Int) := an x4 63 l4 (by decide)
  rw [← s6] at hK
  refine eJ6_bitCount_0f7a4 ?_
  rw [s1, s2, s3, s3', s4, s5]
  exact ⟨⟨by omega, by omega⟩, ⟨by omega, by omega⟩, ⟨by omega, by omega⟩, ⟨by omega, by omega⟩, ⟨by omega, by omega⟩, hK⟩
end BCS
