/-! ===== the greatest common part ===== -/
def gc (a b : Int) : Int := ((Nat.gcd a.toNat b.toNat : Nat) : Int)
theorem gc_step {a b : Int} (ha : 0 ≤ a) (hb : 0 < b) : gc b (a % b) = gc a b := by
  unfold gc
  rw [Int.toNat_emod ha (by omega), Nat.gcd_comm a.toNat b.toNat, Nat.gcd_rec b.toNat a.toNat, Nat.gcd_comm]
theorem gc_0 {a : Int} (ha : 0 ≤ a) : gc a 0 = a := by
  unfold gc
  rw [show (0 : Int).toNat = 0 from rfl, Nat.gcd_zero_right]
  omega
theorem gc_comm {a b : Int} : gc a b = gc b a := by
  unfold gc
  rw [Nat.gcd_comm]
/-- the product halves -/
theorem gc_half {a b : Int} (hb : 0 < b) (hab : b ≤ a) : 2 * (b * (a % b)) ≤ a * b := by
  have h1 := Int.emod_nonneg a (show b ≠ 0 by omega)
  have h2 := Int.emod_lt_of_pos a hb
  have h3 := Int.mul_ediv_add_emod a b
  have h4 : 1 ≤ a / b := Int.le_ediv_of_mul_le hb (by omega)
  have h5 := Int.mul_le_mul_of_nonneg_left h4 (show 0 ≤ b by omega)
  have h6 : b + a % b ≤ a := by omega
  have h7 := Int.mul_le_mul_of_nonneg_right h6 (show 0 ≤ b by omega)
  rw [Int.add_mul] at h7
  have h8 := Int.mul_le_mul_of_nonneg_right (show a % b ≤ b by omega) (show 0 ≤ b by omega)
  rw [Int.mul_comm b (a % b)]
  omega
section GCS
variable {C : ow_C} {E : ow_E} {d : Nat} {M : ow_M} {K : Int → ow_M → Prop}
theorem gc_L {a b : Int} (ha : 0 ≤ a ∧ a ≤ 9223372036854775807) (hb : 0 < b) : ow_L (Int.tdiv a b) ∧ ow_L (Int.tmod a b) ∧ Int.tmod a b = a % b ∧ (0 ≤ a % b ∧ a % b < b ∧ a % b ≤ a) := by
  have h1 := Int.emod_nonneg a (show b ≠ 0 by omega)
  have h2 := Int.emod_lt_of_pos a hb
  have h3 : a % b ≤ a := by
    have := Int.mul_ediv_add_emod a b
    have h4 := Int.mul_nonneg (show 0 ≤ b by omega) (Int.ediv_nonneg ha.1 (show 0 ≤ b by omega))
    omega
  have h5 : 0 ≤ a / b := Int.ediv_nonneg ha.1 (by omega)
  have h6 : a / b ≤ a := Int.ediv_le_self _ ha.1
  rw [em_tdiv ha.1, em_tmod ha.1]
  exact ⟨⟨by omega, by omega⟩, ⟨by omega, by omega⟩, rfl, h1, h2, h3⟩
theorem tX12_common {a b : Int} (ha : 0 ≤ a ∧ a ≤ 9223372036854775807) (hb : 0 ≤ b ∧ b ≤ 9223372036854775807) (hK : K (gc a b) M) : ow_Sp C E d mX12_common (0, 0) [(1, a), (1, b)] M K := by
  refine eX12_common ?_
  have key : ∀ (k : Nat) (a b : Int), (0 ≤ a ∧ a ≤ 9223372036854775807) → (0 ≤ b ∧ b ≤ 9223372036854775807) → b.toNat ≤ k → K (gc a b) M → ow_At C E d mX12_common 6 [(4, (1, a)), (6, (1, b))] [] (0, 0) M K := by
    intro k
    induction k with
    | zero =>
      intro a b ha hb hk hK
      have e : b = 0 := by omega
      subst e
      rw [gc_0 ha.1] at hK
      exact bX12_common_6 ⟨fun _ => hK, fun q => absurd (show ow_lcmp 0 0 = 0 by decide) q⟩
    | succ k ih =>
      intro a b ha hb hk hK
      have hlc := ow_lcq (a := b) (b := 0)
      refine bX12_common_6 ⟨fun q => ?_, fun q => ?_⟩
      · have e : b = 0 := by omega
        subst e
        rw [gc_0 ha.1] at hK
        exact hK
      · have hb0 : 0 < b := by omega
        obtain ⟨g1, g2, g3, g4⟩ := gc_L ha hb0
        refine ⟨by omega, g1, g2, ?_⟩
        rw [g3]
        exact ih b (a % b) hb ⟨by omega, by omega⟩ (by omega) (by rw [gc_step ha.1 hb0]; exact hK)
  exact key b.toNat a b ha hb (Nat.le_refl _) hK
theorem tX11_greatestCommon {a b : Int} (ha : 0 < a ∧ a ≤ 9223372036854775807) (hb : 0 ≤ b ∧ b ≤ 9223372036854775807) (hK : K (gc a b) M) : ow_Sp C E d mX11_greatestCommon (0, 0) [(1, a), (1, b)] M K := by
  refine eX11_greatestCommon ?_
  refine ow_upto (S := Int × Int) (P := fun i s => ow_At C E d mX11_greatestCommon 9 [(4, (1, s.1)), (6, (1, s.2)), (8, (0, i))] [] (0, 0) M K) (I := fun i s => 0 ≤ i ∧ (0 < s.1 ∧ s.1 ≤ 9223372036854775807) ∧ (0 ≤ s.2 ∧ s.2 ≤ 9223372036854775807) ∧ (i = 0 ∨ s.2 < s.1) ∧ s.1 * s.2 * 2 ^ i.toNat ≤ 2 ^ 127 ∧ K (gc s.1 s.2) M) 200 (fun s hI => ?_) (fun i s i1 hI ih => ?_) 0 (a, b) (by omega) ⟨by omega, ha, hb, Or.inl rfl, ?_, hK⟩
  · obtain ⟨_, i2, i3, i4, i5, i6⟩ := hI
    have e : s.2 = 0 := by
      refine Classical.byContradiction (fun hne => ?_)
      have h1 := Int.mul_le_mul_of_nonneg_left (show 1 ≤ s.2 by omega) (show 0 ≤ s.1 by omega)
      have h2 := Int.mul_le_mul_of_nonneg_right (show 1 ≤ s.1 * s.2 by omega) (show (0 : Int) ≤ 2 ^ (200 : Int).toNat by decide)
      have h3 : ¬ ((1 : Int) * 2 ^ (200 : Int).toNat ≤ 2 ^ 127) := by decide
      exact h3 (Int.le_trans h2 i5)
    rw [e, gc_0 (by omega)] at i6
    exact bX11_greatestCommon_9 ⟨fun _ => i6, fun q => by omega⟩
  · obtain ⟨i0, i2, i3, i4, i5, i6⟩ := hI
    have hlc := ow_lcq (a := s.2) (b := 0)
    refine bX11_greatestCommon_9 ⟨fun q => by omega, fun _ => ⟨fun q => ?_, fun q => ?_⟩⟩
    · have e : s.2 = 0 := by omega
      rw [e, gc_0 (by omega)] at i6
      exact i6
    · have hb0 : 0 < s.2 := by omega
      obtain ⟨g1, g2, g3, g4⟩ := gc_L ⟨Int.le_of_lt i2.1, i2.2⟩ hb0
      refine ⟨by omega, g1, g2, ⟨by omega, by omega⟩, ?_⟩
      rw [g3]
      refine ih (s.2, s.1 % s.2) ⟨by omega, ⟨hb0, i3.2⟩, ⟨g4.1, by show s.1 % s.2 ≤ _; omega⟩, Or.inr g4.2.1, ?_, by show K (gc s.2 (s.1 % s.2)) M; rw [gc_step (by omega) hb0]; exact i6⟩
      show s.2 * (s.1 % s.2) * 2 ^ (i + 1).toNat ≤ 2 ^ 127
      rw [show (i + 1).toNat = i.toNat + 1 by omega, Int.pow_succ]
      by_cases hle : s.2 ≤ s.1
      · have g := gc_half hb0 hle
        have p0 : (0 : Int) ≤ 2 ^ i.toNat := Int.le_of_lt (Int.pow_pos (by decide))
        have g5 := Int.mul_le_mul_of_nonneg_right g p0
        have e : s.2 * (s.1 % s.2) * (2 ^ i.toNat * 2) = 2 * (s.2 * (s.1 % s.2)) * 2 ^ i.toNat := by
          rw [Int.mul_comm (2 ^ i.toNat) 2, ← Int.mul_assoc, Int.mul_comm _ 2]
        rw [e]
        exact Int.le_trans g5 i5
      · have e0 : i = 0 := by omega
        subst e0
        have g6 : s.1 % s.2 = s.1 := Int.emod_eq_of_lt (by omega) (by omega)
        have g7 := em_bd (a := s.2) (x := 9223372036854775807) (b := s.1) (y := 9223372036854775807) (by omega) i3.2 (by omega) i2.2
        rw [g6]
        show s.2 * s.1 * (1 * 2) ≤ 2 ^ 127
        have g8 : (9223372036854775807 : Int) * 9223372036854775807 * 2 ≤ 2 ^ 127 := by decide
        omega
  · show a * b * 1 ≤ 2 ^ 127
    have g7 := em_bd (a := a) (x := 9223372036854775807) (b := b) (y := 9223372036854775807) (by omega) ha.2 (by omega) hb.2
    have g8 : (9223372036854775807 : Int) * 9223372036854775807 ≤ 2 ^ 127 := by decide
    omega
end GCS
