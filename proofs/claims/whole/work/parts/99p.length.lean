/-! ===== how long words are ===== -/
def lnF (a : Int) : Nat → Int → Int
  | 0, l => l
  | k + 1, l => if em_pw a l ≤ 256 then l else lnF a k (l - 1)
section LEN
variable {C : ow_C} {E : ow_E} {d : Nat} {M : ow_M} {K : Int → ow_M → Prop}
theorem em_pw8 {a l : Int} (ha : 2 ≤ a ∧ a ≤ 5) (hl : 2 ≤ l ∧ l ≤ 8) : em_pw a l ≤ 1000000 ∧ (256 < em_pw a l → 3 ≤ l) := by
  have eA : a = 2 ∨ a = 3 ∨ a = 4 ∨ a = 5 := by omega
  have eL : l = 2 ∨ l = 3 ∨ l = 4 ∨ l = 5 ∨ l = 6 ∨ l = 7 ∨ l = 8 := by omega
  clear ha hl
  rcases eA with e | e | e | e <;> rcases eL with e2 | e2 | e2 | e2 | e2 | e2 | e2 <;> subst e <;> subst e2 <;> decide
theorem lnF_rg {a : Int} (ha : 2 ≤ a ∧ a ≤ 5) : ∀ (k : Nat) (l : Int), 2 ≤ l → l ≤ 8 → l ≤ 2 + k → (2 ≤ lnF a k l ∧ lnF a k l ≤ 8) ∧ em_pw a (lnF a k l) ≤ 256 := by
  intro k
  induction k with
  | zero =>
    intro l h1 h2 h3
    have e : l = 2 := by omega
    show (2 ≤ l ∧ l ≤ 8) ∧ em_pw a l ≤ 256
    refine ⟨⟨h1, h2⟩, ?_⟩
    by_cases z : em_pw a l ≤ 256
    · exact z
    · have := (em_pw8 ha ⟨h1, h2⟩).2 (by omega)
      omega
  | succ k ih =>
    intro l h1 h2 h3
    show (2 ≤ (if em_pw a l ≤ 256 then l else lnF a k (l - 1)) ∧ (if em_pw a l ≤ 256 then l else lnF a k (l - 1)) ≤ 8) ∧ em_pw a (if em_pw a l ≤ 256 then l else lnF a k (l - 1)) ≤ 256
    by_cases z : em_pw a l ≤ 256
    · rw [if_pos z]; exact ⟨⟨h1, h2⟩, z⟩
    · rw [if_neg z]
      have := (em_pw8 ha ⟨h1, h2⟩).2 (by omega)
      exact ih (l - 1) (by omega) (by omega) (by omega)
theorem tX10_lengthFor {a l : Int} (ha : 2 ≤ a ∧ a ≤ 5) (hK : K (lnF a 8 (max 2 (min 8 l))) M) : ow_Sp C E (d + 1) mX10_lengthFor (0, 0) [(0, a), (0, l)] M K := by
  have loop : ∀ (k : Nat) (l2 l3 : Int), l3 = 8 - k → k ≤ 8 → 2 ≤ l2 → l2 ≤ 8 → K (lnF a k l2) M → ow_At C E (d + 1) mX10_lengthFor 13 [(0, (0, a)), (2, (0, l2)), (3, (0, l3))] [] (0, 0) M K := by
    intro k
    induction k with
    | zero => intro l2 l3 h3 _ h1 h2 hk; exact bX10_lengthFor_13 ⟨fun _ => hk, fun z => by omega⟩
    | succ k ih =>
      intro l2 l3 h3 h8 h1 h2 hk
      have p := em_pw8 ha ⟨h1, h2⟩
      have hk' : K (if em_pw a l2 ≤ 256 then l2 else lnF a k (l2 - 1)) M := hk
      refine bX10_lengthFor_13 ⟨fun z => by omega, fun _ => tX10_raised (by omega) (by omega) p.1 ⟨fun z => ?_, fun z => ⟨⟨by omega, by omega⟩, ⟨by omega, by omega⟩, ?_⟩⟩⟩
      · rw [if_pos z] at hk'; exact hk'
      · rw [if_neg (by omega)] at hk'
        have := p.2 z
        exact ih (l2 + (-1)) (l3 + 1) (by omega) (by omega) (by omega) (by omega) (by rw [show l2 + (-1) = l2 - 1 by omega]; exact hk')
  exact eX10_lengthFor (loop 8 _ 0 rfl (by decide) (by omega) (by omega) hK)
/-- the word sizes that the constructors take -/
theorem em_of {a l : Int} : em_ok (max 2 (min 5 a)) (lnF (max 2 (min 5 a)) 8 (max 2 (min 8 l))) (em_pw (max 2 (min 5 a)) (lnF (max 2 (min 5 a)) 8 (max 2 (min 8 l)))) := by
  have ha : 2 ≤ max 2 (min 5 a) ∧ max 2 (min 5 a) ≤ 5 := by omega
  have h := lnF_rg ha 8 (max 2 (min 8 l)) (by omega) (by omega) (by omega)
  exact ⟨ha.1, ha.2, h.1.1, h.1.2, rfl, h.2⟩
end LEN
