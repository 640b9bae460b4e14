/-! ===== plain constructors ===== -/
section MADE2
variable {C : ow_C} {A L N : Int} {d : Nat} {M : ow_M} {K : Int → ow_M → Prop} {n : Int} {f : ow_M}
def fX4 (n l0 : Int) (f : ow_M) : ow_M := (ow_up (fm (n + 1 + 1) (fun _ => 0) (ow_up (fm (n + 1) (fun _ => 0) (ow_up (fm (n) (fun _ => 0) (ow_up (ow_up f l0 0 0) l0 1 0)) l0 2 (n))) l0 3 (n + 1))) l0 4 (n + 1 + 1))
theorem iX4 {l0 : Int} (h : vm n f M) (n0 : 0 ≤ l0 ∧ l0 < n) (n9 : n < 700) (ko : (EM A L N).2.1 l0 = (4, 5)) (k0 : (EM A L N).2.1 (n) = (100, 40)) (k1 : (EM A L N).2.1 (n + 1) = (100, 40)) (k2 : (EM A L N).2.1 (n + 1 + 1) = (100, 40)) (hK : ∀ M', vm (n + 1 + 1 + 1) (fX4 n l0 f) M' → K 0 M') : ow_Sp C (E0 A L N) (d + 1) mX4_init (3, 120) [(3, l0)] M K := by
  refine eX4_init rfl (fun _ _ => rfl) ⟨n0.1, by omega, h.O n0.1 (by omega) ko, rfl, fun N1 e1 => ?_⟩
  have v1 := h.up n0.1 e1
  refine ⟨v1.O n0.1 (by omega) ko, rfl, fun N2 e2 => ?_⟩
  have v2 := v1.up n0.1 e2
  refine ⟨by rw [v2.1]; exact k0, by rw [v2.1]; omega, by decide, by decide, fun q3 N3 eq3 e3 => ?_⟩
  rw [v2.1] at eq3
  have eq3' := eq3.symm
  subst eq3'
  have v3 := v2.mk (by omega) e3
  refine ⟨v3.O n0.1 (by omega) ko, rfl, fun N4 e4 => ?_⟩
  have v4 := v3.up n0.1 e4
  refine ⟨by rw [v4.1]; exact k1, by rw [v4.1]; omega, by decide, by decide, fun q5 N5 eq5 e5 => ?_⟩
  rw [v4.1] at eq5
  subst eq5
  have v5 := v4.mk (by omega) e5
  refine ⟨v5.O n0.1 (by omega) ko, rfl, fun N6 e6 => ?_⟩
  have v6 := v5.up n0.1 e6
  refine ⟨by rw [v6.1]; exact k2, by rw [v6.1]; omega, by decide, by decide, fun q7 N7 eq7 e7 => ?_⟩
  rw [v6.1] at eq7
  subst eq7
  have v7 := v6.mk (by omega) e7
  exact ⟨v7.O n0.1 (by omega) ko, rfl, fun N8 e8 => hK N8 (v7.up n0.1 e8)⟩
def fX7 (n l0 : Int) (f : ow_M) : ow_M := (ow_up (ow_up (fm (n + 1 + 1 + 1 + 1) (fun _ => 0) (ow_up (fm (n + 1 + 1 + 1) (fun _ => 0) (ow_up (ow_up (fm (n + 1 + 1) (fun _ => 0) (ow_up (fm (n + 1) (fun _ => 0) (ow_up (ow_up (ow_up (ow_up (ow_up (ow_up (ow_up (ow_up (ow_up (fm (n) (fun _ => 0) f) l0 0 (n)) l0 1 0) l0 2 0) l0 3 0) l0 4 0) l0 5 0) l0 6 0) l0 7 0) l0 8 0)) l0 9 (n + 1))) l0 10 (n + 1 + 1)) l0 11 0)) l0 12 (n + 1 + 1 + 1))) l0 13 (n + 1 + 1 + 1 + 1)) l0 14 0)
theorem iX7 {l0 : Int} (h : vm n f M) (n0 : 0 ≤ l0 ∧ l0 < n) (n9 : n < 700) (ko : (EM A L N).2.1 l0 = (7, 15)) (k0 : (EM A L N).2.1 (n) = (100, 300)) (k1 : (EM A L N).2.1 (n + 1) = (100, 24)) (k2 : (EM A L N).2.1 (n + 1 + 1) = (100, 24)) (k3 : (EM A L N).2.1 (n + 1 + 1 + 1) = (100, 24)) (k4 : (EM A L N).2.1 (n + 1 + 1 + 1 + 1) = (100, 24)) (hK : ∀ M', vm (n + 1 + 1 + 1 + 1 + 1) (fX7 n l0 f) M' → K 0 M') : ow_Sp C (E0 A L N) (d + 1) mX7_init (5, 396) [(3, l0)] M K := by
  refine eX7_init rfl (fun _ _ => rfl) ⟨n0.1, by omega, by rw [h.1]; exact k0, by rw [h.1]; omega, by decide, by decide, fun q1 N1 eq1 e1 => ?_⟩
  rw [h.1] at eq1
  have eq1' := eq1.symm
  subst eq1'
  have v1 := h.mk (by omega) e1
  refine ⟨v1.O n0.1 (by omega) ko, rfl, fun N2 e2 => ?_⟩
  have v2 := v1.up n0.1 e2
  refine ⟨v2.O n0.1 (by omega) ko, rfl, fun N3 e3 => ?_⟩
  have v3 := v2.up n0.1 e3
  refine ⟨v3.O n0.1 (by omega) ko, rfl, fun N4 e4 => ?_⟩
  have v4 := v3.up n0.1 e4
  refine ⟨v4.O n0.1 (by omega) ko, rfl, fun N5 e5 => ?_⟩
  have v5 := v4.up n0.1 e5
  refine ⟨v5.O n0.1 (by omega) ko, rfl, fun N6 e6 => ?_⟩
  have v6 := v5.up n0.1 e6
  refine ⟨v6.O n0.1 (by omega) ko, rfl, fun N7 e7 => ?_⟩
  have v7 := v6.up n0.1 e7
  refine ⟨v7.O n0.1 (by omega) ko, rfl, fun N8 e8 => ?_⟩
  have v8 := v7.up n0.1 e8
  refine ⟨v8.O n0.1 (by omega) ko, rfl, fun N9 e9 => ?_⟩
  have v9 := v8.up n0.1 e9
  refine ⟨v9.O n0.1 (by omega) ko, rfl, fun N10 e10 => ?_⟩
  have v10 := v9.up n0.1 e10
  refine ⟨by rw [v10.1]; exact k1, by rw [v10.1]; omega, by decide, by decide, fun q11 N11 eq11 e11 => ?_⟩
  rw [v10.1] at eq11
  subst eq11
  have v11 := v10.mk (by omega) e11
  refine ⟨v11.O n0.1 (by omega) ko, rfl, fun N12 e12 => ?_⟩
  have v12 := v11.up n0.1 e12
  refine ⟨by rw [v12.1]; exact k2, by rw [v12.1]; omega, by decide, by decide, fun q13 N13 eq13 e13 => ?_⟩
  rw [v12.1] at eq13
  subst eq13
  have v13 := v12.mk (by omega) e13
  refine ⟨v13.O n0.1 (by omega) ko, rfl, fun N14 e14 => ?_⟩
  have v14 := v13.up n0.1 e14
  refine ⟨v14.O n0.1 (by omega) ko, rfl, fun N15 e15 => ?_⟩
  have v15 := v14.up n0.1 e15
  refine ⟨by rw [v15.1]; exact k3, by rw [v15.1]; omega, by decide, by decide, fun q16 N16 eq16 e16 => ?_⟩
  rw [v15.1] at eq16
  subst eq16
  have v16 := v15.mk (by omega) e16
  refine ⟨v16.O n0.1 (by omega) ko, rfl, fun N17 e17 => ?_⟩
  have v17 := v16.up n0.1 e17
  refine ⟨by rw [v17.1]; exact k4, by rw [v17.1]; omega, by decide, by decide, fun q18 N18 eq18 e18 => ?_⟩
  rw [v17.1] at eq18
  subst eq18
  have v18 := v17.mk (by omega) e18
  refine ⟨v18.O n0.1 (by omega) ko, rfl, fun N19 e19 => ?_⟩
  have v19 := v18.up n0.1 e19
  exact ⟨v19.O n0.1 (by omega) ko, rfl, fun N20 e20 => hK N20 (v19.up n0.1 e20)⟩
def fX8 (n l0 l1 : Int) (f : ow_M) : ow_M := (ow_up (ow_up (ow_up (ow_up (ow_up (fm (n + 1 + 1 + 1) (fun _ => 0) (ow_up (fm (n + 1 + 1) (fun _ => 0) (ow_up (fm (n + 1) (fun _ => 0) (ow_up (fm (n) (fun _ => 0) f) l0 1 (n))) l0 2 (n + 1))) l0 3 (n + 1 + 1))) l0 4 (n + 1 + 1 + 1)) l0 5 0) l0 6 (-1)) l0 7 0) l0 0 l1)
theorem iX8 {l0 l1 : Int} (h : vm n f M) (n0 : 0 ≤ l0 ∧ l0 < n) (n9 : n < 700) (ko : (EM A L N).2.1 l0 = (8, 8)) (k0 : (EM A L N).2.1 (n) = (100, 301)) (k1 : (EM A L N).2.1 (n + 1) = (100, 301)) (k2 : (EM A L N).2.1 (n + 1 + 1) = (100, 301)) (k3 : (EM A L N).2.1 (n + 1 + 1 + 1) = (100, 301)) (hK : ∀ M', vm (n + 1 + 1 + 1 + 1) (fX8 n l0 l1 f) M' → K 0 M') : ow_Sp C (E0 A L N) (d + 1) mX8_init (4, 1204) [(3, l0), (3, l1)] M K := by
  refine eX8_init rfl (fun _ _ => rfl) ⟨n0.1, by omega, by rw [h.1]; exact k0, by rw [h.1]; omega, by decide, by decide, fun q1 N1 eq1 e1 => ?_⟩
  rw [h.1] at eq1
  have eq1' := eq1.symm
  subst eq1'
  have v1 := h.mk (by omega) e1
  refine ⟨v1.O n0.1 (by omega) ko, rfl, fun N2 e2 => ?_⟩
  have v2 := v1.up n0.1 e2
  refine ⟨by rw [v2.1]; exact k1, by rw [v2.1]; omega, by decide, by decide, fun q3 N3 eq3 e3 => ?_⟩
  rw [v2.1] at eq3
  subst eq3
  have v3 := v2.mk (by omega) e3
  refine ⟨v3.O n0.1 (by omega) ko, rfl, fun N4 e4 => ?_⟩
  have v4 := v3.up n0.1 e4
  refine ⟨by rw [v4.1]; exact k2, by rw [v4.1]; omega, by decide, by decide, fun q5 N5 eq5 e5 => ?_⟩
  rw [v4.1] at eq5
  subst eq5
  have v5 := v4.mk (by omega) e5
  refine ⟨v5.O n0.1 (by omega) ko, rfl, fun N6 e6 => ?_⟩
  have v6 := v5.up n0.1 e6
  refine ⟨by rw [v6.1]; exact k3, by rw [v6.1]; omega, by decide, by decide, fun q7 N7 eq7 e7 => ?_⟩
  rw [v6.1] at eq7
  subst eq7
  have v7 := v6.mk (by omega) e7
  refine ⟨v7.O n0.1 (by omega) ko, rfl, fun N8 e8 => ?_⟩
  have v8 := v7.up n0.1 e8
  refine ⟨v8.O n0.1 (by omega) ko, rfl, fun N9 e9 => ?_⟩
  have v9 := v8.up n0.1 e9
  refine ⟨v9.O n0.1 (by omega) ko, rfl, fun N10 e10 => ?_⟩
  have v10 := v9.up n0.1 e10
  refine ⟨v10.O n0.1 (by omega) ko, rfl, fun N11 e11 => ?_⟩
  have v11 := v10.up n0.1 e11
  exact ⟨v11.O n0.1 (by omega) ko, rfl, fun N12 e12 => hK N12 (v11.up n0.1 e12)⟩
def fX3 (n l0 : Int) (f : ow_M) : ow_M := (ow_up (ow_up (fm (n + 1) (fun _ => 0) (ow_up (fm (n) (fun _ => 0) f) l0 0 (n))) l0 1 (n + 1)) l0 2 0)
theorem iX3 {l0 : Int} (h : vm n f M) (n0 : 0 ≤ l0 ∧ l0 < n) (n9 : n < 700) (ko : (EM A L N).2.1 l0 = (3, 3)) (k0 : (EM A L N).2.1 (n) = (100, 6)) (k1 : (EM A L N).2.1 (n + 1) = (100, 300)) (hK : ∀ M', vm (n + 1 + 1) (fX3 n l0 f) M' → K 0 M') : ow_Sp C (E0 A L N) (d + 1) mX3_init (2, 306) [(3, l0)] M K := by
  refine eX3_init rfl (fun _ _ => rfl) ⟨n0.1, by omega, by rw [h.1]; exact k0, by rw [h.1]; omega, by decide, by decide, fun q1 N1 eq1 e1 => ?_⟩
  rw [h.1] at eq1
  have eq1' := eq1.symm
  subst eq1'
  have v1 := h.mk (by omega) e1
  refine ⟨v1.O n0.1 (by omega) ko, rfl, fun N2 e2 => ?_⟩
  have v2 := v1.up n0.1 e2
  refine ⟨by rw [v2.1]; exact k1, by rw [v2.1]; omega, by decide, by decide, fun q3 N3 eq3 e3 => ?_⟩
  rw [v2.1] at eq3
  subst eq3
  have v3 := v2.mk (by omega) e3
  refine ⟨v3.O n0.1 (by omega) ko, rfl, fun N4 e4 => ?_⟩
  have v4 := v3.up n0.1 e4
  exact ⟨v4.O n0.1 (by omega) ko, rfl, fun N5 e5 => hK N5 (v4.up n0.1 e5)⟩
end MADE2
