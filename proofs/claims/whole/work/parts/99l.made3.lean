/-! ===== constructors that call others ===== -/
section MADE3
variable {C : ow_C} {A L N : Int} {d : Nat} {M : ow_M} {K : Int → ow_M → Prop} {n : Int} {f : ow_M}
def fX6 (n l0 l1 : Int) (f : ow_M) : ow_M := ow_up (fX8 (n + 1 + 1 + 1 + 1 + 1 + 1 + 1) (n + 1 + 1 + 1 + 1 + 1 + 1) l1 (fm (n + 1 + 1 + 1 + 1 + 1 + 1) (ow_df 8) (ow_up (ow_up (ow_up (ow_up (ow_up (fX7 (n + 1) n (fm n (ow_df 7) f)) l0 1 n) l0 2 0) l0 3 0) l0 4 0) l0 5 (-1)))) l0 0 (n + 1 + 1 + 1 + 1 + 1 + 1)
theorem iX6 {l0 l1 : Int} (h : vm n f M) (n0 : 0 ≤ l0 ∧ l0 < n) (n9 : n < 600) (ko : (EM A L N).2.1 l0 = (6, 6)) (k0 : (EM A L N).2.1 n = (7, 15)) (k1 : (EM A L N).2.1 (n + 1) = (100, 300)) (k2 : (EM A L N).2.1 (n + 1 + 1) = (100, 24)) (k3 : (EM A L N).2.1 (n + 1 + 1 + 1) = (100, 24)) (k4 : (EM A L N).2.1 (n + 1 + 1 + 1 + 1) = (100, 24)) (k5 : (EM A L N).2.1 (n + 1 + 1 + 1 + 1 + 1) = (100, 24)) (k6 : (EM A L N).2.1 (n + 1 + 1 + 1 + 1 + 1 + 1) = (8, 8)) (k7 : (EM A L N).2.1 (n + 1 + 1 + 1 + 1 + 1 + 1 + 1) = (100, 301)) (k8 : (EM A L N).2.1 (n + 1 + 1 + 1 + 1 + 1 + 1 + 1 + 1) = (100, 301)) (k9 : (EM A L N).2.1 (n + 1 + 1 + 1 + 1 + 1 + 1 + 1 + 1 + 1) = (100, 301)) (k10 : (EM A L N).2.1 (n + 1 + 1 + 1 + 1 + 1 + 1 + 1 + 1 + 1 + 1) = (100, 301)) (hK : ∀ M', vm (n + 1 + 1 + 1 + 1 + 1 + 1 + 1 + 1 + 1 + 1 + 1) (fX6 n l0 l1 f) M' → K 0 M') : ow_Sp C (E0 A L N) (d + 2) mX6_init (11, 1623) [(3, l0), (3, l1)] M K := by
  refine eX6_init rfl (fun _ _ => rfl) ⟨n0.1, by omega, by rw [h.1]; exact k0, by rw [h.1]; omega, fun q1 N1 eq1 e1 => ?_⟩
  rw [h.1] at eq1
  have eq1' := eq1.symm
  subst eq1'
  have v1 := h.mk (by omega) e1
  refine ⟨by omega, by omega, iX7 v1 ⟨by omega, by omega⟩ (by omega) k0 k1 k2 k3 k4 k5 (fun N2 v2 => ?_)⟩
  refine ⟨v2.O n0.1 (by omega) ko, rfl, fun N3 e3 => ?_⟩
  have v3 := v2.up n0.1 e3
  refine ⟨v3.O n0.1 (by omega) ko, rfl, fun N4 e4 => ?_⟩
  have v4 := v3.up n0.1 e4
  refine ⟨v4.O n0.1 (by omega) ko, rfl, fun N5 e5 => ?_⟩
  have v5 := v4.up n0.1 e5
  refine ⟨v5.O n0.1 (by omega) ko, rfl, fun N6 e6 => ?_⟩
  have v6 := v5.up n0.1 e6
  refine ⟨v6.O n0.1 (by omega) ko, rfl, fun N7 e7 => ?_⟩
  have v7 := v6.up n0.1 e7
  refine ⟨by rw [v7.1]; exact k6, by rw [v7.1]; omega, fun q8 N8 eq8 e8 => ?_⟩
  rw [v7.1] at eq8
  subst eq8
  have v8 := v7.mk (by omega) e8
  refine ⟨by omega, by omega, iX8 v8 ⟨by omega, by omega⟩ (by omega) k6 k7 k8 k9 k10 (fun N9 v9 => ?_)⟩
  exact ⟨v9.O n0.1 (by omega) ko, rfl, fun N10 e10 => hK N10 (v9.up n0.1 e10)⟩
end MADE3
