/-! ===== constructors at their places: counts, breakers, vow ===== -/
section MADE4
variable {C : ow_C} {A L N : Int} {d : Nat} {M : ow_M} {K : Int → ow_M → Prop} {f : ow_M}
theorem em_NLb (ho : em_ok A L N) : 0 < N ∧ N ≤ 256 ∧ 2 ≤ L ∧ L ≤ 8 ∧ 0 ≤ N * (L + 1) ∧ N * (L + 1) ≤ 2304 := by
  have hN := em_pwp ho L
  rw [← ho.2.2.2.2.1] at hN
  have h1 := ho.2.2.1
  have h2 := ho.2.2.2.1
  have h3 := ho.2.2.2.2.2
  have m1 := Int.mul_nonneg (show 0 ≤ N by omega) (show 0 ≤ L + 1 by omega)
  have m2 := Int.mul_le_mul h3 (show L + 1 ≤ 9 by omega) (show 0 ≤ L + 1 by omega) (show (0 : Int) ≤ 256 by decide)
  exact ⟨hN, h3, h1, h2, m1, by omega⟩
def fX2 (L : Int) (f : ow_M) : ow_M := ow_up (fm 79 (fun _ => 0) (ow_up (fm 78 (fun _ => 0) (ow_up (ow_up (ow_up f 77 0 3) 77 1 58) 77 2 (L + 1))) 77 3 78)) 77 4 79
theorem iX2 (ho : em_ok A L N) (h : vm 78 f M) (hL : f 3 1 = L) (hN : f 3 2 = N) (hK : ∀ M', vm 80 (fX2 L f) M' → K 0 M') : ow_Sp C (E0 A L N) (d + 1) mX2_init (2, 4608) [(3, 77), (3, 3), (3, 58)] M K := by
  have b := em_NLb ho
  refine eX2_init rfl (fun _ _ => rfl) ⟨by decide, by decide, h.O (by decide) (by decide) rfl, rfl, fun N1 e1 => ?_⟩
  have v1 := h.up (by decide) e1
  refine ⟨v1.O (by decide) (by decide) rfl, rfl, fun N2 e2 => ?_⟩
  have v2 := v1.up (by decide) e2
  have g2 : ow_gv (E0 A L N) N2 3 1 = L := (v2.gv (by decide) (by decide)).trans hL
  rw [g2]
  refine ⟨v2.O (by decide) (by decide) rfl, ⟨by omega, by omega⟩, v2.O (by decide) (by decide) rfl, rfl, fun N3 e3 => ?_⟩
  have v3 := v2.up (by decide) e3
  have g3 : ow_gv (E0 A L N) N3 3 2 = N := (v3.gv (by decide) (by decide)).trans hN
  have g4 : ow_gv (E0 A L N) N3 77 2 = L + 1 := (v3.gv (by decide) (by decide)).trans rfl
  rw [g3, g4]
  refine ⟨v3.O (by decide) (by decide) rfl, v3.O (by decide) (by decide) rfl, ⟨by omega, by omega⟩, by rw [v3.1]; rfl, by rw [v3.1]; decide, by omega, by omega, fun q4 N4 eq4 e4 => ?_⟩
  rw [v3.1] at eq4
  subst eq4
  have v4 := v3.mk (by decide) e4
  refine ⟨v4.O (by decide) (by decide) rfl, rfl, fun N5 e5 => ?_⟩
  have v5 := v4.up (by decide) e5
  have g5 : ow_gv (E0 A L N) N5 3 2 = N := (v5.gv (by decide) (by decide)).trans hN
  have g6 : ow_gv (E0 A L N) N5 77 2 = L + 1 := (v5.gv (by decide) (by decide)).trans rfl
  rw [g5, g6]
  refine ⟨v5.O (by decide) (by decide) rfl, v5.O (by decide) (by decide) rfl, ⟨by omega, by omega⟩, by rw [v5.1]; rfl, by rw [v5.1]; decide, by omega, by omega, fun q6 N6 eq6 e6 => ?_⟩
  rw [v5.1] at eq6
  subst eq6
  have v6 := v5.mk (by decide) e6
  exact ⟨v6.O (by decide) (by decide) rfl, rfl, fun N7 e7 => hK N7 (v6.up (by decide) e7)⟩
def fX1 (L : Int) (f : ow_M) : ow_M := ow_up (fm 82 (fun _ => 0) (ow_up (fm 81 (fun _ => 0) (ow_up (ow_up (ow_up f 80 0 3) 80 1 58) 80 2 (L + 1))) 80 3 81)) 80 4 82
theorem iX1 (ho : em_ok A L N) (h : vm 81 f M) (hL : f 3 1 = L) (hN : f 3 2 = N) (hK : ∀ M', vm 83 (fX1 L f) M' → K 0 M') : ow_Sp C (E0 A L N) (d + 1) mX1_init (2, 4608) [(3, 80), (3, 3), (3, 58)] M K := by
  have b := em_NLb ho
  refine eX1_init rfl (fun _ _ => rfl) ⟨by decide, by decide, h.O (by decide) (by decide) rfl, rfl, fun N1 e1 => ?_⟩
  have v1 := h.up (by decide) e1
  refine ⟨v1.O (by decide) (by decide) rfl, rfl, fun N2 e2 => ?_⟩
  have v2 := v1.up (by decide) e2
  have g2 : ow_gv (E0 A L N) N2 3 1 = L := (v2.gv (by decide) (by decide)).trans hL
  rw [g2]
  refine ⟨v2.O (by decide) (by decide) rfl, ⟨by omega, by omega⟩, v2.O (by decide) (by decide) rfl, rfl, fun N3 e3 => ?_⟩
  have v3 := v2.up (by decide) e3
  have g3 : ow_gv (E0 A L N) N3 3 2 = N := (v3.gv (by decide) (by decide)).trans hN
  have g4 : ow_gv (E0 A L N) N3 80 2 = L + 1 := (v3.gv (by decide) (by decide)).trans rfl
  rw [g3, g4]
  refine ⟨v3.O (by decide) (by decide) rfl, v3.O (by decide) (by decide) rfl, ⟨by omega, by omega⟩, by rw [v3.1]; rfl, by rw [v3.1]; decide, by omega, by omega, fun q4 N4 eq4 e4 => ?_⟩
  rw [v3.1] at eq4
  subst eq4
  have v4 := v3.mk (by decide) e4
  refine ⟨v4.O (by decide) (by decide) rfl, rfl, fun N5 e5 => ?_⟩
  have v5 := v4.up (by decide) e5
  have g5 : ow_gv (E0 A L N) N5 3 2 = N := (v5.gv (by decide) (by decide)).trans hN
  have g6 : ow_gv (E0 A L N) N5 80 2 = L + 1 := (v5.gv (by decide) (by decide)).trans rfl
  rw [g5, g6]
  refine ⟨v5.O (by decide) (by decide) rfl, v5.O (by decide) (by decide) rfl, ⟨by omega, by omega⟩, by rw [v5.1]; rfl, by rw [v5.1]; decide, by omega, by omega, fun q6 N6 eq6 e6 => ?_⟩
  rw [v5.1] at eq6
  subst eq6
  have v6 := v5.mk (by decide) e6
  exact ⟨v6.O (by decide) (by decide) rfl, rfl, fun N7 e7 => hK N7 (v6.up (by decide) e7)⟩
end MADE4
