/-! ===== the vow's constructor, at its place ===== -/
section MADE5
variable {C : ow_C} {A L N : Int} {d : Nat} {M : ow_M} {K : Int → ow_M → Prop} {f : ow_M}
theorem em_600 (ho : em_ok A L N) : (0 ≤ 8 * L ∧ 8 * L ≤ 64) ∧ (0 ≤ 8 * L * A ∧ 8 * L * A ≤ 400) ∧ (0 ≤ 8 * L * A * A ∧ 8 * L * A * A ≤ 600) ∧ 0 ≤ 8 * L * A * A * (L + 1) ∧ 8 * L * A * A * (L + 1) ≤ 2560 := by
  obtain ⟨a1, a2, l1, l2, hN, h256⟩ := ho
  have hp : em_pw A L ≤ 256 := by rw [← hN]; exact h256
  have eA : A = 2 ∨ A = 3 ∨ A = 4 ∨ A = 5 := by omega
  have eL : L = 2 ∨ L = 3 ∨ L = 4 ∨ L = 5 ∨ L = 6 ∨ L = 7 ∨ L = 8 := by omega
  clear hN h256 a1 a2 l1 l2
  rcases eA with e | e | e | e <;> rcases eL with e2 | e2 | e2 | e2 | e2 | e2 | e2 <;> subst e <;> subst e2 <;> first | decide | (exfalso; revert hp; decide)
def fX9 (A L : Int) (f : ow_M) : ow_M := ow_up (fm 63 (fun _ => 0) (ow_up (fm 62 (fun _ => 0) (ow_up (ow_up (ow_up (ow_up (ow_up (fX3 60 59 (fm 59 (ow_df 3) f)) 58 1 59) 58 5 0) 58 6 (-1)) 58 0 3) 58 2 (L + 1))) 58 3 62)) 58 4 63
theorem iX9 (ho : em_ok A L N) (h : vm 59 f M) (hA : f 3 0 = A) (hL : f 3 1 = L) (hK : ∀ M', vm 64 (fX9 A L f) M' → K 0 M') : ow_Sp C (E0 A L N) (d + 2) mX9_init (5, 3469) [(3, 58), (3, 3)] M K := by
  have b := em_600 ho
  have hL2 := ho.2.2.1
  have hL8 := ho.2.2.2.1
  refine eX9_init rfl (fun _ _ => rfl) ⟨by decide, by decide, by rw [h.1]; rfl, by rw [h.1]; decide, fun q1 N1 eq1 e1 => ?_⟩
  rw [h.1] at eq1
  subst eq1
  have v1 := h.mk (by decide) e1
  refine ⟨by decide, by decide, iX3 v1 ⟨by decide, by decide⟩ (by decide) rfl rfl rfl (fun N2 v2 => ?_)⟩
  refine ⟨v2.O (by decide) (by decide) rfl, rfl, fun N3 e3 => ?_⟩
  have v3 := v2.up (by decide) e3
  refine ⟨v3.O (by decide) (by decide) rfl, rfl, fun N4 e4 => ?_⟩
  have v4 := v3.up (by decide) e4
  refine ⟨v4.O (by decide) (by decide) rfl, rfl, fun N5 e5 => ?_⟩
  have v5 := v4.up (by decide) e5
  refine ⟨v5.O (by decide) (by decide) rfl, rfl, fun N6 e6 => ?_⟩
  have v6 := v5.up (by decide) e6
  have g6 : ow_gv (E0 A L N) N6 3 1 = L := (v6.gv (by decide) (by decide)).trans hL
  rw [g6]
  refine ⟨v6.O (by decide) (by decide) rfl, ⟨by omega, by omega⟩, v6.O (by decide) (by decide) rfl, rfl, fun N7 e7 => ?_⟩
  have v7 := v6.up (by decide) e7
  have g7 : ow_gv (E0 A L N) N7 3 1 = L := (v7.gv (by decide) (by decide)).trans hL
  have g8 : ow_gv (E0 A L N) N7 3 0 = A := (v7.gv (by decide) (by decide)).trans hA
  rw [g7, g8]
  refine ⟨v7.O (by decide) (by decide) rfl, ⟨by omega, by omega⟩, v7.O (by decide) (by decide) rfl, ⟨by omega, by omega⟩, v7.O (by decide) (by decide) rfl, ⟨by omega, by omega⟩, by rw [v7.1]; rfl, by rw [v7.1]; decide, by omega, by omega, fun q8 N8 eq8 e8 => ?_⟩
  rw [v7.1] at eq8
  subst eq8
  have v8 := v7.mk (by decide) e8
  refine ⟨v8.O (by decide) (by decide) rfl, rfl, fun N9 e9 => ?_⟩
  have v9 := v8.up (by decide) e9
  have g9 : ow_gv (E0 A L N) N9 58 3 = 62 := (v9.gv (by decide) (by decide)).trans rfl
  have g10 : ow_gv (E0 A L N) N9 58 2 = L + 1 := (v9.gv (by decide) (by decide)).trans rfl
  rw [g9, g10]
  have e62 : ((E0 A L N).2.1 62) = (100, 8 * L * A * A) := rfl
  rw [e62]
  refine ⟨v9.O (by decide) (by decide) rfl, ⟨by decide, by show (62 : Int) < N9 (-1) 0; rw [v9.1]; decide, rfl, by show 0 ≤ 8 * L * A * A; omega, by show 8 * L * A * A ≤ 2147483647; omega⟩, v9.O (by decide) (by decide) rfl, ⟨by show -2147483648 ≤ 8 * L * A * A * (L + 1); omega, by show 8 * L * A * A * (L + 1) ≤ 2147483647; omega⟩, by rw [v9.1]; rfl, by rw [v9.1]; decide, by show 0 ≤ 8 * L * A * A * (L + 1); omega, by show 8 * L * A * A * (L + 1) ≤ 2560; omega, fun q10 N10 eq10 e10 => ?_⟩
  rw [v9.1] at eq10
  subst eq10
  have v10 := v9.mk (by decide) e10
  exact ⟨v10.O (by decide) (by decide) rfl, rfl, fun N11 e11 => hK N11 (v10.up (by decide) e11)⟩
end MADE5
