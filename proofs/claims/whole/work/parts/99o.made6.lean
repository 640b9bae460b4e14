/-! ===== the paths' constructor, at its place ===== -/
section MADE6
variable {C : ow_C} {A L N : Int} {d : Nat} {M : ow_M} {K : Int → ow_M → Prop} {f : ow_M}
def fN (n k : Int) (f : ow_M) : ow_M := fun c i => if c = n then (if 0 ≤ i ∧ i < k then n + 1 + i else -1) else if n < c ∧ c ≤ n + k then 0 else f c i
theorem vm.mkN {M' : ow_M} {n k : Int} (h : vm n f M) (h0 : 0 ≤ n) (hk : 0 ≤ k) (e : M' = ow_mkN M k) : vm (n + 1 + k) (fN n k f) M' := by
  refine ⟨by rw [e]; unfold ow_mkN; rw [if_pos ⟨rfl, rfl⟩, h.1], fun c i c0 c1 => ?_⟩
  rw [e]
  unfold ow_mkN fN
  rw [if_neg (by omega), h.1]
  by_cases z : c = n
  · rw [if_pos z, if_pos z]
  · rw [if_neg z, if_neg z]
    by_cases z2 : n < c ∧ c ≤ n + k
    · rw [if_pos z2, if_pos z2]
    · rw [if_neg z2, if_neg z2]
      exact h.2 c i c0 (by omega)
theorem em_shl (ho : em_ok A L N) : ow_shl 1 (L + 1) - 1 = em_pw 2 (L + 1) - 1 ∧ 0 ≤ em_pw 2 (L + 1) - 1 ∧ em_pw 2 (L + 1) - 1 ≤ 511 := by
  have l1 := ho.2.2.1
  have l2 := ho.2.2.2.1
  have eL : L = 2 ∨ L = 3 ∨ L = 4 ∨ L = 5 ∨ L = 6 ∨ L = 7 ∨ L = 8 := by omega
  clear ho l1 l2
  rcases eL with e2 | e2 | e2 | e2 | e2 | e2 | e2 <;> subst e2 <;> decide +kernel
def fX5 (L : Int) (f : ow_M) : ow_M := ow_up (fm 76 (fun _ => 0) (ow_up (fN 66 9 (ow_up (ow_up (ow_up (ow_up (fm 65 (fun _ => 0) f) 64 5 65) 64 0 3) 64 1 58) 64 2 (em_pw 2 (L + 1) - 1))) 64 3 66)) 64 4 76
theorem iX5 (ho : em_ok A L N) (h : vm 65 f M) (hL : f 3 1 = L) (hN : f 3 2 = N) (hK : ∀ M', vm 77 (fX5 L f) M' → K 0 M') : ow_Sp C (E0 A L N) (d + 1) mX5_init (12, 2585) [(3, 64), (3, 3), (3, 58)] M K := by
  have b := em_NLb ho
  have bs := em_shl ho
  refine eX5_init rfl (fun _ _ => rfl) ⟨by decide, by decide, by rw [h.1]; rfl, by rw [h.1]; decide, by decide, by decide, fun q1 N1 eq1 e1 => ?_⟩
  rw [h.1] at eq1
  subst eq1
  have v1 := h.mk (by decide) e1
  refine ⟨v1.O (by decide) (by decide) rfl, rfl, fun N2 e2 => ?_⟩
  have v2 := v1.up (by decide) e2
  refine ⟨v2.O (by decide) (by decide) rfl, rfl, fun N3 e3 => ?_⟩
  have v3 := v2.up (by decide) e3
  refine ⟨v3.O (by decide) (by decide) rfl, rfl, fun N4 e4 => ?_⟩
  have v4 := v3.up (by decide) e4
  have g4 : ow_gv (E0 A L N) N4 3 1 = L := (v4.gv (by decide) (by decide)).trans hL
  rw [g4, bs.1]
  refine ⟨v4.O (by decide) (by decide) rfl, ⟨by omega, by omega⟩, ⟨by omega, by omega⟩, v4.O (by decide) (by decide) rfl, rfl, fun N5 e5 => ?_⟩
  have v5 := v4.up (by decide) e5
  have g5 : ow_gv (E0 A L N) N5 3 2 = N := (v5.gv (by decide) (by decide)).trans hN
  rw [g5]
  refine ⟨v5.O (by decide) (by decide) rfl, by omega, by omega, by rw [v5.1]; rfl, fun i i0 i1 => ?_, by rw [v5.1]; decide, fun q6 N6 eq6 e6 => ?_⟩
  · rw [v5.1]
    have ei : i = 0 ∨ i = 1 ∨ i = 2 ∨ i = 3 ∨ i = 4 ∨ i = 5 ∨ i = 6 ∨ i = 7 ∨ i = 8 := by omega
    rcases ei with e | e | e | e | e | e | e | e | e <;> subst e <;> rfl
  rw [v5.1] at eq6
  subst eq6
  have v6 := v5.mkN (by decide) (by decide) e6
  refine ⟨v6.O (by decide) (by decide) rfl, rfl, fun N7 e7 => ?_⟩
  have v7 := v6.up (by decide) e7
  have g7 : ow_gv (E0 A L N) N7 3 2 = N := (v7.gv (by decide) (by decide)).trans hN
  rw [g7]
  refine ⟨v7.O (by decide) (by decide) rfl, by rw [v7.1]; rfl, by rw [v7.1]; decide, by omega, by omega, fun q8 N8 eq8 e8 => ?_⟩
  rw [v7.1] at eq8
  subst eq8
  have v8 := v7.mk (by decide) e8
  exact ⟨v8.O (by decide) (by decide) rfl, rfl, fun N9 e9 => hK N9 (v8.up (by decide) e9)⟩
end MADE6
