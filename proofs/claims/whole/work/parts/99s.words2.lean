/-! ===== the words' constructor, its first table ===== -/
section WD2
variable {C : ow_C} {A L N : Int} {d : Nat} {M : ow_M} {K : Int → ow_M → Prop} {f : ow_M}
def fWa (A L N : Int) (f : ow_M) : ow_M := ow_up (fm 4 (fun _ => 0) (ow_up (ow_up (ow_up f 3 0 A) 3 1 L) 3 2 N)) 3 3 4
def fWb (A L N j : Int) (f : ow_M) : ow_M := fun c i => if c = 4 ∧ 0 ≤ i ∧ i < j then em_pw A (L - 1 - i) else fWa A L N f c i
def fWc (A L N : Int) (f : ow_M) : ow_M := ow_up (fm 5 (fun _ => 0) (fWb A L N L f)) 3 4 5
theorem iX10_56 (ho : em_ok A L N) (h : vm 5 (fWa A L N f) M) (hK : ∀ M', vm 6 (fWc A L N f) M' → ow_At C (E0 A L N) (d + 1) mX10_init 108 [(0, (3, 3)), (3, (0, 0))] [] (0 + 0, 0 + 0) M' K) : ow_At C (E0 A L N) (d + 1) mX10_init 56 [(0, (3, 3)), (3, (0, 0))] [] (0 + 1, 0 + 2048) M K := by
  have b := em_NLb ho
  have hA := ho.1
  have hA5 := ho.2.1
  have bNL : 0 ≤ N * L ∧ N * L ≤ 2048 := by
    have m1 := Int.mul_nonneg (show 0 ≤ N by omega) (show 0 ≤ L by omega)
    have m2 := Int.mul_le_mul b.2.1 (show L ≤ 8 by omega) (show 0 ≤ L by omega) (show (0 : Int) ≤ 256 by decide)
    exact ⟨m1, by omega⟩
  refine ow_upto (S := ow_M) (P := fun j s => ow_At C (E0 A L N) (d + 1) mX10_init 56 [(0, (3, 3)), (3, (0, j))] [] (0 + 1, 0 + 2048) s K) (I := fun j s => 0 ≤ j ∧ vm 5 (fWb A L N j f) s) L (fun s hI => ?_) (fun j s j1 hI ih => ?_) 0 M (by omega) ⟨Int.le_refl 0, h.1, fun c i c0 c1 => ?_⟩
  · obtain ⟨j0, v⟩ := hI
    have g1 : ow_gv (E0 A L N) s 3 1 = L := (v.gv (by decide) (by decide)).trans rfl
    have g2 : ow_gv (E0 A L N) s 3 2 = N := (v.gv (by decide) (by decide)).trans rfl
    refine bX10_init_56 rfl (fun _ _ => rfl) ?_
    rw [g1, g2]
    refine ⟨v.O (by decide) (by decide) rfl, fun _ => ⟨v.O (by decide) (by decide) rfl, v.O (by decide) (by decide) rfl, ⟨by omega, by omega⟩, by rw [v.1]; rfl, by rw [v.1]; decide, bNL.1, bNL.2, fun q1 N1 eq1 e1 => ?_⟩, fun z => by omega⟩
    rw [v.1] at eq1
    subst eq1
    have v1 := v.mk (by decide) e1
    exact ⟨v1.O (by decide) (by decide) rfl, rfl, fun N2 e2 => hK N2 (v1.up (by decide) e2)⟩
  · obtain ⟨j0, v⟩ := hI
    have g0 : ow_gv (E0 A L N) s 3 0 = A := (v.gv (by decide) (by decide)).trans rfl
    have g1 : ow_gv (E0 A L N) s 3 1 = L := (v.gv (by decide) (by decide)).trans rfl
    have g3 : ow_gv (E0 A L N) s 3 3 = 4 := (v.gv (by decide) (by decide)).trans rfl
    have pl := em_pw_le (a := A) (by omega) (show 0 ≤ L - 1 - j by omega) (show L - 1 - j ≤ L by omega)
    rw [← ho.2.2.2.2.1] at pl
    refine bX10_init_56 rfl (fun _ _ => rfl) ?_
    rw [g0, g1, g3]
    refine ⟨v.O (by decide) (by decide) rfl, fun z => by omega, fun _ => ⟨v.O (by decide) (by decide) rfl, v.O (by decide) (by decide) rfl, v.O (by decide) (by decide) rfl, ⟨by omega, by omega⟩, ⟨by omega, by omega⟩, tX10_raised (by omega) (by omega) (by omega) ⟨v.R (by decide) (by decide) rfl j0 j1, rfl, fun N4 e4 => ?_⟩⟩⟩
    have v4 := v.up (by decide) e4
    refine ⟨⟨by omega, by omega⟩, ih N4 ⟨by omega, v4.1, fun c i c0 c1 => ?_⟩⟩
    rw [v4.2 c i c0 c1]
    unfold ow_up
    show _ = (if c = 4 ∧ 0 ≤ i ∧ i < j + 1 then em_pw A (L - 1 - i) else fWa A L N f c i)
    by_cases z : c = 4 ∧ i = j
    · rw [if_pos z, if_pos (by omega), z.2]
    · rw [if_neg z]
      show (if c = 4 ∧ 0 ≤ i ∧ i < j then em_pw A (L - 1 - i) else fWa A L N f c i) = _
      by_cases z2 : c = 4 ∧ 0 ≤ i ∧ i < j
      · rw [if_pos z2, if_pos (by omega)]
      · rw [if_neg z2, if_neg (by omega)]
  · show M c i = (if c = 4 ∧ 0 ≤ i ∧ i < 0 then em_pw A (L - 1 - i) else fWa A L N f c i)
    rw [if_neg (by omega)]
    exact h.2 c i c0 c1
end WD2
