/-! ===== the reference's constructor, whole ===== -/
section REF2
variable {C : ow_C} {A L N : Int} {d : Nat} {M : ow_M} {K : Int → ow_M → Prop} {f : ow_M}
theorem iX12 {a l : Int} (eA : max 2 (min 5 a) = A) (eL : lnF A 8 (max 2 (min 8 l)) = L) (eN : N = em_pw A L) (h : vm 84 f M) (hK : ∀ M', vm 102 (fX12 A L N f) M' → K 0 M') : ow_Sp C (E0 A L N) (d + 1) mX12_init (18, 114692) [(3, 83), (0, a), (0, l)] M K := by
  have ha : 2 ≤ A ∧ A ≤ 5 := by omega
  refine eX12_init rfl (fun _ _ => rfl) ⟨by decide, by decide, by rw [h.1]; rfl, by rw [h.1]; decide, by decide, by decide, fun q1 N1 eq1 e1 => ?_⟩
  rw [h.1] at eq1
  subst eq1
  have v1 := h.mk (by decide) e1
  refine ⟨v1.O (by decide) (by decide) rfl, rfl, fun N2 e2 => ?_⟩
  have v2 := v1.up (by decide) e2
  refine ⟨by rw [v2.1]; rfl, by rw [v2.1]; decide, by decide, by decide, fun q3 N3 eq3 e3 => ?_⟩
  rw [v2.1] at eq3
  subst eq3
  have v3 := v2.mk (by decide) e3
  refine ⟨v3.O (by decide) (by decide) rfl, rfl, fun N4 e4 => ?_⟩
  have v4 := v3.up (by decide) e4
  refine ⟨by rw [v4.1]; rfl, by rw [v4.1]; decide, by decide, by decide, fun q5 N5 eq5 e5 => ?_⟩
  rw [v4.1] at eq5
  subst eq5
  have v5 := v4.mk (by decide) e5
  refine ⟨v5.O (by decide) (by decide) rfl, rfl, fun N6 e6 => ?_⟩
  have v6 := v5.up (by decide) e6
  refine ⟨by rw [v6.1]; rfl, by rw [v6.1]; decide, by decide, by decide, fun q7 N7 eq7 e7 => ?_⟩
  rw [v6.1] at eq7
  subst eq7
  have v7 := v6.mk (by decide) e7
  refine ⟨v7.O (by decide) (by decide) rfl, rfl, fun N8 e8 => ?_⟩
  have v8 := v7.up (by decide) e8
  refine ⟨v8.O (by decide) (by decide) rfl, rfl, fun N9 e9 => ?_⟩
  have v9 := v8.up (by decide) e9
  refine ⟨v9.O (by decide) (by decide) rfl, rfl, fun N10 e10 => ?_⟩
  have v10 := v9.up (by decide) e10
  refine ⟨by rw [v10.1]; rfl, by rw [v10.1]; decide, by decide, by decide, fun q11 N11 eq11 e11 => ?_⟩
  rw [v10.1] at eq11
  subst eq11
  have v11 := v10.mk (by decide) e11
  refine ⟨v11.O (by decide) (by decide) rfl, rfl, fun N12 e12 => ?_⟩
  have v12 := v11.up (by decide) e12
  refine ⟨by rw [v12.1]; rfl, by rw [v12.1]; decide, by decide, by decide, fun q13 N13 eq13 e13 => ?_⟩
  rw [v12.1] at eq13
  subst eq13
  have v13 := v12.mk (by decide) e13
  refine ⟨v13.O (by decide) (by decide) rfl, rfl, fun N14 e14 => ?_⟩
  have v14 := v13.up (by decide) e14
  refine ⟨by rw [v14.1]; rfl, by rw [v14.1]; decide, by decide, by decide, fun q15 N15 eq15 e15 => ?_⟩
  rw [v14.1] at eq15
  subst eq15
  have v15 := v14.mk (by decide) e15
  refine ⟨v15.O (by decide) (by decide) rfl, rfl, fun N16 e16 => ?_⟩
  have v16 := v15.up (by decide) e16
  refine ⟨by rw [v16.1]; rfl, by rw [v16.1]; decide, by decide, by decide, fun q17 N17 eq17 e17 => ?_⟩
  rw [v16.1] at eq17
  subst eq17
  have v17 := v16.mk (by decide) e17
  refine ⟨v17.O (by decide) (by decide) rfl, rfl, fun N18 e18 => ?_⟩
  have v18 := v17.up (by decide) e18
  refine ⟨by rw [v18.1]; rfl, by rw [v18.1]; decide, by decide, by decide, fun q19 N19 eq19 e19 => ?_⟩
  rw [v18.1] at eq19
  subst eq19
  have v19 := v18.mk (by decide) e19
  refine ⟨v19.O (by decide) (by decide) rfl, rfl, fun N20 e20 => ?_⟩
  have v20 := v19.up (by decide) e20
  refine ⟨by rw [v20.1]; rfl, by rw [v20.1]; decide, by decide, by decide, fun q21 N21 eq21 e21 => ?_⟩
  rw [v20.1] at eq21
  subst eq21
  have v21 := v20.mk (by decide) e21
  refine ⟨v21.O (by decide) (by decide) rfl, rfl, fun N22 e22 => ?_⟩
  have v22 := v21.up (by decide) e22
  refine ⟨by rw [v22.1]; rfl, by rw [v22.1]; decide, by decide, by decide, fun q23 N23 eq23 e23 => ?_⟩
  rw [v22.1] at eq23
  subst eq23
  have v23 := v22.mk (by decide) e23
  refine ⟨v23.O (by decide) (by decide) rfl, rfl, fun N24 e24 => ?_⟩
  have v24 := v23.up (by decide) e24
  refine ⟨by rw [v24.1]; rfl, by rw [v24.1]; decide, by decide, by decide, fun q25 N25 eq25 e25 => ?_⟩
  rw [v24.1] at eq25
  subst eq25
  have v25 := v24.mk (by decide) e25
  refine ⟨v25.O (by decide) (by decide) rfl, rfl, fun N26 e26 => ?_⟩
  have v26 := v25.up (by decide) e26
  refine ⟨by rw [v26.1]; rfl, by rw [v26.1]; decide, by decide, by decide, fun q27 N27 eq27 e27 => ?_⟩
  rw [v26.1] at eq27
  subst eq27
  have v27 := v26.mk (by decide) e27
  refine ⟨v27.O (by decide) (by decide) rfl, rfl, fun N28 e28 => ?_⟩
  have v28 := v27.up (by decide) e28
  refine ⟨by rw [v28.1]; rfl, by rw [v28.1]; decide, by decide, by decide, fun q29 N29 eq29 e29 => ?_⟩
  rw [v28.1] at eq29
  subst eq29
  have v29 := v28.mk (by decide) e29
  refine ⟨v29.O (by decide) (by decide) rfl, rfl, fun N30 e30 => ?_⟩
  have v30 := v29.up (by decide) e30
  refine ⟨by rw [v30.1]; rfl, by rw [v30.1]; decide, by decide, by decide, fun q31 N31 eq31 e31 => ?_⟩
  rw [v30.1] at eq31
  subst eq31
  have v31 := v30.mk (by decide) e31
  refine ⟨v31.O (by decide) (by decide) rfl, rfl, fun N32 e32 => ?_⟩
  have v32 := v31.up (by decide) e32
  refine ⟨by rw [v32.1]; rfl, by rw [v32.1]; decide, by decide, by decide, fun q33 N33 eq33 e33 => ?_⟩
  rw [v32.1] at eq33
  subst eq33
  have v33 := v32.mk (by decide) e33
  refine ⟨v33.O (by decide) (by decide) rfl, rfl, fun N34 e34 => ?_⟩
  have v34 := v33.up (by decide) e34
  refine ⟨by rw [v34.1]; rfl, by rw [v34.1]; decide, by decide, by decide, fun q35 N35 eq35 e35 => ?_⟩
  rw [v34.1] at eq35
  subst eq35
  have v35 := v34.mk (by decide) e35
  refine ⟨v35.O (by decide) (by decide) rfl, rfl, fun N36 e36 => ?_⟩
  have v36 := v35.up (by decide) e36
  refine ⟨by rw [v36.1]; rfl, by rw [v36.1]; decide, by decide, by decide, fun q37 N37 eq37 e37 => ?_⟩
  rw [v36.1] at eq37
  subst eq37
  have v37 := v36.mk (by decide) e37
  refine ⟨v37.O (by decide) (by decide) rfl, rfl, fun N38 e38 => ?_⟩
  have v38 := v37.up (by decide) e38
  have vv : vm 102 (fX12a f) N38 := v38
  have at193 : ∀ s0, s0 = A → ow_At C (E0 A L N) (d + 1) mX12_init 193 [(0, (3, 83)), (2, (0, l))] [(0, s0), (3, 83)] (0 + 0, 0 + 0) N38 K := by
    intro s0 es
    subst es
    refine bX12_init_193 ⟨vv.O (by decide) (by decide) rfl, rfl, fun P1 p1 => ?_⟩
    have w1 := vv.up (by decide) p1
    have at218 : ∀ l3, l3 = max 2 (min 8 l) → ow_At C (E0 s0 L N) (d + 1) mX12_init 218 [(0, (3, 83)), (3, (0, l3))] [] (0 + 0, 0 + 0) P1 K := fun l3 e3 => iX12_218 (k := 8) ha eN 8 l3 (ow_up (fX12a f) 83 2 s0) P1 w1 rfl rfl rfl (by omega) (by omega) (by omega) (by rw [e3]; exact eL) hK
    exact ⟨fun z => ⟨fun y => at218 l (by omega), fun y => at218 8 (by omega)⟩, fun z => at218 2 (by omega)⟩
  exact ⟨fun z => ⟨fun y => at193 a (by omega), fun y => at193 5 (by omega)⟩, fun z => at193 2 (by omega)⟩
end REF2
