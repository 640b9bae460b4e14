/-! ===== the class's constructor: up to its texts ===== -/
section CL3
variable {C : ow_C} {A L N : Int} {d : Nat} {M : ow_M} {K : Int → ow_M → Prop} {f : ow_M}
def fCa (f : ow_M) : ow_M := fm 3 (ow_df 10) (ow_up (ow_up (ow_up (ow_up (ow_up (ow_up (ow_up (fm 2 (fun _ => -1) (ow_up (ow_up (fm 1 (fun _ => 0) f) 0 5 1) 0 6 0)) 0 7 2) 0 8 0) 0 9 0) 0 10 (-1)) 0 11 (-1)) 0 12 (-1)) 0 13 (-1))
def fCb (A L N : Int) (f : ow_M) : ow_M := ow_up (fWd A L N (fCa f) (fun i => 0 ≤ i ∧ i < N * L)) 0 0 3
def fCc (A L N : Int) (f : ow_M) : ow_M := ow_up (fX4 19 18 (fm 18 (ow_df 4) (ow_up (fX4 15 14 (fm 14 (ow_df 4) (ow_up (fX0 11 10 3 (fm 10 (ow_df 0) (ow_up (fX0 7 6 3 (fm 6 (ow_df 0) (fCb A L N f))) 0 1 6))) 0 2 10))) 0 3 14))) 0 4 18
theorem iCa {a l : Int} {bc bs : Nat} (ho : em_ok A L N) (eA : max 2 (min 5 a) = A) (eL : lnF A 8 (max 2 (min 8 l)) = L) (h : vm 1 f M) (hK : ∀ M', vm 22 (fCc A L N f) M' → ow_At C (E0 A L N) (d + 3) mX11_init 123 [(0, (3, 0)), (3, (0, 0))] [] (bc + 37, bs + 16922) M' K) : ow_At C (E0 A L N) (d + 3) mX11_init 0 [(0, (3, 0)), (1, (0, a)), (2, (0, l))] [] (bc + 58, bs + 20219) M K := by
  have b := em_NLb ho
  refine bX11_init_0 rfl (fun _ _ => rfl) ⟨by decide, by decide, by rw [h.1]; rfl, by rw [h.1]; decide, by decide, by decide, fun q1 N1 eq1 e1 => ?_⟩
  rw [h.1] at eq1
  subst eq1
  have v1 := h.mk (by decide) e1
  refine ⟨v1.O (by decide) (by decide) rfl, rfl, fun N2 e2 => ?_⟩
  have v2 := v1.up (by decide) e2
  refine ⟨v2.O (by decide) (by decide) rfl, rfl, fun N3 e3 => ?_⟩
  have v3 := v2.up (by decide) e3
  refine ⟨by rw [v3.1]; rfl, by rw [v3.1]; decide, by decide, by decide, fun q4 N4 eq4 e4 => ?_⟩
  rw [v3.1] at eq4
  subst eq4
  have v4 := v3.mk (by decide) e4
  refine ⟨v4.O (by decide) (by decide) rfl, rfl, fun N5 e5 => ?_⟩
  have v5 := v4.up (by decide) e5
  refine ⟨v5.O (by decide) (by decide) rfl, rfl, fun N6 e6 => ?_⟩
  have v6 := v5.up (by decide) e6
  refine ⟨v6.O (by decide) (by decide) rfl, rfl, fun N7 e7 => ?_⟩
  have v7 := v6.up (by decide) e7
  refine ⟨v7.O (by decide) (by decide) rfl, rfl, fun N8 e8 => ?_⟩
  have v8 := v7.up (by decide) e8
  refine ⟨v8.O (by decide) (by decide) rfl, rfl, fun N9 e9 => ?_⟩
  have v9 := v8.up (by decide) e9
  refine ⟨v9.O (by decide) (by decide) rfl, rfl, fun N10 e10 => ?_⟩
  have v10 := v9.up (by decide) e10
  refine ⟨v10.O (by decide) (by decide) rfl, rfl, fun N11 e11 => ?_⟩
  have v11 := v10.up (by decide) e11
  refine ⟨by rw [v11.1]; rfl, by rw [v11.1]; decide, fun q12 N12 eq12 e12 => ?_⟩
  rw [v11.1] at eq12
  subst eq12
  have v12 := v11.mk (by decide) e12
  refine ⟨by decide, by decide, iX10 ho eA eL v12 (fun N13 v13 => ⟨v13.O (by decide) (by decide) rfl, rfl, fun N14 e14 => ?_⟩)⟩
  have v14 := v13.up (by decide) e14
  refine ⟨by rw [v14.1]; rfl, by rw [v14.1]; decide, fun q15 N15 eq15 e15 => ?_⟩
  rw [v14.1] at eq15
  subst eq15
  have v15 := v14.mk (by decide) e15
  rw [(v15.gv (by decide) (by decide) : ow_gv (E0 A L N) N15 0 0 = _).trans (rfl : _ = (3 : Int))]
  refine ⟨v15.O (by decide) (by decide) rfl, by decide, by decide, iX0 v15 ⟨by decide, by decide⟩ (by decide) ⟨by decide, by decide⟩ (by decide) rfl rfl rfl rfl rfl rfl ⟨by omega, by omega⟩ (fun N16 v16 => ⟨v16.O (by decide) (by decide) rfl, rfl, fun N17 e17 => ?_⟩)⟩
  have v17 := v16.up (by decide) e17
  refine ⟨by rw [v17.1]; rfl, by rw [v17.1]; decide, fun q18 N18 eq18 e18 => ?_⟩
  rw [v17.1] at eq18
  subst eq18
  have v18 := v17.mk (by decide) e18
  rw [(v18.gv (by decide) (by decide) : ow_gv (E0 A L N) N18 0 0 = _).trans (rfl : _ = (3 : Int))]
  refine ⟨v18.O (by decide) (by decide) rfl, by decide, by decide, iX0 v18 ⟨by decide, by decide⟩ (by decide) ⟨by decide, by decide⟩ (by decide) rfl rfl rfl rfl rfl rfl ⟨by omega, by omega⟩ (fun N19 v19 => ⟨v19.O (by decide) (by decide) rfl, rfl, fun N20 e20 => ?_⟩)⟩
  have v20 := v19.up (by decide) e20
  refine ⟨by rw [v20.1]; rfl, by rw [v20.1]; decide, fun q21 N21 eq21 e21 => ?_⟩
  rw [v20.1] at eq21
  subst eq21
  have v21 := v20.mk (by decide) e21
  refine ⟨by decide, by decide, iX4 v21 ⟨by decide, by decide⟩ (by decide) rfl rfl rfl rfl (fun N22 v22 => ⟨v22.O (by decide) (by decide) rfl, rfl, fun N23 e23 => ?_⟩)⟩
  have v23 := v22.up (by decide) e23
  refine ⟨by rw [v23.1]; rfl, by rw [v23.1]; decide, fun q24 N24 eq24 e24 => ?_⟩
  rw [v23.1] at eq24
  subst eq24
  have v24 := v23.mk (by decide) e24
  exact ⟨by decide, by decide, iX4 v24 ⟨by decide, by decide⟩ (by decide) rfl rfl rfl rfl (fun N25 v25 => ⟨v25.O (by decide) (by decide) rfl, rfl, fun N26 e26 => hK N26 (v25.up (by decide) e26)⟩)⟩
end CL3
