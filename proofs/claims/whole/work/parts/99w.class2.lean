/-! ===== the class's constructor: what stands behind its texts ===== -/
section CL2
variable {C : ow_C} {A L N : Int} {d : Nat} {M : ow_M} {K : Int → ow_M → Prop} {f : ow_M}
def fCl (A L : Int) (f : ow_M) : ow_M := ow_up (fX1 L (fm 80 (ow_df 1) (ow_up (fX2 L (fm 77 (ow_df 2) (ow_up (fX5 L (fm 64 (ow_df 5) (ow_up (fX9 A L (fm 58 (ow_df 9) (ow_up (fX6 47 46 3 (fm 46 (ow_df 6) f)) 0 14 46))) 0 15 58))) 0 16 64))) 0 17 77))) 0 18 80
theorem iCl (ho : em_ok A L N) (h : vm 46 f M) (h0 : f 0 0 = 3) (hA : f 3 0 = A) (hL : f 3 1 = L) (hN : f 3 2 = N) (hK : ∀ M', vm 83 (fCl A L f) M' → K 0 M') : ow_At C (E0 A L N) (d + 3) mX11_init 123 [(0, (3, 0)), (3, (0, 4))] [] (0 + 37, 0 + 16922) M K := by
  refine bX11_init_123 rfl (fun _ _ => rfl) ⟨fun _ => ?_, fun z => absurd z (by decide)⟩
  refine ⟨by rw [h.1]; rfl, by rw [h.1]; decide, fun q1 N1 eq1 e1 => ?_⟩
  rw [h.1] at eq1
  subst eq1
  have v1 := h.mk (by decide) e1
  rw [(v1.gv (by decide) (by decide) : ow_gv (E0 A L N) N1 0 0 = _).trans h0]
  refine ⟨v1.O (by decide) (by decide) rfl, by decide, by decide, iX6 v1 ⟨by decide, by decide⟩ (by decide) rfl rfl rfl rfl rfl rfl rfl rfl rfl rfl rfl rfl (fun N2 v2 => ⟨v2.O (by decide) (by decide) rfl, rfl, fun N3 e3 => ?_⟩)⟩
  have v3 := v2.up (by decide) e3
  refine ⟨by rw [v3.1]; rfl, by rw [v3.1]; decide, fun q4 N4 eq4 e4 => ?_⟩
  rw [v3.1] at eq4
  subst eq4
  have v4 := v3.mk (by decide) e4
  rw [(v4.gv (by decide) (by decide) : ow_gv (E0 A L N) N4 0 0 = _).trans h0]
  refine ⟨v4.O (by decide) (by decide) rfl, by decide, by decide, iX9 ho v4 hA hL (fun N5 v5 => ⟨v5.O (by decide) (by decide) rfl, rfl, fun N6 e6 => ?_⟩)⟩
  have v6 := v5.up (by decide) e6
  refine ⟨by rw [v6.1]; rfl, by rw [v6.1]; decide, fun q7 N7 eq7 e7 => ?_⟩
  rw [v6.1] at eq7
  subst eq7
  have v7 := v6.mk (by decide) e7
  rw [(v7.gv (by decide) (by decide) : ow_gv (E0 A L N) N7 0 0 = _).trans h0, (v7.gv (by decide) (by decide) : ow_gv (E0 A L N) N7 0 15 = _).trans (rfl : _ = (58 : Int))]
  refine ⟨v7.O (by decide) (by decide) rfl, v7.O (by decide) (by decide) rfl, by decide, by decide, iX5 ho v7 hL hN (fun N8 v8 => ⟨v8.O (by decide) (by decide) rfl, rfl, fun N9 e9 => ?_⟩)⟩
  have v9 := v8.up (by decide) e9
  refine ⟨by rw [v9.1]; rfl, by rw [v9.1]; decide, fun q10 N10 eq10 e10 => ?_⟩
  rw [v9.1] at eq10
  subst eq10
  have v10 := v9.mk (by decide) e10
  rw [(v10.gv (by decide) (by decide) : ow_gv (E0 A L N) N10 0 0 = _).trans h0, (v10.gv (by decide) (by decide) : ow_gv (E0 A L N) N10 0 15 = _).trans (rfl : _ = (58 : Int))]
  refine ⟨v10.O (by decide) (by decide) rfl, v10.O (by decide) (by decide) rfl, by decide, by decide, iX2 ho v10 hL hN (fun N11 v11 => ⟨v11.O (by decide) (by decide) rfl, rfl, fun N12 e12 => ?_⟩)⟩
  have v12 := v11.up (by decide) e12
  refine ⟨by rw [v12.1]; rfl, by rw [v12.1]; decide, fun q13 N13 eq13 e13 => ?_⟩
  rw [v12.1] at eq13
  subst eq13
  have v13 := v12.mk (by decide) e13
  rw [(v13.gv (by decide) (by decide) : ow_gv (E0 A L N) N13 0 0 = _).trans h0, (v13.gv (by decide) (by decide) : ow_gv (E0 A L N) N13 0 15 = _).trans (rfl : _ = (58 : Int))]
  exact ⟨v13.O (by decide) (by decide) rfl, v13.O (by decide) (by decide) rfl, by decide, by decide, iX1 ho v13 hL hN (fun N14 v14 => ⟨v14.O (by decide) (by decide) rfl, rfl, fun N15 e15 => hK N15 (v14.up (by decide) e15)⟩)⟩
end CL2
