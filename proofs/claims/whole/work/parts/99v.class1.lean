/-! ===== the class's constructor: its texts ===== -/
section CL1
variable {C : ow_C} {A L N : Int} {d : Nat} {M : ow_M} {K : Int → ow_M → Prop} {f : ow_M}
def fTx (n k : Int) (f : ow_M) : ow_M := ow_up (fX7 (n + 1) n (fm n (ow_df 7) f)) 2 k n
/-- one text more -/
theorem iTx {n k : Int} {bc bs : Nat} (h : vm n f M) (n2 : 2 < n) (n9 : n < 600) (hk : 0 ≤ k ∧ k < 4) (h7 : f 0 7 = 2) (k0 : (EM A L N).2.1 n = (7, 15)) (k1 : (EM A L N).2.1 (n + 1) = (100, 300)) (k2 : (EM A L N).2.1 (n + 1 + 1) = (100, 24)) (k3 : (EM A L N).2.1 (n + 1 + 1 + 1) = (100, 24)) (k4 : (EM A L N).2.1 (n + 1 + 1 + 1 + 1) = (100, 24)) (k5 : (EM A L N).2.1 (n + 1 + 1 + 1 + 1 + 1) = (100, 24)) (hK : ∀ M', vm (n + 1 + 1 + 1 + 1 + 1 + 1) (fTx n k f) M' → ow_At C (E0 A L N) (d + 2) mX11_init 123 [(0, (3, 0)), (3, (0, k + 1))] [] (bc + 31, bs + 16511) M' K) : ow_At C (E0 A L N) (d + 2) mX11_init 123 [(0, (3, 0)), (3, (0, k))] [] (bc + 37, bs + 16922) M K := by
  have g7 : ow_gv (E0 A L N) M 0 7 = 2 := (h.gv (by decide) (by omega)).trans h7
  refine bX11_init_123 rfl (fun _ _ => rfl) ⟨fun z => by omega, fun _ => ?_⟩
  rw [g7]
  refine ⟨h.O (by decide) (by omega) rfl, by rw [h.1]; exact k0, by rw [h.1]; omega, fun q1 N1 eq1 e1 => ?_⟩
  rw [h.1] at eq1
  have eq1' := eq1.symm
  subst eq1'
  have v1 := h.mk (by omega) e1
  refine ⟨by omega, by omega, iX7 v1 ⟨by omega, by omega⟩ (by omega) k0 k1 k2 k3 k4 k5 (fun N2 v2 => ?_)⟩
  exact ⟨v2.R (by decide) (by omega) rfl hk.1 hk.2, rfl, v2.O (by omega) (by omega) k0, fun N3 e3 => ⟨⟨by omega, by omega⟩, hK N3 (v2.up (by decide) e3)⟩⟩
end CL1
