/-! ===== the class's constructor, whole ===== -/
section CL4
variable {C : ow_C} {A L N : Int} {d : Nat} {M : ow_M} {K : Int → ow_M → Prop} {f : ow_M}
def fX11 (A L N : Int) (f : ow_M) : ow_M := fCl A L (fTx 40 3 (fTx 34 2 (fTx 28 1 (fTx 22 0 (fCc A L N f)))))
theorem iX11 {a l : Int} (ho : em_ok A L N) (eA : max 2 (min 5 a) = A) (eL : lnF A 8 (max 2 (min 8 l)) = L) (h : vm 1 f M) (hK : ∀ M', vm 83 (fX11 A L N f) M' → K 0 M') : ow_Sp C (E0 A L N) (d + 3) mX11_init (82, 21863) [(3, 0), (0, a), (0, l)] M K := by
  refine ow_enter (by decide +kernel) rfl rfl (iCa (bc := 24) (bs := 1644) ho eA eL h (fun M1 v1 => ?_))
  refine iTx (d := d + 1) (bc := 24) (bs := 1644) v1 (by decide) (by decide) ⟨by decide, by decide⟩ rfl rfl rfl rfl rfl rfl rfl (fun M2 v2 => ?_)
  refine iTx (d := d + 1) (bc := 18) (bs := 1233) v2 (by decide) (by decide) ⟨by decide, by decide⟩ rfl rfl rfl rfl rfl rfl rfl (fun M3 v3 => ?_)
  refine iTx (d := d + 1) (bc := 12) (bs := 822) v3 (by decide) (by decide) ⟨by decide, by decide⟩ rfl rfl rfl rfl rfl rfl rfl (fun M4 v4 => ?_)
  refine iTx (d := d + 1) (bc := 6) (bs := 411) v4 (by decide) (by decide) ⟨by decide, by decide⟩ rfl rfl rfl rfl rfl rfl rfl (fun M5 v5 => ?_)
  exact iCl ho v5 rfl rfl rfl rfl hK
end CL4
