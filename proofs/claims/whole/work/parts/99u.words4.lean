/-! ===== the words' constructor, whole ===== -/
section WD4
variable {C : ow_C} {A L N : Int} {d : Nat} {M : ow_M} {K : Int → ow_M → Prop} {f : ow_M}
theorem iX10_108 (ho : em_ok A L N) (h : vm 6 (fWc A L N f) M) (hK : ∀ M', vm 6 (fWd A L N f (fun i => 0 ≤ i ∧ i < N * L)) M' → K 0 M') : ow_At C (E0 A L N) (d + 1) mX10_init 108 [(0, (3, 3)), (3, (0, 0))] [] (0 + 0, 0 + 0) M K := by
  have b := em_NLb ho
  refine ow_upto (S := ow_M) (P := fun w s => ow_At C (E0 A L N) (d + 1) mX10_init 108 [(0, (3, 3)), (3, (0, w))] [] (0 + 0, 0 + 0) s K) (I := fun w s => 0 ≤ w ∧ vm 6 (fWd A L N f (fun i => 0 ≤ i ∧ i < w * L)) s) N (fun s hI => ?_) (fun w s w1 hI ih => ?_) 0 M (by omega) ⟨Int.le_refl 0, h.1, fun c i c0 c1 => ?_⟩
  · obtain ⟨_, v⟩ := hI
    have g2 : ow_gv (E0 A L N) s 3 2 = N := (v.gv (by decide) (by decide)).trans rfl
    refine bX10_init_108 ?_
    rw [g2]
    exact ⟨v.O (by decide) (by decide) rfl, fun _ => hK s v, fun z => by omega⟩
  · obtain ⟨w0, v⟩ := hI
    have g2 : ow_gv (E0 A L N) s 3 2 = N := (v.gv (by decide) (by decide)).trans rfl
    have g1 : ow_gv (E0 A L N) s 3 1 = L := (v.gv (by decide) (by decide)).trans rfl
    refine bX10_init_108 ?_
    rw [g1, g2]
    refine ⟨v.O (by decide) (by decide) rfl, fun z => by omega, fun _ => ⟨v.O (by decide) (by decide) rfl, ⟨by omega, by omega⟩, ?_⟩⟩
    refine iX10_127 (f := f) ho ⟨w0, w1⟩ (fun M' v' => ih M' ⟨by omega, v'⟩) L.toNat (L - 1) w s (by omega) (by omega) ?_ (v.cg (fun c i c0 c1 => ?_))
    · rw [show L - 1 - (L - 1) = 0 by omega, em_pw0, Int.ediv_one]
    · unfold fWd
      by_cases z : c = 5 ∧ 0 ≤ i ∧ i < w * L
      · rw [if_pos z, if_pos (by omega)]
      · rw [if_neg z, if_neg (by omega)]
  · unfold fWd
    rw [if_neg (by rw [Int.zero_mul]; omega)]
    exact h.2 c i c0 c1
theorem iX10 {a l : Int} (ho : em_ok A L N) (eA : max 2 (min 5 a) = A) (eL : lnF A 8 (max 2 (min 8 l)) = L) (h : vm 4 f M) (hK : ∀ M', vm 6 (fWd A L N f (fun i => 0 ≤ i ∧ i < N * L)) M' → K 0 M') : ow_Sp C (E0 A L N) (d + 2) mX10_init (2, 2056) [(3, 3), (0, a), (0, l)] M K := by
  have b := em_NLb ho
  have hA := ho.1
  have hA5 := ho.2.1
  refine eX10_init rfl (fun _ _ => rfl) ?_
  rw [eA]
  refine ⟨by decide, by decide, h.O (by decide) (by decide) rfl, rfl, fun N1 e1 => ?_⟩
  have v1 := h.up (by decide) e1
  have g1 : ow_gv (E0 A L N) N1 3 0 = A := (v1.gv (by decide) (by decide)).trans rfl
  rw [g1]
  refine ⟨v1.O (by decide) (by decide) rfl, tX10_lengthFor ⟨hA, hA5⟩ ?_⟩
  rw [eL]
  refine ⟨v1.O (by decide) (by decide) rfl, rfl, fun N3 e3 => ?_⟩
  have v3 := v1.up (by decide) e3
  have g3 : ow_gv (E0 A L N) N3 3 0 = A := (v3.gv (by decide) (by decide)).trans rfl
  have g4 : ow_gv (E0 A L N) N3 3 1 = L := (v3.gv (by decide) (by decide)).trans rfl
  rw [g3, g4]
  have hN := ho.2.2.2.2.1
  refine ⟨v3.O (by decide) (by decide) rfl, v3.O (by decide) (by decide) rfl, tX10_raised (by omega) (by omega) (by rw [← hN]; omega) ⟨v3.O (by decide) (by decide) rfl, rfl, fun N5 e5 => ?_⟩⟩
  rw [← hN] at e5
  have v5 := v3.up (by decide) e5
  have g5 : ow_gv (E0 A L N) N5 3 1 = L := (v5.gv (by decide) (by decide)).trans rfl
  rw [g5]
  refine ⟨v5.O (by decide) (by decide) rfl, by rw [v5.1]; rfl, by rw [v5.1]; decide, by omega, by omega, fun q6 N6 eq6 e6 => ?_⟩
  rw [v5.1] at eq6
  subst eq6
  have v6 := v5.mk (by decide) e6
  exact ⟨v6.O (by decide) (by decide) rfl, rfl, fun N7 e7 => iX10_56 (f := f) ho (v6.up (by decide) e7) (fun M' v' => iX10_108 ho v' hK)⟩
end WD4
