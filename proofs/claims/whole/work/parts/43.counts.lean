/-! ===== the class's ways ===== -/
section CNS
variable {C : ow_C} {A L N : Int} {d : Nat} {M T : ow_M} {K : Int → ow_M → Prop}
theorem em_lg {c : Int} (hc : c = 78 ∨ c = 79) : (0 ≤ c ∧ c < ow_nb (EM A L N) M ∧ ((EM A L N).2.1 c).1 = 101) ∧ ((EM A L N).2.1 c).2 = N * (L + 1) ∧ (∀ i, ow_gv (EM A L N) M c i = M c i) ∧ ∀ i, (EM A L N).1 c i = none := by
  rcases hc with e | e <;> subst e
  · exact ⟨⟨by decide, (show (78 : Int) < 102 by decide), rfl⟩, rfl, fun i => rfl, fun i => rfl⟩
  · exact ⟨⟨by decide, (show (79 : Int) < 102 by decide), rfl⟩, rfl, fun i => rfl, fun i => rfl⟩
theorem em_NL (h : em_ok A L N) : 0 ≤ N * (L + 1) ∧ N * (L + 1) ≤ 2304 := by
  have hN := em_Npos h
  have g := em_bd (a := N) (x := 256) (b := L + 1) (y := 9) (by omega) h.2.2.2.2.2 (by have := h.2.2.1; omega) (by have := h.2.2.2.1; omega)
  omega
theorem tJ7_fillL (h : em_ok A L N) {c v : Int} (hc : c = 78 ∨ c = 79) (hK : ∀ M', ow_off [c] M M' → (∀ i, 0 ≤ i → i < N * (L + 1) → M' c i = v) → K 0 M') : ow_Sp C (EM A L N) d mJ7_fill_d0a16 (0, 0) [(3, c), (1, v)] M K := by
  have hb := em_NL h
  obtain ⟨c1, c2, c3, c4⟩ := em_lg (A := A) (L := L) (N := N) (M := M) hc
  refine eJ7_fill_d0a16 ⟨⟨c1.1, c1.2.1, c1.2.2, by rw [c2]; omega, by rw [c2]; omega⟩, ?_⟩
  rw [c2]
  refine ow_upto (S := ow_M) (P := fun i s => ow_At C (EM A L N) d mJ7_fill_d0a16 6 [(0, (3, c)), (1, (1, v)), (3, (0, i)), (4, (0, N * (L + 1)))] [] (0, 0) s K) (I := fun i s => 0 ≤ i ∧ ow_off [c] M s ∧ ∀ x, 0 ≤ x → x < i → s c x = v) (N * (L + 1)) (fun s hI => ?_) (fun i s i1 hI ih => ?_) 0 M (by omega) ⟨by omega, ow_off.rf, fun x x0 x1 => by omega⟩
  · exact bJ7_fill_d0a16_6 ⟨fun _ => hK s hI.2.1 hI.2.2, fun q => by omega⟩
  · obtain ⟨i0, i2, i3⟩ := hI
    have cs := em_lg (A := A) (L := L) (N := N) (M := s) hc
    refine bJ7_fill_d0a16_6 ⟨fun q => by omega, fun _ => ⟨⟨cs.1.1, cs.1.2.1, cs.1.2.2, i0, by rw [c2]; omega⟩, c4 i, fun N1 e1 => ⟨⟨by omega, by omega⟩, ih N1 ⟨by omega, by rw [e1]; exact i2.up (List.mem_singleton.2 rfl), fun x x0 x1 => ?_⟩⟩⟩⟩
    by_cases e : x = i
    · rw [e, e1, ow_upS]
    · rw [e1, ow_upN (Or.inr e)]; exact i3 x x0 (by omega)
def cn_lo (hand : Int) : Int := if hand = 0 then 0 else 1
def cn_hi (L hand : Int) : Int := if hand = 0 then 0 else L
theorem tX2_addChange (h : em_ok A L N) {u hand w x r : Int} (hu : u = 78 ∨ u = 79) (hu2 : M 77 3 = u) (hw : 0 ≤ w ∧ w < N) (hx : 0 ≤ x ∧ x < 8 * L * A * A) (hr : ∀ b, cn_lo hand ≤ b → b ≤ cn_hi L hand → ow_L (M 63 (x * (L + 1) + b) * r) ∧ ow_L (M u (w * (L + 1) + b) + M 63 (x * (L + 1) + b) * r)) (hK : ∀ M', ow_off [u] M M' → (∀ b, cn_lo hand ≤ b → b ≤ cn_hi L hand → M' u (w * (L + 1) + b) = M u (w * (L + 1) + b) + M 63 (x * (L + 1) + b) * r) → (∀ y, ¬ (w * (L + 1) + cn_lo hand ≤ y ∧ y ≤ w * (L + 1) + cn_hi L hand) → M' u y = M u y) → K 0 M') : ow_Sp C (EM A L N) d mX2_addChange (0, 0) [(3, 77), (0, hand), (0, w), (0, x), (1, r)] M K := by
  have hL := h.2.2.2.1
  have hL3 := h.2.2.1
  have hNL := em_NL h
  have hD := vx_D h
  have hu77 : (77 : Int) ∉ [u] := by rcases hu with e | e <;> subst e <;> decide
  have hu63 : (63 : Int) ∉ [u] := by rcases hu with e | e <;> subst e <;> decide
  have rg : 0 ≤ cn_lo hand ∧ cn_lo hand ≤ cn_hi L hand ∧ cn_hi L hand ≤ L := by
    unfold cn_lo cn_hi
    split <;> omega
  have loop : ow_At C (EM A L N) d mX2_addChange 32 [(0, (3, 77)), (2, (0, w)), (3, (0, x)), (4, (1, r)), (7, (0, cn_hi L hand)), (8, (0, cn_lo hand))] [] (0, 0) M K := by
    refine ow_upto (S := ow_M) (P := fun b s => ow_At C (EM A L N) d mX2_addChange 32 [(0, (3, 77)), (2, (0, w)), (3, (0, x)), (4, (1, r)), (7, (0, cn_hi L hand)), (8, (0, b))] [] (0, 0) s K) (I := fun b s => cn_lo hand ≤ b ∧ ow_off [u] M s ∧ (∀ k, cn_lo hand ≤ k → k < b → s u (w * (L + 1) + k) = M u (w * (L + 1) + k) + M 63 (x * (L + 1) + k) * r) ∧ ∀ y, ¬ (w * (L + 1) + cn_lo hand ≤ y ∧ y < w * (L + 1) + b) → s u y = M u y) (cn_hi L hand + 1) (fun s hI => ?_) (fun b s b1 hI ih => ?_) (cn_lo hand) M (by omega) ⟨by omega, ow_off.rf, fun k k0 k1 => by omega, fun y _ => rfl⟩
    · obtain ⟨_, i2, i3, i4⟩ := hI
      exact cX2_addChange_32 ⟨fun _ => hK s i2 (fun b b0 b1 => i3 b b0 (by omega)) (fun y hy => i4 y (by omega)), fun q => by omega⟩
    · obtain ⟨b0, i2, i3, i4⟩ := hI
      obtain ⟨a1, a2, _, _⟩ := vx_b (a := w) (X := N) (b := b) (Y := L + 1) hw ⟨by omega, by omega⟩
      obtain ⟨a3, a4, _, _⟩ := vx_b (a := x) (X := 8 * L * A * A) (b := b) (Y := L + 1) hx ⟨by omega, by omega⟩
      have a5 := em_bd (a := x) (x := 1600) (b := L + 1) (y := 9) hx.1 (by omega) (by omega) (by omega)
      have a6 := em_bd (a := w) (x := 256) (b := L + 1) (y := 9) hw.1 (by have := h.2.2.2.2.2; omega) (by omega) (by omega)
      have e77 : s 77 3 = u := by rw [i2 77 hu77]; exact hu2
      have e63 : s 63 (x * (L + 1) + b) = M 63 (x * (L + 1) + b) := i2 63 hu63 _
      have eu : s u (w * (L + 1) + b) = M u (w * (L + 1) + b) := i4 _ (by omega)
      obtain ⟨cs1, cs2, cs3, cs4⟩ := em_lg (A := A) (L := L) (N := N) (M := s) hu
      obtain ⟨r1, r2⟩ := hr b b0 (by omega)
      have R1 : ow_R (EM A L N) s u 101 (w * (L + 1) + b) := ⟨cs1.1, cs1.2.1, cs1.2.2, a1, by rw [cs2]; exact a2⟩
      refine cX2_addChange_32 ⟨fun q => by omega, fun _ => ?_⟩
      rw [e77, cs3, e63, eu]
      refine ⟨⟨by omega, by omega⟩, ⟨by omega, by omega⟩, R1, ⟨by omega, by omega⟩, ⟨by omega, by omega⟩, ⟨a3, a4⟩, r1, r2, R1, cs4 _, fun N1 e1 => ⟨⟨by omega, by omega⟩, ih N1 ⟨by omega, by rw [e1]; exact i2.up (List.mem_singleton.2 rfl), fun k k0 k1 => ?_, fun y hy => ?_⟩⟩⟩
      · by_cases e : k = b
        · rw [e, e1, ow_upS]
        · rw [e1, ow_upN (Or.inr (by omega))]; exact i3 k k0 (by omega)
      · rw [e1, ow_upN (Or.inr (by omega))]; exact i4 y (by omega)
  refine fX2_addChange ⟨fun q => cX2_addChange_9 ⟨fun _ => ?_, fun z => absurd z q⟩, fun q => cX2_addChange_9 ⟨fun z => absurd q z, fun _ => ?_⟩⟩
  · unfold cn_lo cn_hi at loop
    rw [if_neg q, if_neg q] at loop
    exact loop
  · unfold cn_lo cn_hi at loop
    rw [if_pos q, if_pos q] at loop
    exact loop
end CNS
