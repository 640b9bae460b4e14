/-! ===== the fewest who broke the vow, by the class ===== -/
section BC1
variable {C : ow_C} {A L N : Int} {d : Nat} {M T : ow_M} {K : Int → ow_M → Prop}
theorem em_ci {c : Int} (hc : c = 81 ∨ c = 82) : (0 ≤ c ∧ c < ow_nb (EM A L N) M ∧ ((EM A L N).2.1 c).1 = 100) ∧ ((EM A L N).2.1 c).2 = N * (L + 1) ∧ (∀ i, ow_gv (EM A L N) M c i = M c i) ∧ ∀ i, (EM A L N).1 c i = none := by
  rcases hc with e | e <;> subst e
  · exact ⟨⟨by decide, (show (81 : Int) < 102 by decide), rfl⟩, rfl, fun i => rfl, fun i => rfl⟩
  · exact ⟨⟨by decide, (show (82 : Int) < 102 by decide), rfl⟩, rfl, fun i => rfl, fun i => rfl⟩
def cc_C (M : ow_M) : Prop := (M 80 3 = 81 ∧ M 80 4 = 82) ∨ (M 80 3 = 82 ∧ M 80 4 = 81)
def cb (L N : Int) (M : ow_M) (u : Int) (f : Int → Int → Int) : Prop := ∀ w b, 0 ≤ w → w < N → 0 ≤ b → b ≤ L → M u (w * (L + 1) + b) = f w b
theorem cb_ix (h : em_ok A L N) {i : Int} (h0 : 0 ≤ i) (h1 : i < N * (L + 1)) : (0 ≤ i / (L + 1) ∧ i / (L + 1) < N) ∧ (0 ≤ i % (L + 1) ∧ i % (L + 1) ≤ L) ∧ i / (L + 1) * (L + 1) + i % (L + 1) = i := by
  have hL := h.2.2.1
  have e := Int.mul_ediv_add_emod i (L + 1)
  have e1 := Int.emod_nonneg i (show L + 1 ≠ 0 by omega)
  have e2 := Int.emod_lt_of_pos i (show 0 < L + 1 by omega)
  refine ⟨⟨Int.ediv_nonneg h0 (by omega), Int.ediv_lt_of_lt_mul (by omega) h1⟩, ⟨e1, by omega⟩, ?_⟩
  rw [Int.mul_comm]
  exact e
theorem cb_lt (h : em_ok A L N) {u : Int} {f : Int → Int → Int} (hc : cb L N M u f) : ow_mn (M u) (N * (L + 1)) = bs_lt L N f := by
  have hL := h.2.2.1
  have hNL := em_NL h
  refine ow_le_eq (fun t => ?_)
  rw [ow_mn_le (by omega), bs_lt_le h]
  refine ⟨fun q => ?_, fun q => ?_⟩
  · rcases q with q | ⟨i, i0, i1, q⟩
    · exact Or.inl q
    · obtain ⟨a1, a2, a3⟩ := cb_ix h i0 i1
      refine Or.inr ⟨i / (L + 1), i % (L + 1), a1, a2, ?_⟩
      rw [← hc _ _ a1.1 a1.2 a2.1 a2.2, a3]
      exact q
  · rcases q with q | ⟨w, b, hw, hb, q⟩
    · exact Or.inl q
    · have r := vx_b (a := w) (X := N) (b := b) (Y := L + 1) hw ⟨hb.1, by omega⟩
      exact Or.inr ⟨w * (L + 1) + b, r.1, r.2.1, by rw [hc w b hw.1 hw.2 hb.1 hb.2]; exact q⟩
theorem tX1_leastCost (h : em_ok A L N) {u : Int} (hu : u = 81 ∨ u = 82) (hu2 : M 80 3 = u) (hK : K (ow_mn (M u) (N * (L + 1))) M) : ow_Sp C (EM A L N) (d + 1) mX1_leastCost (0, 0) [(3, 80)] M K := by
  have hNL := em_NL h
  obtain ⟨c1, c2, c3, c4⟩ := em_ci (A := A) (L := L) (N := N) (M := M) hu
  refine fX1_leastCost ?_
  refine ow_upto (S := Int) (P := fun i s => ow_At C (EM A L N) (d + 1) mX1_leastCost 5 [(0, (3, 80)), (1, (0, s)), (2, (0, i))] [] (0, 0) M K) (I := fun i s => 0 ≤ i ∧ s = ow_mn (M u) i) (N * (L + 1)) (fun s hI => ?_) (fun i s i1 hI ih => ?_) 0 1048576 (by omega) ⟨by omega, rfl⟩
  · refine cX1_leastCost_5 ?_
    rw [hu2, c2]
    refine ⟨⟨c1.1, c1.2.1, c1.2.2, by omega, by omega⟩, fun _ => by rw [hI.2]; exact hK, fun q => by omega⟩
  · obtain ⟨i0, i2⟩ := hI
    refine cX1_leastCost_5 ?_
    rw [hu2, c2, c3]
    refine ⟨⟨c1.1, c1.2.1, c1.2.2, by omega, by omega⟩, fun q => by omega, fun _ => ⟨⟨c1.1, c1.2.1, c1.2.2, i0, by rw [c2]; exact i1⟩, ⟨by omega, by omega⟩, ih _ ⟨by omega, ?_⟩⟩⟩
    rw [ow_mnS i0, i2]
theorem tX1_keepOnly (h : em_ok A L N) {u kn : Int} {f : Int → Int → Int} (hu : u = 81 ∨ u = 82) (hu2 : M 80 3 = u) (hk : -1 ≤ kn ∧ kn < N) (hc : cb L N M u f) (hK : ∀ M', ow_off [u] M M' → cb L N M' u (fun w b => if kn = -1 ∨ w = kn then f w b else 1048576) → K 0 M') : ow_Sp C (EM A L N) d mX1_keepOnly (0, 0) [(3, 80), (0, kn)] M K := by
  have hNL := em_NL h
  have hL := h.2.2.1
  have hL8 := h.2.2.2.1
  have hN2 := h.2.2.2.2.2
  have u80 : (80 : Int) ∉ [u] := by rcases hu with e | e <;> subst e <;> decide
  refine fX1_keepOnly ⟨fun q => ?_, fun q => hK M ow_off.rf (fun w b w0 w1 b0 b1 => by show _ = if kn = -1 ∨ w = kn then f w b else 1048576; rw [if_pos (Or.inl q)]; exact hc w b w0 w1 b0 b1)⟩
  have a6 := em_bd (a := kn) (x := 256) (b := L + 1) (y := 9) (by omega) (by omega) (by omega) (by omega)
  refine ⟨⟨by omega, by omega⟩, ?_⟩
  refine ow_upto (S := ow_M) (P := fun i s => ow_At C (EM A L N) d mX1_keepOnly 15 [(0, (3, 80)), (2, (0, kn * (L + 1))), (3, (0, i))] [] (0, 0) s K) (I := fun i s => 0 ≤ i ∧ ow_off [u] M s ∧ ∀ y, 0 ≤ y → y < N * (L + 1) → s u y = if y < i ∧ ¬ (kn * (L + 1) ≤ y ∧ y < kn * (L + 1) + (L + 1)) then 1048576 else M u y) (N * (L + 1)) (fun s hI => ?_) (fun i s i1 hI ih => ?_) 0 M (by omega) ⟨by omega, ow_off.rf, fun y y0 y1 => by rw [if_neg (fun z => by omega)]⟩
  · obtain ⟨_, i2, i3⟩ := hI
    obtain ⟨c1, c2, c3, c4⟩ := em_ci (A := A) (L := L) (N := N) (M := s) hu
    have s3 : s 80 3 = u := by rw [i2 80 u80]; exact hu2
    refine cX1_keepOnly_15 ?_
    rw [s3, c2]
    refine ⟨⟨c1.1, c1.2.1, c1.2.2, by omega, by omega⟩, fun _ => hK s i2 (fun w b w0 w1 b0 b1 => ?_), fun q => by omega⟩
    have r := vx_b (a := w) (X := N) (b := b) (Y := L + 1) ⟨w0, w1⟩ ⟨b0, by omega⟩
    rw [i3 _ r.1 r.2.1, hc w b w0 w1 b0 b1]
    show _ = if kn = -1 ∨ w = kn then f w b else 1048576
    by_cases e : w = kn
    · rw [if_pos (show kn = -1 ∨ w = kn from Or.inr e), if_neg (fun z => z.2 (by rw [e]; omega))]
    · rw [if_neg (show ¬ (kn = -1 ∨ w = kn) from fun z => by rcases z with z | z; exact q z; exact e z)]
      refine if_pos ⟨r.2.1, fun z => ?_⟩
      by_cases e2 : w < kn
      · have := vw_63 (L := L) (x := kn) (y := w) (k := b) (by omega) e2 ⟨b0, b1⟩
        omega
      · have := vw_63 (L := L) (x := w) (y := kn) (k := L) (by omega) (by omega) ⟨by omega, by omega⟩
        omega
  · obtain ⟨i0, i2, i3⟩ := hI
    obtain ⟨c1, c2, c3, c4⟩ := em_ci (A := A) (L := L) (N := N) (M := s) hu
    have s3 : s 80 3 = u := by rw [i2 80 u80]; exact hu2
    have ot : ¬ (kn * (L + 1) ≤ i ∧ i < kn * (L + 1) + (L + 1)) → ow_At C (EM A L N) d mX1_keepOnly 39 [(0, (3, 80)), (2, (0, kn * (L + 1))), (3, (0, i))] [] (0, 0) s K := by
      intro hne
      refine cX1_keepOnly_39 ?_
      rw [s3]
      refine ⟨⟨c1.1, c1.2.1, c1.2.2, i0, by rw [c2]; exact i1⟩, c4 _, fun N1 e1 => ⟨⟨by omega, by omega⟩, ih N1 ⟨by omega, by rw [e1]; exact i2.up (List.mem_singleton.2 rfl), fun y y0 y1 => ?_⟩⟩⟩
      by_cases e : y = i
      · rw [e, e1, ow_upS, if_pos ⟨by omega, hne⟩]
      · rw [e1, ow_upN (Or.inr e), i3 y y0 y1]
        have e2 : (y < i ∧ ¬ (kn * (L + 1) ≤ y ∧ y < kn * (L + 1) + (L + 1))) = (y < i + 1 ∧ ¬ (kn * (L + 1) ≤ y ∧ y < kn * (L + 1) + (L + 1))) := propext ⟨fun z => ⟨by omega, z.2⟩, fun z => ⟨by omega, z.2⟩⟩
        simp only [e2]
    refine cX1_keepOnly_15 ?_
    rw [s3, c2]
    refine ⟨⟨c1.1, c1.2.1, c1.2.2, by omega, by omega⟩, fun q => by omega, fun _ => ⟨fun z => ot (by omega), fun z => ⟨⟨by omega, by omega⟩, fun z2 => ⟨⟨by omega, by omega⟩, ih s ⟨by omega, i2, fun y y0 y1 => ?_⟩⟩, fun z2 => ot (by omega)⟩⟩⟩
    rw [i3 y y0 y1]
    have e2 : (y < i ∧ ¬ (kn * (L + 1) ≤ y ∧ y < kn * (L + 1) + (L + 1))) = (y < i + 1 ∧ ¬ (kn * (L + 1) ≤ y ∧ y < kn * (L + 1) + (L + 1))) := propext ⟨fun z => ⟨by omega, z.2⟩, fun z => ⟨by omega, z.2⟩⟩
    simp only [e2]
theorem tX1_bestBehind (h : em_ok A L N) {v w : Int} {f : Int → Int → Int} (hv : v = 81 ∨ v = 82) (hv2 : M 80 4 = v) (hw : 0 ≤ w ∧ w < N) (hf : cb L N M v f) (hK : ∀ r, 0 ≤ r → r ≤ L → (∀ b, 0 ≤ b → b ≤ L → f w r ≤ f w b) → K r M) : ow_Sp C (EM A L N) d mX1_bestBehind (0, 0) [(3, 80), (0, w)] M K := by
  have hNL := em_NL h
  have hL := h.2.2.1
  have hL8 := h.2.2.2.1
  have hN2 := h.2.2.2.2.2
  obtain ⟨c1, c2, c3, c4⟩ := em_ci (A := A) (L := L) (N := N) (M := M) hv
  have a6 := em_bd (a := w) (x := 256) (b := L + 1) (y := 9) hw.1 (by omega) (by omega) (by omega)
  refine fX1_bestBehind ?_
  refine ow_upto (S := Int) (P := fun i s => ow_At C (EM A L N) d mX1_bestBehind 4 [(0, (3, 80)), (1, (0, w)), (2, (0, s)), (3, (0, i))] [] (0, 0) M K) (I := fun i s => 1 ≤ i ∧ (0 ≤ s ∧ s < i) ∧ ∀ b, 0 ≤ b → b < i → f w s ≤ f w b) (L + 1) (fun s hI => ?_) (fun i s i1 hI ih => ?_) 1 0 (by omega) ⟨by omega, ⟨by omega, by omega⟩, fun b b0 b1 => by rw [show b = 0 by omega]; exact Int.le_refl _⟩
  · exact cX1_bestBehind_4 ⟨fun _ => hK s hI.2.1.1 (by have := hI.2.1.2; omega) (fun b b0 b1 => hI.2.2 b b0 (by omega)), fun q => by omega⟩
  · obtain ⟨i0, i2, i3⟩ := hI
    have r1 := vx_b (a := w) (X := N) (b := i) (Y := L + 1) hw ⟨by omega, by omega⟩
    have r2 := vx_b (a := w) (X := N) (b := s) (Y := L + 1) hw ⟨by omega, by omega⟩
    refine cX1_bestBehind_4 ⟨fun q => by omega, fun _ => ?_⟩
    rw [hv2, c3, c3, hf w i hw.1 hw.2 (by omega) (by omega), hf w s hw.1 hw.2 i2.1 (by omega)]
    refine ⟨⟨by omega, by omega⟩, ⟨by omega, by omega⟩, ⟨c1.1, c1.2.1, c1.2.2, r1.1, by rw [c2]; exact r1.2.1⟩, ⟨by omega, by omega⟩, ⟨c1.1, c1.2.1, c1.2.2, r2.1, by rw [c2]; exact r2.2.1⟩, fun q => ⟨⟨by omega, by omega⟩, ih s ⟨by omega, by omega, fun b b0 b1 => ?_⟩⟩, fun q => ⟨⟨by omega, by omega⟩, ih i ⟨by omega, by omega, fun b b0 b1 => ?_⟩⟩⟩
    · by_cases e : b = i
      · rw [e]; exact q
      · exact i3 b b0 (by omega)
    · by_cases e : b = i
      · rw [e]; exact Int.le_refl _
      · have := i3 b b0 (by omega); omega
theorem tX1_leastBehind (h : em_ok A L N) {v w o : Int} {f : Int → Int → Int} (hv : v = 81 ∨ v = 82) (hv2 : M 80 4 = v) (hw : 0 ≤ w ∧ w < N) (hf : cb L N M v f) (hK : ∀ r, (∀ t, r ≤ t ↔ 1048576 ≤ t ∨ ∃ b, (0 ≤ b ∧ b ≤ L) ∧ ow_bt o b = true ∧ f w b ≤ t) → K r M) : ow_Sp C (EM A L N) (d + 1) mX1_leastBehind (0, 0) [(3, 80), (0, w), (0, o)] M K := by
  have hNL := em_NL h
  have hL := h.2.2.1
  have hL8 := h.2.2.2.1
  have hN2 := h.2.2.2.2.2
  obtain ⟨c1, c2, c3, c4⟩ := em_ci (A := A) (L := L) (N := N) (M := M) hv
  have a6 := em_bd (a := w) (x := 256) (b := L + 1) (y := 9) hw.1 (by omega) (by omega) (by omega)
  refine fX1_leastBehind ?_
  refine ow_upto (S := Int) (P := fun i s => ow_At C (EM A L N) (d + 1) mX1_leastBehind 6 [(0, (3, 80)), (1, (0, w)), (2, (0, o)), (3, (0, s)), (4, (0, i))] [] (0, 0) M K) (I := fun i s => 0 ≤ i ∧ ∀ t, s ≤ t ↔ 1048576 ≤ t ∨ ∃ b, (0 ≤ b ∧ b < i) ∧ ow_bt o b = true ∧ f w b ≤ t) (L + 1) (fun s hI => ?_) (fun i s i1 hI ih => ?_) 0 1048576 (by omega) ⟨by omega, fun t => ⟨fun q => Or.inl q, fun q => by rcases q with q | ⟨b, hb, _⟩; exact q; omega⟩⟩
  · refine cX1_leastBehind_6 ⟨fun _ => hK s (fun t => ?_), fun q => by omega⟩
    rw [hI.2 t]
    exact ⟨fun q => by rcases q with q | ⟨b, hb, q⟩; exact Or.inl q; exact Or.inr ⟨b, ⟨hb.1, by omega⟩, q⟩, fun q => by rcases q with q | ⟨b, hb, q⟩; exact Or.inl q; exact Or.inr ⟨b, ⟨hb.1, by omega⟩, q⟩⟩
  · obtain ⟨i0, i2⟩ := hI
    have r1 := vx_b (a := w) (X := N) (b := i) (Y := L + 1) hw ⟨by omega, by omega⟩
    refine cX1_leastBehind_6 ⟨fun q => by omega, fun _ => ?_⟩
    rw [ow_bit ⟨i0, by omega⟩, hv2, c3, hf w i hw.1 hw.2 i0 (by omega)]
    cases hb : ow_bt o i with
    | false =>
      rw [if_neg (by decide)]
      refine ⟨fun _ => ⟨⟨by omega, by omega⟩, ih s ⟨by omega, fun t => ?_⟩⟩, fun z => absurd rfl z⟩
      rw [i2 t]
      refine ⟨fun q => by rcases q with q | ⟨b, h1, q⟩; exact Or.inl q; exact Or.inr ⟨b, ⟨h1.1, by omega⟩, q⟩, fun q => ?_⟩
      rcases q with q | ⟨b, h1, h2, q⟩
      · exact Or.inl q
      · by_cases e : b = i
        · rw [e, hb] at h2; exact absurd h2 (by decide)
        · exact Or.inr ⟨b, ⟨h1.1, by omega⟩, h2, q⟩
    | true =>
      rw [if_pos rfl]
      refine ⟨fun z => absurd z (by decide), fun _ => ⟨⟨by omega, by omega⟩, ⟨by omega, by omega⟩, ⟨c1.1, c1.2.1, c1.2.2, r1.1, by rw [c2]; exact r1.2.1⟩, ⟨by omega, by omega⟩, ih _ ⟨by omega, fun t => ?_⟩⟩⟩
      have e : min s (f w i) ≤ t ↔ s ≤ t ∨ f w i ≤ t := by omega
      rw [e, i2 t]
      refine ⟨fun q => ?_, fun q => ?_⟩
      · rcases q with (q | ⟨b, h1, q⟩) | q
        · exact Or.inl q
        · exact Or.inr ⟨b, ⟨h1.1, by omega⟩, q⟩
        · exact Or.inr ⟨i, ⟨i0, by omega⟩, hb, q⟩
      · rcases q with q | ⟨b, h1, h2, q⟩
        · exact Or.inl (Or.inl q)
        · by_cases e : b = i
          · rw [e] at q; exact Or.inr q
          · exact Or.inl (Or.inr ⟨b, ⟨h1.1, by omega⟩, h2, q⟩)
/-- what one word brings -/
def pw_e (A L : Int) (T : ow_M) (f : Int → Int → Int) (hand w Z w' b' t : Int) : Prop := ∃ b z, (0 ≤ b ∧ b ≤ L) ∧ (0 ≤ z ∧ z < Z) ∧ 0 < cw A L T hand w b z ∧ em_ch A L w (z / A) (z % A) = w' ∧ z / A + 1 = b' ∧ f w b ≤ t
theorem tX1_passWord (h : em_ok A L N) {n : Int} (hn : n ≤ 8) (hT : vw_T A L T M (vx A L n 0 0 0)) {u v hand w : Int} {f : Int → Int → Int} (hu : (u = 81 ∧ v = 82) ∨ (u = 82 ∧ v = 81)) (hu2 : M 80 3 = u) (hv2 : M 80 4 = v) (hh : 0 ≤ hand ∧ hand < n) (hw : 0 ≤ w ∧ w < N) (hf : cb L N M v f) (hle : ∀ y, 0 ≤ y → y < N * (L + 1) → M u y ≤ 1048576) (hK : ∀ M', ow_off [u] M M' → (∀ y, 0 ≤ y → y < N * (L + 1) → M' u y ≤ 1048576) → (∀ w' b', 0 ≤ w' → w' < N → 0 ≤ b' → b' ≤ L → ∀ t, M' u (w' * (L + 1) + b') ≤ t ↔ M u (w' * (L + 1) + b') ≤ t ∨ pw_e A L T f hand w (L * A) w' b' t) → K 0 M') : ow_Sp C (EM A L N) (d + 2) mX1_passWord (0, 0) [(3, 80), (0, hand), (0, w)] M K := by
  have hL := h.2.2.2.1
  have hL3 := h.2.2.1
  have hA := h.2.1
  have hA1 := h.1
  have hN2 := h.2.2.2.2.2
  have hNL := em_NL h
  have hD := vx_D h
  have hu0 : u = 81 ∨ u = 82 := by rcases hu with e | e <;> simp [e.1]
  have hv0 : v = 81 ∨ v = 82 := by rcases hu with e | e <;> simp [e.2]
  have u80 : (80 : Int) ∉ [u] := by rcases hu0 with e | e <;> subst e <;> decide
  have u62 : (62 : Int) ∉ [u] := by rcases hu0 with e | e <;> subst e <;> decide
  have uv : v ∉ [u] := by rcases hu with e | e <;> rw [e.1, e.2] <;> decide
  obtain ⟨v1, v2, v3, v4⟩ := em_ci (A := A) (L := L) (N := N) (M := M) hv0
  have a5 := em_bd (a := w) (x := 256) (b := L + 1) (y := 9) hw.1 (by omega) (by omega) (by omega)
  refine fX1_passWord (tX1_bestBehind h hv0 hv2 hw hf (fun best q0 q1 q2 => ?_))
  have r0 := vx_b (a := w) (X := N) (b := best) (Y := L + 1) hw ⟨q0, by omega⟩
  rw [hv2, v3, hf w best hw.1 hw.2 q0 q1]
  refine ⟨⟨by omega, by omega⟩, ⟨by omega, by omega⟩, ⟨v1.1, v1.2.1, v1.2.2, r0.1, by rw [v2]; exact r0.2.1⟩, fun hb => ?_, fun hb => hK M ow_off.rf hle (fun w' b' w0 w1 b0 b1 t => ⟨fun y => Or.inl y, fun y => ?_⟩)⟩
  · refine ow_upto (S := ow_M) (P := fun p s => ow_At C (EM A L N) (d + 2) mX1_passWord 32 [(0, (3, 80)), (1, (0, hand)), (2, (0, w)), (3, (0, best)), (4, (0, f w best)), (5, (0, p))] [] (0, 0) s K) (I := fun p s => 0 ≤ p ∧ ow_off [u] M s ∧ (∀ y, 0 ≤ y → y < N * (L + 1) → s u y ≤ 1048576) ∧ ∀ w' b', 0 ≤ w' → w' < N → 0 ≤ b' → b' ≤ L → ∀ t, s u (w' * (L + 1) + b') ≤ t ↔ M u (w' * (L + 1) + b') ≤ t ∨ pw_e A L T f hand w (p * A) w' b' t) L (fun s hI => ?_) (fun p s p1 hI ih => ?_) 0 M (by omega) ⟨by omega, ow_off.rf, hle, fun w' b' w0 w1 b0 b1 t => ⟨fun y => Or.inl y, fun y => ?_⟩⟩
    · obtain ⟨_, i2, i3, i4⟩ := hI
      exact cX1_passWord_32 ⟨fun _ => hK s i2 i3 i4, fun q => by omega⟩
    · obtain ⟨p0, i2, i3, i4⟩ := hI
      have hdg := em_dg_rg h w p
      have hP := em_pw_le128 h p0 p1
      have cl := em_ch_rg h hw ⟨p0, p1⟩ (c := 0) ⟨by omega, by omega⟩
      have a6 := em_bd (a := em_ch A L w p 0) (x := 256) (b := L + 1) (y := 9) cl.1 (by omega) (by omega) (by omega)
      have a7 := em_bd (a := em_pw A (L - 1 - p)) (x := 128) (b := L + 1) (y := 9) (by omega) hP.2 (by omega) (by omega)
      refine cX1_passWord_32 ⟨fun q => by omega, fun _ => tX10_letter h hw ⟨p0, p1⟩ (tX9_changesOf h ⟨hh.1, by omega⟩ ⟨p0, p1⟩ hdg (tX10_cleared h hw ⟨p0, p1⟩ ⟨⟨by omega, by omega⟩, ⟨by omega, by omega⟩, ⟨by omega, by omega⟩, ?_⟩))⟩
      have e00 : em_ch A L w p 0 * (L + 1) + p + 1 = em_ch A L w p 0 * (L + 1) + p + 1 + 0 * (em_pw A (L - 1 - p) * (L + 1)) := by omega
      rw [e00]
      refine ow_upto (S := ow_M) (P := fun c s => ow_At C (EM A L N) (d + 2) mX1_passWord 95 [(0, (3, 80)), (1, (0, hand)), (2, (0, w)), (3, (0, best)), (4, (0, f w best)), (5, (0, p)), (6, (0, em_dg A L w p)), (7, (0, vx A L hand p (em_dg A L w p) 0)), (8, (0, em_ch A L w p 0 * (L + 1) + p + 1 + c * (em_pw A (L - 1 - p) * (L + 1)))), (9, (0, c))] [] (0, 0) s K) (I := fun c s => 0 ≤ c ∧ ow_off [u] M s ∧ (∀ y, 0 ≤ y → y < N * (L + 1) → s u y ≤ 1048576) ∧ ∀ w' b', 0 ≤ w' → w' < N → 0 ≤ b' → b' ≤ L → ∀ t, s u (w' * (L + 1) + b') ≤ t ↔ M u (w' * (L + 1) + b') ≤ t ∨ pw_e A L T f hand w (p * A + c) w' b' t) A (fun s hI => ?_) (fun c s c1 hI ih2 => ?_) 0 s (by omega) ⟨by omega, i2, i3, by rw [Int.add_zero]; exact i4⟩
      · obtain ⟨_, j2, j3, j4⟩ := hI
        have e : p * A + A = (p + 1) * A := by rw [Int.add_mul, Int.one_mul]
        rw [e] at j4
        exact cX1_passWord_95 ⟨fun _ => ⟨⟨by omega, by omega⟩, ih s ⟨by omega, j2, j3, j4⟩⟩, fun q => by omega⟩
      · obtain ⟨c0, j2, j3, j4⟩ := hI
        have hr := em_ch_rg h hw ⟨p0, p1⟩ ⟨c0, c1⟩
        have a8 := em_bd (a := c) (x := 5) (b := em_pw A (L - 1 - p) * (L + 1)) (y := 1152) c0 (by omega) (by omega) (by omega)
        have e6 : em_ch A L w p 0 * (L + 1) + p + 1 + c * (em_pw A (L - 1 - p) * (L + 1)) = em_ch A L w p c * (L + 1) + (p + 1) := by
          rw [em_ch0 h (c := c), Int.add_mul, Int.mul_assoc]; omega
        have e6' : em_ch A L w p 0 * (L + 1) + p + 1 + c * (em_pw A (L - 1 - p) * (L + 1)) + em_pw A (L - 1 - p) * (L + 1) = em_ch A L w p 0 * (L + 1) + p + 1 + (c + 1) * (em_pw A (L - 1 - p) * (L + 1)) := by
          rw [Int.add_mul, Int.one_mul]; omega
        obtain ⟨w2, w3, w4⟩ := (cw_v (T := T) h (hand := hand) (w := w) (bh := 0) ⟨p0, p1⟩ ⟨c0, c1⟩).2
        have cwv : ∀ b, cw A L T hand w b (p * A + c) = (if em_dg A L w p = c then 0 else ch_v T hand b p (em_dg A L w p) c) := fun b => (cw_v (T := T) h ⟨p0, p1⟩ ⟨c0, c1⟩).1
        have rr := vx_b (a := em_ch A L w p c) (X := N) (b := p + 1) (Y := L + 1) hr ⟨by omega, by omega⟩
        obtain ⟨k1, k2, k3, k4⟩ := em_ci (A := A) (L := L) (N := N) (M := s) hu0
        have s3 : s 80 3 = u := by rw [j2 80 u80]; exact hu2
        have s4 : s 80 4 = v := by rw [j2 80 u80]; exact hv2
        have sf : cb L N s v f := fun w b w0 w1 b0 b1 => by rw [j2 v uv]; exact hf w b w0 w1 b0 b1
        have nx : ∀ M2, ow_off [u] M M2 → (∀ y, 0 ≤ y → y < N * (L + 1) → M2 u y ≤ 1048576) → (∀ w' b', 0 ≤ w' → w' < N → 0 ≤ b' → b' ≤ L → ∀ t, M2 u (w' * (L + 1) + b') ≤ t ↔ s u (w' * (L + 1) + b') ≤ t ∨ (w' = em_ch A L w p c ∧ b' = p + 1 ∧ ∃ b, (0 ≤ b ∧ b ≤ L) ∧ 0 < cw A L T hand w b (p * A + c) ∧ f w b ≤ t)) → ow_At C (EM A L N) (d + 2) mX1_passWord 171 [(0, (3, 80)), (1, (0, hand)), (2, (0, w)), (3, (0, best)), (4, (0, f w best)), (5, (0, p)), (6, (0, em_dg A L w p)), (7, (0, vx A L hand p (em_dg A L w p) 0)), (8, (0, em_ch A L w p 0 * (L + 1) + p + 1 + c * (em_pw A (L - 1 - p) * (L + 1)))), (9, (0, c))] [] (0, 0) M2 K := by
          intro M2 o2 l2 t2
          refine cX1_passWord_171 ⟨⟨p0, p1⟩, ⟨by omega, by omega⟩, ⟨by omega, by omega⟩, ⟨by omega, by omega⟩, ?_⟩
          rw [e6']
          refine ih2 M2 ⟨by omega, o2, l2, fun w' b' w0 w1 b0 b1 t => ?_⟩
          rw [t2 w' b' w0 w1 b0 b1 t, j4 w' b' w0 w1 b0 b1 t]
          refine ⟨fun y => ?_, fun y => ?_⟩
          · rcases y with (y | ⟨b, z, y1, y2, y3⟩) | ⟨y1, y2, b, y3, y4, y5⟩
            · exact Or.inl y
            · exact Or.inr ⟨b, z, y1, ⟨y2.1, by omega⟩, y3⟩
            · exact Or.inr ⟨b, p * A + c, y3, ⟨w2.1, by omega⟩, y4, by rw [w3, w4]; exact y1.symm, by rw [w3]; exact y2.symm, y5⟩
          · rcases y with y | ⟨b, z, y1, y2, y3, y4, y5, y6⟩
            · exact Or.inl (Or.inl y)
            · by_cases e : z = p * A + c
              · rw [e] at y3 y4 y5
                rw [w3, w4] at y4
                rw [w3] at y5
                exact Or.inr ⟨y4.symm, y5.symm, b, y1, y3, y6⟩
              · exact Or.inl (Or.inr ⟨b, z, y1, ⟨y2.1, by omega⟩, y3, y4, y5, y6⟩)
        have st : ∀ s0, (∀ t, s0 ≤ t ↔ 1048576 ≤ t ∨ ∃ b, (0 ≤ b ∧ b ≤ L) ∧ 0 < cw A L T hand w b (p * A + c) ∧ f w b ≤ t) → ow_At C (EM A L N) (d + 2) mX1_passWord 150 [(0, (3, 80)), (1, (0, hand)), (2, (0, w)), (3, (0, best)), (4, (0, f w best)), (5, (0, p)), (6, (0, em_dg A L w p)), (7, (0, vx A L hand p (em_dg A L w p) 0)), (8, (0, em_ch A L w p 0 * (L + 1) + p + 1 + c * (em_pw A (L - 1 - p) * (L + 1)))), (9, (0, c))] [(0, s0)] (0, 0) s K := by
          intro s0 hs
          have R1 : ow_R (EM A L N) s u 100 (em_ch A L w p c * (L + 1) + (p + 1)) := ⟨k1.1, k1.2.1, k1.2.2, rr.1, by rw [k2]; exact rr.2.1⟩
          refine cX1_passWord_150 ?_
          rw [s3, k3, e6]
          refine ⟨R1, R1, k4 _, fun N1 e1 => ?_⟩
          rw [e6] at nx
          refine nx N1 (by rw [e1]; exact j2.up (List.mem_singleton.2 rfl)) (fun y y0 y1 => ?_) (fun w' b' w0 w1 b0 b1 t => ?_)
          · by_cases e : y = em_ch A L w p c * (L + 1) + (p + 1)
            · rw [e, e1, ow_upS]; have := j3 _ rr.1 rr.2.1; omega
            · rw [e1, ow_upN (Or.inr e)]; exact j3 y y0 y1
          · have r' := vx_b (a := w') (X := N) (b := b') (Y := L + 1) ⟨w0, w1⟩ ⟨b0, by omega⟩
            by_cases e : w' * (L + 1) + b' = em_ch A L w p c * (L + 1) + (p + 1)
            · have ew : w' = em_ch A L w p c := by rw [← r'.2.2.2, e]; exact rr.2.2.2
              have eb : b' = p + 1 := by rw [← r'.2.2.1, e]; exact rr.2.2.1
              rw [e, e1, ow_upS]
              have le := j3 _ rr.1 rr.2.1
              have em : min (s u (em_ch A L w p c * (L + 1) + (p + 1))) s0 ≤ t ↔ s u (em_ch A L w p c * (L + 1) + (p + 1)) ≤ t ∨ s0 ≤ t := by omega
              rw [em, hs t]
              refine ⟨fun y => ?_, fun y => ?_⟩
              · rcases y with y | y | y
                · exact Or.inl y
                · exact Or.inl (by omega)
                · exact Or.inr ⟨ew, eb, y⟩
              · rcases y with y | ⟨_, _, y⟩
                · exact Or.inl y
                · exact Or.inr (Or.inr y)
            · rw [e1, ow_upN (Or.inr e)]
              refine ⟨fun y => Or.inl y, fun y => ?_⟩
              rcases y with y | ⟨y1, y2, _⟩
              · exact y
              · exact absurd (by rw [y1, y2]) e
        refine cX1_passWord_95 ⟨fun q => by omega, fun _ => ⟨fun q => nx s j2 j3 (fun w' b' w0 w1 b0 b1 t => ⟨fun y => Or.inl y, fun y => ?_⟩), fun q => ?_⟩⟩
        · rcases y with y | ⟨_, _, b, _, y, _⟩
          · exact y
          · rw [cwv, if_pos q.symm] at y; exact absurd y (by decide)
        · have e0 : vx A L hand p (em_dg A L w p) 0 + c = vx A L hand p (em_dg A L w p) c := by unfold vx; omega
          have hxr := vx_rg (H := 8) ⟨hh.1, by omega⟩ ⟨p0, p1⟩ hdg ⟨c0, c1⟩
          have ho := (vw_open h hT (k := 0) hh ⟨p0, p1⟩ hdg ⟨c0, c1⟩ q).1
          have bo : ∀ b, 0 ≤ b → b ≤ L → (ow_bt (M 62 (vx A L hand p (em_dg A L w p) c)) b = true ↔ 0 < cw A L T hand w b (p * A + c)) := by
            intro b b0 b1
            rw [ho b b0 (by omega), decide_eq_true_iff, cwv, if_neg (fun y => q y.symm)]
            exact ⟨fun y => y.2, fun y => ⟨b1, y⟩⟩
          rw [e0, j2 62 u62, ow_bit ⟨q0, by omega⟩]
          refine ⟨⟨by omega, by omega⟩, hxr, fun y => tX1_leastBehind h hv0 s4 hw sf (fun r hr2 => st r (fun t => ?_)), fun y => st _ (fun t => ?_)⟩
          · rw [hr2 t]
            exact ⟨fun y => by rcases y with y | ⟨b, y1, y2, y3⟩; exact Or.inl y; exact Or.inr ⟨b, y1, (bo b y1.1 y1.2).1 y2, y3⟩, fun y => by rcases y with y | ⟨b, y1, y2, y3⟩; exact Or.inl y; exact Or.inr ⟨b, y1, (bo b y1.1 y1.2).2 y2, y3⟩⟩
          · have bt : ow_bt (M 62 (vx A L hand p (em_dg A L w p) c)) best = true := by
              by_cases e : ow_bt (M 62 (vx A L hand p (em_dg A L w p) c)) best = true
              · exact e
              · rw [if_neg e] at y; exact absurd rfl y
            refine ⟨fun y => Or.inr ⟨best, ⟨q0, q1⟩, (bo best q0 q1).1 bt, y⟩, fun y => ?_⟩
            rcases y with y | ⟨b, y1, _, y3⟩
            · omega
            · have := q2 b y1.1 y1.2; omega
    · rcases y with y | ⟨b, z, _, y2, _⟩
      · exact y
      · rw [Int.zero_mul] at y2; omega
  · have r' := vx_b (a := w') (X := N) (b := b') (Y := L + 1) ⟨w0, w1⟩ ⟨b0, by omega⟩
    rcases y with y | ⟨b, z, y1, _, _, _, _, y6⟩
    · exact y
    · have g1 := hle _ r'.1 r'.2.1
      have g2 := q2 b y1.1 y1.2
      omega
end BC1
