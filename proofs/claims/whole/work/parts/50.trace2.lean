/-! ===== the class's trace ===== -/
section TC2
variable {C : ow_C} {A L N : Int} {d : Nat} {M T : ow_M} {K : Int → ow_M → Prop}
/-- row of a hand -/
def tc_row (A L N : Int) (T M : ow_M) (into least most hand : Int) : Prop := ∀ w b, 0 ≤ w → w < N → 0 ≤ b → b ≤ L → (ow_bt (M (67 + hand) w) b = true ↔ td A L T into least most hand w b)
theorem tX5_trace (h : em_ok A L N) {into least most : Int} (hm : 0 ≤ least ∧ least ≤ most ∧ most ≤ 8) (hi : 0 ≤ into ∧ into < N) (hT : vw_T A L T M (vx A L most 0 0 0)) (hK : ∀ M', ow_off [67, 68, 69, 70, 71, 72, 73, 74, 75] M M' → (∀ hand, 0 ≤ hand → hand ≤ most → tc_row A L N T M' into least most hand) → K 0 M') : ow_Sp C (EM A L N) (d + 2) mX5_trace (0, 0) [(3, 64), (0, into), (0, least), (0, most)] M K := by
  have hL := h.2.2.2.1
  have hL3 := h.2.2.1
  have hN := em_Npos h
  have hN2 := h.2.2.2.2.2
  have mem : ∀ i, 0 ≤ i → i < 9 → 67 + i ∈ [(67 : Int), 68, 69, 70, 71, 72, 73, 74, 75] := by
    intro i i0 i1
    have e : i = 0 ∨ i = 1 ∨ i = 2 ∨ i = 3 ∨ i = 4 ∨ i = 5 ∨ i = 6 ∨ i = 7 ∨ i = 8 := by omega
    rcases e with e | e | e | e | e | e | e | e | e <;> subst e <;> decide
  refine fX5_trace ?_
  rw [show min most 8 = most by omega]
  refine ow_dnto (S := ow_M) (P := fun i s => ow_At C (EM A L N) (d + 2) mX5_trace 8 [(0, (3, 64)), (1, (0, into)), (2, (0, least)), (3, (0, most)), (4, (0, i))] [] (0, 0) s K) (I := fun i s => i ≤ most ∧ ow_off [67, 68, 69, 70, 71, 72, 73, 74, 75] M s ∧ ∀ hand, i < hand → 0 ≤ hand → hand ≤ most → tc_row A L N T s into least most hand) (fun s hI => ?_) (fun i s i0 hI ih => ?_) most M (by omega) ⟨by omega, ow_off.rf, fun hand h1 h2 h3 => by omega⟩
  · obtain ⟨_, i2, i3⟩ := hI
    exact cX5_trace_8 ⟨fun _ => hK s i2 (fun hand h0 h1 => i3 hand (by omega) h0 h1), fun q => by omega⟩
  · obtain ⟨i1, i2, i3⟩ := hI
    refine cX5_trace_8 ⟨fun q => by omega, fun _ => ?_⟩
    have ne : ∀ hand, i < hand → (67 + hand : Int) ∉ [67 + i] := fun hand hh z => by simp at z; omega
    refine ow_upto (S := ow_M) (P := fun j s => ow_At C (EM A L N) (d + 2) mX5_trace 16 [(0, (3, 64)), (1, (0, into)), (2, (0, least)), (3, (0, most)), (4, (0, i)), (5, (0, j))] [] (0, 0) s K) (I := fun j t => 0 ≤ j ∧ ow_off [67 + i] s t ∧ ∀ w b, 0 ≤ w → w < j → 0 ≤ b → b ≤ L → (ow_bt (t (67 + i) w) b = true ↔ (i < most ∧ ∃ z, 0 ≤ z ∧ z < L * A ∧ 0 < cw A L T i w b z ∧ td A L T into least most (i + 1) (em_ch A L w (z / A) (z % A)) (z / A + 1)))) N (fun t hI => ?_) (fun j t j1 hI ih2 => ?_) 0 s (by omega) ⟨by omega, ow_off.rf, fun w b w0 w1 => by omega⟩
    · obtain ⟨_, j2, j3⟩ := hI
      obtain ⟨c1, c2, c3, c4⟩ := em_row (A := A) (L := L) (N := N) (M := t) (j := i) ⟨i0, by omega⟩
      have up : ∀ M', ow_off [67 + i] s M' → ow_off [67, 68, 69, 70, 71, 72, 73, 74, 75] M M' := fun M' o => i2.tr (o.mono (fun c hc => by simp only [List.mem_singleton] at hc; rw [hc]; exact mem i i0 (by omega)))
      have keep : ∀ M', ow_off [67 + i] s M' → ∀ hand, i < hand → 0 ≤ hand → hand ≤ most → tc_row A L N T M' into least most hand := by
        intro M' o hand h1 h2 h3 w b w0 w1 b0 b1
        rw [o (67 + hand) (ne hand h1)]; exact i3 hand h1 h2 h3 w b w0 w1 b0 b1
      refine cX5_trace_16 ⟨fun _ => ⟨fun q => ⟨⟨by omega, by omega⟩, ih t ⟨by omega, up t j2, fun hand h1 h2 h3 => ?_⟩⟩, fun q => ⟨⟨i0, by omega⟩, ⟨c1.1, c1.2.1, c1.2.2, hi.1, by rw [c2]; exact hi.2⟩, c4 _, fun N1 e1 => ⟨⟨by omega, by omega⟩, ih N1 ⟨by omega, ?_, fun hand h1 h2 h3 => ?_⟩⟩⟩⟩, fun q => by omega⟩
      · by_cases e : hand = i
        · rw [e]
          intro w b w0 w1 b0 b1
          rw [j3 w b w0 w1 b0 b1, td_step h (by omega)]
          exact ⟨fun z => Or.inr z, fun z => by rcases z with z | z; omega; exact z⟩
        · exact keep t j2 hand (by omega) h2 h3
      · rw [e1]; exact (up t j2).up (mem i i0 (by omega))
      · have oN : ow_off [67 + i] s N1 := by rw [e1]; exact j2.up (List.mem_singleton.2 rfl)
        by_cases e : hand = i
        · rw [e]
          intro w b w0 w1 b0 b1
          rw [td_step h (by omega)]
          by_cases ew : w = into
          · rw [ew, e1, ow_upS, em_all h ⟨b0, b1⟩]
            exact ⟨fun _ => Or.inl ⟨q, rfl⟩, fun _ => rfl⟩
          · rw [e1, ow_upN (Or.inr ew), j3 w b w0 w1 b0 b1]
            exact ⟨fun z => Or.inr z, fun z => by rcases z with z | z; exact absurd z.2 ew; exact z⟩
        · exact keep N1 oN hand (by omega) h2 h3
    · obtain ⟨j0, j2, j3⟩ := hI
      obtain ⟨c1, c2, c3, c4⟩ := em_row (A := A) (L := L) (N := N) (M := t) (j := i) ⟨i0, by omega⟩
      have R1 : ow_R (EM A L N) t (67 + i) 100 j := ⟨c1.1, c1.2.1, c1.2.2, j0, by rw [c2]; exact j1⟩
      have nx : ∀ v, (∀ b, 0 ≤ b → b ≤ L → (ow_bt v b = true ↔ (i < most ∧ ∃ z, 0 ≤ z ∧ z < L * A ∧ 0 < cw A L T i j b z ∧ td A L T into least most (i + 1) (em_ch A L j (z / A) (z % A)) (z / A + 1)))) → ∀ N3, N3 = ow_up t (67 + i) j v → ow_I (j + 1) ∧ ow_At C (EM A L N) (d + 2) mX5_trace 16 [(0, (3, 64)), (1, (0, into)), (2, (0, least)), (3, (0, most)), (4, (0, i)), (5, (0, j + 1))] [] (0, 0) N3 K := by
        intro v hv N3 e3
        refine ⟨⟨by omega, by omega⟩, ih2 N3 ⟨by omega, by rw [e3]; exact j2.up (List.mem_singleton.2 rfl), fun w b w0 w1 b0 b1 => ?_⟩⟩
        by_cases e : w = j
        · rw [e, e3, ow_upS]; exact hv b b0 b1
        · rw [e3, ow_upN (Or.inr e)]; exact j3 w b w0 (by omega) b0 b1
      refine cX5_trace_16 ⟨fun q => by omega, fun _ => ⟨⟨i0, by omega⟩, fun q => ?_, fun q => ⟨R1, c4 _, nx 0 (fun b b0 b1 => ?_)⟩⟩⟩
      · have o62 : ∀ c, c < 67 → ∀ y, t c y = M c y := by
          intro c hc y
          rw [j2 c (by simp; omega), i2 c (by simp; omega)]
        have hTt : vw_T A L T t (vx A L most 0 0 0) := hT.cg (o62 62 (by decide)) (o62 63 (by decide))
        refine tX5_openBehind (T := T) (Q := fun x b => td A L T into least most (i + 1) x b) h hm.2.2 hTt ⟨i0, q⟩ ⟨j0, j1⟩ (fun x b x0 x1 b0 b1 => ?_) (fun r rI hr => ⟨R1, c4 _, nx r (fun b b0 b1 => ?_)⟩)
        · rw [j2 (67 + (i + 1)) (ne (i + 1) (by omega))]
          exact i3 (i + 1) (by omega) (by omega) (by omega) x b x0 x1 (by omega) b1
        · rw [hr b b0 (by omega)]
          exact ⟨fun z => ⟨q, z.2⟩, fun z => ⟨b1, z.2⟩⟩
      · rw [ow_bt_0]
        exact ⟨fun z => absurd z (by decide), fun z => by omega⟩
end TC2
