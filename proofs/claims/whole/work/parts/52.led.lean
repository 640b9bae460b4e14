/-! ===== whether a word leads on, by the reference ===== -/
section LDS
variable {C : ow_C} {A L N : Int} {d : Nat} {M T : ow_M} {K : Int → ow_M → Prop}
theorem cw_may (h : em_ok A L N) {hand w b p c : Int} (hp : 0 ≤ p ∧ p < L) (hc : 0 ≤ c ∧ c < A) : 0 < cw A L T hand w b (p * A + c) ↔ (em_dg A L w p ≠ c ∧ 0 < ch_v T hand b p (em_dg A L w p) c) := by
  rw [(cw_v (T := T) h hp hc).1]
  by_cases e : em_dg A L w p = c
  · rw [if_pos e]
    exact ⟨fun z => absurd z (by decide), fun z => absurd e z.1⟩
  · rw [if_neg e]
    exact ⟨fun z => ⟨e, z⟩, fun z => z.2⟩
theorem tX12_isLed (h : em_ok A L N) (hm : mc_ok M T) {hand w bh : Int} {Q : Int → Int → Prop} (hh : 0 ≤ hand ∧ hand < 8) (hw : 0 ≤ w ∧ w < N) (hb : 0 ≤ bh ∧ bh ≤ L) (hQ : ∀ t b, 0 ≤ t → t < N → 1 ≤ b → b ≤ L → (M 95 (2304 * (hand + 1) + 9 * t + b) ≠ 0 ↔ Q t b)) (h1 : (∃ z, 0 ≤ z ∧ z < L * A ∧ 0 < cw A L T hand w bh z ∧ Q (em_ch A L w (z / A) (z % A)) (z / A + 1)) → ∀ M', ow_off [89, 90, 91, 92] M M' → mc_ok M' T → K 1 M') (h2 : (¬ ∃ z, 0 ≤ z ∧ z < L * A ∧ 0 < cw A L T hand w bh z ∧ Q (em_ch A L w (z / A) (z % A)) (z / A + 1)) → ∀ M', ow_off [89, 90, 91, 92] M M' → mc_ok M' T → K 0 M') : ow_Sp C (EM A L N) (d + 6) mX12_isLed (0, 0) [(3, 83), (0, hand), (0, w), (0, bh)] M K := by
  have hL := h.2.2.2.1
  have hL3 := h.2.2.1
  have hA := h.2.1
  have hA1 := h.1
  have hN2 := h.2.2.2.2.2
  refine fX12_isLed ?_
  refine ow_upto (S := ow_M) (P := fun p s => ow_At C (EM A L N) (d + 6) mX12_isLed 3 [(0, (3, 83)), (1, (0, hand)), (2, (0, w)), (3, (0, bh)), (4, (0, p))] [] (0, 0) s K) (I := fun p s => 0 ≤ p ∧ ow_off [89, 90, 91, 92] M s ∧ mc_ok s T ∧ ¬ ∃ z, 0 ≤ z ∧ z < p * A ∧ 0 < cw A L T hand w bh z ∧ Q (em_ch A L w (z / A) (z % A)) (z / A + 1)) L (fun s hI => ?_) (fun p s p1 hI ih => ?_) 0 M (by omega) ⟨by omega, ow_off.rf, hm, fun ⟨z, z0, z1, _⟩ => by rw [Int.zero_mul] at z1; omega⟩
  · obtain ⟨_, i2, i3, i4⟩ := hI
    exact cX12_isLed_3 ⟨fun _ => h2 i4 s i2 i3, fun q => by omega⟩
  · obtain ⟨p0, i2, i3, i4⟩ := hI
    refine cX12_isLed_3 ⟨fun q => by omega, fun _ => ?_⟩
    refine ow_upto (S := ow_M) (P := fun c s => ow_At C (EM A L N) (d + 6) mX12_isLed 15 [(0, (3, 83)), (1, (0, hand)), (2, (0, w)), (3, (0, bh)), (4, (0, p)), (5, (0, c))] [] (0, 0) s K) (I := fun c s => 0 ≤ c ∧ ow_off [89, 90, 91, 92] M s ∧ mc_ok s T ∧ ¬ ∃ z, 0 ≤ z ∧ z < p * A + c ∧ 0 < cw A L T hand w bh z ∧ Q (em_ch A L w (z / A) (z % A)) (z / A + 1)) A (fun s hI => ?_) (fun c s c1 hI ih2 => ?_) 0 s (by omega) ⟨by omega, i2, i3, by rw [Int.add_zero]; exact i4⟩
    · obtain ⟨_, j2, j3, j4⟩ := hI
      have e : p * A + A = (p + 1) * A := by rw [Int.add_mul, Int.one_mul]
      rw [e] at j4
      exact cX12_isLed_15 ⟨fun _ => ⟨⟨by omega, by omega⟩, ih s ⟨by omega, j2, j3, j4⟩⟩, fun q => by omega⟩
    · obtain ⟨c0, j2, j3, j4⟩ := hI
      have hr := em_ch_rg h hw ⟨p0, p1⟩ ⟨c0, c1⟩
      obtain ⟨v2, v3, v4⟩ := (cw_v (T := T) h (hand := hand) (w := w) (bh := bh) ⟨p0, p1⟩ ⟨c0, c1⟩).2
      have my := cw_may (T := T) h (hand := hand) (w := w) (b := bh) ⟨p0, p1⟩ ⟨c0, c1⟩
      refine cX12_isLed_15 ⟨fun q => by omega, fun _ => ⟨⟨by omega, by omega⟩, tX12_may h j3 hh hw ⟨p0, p1⟩ ⟨hb.1, by omega⟩ ⟨c0, c1⟩ (fun M2 o2 m2 => ?_)⟩⟩
      have o3 := j2.tr o2
      have nx : ¬ (0 < cw A L T hand w bh (p * A + c) ∧ Q (em_ch A L w p c) (p + 1)) → ow_I (c + 1) ∧ ow_At C (EM A L N) (d + 6) mX12_isLed 15 [(0, (3, 83)), (1, (0, hand)), (2, (0, w)), (3, (0, bh)), (4, (0, p)), (5, (0, c + 1))] [] (0, 0) M2 K := by
        intro hno
        refine ⟨⟨by omega, by omega⟩, ih2 M2 ⟨by omega, o3, m2, fun ⟨z, z0, z1, z2, z3⟩ => ?_⟩⟩
        by_cases e : z = p * A + c
        · subst e; rw [v3, v4] at z3; exact hno ⟨z2, z3⟩
        · exact j4 ⟨z, z0, by omega, z2, z3⟩
      by_cases e : em_dg A L w p ≠ c ∧ 0 < ch_v T hand bh p (em_dg A L w p) c
      · rw [if_pos e]
        refine ⟨fun z => absurd z (by decide), fun _ => ⟨⟨by omega, by omega⟩, ⟨by omega, by omega⟩, tX12_changed h hw ⟨p0, p1⟩ ⟨c0, c1⟩ ?_⟩⟩
        have hq := hQ (em_ch A L w p c) (p + 1) hr.1 hr.2 (by omega) (by omega)
        rw [show 2304 * (hand + 1) + 9 * em_ch A L w p c + (p + 1) = 2304 * (hand + 1) + 9 * em_ch A L w p c + p + 1 by omega] at hq
        rw [o3 95 (by decide)]
        refine ⟨⟨by omega, by omega⟩, ⟨by omega, by omega⟩, ⟨by omega, by omega⟩, ⟨by omega, by omega⟩, ⟨by omega, by omega⟩, fun z => nx (fun y => hq.2 y.2 z), fun z => h1 ⟨p * A + c, v2.1, v2.2, my.2 e, by rw [v3, v4]; exact hq.1 z⟩ M2 o3 m2⟩
      · rw [if_neg e]
        exact ⟨fun _ => nx (fun y => e (my.1 y.1)), fun z => absurd rfl z⟩
end LDS
