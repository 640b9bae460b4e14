/-! ===== clauses by the reference ===== -/
/-- what a clause's body leaves -/
def bo (n : Int) (t : Int → Int) (m r : Int) (M : ow_M) (s x : Int) (T : ow_M) (j : Int) (T' M' : ow_M) : Prop := ∃ a b E', qT r M M' ∧ rr n t r M' j E' ∧ T' = tst T s a b E' ∧ M' 86 (x + 1) = a ∧ M' 86 (x + 2) = b ∧ (∀ y, 680 * r ≤ y → y < 680 * r + 75 → y ≠ x + 1 → y ≠ x + 2 → M' 86 y = M 86 y) ∧ M' 83 21 = M 83 21 ∧ M' 83 23 = M 83 23 ∧ j ≤ m ∧ 0 ≤ E'.1 ∧ E'.1 ≤ j
section RFY
variable {C : ow_C} {A L N : Int} {d : Nat} {n : Int} {t : Int → Int} {m r : Int}
theorem tX12_booked (ho : em_ok A L N) (hp : tp_ok n t) (hm : te_ok n t m) (hr : 0 ≤ r ∧ r < 4) {M T T' : ow_M} {K : Int → ow_M → Prop} {i x f j : Int} (h : rr n t r M i (tE T)) (i0 : 0 ≤ i) (hi' : i ≤ m) (hT : 0 ≤ T 0 1 ∧ T 0 1 ≤ i) (hx : 680 * r ≤ x ∧ x + 2 < 680 * r + 75) (hb : bd2 A L n t i T f j T') (k1 : f = 0 → ∀ M', bo n t m r M 2 x T j T' M' → K 0 M') (k2 : f ≠ 0 → ∀ M', qT r M M' → rf n t M' j → K f M') : ow_Sp C (EM A L N) (d + 4) mX12_booked (0, 0) [(3, 83), (0, x)] M K := by
  have tc := tcode_rg (kx_45 (n := n) (t := t) (i := i))
  have e12 := h.1.2.2.1
  refine fX12_booked ⟨fun q => ⟨⟨by omega, by omega⟩, ?_⟩, fun q => ?_⟩
  · have y1 : kx n t i = 1 := tc.1.1 (by rw [← e12]; exact q)
    have il := kx_lt hm hi' (show kx n t i ≠ 0 by omega)
    refine tX12_wordAtHand ho hp h y1 ⟨⟨by omega, by omega⟩, fun N2 e2 => ?_⟩
    have v2 : N2 86 (x + 1) = vx_t A L n t i := by rw [e2, ow_upS]
    have g2 := h.hd e2 (by omega)
    have q2 : qT r M N2 := fun c y z1 z2 z3 => by rw [e2, ow_upN (by omega)]
    rw [v2]
    rcases hb with hb | hb | ⟨_, hw, f1, v, hn, hb⟩
    · exact absurd y1 hb.1
    · refine ⟨fun z => by omega, fun _ => ?_⟩
      have := k2 (by omega) N2 q2 (by rw [hb.2.2.2]; exact g2.1)
      rw [hb.2.2.1] at this; exact this
    · refine ⟨fun _ => rr_next hp g2 i0 (fun M3 o3 q3 _ g3 => ⟨⟨by omega, by omega⟩, ?_⟩), fun z => by omega⟩
      refine tX12_figure hp hm hr g3 (by omega) (by omega) ⟨by omega, by omega⟩ (by decide) (by decide) hn (fun hf v0 v1 il2 M4 q4 w4 s86 s83 g4 => ?_) (fun hf => ?_)
      · rcases hb with hb | ⟨_, hf0, hj, hT'⟩
        · exact absurd hf hb.1
        · have := k1 hf0 M4 ⟨vx_t A L n t i, v, tE T, q2.tr (q3.T.tr q4), by rw [hj, show i + 2 = i + 1 + 1 by omega]; exact g4, hT', ?_, w4, fun y y0 y1 y2 y3 => ?_, ?_, ?_, by omega, hT.1, by rw [hj]; show T 0 1 ≤ i + 2; omega⟩
          · exact this
          · rw [s86 _ (by omega), o3 86 _ (by simp) (by simp)]; exact v2
          · rw [s86 _ y3, o3 86 _ (by simp) (by simp), e2, ow_upN (Or.inr y2)]
          · rw [s83 _ (by omega), o3 83 21 (by simp) (by simp), e2, ow_upN (Or.inl (by decide))]
          · rw [s83 _ (by omega), o3 83 23 (by simp) (by simp), e2, ow_upN (Or.inl (by decide))]
      · rcases hb with hb | hb
        · have := k2 (by omega) M3 (q2.tr q3.T) (by rw [hb.2.2]; exact g3.1)
          rw [hb.2.1] at this; exact this
        · exact absurd hb.1 hf
  · have n1 : kx n t i ≠ 1 := fun y => q (by rw [e12]; exact tc.1.2 y)
    rcases hb with hb | hb | hb
    · have := k2 (by omega) M qT.rf (by rw [hb.2.2]; exact h.1)
      rw [hb.2.1] at this; exact this
    · exact absurd hb.1 n1
    · exact absurd hb.1 n1
theorem tX12_led (hp : tp_ok n t) (hm : te_ok n t m) (hr : 0 ≤ r ∧ r < 4) {M T T' : ow_M} {K : Int → ow_M → Prop} {i x f j : Int} (h : rr n t r M i (tE T)) (i0 : 0 ≤ i) (hi' : i ≤ m) (hT : 0 ≤ T 0 1 ∧ T 0 1 ≤ i) (hx : 680 * r ≤ x ∧ x + 2 < 680 * r + 75) (hb : bd3 n t i T f j T') (k1 : f = 0 → ∀ M', bo n t m r M 3 x T j T' M' → K 0 M') (k2 : f ≠ 0 → ∀ M', qT r M M' → rf n t M' j → K f M') : ow_Sp C (EM A L N) (d + 4) mX12_led (0, 0) [(3, 83), (0, x)] M K := by
  obtain ⟨f1, a, hn, hb⟩ := hb
  refine fX12_led ⟨⟨by omega, by omega⟩, tX12_figure hp hm hr h i0 hi' ⟨by omega, by omega⟩ (by decide) (by decide) hn (fun hf v0 v1 il M2 q2 w2 s86 s83 g2 => ?_) (fun hf => ?_)⟩
  · refine ⟨fun _ => ?_, fun z => absurd rfl z⟩
    have w := rf_w g2.1 (k := 10) (by decide)
    rw [wcs2.2.2.2.2.1] at w
    have bad : ∀ M', nx n t (i + 1) ≠ 10 → qT r M M' → rf n t M' (i + 1) → K 1 M' := by
      intro M' hx10 q' rf'
      rcases hb with hb | hb | hb
      · exact absurd hf hb.1
      · have := k2 (by omega) M' q' (by rw [hb.2.2.2]; exact rf')
        rw [hb.2.2.1] at this; exact this
      · exact absurd hb.2.1 hx10
    refine ⟨fun z => bad M2 (fun y => z (w.2 y).1) q2 g2.1, fun z => ⟨fun z2 => ?_, fun z2 => bad M2 (fun y => z2 (ow_lcmp0.2 (w.2 y).2)) q2 g2.1⟩⟩
    have n10 : nx n t (i + 1) = 10 := w.1 ⟨z, ow_lcmp0.1 z2⟩
    rcases hb with hb | hb | ⟨_, _, f2, b, hn2, hb⟩
    · exact absurd hf hb.1
    · exact absurd n10 hb.2.1
    · have il2 := (nx_lt hm (show i + 1 ≤ m by omega) (show 0 ≤ nx n t (i + 1) by omega)).1
      refine rr_next hp g2 (by omega) (fun M3 o3 q3 _ g3 => ⟨⟨by omega, by omega⟩, ⟨by omega, by omega⟩, ?_⟩)
      have v3 : M3 86 (x + 1) = a := by rw [o3 86 _ (by simp) (by simp)]; exact w2
      rw [v3]
      rw [show i + 1 + 1 = i + 2 by omega] at g3
      refine tX12_figure hp hm hr g3 (by omega) (by omega) ⟨by omega, by omega⟩ (by omega) (by decide) hn2 (fun hf2 u0 u1 il3 M4 q4 w4 t86 t83 g4 => ?_) (fun hf2 => ?_)
      · rcases hb with hb | ⟨_, hf0, hj, hT'⟩
        · exact absurd hf2 hb.1
        · have := k1 hf0 M4 ⟨a, b, tE T, q2.tr (q3.T.tr q4), by rw [hj, show i + 3 = i + 2 + 1 by omega]; exact g4, hT', ?_, w4, fun y y0 y1 y2 y3 => ?_, ?_, ?_, by omega, hT.1, by rw [hj]; show T 0 1 ≤ i + 3; omega⟩
          · exact this
          · rw [t86 _ (by omega)]; exact v3
          · rw [t86 _ y3, o3 86 _ (by simp) (by simp), s86 _ y2]
          · rw [t83 _ (by omega), o3 83 21 (by simp) (by simp), s83 _ (by omega)]
          · rw [t83 _ (by omega), o3 83 23 (by simp) (by simp), s83 _ (by omega)]
      · rcases hb with hb | hb
        · have := k2 (by omega) M3 (q2.tr q3.T) (by rw [hb.2.2]; exact g3.1)
          rw [hb.2.1] at this; exact this
        · exact absurd hb.1 hf2
  · refine ⟨fun z => absurd z hf, fun _ => ?_⟩
    rcases hb with hb | hb | hb
    · have := k2 (by omega) M qT.rf (by rw [hb.2.2]; exact h.1)
      rw [hb.2.1] at this; exact this
    · exact absurd hb.1 hf
    · exact absurd hb.1 hf
end RFY
