/-! ===== a clause and a text, by the reference ===== -/
def trx (n : Int) (t : Int → Int) (r : Int) (M : ow_M) (i : Int) (T : ow_M) : Prop := rr n t r M i (tE T) ∧ M 86 (680 * r) = T 0 0 ∧ (∀ k, 0 ≤ k → k < T 0 0 → M 86 (680 * r + 1 + 3 * k) = T 1 k ∧ M 86 (680 * r + 1 + 3 * k + 1) = T 2 k ∧ M 86 (680 * r + 1 + 3 * k + 2) = T 3 k) ∧ M 83 21 = 0 ∧ M 83 23 = T 0 4 + 2 * T 0 7
def tq (m i : Int) (T : ow_M) : Prop := (T 0 4 = 0 ∨ T 0 4 = 1) ∧ (T 0 7 = 0 ∨ T 0 7 = 1) ∧ (0 ≤ T 0 0 ∧ T 0 0 ≤ 24) ∧ (0 ≤ T 0 1 ∧ T 0 1 ≤ i) ∧ i ≤ m
theorem on_bit {a b s : Int} (ha : a = 0 ∨ a = 1) (hb : b = 0 ∨ b = 1) (hs : s = 0 ∨ s = 1) : (ow_and (ow_shr (a + 2 * b) s) 1 = 1 ↔ (s = 0 ∧ a = 1) ∨ (s = 1 ∧ b = 1)) ∧ ow_or (a + 2 * b) (ow_shl 1 s) = (if s = 0 then 1 else a) + 2 * (if s = 1 then 1 else b) := by
  rcases ha with e | e <;> rcases hb with e2 | e2 <;> rcases hs with e3 | e3 <;> subst e <;> subst e2 <;> subst e3 <;> decide +kernel
section RFZ
variable {C : ow_C} {A L N : Int} {d : Nat} {n : Int} {t : Int → Int} {m r : Int}
/-- the end of a clause -/
theorem fin171 (hp : tp_ok n t) (hm : te_ok n t m) (hr : 0 ≤ r ∧ r < 4) {M T T1 N2 M5 : ow_M} {K : Int → ow_M → Prop} {i s j1 x : Int} (h : trx n t r M i T) (hq : tq m i T) (h24 : T 0 0 < 24) (hs : 0 ≤ s ∧ s ≤ 3) (hx : x = 680 * r + 1 + 3 * T 0 0) (hN : qT r M N2) (n1 : N2 86 x = s) (n2 : ∀ y, y ≠ x → N2 86 y = M 86 y) (n3 : N2 83 21 = 0) (n4 : N2 83 23 = (if s = 0 then 1 else T 0 4) + 2 * (if s = 1 then 1 else T 0 7)) (hb : bo n t m r N2 s x T j1 T1 M5) (k1 : kx n t j1 = 59 → ∀ M', qT r M M' → trx n t r M' (j1 + 1) T1 → tq m (j1 + 1) T1 → K 0 M') (k2 : kx n t j1 ≠ 59 → ∀ M', qT r M M' → rf n t M' j1 → K 1 M') : ow_At C (EM A L N) (d + 3) mX12_clause 171 [(0, (3, 83))] [] (0, 0) M5 K := by
  obtain ⟨a, b, E', b1, b2, b3, b4, b5, b6, b7, b8, b9, b10, b11⟩ := hb
  obtain ⟨h1, h2, h3, h4, h5⟩ := h
  obtain ⟨t1, t2, t3, t4, t5⟩ := hq
  have tc := (tcode_rg (kx_45 (n := n) (t := t) (i := j1))).2.2.2.2.2 59 (by decide) (by decide)
  have e15 : M5 83 15 = 680 * r := b2.2.2.1
  have e0 : M5 86 (680 * r) = T 0 0 := by rw [b6 _ (by omega) (by omega) (by omega) (by omega), n2 _ (by omega)]; exact h2
  refine cX12_clause_171 ?_
  rw [e15, e0]
  refine ⟨⟨by omega, by omega⟩, ⟨by omega, by omega⟩, fun N1 e1 => ?_⟩
  have g1 := b2.hd e1 (by omega)
  have q1 : qT r M N1 := hN.tr (b1.tr (fun c y z1 z2 z3 => by rw [e1, ow_upN (by omega)]))
  have s1 : ∀ c y, ¬ (c = 86 ∧ y = 680 * r) → N1 c y = M5 c y := fun c y z => by rw [e1, ow_upN (by omega)]
  have f0 : T1 0 0 = T 0 0 + 1 := by rw [b3]; rfl
  have tr1 : trx n t r N1 j1 T1 := by
    refine ⟨?_, ?_, fun k k0 k1' => ?_, ?_, ?_⟩
    · have e : tE T1 = E' := by rw [b3]; rfl
      rw [e]; exact g1
    · rw [e1, ow_upS, f0]
    · rw [f0] at k1'
      rw [s1 _ _ (by omega), s1 _ _ (by omega), s1 _ _ (by omega), b3]
      by_cases ek : k = T 0 0
      · rw [ek, ← hx]
        refine ⟨?_, ?_, ?_⟩
        · rw [b6 _ (by omega) (by omega) (by omega) (by omega), n1]; exact bk_put_s.symm
        · rw [b4]; exact bk_put_s.symm
        · rw [b5]; exact bk_put_s.symm
      · have o := h3 k k0 (by omega)
        rw [b6 _ (by omega) (by omega) (by omega) (by omega), n2 _ (by omega), b6 _ (by omega) (by omega) (by omega) (by omega), n2 _ (by omega), b6 _ (by omega) (by omega) (by omega) (by omega), n2 _ (by omega)]
        exact ⟨o.1.trans (bk_put_n ek).symm, o.2.1.trans (bk_put_n ek).symm, o.2.2.trans (bk_put_n ek).symm⟩
    · rw [s1 _ _ (by omega), b7]; exact n3
    · rw [s1 _ _ (by omega), b8, n4, b3]; rfl
  have f4 : T1 0 4 = (if s = 0 then 1 else T 0 4) := by rw [b3]; rfl
  have f7 : T1 0 7 = (if s = 1 then 1 else T 0 7) := by rw [b3]; rfl
  have f1 : T1 0 1 = E'.1 := by rw [b3]; rfl
  have e12 : N1 83 12 = tcode (kx n t j1) := g1.1.2.2.1
  rw [e12]
  refine ⟨fun z => ?_, fun z => k2 (fun y => z (tc.2 y)) N1 q1 g1.1⟩
  have k59 := tc.1 z
  have jl := kx_lt hm b9 (show kx n t j1 ≠ 0 by omega)
  refine rr_next hp tr1.1 (by omega) (fun M7 o7 q7 w7 g7 => k1 k59 M7 (q1.tr q7.T) ⟨g7, ?_, fun k k0 k1' => ?_, ?_, ?_⟩ ⟨?_, ?_, by omega, by omega, by omega⟩)
  · rw [o7 86 _ (by simp) (by simp)]; exact tr1.2.1
  · rw [o7 86 _ (by simp) (by simp), o7 86 _ (by simp) (by simp), o7 86 _ (by simp) (by simp)]; exact tr1.2.2.1 k k0 k1'
  · rw [o7 83 21 (by simp) (by simp)]; exact tr1.2.2.2.1
  · rw [o7 83 23 (by simp) (by simp)]; exact tr1.2.2.2.2
  · rw [f4]; split <;> omega
  · rw [f7]; split <;> omega
theorem sumR_b {i o f j : Int} {E E' : pm_E} (h : sumR n t i o E f j E') (hf : f = 0) : i < j ∧ E'.1 + i ≤ E.1 + j ∧ E.1 ≤ E'.1 := by
  rcases h with ⟨_, _, h⟩ | ⟨z, _⟩
  · exact h
  · exact absurd hf z
theorem mayL_b : ∀ (k : Nat) {w i f j : Int} {E E' : pm_E}, (w = 0 ∨ w = 1) → mayL n t k w i E f j E' → f = 0 → i ≤ j ∧ E'.1 + i ≤ E.1 + w + j ∧ E.1 ≤ E'.1 := by
  intro k
  induction k with
  | zero =>
    intro w i f j E E' hw h hf
    obtain ⟨_, _, _, hj, he⟩ := h
    have oE : (orE w E).1 = E.1 + w := by
      unfold orE
      rcases hw with e | e
      · rw [if_neg (by omega)]; omega
      · rw [if_pos e]; show E.1 + 1 = E.1 + w; omega
    rw [he, oE]
    omega
  | succ k ih =>
    intro w i f j E E' hw h hf
    rcases h with ⟨_, f1, j1, E1, a1, a2 | ⟨z, a2⟩⟩ | ⟨_, f1, j1, E1, a1, a2 | ⟨z, a2⟩⟩
    · omega
    · have b1 := askR_b 8 a1 z
      have b2 := ih hw a2 hf
      have e : (pe E1 (-21)).1 = E1.1 + 1 := rfl
      omega
    · omega
    · have b1 := askR_b 8 a1 z
      have b2 := ih (Or.inr rfl) a2 hf
      have oE : (orE w E).1 = E.1 + w := by
        unfold orE
        rcases hw with e | e
        · rw [if_neg (by omega)]; omega
        · rw [if_pos e]; show E.1 + 1 = E.1 + w; omega
      omega
theorem mayR_b {i f j : Int} {E E' : pm_E} (h : mayR n t i E f j E') (hf : f = 0) : i < j ∧ E'.1 + i ≤ E.1 + j ∧ E.1 ≤ E'.1 := by
  obtain ⟨f1, j1, E1, a1, a2 | ⟨z, k, a2⟩⟩ := h
  · omega
  · have b1 := askR_b 8 a1 z
    have b2 := mayL_b k (Or.inl rfl) a2 hf
    omega
theorem tX12_clause (ho : em_ok A L N) (hp : tp_ok n t) (hm : te_ok n t m) (hr : 0 ≤ r ∧ r < 4) {M T T' : ow_M} {K : Int → ow_M → Prop} {i f j : Int} (h : trx n t r M i T) (hq : tq m i T) (hc : clR A L n t i T f j T') (hK : ∀ M', qT r M M' → rf n t M' j → (f = 0 → trx n t r M' j T' ∧ tq m j T') → K f M') : ow_Sp C (EM A L N) (d + 8) mX12_clause (0, 0) [(3, 83)] M K := by
  have m3 := hm.1
  have hh := h
  have hqq := hq
  obtain ⟨h1, h2, h3, h4, h5⟩ := h
  obtain ⟨t1, t2, t3, t4, t5⟩ := hq
  have e15 : M 83 15 = 680 * r := h1.2.2.1
  have tell : f ≠ 0 → j = i → K f M := fun hf hj => hK M qT.rf (by rw [hj]; exact h1.1) (fun z => absurd z hf)
  refine fX12_clause (tX12_sortOf h1.1 ?_)
  rcases hc with ⟨hn, hf, hj⟩ | ⟨s, hs, hn, hc⟩
  · rw [if_neg hn]
    refine ⟨fun z => absurd z (by decide), fun _ => ?_⟩
    have := tell (by omega) hj
    rw [hf] at this; exact this
  · rw [if_pos (by omega), show nx n t i - 6 = s by omega]
    have il := (nx_lt hm t5 (show 0 ≤ nx n t i by omega)).1
    -- from the second token on
    have at65 : ∀ M1, ¬ dupl T s → T 0 0 < 24 → qT r M M1 → rr n t r M1 i (tE T) → (∀ y, M1 86 y = M 86 y) → M1 83 21 = 0 → M1 83 23 = (if s = 0 then 1 else T 0 4) + 2 * (if s = 1 then 1 else T 0 7) → ow_At C (EM A L N) (d + 8) mX12_clause 65 [(0, (3, 83)), (1, (0, s)), (2, (0, T 0 0))] [] (0, 0) M1 K := by
      intro M1 hd h24 q1 g1 s86 w21 w23
      rcases hc with hc | hc | ⟨_, _, f1, j1, T1, hb, hc⟩
      · exact absurd hc.1 hd
      · omega
      · refine cX12_clause_65 (rr_next hp g1 (by omega) (fun M2 o2 q2 w2 g2 => ?_))
        have e15' : M2 83 15 = 680 * r := g2.2.2.1
        rw [e15']
        refine ⟨⟨by omega, by omega⟩, ⟨by omega, by omega⟩, ⟨by omega, by omega⟩, ⟨by omega, by omega⟩, fun N2 e2 => ?_⟩
        have g3 := g2.hd e2 (by omega)
        have hx : 680 * r + 1 + 3 * T 0 0 = 680 * r + 1 + 3 * T 0 0 := rfl
        have qN : qT r M N2 := q1.tr (q2.T.tr (fun c y z1 z2 z3 => by rw [e2, ow_upN (by omega)]))
        have n1 : N2 86 (680 * r + 1 + 3 * T 0 0) = s := by rw [e2, ow_upS]
        have n2 : ∀ y, y ≠ 680 * r + 1 + 3 * T 0 0 → N2 86 y = M 86 y := fun y hy => by rw [e2, ow_upN (Or.inr hy), o2 86 y (by simp) (by simp)]; exact s86 y
        have n3 : N2 83 21 = 0 := by rw [e2, ow_upN (Or.inl (by decide)), w2]; exact w21
        have n4 : N2 83 23 = (if s = 0 then 1 else T 0 4) + 2 * (if s = 1 then 1 else T 0 7) := by rw [e2, ow_upN (Or.inl (by decide)), o2 83 23 (by simp) (by simp)]; exact w23
        have n17 : N2 83 17 = T 0 1 := g3.2.2.2.1
        rw [n17]
        -- the end
        have fin : f1 = 0 → ∀ M5, bo n t m r N2 s (680 * r + 1 + 3 * T 0 0) T j1 T1 M5 → ow_At C (EM A L N) (d + 8) mX12_clause 171 [(0, (3, 83))] [] (0, 0) M5 K := by
          intro hf1 M5 hbo
          refine fin171 (d := d + 5) hp hm hr hh hqq h24 hs rfl qN n1 n2 n3 n4 hbo (fun z M' q' tr' tq' => ?_) (fun z M' q' rf' => ?_)
          · rcases hc with hc | hc | ⟨_, _, hf, hj, hT⟩
            · exact absurd hf1 hc.1
            · exact absurd z hc.2.1
            · have := hK M' q' (by rw [hj]; exact tr'.1.1) (fun _ => by rw [hj, hT]; exact ⟨tr', tq'⟩)
              rw [hf] at this; exact this
          · rcases hc with hc | hc | hc
            · exact absurd hf1 hc.1
            · have := hK M' q' (by rw [hc.2.2.2]; exact rf') (fun y => by omega)
              rw [hc.2.2.1] at this; exact this
            · exact absurd hc.2.1 z
        have dead : ∀ M5, f1 ≠ 0 → qT r N2 M5 → rf n t M5 j1 → ow_At C (EM A L N) (d + 8) mX12_clause 134 [(0, (3, 83)), (1, (0, s)), (3, (0, 680 * r + 1 + 3 * T 0 0)), (4, (0, T 0 1))] [(0, f1)] (0, 0) M5 K := by
          intro M5 hf1 q5 rf5
          refine cX12_clause_134 ⟨fun z => absurd z hf1, fun _ => ?_⟩
          rcases hc with hc | hc | hc
          · rw [← hc.2.1]; exact hK M5 (qN.tr q5) (by rw [hc.2.2]; exact rf5) (fun y => by omega)
          · exact absurd hc.1 hf1
          · exact absurd hc.1 hf1
        -- behind codes
        have code : ∀ M5 E5, s ≤ 1 → f1 = 0 → qS r N2 M5 → rr n t r M5 j1 E5 → M5 83 21 = 0 → j1 ≤ m → 0 ≤ E5.1 → E5.1 ≤ j1 → T1 = tst T s (T 0 1) E5.1 E5 → ow_At C (EM A L N) (d + 8) mX12_clause 134 [(0, (3, 83)), (1, (0, s)), (3, (0, 680 * r + 1 + 3 * T 0 0)), (4, (0, T 0 1))] [(0, 0)] (0, 0) M5 K := by
          intro M5 E5 hs1 hf1 q5 g5 w5 jm e0 e1 hT1
          refine cX12_clause_134 ⟨fun _ => ⟨fun z => by omega, fun _ => ⟨⟨by omega, by omega⟩, ⟨by omega, by omega⟩, fun N5 e5 => ?_⟩⟩, fun z => absurd rfl z⟩
          have g6 := g5.hd e5 (by omega)
          have e17 : N5 83 17 = E5.1 := g6.2.2.2.1
          rw [e17]
          refine ⟨⟨by omega, by omega⟩, ⟨by omega, by omega⟩, fun N6 e6 => fin hf1 N6 ?_⟩
          have g7 := g6.hd e6 (by omega)
          refine ⟨T 0 1, E5.1, E5, ?_, g7, hT1, ?_, ?_, fun y y0 y1 y2 y3 => ?_, ?_, ?_, jm, e0, e1⟩
          · exact q5.T.tr (fun c y z1 z2 z3 => by rw [e6, ow_upN (by omega), e5, ow_upN (by omega)])
          · rw [e6, ow_upN (Or.inr (by omega)), e5, ow_upS]
          · rw [e6, ow_upS]
          · rw [e6, ow_upN (Or.inr y3), e5, ow_upN (Or.inr y2), q5 86 y (by decide) (by omega) (by omega)]
          · rw [e6, ow_upN (Or.inl (by decide)), e5, ow_upN (Or.inl (by decide)), w5, n3]
          · rw [e6, ow_upN (Or.inl (by decide)), e5, ow_upN (Or.inl (by decide)), q5 83 23 (by decide) (by omega) (by omega)]
        have es : s = 0 ∨ s = 1 ∨ s = 2 ∨ s = 3 := by omega
        rcases es with e | e | e | e
        · rcases hb with ⟨_, E5, hb, hT1⟩ | ⟨z, _⟩ | ⟨z, _⟩ | ⟨z, _⟩
          · refine ⟨fun _ => ⟨fun _ => ⟨fun z => absurd e z, fun _ => tX12_either (d := d) hp hm hr g3 n3 t4.1 (by show T 0 1 ≤ i + 1; omega) (by omega) hb (fun M5 q5 rf5 g5 => ?_)⟩, fun z => by omega⟩, fun z => by omega⟩
            by_cases hf1 : f1 = 0
            · obtain ⟨g6, w6, jm⟩ := g5 hf1
              have b1 := mayR_b hb hf1
              have ee : (tE T).1 = T 0 1 := rfl
              rw [hf1]
              exact code M5 E5 (by omega) hf1 q5 g6 w6 jm (by omega) (by omega) (by rw [hT1 hf1, e])
            · exact dead M5 hf1 q5.T rf5
          · omega
          · omega
          · omega
        · rcases hb with ⟨z, _⟩ | ⟨_, E5, hb, hT1⟩ | ⟨z, _⟩ | ⟨z, _⟩
          · omega
          · refine ⟨fun _ => ⟨fun _ => ⟨fun _ => tX12_summed (d := d + 2) (m := m) hp hm hr g3 n3 t4.1 (by show T 0 1 ≤ i + 1; omega) (by omega) ⟨by decide, by decide⟩ hb (fun M5 q5 rf5 g5 => ?_), fun z => by omega⟩, fun z => by omega⟩, fun z => by omega⟩
            by_cases hf1 : f1 = 0
            · obtain ⟨g6, w6, jm⟩ := g5 hf1
              have b1 := sumR_b hb hf1
              have ee : (tE T).1 = T 0 1 := rfl
              rw [hf1]
              exact code M5 E5 (by omega) hf1 q5 g6 w6 jm (by omega) (by omega) (by rw [hT1 hf1, e])
            · exact dead M5 hf1 q5.T rf5
          · omega
          · omega
        · rcases hb with ⟨z, _⟩ | ⟨z, _⟩ | ⟨_, hb⟩ | ⟨z, _⟩
          · omega
          · omega
          · refine ⟨fun z => absurd e z, fun _ => tX12_booked (d := d + 3) ho hp hm hr g3 (by omega) (by omega) ⟨t4.1, by omega⟩ ⟨by omega, by omega⟩ hb (fun hf1 M5 hbo => ?_) (fun hf1 M5 q5 rf5 => dead M5 hf1 q5 rf5)⟩
            have hbo' : bo n t m r N2 s (680 * r + 1 + 3 * T 0 0) T j1 T1 M5 := by rw [e]; exact hbo
            exact cX12_clause_134 ⟨fun _ => ⟨fun _ => fin hf1 M5 hbo', fun z => by omega⟩, fun z => absurd rfl z⟩
          · omega
        · rcases hb with ⟨z, _⟩ | ⟨z, _⟩ | ⟨z, _⟩ | ⟨_, hb⟩
          · omega
          · omega
          · omega
          · refine ⟨fun _ => ⟨fun z => absurd e z, fun _ => tX12_led (d := d + 3) hp hm hr g3 (by omega) (by omega) ⟨t4.1, by omega⟩ ⟨by omega, by omega⟩ hb (fun hf1 M5 hbo => ?_) (fun hf1 M5 q5 rf5 => dead M5 hf1 q5 rf5)⟩, fun z => by omega⟩
            have hbo' : bo n t m r N2 s (680 * r + 1 + 3 * T 0 0) T j1 T1 M5 := by rw [e]; exact hbo
            exact cX12_clause_134 ⟨fun _ => ⟨fun _ => fin hf1 M5 hbo', fun z => by omega⟩, fun z => absurd rfl z⟩
    have at30 : ¬ dupl T s → ow_At C (EM A L N) (d + 8) mX12_clause 30 [(0, (3, 83)), (1, (0, s))] [] (0, 0) M K := by
      intro hd
      refine cX12_clause_30 ?_
      rw [e15, h2]
      refine ⟨⟨by omega, by omega⟩, fun z => ⟨fun z2 => ?_, fun z2 N1 e1 => ?_⟩, fun z => ?_⟩
      · refine at65 M hd (by omega) qT.rf h1 (fun _ => rfl) h4 ?_
        rw [if_neg (by omega), if_neg (by omega)]; exact h5
      · rw [h5, (on_bit t1 t2 (show s = 0 ∨ s = 1 by omega)).2] at e1
        have s1 : ∀ c y, ¬ (c = 83 ∧ y = 23) → N1 c y = M c y := fun c y z => by rw [e1, ow_upN (by omega)]
        refine at65 N1 hd (by omega) (fun c y y1 y2 y3 => s1 c y (by omega)) (h1.fr (fun y hy => s1 _ _ (by omega)) (fun y => s1 _ _ (by omega)) (fun y => s1 _ _ (by omega))) (fun y => s1 _ _ (by omega)) (by rw [s1 _ _ (by omega)]; exact h4) (by rw [e1, ow_upS])
      · rcases hc with hc | hc | hc
        · exact absurd hc.1 hd
        · have := tell (by omega) hc.2.2.2
          rw [hc.2.2.1] at this; exact this
        · omega
    refine ⟨fun _ => ⟨fun z => at30 (fun y => by rcases y with y | y <;> omega), fun z => ?_⟩, fun z => by omega⟩
    rw [h5]
    have ob := (on_bit t1 t2 (show s = 0 ∨ s = 1 by omega)).1
    refine ⟨fun y => at30 (fun y2 => y (ob.2 y2)), fun y => ?_⟩
    rcases hc with hc | hc | hc
    · have := tell (by omega) hc.2.2
      rw [hc.2.1] at this; exact this
    · exact absurd (ob.1 y) hc.1
    · exact absurd (ob.1 y) hc.1
end RFZ
