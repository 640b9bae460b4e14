/-! ===== questions by the reference ===== -/
def pn : Nat → pm_E → pm_E
  | 0, E => E
  | l + 1, E => pn l (pe E (-24))
section RFV
variable {C : ow_C} {A L N : Int} {d : Nat} {n : Int} {t : Int → Int} {m r : Int}
theorem pn_1 : ∀ (l : Nat) (E : pm_E), (pn l E).1 = E.1 + l := by
  intro l
  induction l with
  | zero => intro E; show E.1 = E.1 + 0; omega
  | succ l ih => intro E; show (pn l (pe E (-24))).1 = _; rw [ih]; show E.1 + 1 + (l : Int) = E.1 + ((l + 1 : Nat) : Int); omega
theorem rr_next {M : ow_M} {K : Int → ow_M → Prop} {i : Int} {E : pm_E} (hp : tp_ok n t) (h : rr n t r M i E) (i0 : 0 ≤ i) (hK : ∀ M', ow_of [] [(83, 10), (83, 11), (83, 12), (83, 13), (83, 14)] M M' → qS r M M' → M' 83 21 = M 83 21 → rr n t r M' (i + 1) E → K 0 M') : ow_Sp C (EM A L N) (d + 2) mX12_nextToken (0, 0) [(3, 83)] M K := by
  obtain ⟨⟨a1, a2, a3, a4, a5⟩, b, c1, c2, c3⟩ := h
  refine tX12_nextToken hp b (show 0 ≤ i + 1 by omega) (by rw [a1, show (i + 1).toNat = i.toNat + 1 by omega]) (fun M' oo hf => ?_)
  have s : ∀ c j, ¬ (c = 83 ∧ 10 ≤ j ∧ j ≤ 14) → M' c j = M c j := fun c j q => oo c j (by simp) (by simp <;> omega)
  exact hK M' oo (fun c j q1 q2 q3 => s c j (by omega)) (s _ _ (by omega)) ⟨hf, ⟨by rw [s _ _ (by omega)]; exact b.1, fun j j0 j1 => by rw [s _ _ (by omega)]; exact b.2 j j0 j1⟩, by rw [s _ _ (by omega)]; exact c1, by rw [s _ _ (by omega)]; exact c2, fun k k0 k1 => by rw [s _ _ (by omega), s _ _ (by omega)]; exact c3 k k0 k1⟩
theorem cm_cmp {c : Int} (h : -20 ≤ c ∧ c ≤ -15) : 0 ≤ cm_o c ∧ cm_v c = 0 := by
  unfold cm_o cm_v
  rw [if_neg (by omega), if_neg (by omega), if_neg (by omega), if_neg (by omega), if_pos (by omega), if_neg (by omega), if_neg (by omega)]
  omega
theorem askB_b {i o f j : Int} {E E' : pm_E} (h : askB n t i o E f j E') (hf : f = 0) : i < j ∧ E'.1 + i ≤ E.1 + j ∧ E.1 ≤ E'.1 := by
  obtain ⟨f1, j1, E1, h1, h2 | h2 | ⟨h2, h3, E2, h4, h5⟩⟩ := h
  · omega
  · omega
  · rcases h1 with ⟨_, _, a1, a2, a3⟩ | ⟨z, _⟩
    · rcases h4 with ⟨_, _, b1, b2, b3⟩ | ⟨z, _⟩
      · rw [h5 hf]
        refine ⟨by omega, ?_, ?_⟩
        · show E2.1 + 1 + i ≤ E.1 + j
          omega
        · show E.1 ≤ E2.1 + 1
          omega
      · exact absurd hf z
    · exact absurd h2 z
theorem askR_b : ∀ (k : Nat) {i f j : Int} {E E' : pm_E}, askR n t k i E f j E' → f = 0 → i < j ∧ E'.1 + i ≤ E.1 + j ∧ E.1 ≤ E'.1 := by
  intro k
  induction k with
  | zero =>
    intro i f j E E' h hf
    rcases h with h | h
    · omega
    · exact askB_b h.2 hf
  | succ k ih =>
    intro i f j E E' h hf
    rcases h with ⟨_, E1, h1, h2⟩ | h
    · have := ih h1 hf
      rw [h2 hf]
      refine ⟨by omega, ?_, ?_⟩
      · show E1.1 + 1 + i ≤ E.1 + j
        omega
      · show E.1 ≤ E1.1 + 1
        omega
    · exact askB_b h.2 hf
/-- the pending denials -/
theorem asks_n (hr : 0 ≤ r ∧ r < 4) {l1 : Int} {j : Int} (m3 : j ≤ 300) {M0 : ow_M} {K : Int → ow_M → Prop} : ∀ (q : Nat) (E : pm_E) (s : ow_M), (q : Int) ≤ l1 → l1 ≤ 8 → qS r M0 s → rr n t r s j E → s 83 21 = 0 → 0 ≤ E.1 → E.1 + q ≤ j → (∀ M', qS r M0 M' → rr n t r M' j (pn q E) → M' 83 21 = 0 → K 0 M') → ow_At C (EM A L N) (d + 1) mX12_asks 105 [(0, (3, 83)), (1, (0, l1)), (4, (0, l1 - q))] [] (0, 0) s K := by
  intro q
  induction q with
  | zero =>
    intro E s hq h8 os hs ho h0 hE hK
    exact cX12_asks_105 ⟨fun _ => hK s os hs ho, fun z => by omega⟩
  | succ q ih =>
    intro E s hq h8 os hs ho h0 hE hK
    refine cX12_asks_105 ⟨fun z => by omega, fun _ => tX12_emit (v := -24) hr hs h0 (by omega) rfl rfl (fun M2 q2 s83 _ g2 => ⟨⟨by omega, by omega⟩, ?_⟩)⟩
    rw [show l1 - ((q + 1 : Nat) : Int) + 1 = l1 - (q : Int) by omega]
    exact ih (pe E (-24)) M2 (by omega) h8 (os.tr q2) g2 (by rw [s83 _ (by decide)]; exact ho) (by show 0 ≤ E.1 + 1; omega) (by show E.1 + 1 + (q : Int) ≤ j; omega) hK
theorem asks_l (hp : tp_ok n t) (hm : te_ok n t m) (hr : 0 ≤ r ∧ r < 4) {M0 : ow_M} {K : Int → ow_M → Prop} : ∀ (k l : Nat) (i f j : Int) (E E' : pm_E) (s : ow_M), k + l = 8 → qS r M0 s → rr n t r s i E → s 83 21 = (l : Int) → 0 ≤ E.1 → E.1 + l ≤ i → i ≤ m → askR n t k i E f j E' → (∀ M', qS r M0 M' → rf n t M' j → (f = 0 → rr n t r M' j (pn l E') ∧ M' 83 21 = 0 ∧ j ≤ m) → K f M') → ow_At C (EM A L N) (d + 6) mX12_asks 2 [(0, (3, 83)), (1, (0, (l : Int)))] [] (0, 0) s K := by
  have m3 := hm.1
  -- a comparison
  have base : ∀ (l : Nat) (i f j : Int) (E E' : pm_E) (s : ow_M), l ≤ 8 → qS r M0 s → rr n t r s i E → s 83 21 = (l : Int) → 0 ≤ E.1 → E.1 + l ≤ i → i ≤ m → nx n t i ≠ 13 → askB n t i (l : Int) E f j E' → (∀ M', qS r M0 M' → rf n t M' j → (f = 0 → rr n t r M' j (pn l E') ∧ M' 83 21 = 0 ∧ j ≤ m) → K f M') → ow_At C (EM A L N) (d + 6) mX12_asks 2 [(0, (3, 83)), (1, (0, (l : Int)))] [] (0, 0) s K := by
    intro l i f j E E' s hl os hs ho h0 hE hi hn hb hK
    have bb := fun z => askB_b hb z
    obtain ⟨f1, j1, E1, h1, h2⟩ := hb
    refine cX12_asks_2 (wk3 (k := 13) wcs2.2.2.2.2.2.2.2 (isW hs.1 (by decide) ?_))
    have hn' : ¬ nx n t i = ((13 : Nat) : Int) := hn
    rw [if_neg hn']
    refine ⟨fun _ => tX12_summed (m := m) hp hm hr hs ho h0 (by omega) hi (by omega) h1 (fun M1 q1 rf1 g1 => ⟨fun z => ?_, fun z => ?_⟩), fun z => absurd rfl z⟩
    · obtain ⟨g2, g3, g4⟩ := g1 z
      have b1 : i < j1 ∧ E1.1 + i ≤ E.1 + j1 ∧ E.1 ≤ E1.1 := by
        rcases h1 with ⟨_, _, a⟩ | ⟨y, _⟩
        · exact a
        · exact absurd z y
      refine tX12_compareOf rf1 ?_
      rcases h2 with h2 | h2 | ⟨_, hc, E2, h4, h5⟩
      · exact absurd z h2.1
      · rw [if_pos h2.2.1]
        refine ⟨fun y => absurd y (by decide), fun _ => ?_⟩
        rw [← h2.2.2.1]
        exact hK M1 (os.tr q1) (by rw [h2.2.2.2]; exact rf1) (fun y => by omega)
      · rw [if_neg hc]
        have cr := cmp_rg (k := kx n t j1)
        have cr' : -20 ≤ cmp_ (kx n t j1) ∧ cmp_ (kx n t j1) ≤ -15 := by omega
        have co := cm_cmp cr'
        have kn : kx n t j1 ≠ 0 := fun e => by rw [e] at hc; exact absurd rfl hc
        have jl := kx_lt hm g4 kn
        refine ⟨fun _ => rr_next hp g2 (by omega) (fun M2 _ q2 o2 g5 => ?_), fun y => by omega⟩
        refine tX12_summed (m := m) hp hm hr g5 (by rw [o2]; exact g3) (by omega) (by omega) (by omega) (by omega) h4 (fun M3 q3 rf3 g6 => ⟨fun y => ?_, fun y => ?_⟩)
        · obtain ⟨g7, g8, g9⟩ := g6 y
          have b2 := bb y
          have e5 := h5 y
          have e6 : E'.1 = E2.1 + 1 := by rw [e5]; rfl
          have b3 : E1.1 ≤ E2.1 := by
            rcases h4 with ⟨_, _, a⟩ | ⟨y', _⟩
            · exact a.2.2
            · exact absurd y y'
          refine tX12_emit (v := cmp_ (kx n t j1)) hr g7 (by omega) (by omega) rfl co.2.symm (fun M4 q4 s83 _ g10 => ?_)
          rw [s83 21 (by decide), g8]
          refine ⟨⟨by omega, by omega⟩, fun N8 e8 => ?_⟩
          have s8 : ∀ c x, ¬ (c = 83 ∧ x = 21) → N8 c x = M4 c x := fun c x z => by rw [e8, ow_upN (by omega)]
          rw [← e5] at g10
          have g11 : rr n t r N8 j E' := g10.fr (fun x hx => s8 _ _ (by omega)) (fun x => s8 _ _ (by omega)) (fun x => s8 _ _ (by omega))
          have q8 : qS r M4 N8 := fun c x z1 z2 z3 => s8 c x (by omega)
          have := asks_n (C := C) (A := A) (L := L) (N := N) (d := d + 5) (M0 := M0) (K := K) hr (l1 := (l : Int)) (j := j) (by omega) l E' N8 (Int.le_refl _) (by omega) (os.tr (q1.tr (q2.tr (q3.tr (q4.tr q8))))) g11 (by rw [e8, ow_upS]; omega) (by omega) (by omega) (fun M' q' g' o' => by
            have := hK M' q' g'.1 (fun _ => ⟨g', o', g9⟩)
            rw [y] at this; exact this)
          rw [show (l : Int) - (l : Int) = 0 by omega] at this
          exact this
        · exact hK M3 (os.tr (q1.tr (q2.tr q3))) rf3 (fun z' => absurd z' y)
    · rcases h2 with h2 | h2 | h2
      · rw [← h2.2.1]
        exact hK M1 (os.tr q1) (by rw [h2.2.2]; exact rf1) (fun y => by omega)
      · exact absurd h2.1 z
      · exact absurd h2.1 z
  intro k
  induction k with
  | zero =>
    intro l i f j E E' s hkl os hs ho h0 hE hi ha hK
    rcases ha with ⟨hn, hf, hj⟩ | ⟨hn, hb⟩
    · refine cX12_asks_2 (wk3 (k := 13) wcs2.2.2.2.2.2.2.2 (isW hs.1 (by decide) ?_))
      rw [if_pos (show nx n t i = ((13 : Nat) : Int) from hn)]
      refine ⟨fun z => absurd z (by decide), fun _ => ⟨fun z => by omega, fun _ => ?_⟩⟩
      have := hK s os (by rw [hj]; exact hs.1) (fun y => by omega)
      rw [hf] at this; exact this
    · exact base l i f j E E' s (by omega) os hs ho h0 hE hi hn (by rw [show (l : Int) = 8 by omega]; exact hb) hK
  | succ k ih =>
    intro l i f j E E' s hkl os hs ho h0 hE hi ha hK
    rcases ha with ⟨hn, E1, h1, h2⟩ | ⟨hn, hb⟩
    · refine cX12_asks_2 (wk3 (k := 13) wcs2.2.2.2.2.2.2.2 (isW hs.1 (by decide) ?_))
      rw [if_pos (show nx n t i = ((13 : Nat) : Int) from hn)]
      have il := (nx_lt hm hi (show 0 ≤ nx n t i by omega)).1
      refine ⟨fun z => absurd z (by decide), fun _ => ⟨fun _ => ⟨⟨by omega, by omega⟩, fun N9 e9 => ⟨⟨by omega, by omega⟩, ?_⟩⟩, fun z => by omega⟩⟩
      have s9 : ∀ c x, ¬ (c = 83 ∧ x = 21) → N9 c x = s c x := fun c x z => by rw [e9, ow_upN (by omega)]
      have g9 : rr n t r N9 i E := hs.fr (fun x hx => s9 _ _ (by omega)) (fun x => s9 _ _ (by omega)) (fun x => s9 _ _ (by omega))
      have q9 : qS r s N9 := fun c x z1 z2 z3 => s9 c x (by omega)
      refine rr_next hp g9 (by omega) (fun M2 _ q2 o2 g5 => ?_)
      have := ih (l + 1) (i + 1) f j E E1 M2 (by omega) (os.tr (q9.tr q2)) g5 (by rw [o2, e9, ow_upS, ho]; omega) h0 (by omega) (by omega) h1 (fun M' q' rf' g' => hK M' q' rf' (fun y => by
        have := g' y
        rw [h2 y]; exact this))
      rw [show (((l + 1 : Nat)) : Int) = (l : Int) + 1 by omega] at this
      exact this
    · exact base l i f j E E' s (by omega) os hs ho h0 hE hi hn (by rw [show (l : Int) = 7 - (k : Int) by omega]; exact hb) hK
theorem tX12_asks (hp : tp_ok n t) (hm : te_ok n t m) (hr : 0 ≤ r ∧ r < 4) {M : ow_M} {K : Int → ow_M → Prop} {i f j : Int} {E E' : pm_E} (h : rr n t r M i E) (ho : M 83 21 = 0) (h0 : 0 ≤ E.1) (hE : E.1 ≤ i) (hi : i ≤ m) (ha : askR n t 8 i E f j E') (hK : ∀ M', qS r M M' → rf n t M' j → (f = 0 → rr n t r M' j E' ∧ M' 83 21 = 0 ∧ j ≤ m) → K f M') : ow_Sp C (EM A L N) (d + 6) mX12_asks (0, 0) [(3, 83)] M K := fX12_asks (asks_l hp hm hr (M0 := M) 8 0 i f j E E' M rfl qS.rf h ho h0 (by show E.1 + 0 ≤ i; omega) hi ha hK)
end RFV
