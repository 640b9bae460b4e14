/-! ===== taking out ===== -/
section TKS
variable {C : ow_C} {A L N : Int} {d : Nat} {M : ow_M} {K : Int → ow_M → Prop} {n : Int} {w p : Int → Int}
theorem bk_cut_lo {f : Int → Int} {j k : Int} (h : k < j) : bk_cut f j k = f k := if_pos h
theorem bk_cut_hi {f : Int → Int} {j k : Int} (h : j ≤ k) : bk_cut f j k = f (k + 1) := if_neg (by omega)
theorem tX0_drop (h : em_ok A L N) (hok : bk_ok N n w p) (hB : bk_C N M 6 n w p) {x : Int} (h1 : (∀ k, 0 ≤ k → k < n → w k ≠ x) → K 0 M)
    (h2 : ∀ j, 0 ≤ j → j < n → w j = x → ∀ M', ow_off [6, 7, 8, 9] M M' → bk_C N M' 6 (n - 1) (bk_cut w j) (bk_cut p j) → K 1 M') : ow_Sp C (EM A L N) (d + 1) mX0_drop (0, 0) [(3, 6), (0, x)] M K := by
  have hok' := hok
  obtain ⟨b0, b1, b2, b3⟩ := hB
  obtain ⟨o0, o1, o2, o3⟩ := hok
  refine fX0_drop (tX10_isWord (fun hx => ⟨fun _ => h1 (fun k k0 k1 e => hx (by rw [← e]; exact (o2 k k0 k1).1)), fun z => absurd rfl z⟩) (fun hx => ⟨fun z => absurd z (by decide), fun _ => ⟨hx, fun hh => ?_, fun hh => ?_⟩⟩))
  · obtain ⟨j, j0, j1, je⟩ : ∃ j, 0 ≤ j ∧ j < n ∧ w j = x := by
      refine Classical.byContradiction (fun hno => hh (b3 x hx.1 hx.2 (fun k k0 k1 e => hno ⟨k, k0, k1, e⟩)))
    rintro N2 rfl
    have key := ow_upto (P := fun i (s : Int × ow_M) => ow_At C (EM A L N) (d + 1) mX0_drop 33 [(0, (3, 6)), (1, (0, x)), (2, (0, s.1)), (3, (0, i))] [] (0, 0) s.2 K)
      (I := fun i s => 0 ≤ i ∧ s.1 = (if i ≤ j then i else i - 1) ∧ s.2 6 4 = n ∧ ow_off [6, 7, 8, 9] M s.2 ∧ (∀ y, s.2 9 y = if y = x then 0 else M 9 y) ∧ ∀ k, 0 ≤ k → k < n → s.2 7 k = (if k < s.1 then bk_cut w j k else w k) ∧ s.2 8 k = (if k < s.1 then bk_cut p j k else p k)) n (fun s hI => ?_) (fun i s hlt hI ih => ?_) 0 (0, ow_up M 9 x 0) o0 ?_
    · exact key
    · obtain ⟨i0, i1, i2, i3, i4, i5⟩ := hI
      have e1 : s.1 = n - 1 := by rw [i1, if_neg (by omega)]
      refine cX0_drop_33 ⟨fun _ => ?_, fun q => by omega⟩
      rintro N1 rfl
      refine h2 j j0 j1 je _ (i3.up (by decide)) ⟨by rw [ow_upS]; exact e1, fun k k0 k1 => ?_, fun k k0 k1 => ?_, fun y y0 y1 hy => ?_⟩
      · have := i5 k k0 (by omega)
        rw [if_pos (by omega), if_pos (by omega)] at this
        simpa [ow_up] using this
      · have hne : bk_cut w j k ≠ x := by
          rw [← je]
          by_cases e : k < j
          · rw [bk_cut_lo e]; exact o3 k j k0 e j1
          · rw [bk_cut_hi (by omega)]; exact fun e2 => o3 j (k + 1) j0 (by omega) (by omega) e2.symm
        have e2 : M 9 (bk_cut w j k) = 1 := by
          by_cases e : k < j
          · rw [bk_cut_lo e]; exact b2 k k0 (by omega)
          · rw [bk_cut_hi (by omega)]; exact b2 (k + 1) (by omega) (by omega)
        have := i4 (bk_cut w j k)
        rw [if_neg hne, e2] at this
        simpa [ow_up] using this
      · have := i4 y
        by_cases e : y = x
        · rw [if_pos e] at this
          simpa [ow_up] using this
        · rw [if_neg e] at this
          have e2 : M 9 y = 0 := b3 y y0 y1 (fun k k0 k1 e2 => by
            by_cases c1 : k < j
            · exact hy k k0 (by omega) (by rw [bk_cut_lo c1]; exact e2)
            · by_cases c2 : k = j
              · subst c2; exact e (e2.symm.trans je)
              · exact hy (k - 1) (by omega) (by omega) (by rw [bk_cut_hi (by omega), show k - 1 + 1 = k by omega]; exact e2))
          rw [e2] at this
          simpa [ow_up] using this
    · obtain ⟨i0, i1, i2, i3, i4, i5⟩ := hI
      obtain ⟨g1, g2⟩ := i5 i i0 hlt
      have hs : s.1 ≤ i := by rw [i1]; split <;> omega
      rw [if_neg (by omega)] at g1 g2
      refine cX0_drop_33 ⟨fun q => by omega, fun _ => ⟨⟨i0, by omega⟩, fun he => ?_, fun hne => ?_⟩⟩
      · rw [g1] at he
        have hij : i = j := bk_ok_inj hok' ⟨i0, hlt⟩ ⟨j0, j1⟩ (he.trans je.symm)
        refine ⟨⟨by omega, by omega⟩, ih (s.1, s.2) ⟨by omega, ?_, i2, i3, i4, i5⟩⟩
        show s.1 = _
        rw [i1, if_pos (by omega), if_neg (by omega)]; omega
      · rw [g1] at hne
        have hij : i ≠ j := fun e => hne (by rw [e]; exact je)
        have hs0 : 0 ≤ s.1 := by rw [i1]; split <;> omega
        refine ⟨⟨hs0, by omega⟩, ?_⟩
        intro N2 e2
        refine ?_
        intro N3 e3
        refine ⟨⟨by omega, by omega⟩, ⟨by omega, by omega⟩, ih (s.1 + 1, N3) ?_⟩
        subst e3
        subst e2
        refine ⟨by omega, ?_, ?_, (i3.up (by decide)).up (by decide), fun y => ?_, fun k k0 k1 => ?_⟩
        · show s.1 + 1 = _
          rw [i1]
          by_cases c1 : i < j
          · rw [if_pos (by omega), if_pos (by omega)]
          · rw [if_neg (by omega), if_neg (by omega)]; omega
        · dsimp only
          rw [ow_upN (Or.inl (by decide)), ow_upN (Or.inl (by decide))]; exact i2
        · dsimp only
          rw [ow_upN (Or.inl (by decide)), ow_upN (Or.inl (by decide))]; exact i4 y
        · have hcw : w i = bk_cut w j s.1 ∧ p i = bk_cut p j s.1 := by
            rw [i1]
            by_cases c1 : i < j
            · rw [if_pos (by omega), bk_cut_lo c1, bk_cut_lo c1]; exact ⟨rfl, rfl⟩
            · rw [if_neg (by omega), bk_cut_hi (by omega), bk_cut_hi (by omega), show i - 1 + 1 = i by omega]; exact ⟨rfl, rfl⟩
          obtain ⟨q1, q2⟩ := i5 k k0 k1
          by_cases c1 : k = s.1
          · subst c1
            dsimp only
            rw [if_pos (by omega), if_pos (by omega)]
            refine ⟨?_, ?_⟩
            · rw [ow_upN (Or.inl (by decide)), ow_upS, g1]; exact hcw.1
            · rw [ow_upS, ow_upN (Or.inl (by decide)), g2]; exact hcw.2
          · have c2 : (k < s.1 + 1) = (k < s.1) := propext ⟨fun _ => by omega, fun _ => by omega⟩
            simp only [c2]
            rw [ow_upN (Or.inr (by omega)), ow_upN (Or.inr (by omega)), ow_upN (Or.inr (by omega)), ow_upN (Or.inr (by omega))]
            exact ⟨q1, q2⟩
    · refine ⟨by omega, ?_, ?_, ow_off.rf.up (by decide), fun y => ?_, fun k k0 k1 => ?_⟩
      · show (0 : Int) = _
        rw [if_pos j0]
      · simpa [ow_up] using b0
      · simp [ow_up]
      · have := b1 k k0 k1
        have c : ¬ k < 0 := by omega
        simpa [ow_up, c] using this
  · refine h1 (fun k k0 k1 e => ?_)
    have := b2 k k0 k1
    rw [e] at this
    rw [show (6 : Int) + 3 = 9 from rfl] at this
    omega
theorem tX11_take (h : em_ok A L N) (hok : bk_ok N n w p) (hB : bk_C N M 6 n w p) {x : Int} (h1 : (∀ k, 0 ≤ k → k < n → w k ≠ x) → K (-1) M)
    (h2 : ∀ j, 0 ≤ j → j < n → w j = x → ∀ M', ow_off [6, 7, 8, 9] M M' → bk_C N M' 6 (n - 1) (bk_cut w j) (bk_cut p j) → K (n - 1) M') : ow_Sp C (EM A L N) (d + 2) mX11_take (0, 0) [(3, 0), (0, x)] M K := by
  refine fX11_take (tX0_drop h hok hB (fun z => ⟨fun _ => h1 z, fun q => absurd rfl q⟩) (fun j z1 z2 z3 M' ho hB' => ⟨fun q => absurd q (by decide), fun _ => ?_⟩))
  rw [hB'.1]
  exact h2 j z1 z2 z3 M' ho hB'
theorem tX12_take (hok : bk_ok N n w p) (hB : bk_M M 84 n w p) {x : Int} (h1 : (∀ k, 0 ≤ k → k < n → w k ≠ x) → K (-1) M)
    (h2 : ∀ j, 0 ≤ j → j < n → w j = x → ∀ M', ow_off [84] M M' → (∀ i, ¬ (i = 2 ∨ (10 ≤ i ∧ i < 90)) → M' 84 i = M 84 i) → bk_M M' 84 (n - 1) (bk_cut w j) (bk_cut p j) → K (n - 1) M') : ow_Sp C (EM A L N) (d + 2) mX12_take (0, 0) [(3, 83), (0, x)] M K := by
  have hok' := hok
  obtain ⟨o0, o1, o2, o3⟩ := hok
  refine fX12_take (tX12_placeIn hok' hB (fun hno => ⟨fun z => absurd z (by decide), fun _ => h1 hno⟩) (fun j j0 j1 je => ⟨fun _ => ?_, fun z => by omega⟩))
  obtain ⟨b0, b1⟩ := hB
  rw [b0]
  refine ⟨⟨by omega, by omega⟩, ?_⟩
  rintro N2 rfl
  refine ow_upto (P := fun i (s : ow_M) => ow_At C (EM A L N) (d + 2) mX12_take 22 [(0, (3, 83)), (2, (0, i))] [] (0, 0) s K)
      (I := fun i s => j ≤ i ∧ s 84 2 = n - 1 ∧ ow_off [84] M s ∧ (∀ i, ¬ (i = 2 ∨ (10 ≤ i ∧ i < 90)) → s 84 i = M 84 i) ∧ ∀ k, 0 ≤ k → k < n → s 84 (10 + 2 * k) = (if k < i then bk_cut w j k else w k) ∧ s 84 (11 + 2 * k) = (if k < i then bk_cut p j k else p k)) (n - 1) (fun s hI => ?_) (fun i s hlt hI ih => ?_) j (ow_up M 84 2 (n - 1)) (by omega) ?_
  · obtain ⟨i0, i1, i2, i3, i4⟩ := hI
    refine cX12_take_22 ⟨fun _ => ?_, fun q => by omega⟩
    rw [i1]
    refine h2 j j0 j1 je _ i2 i3 ⟨i1, fun k k0 k1 => ?_⟩
    have := i4 k k0 (by omega)
    rw [if_pos k1, if_pos k1] at this
    exact this
  · obtain ⟨i0, i1, i2, i3, i4⟩ := hI
    refine cX12_take_22 ⟨fun q => by omega, fun _ => ⟨⟨by omega, by omega⟩, ⟨by omega, by omega⟩, ⟨by omega, by omega⟩, ⟨by omega, by omega⟩, ⟨by omega, by omega⟩, ?_⟩⟩
    rintro N1 rfl
    refine ⟨⟨by omega, by omega⟩, ⟨by omega, by omega⟩, ⟨by omega, by omega⟩, ⟨by omega, by omega⟩, ?_⟩
    rintro N2 rfl
    obtain ⟨g1, g2⟩ := i4 (i + 1) (by omega) (by omega)
    rw [if_neg (by omega)] at g1 g2
    rw [show (10 : Int) + 2 * (i + 1) = 10 + 2 * i + 2 by omega] at g1
    rw [show (11 : Int) + 2 * (i + 1) = 10 + 2 * i + 3 by omega] at g2
    refine ⟨⟨by omega, by omega⟩, ih _ ⟨by omega, ?_, (i2.up (by decide)).up (by decide), fun q hq => ?_, fun k k0 k1 => ?_⟩⟩
    · rw [ow_upN (Or.inr (by omega)), ow_upN (Or.inr (by omega))]; exact i1
    · rw [ow_upN (Or.inr (by omega)), ow_upN (Or.inr (by omega))]; exact i3 q hq
    · obtain ⟨q1, q2⟩ := i4 k k0 k1
      by_cases c1 : k = i
      · subst c1
        rw [if_pos (by omega), if_pos (by omega), bk_cut_hi i0, bk_cut_hi i0]
        refine ⟨?_, ?_⟩
        · rw [ow_upN (Or.inr (by omega)), ow_upS]; exact g1
        · rw [show (11 : Int) + 2 * k = 10 + 2 * k + 1 by omega, ow_upS, ow_upN (Or.inr (by omega))]; exact g2
      · have c2 : (k < i + 1) = (k < i) := propext ⟨fun _ => by omega, fun _ => by omega⟩
        simp only [c2]
        rw [ow_upN (Or.inr (by omega)), ow_upN (Or.inr (by omega)), ow_upN (Or.inr (by omega)), ow_upN (Or.inr (by omega))]
        exact ⟨q1, q2⟩
  · refine ⟨by omega, ow_upS, ow_off.rf.up (by decide), fun q hq => ow_upN (Or.inr (by omega)), fun k k0 k1 => ?_⟩
    rw [ow_upN (Or.inr (by omega)), ow_upN (Or.inr (by omega))]
    obtain ⟨q1, q2⟩ := b1 k k0 k1
    by_cases c1 : k < j
    · rw [if_pos c1, if_pos c1, bk_cut_lo c1, bk_cut_lo c1]; exact ⟨q1, q2⟩
    · rw [if_neg c1, if_neg c1]; exact ⟨q1, q2⟩
/-! a word of the book -/
theorem tX0_has (hok : bk_ok N n w p) (hB : bk_C N M 6 n w p) {i : Int} (h1 : ¬ (0 ≤ i ∧ i < n) → K 0 M) (h2 : 0 ≤ i → i < n → K 1 M) : ow_Sp C (EM A L N) d mX0_has (0, 0) [(3, 6), (0, i)] M K := by
  have o1 := hok.2.1
  refine fX0_has ?_
  rw [hB.1]
  exact ⟨fun q => h1 (by omega), fun q => ⟨fun q2 => h1 (by omega), fun q2 => ⟨fun q3 => by omega, fun q3 => h2 q q2⟩⟩⟩
theorem tX11_book (hok : bk_ok N n w p) (hB : bk_C N M 6 n w p) {i : Int} (h0 : i = -1 → K n M) (h1 : i ≠ -1 → ¬ (0 ≤ i ∧ i < n) → K (-1) M) (h2 : 0 ≤ i → i < n → K (w i) M) : ow_Sp C (EM A L N) (d + 1) mX11_book (0, 0) [(3, 0), (0, i)] M K := by
  have o1 := hok.2.1
  refine fX11_book ⟨fun hi => tX0_has hok hB (fun q => ⟨fun _ => h1 hi q, fun z => absurd rfl z⟩) (fun q1 q2 => ⟨fun z => absurd z (by decide), fun _ => ⟨⟨q1, by omega⟩, ?_⟩⟩), fun hi => ?_⟩
  · have := (hB.2.1 i q1 q2).1
    rw [show (6 : Int) + 1 = 7 from rfl] at this
    rw [this]
    exact h2 q1 q2
  · rw [hB.1]; exact h0 hi
theorem tX12_book (hok : bk_ok N n w p) (hB : bk_M M 84 n w p) {i : Int} (h0 : i = -1 → K n M) (h1 : i ≠ -1 → ¬ (0 ≤ i ∧ i < n) → K (-1) M) (h2 : 0 ≤ i → i < n → K (w i) M) : ow_Sp C (EM A L N) (d + 1) mX12_book (0, 0) [(3, 83), (0, i)] M K := by
  have o0 := hok.1
  have o1 := hok.2.1
  refine fX12_book ⟨fun hi => ?_, fun hi => ?_⟩
  · rw [hB.1]
    refine ⟨⟨by omega, by omega⟩, tX12_isIn (fun q => ⟨fun _ => h1 hi (by omega), fun z => absurd rfl z⟩) (fun q => ⟨fun z => absurd z (by decide), fun _ => tX12_wordOf q.1 (by omega) ?_⟩)⟩
    rw [(hB.2 i q.1 (by omega)).1]
    exact h2 q.1 (by omega)
  · rw [hB.1]; exact h0 hi
end TKS
