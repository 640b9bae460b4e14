/-! ===== images ===== -/
theorem ow_cpI {E : ow_E} {M : ow_M} {a0 a n i : Int} (h : 0 ≤ i) (h2 : i < n) : ow_cp E M a0 0 a 0 n a i = ow_gv E M a0 i := by
  unfold ow_cp
  rw [if_pos ⟨rfl, h, by omega⟩, show (0 : Int) + (i - 0) = i by omega]
theorem ow_cpN {E : ow_E} {M : ow_M} {a0 a n c i : Int} (h : c ≠ a) : ow_cp E M a0 0 a 0 n c i = M c i := if_neg (fun q => h q.1)
theorem ow_off.cp {S : List Int} {M M' : ow_M} {E : ow_E} {a0 a n : Int} (h : ow_off S M M') (hc : a ∈ S) : ow_off S M (ow_cp E M' a0 0 a 0 n) := by
  intro c' hc' i'
  have hne : c' ≠ a := fun e => hc' (by rw [e]; exact hc)
  rw [ow_cpN hne]
  exact h c' hc' i'
section IMS
variable {C : ow_C} {A L N : Int} {d : Nat} {M : ow_M} {K : Int → ow_M → Prop} {h n : Int} {hd wd tm w p : Int → Int}

theorem tX0_become (h : em_ok A L N) (hok : bk_ok N n w p) (hB : bk_C N M 10 n w p) (hK : ∀ M', ow_off [6, 7, 8, 9] M M' → bk_C N M' 6 n w p → K 0 M') : ow_Sp C (EM A L N) (d + 1) mX0_become (0, 0) [(3, 6), (3, 10)] M K := by
  obtain ⟨b0, b1, b2, b3⟩ := hB
  obtain ⟨o0, o1, o2, o3⟩ := hok
  have hN := em_Npos h
  have hN2 := h.2.2.2.2.2
  refine fX0_become ⟨by decide, by decide, ?_⟩
  intro N1 e1
  refine ⟨by decide, by decide, ?_⟩
  intro N2 e2
  refine ow_upto (S := ow_M) (P := fun i s => ow_At C (EM A L N) (d + 1) mX0_become 32 [(0, (3, 6)), (1, (3, 10)), (2, (0, i))] [] (0, 0) s K) (I := fun i s => 0 ≤ i ∧ ow_off [6, 7, 8, 9] M s ∧ (∀ k, 0 ≤ k → k < n → s 7 k = w k ∧ s 8 k = p k) ∧ ∀ k, 0 ≤ k → k < i → s 9 k = M 13 k) N (fun s hI => ?_) (fun i s i1 hI ih => ?_) 0 N2 (by omega) ?_
  · obtain ⟨i0, i2, i3, i4⟩ := hI
    refine cX0_become_32 ⟨⟨by omega, by omega⟩, fun _ => ?_, fun q => by omega⟩
    intro N3 e3
    refine hK N3 (by rw [e3]; exact i2.up (by decide)) ⟨?_, fun k k0 k1 => ?_, fun k k0 k1 => ?_, fun x x0 x1 hx => ?_⟩
    · rw [e3, ow_upS, i2 10 (by decide)]; exact b0
    · rw [e3, ow_upN (Or.inl (by decide)), ow_upN (Or.inl (by decide))]; exact i3 k k0 k1
    · have := o2 k k0 k1
      rw [e3, ow_upN (Or.inl (by decide)), show (6 : Int) + 3 = 9 from rfl, i4 _ this.1.1 this.1.2]; exact b2 k k0 k1
    · rw [e3, ow_upN (Or.inl (by decide)), show (6 : Int) + 3 = 9 from rfl, i4 _ x0 x1]; exact b3 x x0 x1 hx
  · obtain ⟨i0, i2, i3, i4⟩ := hI
    have e4 : s 13 i = M 13 i := i2 13 (by decide) i
    have hb : M 13 i = 0 ∨ M 13 i = 1 := by
      by_cases hq : ∃ k, 0 ≤ k ∧ k < n ∧ w k = i
      · obtain ⟨k, k0, k1, ke⟩ := hq
        have := b2 k k0 k1
        rw [ke] at this
        exact Or.inr this
      · exact Or.inl (b3 i i0 i1 (fun k k0 k1 ke => hq ⟨k, k0, k1, ke⟩))
    refine cX0_become_32 ⟨⟨by omega, by omega⟩, fun q => by omega, fun _ => ⟨fun q => by omega, fun _ => ⟨⟨i0, i1⟩, by rw [e4]; exact hb, ?_⟩⟩⟩
    intro N3 e3
    refine ⟨⟨by omega, by omega⟩, ih N3 ⟨by omega, by rw [e3]; exact i2.up (by decide), fun k k0 k1 => ?_, fun k k0 k1 => ?_⟩⟩
    · rw [e3, ow_upN (Or.inl (by decide)), ow_upN (Or.inl (by decide))]; exact i3 k k0 k1
    · by_cases e : k = i
      · subst e; rw [e3, ow_upS]; exact e4
      · rw [e3, ow_upN (Or.inr e)]; exact i4 k k0 (by omega)
  · refine ⟨by omega, ?_, fun k k0 k1 => ?_, fun k k0 k1 => by omega⟩
    · rw [e2, e1]; exact (ow_off.rf.cp (by decide)).cp (by decide)
    · rw [e2, ow_cpN (by decide), ow_cpI k0 (by omega), e1, ow_cpI k0 (by omega), ea11, ea12, ow_cpN (by decide)]
      exact b1 k k0 k1

theorem tX0_become_b (h : em_ok A L N) (hok : bk_ok N n w p) (hB : bk_C N M 6 n w p) (hK : ∀ M', ow_off [10, 11, 12, 13] M M' → bk_C N M' 10 n w p → K 0 M') : ow_Sp C (EM A L N) (d + 1) mX0_become (0, 0) [(3, 10), (3, 6)] M K := by
  obtain ⟨b0, b1, b2, b3⟩ := hB
  obtain ⟨o0, o1, o2, o3⟩ := hok
  have hN := em_Npos h
  have hN2 := h.2.2.2.2.2
  refine fX0_become_b ⟨by decide, by decide, ?_⟩
  intro N1 e1
  refine ⟨by decide, by decide, ?_⟩
  intro N2 e2
  refine ow_upto (S := ow_M) (P := fun i s => ow_At C (EM A L N) (d + 1) mX0_become 32 [(0, (3, 10)), (1, (3, 6)), (2, (0, i))] [] (0, 0) s K) (I := fun i s => 0 ≤ i ∧ ow_off [10, 11, 12, 13] M s ∧ (∀ k, 0 ≤ k → k < n → s 11 k = w k ∧ s 12 k = p k) ∧ ∀ k, 0 ≤ k → k < i → s 13 k = M 9 k) N (fun s hI => ?_) (fun i s i1 hI ih => ?_) 0 N2 (by omega) ?_
  · obtain ⟨i0, i2, i3, i4⟩ := hI
    refine cX0_become_b_32 ⟨⟨by omega, by omega⟩, fun _ => ?_, fun q => by omega⟩
    intro N3 e3
    refine hK N3 (by rw [e3]; exact i2.up (by decide)) ⟨?_, fun k k0 k1 => ?_, fun k k0 k1 => ?_, fun x x0 x1 hx => ?_⟩
    · rw [e3, ow_upS, i2 6 (by decide)]; exact b0
    · rw [e3, ow_upN (Or.inl (by decide)), ow_upN (Or.inl (by decide))]; exact i3 k k0 k1
    · have := o2 k k0 k1
      rw [e3, ow_upN (Or.inl (by decide)), show (10 : Int) + 3 = 13 from rfl, i4 _ this.1.1 this.1.2]; exact b2 k k0 k1
    · rw [e3, ow_upN (Or.inl (by decide)), show (10 : Int) + 3 = 13 from rfl, i4 _ x0 x1]; exact b3 x x0 x1 hx
  · obtain ⟨i0, i2, i3, i4⟩ := hI
    have e4 : s 9 i = M 9 i := i2 9 (by decide) i
    have hb : M 9 i = 0 ∨ M 9 i = 1 := by
      by_cases hq : ∃ k, 0 ≤ k ∧ k < n ∧ w k = i
      · obtain ⟨k, k0, k1, ke⟩ := hq
        have := b2 k k0 k1
        rw [ke] at this
        exact Or.inr this
      · exact Or.inl (b3 i i0 i1 (fun k k0 k1 ke => hq ⟨k, k0, k1, ke⟩))
    refine cX0_become_b_32 ⟨⟨by omega, by omega⟩, fun q => by omega, fun _ => ⟨fun q => by omega, fun _ => ⟨⟨i0, i1⟩, by rw [e4]; exact hb, ?_⟩⟩⟩
    intro N3 e3
    refine ⟨⟨by omega, by omega⟩, ih N3 ⟨by omega, by rw [e3]; exact i2.up (by decide), fun k k0 k1 => ?_, fun k k0 k1 => ?_⟩⟩
    · rw [e3, ow_upN (Or.inl (by decide)), ow_upN (Or.inl (by decide))]; exact i3 k k0 k1
    · by_cases e : k = i
      · subst e; rw [e3, ow_upS]; exact e4
      · rw [e3, ow_upN (Or.inr e)]; exact i4 k k0 (by omega)
  · refine ⟨by omega, ?_, fun k k0 k1 => ?_, fun k k0 k1 => by omega⟩
    · rw [e2, e1]; exact (ow_off.rf.cp (by decide)).cp (by decide)
    · rw [e2, ow_cpN (by decide), ow_cpI k0 (by omega), e1, ow_cpI k0 (by omega), ea7, ea8, ow_cpN (by decide)]
      exact b1 k k0 k1

theorem tX4_become (hok : lg_ok N h n hd wd tm) (hL : lg_C M 18 h n hd wd tm) (hK : ∀ M', ow_off [14, 15, 16, 17] M M' → lg_C M' 14 h n hd wd tm → K 0 M') : ow_Sp C (EM A L N) (d + 1) mX4_become (0, 0) [(3, 14), (3, 18)] M K := by
  obtain ⟨l1, l2, l3⟩ := hL
  obtain ⟨o1, o2, o3, o4, o5⟩ := hok
  refine fX4_become ?_
  intro N1 e1 N2 e2
  refine ⟨by decide, by decide, ?_⟩
  intro N3 e3
  refine ⟨by decide, by decide, ?_⟩
  intro N4 e4
  refine ⟨by decide, by decide, ?_⟩
  intro N5 e5
  refine hK N5 ?_ ⟨?_, ?_, fun k k0 k1 => ?_⟩
  · rw [e5, e4, e3, e2, e1]; exact ((((ow_off.rf.up (by decide)).up (by decide)).cp (by decide)).cp (by decide)).cp (by decide)
  · rw [e5, ow_cpN (by decide), e4, ow_cpN (by decide), e3, ow_cpN (by decide), e2, ow_upN (Or.inr (by decide)), e1, ow_upS]; exact l1
  · rw [e5, ow_cpN (by decide), e4, ow_cpN (by decide), e3, ow_cpN (by decide), e2, ow_upS, e1, ow_upN (Or.inl (by decide))]; exact l2
  · obtain ⟨g1, g2, g3⟩ := l3 k k0 k1
    refine ⟨?_, ?_, ?_⟩
    · rw [e5, ow_cpN (by decide), e4, ow_cpN (by decide), e3, show (14 : Int) + 1 = 15 from rfl, ow_cpI k0 (by omega), ea19, e2, ow_upN (Or.inl (by decide)), e1, ow_upN (Or.inl (by decide))]; exact g1
    · rw [e5, ow_cpN (by decide), e4, show (14 : Int) + 2 = 16 from rfl, ow_cpI k0 (by omega), ea20, e3, ow_cpN (by decide), e2, ow_upN (Or.inl (by decide)), e1, ow_upN (Or.inl (by decide))]; exact g2
    · rw [e5, show (14 : Int) + 3 = 17 from rfl, ow_cpI k0 (by omega), ea21, e4, ow_cpN (by decide), e3, ow_cpN (by decide), e2, ow_upN (Or.inl (by decide)), e1, ow_upN (Or.inl (by decide))]; exact g3

theorem tX4_become_b (hok : lg_ok N h n hd wd tm) (hL : lg_C M 14 h n hd wd tm) (hK : ∀ M', ow_off [18, 19, 20, 21] M M' → lg_C M' 18 h n hd wd tm → K 0 M') : ow_Sp C (EM A L N) (d + 1) mX4_become (0, 0) [(3, 18), (3, 14)] M K := by
  obtain ⟨l1, l2, l3⟩ := hL
  obtain ⟨o1, o2, o3, o4, o5⟩ := hok
  refine fX4_become_b ?_
  intro N1 e1 N2 e2
  refine ⟨by decide, by decide, ?_⟩
  intro N3 e3
  refine ⟨by decide, by decide, ?_⟩
  intro N4 e4
  refine ⟨by decide, by decide, ?_⟩
  intro N5 e5
  refine hK N5 ?_ ⟨?_, ?_, fun k k0 k1 => ?_⟩
  · rw [e5, e4, e3, e2, e1]; exact ((((ow_off.rf.up (by decide)).up (by decide)).cp (by decide)).cp (by decide)).cp (by decide)
  · rw [e5, ow_cpN (by decide), e4, ow_cpN (by decide), e3, ow_cpN (by decide), e2, ow_upN (Or.inr (by decide)), e1, ow_upS]; exact l1
  · rw [e5, ow_cpN (by decide), e4, ow_cpN (by decide), e3, ow_cpN (by decide), e2, ow_upS, e1, ow_upN (Or.inl (by decide))]; exact l2
  · obtain ⟨g1, g2, g3⟩ := l3 k k0 k1
    refine ⟨?_, ?_, ?_⟩
    · rw [e5, ow_cpN (by decide), e4, ow_cpN (by decide), e3, show (18 : Int) + 1 = 19 from rfl, ow_cpI k0 (by omega), ea15, e2, ow_upN (Or.inl (by decide)), e1, ow_upN (Or.inl (by decide))]; exact g1
    · rw [e5, ow_cpN (by decide), e4, show (18 : Int) + 2 = 20 from rfl, ow_cpI k0 (by omega), ea16, e3, ow_cpN (by decide), e2, ow_upN (Or.inl (by decide)), e1, ow_upN (Or.inl (by decide))]; exact g2
    · rw [e5, show (18 : Int) + 3 = 21 from rfl, ow_cpI k0 (by omega), ea17, e4, ow_cpN (by decide), e3, ow_cpN (by decide), e2, ow_upN (Or.inl (by decide)), e1, ow_upN (Or.inl (by decide))]; exact g3

theorem tX12_copy84 (hK : ∀ M', ow_off [84] M M' → (∀ i, 0 ≤ i → i < 215 → M' 84 i = M 85 i) → K 0 M') : ow_Sp C (EM A L N) d mX12_copy (0, 0) [(3, 85), (3, 84)] M K := by
  refine fX12_copy ?_
  refine ow_upto (S := ow_M) (P := fun i s => ow_At C (EM A L N) d mX12_copy 2 [(0, (3, 85)), (1, (3, 84)), (2, (0, i))] [] (0, 0) s K) (I := fun i s => 0 ≤ i ∧ ow_off [84] M s ∧ ∀ k, 0 ≤ k → k < i → s 84 k = M 85 k) 215 (fun s hI => ?_) (fun i s i1 hI ih => ?_) 0 M (by omega) ⟨by omega, ow_off.rf, fun k k0 k1 => by omega⟩
  · exact cX12_copy_2 ⟨fun _ => hK s hI.2.1 hI.2.2, fun q => by omega⟩
  · obtain ⟨i0, i2, i3⟩ := hI
    refine cX12_copy_2 ⟨fun q => by omega, fun _ => ⟨by rw [er85]; omega, by rw [er84]; omega, by rw [en84]; trivial, ?_⟩⟩
    intro N1 e1
    rw [ea85] at e1
    refine ⟨⟨by omega, by omega⟩, ih N1 ⟨by omega, by rw [e1]; exact i2.up (by decide), fun k k0 k1 => ?_⟩⟩
    by_cases e : k = i
    · subst e; rw [e1, ow_upS]; exact i2 85 (by decide) k
    · rw [e1, ow_upN (Or.inr e)]; exact i3 k k0 (by omega)

theorem tX12_copy85 (hK : ∀ M', ow_off [85] M M' → (∀ i, 0 ≤ i → i < 215 → M' 85 i = M 84 i) → K 0 M') : ow_Sp C (EM A L N) d mX12_copy (0, 0) [(3, 84), (3, 85)] M K := by
  refine fX12_copy ?_
  refine ow_upto (S := ow_M) (P := fun i s => ow_At C (EM A L N) d mX12_copy 2 [(0, (3, 84)), (1, (3, 85)), (2, (0, i))] [] (0, 0) s K) (I := fun i s => 0 ≤ i ∧ ow_off [85] M s ∧ ∀ k, 0 ≤ k → k < i → s 85 k = M 84 k) 215 (fun s hI => ?_) (fun i s i1 hI ih => ?_) 0 M (by omega) ⟨by omega, ow_off.rf, fun k k0 k1 => by omega⟩
  · exact cX12_copy_2 ⟨fun _ => hK s hI.2.1 hI.2.2, fun q => by omega⟩
  · obtain ⟨i0, i2, i3⟩ := hI
    refine cX12_copy_2 ⟨fun q => by omega, fun _ => ⟨by rw [er84]; omega, by rw [er85]; omega, by rw [en85]; trivial, ?_⟩⟩
    intro N1 e1
    rw [ea84] at e1
    refine ⟨⟨by omega, by omega⟩, ih N1 ⟨by omega, by rw [e1]; exact i2.up (by decide), fun k k0 k1 => ?_⟩⟩
    by_cases e : k = i
    · subst e; rw [e1, ow_upS]; exact i2 84 (by decide) k
    · rw [e1, ow_upN (Or.inr e)]; exact i3 k k0 (by omega)

/-! ===== ruling ===== -/
theorem tX11_isText {x t : Int} (ht : M 0 8 = t) (h4 : t ≤ 4) (h1 : ¬ (0 ≤ x ∧ x < t) → K 0 M) (h2 : (0 ≤ x ∧ x < t) → K 1 M) : ow_Sp C (EM A L N) d mX11_isText (0, 0) [(3, 0), (0, x)] M K := by
  refine fX11_isText ?_
  rw [ht]
  exact ⟨fun q => h1 (by omega), fun q => ⟨fun q2 => h1 (by omega), fun q2 => ⟨fun q3 => by omega, fun q3 => h2 ⟨q, q2⟩⟩⟩⟩
def ru_src (r : Int) : Int := if r < 0 then -1 else 22 + 6 * r
theorem tX11_rule {x t r : Int} (ht : M 0 8 = t) (h4 : t ≤ 4) (hr : M 0 10 = r) (hx : -1 ≤ x ∧ x < t) (h1 : x = r → K 0 M) (h2 : x ≠ r → ∀ M', ow_of [] [(0, 10), (58, 5), (58, 6)] M M' → M' 0 10 = x → M' 58 5 = 0 → M' 58 6 = ru_src x → K 0 M') : ow_Sp C (EM A L N) (d + 1) mX11_rule (0, 0) [(3, 0), (0, x)] M K := by
  refine fX11_rule ?_
  rw [hr]
  refine ⟨fun q => h1 q, fun q => ?_⟩
  intro N1 e1
  have g : N1 0 8 = t := by rw [e1, ow_upN (Or.inr (by decide))]; exact ht
  have fin : ∀ s, s = ru_src x → ow_At C (EM A L N) (d + 1) mX11_rule 35 [] [(3, s), (3, 58)] (0, 0) N1 K := by
    intro s hs
    refine cX11_rule_35 (fX9_ruledBy ?_)
    intro N2 e2 N3 e3
    refine h2 q N3 ?_ ?_ ?_ ?_
    · rw [e3, e2, e1]; exact ((ow_of.rf.uf (by decide)).uf (by decide)).uf (by decide)
    · rw [e3, e2, e1, ow_upN (Or.inl (by decide)), ow_upN (Or.inl (by decide)), ow_upS]
    · rw [e3, ow_upS]
    · rw [e3, e2, ow_upN (Or.inr (by decide)), ow_upS]; exact hs
  refine tX11_isText g h4 (fun q2 => ⟨fun _ => fin _ ?_, fun z => absurd rfl z⟩) (fun q2 => ⟨fun z => absurd z (by decide), fun _ => ⟨⟨q2.1, by omega⟩, fin _ ?_⟩⟩)
  · unfold ru_src; rw [if_pos (by omega)]
  · unfold ru_src; rw [if_neg (by omega)]
theorem tX11_by {x t r : Int} (ht : M 0 8 = t) (h4 : 0 ≤ t ∧ t ≤ 4) (hr : M 0 10 = r) (h0 : ¬ (-1 ≤ x ∧ x < t) → K 0 M) (h1 : x = r → K 1 M) (h2 : -1 ≤ x → x < t → x ≠ r → ∀ M', ow_of [] [(0, 10), (58, 5), (58, 6)] M M' → M' 0 10 = x → M' 58 5 = 0 → M' 58 6 = ru_src x → K 1 M') : ow_Sp C (EM A L N) (d + 2) mX11_by (0, 0) [(3, 0), (0, x)] M K := by
  have key : -1 ≤ x → x < t → ow_At C (EM A L N) (d + 2) mX11_by 15 [(0, (3, 0)), (1, (0, x))] [] (0, 0) M K := fun q1 q2 => cX11_by_15 (tX11_rule ht h4.2 hr ⟨q1, q2⟩ h1 (h2 q1 q2))
  exact fX11_by ⟨fun e => key (by omega) (by omega), fun e => tX11_isText ht h4.2 (fun q => ⟨fun z => absurd rfl z, fun _ => h0 (by omega)⟩) (fun q => ⟨fun _ => key (by omega) q.2, fun z => absurd z (by decide)⟩)⟩
theorem tX12_by {x t : Int} (ht : M 84 0 = t) (h4 : 0 ≤ t ∧ t ≤ 4) (h0 : ¬ (-1 ≤ x ∧ x < t) → K 0 M) (h2 : -1 ≤ x → x < t → ∀ M', ow_of [] [(84, 1)] M M' → M' 84 1 = x → K 1 M') : ow_Sp C (EM A L N) (d + 1) mX12_by (0, 0) [(3, 83), (0, x)] M K := by
  refine fX12_by ?_
  rw [ht]
  refine ⟨⟨by omega, by omega⟩, tX12_isIn (fun q => ⟨fun z => absurd rfl z, fun _ => h0 (by omega)⟩) (fun q => ⟨fun _ => ?_, fun z => absurd z (by decide)⟩)⟩
  rintro N1 rfl
  exact h2 q.1 (by omega) _ (ow_of.rf.uf (by decide)) ow_upS
theorem tX11_fault {x f g : Int} (hf : M 0 12 = f) (hg : M 0 13 = g) (h1 : K (if x = 0 then f else if x = 1 then g else -1) M) : ow_Sp C (EM A L N) d mX11_fault (0, 0) [(3, 0), (0, x)] M K := by
  refine fX11_fault ?_
  rw [hf, hg]
  refine ⟨fun q => ⟨fun q2 => ?_, fun q2 => ?_⟩, fun q => ?_⟩
  · rw [if_neg q, if_neg q2] at h1; exact h1
  · rw [if_neg q, if_pos q2] at h1; exact h1
  · rw [if_pos q] at h1; exact h1
theorem tX12_fault {x f g : Int} (hf : M 83 8 = f) (hg : M 83 9 = g) (h1 : K (if x = 0 then f else if x = 1 then g else -1) M) : ow_Sp C (EM A L N) d mX12_fault (0, 0) [(3, 83), (0, x)] M K := by
  refine fX12_fault ?_
  rw [hf, hg]
  refine ⟨fun q => ⟨fun q2 => ?_, fun q2 => ?_⟩, fun q => ?_⟩
  · rw [if_neg q, if_neg q2] at h1; exact h1
  · rw [if_neg q, if_pos q2] at h1; exact h1
  · rw [if_pos q] at h1; exact h1
end IMS
