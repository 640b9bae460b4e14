/-! ===== figures, words, sorts by the reference ===== -/
def qT (r : Int) (M M' : ow_M) : Prop := ∀ c i, c ≠ 88 → ¬ (c = 83 ∧ 10 ≤ i ∧ i ≤ 23) → ¬ (c = 86 ∧ 680 * r ≤ i ∧ i < 680 * r + 680) → M' c i = M c i
section RFX
variable {C : ow_C} {A L N : Int} {d : Nat} {n : Int} {t : Int → Int} {m r : Int}
theorem qT.rf {M : ow_M} : qT r M M := fun _ _ _ _ _ => rfl
theorem qT.tr {M M' M'' : ow_M} (h : qT r M M') (h2 : qT r M' M'') : qT r M M'' := fun c i h3 h4 h5 => (h2 c i h3 h4 h5).trans (h c i h3 h4 h5)
theorem qS.T {M M' : ow_M} (h : qS r M M') : qT r M M' := fun c i h1 h2 h3 => h c i h1 (by omega) (by omega)
/-- a cell of the head is written -/
theorem rr.hd {M M' : ow_M} {i x v : Int} {E : pm_E} (h : rr n t r M i E) (e : M' = ow_up M 86 x v) (hx : x < 680 * r + 75) : rr n t r M' i E := by
  have s : ∀ c j, ¬ (c = 86 ∧ j = x) → M' c j = M c j := fun c j q => by rw [e, ow_upN (by omega)]
  obtain ⟨⟨a1, a2, a3, a4, a5⟩, ⟨b1, b2⟩, c1, c2, c3⟩ := h
  refine ⟨⟨?_, ?_, ?_, ?_, ?_⟩, ⟨?_, ?_⟩, ?_, ?_, ?_⟩
  · rw [s _ _ (by omega)]; exact a1
  · rw [s _ _ (by omega)]; exact a2
  · rw [s _ _ (by omega)]; exact a3
  · rw [s 83 13 (by omega)]; exact a4
  · rw [s 83 14 (by omega)]; exact a5
  · rw [s _ _ (by omega)]; exact b1
  · intro j j0 j1; rw [s _ _ (by omega)]; exact b2 j j0 j1
  · rw [s _ _ (by omega)]; exact c1
  · rw [s _ _ (by omega)]; exact c2
  · intro k k0 k1; rw [s _ _ (by omega), s _ _ (by omega)]; exact c3 k k0 k1
/-- a figure -/
theorem tX12_figure (hp : tp_ok n t) (hm : te_ok n t m) (hr : 0 ≤ r ∧ r < 4) {M : ow_M} {K : Int → ow_M → Prop} {i x lo hi f v : Int} {E : pm_E} (h : rr n t r M i E) (i0 : 0 ≤ i) (hi' : i ≤ m) (hx : 680 * r ≤ x ∧ x < 680 * r + 75) (hl : 0 ≤ lo) (hh : hi ≤ 9999) (hn : numR n t i lo hi f v) (k1 : f = 0 → lo ≤ v → v ≤ hi → i < m → ∀ M', qT r M M' → M' 86 x = v → (∀ y, y ≠ x → M' 86 y = M 86 y) → (∀ y, ¬ (10 ≤ y ∧ y ≤ 14) → M' 83 y = M 83 y) → rr n t r M' (i + 1) E → K 0 M') (k2 : f ≠ 0 → K f M) : ow_Sp C (EM A L N) (d + 3) mX12_figure (0, 0) [(3, 83), (0, x), (0, lo), (0, hi)] M K := by
  have tc := tcode_rg (kx_45 (n := n) (t := t) (i := i))
  have rf' := h.1
  have e12 := rf'.2.2.1
  refine fX12_figure ⟨fun q => ?_, fun q => ?_⟩
  · have y2 : kx n t i = 2 := tc.2.1.1 (by rw [← e12]; exact q)
    have hv := rf'.2.2.2.1 y2
    have nve : nv n t i = nu n t (tk_e n t (ts n t i) - ts n t i).toNat (ts n t i) 0 := rfl
    rw [← nve] at hv
    have fit : (lo ≤ M 83 13 ∧ M 83 13 ≤ hi) ↔ (lo ≤ nv n t i ∧ nv n t i ≤ hi) := by
      by_cases z : nv n t i ≤ 9999
      · rw [hv.1 z]
      · have := hv.2 (by omega); omega
    have e13 : nv n t i ≤ hi → M 83 13 = nv n t i := fun z => hv.1 (by omega)
    rcases hn with hn | hn | ⟨_, n1, n2, n3, n4⟩
    · exact absurd y2 hn.1
    · refine tX12_isIn (fun _ => ⟨fun z => absurd rfl z, fun _ => ?_⟩) (fun z => absurd (fit.1 z) hn.2.1)
      have := k2 (by omega)
      rw [hn.2.2] at this; exact this
    · refine tX12_isIn (fun z => absurd (fit.2 ⟨n1, n2⟩) z) (fun _ => ⟨fun _ => ⟨⟨by omega, by omega⟩, fun N2 e2 => ?_⟩, fun z => absurd z (by decide)⟩)
      rw [e13 n2, ← n4] at e2
      have g2 := h.hd e2 hx.2
      refine rr_next hp g2 i0 (fun M3 o3 q3 _ g3 => k1 n3 (by omega) (by omega) (kx_lt hm hi' (by omega)) M3 ?_ ?_ (fun y hy => ?_) (fun y hy => ?_) g3)
      · exact qT.tr (fun c j z1 z2 z3 => by rw [e2, ow_upN (by omega)]) q3.T
      · rw [o3 86 x (by simp) (by simp), e2, ow_upS]
      · rw [o3 86 y (by simp) (by simp), e2, ow_upN (Or.inr hy)]
      · rw [o3 83 y (by simp) (by simp <;> omega), e2, ow_upN (Or.inl (by decide))]
  · have n2 : kx n t i ≠ 2 := fun y => q (by rw [e12]; exact tc.2.1.2 y)
    rcases hn with hn | hn | hn
    · have := k2 (by omega)
      rw [hn.2] at this; exact this
    · exact absurd hn.1 n2
    · exact absurd hn.1 n2
/-- a word -/
theorem tX12_wordAtHand (ho : em_ok A L N) (hp : tp_ok n t) {M : ow_M} {K : Int → ow_M → Prop} {i : Int} {E : pm_E} (h : rr n t r M i E) (hk : kx n t i = 1) (hK : K (vx_t A L n t i) M) : ow_Sp C (EM A L N) (d + 1) mX12_wordAtHand (0, 0) [(3, 83)] M K := by
  have hk' : tk_k n t (ts n t i) = 1 := hk
  have tr := ts_rg (t := t) hp.1 (i := i)
  have n3 := hp.2.1
  obtain ⟨hA, hA5, hL, hL8, hN, hN2⟩ := ho
  have lt : ts n t i < n := by
    by_cases e : ts n t i < n
    · exact e
    · unfold tk_k at hk'; rw [if_pos (by omega)] at hk'; exact absurd hk' (by decide)
  have er := tk_e_rg (t := t) tr.1 lt
  have e10 : M 83 10 = tk_e n t (ts n t i) := h.1.1
  have e11 : M 83 11 = ts n t i := h.1.2.1
  unfold vx_t tk_v at hK
  rw [if_pos hk'] at hK
  unfold wv at hK
  refine fX12_wordAtHand ?_
  rw [e10, e11]
  refine ⟨⟨by omega, by omega⟩, fun q => ?_, fun q => ?_⟩
  · rw [if_pos q] at hK
    refine ow_upto (S := Int) (P := fun l s => ow_At C (EM A L N) (d + 1) mX12_wordAtHand 22 [(0, (3, 83)), (1, (0, s)), (2, (0, l))] [] (0, 0) M K) (I := fun l s => 0 ≤ l ∧ (0 ≤ s ∧ s < em_pw A l) ∧ wu A n t (L - l).toNat (ts n t i + l) s = wu A n t L.toNat (ts n t i) 0) L (fun s hI => ?_) (fun l s l1 hI ih => ?_) 0 0 (by omega) ⟨Int.le_refl 0, ⟨by decide, by rw [em_pw0]; decide⟩, by rw [show L - 0 = L by omega, Int.add_zero]⟩
    · obtain ⟨_, _, i3⟩ := hI
      rw [show (L - L).toNat = 0 by omega] at i3
      exact cX12_wordAtHand_22 ⟨fun _ => by rw [← i3] at hK; exact hK, fun q => by omega⟩
    · obtain ⟨i0, i2, i3⟩ := hI
      have rg := ty_rg hp (ts n t i + l)
      have ub := em_pw_le (a := A) (by omega) (show 0 ≤ l + 1 by omega) (show l + 1 ≤ L by omega)
      rw [← hN, em_pw_s A (by omega)] at ub
      have mu := Int.mul_le_mul_of_nonneg_right (show s + 1 ≤ em_pw A l by omega) (show 0 ≤ A by omega)
      rw [Int.add_mul, Int.one_mul] at mu
      have m0 := Int.mul_nonneg i2.1 (show 0 ≤ A by omega)
      rw [show (L - l).toNat = (L - (l + 1)).toNat + 1 by omega] at i3
      have i3' : (if 0 ≤ ty_b n t (ts n t i + l) - 97 ∧ ty_b n t (ts n t i + l) - 97 < A then wu A n t (L - (l + 1)).toNat (ts n t i + l + 1) (s * A + (ty_b n t (ts n t i + l) - 97)) else -1) = wu A n t L.toNat (ts n t i) 0 := i3
      refine cX12_wordAtHand_22 ⟨fun q => by omega, fun _ => ?_⟩
      rw [e11]
      refine ⟨⟨by omega, by omega⟩, tX12_byteAt hp h.2.1 (by omega) ⟨⟨by omega, by omega⟩, ⟨by omega, by omega⟩, tX12_isIn (fun y => ⟨fun z => absurd rfl z, fun _ => ?_⟩) (fun y => ⟨fun _ => ?_, fun z => absurd z (by decide)⟩)⟩⟩
      · rw [if_neg (by omega)] at i3'; rw [← i3'] at hK; exact hK
      · rw [if_pos ⟨y.1, by omega⟩] at i3'
        refine ⟨⟨by omega, by omega⟩, ⟨by omega, by omega⟩, ⟨by omega, by omega⟩, ih _ ⟨by omega, ⟨by omega, ?_⟩, ?_⟩⟩
        · rw [em_pw_s A (by omega)]
          omega
        · rw [show ts n t i + (l + 1) = ts n t i + l + 1 by omega]; exact i3'
  · rw [if_neg q] at hK; exact hK
/-- which sort of clause -/
theorem tX12_sortOf {M : ow_M} {K : Int → ow_M → Prop} {i : Int} (h : rf n t M i) (hK : K (if 6 ≤ nx n t i ∧ nx n t i ≤ 9 then nx n t i - 6 else -1) M) : ow_Sp C (EM A L N) (d + 3) mX12_sortOf (0, 0) [(3, 83)] M K := by
  refine fX12_sortOf (wk3 (k := 6) wcs2.1 (isW h (by decide) ?_))
  by_cases n6 : nx n t i = ((6 : Nat) : Int)
  · rw [if_pos n6]
    have n6' : nx n t i = 6 := n6
    refine ⟨fun z => absurd z (by decide), fun _ => ?_⟩
    rw [if_pos (by omega), n6'] at hK; exact hK
  · rw [if_neg n6]
    have n6' : ¬ nx n t i = 6 := n6
    refine ⟨fun _ => wk6 (k := 7) wcs2.2.1 (isW h (by decide) ?_), fun z => absurd rfl z⟩
    by_cases n7 : nx n t i = ((7 : Nat) : Int)
    · rw [if_pos n7]
      have n7' : nx n t i = 7 := n7
      refine ⟨fun z => absurd z (by decide), fun _ => ?_⟩
      rw [if_pos (by omega), n7'] at hK; exact hK
    · rw [if_neg n7]
      have n7' : ¬ nx n t i = 7 := n7
      refine ⟨fun _ => wk4 (k := 8) wcs2.2.2.1 (isW h (by decide) ?_), fun z => absurd rfl z⟩
      by_cases n8 : nx n t i = ((8 : Nat) : Int)
      · rw [if_pos n8]
        have n8' : nx n t i = 8 := n8
        refine ⟨fun z => absurd z (by decide), fun _ => ?_⟩
        rw [if_pos (by omega), n8'] at hK; exact hK
      · rw [if_neg n8]
        have n8' : ¬ nx n t i = 8 := n8
        refine ⟨fun _ => wk4 (k := 9) wcs2.2.2.2.1 (isW h (by decide) ?_), fun z => absurd rfl z⟩
        by_cases n9 : nx n t i = ((9 : Nat) : Int)
        · rw [if_pos n9]
          have n9' : nx n t i = 9 := n9
          refine ⟨fun z => absurd z (by decide), fun _ => ?_⟩
          rw [if_pos (by omega), n9'] at hK; exact hK
        · rw [if_neg n9]
          have n9' : ¬ nx n t i = 9 := n9
          refine ⟨fun _ => ?_, fun z => absurd rfl z⟩
          rw [if_neg (by omega)] at hK; exact hK
end RFX
