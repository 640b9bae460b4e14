/-! ===== one call on both sides: back ===== -/
section ST4
variable {C : ow_C} {A L N : Int} {d : Nat} {M M' T : ow_M} {K : Int → Int → ow_M → Prop}
theorem s_back (h : em_ok A L N) (hG : gs A L N M) (hK : ∀ r N2, gs A L N N2 → K r r N2) : ow_2 C A L N (d + 60) mX11_back mX12_back [] M K := by
  have hG0 := hG
  obtain ⟨⟨g1, ⟨bn, wd, pr, b1, b2, b3⟩⟩, ⟨g3, ⟨hs, ln, hd, lw, tm, l1, l2, l3⟩⟩, g5, g6, ⟨c, c', r, r', TT, gx1, gv⟩, g8, g9⟩ := hG
  obtain ⟨a1, a2, a3, a4, a5, a6, a7⟩ := gx1
  refine fX11_back (tX0_become h b1 b2 (fun M1 o1 k1 => ?_))
  have l2' : lg_C M1 18 hs ln hd lw tm := ⟨by rw [o1 _ (by decide)]; exact l2.1, by rw [o1 _ (by decide)]; exact l2.2.1, fun k k0 k1 => by rw [o1 _ (by decide), o1 _ (by decide), o1 _ (by decide)]; exact l2.2.2 k k0 k1⟩
  refine tX4_become l1 l2' (fun M2 o2 k2 N3 e3 => ?_)
  have o3 : ∀ y i, ¬ (6 ≤ y ∧ y ≤ 9) → ¬ (14 ≤ y ∧ y ≤ 17) → ¬ (y = 0 ∧ i = 8) → N3 y i = M y i := by
    intro y i h1 h2 h3
    rw [e3, ow_upN (by omega), o2 y (by simp; omega), o1 y (by simp; omega)]
  have n11 : N3 0 11 = r' := by rw [o3 _ _ (by decide) (by decide) (by decide)]; exact a1.2.2.2
  have n8 : N3 0 8 = c' := by rw [e3, ow_upS, o2 _ (by decide), o1 _ (by decide)]; exact a1.2.1
  have n10 : N3 0 10 = r := by rw [o3 _ _ (by decide) (by decide) (by decide)]; exact a1.2.2.1
  rw [n11]
  have bn40 := b1.2.1
  have ln40 := l1.2.2.2.1
  -- what comes behind the rule
  have fin : ∀ N4, (∀ y i, ¬ (y = 0 ∧ i = 10) → y ≠ 58 → N4 y i = N3 y i) → N4 0 10 = r' → N4 58 6 = ru_src r' → vw_R A L (gs_T TT r') N4 → ow_Sp C (EM A L N) (d + 60) mX12_back (0, 0) [(3, 83)] N4 (fun r2 N2 => K (N4 6 4) r2 N2) := by
    intro N4 p4 q10 q58 qv
    have o4 : ∀ y i, ¬ (6 ≤ y ∧ y ≤ 9) → ¬ (14 ≤ y ∧ y ≤ 17) → ¬ (y = 0 ∧ (i = 8 ∨ i = 10)) → y ≠ 58 → N4 y i = M y i := by
      intro y i h1 h2 h3 h4
      rw [p4 y i (by omega) h4, o3 y i h1 h2 (by omega)]
    have v6 : N4 6 4 = bn := by rw [p4 _ _ (by decide) (by decide), e3, ow_upN (Or.inl (by decide)), o2 _ (by decide)]; exact k1.1
    rw [v6]
    refine fX12_back (tX12_copy84 (fun M5 o5 c5 => ?_))
    have i84 : ∀ i, 0 ≤ i → i < 215 → M5 84 i = M 85 i := by
      intro i i0 i1
      rw [c5 i i0 i1, o4 85 i (by omega) (by omega) (by omega) (by decide)]
    have v84 : M5 84 2 = bn := by rw [i84 2 (by decide) (by decide)]; exact b3.1
    rw [v84]
    have o : ∀ y i, ¬ (6 ≤ y ∧ y ≤ 9) → ¬ (14 ≤ y ∧ y ≤ 17) → ¬ (y = 0 ∧ (i = 8 ∨ i = 10)) → y ≠ 58 → y ≠ 84 → M5 y i = M y i := by
      intro y i h1 h2 h3 h4 h5
      rw [o5 y (by simpa using h5), o4 y i h1 h2 h3 h4]
    refine hK _ _ ⟨⟨⟨bn, wd, pr, b1, k1.mv ?_ (fun i => ?_) (fun i => ?_) (fun i => ?_), ⟨v84, fun k k0 k1 => by rw [i84 _ (by omega) (by omega), i84 _ (by omega) (by omega)]; exact b3.2 k k0 k1⟩⟩, ⟨bn, wd, pr, b1, b2.mv (o _ _ (by decide) (by decide) (by decide) (by decide) (by decide)) (fun i => o _ i (by decide) (by decide) (by omega) (by decide) (by decide)) (fun i => o _ i (by decide) (by decide) (by omega) (by decide) (by decide)) (fun i => o _ i (by decide) (by decide) (by omega) (by decide) (by decide)), b3.mv (fun i => o 85 i (by decide) (by decide) (by omega) (by decide) (by decide))⟩⟩, ⟨⟨hs, ln, hd, lw, tm, l1, ⟨?_, ?_, fun k k0 k1 => ?_⟩, ⟨by rw [i84 3 (by decide) (by decide)]; exact l3.1, by rw [i84 4 (by decide) (by decide)]; exact l3.2.1, fun k k0 k1 => by rw [i84 _ (by omega) (by omega), i84 _ (by omega) (by omega), i84 _ (by omega) (by omega)]; exact l3.2.2 k k0 k1⟩⟩, ⟨hs, ln, hd, lw, tm, l1, ⟨?_, ?_, fun k k0 k1 => ?_⟩, ⟨?_, ?_, fun k k0 k1 => ?_⟩⟩⟩, g5.mv (o _ _ (by decide) (by decide) (by decide) (by decide) (by decide)) (fun i => o 1 i (by decide) (by decide) (by omega) (by decide) (by decide)) (o _ _ (by decide) (by decide) (by decide) (by decide) (by decide)) (fun i => o 87 i (by decide) (by decide) (by omega) (by decide) (by decide)), g6.mv (o _ _ (by decide) (by decide) (by decide) (by decide) (by decide)) (o _ _ (by decide) (by decide) (by decide) (by decide) (by decide)) (o _ _ (by decide) (by decide) (by decide) (by decide) (by decide)) (o _ _ (by decide) (by decide) (by decide) (by decide) (by decide)), ⟨c', c', r', r', TT, ⟨⟨?_, ?_, ?_, ?_⟩, ⟨?_, ?_, ?_, ?_⟩, ⟨a3.1, Int.le_refl c', by omega⟩, a5, a5, fun i i0 i1 => ?_, ?_⟩, qv.mv (o5 _ (by decide) _) (o5 _ (by decide)) (o5 _ (by decide))⟩, g8.mv (o _ _ (by decide) (by decide) (by decide) (by decide) (by decide)) (o _ _ (by decide) (by decide) (by decide) (by decide) (by decide)), g9.mv (o _ _ (by decide) (by decide) (by decide) (by decide) (by decide)) (o _ _ (by decide) (by decide) (by decide) (by decide) (by decide))⟩
    · rw [o5 _ (by decide), p4 _ _ (by decide) (by decide), e3, ow_upN (Or.inl (by decide)), o2 _ (by decide)]
    · rw [o5 _ (by decide), p4 _ _ (by omega) (by decide), e3, ow_upN (Or.inl (by decide)), o2 _ (by decide)]
    · rw [o5 _ (by decide), p4 _ _ (by omega) (by decide), e3, ow_upN (Or.inl (by decide)), o2 _ (by decide)]
    · rw [o5 _ (by decide), p4 _ _ (by omega) (by decide), e3, ow_upN (Or.inl (by decide)), o2 _ (by decide)]
    · rw [o5 _ (by decide), p4 _ _ (by decide) (by decide), e3, ow_upN (Or.inl (by decide))]; exact k2.1
    · rw [o5 _ (by decide), p4 _ _ (by decide) (by decide), e3, ow_upN (Or.inl (by decide))]; exact k2.2.1
    · rw [o5 _ (by decide), o5 _ (by decide), o5 _ (by decide), p4 _ _ (by omega) (by decide), p4 _ _ (by omega) (by decide), p4 _ _ (by omega) (by decide), e3, ow_upN (Or.inl (by decide)), ow_upN (Or.inl (by decide)), ow_upN (Or.inl (by decide))]; exact k2.2.2 k k0 k1
    · rw [o _ _ (by decide) (by decide) (by decide) (by decide) (by decide)]; exact l2.1
    · rw [o _ _ (by decide) (by decide) (by decide) (by decide) (by decide)]; exact l2.2.1
    · rw [o _ _ (by decide) (by decide) (by omega) (by decide) (by decide), o _ _ (by decide) (by decide) (by omega) (by decide) (by decide), o _ _ (by decide) (by decide) (by omega) (by decide) (by decide)]; exact l2.2.2 k k0 k1
    · rw [o _ _ (by decide) (by decide) (by decide) (by decide) (by decide)]; exact l3.1
    · rw [o _ _ (by decide) (by decide) (by decide) (by decide) (by decide)]; exact l3.2.1
    · rw [o _ _ (by decide) (by decide) (by omega) (by decide) (by decide), o _ _ (by decide) (by decide) (by omega) (by decide) (by decide), o _ _ (by decide) (by decide) (by omega) (by decide) (by decide)]; exact l3.2.2 k k0 k1
    · rw [o5 _ (by decide), p4 _ _ (by decide) (by decide)]; exact n8
    · rw [o _ _ (by decide) (by decide) (by decide) (by decide) (by decide)]; exact a1.2.1
    · rw [o5 _ (by decide)]; exact q10
    · rw [o _ _ (by decide) (by decide) (by decide) (by decide) (by decide)]; exact a1.2.2.2
    · rw [i84 0 (by decide) (by decide)]; exact a2.2.1
    · rw [o _ _ (by decide) (by decide) (by decide) (by decide) (by decide)]; exact a2.2.1
    · rw [i84 1 (by decide) (by decide)]; exact a2.2.2.2
    · rw [o _ _ (by decide) (by decide) (by decide) (by decide) (by decide)]; exact a2.2.2.2
    · obtain ⟨d1, d2, d3, d4⟩ := a6 i i0 (by omega)
      exact ⟨d1, d2, d3.fr (fun y j h0 h1 => o y j (by omega) (by omega) (by omega) (by omega) (by omega)), d4.mv (fun j => o 86 j (by decide) (by decide) (by omega) (by decide) (by decide))⟩
    · rw [o5 _ (by decide)]; exact q58
  refine tX11_rule n8 (by omega) n10 a5 (fun e => fin N3 (fun y i _ _ => rfl) (by rw [n10]; exact e.symm) ?_ ?_) (fun e N4 o4 q1 q2 q3 => fin N4 (fun y i h1 h2 => o4 y i (by simp) (by simp; omega)) q1 q3 (vw_R0 q2))
  · rw [o3 _ _ (by decide) (by decide) (by decide), a7, e]
  · rw [e]
    exact gv.mv (o3 _ _ (by decide) (by decide) (by decide)) (fun i => o3 62 i (by decide) (by decide) (by omega)) (fun i => o3 63 i (by decide) (by decide) (by omega))
end ST4
