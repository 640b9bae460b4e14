/-! ===== odds ===== -/
def od_g (A L : Int) (T : ow_M) (into n : Int) (w p : Int → Int) : Int → Int := fun i => p i * bw A L T into n.toNat 0 (w i) 0
def od_ok (N bn into n k what : Int) : Prop := ((0 ≤ into ∧ into < N) ∧ 0 ≤ n ∧ n ≤ 8) ∧ (0 ≤ k ∧ k < bn) ∧ 0 ≤ what ∧ what ≤ 1
def od_v (A L : Int) (T : ow_M) (bn : Int) (w p : Int → Int) (into n k what : Int) : Int := if ow_sm (od_g A L T into n w p) bn = 0 then -1 else (if what = 0 then od_g A L T into n w p k else ow_sm (od_g A L T into n w p) bn) / gc (ow_sm (od_g A L T into n w p) bn) (od_g A L T into n w p k)
section ODS
variable {C : ow_C} {A L N : Int} {d : Nat} {M T : ow_M} {K : Int → ow_M → Prop} {bn : Int} {w p : Int → Int}
theorem gc_pos {a b : Int} (ha : 0 < a) : 0 < gc a b := by
  unfold gc
  have : 0 < Nat.gcd a.toNat b.toNat := Nat.gcd_pos_of_pos_left _ (by omega)
  omega
theorem od_rg (h : em_ok A L N) (hok : bk_ok N bn w p) {into n : Int} (hn : 0 ≤ n ∧ n ≤ 8) {i : Int} (hi : 0 ≤ i ∧ i < bn) : (0 ≤ od_g A L T into n w p i ∧ od_g A L T into n w p i ≤ 166583718925369344) := by
  have hp := (hok.2.2.1 i hi.1 hi.2).2
  have hb := bw_rg (T := T) h (into := into) n.toNat 0 (w i) 0
  have h8 := em_108 n.toNat (by omega)
  have g := em_bd (a := p i) (x := 9) (b := bw A L T into n.toNat 0 (w i) 0) (y := 18509302102818816) (by omega) hp.2 hb.1 (by omega)
  unfold od_g
  omega
theorem od_sm (h : em_ok A L N) (hok : bk_ok N bn w p) {into n : Int} (hn : 0 ≤ n ∧ n ≤ 8) {i : Int} (hi : 0 ≤ i ∧ i ≤ bn) : 0 ≤ ow_sm (od_g A L T into n w p) i ∧ ow_sm (od_g A L T into n w p) i ≤ 6663348757014773760 := by
  have h40 := hok.2.1
  have key := ow_ind (P := fun i => i ≤ bn → 0 ≤ ow_sm (od_g A L T into n w p) i ∧ ow_sm (od_g A L T into n w p) i ≤ i * 166583718925369344) (fun _ => by rw [ow_sm0]; omega) (fun i i0 ih hi => by
    have h1 := ih (by omega)
    have h2 := od_rg (T := T) h hok (into := into) hn ⟨i0, show i < bn by omega⟩
    rw [ow_smS i0]
    omega) i hi.1 hi.2
  omega
theorem tX11_odds (h : em_ok A L N) (hc : cu_C N M T) (hv : vw_R A L T M) (hcn : ct_C M) (hok : bk_ok N bn w p) (hB : bk_C N M 6 bn w p) {into n k what : Int} (h0 : ¬ od_ok N bn into n k what → K (-1) M) (hK : od_ok N bn into n k what → ∀ M', ow_of [60, 61, 62, 63, 78, 79] [(59, 2), (58, 5), (77, 3), (77, 4)] M M' → vw_R A L T M' → ct_C M' → K (od_v A L T bn w p into n k what) M') : ow_Sp C (EM A L N) (d + 6) mX11_odds (0, 0) [(3, 0), (0, into), (0, n), (0, k), (0, what)] M K := by
  have o0 := hok.1
  have o1 := hok.2.1
  refine fX11_odds (tX10_isWord (fun q => ⟨fun _ => h0 (fun z => q z.1.1), fun z => absurd rfl z⟩) (fun q1 => ⟨fun z => absurd z (by decide), fun _ => tX11_isHands (fun q => ⟨fun _ => h0 (fun z => q z.1.2), fun z => absurd rfl z⟩) (fun q2 => ⟨fun z => absurd z (by decide), fun _ => tX0_has hok hB (fun q => ⟨fun _ => h0 (fun z => q z.2.1), fun z => absurd rfl z⟩) (fun k0 k1 => ⟨fun z => absurd z (by decide), fun _ => ⟨fun q => h0 (fun z => by have := z.2.2; omega), fun w0 => ⟨fun w1 => ?_, fun q => h0 (fun z => by have := z.2.2; omega)⟩⟩⟩)⟩)⟩))
  refine tX9_prepare h hc hv q2 (fun M1 o1' v1 t1 => ?_)
  have c1 : ct_C M1 := by unfold ct_C; rw [o1'.at (by decide) (by decide), o1'.at (by decide) (by decide)]; exact hcn
  refine tX2_count h c1 q2 q1 t1 (fun M2 o2 c2 n2 => ?_)
  have oo : ow_of [60, 61, 62, 63, 78, 79] [(59, 2), (58, 5), (77, 3), (77, 4)] M M2 := (o1'.mono (fun c hc => by simp at hc; rcases hc with e | e | e | e <;> subst e <;> decide) (fun x hx => by simp at hx; rcases hx with e | e <;> subst e <;> exact Or.inr (by decide))).tr (o2.mono (fun c hc => by simp at hc; rcases hc with e | e <;> subst e <;> decide) (fun x hx => by simp at hx; rcases hx with e | e <;> subst e <;> exact Or.inr (by decide)))
  have vv : vw_R A L T M2 := by
    unfold vw_R
    rw [o2 58 5 (by decide) (by decide)]
    exact ⟨v1.1, vw_tab v1.2 o2 (by decide) (by decide)⟩
  have hK' := hK ⟨⟨q1, q2⟩, ⟨k0, k1⟩, w0, w1⟩ M2 oo vv c2
  have b0 : M2 6 4 = bn := by rw [oo.at (by decide) (by decide)]; exact hB.1
  have bw' : ∀ i, 0 ≤ i → i < bn → M2 7 i = w i ∧ M2 8 i = p i := fun i i0 i1 => by
    rw [oo.at (by decide) (by decide), oo.at (by decide) (by decide)]; exact hB.2.1 i i0 i1
  refine ow_upto (S := Int) (P := fun i s => ow_At C (EM A L N) (d + 6) mX11_odds 67 [(0, (3, 0)), (3, (0, k)), (4, (0, what)), (5, (1, s)), (7, (0, i))] [] (0, 0) M2 K) (I := fun i s => 0 ≤ i ∧ s = ow_sm (od_g A L T into n w p) i) bn (fun s hI => ?_) (fun i s i1 hI ih => ?_) 0 0 o0 ⟨by omega, rfl⟩
  · have hs := od_sm (T := T) h hok (into := into) q2 ⟨o0, Int.le_refl bn⟩
    have hg := od_rg (T := T) h hok (into := into) q2 ⟨k0, k1⟩
    rw [← hI.2] at hs
    unfold od_v at hK'
    rw [← hI.2] at hK'
    have hlc := ow_lcq (a := s) (b := 0)
    refine cX11_odds_67 ⟨fun _ => ⟨fun q => ⟨⟨k0, by omega⟩, ?_⟩, fun q => by rw [if_pos (by omega)] at hK'; exact hK'⟩, fun q => by omega⟩
    rw [if_neg (by omega)] at hK'
    rw [(bw' k k0 k1).1, (bw' k k0 k1).2]
    refine tX2_waysOf h c2 n2 (hok.2.2.1 k k0 k1).1 ?_
    have eg : p k * bw A L T into n.toNat 0 (w k) 0 = od_g A L T into n w p k := rfl
    rw [eg]
    have hgp := gc_pos (a := s) (b := od_g A L T into n w p k) (by omega)
    refine ⟨⟨by omega, by omega⟩, tX11_greatestCommon ⟨by omega, by omega⟩ ⟨hg.1, by omega⟩ ?_⟩
    have hlg := ow_lcq (a := gc s (od_g A L T into n w p k)) (b := 0)
    have L1 := gc_L (a := s) (b := gc s (od_g A L T into n w p k)) ⟨by omega, by omega⟩ hgp
    have L2 := gc_L (a := od_g A L T into n w p k) (b := gc s (od_g A L T into n w p k)) ⟨hg.1, by omega⟩ hgp
    refine ⟨fun _ => ⟨fun q2 => ⟨by omega, L1.1, ?_⟩, fun q2 => ⟨by omega, L2.1, ?_⟩⟩, fun q2 => by omega⟩
    · rw [if_neg q2] at hK'
      rw [em_tdiv (by omega)]; exact hK'
    · rw [if_pos q2] at hK'
      rw [em_tdiv hg.1]; exact hK'
  · obtain ⟨i0, i2⟩ := hI
    have hs := od_sm (T := T) h hok (into := into) q2 (i := i) ⟨i0, by omega⟩
    have hg := od_rg (T := T) h hok (into := into) q2 ⟨i0, i1⟩
    refine cX11_odds_67 ⟨fun q => by omega, fun _ => ⟨⟨i0, by omega⟩, ?_⟩⟩
    rw [(bw' i i0 i1).1, (bw' i i0 i1).2]
    refine tX2_waysOf h c2 n2 (hok.2.2.1 i i0 i1).1 ?_
    have eg : p i * bw A L T into n.toNat 0 (w i) 0 = od_g A L T into n w p i := rfl
    rw [eg]
    refine ⟨⟨by omega, by omega⟩, ⟨by omega, by omega⟩, ⟨by omega, by omega⟩, ih _ ⟨by omega, ?_⟩⟩
    rw [ow_smS i0, i2]
theorem tX12_odds (h : em_ok A L N) (hc : cu_M N M T) (hok : bk_ok N bn w p) (hB : bk_M M 84 bn w p) {into n k what : Int} (h0 : ¬ od_ok N bn into n k what → K (-1) M) (hK : od_ok N bn into n k what → ∀ M', ow_of [89, 90, 91, 92, 93, 94] [(83, 27), (83, 28)] M M' → K (od_v A L T bn w p into n k what) M') : ow_Sp C (EM A L N) (d + 8) mX12_odds (0, 0) [(3, 83), (0, into), (0, n), (0, k), (0, what)] M K := by
  have o0 := hok.1
  have o1 := hok.2.1
  have b84 := hB.1
  refine fX12_odds (tX12_isWord0 h (fun q => ⟨fun _ => h0 (fun z => q z.1.1), fun z => absurd rfl z⟩) (fun q1 => ⟨fun z => absurd z (by decide), fun _ => tX12_isIn (fun q => ⟨fun _ => h0 (fun z => q z.1.2), fun z => absurd rfl z⟩) (fun q2 => ⟨fun z => absurd z (by decide), fun _ => ⟨⟨by omega, by omega⟩, tX12_isIn (fun q => ⟨fun _ => h0 (fun z => q (by have := z.2.1; omega)), fun z => absurd rfl z⟩) (fun q3 => ⟨fun z => absurd z (by decide), fun _ => tX12_isIn (fun q => ⟨fun z => absurd rfl z, fun _ => h0 (fun z => q z.2.2)⟩) (fun q4 => ⟨fun _ => ?_, fun z => absurd z (by decide)⟩)⟩)⟩⟩)⟩))
  have k0 := q3.1
  have k1 : k < bn := by omega
  refine tX12_rule hc (fun M1 o1' m1 => ?_)
  have oo1 : ow_of [89, 90, 91, 92, 93, 94] [(83, 27), (83, 28)] M M1 := o1'.mono (fun c hc => by simp at hc; subst hc; decide) (fun x hx => Or.inr hx)
  refine ow_upto (S := Int × Int × ow_M) (P := fun i s => ow_At C (EM A L N) (d + 8) mX12_odds 61 [(0, (3, 83)), (1, (0, into)), (2, (0, n)), (3, (0, k)), (4, (0, what)), (5, (1, s.1)), (7, (1, s.2.1)), (9, (0, i))] [] (0, 0) s.2.2 K) (I := fun i s => 0 ≤ i ∧ s.1 = ow_sm (od_g A L T into n w p) i ∧ s.2.1 = (if k < i then od_g A L T into n w p k else 0) ∧ ow_of [89, 90, 91, 92, 93, 94] [(83, 27), (83, 28)] M s.2.2 ∧ mc_ok s.2.2 T) bn (fun s hI => ?_) (fun i s i1 hI ih => ?_) 0 (0, 0, M1) o0 ⟨by omega, rfl, by show (0 : Int) = _; rw [if_neg (by omega)], oo1, m1⟩
  · obtain ⟨_, i2, i3, i4, i5⟩ := hI
    rw [if_pos k1] at i3
    have hs := od_sm (T := T) h hok (into := into) q2 ⟨o0, Int.le_refl bn⟩
    have hg := od_rg (T := T) h hok (into := into) q2 ⟨k0, k1⟩
    have hK' := hK ⟨⟨q1, q2⟩, ⟨k0, k1⟩, q4⟩ s.2.2 i4
    unfold od_v at hK'
    rw [← i2, ← i3] at hK'
    rw [← i2] at hs
    rw [← i3] at hg
    have b0 : s.2.2 84 2 = bn := by rw [i4.at (by decide) (by decide)]; exact b84
    have hlc := ow_lcq (a := s.1) (b := 0)
    have fin : s.1 ≠ 0 → ∀ v, (0 ≤ v ∧ v ≤ 9223372036854775807) → K (v / gc s.1 s.2.1) s.2.2 → ow_At C (EM A L N) (d + 8) mX12_odds 153 [(5, (1, s.1)), (7, (1, s.2.1))] [(1, v)] (0, 0) s.2.2 K := by
      intro hne v hv hKv
      have hgp := gc_pos (a := s.1) (b := s.2.1) (by omega)
      refine cX12_odds_153 (tX12_common ⟨hg.1, by omega⟩ ⟨by omega, by omega⟩ ?_)
      rw [gc_comm]
      refine ⟨by omega, (gc_L hv hgp).1, ?_⟩
      rw [em_tdiv hv.1]; exact hKv
    refine cX12_odds_61 ⟨fun _ => ⟨fun q => ⟨fun z => fin (by omega) s.1 ⟨by omega, by omega⟩ ?_, fun z => fin (by omega) s.2.1 ⟨hg.1, by omega⟩ ?_⟩, fun q => by rw [if_pos (by omega)] at hK'; exact hK'⟩, fun q => by omega⟩
    · rw [if_neg (by omega), if_neg z] at hK'; exact hK'
    · rw [if_neg (by omega), if_pos z] at hK'; exact hK'
  · obtain ⟨i0, i2, i3, i4, i5⟩ := hI
    have hs := od_sm (T := T) h hok (into := into) q2 (i := i) ⟨i0, by omega⟩
    have hg := od_rg (T := T) h hok (into := into) q2 ⟨i0, i1⟩
    have b0 : s.2.2 84 2 = bn := by rw [i4.at (by decide) (by decide)]; exact b84
    have bi : s.2.2 84 (10 + 2 * i) = w i ∧ s.2.2 84 (11 + 2 * i) = p i := by
      rw [i4.at (by decide) (by decide), i4.at (by decide) (by decide)]; exact hB.2 i i0 i1
    refine cX12_odds_61 ⟨fun q => by omega, fun _ => ⟨⟨by omega, by omega⟩, ⟨by omega, by omega⟩, ⟨by omega, by omega⟩, ⟨by omega, by omega⟩, tX12_wordOf i0 (by omega) ?_⟩⟩
    rw [bi.1, show (10 : Int) + 2 * i + 1 = 11 + 2 * i by omega, bi.2]
    refine tX12_waysOf h i5 (hok.2.2.1 i i0 i1).1 q1 q2 (fun M2 o2 m2 f2 => ?_)
    have eg : p i * bw A L T into n.toNat 0 (w i) 0 = od_g A L T into n w p i := rfl
    rw [eg]
    have o3 : ow_of [89, 90, 91, 92, 93, 94] [(83, 27), (83, 28)] M M2 := i4.tr ((ow_of.off o2).mono (fun c hc => hc) (fun x hx => by simp at hx))
    refine ⟨⟨by omega, by omega⟩, ⟨by omega, by omega⟩, fun z => ⟨⟨by omega, by omega⟩, ih (s.1 + od_g A L T into n w p i, s.2.1, M2) ⟨by omega, ?_, ?_, o3, m2⟩⟩, fun z => ⟨⟨by omega, by omega⟩, ih (s.1 + od_g A L T into n w p i, od_g A L T into n w p i, M2) ⟨by omega, ?_, ?_, o3, m2⟩⟩⟩
    · show s.1 + _ = _
      rw [ow_smS i0, i2]
    · show s.2.1 = _
      rw [i3]
      by_cases e : k < i
      · rw [if_pos e, if_pos (by omega)]
      · rw [if_neg e, if_neg (by omega)]
    · show s.1 + _ = _
      rw [ow_smS i0, i2]
    · show od_g A L T into n w p i = _
      rw [if_pos (by omega), z]
end ODS
