/-! ===== message by the reference ===== -/
section MS2
variable {C : ow_C} {A L N : Int} {d : Nat} {M T : ow_M} {K : Int → ow_M → Prop}
theorem ms_vS {k : Nat} {hand dr w bh : Int} : ms_v A L T (k + 1) hand dr w bh = if ow_ct (mq A L T hand w bh) (L * A) = 0 then w else ms_v A L T k (hand + 1) ((dr * 211 + 53) % 30119) (em_ch A L w (ow_pv (mq A L T hand w bh) (mg A) (dr % ow_ct (mq A L T hand w bh) (L * A)) (L * A) / 10) (ow_pv (mq A L T hand w bh) (mg A) (dr % ow_ct (mq A L T hand w bh) (L * A)) (L * A) % 10)) (ow_pv (mq A L T hand w bh) (mg A) (dr % ow_ct (mq A L T hand w bh) (L * A)) (L * A) / 10 + 1) := rfl
theorem tX12_manyFrom (h : em_ok A L N) (hm : mc_ok M T) {hand w bh : Int} (hh : 0 ≤ hand ∧ hand < 8) (hw : 0 ≤ w ∧ w < N) (hb : 0 ≤ bh ∧ bh ≤ L) (hK : ∀ M', ow_off [89, 90, 91, 92] M M' → mc_ok M' T → K (ow_ct (mq A L T hand w bh) (L * A)) M') : ow_Sp C (EM A L N) (d + 6) mX12_manyFrom (0, 0) [(3, 83), (0, hand), (0, w), (0, bh)] M K := by
  have hL := h.2.2.2.1
  have hL3 := h.2.2.1
  have hA := h.2.1
  have hA1 := h.1
  refine fX12_manyFrom ?_
  refine ow_upto (S := Int × ow_M) (P := fun p s => ow_At C (EM A L N) (d + 6) mX12_manyFrom 6 [(0, (3, 83)), (1, (0, hand)), (2, (0, w)), (3, (0, bh)), (4, (0, s.1)), (5, (0, p))] [] (0, 0) s.2 K) (I := fun p s => 0 ≤ p ∧ s.1 = ow_ct (mq A L T hand w bh) (p * A) ∧ ow_off [89, 90, 91, 92] M s.2 ∧ mc_ok s.2 T) L (fun s hI => ?_) (fun p s p1 hI ih => ?_) 0 (0, M) (by omega) ⟨by omega, by rw [Int.zero_mul]; rfl, ow_off.rf, hm⟩
  · obtain ⟨_, i2, i3, i4⟩ := hI
    refine cX12_manyFrom_6 ⟨fun _ => ?_, fun q => by omega⟩
    rw [i2]; exact hK s.2 i3 i4
  · obtain ⟨p0, i2, i3, i4⟩ := hI
    refine cX12_manyFrom_6 ⟨fun q => by omega, fun _ => ?_⟩
    refine ow_upto (S := Int × ow_M) (P := fun j s => ow_At C (EM A L N) (d + 6) mX12_manyFrom 18 [(0, (3, 83)), (1, (0, hand)), (2, (0, w)), (3, (0, bh)), (4, (0, s.1)), (5, (0, p)), (6, (0, j))] [] (0, 0) s.2 K) (I := fun j s => 0 ≤ j ∧ s.1 = ow_ct (mq A L T hand w bh) (p * A + j) ∧ ow_off [89, 90, 91, 92] M s.2 ∧ mc_ok s.2 T) A (fun s hI => ?_) (fun j s j1 hI ih2 => ?_) 0 (s.1, s.2) (by omega) ⟨by omega, by rw [Int.add_zero]; exact i2, i3, i4⟩
    · obtain ⟨_, j2, j3, j4⟩ := hI
      have e : p * A + A = (p + 1) * A := by rw [Int.add_mul, Int.one_mul]
      rw [e] at j2
      exact cX12_manyFrom_18 ⟨fun _ => ⟨⟨by omega, by omega⟩, ih (s.1, s.2) ⟨by omega, j2, j3, j4⟩⟩, fun q => by omega⟩
    · obtain ⟨j0, j2, j3, j4⟩ := hI
      obtain ⟨v1, v2, v3⟩ := mq_v (T := T) h (hand := hand) (w := w) (bh := bh) ⟨p0, p1⟩ ⟨j0, j1⟩
      have lo := mq_lo (T := T) h (hand := hand) (w := w) (bh := bh) v3
      refine cX12_manyFrom_18 ⟨fun q => by omega, fun _ => ⟨⟨by omega, by omega⟩, tX12_may h j4 hh hw ⟨p0, p1⟩ ⟨hb.1, by omega⟩ ⟨j0, j1⟩ (fun M' o m' => ?_)⟩⟩
      by_cases e : em_dg A L w p ≠ j ∧ 0 < ch_v T hand bh p (em_dg A L w p) j
      · rw [if_pos e]
        refine ⟨fun z => absurd z (by decide), fun _ => ⟨⟨by omega, by omega⟩, ⟨by omega, by omega⟩, ih2 (s.1 + 1, M') ⟨by omega, ?_, j3.tr o, m'⟩⟩⟩
        show s.1 + 1 = _
        rw [← Int.add_assoc, ow_ctS v3.1, v1, if_pos (decide_eq_true e), j2]
      · rw [if_neg e]
        refine ⟨fun _ => ⟨⟨by omega, by omega⟩, ⟨by omega, by omega⟩, ih2 (s.1 + 0, M') ⟨by omega, ?_, j3.tr o, m'⟩⟩, fun z => absurd rfl z⟩
        show s.1 + 0 = _
        rw [← Int.add_assoc, ow_ctS v3.1, v1, if_neg (by rw [decide_eq_true_iff]; exact e), j2]
theorem tX12_changeOf (h : em_ok A L N) (hm : mc_ok M T) {hand w bh i : Int} (hh : 0 ≤ hand ∧ hand < 8) (hw : 0 ≤ w ∧ w < N) (hb : 0 ≤ bh ∧ bh ≤ L) (hi : 0 ≤ i ∧ i < ow_ct (mq A L T hand w bh) (L * A)) (hK : ∀ M', ow_off [89, 90, 91, 92] M M' → mc_ok M' T → K (ow_pv (mq A L T hand w bh) (mg A) i (L * A)) M') : ow_Sp C (EM A L N) (d + 6) mX12_changeOf (0, 0) [(3, 83), (0, hand), (0, w), (0, bh), (0, i)] M K := by
  have hL := h.2.2.2.1
  have hL3 := h.2.2.1
  have hA := h.2.1
  have hA1 := h.1
  have hD := vx_D h
  refine fX12_changeOf ?_
  refine ow_upto (S := Int × ow_M) (P := fun p s => ow_At C (EM A L N) (d + 6) mX12_changeOf 6 [(0, (3, 83)), (1, (0, hand)), (2, (0, w)), (3, (0, bh)), (4, (0, i)), (5, (0, s.1)), (6, (0, p))] [] (0, 0) s.2 K) (I := fun p s => 0 ≤ p ∧ s.1 = ow_ct (mq A L T hand w bh) (p * A) ∧ ow_off [89, 90, 91, 92] M s.2 ∧ mc_ok s.2 T ∧ ow_pk (mq A L T hand w bh) (mg A) i (p * A) = none) L (fun s hI => ?_) (fun p s p1 hI ih => ?_) 0 (0, M) (by omega) ⟨by omega, by rw [Int.zero_mul]; rfl, ow_off.rf, hm, by rw [Int.zero_mul]; rfl⟩
  · obtain ⟨_, _, _, _, i5⟩ := hI
    obtain ⟨z, z0, z1, z2, z3⟩ := ow_ct_hit (by omega) hi.1 hi.2
    exact absurd i5 (ow_pk_not z0 z1 z2 z3)
  · obtain ⟨p0, i2, i3, i4, i5⟩ := hI
    refine cX12_changeOf_6 ⟨fun q => by omega, fun _ => ?_⟩
    refine ow_upto (S := Int × ow_M) (P := fun j s => ow_At C (EM A L N) (d + 6) mX12_changeOf 18 [(0, (3, 83)), (1, (0, hand)), (2, (0, w)), (3, (0, bh)), (4, (0, i)), (5, (0, s.1)), (6, (0, p)), (7, (0, j))] [] (0, 0) s.2 K) (I := fun j s => 0 ≤ j ∧ s.1 = ow_ct (mq A L T hand w bh) (p * A + j) ∧ ow_off [89, 90, 91, 92] M s.2 ∧ mc_ok s.2 T ∧ ow_pk (mq A L T hand w bh) (mg A) i (p * A + j) = none) A (fun s hI => ?_) (fun j s j1 hI ih2 => ?_) 0 (s.1, s.2) (by omega) ⟨by omega, by rw [Int.add_zero]; exact i2, i3, i4, by rw [Int.add_zero]; exact i5⟩
    · obtain ⟨_, j2, j3, j4, j5⟩ := hI
      have e : p * A + A = (p + 1) * A := by rw [Int.add_mul, Int.one_mul]
      rw [e] at j2 j5
      exact cX12_changeOf_18 ⟨fun _ => ⟨⟨by omega, by omega⟩, ih (s.1, s.2) ⟨by omega, j2, j3, j4, j5⟩⟩, fun q => by omega⟩
    · obtain ⟨j0, j2, j3, j4, j5⟩ := hI
      obtain ⟨v1, v2, v3⟩ := mq_v (T := T) h (hand := hand) (w := w) (bh := bh) ⟨p0, p1⟩ ⟨j0, j1⟩
      have lo := mq_lo (T := T) h (hand := hand) (w := w) (bh := bh) v3
      refine cX12_changeOf_18 ⟨fun q => by omega, fun _ => ⟨⟨by omega, by omega⟩, tX12_may h j4 hh hw ⟨p0, p1⟩ ⟨hb.1, by omega⟩ ⟨j0, j1⟩ (fun M' o m' => ?_)⟩⟩
      by_cases e : em_dg A L w p ≠ j ∧ 0 < ch_v T hand bh p (em_dg A L w p) j
      · have hmq : mq A L T hand w bh (p * A + j) = true := by rw [v1]; exact decide_eq_true e
        rw [if_pos e]
        refine ⟨fun _ => ⟨fun q => ⟨⟨by omega, by omega⟩, ⟨by omega, by omega⟩, ih2 (s.1 + 1, M') ⟨by omega, ?_, j3.tr o, m', ?_⟩⟩, fun q => ⟨⟨by omega, by omega⟩, ⟨by omega, by omega⟩, ?_⟩⟩, fun z => absurd z (by decide)⟩
        · show s.1 + 1 = _
          rw [← Int.add_assoc, ow_ctS v3.1, if_pos hmq, j2]
        · rw [← Int.add_assoc]; exact ow_pkS v3.1 j5 (fun z => q (by rw [j2]; exact z.2))
        · have := hK M' (j3.tr o) m'
          rw [ow_pk_hit v3.1 j5 hmq (by rw [← j2]; exact q) v3.2, v2] at this
          exact this
      · have hmq : ¬ mq A L T hand w bh (p * A + j) = true := by rw [v1, decide_eq_true_iff]; exact e
        rw [if_neg e]
        refine ⟨fun z => absurd rfl z, fun _ => ⟨⟨by omega, by omega⟩, ih2 (s.1, M') ⟨by omega, ?_, j3.tr o, m', ?_⟩⟩⟩
        · show s.1 = _
          rw [← Int.add_assoc, ow_ctS v3.1, if_neg hmq, j2]; omega
        · rw [← Int.add_assoc]; exact ow_pkS v3.1 j5 (fun z => hmq z.1)
theorem mc_ok.fr {M' : ow_M} {S : List Int} {F : List (Int × Int)} (hm : mc_ok M T) (o : ow_of S F M M') (h83 : (83 : Int) ∉ S) (h84 : (84 : Int) ∉ S) (h86 : (86 : Int) ∉ S) (h92 : (92 : Int) ∉ S) (f1 : ((83 : Int), (27 : Int)) ∉ F) (f2 : ((83 : Int), (28 : Int)) ∉ F) (f3 : ((84 : Int), (1 : Int)) ∉ F) (f4 : (86 : Int) ∉ F.map Prod.fst) (f5 : (92 : Int) ∉ F.map Prod.fst) : mc_ok M' T := by
  obtain ⟨m1, m2, m3, m4⟩ := hm
  have e86 := o.at h86 f4
  have e92 := o.at h92 f5
  have e84 : M' 84 1 = M 84 1 := o 84 1 h84 f3
  refine ⟨m1, ⟨fun q => by rw [o 83 27 h83 f1]; exact m2.1 q, fun q => ?_⟩, ⟨fun q => by rw [o 83 28 h83 f2]; exact m3.1 q, fun q => ?_⟩, fun x x0 x1 => by rw [e92]; exact m4 x x0 x1⟩
  · obtain ⟨r, k, a1, a2, a3, a4, a5, a6, a7⟩ := m2.2 q
    exact ⟨r, k, by rw [e84]; exact a1, a2, by rw [o 83 27 h83 f1]; exact a3, a4, by rw [e86]; exact a5, by rw [e86]; exact a6, fun i i0 i1 => by rw [e86, e86]; exact a7 i i0 i1⟩
  · obtain ⟨r, k, a1, a2, a3, a4, a5, a6, a7⟩ := m3.2 q
    exact ⟨r, k, by rw [e84]; exact a1, a2, by rw [o 83 28 h83 f2]; exact a3, a4, by rw [e86]; exact a5, by rw [e86]; exact a6, fun i i0 i1 => by rw [e86, e86]; exact a7 i i0 i1⟩
theorem tX12_message (h : em_ok A L N) (hc : cu_M N M T) {seed w n : Int} (h0 : ¬ ((0 ≤ seed ∧ seed ≤ 9999) ∧ (0 ≤ w ∧ w < N) ∧ 1 ≤ n ∧ n ≤ 8) → K (ms_a A L N T seed w n) M) (hK : ∀ M', ow_of [89, 90, 91, 92] [(83, 27), (83, 28), (83, 39)] M M' → K (ms_a A L N T seed w n) M') : ow_Sp C (EM A L N) (d + 7) mX12_message (0, 0) [(3, 83), (0, seed), (0, w), (0, n)] M K := by
  have hL := h.2.2.2.1
  have hL3 := h.2.2.1
  have hD := vx_D h
  have hA := h.2.1
  have bad : ¬ ((0 ≤ seed ∧ seed ≤ 9999) ∧ (0 ≤ w ∧ w < N) ∧ 1 ≤ n ∧ n ≤ 8) → K (-1) M := by
    intro z
    have := h0 z
    unfold ms_a at this
    rw [if_neg z] at this
    exact this
  refine fX12_message (tX12_isIn (fun q => ⟨fun _ => bad (fun z => q z.1), fun z => absurd rfl z⟩) (fun hs => ⟨fun z => absurd z (by decide), fun _ => tX12_isWord0 h (fun q => ⟨fun _ => bad (fun z => q z.2.1), fun z => absurd rfl z⟩) (fun hw => ⟨fun z => absurd z (by decide), fun _ => tX12_isIn (fun q => ⟨fun z => absurd rfl z, fun _ => bad (fun z => q z.2.2)⟩) (fun hn => ⟨fun _ => ?_, fun z => absurd z (by decide)⟩)⟩)⟩))
  have up : ∀ M1 M2 S F, ow_of [89, 90, 91, 92] [(83, 27), (83, 28), (83, 39)] M M1 → ow_of S F M1 M2 → (∀ c ∈ S, c ∈ [89, 90, 91, 92]) → (∀ x ∈ F, x.1 ∈ [89, 90, 91, 92] ∨ x ∈ [((83 : Int), (27 : Int)), (83, 28), (83, 39)]) → ow_of [89, 90, 91, 92] [(83, 27), (83, 28), (83, 39)] M M2 := fun M1 M2 S F o1 o2 a b => o1.tr (o2.mono a b)
  refine tX12_rule hc (fun M1 o1 m1 => ⟨⟨by omega, by omega⟩, ⟨by omega, by omega⟩, ?_⟩)
  intro N5 e5
  have o5 : ow_of [] [(83, 39)] M1 N5 := by rw [e5]; exact ow_of.rf.uf (by decide)
  refine ow_upto (S := Int × Int × ow_M) (P := fun j s => ow_At C (EM A L N) (d + 7) mX12_message 54 [(0, (3, 83)), (3, (0, n)), (4, (0, s.1)), (5, (0, s.2.1)), (6, (0, j))] [] (0, 0) s.2.2 K) (I := fun j s => 0 ≤ j ∧ (0 ≤ s.2.2 83 39 ∧ s.2.2 83 39 ≤ 200000) ∧ (0 ≤ s.1 ∧ s.1 < N) ∧ (0 ≤ s.2.1 ∧ s.2.1 ≤ L) ∧ ow_of [89, 90, 91, 92] [(83, 27), (83, 28), (83, 39)] M s.2.2 ∧ mc_ok s.2.2 T ∧ ms_v A L T n.toNat 0 (seed * 19 + 1) w 0 = ms_v A L T (n - j).toNat j (s.2.2 83 39) s.1 s.2.1) n (fun s hI => ?_) (fun j s j1 hI ih => ?_) 0 (w, 0, N5) (by omega) ⟨by omega, ?_, hw, ?_, ?_, ?_, ?_⟩
  · obtain ⟨_, _, _, _, i5, i6, i7⟩ := hI
    rw [show (n - n).toNat = 0 by omega] at i7
    have := hK s.2.2 i5
    unfold ms_a at this
    rw [if_pos ⟨hs, hw, hn⟩, i7] at this
    exact cX12_message_54 ⟨fun _ => this, fun q => by omega⟩
  · obtain ⟨j0, i1, i2, i3, i5, i6, i7⟩ := hI
    rw [show (n - j).toNat = (n - (j + 1)).toNat + 1 by omega] at i7
    have g := ow_ct_rg (q := mq A L T j s.1 s.2.1) (i := L * A) (by omega)
    rw [ms_vS] at i7
    refine cX12_message_54 ⟨fun q => by omega, fun _ => tX12_manyFrom h i6 ⟨j0, by omega⟩ i2 i3 (fun M2 o2 m2 => ?_)⟩
    have i5' := up s.2.2 M2 _ _ i5 (ow_of.off o2) (fun c hc => hc) (fun x hx => by simp at hx)
    have e39 : M2 83 39 = s.2.2 83 39 := o2 83 (by decide) 39
    refine ⟨fun q => ?_, fun q => ?_⟩
    · rw [if_neg q] at i7
      have m1 := Int.emod_nonneg (s.2.2 83 39) q
      have mlt := Int.emod_lt_of_pos (s.2.2 83 39) (show 0 < ow_ct (mq A L T j s.1 s.2.1) (L * A) by omega)
      have m3 : 0 ≤ s.2.2 83 39 / ow_ct (mq A L T j s.1 s.2.1) (L * A) := Int.ediv_nonneg i1.1 (by omega)
      have m4 : s.2.2 83 39 / ow_ct (mq A L T j s.1 s.2.1) (L * A) ≤ s.2.2 83 39 := Int.ediv_le_self _ i1.1
      refine fX12_draw ?_
      rw [e39, em_tdiv i1.1, em_tmod i1.1, em_tdiv (show 0 ≤ s.2.2 83 39 * 211 + 53 by omega), em_tmod (show 0 ≤ s.2.2 83 39 * 211 + 53 by omega)]
      refine ⟨q, ⟨by omega, by omega⟩, ⟨by omega, by omega⟩, ⟨by omega, by omega⟩, ⟨by omega, by omega⟩, by decide, ⟨by omega, by omega⟩, ⟨by omega, by omega⟩, ⟨by omega, by omega⟩, ?_⟩
      intro N3 e3
      have o3 : ow_of [] [(83, 39)] M2 N3 := by rw [e3]; exact ow_of.rf.uf (by decide)
      have m3' : mc_ok N3 T := m2.fr o3 (by decide) (by decide) (by decide) (by decide) (by decide) (by decide) (by decide) (by decide) (by decide)
      refine tX12_changeOf h m3' ⟨j0, by omega⟩ i2 i3 ⟨m1, mlt⟩ (fun M4 o4 m4' => ?_)
      obtain ⟨p, c, p1, c1, v1, v2, v3⟩ := mq_pv (T := T) h (hand := j) (w := s.1) (bh := s.2.1) ⟨m1, mlt⟩
      rw [v1]
      rw [v1, v2, v3] at i7
      rw [em_tdiv (show 0 ≤ 10 * p + c by omega), em_tmod (show 0 ≤ 10 * p + c by omega), v2, v3]
      have hr := em_ch_rg h i2 p1 c1
      have e4 : M4 83 39 = (s.2.2 83 39 * 211 + 53) % 30119 := by rw [o4 83 (by decide) 39, e3, ow_upS]
      refine ⟨by decide, ⟨by omega, by omega⟩, by decide, ⟨by omega, by omega⟩, ⟨by omega, by omega⟩, tX12_changed h i2 p1 c1 ⟨by decide, ⟨by omega, by omega⟩, ⟨by omega, by omega⟩, ⟨by omega, by omega⟩, ih (em_ch A L s.1 p c, p + 1, M4) ⟨by omega, ?_, hr, ?_, ?_, m4', ?_⟩⟩⟩
      · show 0 ≤ M4 83 39 ∧ M4 83 39 ≤ 200000
        omega
      · show 0 ≤ p + 1 ∧ p + 1 ≤ L
        omega
      · exact up N3 M4 _ _ (up M2 N3 _ _ i5' o3 (fun c hc => by simp at hc) (fun x hx => by simp at hx; subst hx; exact Or.inr (by decide))) (ow_of.off o4) (fun c hc => hc) (fun x hx => by simp at hx)
      · show _ = ms_v A L T (n - (j + 1)).toNat (j + 1) (M4 83 39) (em_ch A L s.1 p c) (p + 1)
        rw [e4]; exact i7
    · rw [if_pos q] at i7
      have := hK M2 i5'
      unfold ms_a at this
      rw [if_pos ⟨hs, hw, hn⟩, i7] at this
      exact this
  · show 0 ≤ N5 83 39 ∧ N5 83 39 ≤ 200000
    rw [e5, ow_upS]; omega
  · show (0 : Int) ≤ 0 ∧ 0 ≤ L
    omega
  · exact up M1 N5 _ _ (o1.mono (fun c hc => by simp at hc; subst hc; decide) (fun x hx => by simp at hx; rcases hx with e | e <;> subst e <;> exact Or.inr (by decide))) o5 (fun c hc => by simp at hc) (fun x hx => by simp at hx; subst hx; exact Or.inr (by decide))
  · exact m1.fr o5 (by decide) (by decide) (by decide) (by decide) (by decide) (by decide) (by decide) (by decide) (by decide)
  · show _ = ms_v A L T (n - 0).toNat 0 (N5 83 39) w 0
    rw [e5, ow_upS, show n - 0 = n by omega]
end MS2
