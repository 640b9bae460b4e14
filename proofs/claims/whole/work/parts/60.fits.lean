/-! ===== bits of longs, and fits ===== -/
def ow_lbt (x k : Int) : Bool := (Int64.ofInt x).toBitVec.getLsbD k.toNat
theorem ow_lbt_and {a b k : Int} : ow_lbt (ow_land a b) k = (ow_lbt a k && ow_lbt b k) := by
  simp only [ow_lbt, ow_land, Int64.ofInt_toInt, Int64.toBitVec_and, BitVec.getLsbD_and]
theorem ow_lbt_or {a b k : Int} : ow_lbt (ow_lor a b) k = (ow_lbt a k || ow_lbt b k) := by
  simp only [ow_lbt, ow_lor, Int64.ofInt_toInt, Int64.toBitVec_or, BitVec.getLsbD_or]
theorem ow_lbt_nn {x k : Int} (h0 : 0 ≤ x) (h1 : x ≤ 9223372036854775807) : ow_lbt x k = x.toNat.testBit k.toNat := by
  obtain ⟨n, rfl⟩ := Int.eq_ofNat_of_zero_le h0
  unfold ow_lbt
  rw [Int64.toBitVec_ofInt, BitVec.ofInt_natCast, BitVec.getLsbD_ofNat]
  by_cases hk : k.toNat < 64
  · simp [hk]
  · have : n < 2 ^ k.toNat := Nat.lt_of_lt_of_le (show n < 2 ^ 64 by omega) (Nat.pow_le_pow_right (by decide) (by omega))
    simp [hk, Nat.testBit_lt_two_pow this]
theorem ow_lbt_0 {k : Int} : ow_lbt 0 k = false := by
  rw [ow_lbt_nn (by decide) (by decide)]
  simp
theorem ow_lshl1 : ∀ n : Fin 40, ow_lshl 1 (n.val : Int) = 2 ^ n.val := by decide
theorem ow_lsh64 : ∀ n : Fin 40, (((Int32.ofInt (n.val : Int)).toInt64 &&& 63).toBitVec.smod 64).toNat = n.val := by decide
theorem ow_lbt_shl {k j : Int} (h : 0 ≤ k ∧ k < 40) (hj : 0 ≤ j) : ow_lbt (ow_lshl 1 k) j = decide (k = j) := by
  obtain ⟨n, rfl⟩ := Int.eq_ofNat_of_zero_le h.1
  have e := ow_lshl1 ⟨n, by omega⟩
  simp only at e
  have h1 : (2 : Nat) ^ n ≤ 2 ^ 40 := Nat.pow_le_pow_right (by decide) (by omega)
  have e2 : ((2 : Int) ^ n) = ((2 ^ n : Nat) : Int) := by simp
  have e3 : ∀ m : Nat, m ≤ 2 ^ 40 → ∀ j, ow_lbt (m : Int) j = m.testBit j.toNat := fun m hm j => by rw [ow_lbt_nn (by omega) (by omega), Int.toNat_natCast]
  rw [e, e2, e3 _ h1, Nat.testBit_two_pow]
  apply decide_eq_decide.2
  omega
theorem ow_lbit {x k : Int} (h : 0 ≤ k ∧ k < 40) : ow_land (ow_lshr x k) 1 = if ow_lbt x k then 1 else 0 := by
  have hs : ow_lbt (ow_lshr x k) 0 = ow_lbt x k := by
    obtain ⟨n, rfl⟩ := Int.eq_ofNat_of_zero_le h.1
    unfold ow_lbt ow_lshr
    rw [Int64.ofInt_toInt, Int64.toBitVec_shiftRight]
    have e := ow_lsh64 ⟨n, by omega⟩
    simp only at e
    unfold BitVec.sshiftRight'
    rw [e, BitVec.getLsbD_sshiftRight]
    have : n < 64 := by omega
    simp [this]
  have hb : (Int64.ofInt (ow_land (ow_lshr x k) 1)) = Int64.ofInt (if ow_lbt x k then 1 else 0) := by
    apply Int64.toBitVec_inj.1
    apply BitVec.eq_of_getLsbD_eq
    intro i hi
    have e1 : (Int64.ofInt (ow_land (ow_lshr x k) 1)).toBitVec.getLsbD i = ow_lbt (ow_land (ow_lshr x k) 1) (i : Int) := by unfold ow_lbt; simp
    have e2 : (Int64.ofInt (if ow_lbt x k = true then (1 : Int) else 0)).toBitVec.getLsbD i = ow_lbt (if ow_lbt x k then 1 else 0) (i : Int) := by unfold ow_lbt; simp
    rw [e1, e2, ow_lbt_and]
    by_cases hi0 : i = 0
    · subst hi0
      have : ow_lbt (ow_lshr x k) ((0 : Nat) : Int) = ow_lbt x k := hs
      rw [this]
      cases ow_lbt x k <;> decide
    · have z1 : ow_lbt 1 (i : Int) = false := by
        rw [ow_lbt_nn (by decide) (by decide)]
        apply Nat.testBit_lt_two_pow
        exact Nat.lt_of_lt_of_le (show (1 : Int).toNat < 2 ^ 1 by decide) (Nat.pow_le_pow_right (by decide) (by omega))
      rw [z1, Bool.and_false]
      cases ow_lbt x k
      · exact ow_lbt_0.symm
      · exact z1.symm
  have h2 := congrArg Int64.toInt hb
  have e3 : ow_land (ow_lshr x k) 1 = (Int64.ofInt (ow_land (ow_lshr x k) 1)).toInt := by
    unfold ow_land; rw [Int64.ofInt_toInt]
  rw [e3, h2]
  cases ow_lbt x k <;> decide
section FTS
variable {C : ow_C} {A L N : Int} {d : Nat} {M T : ow_M} {K : Int → ow_M → Prop} {bn : Int} {w p : Int → Int}
/-- the words of the book that lead there, as bits -/
def lw_bt (A L : Int) (T : ow_M) (into x : Int) (w : Int → Int) (bn v : Int) : Prop := ∀ k, 0 ≤ k → k < 40 → ow_lbt v k = (decide (k < bn) && td_b A L T into (T 7 x) (T 8 x) (w k))
theorem tX11_leadingWords (h : em_ok A L N) (hok : bk_ok N bn w p) (hB : bk_C N M 6 bn w p) {into x : Int} (hm : 0 ≤ T 8 x) (hr : tc_row A L N T M into (T 7 x) (T 8 x) 0) (hK : ∀ v, lw_bt A L T into x w bn v → K v M) : ow_Sp C (EM A L N) (d + 1) mX11_leadingWords (0, 0) [(3, 0)] M K := by
  have o0 := hok.1
  have o1 := hok.2.1
  have b4 := hB.1
  refine fX11_leadingWords ?_
  refine ow_upto (S := Int) (P := fun i s => ow_At C (EM A L N) (d + 1) mX11_leadingWords 4 [(0, (3, 0)), (1, (1, s)), (3, (0, i))] [] (0, 0) M K) (I := fun i s => 0 ≤ i ∧ ∀ k, 0 ≤ k → k < 40 → ow_lbt s k = (decide (k < i) && td_b A L T into (T 7 x) (T 8 x) (w k))) bn (fun s hI => ?_) (fun i s i1 hI ih => ?_) 0 0 o0 ⟨by omega, fun k k0 k1 => ?_⟩
  · refine cX11_leadingWords_4 ⟨fun _ => hK s hI.2, fun q => ?_⟩
    rw [b4] at q; omega
  · obtain ⟨i0, i2⟩ := hI
    have e := td_b_iff (A := A) (L := L) (T := T) (into := into) (least := T 7 x) (most := T 8 x) (fr := w i) hm
    refine cX11_leadingWords_4 ⟨fun q => by rw [b4] at q; omega, fun _ => ⟨⟨i0, by omega⟩, ?_⟩⟩
    have e7 : M 7 i = w i := (hB.2.1 i i0 i1).1
    rw [e7]
    refine tX5_leads h hr (hok.2.2.1 i i0 i1).1 (fun z => ⟨fun y => absurd y (by decide), fun _ => ⟨⟨by omega, by omega⟩, ih _ ⟨by omega, fun k k0 k1 => ?_⟩⟩⟩) (fun z => ⟨fun _ => ⟨⟨by omega, by omega⟩, ih s ⟨by omega, fun k k0 k1 => ?_⟩⟩, fun y => absurd rfl y⟩)
    · rw [ow_lbt_or, ow_lbt_shl ⟨i0, by omega⟩ k0, i2 k k0 k1]
      by_cases ek : i = k
      · subst ek
        rw [e.2 z]
        simp
        omega
      · have e2 : (k < i + 1) = (k < i) := propext ⟨fun _ => by omega, fun _ => by omega⟩
        simp [ek, e2]
    · rw [i2 k k0 k1]
      by_cases ek : i = k
      · subst ek
        have : td_b A L T into (T 7 x) (T 8 x) (w i) = false := by
          cases hq : td_b A L T into (T 7 x) (T 8 x) (w i) with
          | false => rfl
          | true => exact absurd (e.1 hq) z
        rw [this]
        simp
      · have e2 : (k < i + 1) = (k < i) := propext ⟨fun _ => by omega, fun _ => by omega⟩
        simp [e2]
  · rw [ow_lbt_0, decide_eq_false (by omega)]
    rfl
def ft_ok (N : Int) (T : ow_M) (one x other y : Int) : Prop := ((0 ≤ one ∧ one < N) ∧ 0 ≤ other ∧ other < N) ∧ (0 ≤ x ∧ x < T 0 3) ∧ 0 ≤ y ∧ y < T 0 3
def ft_q (A L : Int) (T : ow_M) (one x other y : Int) (w : Int → Int) : Int → Bool := fun k => td_b A L T one (T 7 x) (T 8 x) (w k) && td_b A L T other (T 7 y) (T 8 y) (w k)
def ft_v (A L : Int) (T : ow_M) (bn : Int) (w : Int → Int) (one x other y i : Int) : Int := ow_pv (ft_q A L T one x other y w) w i bn
theorem tX11_fits (h : em_ok A L N) {t : Int} (ht : tc_ok M t) (hc : cu_C N M T) (hv : vw_R A L T M) (hok : bk_ok N bn w p) (hB : bk_C N M 6 bn w p) {one x other y i : Int} (h0 : ¬ ft_ok N T one x other y → K (-1) M) (hK : ft_ok N T one x other y → ∀ M', ow_of [60, 61, 62, 63, 67, 68, 69, 70, 71, 72, 73, 74, 75] [(59, 2), (58, 5)] M M' → vw_R A L T M' → K (ft_v A L T bn w one x other y i) M') : ow_Sp C (EM A L N) (d + 7) mX11_fits (0, 0) [(3, 0), (0, one), (0, x), (0, other), (0, y), (0, i)] M K := by
  have o0 := hok.1
  have o1' := hok.2.1
  refine fX11_fits (tX10_isWord (fun q => ⟨fun _ => h0 (fun z => q z.1.1), fun z => absurd rfl z⟩) (fun q1 => ⟨fun z => absurd z (by decide), fun _ => tX10_isWord (fun q => ⟨fun _ => h0 (fun z => q z.1.2), fun z => absurd rfl z⟩) (fun q2 => ⟨fun z => absurd z (by decide), fun _ => tX11_isRoad ht hc (fun q => ⟨fun _ => h0 (fun z => q z.2.1), fun z => absurd rfl z⟩) (fun q3 => ⟨fun z => absurd z (by decide), fun _ => tX11_isRoad ht hc (fun q => ⟨fun z => absurd rfl z, fun _ => h0 (fun z => q z.2.2)⟩) (fun q4 => ⟨fun _ => ?_, fun z => absurd z (by decide)⟩)⟩)⟩)⟩))
  have bx := hc.2.1.2.2.2.2.2.2.2 x q3.1 q3.2
  have bY := hc.2.1.2.2.2.2.2.2.2 y q4.1 q4.2
  have cuf : ∀ {M'}, ow_of [60, 61, 62, 63, 67, 68, 69, 70, 71, 72, 73, 74, 75] [(59, 2), (58, 5)] M M' → cu_C N M' T := fun {M'} o => hc.fr (fun c i c0 c1 => o c i (by simp; omega) (by simp; omega)) (o 58 6 (by decide) (by decide)) (o 0 10 (by decide) (by decide))
  have bkf : ∀ {M'}, ow_of [60, 61, 62, 63, 67, 68, 69, 70, 71, 72, 73, 74, 75] [(59, 2), (58, 5)] M M' → bk_C N M' 6 bn w p := fun {M'} o => hB.mv (o.at (by decide) (by decide) _) (o.at (by decide) (by decide)) (o.at (by decide) (by decide)) (o.at (by decide) (by decide))
  refine tX11_traceRoad h ht hc hv q1 q3 (fun M1 o1 v1 r1 => tX11_leadingWords h hok (bkf o1) (by omega) r1 (fun v hv1 => ?_))
  refine tX11_traceRoad h (ht.fr o1 (by decide) (by decide) (by decide)) (cuf o1) v1 q2 q4 (fun M2 o2 v2 r2 => tX11_leadingWords h hok (bkf (o1.tr o2)) (by omega) r2 (fun v' hv2 => ?_))
  have hB2 := bkf (o1.tr o2)
  have hk := hK ⟨⟨q1, q2⟩, q3, q4⟩ M2 (o1.tr o2) v2
  unfold ft_v at hk
  have b4 := hB2.1
  refine ow_upto (S := Int) (P := fun k s => ow_At C (EM A L N) (d + 7) mX11_fits 75 [(0, (3, 0)), (5, (0, i)), (8, (1, ow_land v v')), (10, (0, s)), (11, (0, k))] [] (0, 0) M2 K) (I := fun k s => 0 ≤ k ∧ s = ow_ct (ft_q A L T one x other y w) k ∧ ow_pk (ft_q A L T one x other y w) w i k = none) bn (fun s hI => ?_) (fun k s k1 hI ih => ?_) 0 0 o0 ⟨by omega, rfl, rfl⟩
  · obtain ⟨_, i2, i3⟩ := hI
    rw [ow_pk_end i3] at hk
    refine cX11_fits_75 ⟨fun _ => ⟨fun q => ?_, fun q => ?_⟩, fun q => by rw [b4] at q; omega⟩
    · rw [if_neg q] at hk; exact hk
    · rw [if_pos q, ← i2] at hk; exact hk
  · obtain ⟨k0, i2, i3⟩ := hI
    have cr := ow_ct_rg (q := ft_q A L T one x other y w) k0
    have eb : ow_lbt (ow_land v v') k = ft_q A L T one x other y w k := by
      rw [ow_lbt_and, hv1 k k0 (by omega), hv2 k k0 (by omega), decide_eq_true k1]
      rfl
    refine cX11_fits_75 ⟨fun q => by rw [b4] at q; omega, fun _ => ?_⟩
    rw [ow_lbit ⟨k0, by omega⟩, eb]
    cases hq : ft_q A L T one x other y w k with
    | true =>
      rw [if_pos rfl]
      refine ⟨fun z => absurd z (by decide), fun _ => ⟨fun z => ⟨⟨by omega, by omega⟩, ⟨by omega, by omega⟩, ih (s + 1) ⟨by omega, ?_, ?_⟩⟩, fun z => ⟨⟨k0, by omega⟩, ?_⟩⟩⟩
      · rw [ow_ctS k0, if_pos hq, i2]
      · exact ow_pkS k0 i3 (fun z' => z (by rw [i2]; exact z'.2))
      · rw [ow_pk_hit k0 i3 hq (by rw [← i2]; exact z) k1] at hk
        have e7 : M2 7 k = w k := (hB2.2.1 k k0 k1).1
        rw [e7]; exact hk
    | false =>
      rw [if_neg (by decide)]
      refine ⟨fun _ => ⟨⟨by omega, by omega⟩, ih s ⟨by omega, ?_, ?_⟩⟩, fun z => absurd (by decide) z⟩
      · rw [ow_ctS k0, if_neg (by rw [hq]; decide), i2]; omega
      · exact ow_pkS k0 i3 (fun z => by rw [hq] at z; exact absurd z.1 (by decide))
theorem tX12_fits (h : em_ok A L N) (hc : cu_M N M T) (hok : bk_ok N bn w p) (hB : bk_M M 84 bn w p) {one x other y i : Int} (h0 : ¬ ft_ok N T one x other y → K (-1) M) (hK : ft_ok N T one x other y → ∀ M', ow_of [89, 90, 91, 92, 93, 94] [(83, 27), (83, 28)] M M' → K (ft_v A L T bn w one x other y i) M') : ow_Sp C (EM A L N) (d + 8) mX12_fits (0, 0) [(3, 83), (0, one), (0, x), (0, other), (0, y), (0, i)] M K := by
  have o0 := hok.1
  have o1' := hok.2.1
  have hr3 := tx_roads hc.2.1
  refine fX12_fits (tX12_isWord0 h (fun q => ⟨fun _ => h0 (fun z => q z.1.1), fun z => absurd rfl z⟩) (fun q1 => ⟨fun z => absurd z (by decide), fun _ => tX12_isWord0 h (fun q => ⟨fun _ => h0 (fun z => q z.1.2), fun z => absurd rfl z⟩) (fun q2 => ⟨fun z => absurd z (by decide), fun _ => tX12_roads hc ⟨⟨by omega, by omega⟩, tX12_isIn (fun q => ⟨fun _ => h0 (fun z => q ⟨z.2.1.1, by have := z.2.1.2; omega⟩), fun z => absurd rfl z⟩) (fun q3 => ⟨fun z => absurd z (by decide), fun _ => tX12_roads hc ⟨⟨by omega, by omega⟩, tX12_isIn (fun q => ⟨fun _ => h0 (fun z => q ⟨z.2.2.1, by have := z.2.2.2; omega⟩), fun z => absurd rfl z⟩) (fun q4 => ⟨fun z => absurd z (by decide), fun _ => ?_⟩)⟩⟩)⟩⟩)⟩))
  have q3' : 0 ≤ x ∧ x < T 0 3 := by omega
  have q4' : 0 ≤ y ∧ y < T 0 3 := by omega
  refine ⟨fun i0 => tX12_rule hc (fun M1 o1 m1 => ?_), fun i0 => ?_⟩
  · have oo1 : ow_of [89, 90, 91, 92, 93, 94] [(83, 27), (83, 28)] M M1 := o1.mono (fun c hc => by simp at hc; subst hc; decide) (fun x hx => Or.inr hx)
    refine ow_upto (S := Int × ow_M) (P := fun k s => ow_At C (EM A L N) (d + 8) mX12_fits 63 [(0, (3, 83)), (1, (0, one)), (2, (0, x)), (3, (0, other)), (4, (0, y)), (5, (0, i)), (6, (0, s.1)), (7, (0, k))] [] (0, 0) s.2 K) (I := fun k s => 0 ≤ k ∧ s.1 = ow_ct (ft_q A L T one x other y w) k ∧ ow_pk (ft_q A L T one x other y w) w i k = none ∧ ow_of [89, 90, 91, 92, 93, 94] [(83, 27), (83, 28)] M s.2 ∧ mc_ok s.2 T) bn (fun s hI => ?_) (fun k s k1 hI ih => ?_) 0 (0, M1) o0 ⟨by omega, rfl, rfl, oo1, m1⟩
    · obtain ⟨_, i2, i3, i4, _⟩ := hI
      have hk := hK ⟨⟨q1, q2⟩, q3', q4'⟩ s.2 i4
      unfold ft_v at hk
      rw [ow_pk_end i3] at hk
      have b4 : s.2 84 2 = bn := by rw [i4.at (by decide) (by decide)]; exact hB.1
      refine cX12_fits_63 ⟨fun _ => ⟨fun q => ?_, fun q => ?_⟩, fun q => by rw [b4] at q; omega⟩
      · rw [if_neg q] at hk; exact hk
      · rw [if_pos q, ← i2] at hk; exact hk
    · obtain ⟨k0, i2, i3, i4, i5⟩ := hI
      have cr := ow_ct_rg (q := ft_q A L T one x other y w) k0
      have b4 : s.2 84 2 = bn := by rw [i4.at (by decide) (by decide)]; exact hB.1
      have bk : ∀ {M'}, ow_of [89, 90, 91, 92, 93, 94] [(83, 27), (83, 28)] M M' → M' 84 (10 + 2 * k) = w k := fun {M'} o => by rw [o.at (by decide) (by decide)]; exact (hB.2 k k0 k1).1
      have cu : ∀ {M'}, ow_of [89, 90, 91, 92, 93, 94] [(83, 27), (83, 28)] M M' → cu_M N M' T := fun {M'} o => hc.fr o (by decide) (by decide) (by decide) (by decide)
      have ex : ∀ {M' M''}, ow_of [89, 90, 91, 92, 93, 94] [(83, 27), (83, 28)] M M' → ow_off [89, 90, 91, 92, 93, 94] M' M'' → ow_of [89, 90, 91, 92, 93, 94] [(83, 27), (83, 28)] M M'' := fun {M' M''} o o' => o.tr ((ow_of.off o').mono (fun c hc => hc) (fun x hx => by simp at hx))
      have wr := (hok.2.2.1 k k0 k1).1
      refine cX12_fits_63 ⟨fun q => by rw [b4] at q; omega, fun _ => tX12_wordOf k0 (by omega) ?_⟩
      rw [bk i4]
      refine tX12_comesBy h (cu i4) i5 wr q1 q3' (fun M2 o2 m2 => ?_)
      have i6 := ex i4 o2
      have no : ∀ {M'}, ow_of [89, 90, 91, 92, 93, 94] [(83, 27), (83, 28)] M M' → mc_ok M' T → ¬ (ft_q A L T one x other y w k = true) → ow_I (k + 1) ∧ ow_At C (EM A L N) (d + 8) mX12_fits 63 [(0, (3, 83)), (1, (0, one)), (2, (0, x)), (3, (0, other)), (4, (0, y)), (5, (0, i)), (6, (0, s.1)), (7, (0, k + 1))] [] (0, 0) M' K := fun {M'} o m hq => by
        refine ⟨⟨by omega, by omega⟩, ih (s.1, M') ⟨by omega, ?_, ?_, o, m⟩⟩
        · show s.1 = _
          rw [ow_ctS k0, if_neg hq, i2]; omega
        · exact ow_pkS k0 i3 (fun z => hq z.1)
      unfold rd_v
      cases ha : td_b A L T one (T 7 x) (T 8 x) (w k) with
      | false =>
        rw [if_neg (by decide)]
        refine ⟨fun _ => no i6 m2 (fun z => ?_), fun z => absurd rfl z⟩
        unfold ft_q at z
        rw [ha, Bool.false_and] at z
        exact absurd z (by decide)
      | true =>
        rw [if_pos rfl]
        refine ⟨fun z => absurd z (by decide), fun _ => tX12_wordOf k0 (by omega) ?_⟩
        rw [bk i6]
        refine tX12_comesBy h (cu i6) m2 wr q2 q4' (fun M3 o3 m3 => ?_)
        have i7 := ex i6 o3
        unfold rd_v
        cases hb : td_b A L T other (T 7 y) (T 8 y) (w k) with
        | false =>
          rw [if_neg (by decide)]
          refine ⟨fun z => absurd rfl z, fun _ => no i7 m3 (fun z => ?_)⟩
          unfold ft_q at z
          rw [ha, hb] at z
          exact absurd z (by decide)
        | true =>
          rw [if_pos rfl]
          have hq : ft_q A L T one x other y w k = true := by unfold ft_q; rw [ha, hb]; rfl
          refine ⟨fun _ => ⟨fun z => ⟨⟨by omega, by omega⟩, ⟨by omega, by omega⟩, ih (s.1 + 1, M3) ⟨by omega, ?_, ?_, i7, m3⟩⟩, fun z => tX12_wordOf k0 (by omega) ?_⟩, fun z => absurd z (by decide)⟩
          · show s.1 + 1 = _
            rw [ow_ctS k0, if_pos hq, i2]
          · exact ow_pkS k0 i3 (fun z' => z (by rw [i2]; exact z'.2))
          · have hk := hK ⟨⟨q1, q2⟩, q3', q4'⟩ M3 i7
            unfold ft_v at hk
            rw [ow_pk_hit k0 i3 hq (by rw [← i2]; exact z) k1] at hk
            rw [bk i7]; exact hk
  · have hk := hK ⟨⟨q1, q2⟩, q3', q4'⟩ M ow_of.rf
    unfold ft_v at hk
    rw [ow_pv_lo i0] at hk
    exact hk
end FTS
