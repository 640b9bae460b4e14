/-! ===== apart by the reference ===== -/
section APM
variable {C : ow_C} {A L N : Int} {d : Nat} {M T : ow_M} {K : Int → ow_M → Prop} {bn : Int} {wd pr : Int → Int}
theorem ow_ct_end {q : Int → Bool} {i n : Int} (hi : 0 ≤ i) (hn : i ≤ n) (h : ∀ k, i ≤ k → k < n → q k ≠ true) : ow_ct q n = ow_ct q i := by
  have := ow_ind (P := fun k => i + k ≤ n → ow_ct q (i + k) = ow_ct q i) (fun _ => by rw [Int.add_zero]) (fun k k0 ih hk => by
    rw [← Int.add_assoc, ow_ctS (show 0 ≤ i + k by omega), ih (by omega), if_neg (h (i + k) (by omega) (by omega))]
    omega) (n - i) (by omega) (by omega)
  rw [show i + (n - i) = n by omega] at this
  exact this
/-- the sets one by one -/
theorem tX12_apartS {R : Int → Int → Bool} (h16 : 0 ≤ bn ∧ bn ≤ 16) (b84 : M 84 2 = bn) (hR : ∀ i j, 0 ≤ i → i < bn → 0 ≤ j → j < i → ow_bt (M 98 i) j = R i j) (h99 : M 99 0 ≠ 0) (hK : ∀ M', ow_off [99] M M' → K (wf (gdb R) 0 0 (2 ^ bn.toNat)) M') : ow_At C (EM A L N) (d + 1) mX12_apart 220 [(0, (3, 83)), (2, (0, 0)), (3, (0, 0)), (4, (0, 1))] [] (0, 0) M K := by
  have hp := ow_p16 (t := bn.toNat) (by omega)
  have et : ((bn.toNat : Nat) : Int) = bn := by omega
  have esh : ow_shl 1 bn = ((2 ^ bn.toNat : Nat) : Int) := by rw [ow_shl1 ⟨by omega, by omega⟩, ow_p2]
  have w1 : wf (gdb R) 0 0 1 = 0 := by
    show (if gdb R ((0 : Nat) : Int) = true ∧ ow_pc 0 < ow_pc (ow_or 0 ((0 : Nat) : Int)) then ow_or 0 ((0 : Nat) : Int) else 0) = 0
    have : ow_or 0 ((0 : Nat) : Int) = 0 := ow_or_0 (b := 0) ⟨by decide, by decide⟩
    rw [this, if_neg (fun z => by have := z.2; omega)]
  refine ow_upto (S := Int × Int × ow_M) (P := fun s t => ow_At C (EM A L N) (d + 1) mX12_apart 220 [(0, (3, 83)), (2, (0, t.1)), (3, (0, t.2.1)), (4, (0, s))] [] (0, 0) t.2.2 K) (I := fun s t => 1 ≤ s ∧ t.1 = wf (gdb R) 0 0 s.toNat ∧ t.2.1 = ow_pc t.1 ∧ ow_off [99] M t.2.2 ∧ ∀ x, 0 ≤ x → x < s → (t.2.2 99 x ≠ 0 ↔ gdb R x = true)) ((2 ^ bn.toNat : Nat) : Int) (fun t hI => ?_) (fun s t s1 hI ih => ?_) 1 (0, 0, M) (by omega) ⟨by omega, by rw [show (1 : Int).toNat = 1 from rfl, w1], by rw [ow_pc_0], ow_off.rf, fun x x0 x1 => ?_⟩
  · obtain ⟨_, i2, i3, i4, i5⟩ := hI
    rw [Int.toNat_natCast] at i2
    refine cX12_apart_220 ?_
    rw [i4 84 (by decide), b84, esh]
    exact ⟨fun _ => by rw [i2]; exact hK t.2.2 i4, fun q => by omega⟩
  · obtain ⟨s0, i2, i3, i4, i5⟩ := hI
    refine cX12_apart_220 ?_
    rw [i4 84 (by decide), b84, esh]
    refine ⟨fun q => by omega, fun _ => ?_⟩
    have shi : ∀ i, bn ≤ i → ow_bt s i = false := fun i hi => ow_bt_hi (t := bn.toNat) (by omega) s1 (by omega) (by omega)
    refine ow_upto (S := Int × Int) (P := fun k u => ow_At C (EM A L N) (d + 1) mX12_apart 242 [(0, (3, 83)), (2, (0, t.1)), (3, (0, t.2.1)), (4, (0, s)), (5, (0, u.1)), (6, (0, u.2)), (7, (0, k))] [] (0, 0) t.2.2 K) (I := fun k u => 0 ≤ k ∧ u.2 = ow_ct (fun i => ow_bt s i) k ∧ (0 < u.2 → (0 ≤ u.1 ∧ u.1 < k) ∧ ow_bt s u.1 = true ∧ ∀ i, u.1 < i → i < k → ow_bt s i = false)) bn (fun u hI => ?_) (fun k u k1 hI ih2 => ?_) 0 (0, 0) h16.1 ⟨by omega, rfl, fun z => absurd z (by decide)⟩
    · obtain ⟨_, j2, j3⟩ := hI
      have epc : ow_pc s = u.2 := by
        unfold ow_pc
        rw [ow_ct_end h16.1 h16.2 (fun k k0 k1 z => by rw [shi k k0] at z; exact absurd z (by decide)), j2]
      -- it isn't empty
      have pos : 0 < u.2 := by
        have g := (ow_ct_rg (q := fun i => ow_bt s i) (i := bn) h16.1).1
        refine Classical.byContradiction (fun hno => ?_)
        have e0 : ow_ct (fun i => ow_bt s i) bn = 0 := by omega
        have : s = 0 := by
          refine ow_bt_ex ⟨by omega, by omega⟩ ow_I0 (fun i i0 i1 => ?_)
          rw [ow_bt_0]
          by_cases e : i < bn
          · have := (ow_ct_z h16.1).1 e0 i i0 e
            cases hb : ow_bt s i with
            | false => rfl
            | true => exact absurd hb this
          · exact shi i (by omega)
        omega
      obtain ⟨a1, a2, a3⟩ := j3 pos
      obtain ⟨p, hpp⟩ := Int.eq_ofNat_of_zero_le a1.1
      have hp16 := ow_p16 (t := p) (by omega)
      have hp17 := ow_p16 (t := p + 1) (by omega)
      have e2 : 2 ^ (p + 1) = 2 ^ p + 2 ^ p := by rw [Nat.pow_succ]; omega
      have up : s < ((2 ^ (p + 1) : Nat) : Int) := by
        refine (ow_bt_lt ⟨by omega, by omega⟩ (by omega) (fun i i0 i1 => ?_)).2
        by_cases e : i < bn
        · exact a3 i (by omega) e
        · exact shi i (by omega)
      have lo : ((2 ^ p : Nat) : Int) ≤ s := by
        by_cases e : ((2 ^ p : Nat) : Int) ≤ s
        · exact e
        · have := ow_bt_hi (x := s) (t := p) (i := p) (by omega) (by omega) (by omega) (Int.le_refl _)
          rw [hpp, this] at a2
          exact absurd a2 (by decide)
      obtain ⟨X, hX⟩ : ∃ X, X = s - ((2 ^ p : Nat) : Int) := ⟨_, rfl⟩
      have sX : s = ((2 ^ p : Nat) : Int) + X := by omega
      have rX : 0 ≤ X ∧ X < ((2 ^ p : Nat) : Int) := by omega
      have rest : ow_and s (ow_xor (ow_shl 1 u.1) (-1)) = X := by
        refine ow_bt_ex ow_and_I ⟨by omega, by omega⟩ (fun i i0 i1 => ?_)
        rw [ow_bt_and, ow_bt_not ⟨i0, i1⟩, hpp, ow_shl1 ⟨by omega, by omega⟩, Int.toNat_natCast, ow_p2, ow_bt_p2 (by omega) i0, sX, ow_bt_pa (by omega) rX.1 rX.2 i0]
        by_cases e : (p : Int) = i
        · rw [decide_eq_true e, ← e, ow_bt_hi rX.1 rX.2 (by omega) (Int.le_refl _)]; rfl
        · rw [decide_eq_false e]; simp
      have gs : gdb R s = true ↔ gdb R X = true ∧ ∀ i : Int, 0 ≤ i → i < p → ow_bt X i = true → R p i = false := by
        rw [sX]; exact gdb_pa (by omega) rX.1 rX.2
      -- the end of one turn
      have fin : ∀ v, (v = 0 ∨ v = 1) → (v ≠ 0 ↔ gdb R s = true) → ow_At C (EM A L N) (d + 1) mX12_apart 324 [(0, (3, 83)), (2, (0, t.1)), (3, (0, t.2.1)), (4, (0, s)), (6, (0, u.2))] [(0, v), (0, s), (3, 99)] (0, 0) t.2.2 K := by
        intro v v01 hv
        have os : ow_or 0 ((s.toNat : Nat) : Int) = s := by rw [show ((s.toNat : Nat) : Int) = s by omega]; exact ow_or_0 ⟨by omega, by omega⟩
        have es : ((s.toNat : Nat) : Int) = s := by omega
        have wS : wf (gdb R) 0 0 (s + 1).toNat = if gdb R s = true ∧ ow_pc t.1 < ow_pc s then s else t.1 := by
          rw [show (s + 1).toNat = s.toNat + 1 by omega, i2]
          show (if gdb R ((s.toNat : Nat) : Int) = true ∧ ow_pc (wf (gdb R) 0 0 s.toNat) < ow_pc (ow_or 0 ((s.toNat : Nat) : Int)) then ow_or 0 ((s.toNat : Nat) : Int) else wf (gdb R) 0 0 s.toNat) = _
          rw [os, es]
        refine cX12_apart_324 ⟨⟨by omega, by omega⟩, v01, fun N1 e1 => ⟨⟨by omega, by omega⟩, ?_⟩⟩
        have oN : ow_off [99] M N1 := by rw [e1]; exact i4.up (by decide)
        have sN : ∀ x, 0 ≤ x → x < s + 1 → (N1 99 x ≠ 0 ↔ gdb R x = true) := by
          intro x x0 x1
          by_cases e : x = s
          · rw [e, e1, ow_upS]; exact hv
          · rw [e1, ow_upN (Or.inr e)]; exact i5 x x0 (by omega)
        have vN : N1 99 s = v := by rw [e1, ow_upS]
        rw [vN]
        refine ⟨fun z => ⟨⟨by omega, by omega⟩, ih (t.1, t.2.1, N1) ⟨by omega, ?_, i3, oN, sN⟩⟩, fun z => ⟨fun z2 => ⟨⟨by omega, by omega⟩, ih (s, u.2, N1) ⟨by omega, ?_, epc.symm, oN, sN⟩⟩, fun z2 => ⟨⟨by omega, by omega⟩, ih (t.1, t.2.1, N1) ⟨by omega, ?_, i3, oN, sN⟩⟩⟩⟩
        · show t.1 = _
          rw [wS, if_neg (fun y => hv.2 y.1 z)]
        · show s = _
          rw [wS, if_pos ⟨hv.1 z, by rw [epc, ← i3]; exact z2⟩]
        · show t.1 = _
          rw [wS, if_neg (fun y => by have := y.2; rw [epc, ← i3] at this; omega)]
      refine cX12_apart_242 ⟨fun _ => ?_, fun q => ?_⟩
      · rw [rest, i4 98 (by decide)]
        have st := i5 X rX.1 (by omega)
        refine ⟨⟨by omega, by omega⟩, fun z => fin 0 (Or.inl rfl) ⟨fun y => absurd rfl y, fun y => absurd z (st.2 (gs.1 y).1)⟩, fun z => ⟨⟨by omega, by omega⟩, fun z2 => fin 0 (Or.inl rfl) ⟨fun y => absurd rfl y, fun y => ?_⟩, fun z2 => fin 1 (Or.inr rfl) ⟨fun _ => gs.2 ⟨st.1 z, fun i i0 i1 y => ?_⟩, fun _ => by decide⟩⟩⟩
        · obtain ⟨i, hi, hb⟩ := (ow_bt_ne ow_and_I).1 z2
          rw [ow_bt_and, Bool.and_eq_true] at hb
          have ip : i < p := by
            by_cases e : i < p
            · exact e
            · rw [ow_bt_hi rX.1 rX.2 (by omega) (by omega)] at hb; exact absurd hb.2 (by decide)
          have := (gs.1 y).2 i hi.1 ip hb.2
          rw [hpp, hR p i (by omega) (by omega) hi.1 ip, this] at hb
          exact absurd hb.1 (by decide)
        · cases e : R p i with
          | false => rfl
          | true =>
            refine absurd z2 ((ow_bt_ne ow_and_I).2 ⟨i, ⟨i0, by omega⟩, ?_⟩)
            rw [ow_bt_and, hpp, hR p i (by omega) (by omega) i0 i1, e, y]; rfl
      · rw [i4 84 (by decide), b84] at q; omega
    · obtain ⟨k0, j2, j3⟩ := hI
      have cr := ow_ct_rg (q := fun i => ow_bt s i) k0
      refine cX12_apart_242 ⟨fun q => ?_, fun _ => ?_⟩
      · rw [i4 84 (by decide), b84] at q; omega
      · rw [ow_bit ⟨k0, by omega⟩]
        cases e : ow_bt s k with
        | false =>
          rw [if_neg (by decide)]
          refine ⟨fun z => absurd rfl z, fun _ => ⟨⟨by omega, by omega⟩, ih2 (u.1, u.2) ⟨by omega, ?_, fun z => ?_⟩⟩⟩
          · show u.2 = _
            rw [ow_ctS k0, if_neg (by rw [e]; decide), j2]; omega
          · obtain ⟨a1, a2, a3⟩ := j3 z
            refine ⟨⟨a1.1, by show u.1 < k + 1; omega⟩, a2, fun i h1 h2 => ?_⟩
            by_cases ei : i = k
            · rw [ei]; exact e
            · exact a3 i h1 (by omega)
        | true =>
          rw [if_pos rfl]
          refine ⟨fun _ => ⟨⟨by omega, by omega⟩, ⟨by omega, by omega⟩, ih2 (k, u.2 + 1) ⟨by omega, ?_, fun z => ?_⟩⟩, fun z => absurd z (by decide)⟩
          · show u.2 + 1 = _
            rw [ow_ctS k0, if_pos e, j2]
          · exact ⟨⟨k0, by show k < k + 1; omega⟩, e, fun i h1 h2 => by
              have h1' : k < i := h1
              omega⟩
  · rw [show x = 0 by omega]
    exact ⟨fun _ => gdb_0, fun _ => h99⟩
theorem tX12_apart (h : em_ok A L N) (hc : cu_M N M T) (hok : bk_ok N bn wd pr) (hB : bk_M M 84 bn wd pr) {n : Int} (h0 : ¬ (bn ≤ 16 ∧ 0 ≤ n ∧ n ≤ 8) → K (-1) M) (hK : bn ≤ 16 ∧ 0 ≤ n ∧ n ≤ 8 → ∀ M', ow_of [89, 90, 91, 92, 93, 94, 97, 98, 99] [(83, 27), (83, 28)] M M' → K (ap_v A L N T n bn wd) M') : ow_Sp C (EM A L N) (d + 8) mX12_apart (0, 0) [(3, 83), (0, n)] M K := by
  have hN := em_Npos h
  have hN2 := h.2.2.2.2.2
  have o0 := hok.1
  have b84 := hB.1
  refine fX12_apart (tX12_isIn (fun q => ⟨fun _ => h0 (fun z => q z.2), fun z => absurd rfl z⟩) (fun q => ⟨fun z => absurd z (by decide), fun _ => ?_⟩))
  rw [b84]
  refine ⟨fun h16 => tX12_rule hc (fun M1 p1 m1 => ?_), fun h16 => h0 (fun z => by have := z.1; omega)⟩
  have oo1 : ow_of [89, 90, 91, 92, 93, 94, 97, 98, 99] [(83, 27), (83, 28)] M M1 := p1.mono (fun c hc => by simp at hc; subst hc; decide) (fun x hx => Or.inr hx)
  have bk2 : ∀ {M'}, ow_of [89, 90, 91, 92, 93, 94, 97, 98, 99] [(83, 27), (83, 28)] M M' → M' 84 2 = bn := fun {M'} o => by rw [o.at (by decide) (by decide)]; exact b84
  have bkw : ∀ {M'}, ow_of [89, 90, 91, 92, 93, 94, 97, 98, 99] [(83, 27), (83, 28)] M M' → ∀ k, 0 ≤ k → k < bn → M' 84 (10 + 2 * k) = wd k := fun {M'} o k k0 k1 => by rw [o.at (by decide) (by decide)]; exact (hB.2 k k0 k1).1
  have ex : ∀ {S M' M''}, (∀ c ∈ S, c ∈ [(89 : Int), 90, 91, 92, 93, 94, 97, 98, 99]) → ow_of [89, 90, 91, 92, 93, 94, 97, 98, 99] [(83, 27), (83, 28)] M M' → ow_off S M' M'' → ow_of [89, 90, 91, 92, 93, 94, 97, 98, 99] [(83, 27), (83, 28)] M M'' := fun {S M' M''} hS o o' => o.tr ((ow_of.off o').mono hS (fun x hx => by simp at hx))
  have i97 : ∀ c ∈ [(97 : Int)], c ∈ [(89 : Int), 90, 91, 92, 93, 94, 97, 98, 99] := fun c hc => by simp at hc; subst hc; decide
  have i98 : ∀ c ∈ [(98 : Int)], c ∈ [(89 : Int), 90, 91, 92, 93, 94, 97, 98, 99] := fun c hc => by simp at hc; subst hc; decide
  have i99 : ∀ c ∈ [(99 : Int)], c ∈ [(89 : Int), 90, 91, 92, 93, 94, 97, 98, 99] := fun c hc => by simp at hc; subst hc; decide
  have iwy : ∀ c ∈ [(89 : Int), 90, 91, 92, 93, 94], c ∈ [(89 : Int), 90, 91, 92, 93, 94, 97, 98, 99] := fun c hc => by simp at hc; rcases hc with e | e | e | e | e | e <;> subst e <;> decide
  have m97 : ∀ {M' M''}, mc_ok M' T → ow_off [97] M' M'' → mc_ok M'' T := fun {M' M''} m o => m.fr (ow_of.off o) (by decide) (by decide) (by decide) (by decide) (by decide) (by decide) (by decide) (by decide) (by decide)
  have m98 : ∀ {M' M''}, mc_ok M' T → ow_off [98] M' M'' → mc_ok M'' T := fun {M' M''} m o => m.fr (ow_of.off o) (by decide) (by decide) (by decide) (by decide) (by decide) (by decide) (by decide) (by decide) (by decide)
  -- who is barred
  have barred : ∀ s0, ow_of [89, 90, 91, 92, 93, 94, 97, 98, 99] [(83, 27), (83, 28)] M s0 → (∀ x, 0 ≤ x → x < N → ∀ j, 0 ≤ j → j < 32 → ow_bt (s0 97 x) j = ap_m A L T n bn wd x j) → (∀ k, 0 ≤ k → k < bn → s0 98 k = 0) → ow_At C (EM A L N) (d + 8) mX12_apart 135 [(0, (3, 83)), (2, (0, 0))] [] (0, 0) s0 K := by
    intro s0 os0 cs0 z0
    refine ow_upto (S := ow_M) (P := fun x s => ow_At C (EM A L N) (d + 8) mX12_apart 135 [(0, (3, 83)), (2, (0, x))] [] (0, 0) s K) (I := fun x s => 0 ≤ x ∧ ow_off [98] s0 s ∧ ∀ i j, 0 ≤ i → i < bn → 0 ≤ j → j < 32 → (ow_bt (s 98 i) j = true ↔ j ≠ i ∧ ∃ y, (0 ≤ y ∧ y < x) ∧ ap_m A L T n bn wd y i = true ∧ ap_m A L T n bn wd y j = true)) N (fun s hI => ?_) (fun x s x1 hI ih => ?_) 0 s0 (by omega) ⟨by omega, ow_off.rf, fun i j i0 i1 j0 j1 => ?_⟩
    · obtain ⟨_, i2, i3⟩ := hI
      refine cX12_apart_135 ⟨fun _ N1 e1 => ?_, fun q => by omega⟩
      have oN : ow_of [89, 90, 91, 92, 93, 94, 97, 98, 99] [(83, 27), (83, 28)] M N1 := by rw [e1]; exact (ex i98 os0 i2).up (by decide)
      refine tX12_apartS (R := ap_R A L N T n bn wd) ⟨o0, h16⟩ (bk2 oN) (fun i j g0 g1 g2 g3 => ?_) (by rw [e1, ow_upS]; decide) (fun M' o' => hK ⟨h16, q⟩ M' (ex i99 oN o'))
      rw [e1, ow_upN (Or.inl (by decide)), Bool.eq_iff_iff, i3 i j g0 g1 g2 (by omega), ap_R_iff h]
      exact ⟨fun z => z.2, fun z => ⟨by omega, z⟩⟩
    · obtain ⟨x0, i2, i3⟩ := hI
      refine cX12_apart_135 ⟨fun q => by omega, fun _ => ?_⟩
      refine ow_upto (S := ow_M) (P := fun k s => ow_At C (EM A L N) (d + 8) mX12_apart 145 [(0, (3, 83)), (2, (0, x)), (3, (0, k))] [] (0, 0) s K) (I := fun k s => 0 ≤ k ∧ ow_off [98] s0 s ∧ ∀ i j, 0 ≤ i → i < bn → 0 ≤ j → j < 32 → (ow_bt (s 98 i) j = true ↔ j ≠ i ∧ ∃ y, (0 ≤ y ∧ (y < x ∨ (y = x ∧ i < k))) ∧ ap_m A L T n bn wd y i = true ∧ ap_m A L T n bn wd y j = true)) bn (fun s hI => ?_) (fun k s k1 hI ih2 => ?_) 0 s o0 ⟨by omega, i2, fun i j g0 g1 j0 j1 => ?_⟩
      · obtain ⟨_, k2, k3⟩ := hI
        have e84 := bk2 (ex i98 os0 k2)
        refine cX12_apart_145 ⟨fun _ => ⟨⟨by omega, by omega⟩, ih s ⟨by omega, k2, fun i j g0 g1 j0 j1 => ?_⟩⟩, fun q => by rw [e84] at q; omega⟩
        rw [k3 i j g0 g1 j0 j1]
        exact ⟨fun ⟨z, y, y1, y2⟩ => ⟨z, y, ⟨y1.1, by omega⟩, y2⟩, fun ⟨z, y, y1, y2⟩ => ⟨z, y, ⟨y1.1, by omega⟩, y2⟩⟩
      · obtain ⟨k0, k2, k3⟩ := hI
        have e84 := bk2 (ex i98 os0 k2)
        have e97 : s 97 x = s0 97 x := k2 97 (by decide) x
        have nx : ∀ {s'}, ow_off [98] s0 s' → (∀ i j, 0 ≤ i → i < bn → 0 ≤ j → j < 32 → (ow_bt (s' 98 i) j = true ↔ ow_bt (s 98 i) j = true ∨ (j ≠ i ∧ i = k ∧ ap_m A L T n bn wd x i = true ∧ ap_m A L T n bn wd x j = true))) → ow_I (k + 1) ∧ ow_At C (EM A L N) (d + 8) mX12_apart 145 [(0, (3, 83)), (2, (0, x)), (3, (0, k + 1))] [] (0, 0) s' K := fun {s'} os' hs' => by
          refine ⟨⟨by omega, by omega⟩, ih2 s' ⟨by omega, os', fun i j g0 g1 j0 j1 => ?_⟩⟩
          rw [hs' i j g0 g1 j0 j1, k3 i j g0 g1 j0 j1]
          refine ⟨fun z => ?_, fun ⟨z, y, y1, y2, y3⟩ => ?_⟩
          · rcases z with ⟨z, y, y1, y2⟩ | ⟨z, z1, z2, z3⟩
            · exact ⟨z, y, ⟨y1.1, by omega⟩, y2⟩
            · exact ⟨z, x, ⟨x0, Or.inr ⟨rfl, by omega⟩⟩, z2, z3⟩
          · by_cases e : y = x ∧ i = k
            · rw [e.1] at y2 y3
              exact Or.inr ⟨z, e.2, y2, y3⟩
            · exact Or.inl ⟨z, y, ⟨y1.1, by omega⟩, y2, y3⟩
        refine cX12_apart_145 ⟨fun q => by rw [e84] at q; omega, fun _ => ⟨⟨k0, by omega⟩, ⟨x0, by omega⟩, ?_⟩⟩
        rw [e97, ow_bit ⟨k0, by omega⟩, cs0 x x0 x1 k k0 (by omega)]
        cases e : ap_m A L T n bn wd x k with
        | false =>
          rw [if_neg (by decide)]
          refine ⟨fun _ N1 e1 => nx (by rw [e1]; exact k2.up (by decide)) (fun i j g0 g1 j0 j1 => ?_), fun z => absurd z (by decide)⟩
          have same : ow_bt (N1 98 i) j = ow_bt (s 98 i) j := by
            by_cases ei : i = k
            · rw [ei, e1, ow_upS, ow_bt_or, ow_bt_0, Bool.or_false]
            · rw [e1, ow_upN (Or.inr ei)]
          rw [same]
          refine ⟨fun z => Or.inl z, fun z => ?_⟩
          rcases z with z | ⟨_, z1, z2, _⟩
          · exact z
          · rw [z1, e] at z2; exact absurd z2 (by decide)
        | true =>
          rw [if_pos rfl]
          refine ⟨fun z => absurd rfl z, fun _ N1 e1 => nx (by rw [e1]; exact k2.up (by decide)) (fun i j g0 g1 j0 j1 => ?_)⟩
          by_cases ei : i = k
          · rw [ei, e1, ow_upS, ow_bt_or, Bool.or_eq_true, ow_bt_and, ow_bt_not ⟨j0, j1⟩, ow_bt_shl ⟨k0, by omega⟩ j0, Bool.and_eq_true, cs0 x x0 x1 j j0 j1]
            refine ⟨fun z => ?_, fun z => ?_⟩
            · rcases z with z | ⟨z1, z2⟩
              · exact Or.inl z
              · refine Or.inr ⟨fun y => ?_, rfl, e, z1⟩
                rw [decide_eq_true y.symm] at z2
                exact absurd z2 (by decide)
            · rcases z with z | ⟨z1, _, _, z2⟩
              · exact Or.inl z
              · refine Or.inr ⟨z2, ?_⟩
                rw [decide_eq_false (fun y => z1 y.symm)]; rfl
          · rw [e1, ow_upN (Or.inr ei)]
            exact ⟨fun z => Or.inl z, fun z => by rcases z with z | z; exact z; exact absurd z.2.1 ei⟩
      · rw [i3 i j g0 g1 j0 j1]
        exact ⟨fun ⟨z, y, y1, y2⟩ => ⟨z, y, ⟨y1.1, by omega⟩, y2⟩, fun ⟨z, y, y1, y2⟩ => ⟨z, y, ⟨y1.1, by omega⟩, y2⟩⟩
    · rw [z0 i i0 i1, ow_bt_0]
      exact ⟨fun z => absurd z (by decide), fun ⟨_, y, y1, _⟩ => by omega⟩
  -- who comes
  have comes : ∀ s0, ow_off [97] M1 s0 → (∀ x, 0 ≤ x → x < N → s0 97 x = 0) → ow_At C (EM A L N) (d + 8) mX12_apart 52 [(0, (3, 83)), (1, (0, n)), (2, (0, 0))] [] (0, 0) s0 K := by
    intro s0 os0 z0
    refine ow_upto (S := ow_M) (P := fun i s => ow_At C (EM A L N) (d + 8) mX12_apart 52 [(0, (3, 83)), (1, (0, n)), (2, (0, i))] [] (0, 0) s K) (I := fun i s => 0 ≤ i ∧ ow_of [89, 90, 91, 92, 93, 94, 97, 98, 99] [(83, 27), (83, 28)] M s ∧ mc_ok s T ∧ (∀ k, 0 ≤ k → k < i → s 98 k = 0) ∧ ∀ x, 0 ≤ x → x < N → ∀ j, 0 ≤ j → j < 32 → ow_bt (s 97 x) j = (decide (j < i) && ap_m A L T n bn wd x j)) bn (fun s hI => ?_) (fun i s i1 hI ih => ?_) 0 s0 o0 ⟨by omega, ex i97 oo1 os0, m97 m1 os0, fun k k0 k1 => by omega, fun x x0 x1 j j0 j1 => ?_⟩
    · obtain ⟨_, i2, i3, i4, i5⟩ := hI
      refine cX12_apart_52 ⟨fun _ => barred s i2 (fun x x0 x1 j j0 j1 => ?_) i4, fun q => by rw [bk2 i2] at q; omega⟩
      rw [i5 x x0 x1 j j0 j1]
      by_cases e : j < bn
      · rw [decide_eq_true e, Bool.true_and]
      · rw [decide_eq_false e, Bool.false_and]
        unfold ap_m
        exact (decide_eq_false (fun z => e z.1)).symm
    · obtain ⟨i0, i2, i3, i4, i5⟩ := hI
      have wr := (hok.2.2.1 i i0 i1).1
      refine cX12_apart_52 ⟨fun q => by rw [bk2 i2] at q; omega, fun _ => ⟨⟨i0, by omega⟩, fun N1 e1 => ?_⟩⟩
      have oN : ow_off [98] s N1 := by rw [e1]; exact ow_off.rf.up (by decide)
      have oN' := ex i98 i2 oN
      refine tX12_wordOf i0 (by omega) ?_
      rw [bkw oN' i i0 i1]
      refine tX12_waysOf h (m98 i3 oN) wr ⟨by omega, by omega⟩ q (fun M2 o2 m2 f2 => ?_)
      have oM := ex iwy oN' o2
      have z98 : ∀ k, 0 ≤ k → k < i + 1 → M2 98 k = 0 := by
        intro k k0 k1
        rw [o2 98 (by decide)]
        by_cases e : k = i
        · rw [e, e1, ow_upS]
        · rw [e1, ow_upN (Or.inr e)]; exact i4 k k0 (by omega)
      refine ow_upto (S := ow_M) (P := fun x s => ow_At C (EM A L N) (d + 8) mX12_apart 84 [(0, (3, 83)), (1, (0, n)), (2, (0, i)), (5, (0, x))] [] (0, 0) s K) (I := fun x t => 0 ≤ x ∧ ow_off [97] M2 t ∧ ∀ y, 0 ≤ y → y < N → ∀ j, 0 ≤ j → j < 32 → ow_bt (t 97 y) j = (decide (j < i ∨ (j = i ∧ y < x)) && ap_m A L T n bn wd y j)) N (fun t hI => ?_) (fun x t x1 hI ih2 => ?_) 0 M2 (by omega) ⟨by omega, ow_off.rf, fun y y0 y1 j j0 j1 => ?_⟩
      · obtain ⟨_, k2, k3⟩ := hI
        refine cX12_apart_84 ⟨fun _ => ⟨⟨by omega, by omega⟩, ih t ⟨by omega, ex i97 oM k2, m97 m2 k2, fun k k0 k1 => by rw [k2 98 (by decide)]; exact z98 k k0 k1, fun y y0 y1 j j0 j1 => ?_⟩⟩, fun q => by omega⟩
        rw [k3 y y0 y1 j j0 j1]
        have e : (j < i ∨ (j = i ∧ y < N)) = (j < i + 1) := propext ⟨fun z => by omega, fun z => by omega⟩
        simp only [e]
      · obtain ⟨x0, k2, k3⟩ := hI
        have f3 : fw_ok A L N T (wd i) n.toNat (t 93) := by
          have : t 93 = M2 93 := funext (fun y => k2 93 (by decide) y)
          rw [this]; exact f2
        have hlc := ow_lcq (a := bw A L T x n.toNat 0 (wd i) 0) (b := 0)
        have nx : ∀ {t'}, ow_off [97] M2 t' → (∀ y, 0 ≤ y → y < N → ∀ j, 0 ≤ j → j < 32 → ow_bt (t' 97 y) j = (ow_bt (t 97 y) j || (decide (j = i ∧ y = x) && ap_m A L T n bn wd y j))) → ow_I (x + 1) ∧ ow_At C (EM A L N) (d + 8) mX12_apart 84 [(0, (3, 83)), (1, (0, n)), (2, (0, i)), (5, (0, x + 1))] [] (0, 0) t' K := fun {t'} ot' ht' => by
          refine ⟨⟨by omega, by omega⟩, ih2 t' ⟨by omega, ot', fun y y0 y1 j j0 j1 => ?_⟩⟩
          rw [ht' y y0 y1 j j0 j1, k3 y y0 y1 j j0 j1, ← Bool.and_or_distrib_right]
          congr 1
          rw [← Bool.decide_or]
          exact decide_eq_decide.2 ⟨fun z => by omega, fun z => by omega⟩
        refine cX12_apart_84 ⟨fun q => by omega, fun _ => ⟨⟨x0, by omega⟩, tX12_waysTo h (by omega) f3 ⟨x0, x1⟩ ⟨fun z N3 e3 => nx (by rw [e3]; exact k2.up (by decide)) (fun y y0 y1 j j0 j1 => ?_), fun z N3 e3 => nx (by rw [e3]; exact k2.up (by decide)) (fun y y0 y1 j j0 j1 => ?_)⟩⟩⟩
        · have same : ow_bt (N3 97 y) j = ow_bt (t 97 y) j := by
            by_cases ey : y = x
            · rw [ey, e3, ow_upS, ow_bt_or, ow_bt_0, Bool.or_false]
            · rw [e3, ow_upN (Or.inr ey)]
          rw [same]
          by_cases ey : j = i ∧ y = x
          · rw [ey.1, ey.2, decide_eq_true ⟨rfl, rfl⟩, Bool.true_and]
            have : ap_m A L T n bn wd x i = false := decide_eq_false (fun q => by have := q.2; omega)
            rw [this, Bool.or_false]
          · rw [decide_eq_false ey, Bool.false_and, Bool.or_false]
        · by_cases ey : y = x
          · rw [ey, e3, ow_upS, ow_bt_or, ow_bt_shl ⟨i0, by omega⟩ j0]
            congr 1
            by_cases ej : i = j
            · rw [← ej, decide_eq_true rfl, decide_eq_true ⟨rfl, rfl⟩, Bool.true_and]
              unfold ap_m
              exact (decide_eq_true ⟨i1, by omega⟩).symm
            · rw [decide_eq_false ej, decide_eq_false (fun q => ej q.1.symm), Bool.false_and]
          · rw [e3, ow_upN (Or.inr ey), decide_eq_false (fun q => ey q.2), Bool.false_and, Bool.or_false]
      · rw [o2 97 (by decide), oN 97 (by decide), i5 y y0 y1 j j0 j1]
        congr 1
        exact decide_eq_decide.2 ⟨fun z => by omega, fun z => by omega⟩
    · rw [z0 x x0 x1, ow_bt_0, decide_eq_false (by omega), Bool.false_and]
  refine ow_upto (S := ow_M) (P := fun x s => ow_At C (EM A L N) (d + 8) mX12_apart 29 [(0, (3, 83)), (1, (0, n)), (2, (0, x))] [] (0, 0) s K) (I := fun x s => 0 ≤ x ∧ ow_off [97] M1 s ∧ ∀ y, 0 ≤ y → y < x → s 97 y = 0) N (fun s hI => ?_) (fun x s x1 hI ih => ?_) 0 M1 (by omega) ⟨by omega, ow_off.rf, fun y y0 y1 => by omega⟩
  · exact cX12_apart_29 ⟨fun _ => comes s hI.2.1 hI.2.2, fun q => by omega⟩
  · obtain ⟨x0, i2, i3⟩ := hI
    refine cX12_apart_29 ⟨fun q => by omega, fun _ => ⟨⟨x0, by omega⟩, fun N1 e1 => ⟨⟨by omega, by omega⟩, ih N1 ⟨by omega, by rw [e1]; exact i2.up (by decide), fun y y0 y1 => ?_⟩⟩⟩⟩
    by_cases e : y = x
    · rw [e, e1, ow_upS]
    · rw [e1, ow_upN (Or.inr e)]; exact i3 y y0 (by omega)
end APM
