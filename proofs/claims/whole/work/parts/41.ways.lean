/-! ===== the reference's ways ===== -/
theorem ow_sm_zz {g : Int → Int} {i j : Int} (h : 0 ≤ i) (hij : i ≤ j) (hg : ∀ k, i ≤ k → k < j → g k = 0) : ow_sm g j = ow_sm g i := by
  have := ow_ind (P := fun k => i + k ≤ j → ow_sm g (i + k) = ow_sm g i) (fun _ => by rw [Int.add_zero]) (fun k k0 ih hk => by
    rw [← Int.add_assoc, ow_smS (show 0 ≤ i + k by omega), ih (by omega), hg (i + k) (by omega) (by omega)]
    omega) (j - i) (by omega) (by omega)
  rw [show i + (j - i) = j by omega] at this
  exact this
/-- what one word and last give to a test -/
def wt (A L : Int) (T : ow_M) (q : Int → Int) (hand w bh : Int) : Int := ow_sm (fun z => cw A L T hand w bh z * q (9 * em_ch A L w (z / A) (z % A) + (z / A + 1))) (L * A)
def wy_s (N L : Int) (f : Int → Int) : Prop := (∀ x, 0 ≤ x → x < 2304 → 0 ≤ f x) ∧ ∀ x, 0 ≤ x → x < 2304 → ¬ (x / 9 < N ∧ x % 9 ≤ L) → f x = 0
section WYS
variable {C : ow_C} {A L N : Int} {d : Nat} {M T : ow_M} {K : Int → ow_M → Prop}
theorem ow_up_f {M : ow_M} {c x v : Int} : ow_up M c x v c = bk_put (M c) x v := by
  funext i
  by_cases e : i = x
  · rw [e, ow_upS, bk_put_s]
  · rw [ow_upN (Or.inr e), bk_put_n e]
theorem tX12_spread (h : em_ok A L N) (hm : mc_ok M T) {hand w bh : Int} (hh : 0 ≤ hand ∧ hand < 8) (hw : 0 ≤ w ∧ w < N) (hb : 0 ≤ bh ∧ bh ≤ L) (ha : 0 ≤ M 93 (9 * w + bh)) (hs : wy_s N L (M 94)) (hB : ow_sm (M 94) 2304 + M 93 (9 * w + bh) * 108 ≤ 18509302102818816) (hK : ∀ M', ow_off [89, 90, 91, 92, 94] M M' → mc_ok M' T → wy_s N L (M' 94) → (∀ q : Int → Int, ow_sm (fun x => M' 94 x * q x) 2304 = ow_sm (fun x => M 94 x * q x) 2304 + M 93 (9 * w + bh) * wt A L T q hand w bh) → K 0 M') : ow_Sp C (EM A L N) (d + 5) mX12_spread (0, 0) [(3, 83), (0, hand), (0, w), (0, bh)] M K := by
  have hL := h.2.2.2.1
  have hL3 := h.2.2.1
  have hA := h.2.1
  have hA1 := h.1
  have hN2 := h.2.2.2.2.2
  have hD := vx_D h
  refine fX12_spread ?_
  refine ow_upto (S := ow_M) (P := fun p s => ow_At C (EM A L N) (d + 5) mX12_spread 3 [(0, (3, 83)), (1, (0, hand)), (2, (0, w)), (3, (0, bh)), (4, (0, p))] [] (0, 0) s K) (I := fun p s => 0 ≤ p ∧ ow_off [89, 90, 91, 92, 94] M s ∧ mc_ok s T ∧ wy_s N L (s 94) ∧ ∀ q : Int → Int, ow_sm (fun x => s 94 x * q x) 2304 = ow_sm (fun x => M 94 x * q x) 2304 + M 93 (9 * w + bh) * ow_sm (fun z => cw A L T hand w bh z * q (9 * em_ch A L w (z / A) (z % A) + (z / A + 1))) (p * A)) L (fun s hI => ?_) (fun p s p1 hI ih => ?_) 0 M (by omega) ⟨by omega, ow_off.rf, hm, hs, fun q => by rw [Int.zero_mul, ow_sm0, Int.mul_zero, Int.add_zero]⟩
  · obtain ⟨_, i2, i3, i4, i5⟩ := hI
    exact cX12_spread_3 ⟨fun _ => hK s i2 i3 i4 i5, fun q => by omega⟩
  · obtain ⟨p0, i2, i3, i4, i5⟩ := hI
    refine cX12_spread_3 ⟨fun q => by omega, fun _ => ?_⟩
    refine ow_upto (S := ow_M) (P := fun c s => ow_At C (EM A L N) (d + 5) mX12_spread 15 [(0, (3, 83)), (1, (0, hand)), (2, (0, w)), (3, (0, bh)), (4, (0, p)), (5, (0, c))] [] (0, 0) s K) (I := fun c s => 0 ≤ c ∧ ow_off [89, 90, 91, 92, 94] M s ∧ mc_ok s T ∧ wy_s N L (s 94) ∧ ∀ q : Int → Int, ow_sm (fun x => s 94 x * q x) 2304 = ow_sm (fun x => M 94 x * q x) 2304 + M 93 (9 * w + bh) * ow_sm (fun z => cw A L T hand w bh z * q (9 * em_ch A L w (z / A) (z % A) + (z / A + 1))) (p * A + c)) A (fun s hI => ?_) (fun c s c1 hI ih2 => ?_) 0 s (by omega) ⟨by omega, i2, i3, i4, fun q => by rw [Int.add_zero]; exact i5 q⟩
    · obtain ⟨_, j2, j3, j4, j5⟩ := hI
      refine cX12_spread_15 ⟨fun _ => ⟨⟨by omega, by omega⟩, ih s ⟨by omega, j2, j3, j4, fun q => ?_⟩⟩, fun q => by omega⟩
      rw [Int.add_mul, Int.one_mul]; exact j5 q
    · obtain ⟨c0, j2, j3, j4, j5⟩ := hI
      obtain ⟨v1, v2, v3, v4⟩ := cw_v (T := T) h (hand := hand) (w := w) (bh := bh) ⟨p0, p1⟩ ⟨c0, c1⟩
      have cr := cw_rg (A := A) (L := L) (T := T) (hand := hand) (w := w) (bh := bh) (z := p * A + c)
      have hr := em_ch_rg h hw ⟨p0, p1⟩ ⟨c0, c1⟩
      refine cX12_spread_15 ⟨fun q => by omega, fun _ => ⟨⟨by omega, by omega⟩, tX12_changeBy h j3 hh hw ⟨p0, p1⟩ ⟨hb.1, by omega⟩ ⟨c0, c1⟩ (fun M2 o2 m2 => ?_)⟩⟩
      rw [← v1]
      have e94 : M2 94 = s 94 := funext (fun x => o2 94 (by decide) x)
      have e93 : M2 93 (9 * w + bh) = M 93 (9 * w + bh) := by rw [o2 93 (by decide), j2 93 (by decide)]
      have o2' := j2.tr (o2.mono (S' := [89, 90, 91, 92, 94]) (fun c hc => by simp at hc; rcases hc with e | e | e | e <;> subst e <;> decide))
      have tst : ∀ q : Int → Int, ow_sm (fun z => cw A L T hand w bh z * q (9 * em_ch A L w (z / A) (z % A) + (z / A + 1))) (p * A + (c + 1)) = ow_sm (fun z => cw A L T hand w bh z * q (9 * em_ch A L w (z / A) (z % A) + (z / A + 1))) (p * A + c) + cw A L T hand w bh (p * A + c) * q (9 * em_ch A L w p c + (p + 1)) := by
        intro q
        rw [← Int.add_assoc, ow_smS v2.1, v3, v4]
      refine ⟨fun z => ⟨⟨by omega, by omega⟩, ih2 M2 ⟨by omega, o2', m2, by rw [e94]; exact j4, fun q => ?_⟩⟩, fun z => tX12_changed h hw ⟨p0, p1⟩ ⟨c0, c1⟩ ?_⟩
      · have e0 : cw A L T hand w bh (p * A + c) = 0 := by omega
        rw [tst q, e0, e94, Int.zero_mul, Int.add_zero]
        exact j5 q
      · -- the sums stay small
        have one : ow_sm (s 94) 2304 = ow_sm (M 94) 2304 + M 93 (9 * w + bh) * ow_sm (cw A L T hand w bh) (p * A + c) := by
          have := j5 (fun _ => 1)
          simp only [Int.mul_one] at this
          exact this
        have up1 := ow_sm_up (g := cw A L T hand w bh) (i := p * A + c + 1) (j := L * A) (by omega) (by omega) (fun _ _ _ => cw_rg.1)
        rw [ow_smS v2.1] at up1
        have tot := (cw_sum (T := T) h (hand := hand) (w := w) (bh := bh)).2
        have b1 := Int.mul_le_mul_of_nonneg_left (show ow_sm (cw A L T hand w bh) (p * A + c) + cw A L T hand w bh (p * A + c) ≤ 108 by omega) ha
        rw [Int.mul_add] at b1
        have ad0 := Int.mul_nonneg ha cr.1
        have sn := ow_sm_nn (g := cw A L T hand w bh) v2.1 (fun _ _ _ => cw_rg.1)
        have sm0 := Int.mul_nonneg ha sn
        have m94 := ow_sm_nn (g := M 94) (n := 2304) (by decide) hs.1
        have hx : 0 ≤ 9 * em_ch A L w p c + p + 1 ∧ 9 * em_ch A L w p c + p + 1 < 2304 := by omega
        have en := ow_sm_one (g := s 94) hx j4.1
        have en0 := j4.1 _ hx.1 hx.2
        rw [e93, e94]
        refine ⟨⟨by omega, by omega⟩, ⟨by omega, by omega⟩, ⟨by omega, by omega⟩, hx, ⟨by omega, by omega⟩, ⟨by omega, by omega⟩, ⟨by omega, by omega⟩, ⟨by omega, by omega⟩, ⟨by omega, by omega⟩, fun N3 e3 => ⟨⟨by omega, by omega⟩, ih2 N3 ⟨by omega, by rw [e3]; exact o2'.up (by decide), ?_, ?_, fun q => ?_⟩⟩⟩
        · have o3 : ow_of [94] [] M2 N3 := by rw [e3]; exact ow_of.rf.up (by decide)
          exact m2.fr o3 (by decide) (by decide) (by decide) (by decide) (by decide) (by decide) (by decide) (by decide) (by decide)
        · rw [e3, ow_up_f, e94]
          refine ⟨fun x x0 x1 => ?_, fun x x0 x1 hx2 => ?_⟩
          · by_cases e : x = 9 * em_ch A L w p c + p + 1
            · rw [e, bk_put_s]; omega
            · rw [bk_put_n e]; exact j4.1 x x0 x1
          · by_cases e : x = 9 * em_ch A L w p c + p + 1
            · exact absurd (show x / 9 < N ∧ x % 9 ≤ L by omega) hx2
            · rw [bk_put_n e]; exact j4.2 x x0 x1 hx2
        · have e1 : (fun x => N3 94 x * q x) = (fun x => bk_put (s 94) (9 * em_ch A L w p c + p + 1) (s 94 (9 * em_ch A L w p c + p + 1) + M 93 (9 * w + bh) * cw A L T hand w bh (p * A + c)) x * q x) := by
            funext x; rw [e3, ow_up_f, e94]
          rw [e1, ow_sm_put hx, j5 q, tst q, Int.mul_add, show 9 * em_ch A L w p c + (p + 1) = 9 * em_ch A L w p c + p + 1 by omega, Int.mul_assoc]
          omega
theorem wt_1 (h : em_ok A L N) {hand w bh : Int} : wt A L T (fun _ => 1) hand w bh = ow_sm (cw A L T hand w bh) (L * A) := by
  unfold wt
  simp only [Int.mul_one]
theorem tX12_goOn (h : em_ok A L N) (hm : mc_ok M T) {hand : Int} (hh : 0 ≤ hand ∧ hand < 8) (hs : wy_s N L (M 93)) (hB : ow_sm (M 93) 2304 * 108 ≤ 18509302102818816) (hK : ∀ M', ow_off [89, 90, 91, 92, 93, 94] M M' → mc_ok M' T → wy_s N L (M' 93) → (∀ q : Int → Int, ow_sm (fun x => M' 93 x * q x) 2304 = ow_sm (fun y => M 93 y * wt A L T q hand (y / 9) (y % 9)) 2304) → K 0 M') : ow_Sp C (EM A L N) (d + 6) mX12_goOn (0, 0) [(3, 83), (0, hand)] M K := by
  have hL := h.2.2.2.1
  have hL3 := h.2.2.1
  have hN := em_Npos h
  have hN2 := h.2.2.2.2.2
  have s93 := ow_sm_nn (g := M 93) (n := 2304) (by decide) hs.1
  refine fX12_goOn ?_
  -- the last loop
  have last : ∀ M2, ow_off [89, 90, 91, 92, 94] M M2 → mc_ok M2 T → wy_s N L (M2 94) → (∀ q : Int → Int, ow_sm (fun x => M2 94 x * q x) 2304 = ow_sm (fun y => M 93 y * wt A L T q hand (y / 9) (y % 9)) 2304) → ow_At C (EM A L N) (d + 6) mX12_goOn 79 [(0, (3, 83)), (2, (0, 0))] [] (0, 0) M2 K := by
    intro M2 o2 m2 w2 t2
    refine ow_upto (S := ow_M) (P := fun i s => ow_At C (EM A L N) (d + 6) mX12_goOn 79 [(0, (3, 83)), (2, (0, i))] [] (0, 0) s K) (I := fun i s => 0 ≤ i ∧ ow_off [93] M2 s ∧ ∀ x, 0 ≤ x → x < i → s 93 x = M2 94 x) 2304 (fun s hI => ?_) (fun i s i1 hI ih => ?_) 0 M2 (by omega) ⟨by omega, ow_off.rf, fun x x0 x1 => by omega⟩
    · obtain ⟨_, i2, i3⟩ := hI
      refine cX12_goOn_79 ⟨fun _ => hK s ?_ ?_ ⟨fun x x0 x1 => by rw [i3 x x0 x1]; exact w2.1 x x0 x1, fun x x0 x1 hx => by rw [i3 x x0 x1]; exact w2.2 x x0 x1 hx⟩ (fun q => ?_), fun q => by omega⟩
      · exact (o2.mono (fun c hc => by simp at hc; rcases hc with e | e | e | e | e <;> subst e <;> decide)).tr (i2.mono (fun c hc => by simp at hc; subst hc; decide))
      · exact m2.fr (ow_of.off i2) (by decide) (by decide) (by decide) (by decide) (by decide) (by decide) (by decide) (by decide) (by decide)
      · rw [← t2 q]
        exact ow_sm_cg (by decide) (fun x x0 x1 => by rw [i3 x x0 x1])
    · obtain ⟨i0, i2, i3⟩ := hI
      refine cX12_goOn_79 ⟨fun q => by omega, fun _ => ⟨⟨i0, by omega⟩, fun N1 e1 => ⟨⟨by omega, by omega⟩, ih N1 ⟨by omega, by rw [e1]; exact i2.up (by decide), fun x x0 x1 => ?_⟩⟩⟩⟩
      by_cases e : x = i
      · rw [e, e1, ow_upS]; exact i2 94 (by decide) i
      · rw [e1, ow_upN (Or.inr e)]; exact i3 x x0 (by omega)
  -- the words
  have mid : ∀ M1, ow_off [94] M M1 → (∀ x, 0 ≤ x → x < 2304 → M1 94 x = 0) → ow_At C (EM A L N) (d + 6) mX12_goOn 24 [(0, (3, 83)), (1, (0, hand)), (2, (0, 0))] [] (0, 0) M1 K := by
    intro M1 o1 z1
    have o1' : ow_off [89, 90, 91, 92, 94] M M1 := o1.mono (fun c hc => by simp at hc; subst hc; decide)
    refine ow_upto (S := ow_M) (P := fun w s => ow_At C (EM A L N) (d + 6) mX12_goOn 24 [(0, (3, 83)), (1, (0, hand)), (2, (0, w))] [] (0, 0) s K) (I := fun w s => 0 ≤ w ∧ ow_off [89, 90, 91, 92, 94] M s ∧ mc_ok s T ∧ wy_s N L (s 94) ∧ ∀ q : Int → Int, ow_sm (fun x => s 94 x * q x) 2304 = ow_sm (fun y => M 93 y * wt A L T q hand (y / 9) (y % 9)) (9 * w)) N (fun s hI => ?_) (fun w s w1 hI ih => ?_) 0 M1 (by omega) ⟨by omega, o1', hm.fr (ow_of.off o1) (by decide) (by decide) (by decide) (by decide) (by decide) (by decide) (by decide) (by decide) (by decide), ⟨fun x x0 x1 => by rw [z1 x x0 x1]; omega, fun x x0 x1 _ => z1 x x0 x1⟩, fun q => ?_⟩
    · obtain ⟨_, i2, i3, i4, i5⟩ := hI
      refine cX12_goOn_24 ⟨fun _ => last s i2 i3 i4 (fun q => ?_), fun q => by omega⟩
      rw [i5 q]
      refine (ow_sm_zz (by omega) (by omega) (fun k k0 k1 => ?_)).symm
      rw [hs.2 k (by omega) (by omega) (by omega), Int.zero_mul]
    · obtain ⟨w0, i2, i3, i4, i5⟩ := hI
      refine cX12_goOn_24 ⟨fun q => by omega, fun _ => ?_⟩
      refine ow_upto (S := ow_M) (P := fun b s => ow_At C (EM A L N) (d + 6) mX12_goOn 34 [(0, (3, 83)), (1, (0, hand)), (2, (0, w)), (3, (0, b))] [] (0, 0) s K) (I := fun b s => 0 ≤ b ∧ ow_off [89, 90, 91, 92, 94] M s ∧ mc_ok s T ∧ wy_s N L (s 94) ∧ ∀ q : Int → Int, ow_sm (fun x => s 94 x * q x) 2304 = ow_sm (fun y => M 93 y * wt A L T q hand (y / 9) (y % 9)) (9 * w + b)) (L + 1) (fun s hI => ?_) (fun b s b1 hI ih2 => ?_) 0 s (by omega) ⟨by omega, i2, i3, i4, fun q => by rw [Int.add_zero]; exact i5 q⟩
      · obtain ⟨_, j2, j3, j4, j5⟩ := hI
        refine cX12_goOn_34 ⟨fun _ => ⟨⟨by omega, by omega⟩, ih s ⟨by omega, j2, j3, j4, fun q => ?_⟩⟩, fun q => by omega⟩
        rw [j5 q]
        refine (ow_sm_zz (by omega) (by omega) (fun k k0 k1 => ?_)).symm
        rw [hs.2 k (by omega) (by omega) (by omega), Int.zero_mul]
      · obtain ⟨b0, j2, j3, j4, j5⟩ := hI
        have e93 : s 93 (9 * w + b) = M 93 (9 * w + b) := j2 93 (by decide) _
        have hp := hs.1 (9 * w + b) (by omega) (by omega)
        have ed : (9 * w + b) / 9 = w ∧ (9 * w + b) % 9 = b := by omega
        have nx : ∀ q : Int → Int, ow_sm (fun y => M 93 y * wt A L T q hand (y / 9) (y % 9)) (9 * w + (b + 1)) = ow_sm (fun y => M 93 y * wt A L T q hand (y / 9) (y % 9)) (9 * w + b) + M 93 (9 * w + b) * wt A L T q hand w b := by
          intro q
          rw [← Int.add_assoc, ow_smS (by omega), ed.1, ed.2]
        have hlc := ow_lcq (a := M 93 (9 * w + b)) (b := 0)
        refine cX12_goOn_34 ⟨fun q => by omega, fun _ => ⟨⟨by omega, by omega⟩, ⟨by omega, by omega⟩, ⟨by omega, by omega⟩, ?_⟩⟩
        rw [e93]
        refine ⟨fun z => ⟨⟨by omega, by omega⟩, ih2 s ⟨by omega, j2, j3, j4, fun q => ?_⟩⟩, fun z => ?_⟩
        · rw [nx q, j5 q, show M 93 (9 * w + b) = 0 by omega, Int.zero_mul, Int.add_zero]
        · -- the sum so far
          have one : ow_sm (s 94) 2304 = ow_sm (fun y => M 93 y * wt A L T (fun _ => 1) hand (y / 9) (y % 9)) (9 * w + b) := by
            have := j5 (fun _ => 1)
            simp only [Int.mul_one] at this
            exact this
          have b1 : ow_sm (fun y => M 93 y * wt A L T (fun _ => 1) hand (y / 9) (y % 9)) (9 * w + b) ≤ ow_sm (fun y => 108 * M 93 y) (9 * w + b) := by
            refine ow_sm_le (by omega) (fun y y0 y1 => ?_)
            rw [wt_1 h, Int.mul_comm 108]
            exact Int.mul_le_mul_of_nonneg_left (cw_sum h).2 (hs.1 y y0 (by omega))
          rw [ow_sm_mul (g := M 93) (by omega)] at b1
          have b2 := ow_sm_up (g := M 93) (i := 9 * w + b + 1) (j := 2304) (by omega) (by omega) hs.1
          rw [ow_smS (by omega)] at b2
          refine tX12_spread h j3 hh ⟨w0, w1⟩ ⟨b0, by omega⟩ (by rw [e93]; exact hp) j4 (by rw [e93, one]; omega) (fun M' o' m' w' t' => ⟨⟨by omega, by omega⟩, ih2 M' ⟨by omega, j2.tr o', m', w', fun q => ?_⟩⟩)
          rw [nx q, t' q, j5 q, e93]
    · rw [Int.mul_zero, ow_sm0]
      rw [← ow_sm_z (n := 2304) (by decide)]
      exact ow_sm_cg (by decide) (fun x x0 x1 => by rw [z1 x x0 x1, Int.zero_mul])
  refine ow_upto (S := ow_M) (P := fun i s => ow_At C (EM A L N) (d + 6) mX12_goOn 2 [(0, (3, 83)), (1, (0, hand)), (2, (0, i))] [] (0, 0) s K) (I := fun i s => 0 ≤ i ∧ ow_off [94] M s ∧ ∀ x, 0 ≤ x → x < i → s 94 x = 0) 2304 (fun s hI => ?_) (fun i s i1 hI ih => ?_) 0 M (by omega) ⟨by omega, ow_off.rf, fun x x0 x1 => by omega⟩
  · exact cX12_goOn_2 ⟨fun _ => mid s hI.2.1 hI.2.2, fun q => by omega⟩
  · obtain ⟨i0, i2, i3⟩ := hI
    refine cX12_goOn_2 ⟨fun q => by omega, fun _ => ⟨⟨i0, by omega⟩, fun N1 e1 => ⟨⟨by omega, by omega⟩, ih N1 ⟨by omega, by rw [e1]; exact i2.up (by decide), fun x x0 x1 => ?_⟩⟩⟩⟩
    by_cases e : x = i
    · rw [e, e1, ow_upS]
    · rw [e1, ow_upN (Or.inr e)]; exact i3 x x0 (by omega)
end WYS
