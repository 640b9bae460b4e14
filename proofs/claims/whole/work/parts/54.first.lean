/-! ===== the first deed ===== -/
/-- a change that may be done and leads on by just the hands left -/
def rq (A L : Int) (T : ow_M) (into n hand w b : Int) : Int → Bool := fun z => decide (0 < cw A L T hand w b z ∧ 0 < bw A L T into (n - hand - 1).toNat (hand + 1) (em_ch A L w (z / A) (z % A)) (z / A + 1))
section FDS
variable {C : ow_C} {A L N : Int} {d : Nat} {M T : ow_M} {K : Int → ow_M → Prop}
theorem td_bw {into n hand w b : Int} (hh : 0 ≤ hand ∧ hand ≤ n) : td A L T into n n hand w b ↔ 0 < bw A L T into (n - hand).toNat hand w b := by
  refine ⟨fun ⟨m, m1, m2, m3⟩ => ?_, fun q => ⟨(n - hand).toNat, by omega, by omega, q⟩⟩
  rw [show (n - hand).toNat = m by omega]
  exact m3
theorem tX12_firstOf (h : em_ok A L N) (hm : mc_ok M T) {into n hand w bh : Int} (hn : n ≤ 8) (hh : 0 ≤ hand ∧ hand < n) (hw : 0 ≤ w ∧ w < N) (hb : 0 ≤ bh ∧ bh ≤ L) (hQ : ca_row A L N T M into n (hand + 1)) (hK : ∀ M', ow_off [89, 90, 91, 92] M M' → mc_ok M' T → K (ow_pv (rq A L T into n hand w bh) (mg A) 0 (L * A)) M') : ow_Sp C (EM A L N) (d + 6) mX12_firstOf (0, 0) [(3, 83), (0, hand), (0, w), (0, bh)] M K := by
  have hL := h.2.2.2.1
  have hL3 := h.2.2.1
  have hA := h.2.1
  have hA1 := h.1
  have hN2 := h.2.2.2.2.2
  have hD := vx_D h
  refine fX12_firstOf ?_
  refine ow_upto (S := ow_M) (P := fun p s => ow_At C (EM A L N) (d + 6) mX12_firstOf 3 [(0, (3, 83)), (1, (0, hand)), (2, (0, w)), (3, (0, bh)), (4, (0, p))] [] (0, 0) s K) (I := fun p s => 0 ≤ p ∧ ow_off [89, 90, 91, 92] M s ∧ mc_ok s T ∧ ow_pk (rq A L T into n hand w bh) (mg A) 0 (p * A) = none ∧ ow_ct (rq A L T into n hand w bh) (p * A) = 0) L (fun s hI => ?_) (fun p s p1 hI ih => ?_) 0 M (by omega) ⟨by omega, ow_off.rf, hm, by rw [Int.zero_mul]; rfl, by rw [Int.zero_mul]; rfl⟩
  · obtain ⟨_, i2, i3, i4, i5⟩ := hI
    have := hK s i2 i3
    rw [ow_pk_end i4, if_neg (by decide)] at this
    exact cX12_firstOf_3 ⟨fun _ => this, fun q => by omega⟩
  · obtain ⟨p0, i2, i3, i4, i5⟩ := hI
    refine cX12_firstOf_3 ⟨fun q => by omega, fun _ => ?_⟩
    refine ow_upto (S := ow_M) (P := fun c s => ow_At C (EM A L N) (d + 6) mX12_firstOf 15 [(0, (3, 83)), (1, (0, hand)), (2, (0, w)), (3, (0, bh)), (4, (0, p)), (5, (0, c))] [] (0, 0) s K) (I := fun c s => 0 ≤ c ∧ ow_off [89, 90, 91, 92] M s ∧ mc_ok s T ∧ ow_pk (rq A L T into n hand w bh) (mg A) 0 (p * A + c) = none ∧ ow_ct (rq A L T into n hand w bh) (p * A + c) = 0) A (fun s hI => ?_) (fun c s c1 hI ih2 => ?_) 0 s (by omega) ⟨by omega, i2, i3, by rw [Int.add_zero]; exact i4, by rw [Int.add_zero]; exact i5⟩
    · obtain ⟨_, j2, j3, j4, j5⟩ := hI
      have e : p * A + A = (p + 1) * A := by rw [Int.add_mul, Int.one_mul]
      rw [e] at j4 j5
      exact cX12_firstOf_15 ⟨fun _ => ⟨⟨by omega, by omega⟩, ih s ⟨by omega, j2, j3, j4, j5⟩⟩, fun q => by omega⟩
    · obtain ⟨c0, j2, j3, j4, j5⟩ := hI
      have hr := em_ch_rg h hw ⟨p0, p1⟩ ⟨c0, c1⟩
      obtain ⟨v2, v3, v4⟩ := (cw_v (T := T) h (hand := hand) (w := w) (bh := bh) ⟨p0, p1⟩ ⟨c0, c1⟩).2
      have my := cw_may (T := T) h (hand := hand) (w := w) (b := bh) ⟨p0, p1⟩ ⟨c0, c1⟩
      have rv : rq A L T into n hand w bh (p * A + c) = decide (0 < cw A L T hand w bh (p * A + c) ∧ 0 < bw A L T into (n - hand - 1).toNat (hand + 1) (em_ch A L w p c) (p + 1)) := by
        unfold rq; rw [v3, v4]
      have gv : mg A (p * A + c) = 10 * p + c := by unfold mg; rw [v3, v4]
      have tb := td_bw (A := A) (L := L) (T := T) (into := into) (n := n) (hand := hand + 1) (w := em_ch A L w p c) (b := p + 1) ⟨by omega, by omega⟩
      rw [show n - (hand + 1) = n - hand - 1 by omega] at tb
      refine cX12_firstOf_15 ⟨fun q => by omega, fun _ => ⟨⟨by omega, by omega⟩, tX12_may h j3 ⟨hh.1, by omega⟩ hw ⟨p0, p1⟩ ⟨hb.1, by omega⟩ ⟨c0, c1⟩ (fun M2 o2 m2 => ?_)⟩⟩
      have o3 := j2.tr o2
      have nx : ¬ (rq A L T into n hand w bh (p * A + c) = true) → ow_I (c + 1) ∧ ow_At C (EM A L N) (d + 6) mX12_firstOf 15 [(0, (3, 83)), (1, (0, hand)), (2, (0, w)), (3, (0, bh)), (4, (0, p)), (5, (0, c + 1))] [] (0, 0) M2 K := by
        intro hno
        refine ⟨⟨by omega, by omega⟩, ih2 M2 ⟨by omega, o3, m2, ?_, ?_⟩⟩
        · rw [← Int.add_assoc]; exact ow_pkS v2.1 j4 (fun z => hno z.1)
        · rw [← Int.add_assoc, ow_ctS v2.1, if_neg hno, j5]; rfl
      by_cases e : em_dg A L w p ≠ c ∧ 0 < ch_v T hand bh p (em_dg A L w p) c
      · rw [if_pos e]
        refine ⟨fun z => absurd z (by decide), fun _ => ⟨⟨by omega, by omega⟩, ⟨by omega, by omega⟩, tX12_changed h hw ⟨p0, p1⟩ ⟨c0, c1⟩ ?_⟩⟩
        have hq := hQ (em_ch A L w p c) (p + 1) hr.1 hr.2 (by omega) (by omega)
        rw [show 2304 * (hand + 1) + 9 * em_ch A L w p c + (p + 1) = 2304 * (hand + 1) + 9 * em_ch A L w p c + p + 1 by omega, tb] at hq
        rw [o3 95 (by decide)]
        refine ⟨⟨by omega, by omega⟩, ⟨by omega, by omega⟩, ⟨by omega, by omega⟩, ⟨by omega, by omega⟩, ⟨by omega, by omega⟩, fun z => nx (fun y => ?_), fun z => ⟨⟨by omega, by omega⟩, ⟨by omega, by omega⟩, ?_⟩⟩
        · rw [rv, decide_eq_true_iff] at y
          exact hq.2 y.2 z
        · have hit : rq A L T into n hand w bh (p * A + c) = true := by rw [rv]; exact decide_eq_true ⟨my.2 e, hq.1 z⟩
          have := hK M2 o3 m2
          rw [ow_pk_hit v2.1 j4 hit j5 v2.2, gv] at this
          exact this
      · rw [if_neg e]
        refine ⟨fun _ => nx (fun y => ?_), fun z => absurd rfl z⟩
        rw [rv, decide_eq_true_iff] at y
        exact e (my.1 y.1)
end FDS
