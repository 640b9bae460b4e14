/-! ===== the first deed by the class ===== -/
section DES
variable {C : ow_C} {A L N : Int} {d : Nat} {M T : ow_M} {K : Int → ow_M → Prop}
theorem tX5_deedOf (h : em_ok A L N) {into n hand w bh : Int} (hn : n ≤ 8) (hT : vw_T A L T M (vx A L n 0 0 0)) (hh : 0 ≤ hand ∧ hand < n) (hw : 0 ≤ w ∧ w < N) (hb : 0 ≤ bh ∧ bh ≤ L) (hQ : tc_row A L N T M into n n (hand + 1)) (hK : K (ow_pv (rq A L T into n hand w bh) (mg A) 0 (L * A)) M) : ow_Sp C (EM A L N) (d + 2) mX5_deedOf (0, 0) [(3, 64), (0, hand), (0, w), (0, bh)] M K := by
  have hL := h.2.2.2.1
  have hL3 := h.2.2.1
  have hA := h.2.1
  have hA1 := h.1
  have hN2 := h.2.2.2.2.2
  have hD := vx_D h
  obtain ⟨rw1, rw2, rw3, rw4⟩ := em_row (A := A) (L := L) (N := N) (M := M) (j := hand + 1) ⟨by omega, by omega⟩
  refine fX5_deedOf ⟨⟨by omega, by omega⟩, ⟨by omega, by omega⟩, ?_⟩
  refine ow_upto (S := Unit) (P := fun p _ => ow_At C (EM A L N) (d + 2) mX5_deedOf 13 [(0, (3, 64)), (1, (0, hand)), (2, (0, w)), (3, (0, bh)), (4, (3, 67 + (hand + 1))), (5, (0, p))] [] (0, 0) M K) (I := fun p _ => 0 ≤ p ∧ ow_pk (rq A L T into n hand w bh) (mg A) 0 (p * A) = none ∧ ow_ct (rq A L T into n hand w bh) (p * A) = 0) L (fun _ hI => ?_) (fun p _ p1 hI ih => ?_) 0 () (by omega) ⟨by omega, by rw [Int.zero_mul]; rfl, by rw [Int.zero_mul]; rfl⟩
  · obtain ⟨_, i4, i5⟩ := hI
    rw [ow_pk_end i4, if_neg (by decide)] at hK
    exact cX5_deedOf_13 ⟨fun _ => hK, fun q => by omega⟩
  · obtain ⟨p0, i4, i5⟩ := hI
    have hdg := em_dg_rg h w p
    refine cX5_deedOf_13 ⟨fun q => by omega, fun _ => tX10_letter h hw ⟨p0, p1⟩ (tX9_changesOf h ⟨hh.1, by omega⟩ ⟨p0, p1⟩ hdg ?_)⟩
    refine ow_upto (S := Unit) (P := fun c _ => ow_At C (EM A L N) (d + 2) mX5_deedOf 54 [(0, (3, 64)), (1, (0, hand)), (2, (0, w)), (3, (0, bh)), (4, (3, 67 + (hand + 1))), (5, (0, p)), (6, (0, em_dg A L w p)), (7, (0, vx A L hand p (em_dg A L w p) 0)), (8, (0, c))] [] (0, 0) M K) (I := fun c _ => 0 ≤ c ∧ ow_pk (rq A L T into n hand w bh) (mg A) 0 (p * A + c) = none ∧ ow_ct (rq A L T into n hand w bh) (p * A + c) = 0) A (fun _ hI => ?_) (fun c _ c1 hI ih2 => ?_) 0 () (by omega) ⟨by omega, by rw [Int.add_zero]; exact i4, by rw [Int.add_zero]; exact i5⟩
    · obtain ⟨_, j4, j5⟩ := hI
      have e : p * A + A = (p + 1) * A := by rw [Int.add_mul, Int.one_mul]
      rw [e] at j4 j5
      exact cX5_deedOf_54 ⟨fun _ => ⟨⟨by omega, by omega⟩, ih () ⟨by omega, j4, j5⟩⟩, fun q => by omega⟩
    · obtain ⟨c0, j4, j5⟩ := hI
      have hr := em_ch_rg h hw ⟨p0, p1⟩ ⟨c0, c1⟩
      obtain ⟨v2, v3, v4⟩ := (cw_v (T := T) h (hand := hand) (w := w) (bh := bh) ⟨p0, p1⟩ ⟨c0, c1⟩).2
      have my := cw_may (T := T) h (hand := hand) (w := w) (b := bh) ⟨p0, p1⟩ ⟨c0, c1⟩
      have rv : rq A L T into n hand w bh (p * A + c) = decide (0 < cw A L T hand w bh (p * A + c) ∧ 0 < bw A L T into (n - hand - 1).toNat (hand + 1) (em_ch A L w p c) (p + 1)) := by
        unfold rq; rw [v3, v4]
      have gv : mg A (p * A + c) = 10 * p + c := by unfold mg; rw [v3, v4]
      have tb := td_bw (A := A) (L := L) (T := T) (into := into) (n := n) (hand := hand + 1) (w := em_ch A L w p c) (b := p + 1) ⟨by omega, by omega⟩
      rw [show n - (hand + 1) = n - hand - 1 by omega] at tb
      have hq := hQ (em_ch A L w p c) (p + 1) hr.1 hr.2 (by omega) (by omega)
      rw [tb] at hq
      have nx : ¬ (rq A L T into n hand w bh (p * A + c) = true) → ow_I (c + 1) ∧ ow_At C (EM A L N) (d + 2) mX5_deedOf 54 [(0, (3, 64)), (1, (0, hand)), (2, (0, w)), (3, (0, bh)), (4, (3, 67 + (hand + 1))), (5, (0, p)), (6, (0, em_dg A L w p)), (7, (0, vx A L hand p (em_dg A L w p) 0)), (8, (0, c + 1))] [] (0, 0) M K := by
        intro hno
        refine ⟨⟨by omega, by omega⟩, ih2 () ⟨by omega, ?_, ?_⟩⟩
        · rw [← Int.add_assoc]; exact ow_pkS v2.1 j4 (fun z => hno z.1)
        · rw [← Int.add_assoc, ow_ctS v2.1, if_neg hno, j5]; rfl
      have key : ∀ v, (v ≠ 0 ↔ 0 < cw A L T hand w bh (p * A + c)) → ow_At C (EM A L N) (d + 2) mX5_deedOf 98 [(0, (3, 64)), (1, (0, hand)), (2, (0, w)), (3, (0, bh)), (4, (3, 67 + (hand + 1))), (5, (0, p)), (6, (0, em_dg A L w p)), (7, (0, vx A L hand p (em_dg A L w p) 0)), (8, (0, c))] [(0, v)] (0, 0) M K := by
        intro v hv
        refine cX5_deedOf_98 ⟨fun q => nx (fun y => ?_), fun q => tX10_changed h hw ⟨p0, p1⟩ ⟨c0, c1⟩ ?_⟩
        · rw [rv, decide_eq_true_iff] at y
          exact hv.2 y.1 q
        · rw [rw3, ow_bit ⟨by omega, by omega⟩]
          refine ⟨⟨rw1.1, rw1.2.1, rw1.2.2, hr.1, by rw [rw2]; exact hr.2⟩, ⟨by omega, by omega⟩, fun z => nx (fun y => ?_), fun z => ⟨⟨by omega, by omega⟩, ⟨by omega, by omega⟩, ?_⟩⟩
          · rw [rv, decide_eq_true_iff] at y
            rw [if_pos (hq.2 y.2)] at z
            exact absurd z (by decide)
          · have bt : ow_bt (M (67 + (hand + 1)) (em_ch A L w p c)) (p + 1) = true := by
              by_cases e : ow_bt (M (67 + (hand + 1)) (em_ch A L w p c)) (p + 1) = true
              · exact e
              · rw [if_neg e] at z; exact absurd rfl z
            have hit : rq A L T into n hand w bh (p * A + c) = true := by rw [rv]; exact decide_eq_true ⟨hv.1 q, hq.1 bt⟩
            rw [ow_pk_hit v2.1 j4 hit j5 v2.2, gv] at hK
            exact hK
      refine cX5_deedOf_54 ⟨fun q => by omega, fun _ => ⟨fun q => key 0 ⟨fun z => absurd rfl z, fun z => absurd q.symm (my.1 z).1⟩, fun q => ?_⟩⟩
      have e0 : vx A L hand p (em_dg A L w p) 0 + c = vx A L hand p (em_dg A L w p) c := by unfold vx; omega
      have hxr := vx_rg (H := 8) ⟨hh.1, by omega⟩ ⟨p0, p1⟩ hdg ⟨c0, c1⟩
      have ho := (vw_open h hT (k := 0) hh ⟨p0, p1⟩ hdg ⟨c0, c1⟩ q).1 bh hb.1 (by omega)
      rw [e0, ow_bit ⟨hb.1, by omega⟩, ho]
      refine ⟨⟨by omega, by omega⟩, hxr, fun z => key 0 ⟨fun y => absurd rfl y, fun y => ?_⟩, fun z => key 1 ⟨fun _ => ?_, fun _ => by decide⟩⟩
      · rw [if_pos (decide_eq_true ⟨hb.2, (my.1 y).2⟩)] at z
        exact absurd z (by decide)
      · refine my.2 ⟨fun y => q y.symm, ?_⟩
        by_cases e : 0 < ch_v T hand bh p (em_dg A L w p) c
        · exact e
        · rw [if_neg (by rw [decide_eq_true_iff]; exact fun y => e y.2)] at z
          exact absurd rfl z
end DES
