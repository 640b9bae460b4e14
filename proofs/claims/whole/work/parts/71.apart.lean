/-! ===== apart by the class ===== -/
def ap_m (A L : Int) (T : ow_M) (n bn : Int) (wd : Int → Int) (x i : Int) : Bool := decide (i < bn ∧ 0 < bw A L T x n.toNat 0 (wd i) 0)
def ap_R (A L N : Int) (T : ow_M) (n bn : Int) (wd : Int → Int) (i j : Int) : Bool := decide (0 < ow_ct (fun x => ap_m A L T n bn wd x i && ap_m A L T n bn wd x j) N)
def ap_v (A L N : Int) (T : ow_M) (n bn : Int) (wd : Int → Int) : Int := wf (gdb (ap_R A L N T n bn wd)) 0 0 (2 ^ bn.toNat)
section APS
variable {C : ow_C} {A L N : Int} {d : Nat} {M T : ow_M} {K : Int → ow_M → Prop} {bn : Int} {wd pr : Int → Int}
theorem ap_R_iff (h : em_ok A L N) {n i j : Int} : ap_R A L N T n bn wd i j = true ↔ ∃ x, (0 ≤ x ∧ x < N) ∧ ap_m A L T n bn wd x i = true ∧ ap_m A L T n bn wd x j = true := by
  have hN := em_Npos h
  unfold ap_R
  rw [decide_eq_true_iff]
  have g := (ow_ct_rg (q := fun x => ap_m A L T n bn wd x i && ap_m A L T n bn wd x j) (i := N) (by omega)).1
  refine ⟨fun q => ?_, fun ⟨x, hx, h1, h2⟩ => ?_⟩
  · obtain ⟨z, z0, z1, z2, _⟩ := ow_ct_hit (show 0 ≤ N by omega) (Int.le_refl 0) q
    rw [Bool.and_eq_true] at z2
    exact ⟨z, ⟨z0, z1⟩, z2.1, z2.2⟩
  · refine Classical.byContradiction (fun hno => ?_)
    have e0 : ow_ct (fun x => ap_m A L T n bn wd x i && ap_m A L T n bn wd x j) N = 0 := by omega
    refine (ow_ct_z (by omega)).1 e0 x hx.1 hx.2 ?_
    rw [h1, h2]; rfl
theorem tX5_findRivals (h : em_ok A L N) {m : Int → Int → Bool} (hm : ∀ x, 0 ≤ x → x < N → ∀ j, 0 ≤ j → j < 32 → ow_bt (M 76 x) j = m x j) (hK : ∀ M', ow_off [65] M M' → (∀ i j, 0 ≤ i → i < 16 → 0 ≤ j → j < 32 → (ow_bt (M' 65 i) j = true ↔ ∃ x, (0 ≤ x ∧ x < N) ∧ m x i = true ∧ m x j = true)) → K 0 M') : ow_Sp C (EM A L N) (d + 1) mX5_findRivals (0, 0) [(3, 64)] M K := by
  have hN := em_Npos h
  have hN2 := h.2.2.2.2.2
  refine fX5_findRivals (tJ7_fillI (n := 16) ⟨by decide, by decide⟩ (fun M' => ⟨(em_65 (A := A) (L := L) (N := N) (M := M')).1, (em_65 (A := A) (L := L) (N := N) (M := M')).2.1, (em_65 (A := A) (L := L) (N := N) (M := M')).2.2.2⟩) (fun M1 o1 z1 => ?_))
  refine ow_upto (S := ow_M) (P := fun x s => ow_At C (EM A L N) (d + 1) mX5_findRivals 10 [(0, (3, 64)), (1, (0, x))] [] (0, 0) s K) (I := fun x s => 0 ≤ x ∧ ow_off [65] M s ∧ ∀ i j, 0 ≤ i → i < 16 → 0 ≤ j → j < 32 → (ow_bt (s 65 i) j = true ↔ ∃ y, (0 ≤ y ∧ y < x) ∧ m y i = true ∧ m y j = true)) N (fun s hI => ?_) (fun x s x1 hI ih => ?_) 0 M1 (by omega) ⟨by omega, o1, fun i j i0 i1 j0 j1 => ?_⟩
  · exact cX5_findRivals_10 ⟨fun _ => hK s hI.2.1 hI.2.2, fun q => by omega⟩
  · obtain ⟨x0, i2, i3⟩ := hI
    refine cX5_findRivals_10 ⟨fun q => by omega, fun _ => ?_⟩
    refine ow_upto (S := ow_M) (P := fun k s => ow_At C (EM A L N) (d + 1) mX5_findRivals 23 [(0, (3, 64)), (1, (0, x)), (2, (0, k))] [] (0, 0) s K) (I := fun k s => 0 ≤ k ∧ ow_off [65] M s ∧ ∀ i j, 0 ≤ i → i < 16 → 0 ≤ j → j < 32 → (ow_bt (s 65 i) j = true ↔ ∃ y, (0 ≤ y ∧ (y < x ∨ (y = x ∧ i < k))) ∧ m y i = true ∧ m y j = true)) 16 (fun s hI => ?_) (fun k s k1 hI ih2 => ?_) 0 s (by omega) ⟨by omega, i2, fun i j i0 i1 j0 j1 => ?_⟩
    · obtain ⟨_, k2, k3⟩ := hI
      refine cX5_findRivals_23 ⟨fun _ => ⟨⟨by omega, by omega⟩, ih s ⟨by omega, k2, fun i j i0 i1 j0 j1 => ?_⟩⟩, fun q => by omega⟩
      rw [k3 i j i0 i1 j0 j1]
      exact ⟨fun ⟨y, y1, y2⟩ => ⟨y, ⟨y1.1, by omega⟩, y2⟩, fun ⟨y, y1, y2⟩ => ⟨y, ⟨y1.1, by omega⟩, y2⟩⟩
    · obtain ⟨k0, k2, k3⟩ := hI
      have e76 : s 76 x = M 76 x := k2 76 (by decide) x
      refine cX5_findRivals_23 ⟨fun q => by omega, fun _ => ⟨⟨x0, x1⟩, ?_⟩⟩
      rw [e76, ow_bit ⟨k0, by omega⟩, hm x x0 x1 k k0 (by omega)]
      have same : ∀ {s'}, ow_off [65] M s' → (∀ i j, 0 ≤ i → i < 16 → 0 ≤ j → j < 32 → (ow_bt (s' 65 i) j = true ↔ ow_bt (s 65 i) j = true ∨ (i = k ∧ m x i = true ∧ m x j = true))) → ow_I (k + 1) ∧ ow_At C (EM A L N) (d + 1) mX5_findRivals 23 [(0, (3, 64)), (1, (0, x)), (2, (0, k + 1))] [] (0, 0) s' K := fun {s'} os' hs' => by
        refine ⟨⟨by omega, by omega⟩, ih2 s' ⟨by omega, os', fun i j i0 i1 j0 j1 => ?_⟩⟩
        rw [hs' i j i0 i1 j0 j1, k3 i j i0 i1 j0 j1]
        refine ⟨fun z => ?_, fun ⟨y, y1, y2, y3⟩ => ?_⟩
        · rcases z with ⟨y, y1, y2⟩ | ⟨z1, z2, z3⟩
          · exact ⟨y, ⟨y1.1, by omega⟩, y2⟩
          · exact ⟨x, ⟨x0, Or.inr ⟨rfl, by omega⟩⟩, z2, z3⟩
        · by_cases e : y = x ∧ i = k
          · rw [e.1] at y2 y3
            exact Or.inr ⟨e.2, y2, y3⟩
          · exact Or.inl ⟨y, ⟨y1.1, by omega⟩, y2, y3⟩
      cases e : m x k with
      | false =>
        rw [if_neg (by decide)]
        refine ⟨fun _ => same k2 (fun i j i0 i1 j0 j1 => ⟨fun z => Or.inl z, fun z => ?_⟩), fun z => absurd rfl z⟩
        rcases z with z | ⟨z1, z2, _⟩
        · exact z
        · rw [z1, e] at z2; exact absurd z2 (by decide)
      | true =>
        rw [if_pos rfl]
        refine ⟨fun z => absurd z (by decide), fun _ => ⟨⟨k0, k1⟩, fun N1 e1 => same (by rw [e1]; exact k2.up (by decide)) (fun i j i0 i1 j0 j1 => ?_)⟩⟩
        by_cases ei : i = k
        · rw [ei, e1, ow_upS, ow_bt_or, Bool.or_eq_true, hm x x0 x1 j j0 j1]
          exact ⟨fun z => by rcases z with z | z; exact Or.inl z; exact Or.inr ⟨rfl, e, z⟩, fun z => by rcases z with z | z; exact Or.inl z; exact Or.inr z.2.2⟩
        · rw [e1, ow_upN (Or.inr ei)]
          exact ⟨fun z => Or.inl z, fun z => by rcases z with z | z; exact z; exact absurd z.1 ei⟩
    · rw [i3 i j i0 i1 j0 j1]
      exact ⟨fun ⟨y, y1, y2⟩ => ⟨y, ⟨y1.1, by omega⟩, y2⟩, fun ⟨y, y1, y2⟩ => ⟨y, ⟨y1.1, by omega⟩, y2⟩⟩
  · rw [z1 i i0 i1, ow_bt_0]
    exact ⟨fun z => absurd z (by decide), fun ⟨y, y1, _⟩ => by omega⟩
theorem ap_full {R : Int → Int → Bool} {t : Nat} (ht : t ≤ 16) : wf (qw R (((2 ^ t : Nat) : Int) - 1)) 0 0 (2 ^ t) = wf (gdb R) 0 0 (2 ^ t) := by
  have hp := ow_p16 ht
  refine wf_cg _ (fun x hx => ?_)
  unfold qw
  have : sb (x : Int) (((2 ^ t : Nat) : Int) - 1) = true := by
    rw [sb_iff]
    intro i i0 i1 y
    have lt : i < t := by
      by_cases e : i < t
      · exact e
      · rw [ow_bt_hi (t := t) (by omega) (by omega) (by omega) (by omega)] at y; exact absurd y (by decide)
    rw [ow_bt_nn (by omega) (by omega), show (((2 ^ t : Nat) : Int) - 1).toNat = 2 ^ t - 1 by omega, Nat.testBit_two_pow_sub_one]
    exact decide_eq_true (by omega)
  rw [this, Bool.true_and]
theorem tX5_apartOf (h : em_ok A L N) {n : Int} (hn : 0 ≤ n ∧ n ≤ 8) (hT : vw_T A L T M (vx A L n 0 0 0)) (hok : bk_ok N bn wd pr) (h16 : bn ≤ 16) (hB : bk_C N M 6 bn wd pr) (hK : ∀ M', ow_off [65, 67, 68, 69, 70, 71, 72, 73, 74, 75, 76] M M' → K (ap_v A L N T n bn wd) M') : ow_Sp C (EM A L N) (d + 18) mX5_apartOf (0, 0) [(3, 64), (3, 6), (0, n)] M K := by
  have hN := em_Npos h
  have hN2 := h.2.2.2.2.2
  have o0 := hok.1
  have b4 := hB.1
  have i76 : ∀ c ∈ [(76 : Int)], c ∈ [(65 : Int), 67, 68, 69, 70, 71, 72, 73, 74, 75, 76] := fun c hc => by simp at hc; subst hc; decide
  have i65 : ∀ c ∈ [(65 : Int)], c ∈ [(65 : Int), 67, 68, 69, 70, 71, 72, 73, 74, 75, 76] := fun c hc => by simp at hc; subst hc; decide
  have isp : ∀ c ∈ [(67 : Int), 68, 69, 70, 71, 72, 73, 74, 75], c ∈ [(65 : Int), 67, 68, 69, 70, 71, 72, 73, 74, 75, 76] := fun c hc => by simp at hc; rcases hc with e | e | e | e | e | e | e | e | e <;> subst e <;> decide
  refine fX5_apartOf (tJ7_fillI (n := N) ⟨by omega, by omega⟩ (fun M' => ⟨(em_76 (A := A) (L := L) (N := N) (M := M')).1, (em_76 (A := A) (L := L) (N := N) (M := M')).2.1, (em_76 (A := A) (L := L) (N := N) (M := M')).2.2.2⟩) (fun M1 o1 z1 => ?_))
  have e6 : M1 6 4 = bn := by rw [o1 6 (by decide)]; exact b4
  rw [e6, show min bn 16 = bn by omega]
  refine ow_upto (S := ow_M) (P := fun i s => ow_At C (EM A L N) (d + 18) mX5_apartOf 21 [(0, (3, 64)), (1, (3, 6)), (2, (0, n)), (3, (0, bn)), (4, (0, i))] [] (0, 0) s K) (I := fun i s => 0 ≤ i ∧ ow_off [65, 67, 68, 69, 70, 71, 72, 73, 74, 75, 76] M s ∧ ∀ x, 0 ≤ x → x < N → ∀ j, 0 ≤ j → j < 32 → ow_bt (s 76 x) j = (decide (j < i) && ap_m A L T n bn wd x j)) bn (fun s hI => ?_) (fun i s i1 hI ih => ?_) 0 M1 o0 ⟨by omega, o1.mono i76, fun x x0 x1 j j0 j1 => ?_⟩
  · obtain ⟨_, i2, i3⟩ := hI
    have hm : ∀ x, 0 ≤ x → x < N → ∀ j, 0 ≤ j → j < 32 → ow_bt (s 76 x) j = ap_m A L T n bn wd x j := by
      intro x x0 x1 j j0 j1
      rw [i3 x x0 x1 j j0 j1]
      by_cases e : j < bn
      · rw [decide_eq_true e, Bool.true_and]
      · rw [decide_eq_false e, Bool.false_and]
        unfold ap_m
        exact (decide_eq_false (fun z => e z.1)).symm
    have et : ((bn.toNat : Nat) : Int) = bn := by omega
    have hp := ow_p16 (t := bn.toNat) (by omega)
    have esh : ow_shl 1 bn = ((2 ^ bn.toNat : Nat) : Int) := by rw [ow_shl1 ⟨by omega, by omega⟩, ow_p2]
    refine cX5_apartOf_21 ⟨fun _ => tX5_findRivals h hm (fun M2 o2 r2 => ?_), fun q => by omega⟩
    rw [esh]
    refine ⟨⟨by omega, by omega⟩, ⟨by omega, by omega⟩, ?_⟩
    have hR : ∀ i j, 0 ≤ i → i < 16 → 0 ≤ j → j < i → ow_bt (M2 65 i) j = ap_R A L N T n bn wd i j := by
      intro i j i0 i1 j0 j1
      rw [Bool.eq_iff_iff, r2 i j i0 i1 j0 (by omega), ap_R_iff h]
    have key := tX5_widest (C := C) (A := A) (L := L) (N := N) hR bn.toNat (d + (16 - bn.toNat)) 0 (((2 ^ bn.toNat : Nat) : Int) - 1) 0 (fun r2 N2 => K r2 N2) (by omega) ⟨by decide, by decide⟩ ⟨by omega, by omega⟩ ⟨by decide, by decide⟩ (by rw [ap_full (by omega)]; exact hK M2 (i2.tr (o2.mono i65)))
    rw [et, show d + (16 - bn.toNat) + bn.toNat + 1 = d + 17 by omega] at key
    exact key
  · obtain ⟨i0, i2, i3⟩ := hI
    have wr := (hok.2.2.1 i i0 i1).1
    have e7 : s 7 i = wd i := by rw [i2 7 (by decide)]; exact (hB.2.1 i i0 i1).1
    have sT : vw_T A L T s (vx A L n 0 0 0) := hT.cg (i2 62 (by decide)) (i2 63 (by decide))
    refine cX5_apartOf_21 ⟨fun q => by omega, fun _ => ⟨⟨i0, by omega⟩, ?_⟩⟩
    rw [e7]
    refine tX5_spread h hn wr sT (fun M3 o3 r3 => ?_)
    refine ow_upto (S := ow_M) (P := fun x s => ow_At C (EM A L N) (d + 18) mX5_apartOf 42 [(0, (3, 64)), (1, (3, 6)), (2, (0, n)), (3, (0, bn)), (4, (0, i)), (5, (0, x))] [] (0, 0) s K) (I := fun x t => 0 ≤ x ∧ ow_off [76] M3 t ∧ ∀ y, 0 ≤ y → y < N → ∀ j, 0 ≤ j → j < 32 → ow_bt (t 76 y) j = (decide (j < i ∨ (j = i ∧ y < x)) && ap_m A L T n bn wd y j)) N (fun t hI => ?_) (fun x t x1 hI ih2 => ?_) 0 M3 (by omega) ⟨by omega, ow_off.rf, fun y y0 y1 j j0 j1 => ?_⟩
    · obtain ⟨_, k2, k3⟩ := hI
      refine cX5_apartOf_42 ⟨fun _ => ⟨⟨by omega, by omega⟩, ih t ⟨by omega, i2.tr ((o3.mono isp).tr (k2.mono i76)), fun y y0 y1 j j0 j1 => ?_⟩⟩, fun q => by omega⟩
      rw [k3 y y0 y1 j j0 j1]
      have e : (j < i ∨ (j = i ∧ y < N)) = (j < i + 1) := propext ⟨fun z => by omega, fun z => by omega⟩
      simp only [e]
    · obtain ⟨x0, k2, k3⟩ := hI
      have rt : sp_row A L N T t (wd i) n := fun w w0 w1 => by rw [k2 (67 + n) (by simp; omega)]; exact r3 w w0 w1
      have nx : ∀ {t'}, ow_off [76] M3 t' → (∀ y, 0 ≤ y → y < N → ∀ j, 0 ≤ j → j < 32 → ow_bt (t' 76 y) j = (ow_bt (t 76 y) j || (decide (j = i ∧ y = x) && ap_m A L T n bn wd y j))) → ow_I (x + 1) ∧ ow_At C (EM A L N) (d + 18) mX5_apartOf 42 [(0, (3, 64)), (1, (3, 6)), (2, (0, n)), (3, (0, bn)), (4, (0, i)), (5, (0, x + 1))] [] (0, 0) t' K := fun {t'} ot' ht' => by
        refine ⟨⟨by omega, by omega⟩, ih2 t' ⟨by omega, ot', fun y y0 y1 j j0 j1 => ?_⟩⟩
        rw [ht' y y0 y1 j j0 j1, k3 y y0 y1 j j0 j1, ← Bool.and_or_distrib_right]
        congr 1
        rw [← Bool.decide_or]
        exact decide_eq_decide.2 ⟨fun z => by omega, fun z => by omega⟩
      refine cX5_apartOf_42 ⟨fun q => by omega, fun _ => tX5_isReached h hn wr ⟨x0, x1⟩ rt (fun z => ⟨fun y => absurd y (by decide), fun _ => ⟨⟨x0, x1⟩, fun N2 e2 => nx (by rw [e2]; exact k2.up (by decide)) (fun y y0 y1 j j0 j1 => ?_)⟩⟩) (fun z => ⟨fun _ => nx k2 (fun y y0 y1 j j0 j1 => ?_), fun y => absurd rfl y⟩)⟩
      · by_cases ey : y = x
        · rw [ey, e2, ow_upS, ow_bt_or, ow_bt_shl ⟨i0, by omega⟩ j0]
          congr 1
          by_cases ej : i = j
          · rw [← ej, decide_eq_true rfl, decide_eq_true ⟨rfl, rfl⟩, Bool.true_and]
            unfold ap_m
            exact (decide_eq_true ⟨i1, z⟩).symm
          · rw [decide_eq_false ej, decide_eq_false (fun q => ej q.1.symm), Bool.false_and]
        · rw [e2, ow_upN (Or.inr ey), decide_eq_false (fun q => ey q.2), Bool.false_and, Bool.or_false]
      · by_cases ey : j = i ∧ y = x
        · rw [ey.1, ey.2, decide_eq_true ⟨rfl, rfl⟩, Bool.true_and]
          have : ap_m A L T n bn wd x i = false := decide_eq_false (fun q => z q.2)
          rw [this, Bool.or_false]
        · rw [decide_eq_false ey, Bool.false_and, Bool.or_false]
    · rw [o3 76 (by decide), i3 y y0 y1 j j0 j1]
      congr 1
      exact decide_eq_decide.2 ⟨fun z => by omega, fun z => by omega⟩
  · rw [z1 x x0 x1, ow_bt_0, decide_eq_false (by omega), Bool.false_and]
theorem tX11_apart (h : em_ok A L N) (hc : cu_C N M T) (hv : vw_R A L T M) (hok : bk_ok N bn wd pr) (hB : bk_C N M 6 bn wd pr) {n : Int} (h0 : ¬ (bn ≤ 16 ∧ 0 ≤ n ∧ n ≤ 8) → K (-1) M) (hK : bn ≤ 16 ∧ 0 ≤ n ∧ n ≤ 8 → ∀ M', ow_of [60, 61, 62, 63, 65, 67, 68, 69, 70, 71, 72, 73, 74, 75, 76] [(59, 2), (58, 5)] M M' → vw_R A L T M' → K (ap_v A L N T n bn wd) M') : ow_Sp C (EM A L N) (d + 19) mX11_apart (0, 0) [(3, 0), (0, n)] M K := by
  refine fX11_apart ?_
  rw [hB.1]
  refine ⟨fun q => h0 (fun y => by have := y.1; omega), fun q => tX11_isHands (fun z => ⟨fun y => absurd rfl y, fun _ => h0 (fun y => z y.2)⟩) (fun z => ⟨fun _ => ?_, fun y => absurd y (by decide)⟩)⟩
  refine tX9_prepare h hc hv z (fun M1 o1 v1 t1 => ?_)
  have hB1 : bk_C N M1 6 bn wd pr := hB.mv (o1.at (by decide) (by decide) _) (o1.at (by decide) (by decide)) (o1.at (by decide) (by decide)) (o1.at (by decide) (by decide))
  refine tX5_apartOf h z t1 hok q hB1 (fun M2 o2 => hK ⟨q, z⟩ M2 ?_ (vw_Rb v1 (ow_of.off o2) (by decide) (by decide) (by decide) (by decide) (by decide) (by decide)))
  exact (o1.mono (fun c hc => by simp at hc; rcases hc with e | e | e | e <;> subst e <;> decide) (fun x hx => Or.inr hx)).tr ((ow_of.off o2).mono (fun c hc => by simp at hc; rcases hc with e | e | e | e | e | e | e | e | e | e | e <;> subst e <;> decide) (fun x hx => by simp at hx))
end APS
