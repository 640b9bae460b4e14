/-! ===== the row ===== -/
theorem ow_pv_first {q : Int → Bool} {g : Int → Int} {n : Int} (hn : 0 ≤ n) (he : ∃ z, 0 ≤ z ∧ z < n ∧ q z = true) : ∃ z, 0 ≤ z ∧ z < n ∧ q z = true ∧ ow_pv q g 0 n = g z := by
  have key := ow_ind (P := fun k => k ≤ n → (∃ z, 0 ≤ z ∧ z < k ∧ q z = true ∧ ow_pv q g 0 n = g z) ∨ (ow_pk q g 0 k = none ∧ ow_ct q k = 0 ∧ ∀ z, 0 ≤ z → z < k → q z ≠ true)) (fun _ => Or.inr ⟨rfl, rfl, fun z z0 z1 => by omega⟩) (fun k k0 ih hk => by
    rcases ih (by omega) with ⟨z, z0, z1, z2, z3⟩ | ⟨e1, e2, e3⟩
    · exact Or.inl ⟨z, z0, by omega, z2, z3⟩
    · by_cases hit : q k = true
      · exact Or.inl ⟨k, k0, by omega, hit, ow_pk_hit k0 e1 hit e2 (by omega)⟩
      · refine Or.inr ⟨ow_pkS k0 e1 (fun z => hit z.1), ?_, fun z z0 z1 => ?_⟩
        · rw [ow_ctS k0, if_neg hit, e2]; rfl
        · by_cases e : z = k
          · rw [e]; exact hit
          · exact e3 z z0 (by omega)) n hn (Int.le_refl n)
  rcases key with r | ⟨_, _, e3⟩
  · exact r
  · obtain ⟨z, z0, z1, z2⟩ := he
    exact absurd z2 (e3 z z0 z1)
def rw_d (A L : Int) (T : ow_M) (into n hand w b : Int) : Int := ow_pv (rq A L T into n hand w b) (mg A) 0 (L * A)
def rw_v (A L : Int) (T : ow_M) (into n : Int) : Nat → Int → Int → Int → Int → Int
  | 0, _, _, _, t => t
  | k + 1, hand, w, b, _ => rw_v A L T into n k (hand + 1) (em_ch A L w (rw_d A L T into n hand w b / 10) (rw_d A L T into n hand w b % 10)) (rw_d A L T into n hand w b / 10 + 1) (rw_d A L T into n hand w b)
def rw_a (A L : Int) (T : ow_M) (fr into n i : Int) : Int := if 0 < bw A L T into n.toNat 0 fr 0 then rw_v A L T into n (i + 1).toNat 0 fr 0 (-1) else -1
section RWS
variable {C : ow_C} {A L N : Int} {d : Nat} {M T : ow_M} {K : Int → ow_M → Prop}
theorem rw_hit (h : em_ok A L N) {into n hand w b : Int} (hh : 0 ≤ hand ∧ hand < n) (hp : 0 < bw A L T into (n - hand).toNat hand w b) : ∃ p c, (0 ≤ p ∧ p < L) ∧ (0 ≤ c ∧ c < A) ∧ rw_d A L T into n hand w b = 10 * p + c ∧ 0 < bw A L T into (n - (hand + 1)).toNat (hand + 1) (em_ch A L w p c) (p + 1) := by
  have hD := vx_D h
  have hA := h.2.1
  have hA1 := h.1
  rw [show (n - hand).toNat = (n - hand - 1).toNat + 1 by omega] at hp
  obtain ⟨z, z0, z1, z2, z3⟩ := (bw_pos h).1 hp
  obtain ⟨y, y0, y1, y2, y3⟩ := ow_pv_first (q := rq A L T into n hand w b) (g := mg A) (n := L * A) (by omega) ⟨z, z0, z1, decide_eq_true ⟨z2, z3⟩⟩
  have c2 : 0 ≤ y / A := Int.ediv_nonneg y0 (by omega)
  have c3 : y / A < L := Int.ediv_lt_of_lt_mul (by omega) y1
  have c4 := Int.emod_nonneg y (show A ≠ 0 by omega)
  have c5 := Int.emod_lt_of_pos y (show 0 < A by omega)
  refine ⟨y / A, y % A, ⟨c2, c3⟩, ⟨c4, c5⟩, y3, ?_⟩
  have := (of_decide_eq_true y2).2
  rw [show n - (hand + 1) = n - hand - 1 by omega]
  exact this
theorem tX5_firstDeed (h : em_ok A L N) {into n fr i : Int} (hn : n ≤ 8) (hT : vw_T A L T M (vx A L n 0 0 0)) (hi : 0 ≤ i ∧ i < n) (hw : 0 ≤ fr ∧ fr < N) (hQ : ∀ hand, 0 ≤ hand → hand ≤ n → tc_row A L N T M into n n hand) (hp : 0 < bw A L T into n.toNat 0 fr 0) (hK : K (rw_v A L T into n (i + 1).toNat 0 fr 0 (-1)) M) : ow_Sp C (EM A L N) (d + 3) mX5_firstDeed (0, 0) [(3, 64), (0, fr), (0, i)] M K := by
  have hL := h.2.2.2.1
  have hL3 := h.2.2.1
  have hA := h.2.1
  refine fX5_firstDeed ?_
  refine ow_upto (S := Int × Int × Int) (P := fun j s => ow_At C (EM A L N) (d + 3) mX5_firstDeed 11 [(0, (3, 64)), (2, (0, i)), (3, (0, s.1)), (4, (0, s.2.1)), (5, (0, s.2.2)), (6, (0, j))] [] (0, 0) M K) (I := fun j s => 0 ≤ j ∧ (0 ≤ s.1 ∧ s.1 < N) ∧ (0 ≤ s.2.1 ∧ s.2.1 ≤ L) ∧ (j ≤ i → 0 < bw A L T into (n - j).toNat j s.1 s.2.1) ∧ rw_v A L T into n (i + 1 - j).toNat j s.1 s.2.1 s.2.2 = rw_v A L T into n (i + 1).toNat 0 fr 0 (-1)) (i + 1) (fun s hI => ?_) (fun j s j1 hI ih => ?_) 0 (fr, 0, -1) (by omega) ⟨by omega, hw, ⟨Int.le_refl 0, by show (0 : Int) ≤ L; omega⟩, fun _ => by show 0 < bw A L T into (n - 0).toNat 0 fr 0; rw [show n - 0 = n by omega]; exact hp, by show rw_v A L T into n (i + 1 - 0).toNat 0 fr 0 (-1) = _; rw [show i + 1 - 0 = i + 1 by omega]⟩
  · obtain ⟨_, _, _, _, i5⟩ := hI
    rw [show (i + 1 - (i + 1)).toNat = 0 by omega] at i5
    rw [← i5] at hK
    exact cX5_firstDeed_11 ⟨fun _ => hK, fun q => by omega⟩
  · obtain ⟨j0, i2, i3, i4, i5⟩ := hI
    obtain ⟨p, c, hp', hc', e, nx⟩ := rw_hit h (n := n) ⟨j0, by omega⟩ (i4 (by omega))
    have hr := em_ch_rg h i2 hp' hc'
    refine cX5_firstDeed_11 ⟨fun q => by omega, fun _ => ⟨fun q => by omega, fun _ => tX5_deedOf h hn hT ⟨j0, by omega⟩ i2 i3 (hQ (j + 1) (by omega) (by omega)) ?_⟩⟩
    have e1 : ow_pv (rq A L T into n j s.1 s.2.1) (mg A) 0 (L * A) = 10 * p + c := e
    rw [e1, em_tdiv (by omega), em_tmod (by omega), show (10 * p + c) / 10 = p by omega, show (10 * p + c) % 10 = c by omega]
    refine ⟨fun _ => ⟨by decide, ⟨by omega, by omega⟩, by decide, ⟨by omega, by omega⟩, ⟨by omega, by omega⟩, tX10_changed h i2 hp' hc' ⟨by decide, ⟨by omega, by omega⟩, ⟨by omega, by omega⟩, ⟨by omega, by omega⟩, ih (em_ch A L s.1 p c, p + 1, 10 * p + c) ⟨by omega, hr, ⟨by show 0 ≤ p + 1; omega, by show p + 1 ≤ L; omega⟩, fun _ => nx, ?_⟩⟩⟩, fun q => by omega⟩
    rw [show (i + 1 - j).toNat = (i + 1 - (j + 1)).toNat + 1 by omega] at i5
    rw [← i5]
    show _ = rw_v A L T into n (i + 1 - (j + 1)).toNat (j + 1) (em_ch A L s.1 (rw_d A L T into n j s.1 s.2.1 / 10) (rw_d A L T into n j s.1 s.2.1 % 10)) (rw_d A L T into n j s.1 s.2.1 / 10 + 1) (rw_d A L T into n j s.1 s.2.1)
    rw [e, show (10 * p + c) / 10 = p by omega, show (10 * p + c) % 10 = c by omega]
theorem vw_tb {M' : ow_M} {n : Int} {S : List Int} {F : List (Int × Int)} (hT : vw_T A L T M n) (o : ow_of S F M M') (s1 : (62 : Int) ∉ S) (s2 : (63 : Int) ∉ S) (h1 : (62 : Int) ∉ F.map Prod.fst) (h2 : (63 : Int) ∉ F.map Prod.fst) : vw_T A L T M' n := hT.cg (o.at s1 h1) (o.at s2 h2)
theorem vw_Rb {M' : ow_M} {S : List Int} {F : List (Int × Int)} (hv : vw_R A L T M) (o : ow_of S F M M') (s1 : (62 : Int) ∉ S) (s2 : (63 : Int) ∉ S) (s3 : (58 : Int) ∉ S) (h1 : (62 : Int) ∉ F.map Prod.fst) (h2 : (63 : Int) ∉ F.map Prod.fst) (h3 : ((58 : Int), (5 : Int)) ∉ F) : vw_R A L T M' := by
  unfold vw_R
  rw [o 58 5 s3 h3]
  exact ⟨hv.1, vw_tb hv.2 o s1 s2 h1 h2⟩
theorem pt_of {M1 M2 : ow_M} (o1 : ow_of [60, 61, 62, 63] [(59, 2), (58, 5)] M M1) (o2 : ow_off [67, 68, 69, 70, 71, 72, 73, 74, 75] M1 M2) : ow_of [60, 61, 62, 63, 67, 68, 69, 70, 71, 72, 73, 74, 75] [(59, 2), (58, 5)] M M2 :=
  (o1.mono (fun c hc => by simp at hc; rcases hc with e | e | e | e <;> subst e <;> decide) (fun x hx => Or.inr hx)).tr ((ow_of.off o2).mono (fun c hc => by simp at hc; rcases hc with e | e | e | e | e | e | e | e | e <;> subst e <;> decide) (fun x hx => by simp at hx))
theorem tX11_row (h : em_ok A L N) (hc : cu_C N M T) (hv : vw_R A L T M) {fr into n i : Int} (h0 : ¬ (as_ok N fr into n ∧ 0 ≤ i ∧ i < n) → K (-1) M) (hK : as_ok N fr into n ∧ 0 ≤ i ∧ i < n → ∀ M', ow_of [60, 61, 62, 63, 67, 68, 69, 70, 71, 72, 73, 74, 75] [(59, 2), (58, 5)] M M' → vw_R A L T M' → K (rw_a A L T fr into n i) M') : ow_Sp C (EM A L N) (d + 6) mX11_row (0, 0) [(3, 0), (0, fr), (0, into), (0, n), (0, i)] M K := by
  refine fX11_row (tX10_isWord (fun q => ⟨fun _ => h0 (fun z => q z.1.1.1), fun z => absurd rfl z⟩) (fun q1 => ⟨fun z => absurd z (by decide), fun _ => tX10_isWord (fun q => ⟨fun _ => h0 (fun z => q z.1.1.2), fun z => absurd rfl z⟩) (fun q2 => ⟨fun z => absurd z (by decide), fun _ => tX11_isHands (fun q => ⟨fun _ => h0 (fun z => q z.1.2), fun z => absurd rfl z⟩) (fun q3 => ⟨fun z => absurd z (by decide), fun _ => ⟨fun q => h0 (fun z => by have := z.2.1; omega), fun i0 => ⟨fun i1 => ?_, fun q => h0 (fun z => by have := z.2.2; omega)⟩⟩⟩)⟩)⟩))
  refine tX9_prepare h hc hv q3 (fun M1 o1 v1 t1 => tX5_trace h ⟨q3.1, Int.le_refl n, q3.2⟩ q2 t1 (fun M2 o2 r2 => ?_))
  have oo := pt_of o1 o2
  have v2 : vw_R A L T M2 := vw_Rb v1 (ow_of.off o2) (by decide) (by decide) (by decide) (by decide) (by decide) (by decide)
  have hk := hK ⟨⟨⟨q1, q2⟩, q3⟩, i0, i1⟩ M2 oo v2
  have tb := td_bw (A := A) (L := L) (T := T) (into := into) (n := n) (hand := 0) (w := fr) (b := 0) ⟨by omega, by omega⟩
  rw [show n - 0 = n by omega] at tb
  unfold rw_a at hk
  refine tX5_leads h (r2 0 (by omega) q3.1) q1 (fun z => ⟨fun y => absurd y (by decide), fun _ => ?_⟩) (fun z => ⟨fun _ => ?_, fun y => absurd rfl y⟩)
  · have z' := tb.1 z
    rw [if_pos z'] at hk
    exact tX5_firstDeed h q3.2 (vw_tb t1 (ow_of.off o2) (by decide) (by decide) (by decide) (by decide)) ⟨i0, i1⟩ q1 r2 z' hk
  · rw [if_neg (fun y => z (tb.2 y))] at hk
    exact hk
theorem tX12_row (h : em_ok A L N) (hc : cu_M N M T) {fr into n i : Int} (h0 : ¬ (as_ok N fr into n ∧ 0 ≤ i ∧ i < n) → K (-1) M) (hK : as_ok N fr into n ∧ 0 ≤ i ∧ i < n → ∀ M', ow_of [89, 90, 91, 92, 95] [(83, 27), (83, 28)] M M' → K (rw_a A L T fr into n i) M') : ow_Sp C (EM A L N) (d + 8) mX12_row (0, 0) [(3, 83), (0, fr), (0, into), (0, n), (0, i)] M K := by
  have hL := h.2.2.2.1
  have hL3 := h.2.2.1
  have hA := h.2.1
  have hN2 := h.2.2.2.2.2
  refine fX12_row (tX12_areAsked h (fun q => ⟨fun _ => h0 (fun z => q z.1), fun z => absurd rfl z⟩) (fun q => ⟨fun z => absurd z (by decide), fun _ => ⟨⟨by have := q.2; omega, by have := q.2; omega⟩, tX12_isIn (fun y => ⟨fun z => absurd rfl z, fun _ => h0 (fun z => y ⟨z.2.1, by have := z.2.2; omega⟩)⟩) (fun y => ⟨fun _ => ?_, fun z => absurd z (by decide)⟩)⟩⟩))
  have i1 : i < n := by omega
  refine tX12_rule hc (fun M1 o1 m1 => tX12_findCan h m1 q.1.2 q.2 (fun M2 o2 m2 r2 => ?_))
  have oo : ow_of [89, 90, 91, 92, 95] [(83, 27), (83, 28)] M M2 := (o1.mono (fun c hc => by simp at hc; subst hc; decide) (fun x hx => Or.inr hx)).tr ((ow_of.off o2).mono (fun c hc => hc) (fun x hx => by simp at hx))
  have tb := td_bw (A := A) (L := L) (T := T) (into := into) (n := n) (hand := 0) (w := fr) (b := 0) ⟨by omega, by omega⟩
  rw [show n - 0 = n by omega] at tb
  have rr := r2 0 (by omega) q.2.1 fr 0 q.1.1.1 q.1.1.2 (by omega) (by omega)
  rw [show 2304 * 0 + 9 * fr + 0 = 9 * fr by omega, tb] at rr
  have q11 := q.1.1
  refine ⟨⟨by omega, by omega⟩, ⟨by omega, by omega⟩, fun z => ?_, fun z => ?_⟩
  · have hp := rr.1 z
    refine ow_upto (S := Int × Int × Int × ow_M) (P := fun j s => ow_At C (EM A L N) (d + 8) mX12_row 60 [(0, (3, 83)), (4, (0, i)), (5, (0, s.1)), (6, (0, s.2.1)), (7, (0, s.2.2.1)), (8, (0, j))] [] (0, 0) s.2.2.2 K) (I := fun j s => 0 ≤ j ∧ (0 ≤ s.1 ∧ s.1 < N) ∧ (0 ≤ s.2.1 ∧ s.2.1 ≤ L) ∧ (j ≤ i → 0 < bw A L T into (n - j).toNat j s.1 s.2.1) ∧ rw_v A L T into n (i + 1 - j).toNat j s.1 s.2.1 s.2.2.1 = rw_v A L T into n (i + 1).toNat 0 fr 0 (-1) ∧ ow_of [89, 90, 91, 92, 95] [(83, 27), (83, 28)] M s.2.2.2 ∧ mc_ok s.2.2.2 T ∧ ∀ hand, 0 ≤ hand → hand ≤ n → ca_row A L N T s.2.2.2 into n hand) (i + 1) (fun s hI => ?_) (fun j s j1 hI ih => ?_) 0 (fr, 0, -1, M2) (by omega) ⟨by omega, q11, ⟨Int.le_refl 0, by show (0 : Int) ≤ L; omega⟩, fun _ => by show 0 < bw A L T into (n - 0).toNat 0 fr 0; rw [show n - 0 = n by omega]; exact hp, by show rw_v A L T into n (i + 1 - 0).toNat 0 fr 0 (-1) = _; rw [show i + 1 - 0 = i + 1 by omega], oo, m2, r2⟩
    · obtain ⟨_, _, _, _, i5, i6, _, _⟩ := hI
      have hk := hK ⟨q, y.1, i1⟩ s.2.2.2 i6
      unfold rw_a at hk
      rw [show (i + 1 - (i + 1)).toNat = 0 by omega] at i5
      rw [if_pos hp, ← i5] at hk
      exact cX12_row_60 ⟨fun _ => hk, fun q => by omega⟩
    · obtain ⟨j0, i2, i3, i4, i5, i6, i7, i8⟩ := hI
      obtain ⟨p, c, hp', hc', e, nx⟩ := rw_hit h (n := n) ⟨j0, by omega⟩ (i4 (by omega))
      have hr := em_ch_rg h i2 hp' hc'
      have q8 := q.2.2
      refine cX12_row_60 ⟨fun q => by omega, fun _ => tX12_firstOf h i7 q8 ⟨j0, by omega⟩ i2 i3 (i8 (j + 1) (by omega) (by omega)) (fun M3 o3 m3 => ?_)⟩
      have e1 : ow_pv (rq A L T into n j s.1 s.2.1) (mg A) 0 (L * A) = 10 * p + c := e
      rw [e1, em_tdiv (by omega), em_tmod (by omega), show (10 * p + c) / 10 = p by omega, show (10 * p + c) % 10 = c by omega]
      refine ⟨by decide, ⟨by omega, by omega⟩, by decide, ⟨by omega, by omega⟩, ⟨by omega, by omega⟩, tX12_changed h i2 hp' hc' ⟨by decide, ⟨by omega, by omega⟩, ⟨by omega, by omega⟩, ⟨by omega, by omega⟩, ih (em_ch A L s.1 p c, p + 1, 10 * p + c, M3) ⟨by omega, hr, ⟨by show 0 ≤ p + 1; omega, by show p + 1 ≤ L; omega⟩, fun _ => nx, ?_, ?_, m3, ?_⟩⟩⟩
      · rw [show (i + 1 - j).toNat = (i + 1 - (j + 1)).toNat + 1 by omega] at i5
        rw [← i5]
        show _ = rw_v A L T into n (i + 1 - (j + 1)).toNat (j + 1) (em_ch A L s.1 (rw_d A L T into n j s.1 s.2.1 / 10) (rw_d A L T into n j s.1 s.2.1 % 10)) (rw_d A L T into n j s.1 s.2.1 / 10 + 1) (rw_d A L T into n j s.1 s.2.1)
        rw [e, show (10 * p + c) / 10 = p by omega, show (10 * p + c) % 10 = c by omega]
      · exact i6.tr ((ow_of.off o3).mono (fun c hc => by simp at hc; rcases hc with e | e | e | e <;> subst e <;> decide) (fun x hx => by simp at hx))
      · intro hand g0 g1 w b w0 w1 b0 b1
        show M3 95 _ ≠ 0 ↔ _
        rw [o3 95 (by decide)]
        exact i8 hand g0 g1 w b w0 w1 b0 b1
  · have hk := hK ⟨q, y.1, i1⟩ M2 oo
    unfold rw_a at hk
    rw [if_neg (fun y => rr.2 y z)] at hk
    exact hk
end RWS
