/-! ===== roads ===== -/
def td_q (A L : Int) (T : ow_M) (into least fr : Int) : Int → Bool := fun m => decide (least ≤ m ∧ 0 < bw A L T into m.toNat 0 fr 0)
def td_b (A L : Int) (T : ow_M) (into least most fr : Int) : Bool := decide (0 < ow_ct (td_q A L T into least fr) (most + 1))
section ROS
variable {C : ow_C} {A L N : Int} {d : Nat} {M T : ow_M} {K : Int → ow_M → Prop}
theorem td_b_iff {into least most fr : Int} (hm : 0 ≤ most) : td_b A L T into least most fr = true ↔ td A L T into least most 0 fr 0 := by
  unfold td_b
  rw [decide_eq_true_iff]
  have g := (ow_ct_rg (q := td_q A L T into least fr) (i := most + 1) (by omega)).1
  refine ⟨fun q => ?_, fun ⟨m, m1, m2, m3⟩ => ?_⟩
  · obtain ⟨z, z0, z1, z2, _⟩ := ow_ct_hit (show 0 ≤ most + 1 by omega) (Int.le_refl 0) q
    have z3 := of_decide_eq_true z2
    exact ⟨z.toNat, by omega, by omega, z3.2⟩
  · refine Classical.byContradiction (fun hno => ?_)
    have e0 : ow_ct (td_q A L T into least fr) (most + 1) = 0 := by omega
    refine (ow_ct_z (by omega)).1 e0 m (by omega) (by omega) (decide_eq_true ⟨by omega, ?_⟩)
    rw [show ((m : Int)).toNat = m by omega]
    exact m3
theorem em_text2 {r x : Int} (hr : 0 ≤ r ∧ r < 4) (hx : 0 ≤ x ∧ x < 24) : ow_gv (EM A L N) M (22 + 6 * r) 12 = 22 + 6 * r + 4 ∧ ow_gv (EM A L N) M (22 + 6 * r) 13 = 22 + 6 * r + 5 ∧ ow_R (EM A L N) M (22 + 6 * r + 4) 100 x ∧ ow_R (EM A L N) M (22 + 6 * r + 5) 100 x ∧ ow_gv (EM A L N) M (22 + 6 * r + 4) x = M (22 + 6 * r + 4) x ∧ ow_gv (EM A L N) M (22 + 6 * r + 5) x = M (22 + 6 * r + 5) x := by
  have nb : ow_nb (EM A L N) M = 102 := rfl
  have e : r = 0 ∨ r = 1 ∨ r = 2 ∨ r = 3 := by omega
  rcases e with e | e | e | e <;> subst e <;> exact ⟨rfl, rfl, ⟨by decide, by rw [nb]; decide, rfl, hx.1, hx.2⟩, ⟨by decide, by rw [nb]; decide, rfl, hx.1, hx.2⟩, rfl, rfl⟩
/-- how many texts there are, one of them ruling or none -/
def tc_ok (M : ow_M) (t : Int) : Prop := M 0 8 = t ∧ (0 ≤ t ∧ t ≤ 4) ∧ M 0 10 < t
theorem tc_ok.fr {M' : ow_M} {t : Int} {S : List Int} {F : List (Int × Int)} (h : tc_ok M t) (o : ow_of S F M M') (h1 : (0 : Int) ∉ S) (h2 : ((0 : Int), (8 : Int)) ∉ F) (h3 : ((0 : Int), (10 : Int)) ∉ F) : tc_ok M' t := by
  unfold tc_ok
  rw [o 0 8 h1 h2, o 0 10 h1 h3]
  exact h
theorem tx_roads (hl : tx_cl N T) : 0 ≤ T 0 3 ∧ T 0 3 ≤ 24 ∧ (T 0 0 = 0 → T 0 3 = 0) := by
  have h3 := hl.2.2.2.2.2.1
  have hn := hl.1
  have g := ow_ct_rg (q := fun j => decide (T 1 j = 3)) (i := T 0 0) (by omega)
  have h3' : T 0 3 = ow_ct (fun j => decide (T 1 j = 3)) (T 0 0) := h3
  exact ⟨by omega, by omega, fun z => by omega⟩
theorem tX11_isRoad {t x : Int} (ht : tc_ok M t) (hc : cu_C N M T) (h1 : ¬ (0 ≤ x ∧ x < T 0 3) → K 0 M) (h2 : (0 ≤ x ∧ x < T 0 3) → K 1 M) : ow_Sp C (EM A L N) (d + 1) mX11_isRoad (0, 0) [(3, 0), (0, x)] M K := by
  obtain ⟨t1, t2, t3⟩ := ht
  obtain ⟨cf, cl, cr⟩ := hc
  have hr3 := tx_roads cl
  rcases cr with ⟨r1, r2, r3⟩ | ⟨r, r1, r2, r3, r4⟩
  · refine fX11_isRoad (tX11_isText t1 t2.2 (fun q => ⟨fun _ => h1 (fun z => by have := hr3.2.2 r3; omega), fun z => absurd rfl z⟩) (fun q => ?_))
    omega
  · obtain ⟨e1, e2, e3, e4, e5, e6, e7, e8, e9, e10, e11, e12⟩ := em_text (A := A) (L := L) (N := N) (M := M) r1
    refine fX11_isRoad (tX11_isText t1 t2.2 (fun q => by omega) (fun q => ⟨fun z => absurd z (by decide), fun _ => ⟨fun z => h1 (fun y => by omega), fun z => ?_⟩⟩))
    rw [r3, e11, r4.2.2.2.2.2.2.1]
    exact ⟨⟨by omega, by omega⟩, e1, fun y => h1 (fun y' => by omega), fun y => ⟨fun y' => by omega, fun y' => h2 ⟨z, y⟩⟩⟩
theorem tX11_traceRoad (h : em_ok A L N) {t x into : Int} (ht : tc_ok M t) (hc : cu_C N M T) (hv : vw_R A L T M) (hi : 0 ≤ into ∧ into < N) (hx : 0 ≤ x ∧ x < T 0 3) (hK : ∀ M', ow_of [60, 61, 62, 63, 67, 68, 69, 70, 71, 72, 73, 74, 75] [(59, 2), (58, 5)] M M' → vw_R A L T M' → tc_row A L N T M' into (T 7 x) (T 8 x) 0 → K 0 M') : ow_Sp C (EM A L N) (d + 6) mX11_traceRoad (0, 0) [(3, 0), (0, into), (0, x)] M K := by
  have hc0 := hc
  obtain ⟨cf, cl, cr⟩ := hc
  have hr3 := tx_roads cl
  rcases cr with ⟨r1, r2, r3⟩ | ⟨r, r1, r2, r3, r4⟩
  · have := hr3.2.2 r3
    omega
  · refine fX11_traceRoad (tX11_isRoad ht hc0 (fun q => absurd hx q) (fun _ => ⟨fun z => absurd z (by decide), fun _ => ?_⟩))
    obtain ⟨e1, _⟩ := em_text (A := A) (L := L) (N := N) (M := M) r1
    obtain ⟨g1, g2, g3, g4, g5, g6⟩ := em_text2 (A := A) (L := L) (N := N) (M := M) (x := x) r1 ⟨hx.1, by omega⟩
    have b := cl.2.2.2.2.2.2.2 x hx.1 hx.2
    have b2 := r4.2.2.2.2.2.2.2.2.2 x hx.1 hx.2
    rw [r3, g2, g6, b2.2]
    refine ⟨⟨by omega, by omega⟩, e1, g4, tX9_prepare h hc0 hv ⟨by omega, b.2.2⟩ (fun M1 o1 v1 t1 => ?_)⟩
    have f10 : M1 0 10 = r := by rw [o1.at (by decide) (by decide)]; exact r3
    obtain ⟨e1', _⟩ := em_text (A := A) (L := L) (N := N) (M := M1) r1
    obtain ⟨k1, k2, k3, k4, k5, k6⟩ := em_text2 (A := A) (L := L) (N := N) (M := M1) (x := x) r1 ⟨hx.1, by omega⟩
    have b3 : M1 (22 + 6 * r + 4) x = T 7 x := by rw [o1.at (by simp; omega) (by simp; omega)]; exact b2.1
    rw [f10, k1, k5, b3]
    refine ⟨⟨by omega, by omega⟩, e1', k3, tX5_trace h ⟨b.1, b.2.1, b.2.2⟩ hi t1 (fun M2 o2 r2 => hK M2 (pt_of o1 o2) (vw_Rb v1 (ow_of.off o2) (by decide) (by decide) (by decide) (by decide) (by decide) (by decide)) (r2 0 (by omega) (by omega)))⟩
def rd_ok (N : Int) (T : ow_M) (fr into x : Int) : Prop := ((0 ≤ fr ∧ fr < N) ∧ 0 ≤ into ∧ into < N) ∧ 0 ≤ x ∧ x < T 0 3
def rd_v (A L : Int) (T : ow_M) (fr into x : Int) : Int := if td_b A L T into (T 7 x) (T 8 x) fr = true then 1 else 0
theorem tX11_road (h : em_ok A L N) {t : Int} (ht : tc_ok M t) (hc : cu_C N M T) (hv : vw_R A L T M) {fr into x : Int} (h0 : ¬ rd_ok N T fr into x → K 0 M) (hK : rd_ok N T fr into x → ∀ M', ow_of [60, 61, 62, 63, 67, 68, 69, 70, 71, 72, 73, 74, 75] [(59, 2), (58, 5)] M M' → vw_R A L T M' → K (rd_v A L T fr into x) M') : ow_Sp C (EM A L N) (d + 7) mX11_road (0, 0) [(3, 0), (0, fr), (0, into), (0, x)] M K := by
  refine fX11_road (tX10_isWord (fun q => ⟨fun _ => h0 (fun z => q z.1.1), fun z => absurd rfl z⟩) (fun q1 => ⟨fun z => absurd z (by decide), fun _ => tX10_isWord (fun q => ⟨fun _ => h0 (fun z => q z.1.2), fun z => absurd rfl z⟩) (fun q2 => ⟨fun z => absurd z (by decide), fun _ => tX11_isRoad ht hc (fun q => ⟨fun z => absurd rfl z, fun _ => h0 (fun z => q z.2)⟩) (fun q3 => ⟨fun _ => ?_, fun z => absurd z (by decide)⟩)⟩)⟩))
  refine tX11_traceRoad h ht hc hv q2 q3 (fun M' o' v' r' => ?_)
  have b := hc.2.1.2.2.2.2.2.2.2 x q3.1 q3.2
  have hk := hK ⟨⟨q1, q2⟩, q3⟩ M' o' v'
  have e := td_b_iff (A := A) (L := L) (T := T) (into := into) (least := T 7 x) (most := T 8 x) (fr := fr) (by omega)
  unfold rd_v at hk
  refine tX5_leads h r' q1 (fun z => ⟨Or.inr rfl, ?_⟩) (fun z => ⟨Or.inl rfl, ?_⟩)
  · rw [if_pos (e.2 z)] at hk; exact hk
  · rw [if_neg (fun y => z (e.1 y))] at hk; exact hk
theorem tX12_roadAt (hc : cu_M N M T) {x : Int} (hx : 0 ≤ x ∧ x < T 0 3) (hK : ∀ y, 0 ≤ y → y + 2 < 2720 → M 86 (y + 1) = T 7 x → M 86 (y + 2) = T 8 x → K y M) : ow_Sp C (EM A L N) d mX12_roadAt (0, 0) [(3, 83), (0, x)] M K := by
  obtain ⟨cf, cl, cr⟩ := hc
  have hr3 := tx_roads cl
  have hn := cl.1
  rcases cr with ⟨r1, r3⟩ | ⟨r1, r2, r3, r4⟩
  · have := hr3.2.2 r3
    omega
  · have h3 : T 0 3 = ow_ct (fun j => decide (T 1 j = 3)) (T 0 0) := cl.2.2.2.2.2.1
    obtain ⟨z, z0, z1, z2, z3⟩ := ow_ct_hit (q := fun j => decide (T 1 j = 3)) (n := T 0 0) hn.1 hx.1 (by omega)
    have z4 : T 1 z = 3 := of_decide_eq_true z2
    refine fX12_roadAt ⟨⟨by omega, by omega⟩, ⟨by omega, by omega⟩, ?_⟩
    refine ow_upto (S := Int × Int) (P := fun k s => ow_At C (EM A L N) d mX12_roadAt 15 [(0, (3, 83)), (1, (0, x)), (2, (0, s.1)), (3, (0, s.2))] [] (0, 0) M K) (I := fun k s => 0 ≤ k ∧ s.1 = ow_ct (fun j => decide (T 1 j = 3)) k - 1 ∧ s.2 = 680 * M 84 1 + 1 + 3 * k) z (fun s hI => ?_) (fun k s k1 hI ih => ?_) 0 (-1, 680 * M 84 1 + 1) z0 ⟨by omega, rfl, by show 680 * M 84 1 + 1 = _; omega⟩
    · obtain ⟨_, i2, i3⟩ := hI
      have e := r3 z z0 z1
      have b := (cl.2.1 z z0 z1).2.2.2.2 z4
      unfold tx_ct at b
      rw [z3] at b
      refine cX12_roadAt_15 ⟨⟨by omega, by omega⟩, fun q => ?_, fun q => ?_⟩
      · rw [i3, e.1] at q; exact absurd z4 q
      · refine cX12_roadAt_31 ⟨⟨by omega, by omega⟩, fun q => by omega, fun q => hK _ (by omega) (by omega) ?_ ?_⟩
        · rw [i3, e.2.1]; exact b.1.symm
        · rw [i3, e.2.2]; exact b.2.symm
    · obtain ⟨k0, i2, i3⟩ := hI
      have e := r3 k k0 (by omega)
      have g0 := ow_ct_rg (q := fun j => decide (T 1 j = 3)) k0
      have g := ow_ct_up (q := fun j => decide (T 1 j = 3)) (show 0 ≤ k + 1 by omega) (show k + 1 ≤ z by omega)
      have gs := ow_ctS (q := fun j => decide (T 1 j = 3)) k0
      refine cX12_roadAt_15 ⟨⟨by omega, by omega⟩, fun q => ?_, fun q => ?_⟩
      · rw [i3, e.1] at q
        rw [if_neg (fun y => q (of_decide_eq_true y))] at gs
        refine cX12_roadAt_31 ⟨⟨by omega, by omega⟩, fun q => ⟨⟨by omega, by omega⟩, ih (s.1 + 0, s.2 + 3) ⟨by omega, ?_, ?_⟩⟩, fun q => by omega⟩
        · show s.1 + 0 = _; omega
        · show s.2 + 3 = _; omega
      · rw [i3, e.1] at q
        rw [if_pos (decide_eq_true q)] at gs
        refine cX12_roadAt_31 ⟨⟨by omega, by omega⟩, fun q => ⟨⟨by omega, by omega⟩, ih (s.1 + 1, s.2 + 3) ⟨by omega, ?_, ?_⟩⟩, fun q => by omega⟩
        · show s.1 + 1 = _; omega
        · show s.2 + 3 = _; omega
theorem tX12_comesBy (h : em_ok A L N) (hc : cu_M N M T) (hm : mc_ok M T) {fr into x : Int} (hf : 0 ≤ fr ∧ fr < N) (hi : 0 ≤ into ∧ into < N) (hx : 0 ≤ x ∧ x < T 0 3) (hK : ∀ M', ow_off [89, 90, 91, 92, 93, 94] M M' → mc_ok M' T → K (rd_v A L T fr into x) M') : ow_Sp C (EM A L N) (d + 7) mX12_comesBy (0, 0) [(3, 83), (0, fr), (0, into), (0, x)] M K := by
  have b := hc.2.1.2.2.2.2.2.2.2 x hx.1 hx.2
  have etd := td_b_iff (A := A) (L := L) (T := T) (into := into) (least := T 7 x) (most := T 8 x) (fr := fr) (by omega)
  refine fX12_comesBy (tX12_roadAt hc hx (fun y y0 y1 y2 y3 => tX12_begin (T := T) h hf (fun M1 o1 f1 => ?_)))
  have o1' : ow_off [89, 90, 91, 92, 93, 94] M M1 := o1.mono (fun c hc => by simp at hc; subst hc; decide)
  have e86 : ∀ {s : ow_M}, ow_off [89, 90, 91, 92, 93, 94] M s → s 86 (y + 1) = T 7 x ∧ s 86 (y + 2) = T 8 x := fun {s} o => by
    rw [o 86 (by decide), o 86 (by decide)]; exact ⟨y2, y3⟩
  refine ow_upto (S := ow_M) (P := fun j s => ow_At C (EM A L N) (d + 7) mX12_comesBy 15 [(0, (3, 83)), (2, (0, into)), (4, (0, y)), (5, (0, j))] [] (0, 0) s K) (I := fun j s => 0 ≤ j ∧ ow_off [89, 90, 91, 92, 93, 94] M s ∧ mc_ok s T ∧ (j ≤ T 8 x → fw_ok A L N T fr j.toNat (s 93)) ∧ ∀ m : Nat, T 7 x ≤ m → (m : Int) < j → ¬ 0 < bw A L T into m 0 fr 0) (T 8 x + 1) (fun s hI => ?_) (fun j s j1 hI ih => ?_) 0 M1 (by omega) ⟨by omega, o1', hm.fr (ow_of.off o1) (by decide) (by decide) (by decide) (by decide) (by decide) (by decide) (by decide) (by decide) (by decide), fun _ => f1, fun m m1 m2 => by omega⟩
  · obtain ⟨_, i2, i3, _, i5⟩ := hI
    have hk := hK s i2 i3
    unfold rd_v at hk
    rw [if_neg (fun z => ?_)] at hk
    · refine cX12_comesBy_15 ⟨⟨by omega, by omega⟩, ⟨by omega, by omega⟩, fun _ => hk, fun q => ?_⟩
      rw [(e86 i2).2] at q
      omega
    · obtain ⟨m, m1, m2, m3⟩ := etd.1 z
      exact i5 m (by omega) (by omega) m3
  · obtain ⟨j0, i2, i3, i4, i5⟩ := hI
    have f4 := i4 (by omega)
    have ej : ((j.toNat : Nat) : Int) = j := by omega
    have nx : (T 7 x ≤ j → ¬ 0 < bw A L T into j.toNat 0 fr 0) → ow_At C (EM A L N) (d + 7) mX12_comesBy 55 [(0, (3, 83)), (2, (0, into)), (4, (0, y)), (5, (0, j))] [] (0, 0) s K := by
      intro hno
      have no' : ∀ m : Nat, T 7 x ≤ m → (m : Int) < j + 1 → ¬ 0 < bw A L T into m 0 fr 0 := by
        intro m m1 m2
        by_cases e : (m : Int) = j
        · have := hno (by omega)
          rw [show j.toNat = m by omega] at this
          exact this
        · exact i5 m m1 (by omega)
      refine cX12_comesBy_55 ⟨⟨by omega, by omega⟩, ⟨by omega, by omega⟩, ?_⟩
      rw [(e86 i2).2]
      refine ⟨fun q => ⟨⟨by omega, by omega⟩, ih s ⟨by omega, i2, i3, fun z => by omega, no'⟩⟩, fun q => ?_⟩
      have b7 : (108 : Int) ^ j.toNat * 108 ≤ 18509302102818816 := by
        have := em_108 (j.toNat + 1) (by omega)
        rw [Int.pow_succ] at this
        exact this
      have b6 := f4.2.1
      refine tX12_goOn h i3 ⟨j0, by omega⟩ f4.1 (by omega) (fun M2 o2 m2 w2 t2 => ⟨⟨by omega, by omega⟩, ih M2 ⟨by omega, i2.tr o2, m2, fun _ => ?_, no'⟩⟩)
      rw [show (j + 1).toNat = j.toNat + 1 by omega]
      refine fw_step h f4 w2 (fun q => ?_)
      rw [ej]; exact t2 q
    refine cX12_comesBy_15 ⟨⟨by omega, by omega⟩, ⟨by omega, by omega⟩, fun q => ?_, fun q => ⟨⟨by omega, by omega⟩, ⟨by omega, by omega⟩, fun q2 => ?_, fun q2 => ?_⟩⟩
    · rw [(e86 i2).2] at q; omega
    · rw [(e86 i2).1] at q2
      exact nx (fun z => by omega)
    · rw [(e86 i2).1] at q2
      have hlc := ow_lcq (a := bw A L T into j.toNat 0 fr 0) (b := 0)
      refine tX12_waysTo h (by omega) f4 hi ⟨fun z => nx (fun _ => by omega), fun z => ?_⟩
      have hk := hK s i2 i3
      unfold rd_v at hk
      rw [if_pos (etd.2 ⟨j.toNat, by omega, by omega, by omega⟩)] at hk
      exact hk
theorem tX12_road (h : em_ok A L N) (hc : cu_M N M T) {fr into x : Int} (h0 : ¬ rd_ok N T fr into x → K 0 M) (hK : rd_ok N T fr into x → ∀ M', ow_of [89, 90, 91, 92, 93, 94] [(83, 27), (83, 28)] M M' → K (rd_v A L T fr into x) M') : ow_Sp C (EM A L N) (d + 8) mX12_road (0, 0) [(3, 83), (0, fr), (0, into), (0, x)] M K := by
  have hr3 := tx_roads hc.2.1
  refine fX12_road (tX12_isWord0 h (fun q => ⟨fun _ => h0 (fun z => q z.1.1), fun z => absurd rfl z⟩) (fun q1 => ⟨fun z => absurd z (by decide), fun _ => tX12_isWord0 h (fun q => ⟨fun _ => h0 (fun z => q z.1.2), fun z => absurd rfl z⟩) (fun q2 => ⟨fun z => absurd z (by decide), fun _ => tX12_roads hc ⟨⟨by omega, by omega⟩, tX12_isIn (fun q => ⟨fun z => absurd rfl z, fun _ => h0 (fun z => q ⟨z.2.1, by have := z.2.2; omega⟩)⟩) (fun q3 => ⟨fun _ => ?_, fun z => absurd z (by decide)⟩)⟩⟩)⟩))
  have q4 : 0 ≤ x ∧ x < T 0 3 := by omega
  refine tX12_rule hc (fun M1 o1 m1 => ?_)
  have c1 : cu_M N M1 T := hc.fr o1 (by decide) (by decide) (by decide) (by decide)
  refine tX12_comesBy h c1 m1 q1 q2 q4 (fun M2 o2 m2 => ⟨?_, hK ⟨⟨q1, q2⟩, q4⟩ M2 ?_⟩)
  · unfold rd_v
    split
    · exact Or.inr rfl
    · exact Or.inl rfl
  · exact (o1.mono (fun c hc => by simp at hc; subst hc; decide) (fun x hx => Or.inr hx)).tr ((ow_of.off o2).mono (fun c hc => hc) (fun x hx => by simp at hx))
end ROS
