/-! ===== what can be heard ===== -/
def rc (A L N : Int) (T : ow_M) (fr : Int) : Nat → Int → Int → Prop
  | 0, w, b => w = fr ∧ b = 0
  | k + 1, w, b => ∃ w0 b0 z, (0 ≤ w0 ∧ w0 < N) ∧ (0 ≤ b0 ∧ b0 ≤ L) ∧ (0 ≤ z ∧ z < L * A) ∧ rc A L N T fr k w0 b0 ∧ 0 < cw A L T k w0 b0 z ∧ w = em_ch A L w0 (z / A) (z % A) ∧ b = z / A + 1
def sw_z (A L : Int) (T : ow_M) (hand w beh z : Int) : Prop := ∃ k, (0 ≤ k ∧ k ≤ L) ∧ ow_bt beh k = true ∧ 0 < cw A L T hand w k z
def sp_row (A L N : Int) (T M : ow_M) (fr hand : Int) : Prop := ∀ w, 0 ≤ w → w < N → ow_I (M (67 + hand) w) ∧ ∀ b, 0 ≤ b → b < 32 → (ow_bt (M (67 + hand) w) b = true ↔ rc A L N T fr hand.toNat w b)
section SPS
variable {C : ow_C} {A L N : Int} {d : Nat} {M T : ow_M} {K : Int → ow_M → Prop}
theorem ow_zA (h : em_ok A L N) {z : Int} (h0 : 0 ≤ z) (h1 : z < L * A) : (0 ≤ z / A ∧ z / A < L) ∧ (0 ≤ z % A ∧ z % A < A) := by
  have hA1 := h.1
  exact ⟨⟨Int.ediv_nonneg h0 (by omega), Int.ediv_lt_of_lt_mul (by omega) h1⟩, ⟨Int.emod_nonneg z (by omega), Int.emod_lt_of_pos z (by omega)⟩⟩
theorem rc_rg (h : em_ok A L N) {fr : Int} (hf : 0 ≤ fr ∧ fr < N) : ∀ (k : Nat) (w b : Int), rc A L N T fr k w b → (0 ≤ w ∧ w < N) ∧ 0 ≤ b ∧ b ≤ L := by
  have hL3 := h.2.2.1
  intro k
  cases k with
  | zero => intro w b ⟨e1, e2⟩; rw [e1, e2]; exact ⟨hf, by omega, by omega⟩
  | succ k =>
    intro w b ⟨w0, b0, z, r1, r2, r3, r4, r5, r6, r7⟩
    have hz := ow_zA h r3.1 r3.2
    rw [r6, r7]
    exact ⟨em_ch_rg h r1 hz.1 hz.2, by omega, by omega⟩
theorem rc_bw (h : em_ok A L N) {fr into : Int} (hf : 0 ≤ fr ∧ fr < N) : ∀ k m : Nat, 0 < bw A L T into (k + m) 0 fr 0 ↔ ∃ w b, rc A L N T fr k w b ∧ 0 < bw A L T into m k w b := by
  intro k
  induction k with
  | zero =>
    intro m
    rw [Nat.zero_add]
    refine ⟨fun q => ⟨fr, 0, ⟨rfl, rfl⟩, q⟩, fun ⟨w, b, ⟨e1, e2⟩, q⟩ => ?_⟩
    rw [e1, e2] at q
    exact q
  | succ k ih =>
    intro m
    rw [show k + 1 + m = k + (m + 1) by omega, ih (m + 1)]
    have ek : ((k + 1 : Nat) : Int) = (k : Int) + 1 := by omega
    refine ⟨fun ⟨w, b, r, q⟩ => ?_, fun ⟨w, b, ⟨w0, b0, z, r1, r2, r3, r4, r5, r6, r7⟩, q⟩ => ?_⟩
    · obtain ⟨z, z0, z1, z2, z3⟩ := (bw_pos h).1 q
      have rg := rc_rg h hf k w b r
      refine ⟨em_ch A L w (z / A) (z % A), z / A + 1, ⟨w, b, z, rg.1, rg.2, ⟨z0, z1⟩, r, z2, rfl, rfl⟩, ?_⟩
      rw [ek]; exact z3
    · rw [ek, r6, r7] at q
      exact ⟨w0, b0, r4, (bw_pos h).2 ⟨z, r3.1, r3.2, r5, q⟩⟩
theorem rc_any (h : em_ok A L N) {fr w : Int} (hf : 0 ≤ fr ∧ fr < N) {k : Nat} : 0 < bw A L T w k 0 fr 0 ↔ ∃ b, rc A L N T fr k w b := by
  have e := rc_bw (T := T) h (into := w) hf k 0
  rw [Nat.add_zero] at e
  rw [e]
  refine ⟨fun ⟨w', b, r, q⟩ => ?_, fun ⟨b, r⟩ => ⟨w, b, r, ?_⟩⟩
  · have e2 : bw A L T w 0 k w' b = if w' = w then 1 else 0 := rfl
    rw [e2] at q
    by_cases ew : w' = w
    · rw [ew] at r; exact ⟨b, r⟩
    · rw [if_neg ew] at q; exact absurd q (by decide)
  · have e2 : bw A L T w 0 k w b = if w = w then 1 else 0 := rfl
    rw [e2, if_pos rfl]
    decide
theorem tJ7_fillI {c v n : Int} (hn : 0 ≤ n ∧ n ≤ 65536) (hc : ∀ M, (0 ≤ c ∧ c < ow_nb (EM A L N) M ∧ ((EM A L N).2.1 c).1 = 100) ∧ ((EM A L N).2.1 c).2 = n ∧ ∀ i, (EM A L N).1 c i = none) (hK : ∀ M', ow_off [c] M M' → (∀ i, 0 ≤ i → i < n → M' c i = v) → K 0 M') : ow_Sp C (EM A L N) d mJ7_fill_53178 (0, 0) [(3, c), (0, v)] M K := by
  obtain ⟨c1, c2, c4⟩ := hc M
  refine eJ7_fill_53178 ⟨⟨c1.1, c1.2.1, c1.2.2, by rw [c2]; omega, by rw [c2]; omega⟩, ?_⟩
  rw [c2]
  refine ow_upto (S := ow_M) (P := fun i s => ow_At C (EM A L N) d mJ7_fill_53178 5 [(0, (3, c)), (1, (0, v)), (2, (0, i)), (3, (0, n))] [] (0, 0) s K) (I := fun i s => 0 ≤ i ∧ ow_off [c] M s ∧ ∀ x, 0 ≤ x → x < i → s c x = v) n (fun s hI => ?_) (fun i s i1 hI ih => ?_) 0 M (by omega) ⟨by omega, ow_off.rf, fun x x0 x1 => by omega⟩
  · exact bJ7_fill_53178_5 ⟨fun _ => hK s hI.2.1 hI.2.2, fun q => by omega⟩
  · obtain ⟨i0, i2, i3⟩ := hI
    have cs := hc s
    refine bJ7_fill_53178_5 ⟨fun q => by omega, fun _ => ⟨⟨cs.1.1, cs.1.2.1, cs.1.2.2, i0, by rw [c2]; omega⟩, c4 i, fun N1 e1 => ⟨⟨by omega, by omega⟩, ih N1 ⟨by omega, by rw [e1]; exact i2.up (List.mem_singleton.2 rfl), fun x x0 x1 => ?_⟩⟩⟩⟩
    by_cases e : x = i
    · rw [e, e1, ow_upS]
    · rw [e1, ow_upN (Or.inr e)]; exact i3 x x0 (by omega)
theorem em_rowF {j : Int} (hj : 0 ≤ j ∧ j < 9) : ∀ M, (0 ≤ 67 + j ∧ 67 + j < ow_nb (EM A L N) M ∧ ((EM A L N).2.1 (67 + j)).1 = 100) ∧ ((EM A L N).2.1 (67 + j)).2 = N ∧ ∀ i, (EM A L N).1 (67 + j) i = none := fun M => by
  obtain ⟨c1, c2, c3, c4⟩ := em_row (A := A) (L := L) (N := N) (M := M) hj
  exact ⟨c1, c2, c4⟩
theorem tX5_spreadWord (h : em_ok A L N) {n : Int} (hn : n ≤ 8) (hT : vw_T A L T M (vx A L n 0 0 0)) {hand w : Int} (hh : 0 ≤ hand ∧ hand < n) (hw : 0 ≤ w ∧ w < N) (hI0 : ∀ t, 0 ≤ t → t < N → ow_I (M (67 + (hand + 1)) t)) (hK : ∀ M', ow_off [67 + (hand + 1)] M M' → (∀ t, 0 ≤ t → t < N → ow_I (M' (67 + (hand + 1)) t) ∧ ∀ b, 0 ≤ b → b < 32 → (ow_bt (M' (67 + (hand + 1)) t) b = true ↔ ow_bt (M (67 + (hand + 1)) t) b = true ∨ ∃ z, 0 ≤ z ∧ z < L * A ∧ sw_z A L T hand w (M (67 + hand) w) z ∧ t = em_ch A L w (z / A) (z % A) ∧ b = z / A + 1)) → K 0 M') : ow_Sp C (EM A L N) (d + 1) mX5_spreadWord (0, 0) [(3, 64), (0, hand), (0, w)] M K := by
  have hL := h.2.2.2.1
  have hL3 := h.2.2.1
  have hA := h.2.1
  have hA1 := h.1
  have hN2 := h.2.2.2.2.2
  have hD := vx_D h
  obtain ⟨a1, a2, a3, a4⟩ := em_row (A := A) (L := L) (N := N) (M := M) (j := hand) ⟨by omega, by omega⟩
  refine fX5_spreadWord ⟨⟨by omega, by omega⟩, ⟨a1.1, a1.2.1, a1.2.2, hw.1, by rw [a2]; exact hw.2⟩, ⟨by omega, by omega⟩, ⟨by omega, by omega⟩, ?_⟩
  rw [a3]
  refine ow_upto (S := ow_M) (P := fun p s => ow_At C (EM A L N) (d + 1) mX5_spreadWord 22 [(0, (3, 64)), (1, (0, hand)), (2, (0, w)), (3, (0, M (67 + hand) w)), (4, (3, 67 + (hand + 1))), (5, (0, p))] [] (0, 0) s K) (I := fun p s => 0 ≤ p ∧ ow_off [67 + (hand + 1)] M s ∧ ∀ t, 0 ≤ t → t < N → ow_I (s (67 + (hand + 1)) t) ∧ ∀ b, 0 ≤ b → b < 32 → (ow_bt (s (67 + (hand + 1)) t) b = true ↔ ow_bt (M (67 + (hand + 1)) t) b = true ∨ ∃ z, 0 ≤ z ∧ z < p * A ∧ sw_z A L T hand w (M (67 + hand) w) z ∧ t = em_ch A L w (z / A) (z % A) ∧ b = z / A + 1)) L (fun s hI => ?_) (fun p s p1 hI ih => ?_) 0 M (by omega) ⟨by omega, ow_off.rf, fun t t0 t1 => ⟨hI0 t t0 t1, fun b b0 b1 => ⟨fun q => Or.inl q, fun q => ?_⟩⟩⟩
  · obtain ⟨_, i2, i3⟩ := hI
    exact cX5_spreadWord_22 ⟨fun _ => hK s i2 i3, fun q => by omega⟩
  · obtain ⟨p0, i2, i3⟩ := hI
    have hdg := em_dg_rg h w p
    have hP := em_pw_le128 h p0 p1
    have cl := em_ch_rg h hw ⟨p0, p1⟩ (c := 0) ⟨by omega, by omega⟩
    refine cX5_spreadWord_22 ⟨fun q => by omega, fun _ => tX10_letter h hw ⟨p0, p1⟩ (tX9_changesOf h ⟨hh.1, by omega⟩ ⟨p0, p1⟩ hdg (tX10_cleared h hw ⟨p0, p1⟩ ?_))⟩
    have e00 : em_ch A L w p 0 = em_ch A L w p 0 + 0 * em_pw A (L - 1 - p) := by omega
    rw [e00]
    refine ow_upto (S := ow_M) (P := fun c s => ow_At C (EM A L N) (d + 1) mX5_spreadWord 75 [(0, (3, 64)), (1, (0, hand)), (2, (0, w)), (3, (0, M (67 + hand) w)), (4, (3, 67 + (hand + 1))), (5, (0, p)), (6, (0, em_dg A L w p)), (7, (0, vx A L hand p (em_dg A L w p) 0)), (8, (0, em_ch A L w p 0 + c * em_pw A (L - 1 - p))), (9, (0, c))] [] (0, 0) s K) (I := fun c s => 0 ≤ c ∧ ow_off [67 + (hand + 1)] M s ∧ ∀ t, 0 ≤ t → t < N → ow_I (s (67 + (hand + 1)) t) ∧ ∀ b, 0 ≤ b → b < 32 → (ow_bt (s (67 + (hand + 1)) t) b = true ↔ ow_bt (M (67 + (hand + 1)) t) b = true ∨ ∃ z, 0 ≤ z ∧ z < p * A + c ∧ sw_z A L T hand w (M (67 + hand) w) z ∧ t = em_ch A L w (z / A) (z % A) ∧ b = z / A + 1)) A (fun s hI => ?_) (fun c s c1 hI ih2 => ?_) 0 s (by omega) ⟨by omega, i2, by rw [Int.add_zero]; exact i3⟩
    · obtain ⟨_, j2, j3⟩ := hI
      have e : p * A + A = (p + 1) * A := by rw [Int.add_mul, Int.one_mul]
      rw [e] at j3
      exact cX5_spreadWord_75 ⟨fun _ => ⟨⟨by omega, by omega⟩, ih s ⟨by omega, j2, j3⟩⟩, fun q => by omega⟩
    · obtain ⟨c0, j2, j3⟩ := hI
      have hr := em_ch_rg h hw ⟨p0, p1⟩ ⟨c0, c1⟩
      have e6 : em_ch A L w p 0 + c * em_pw A (L - 1 - p) = em_ch A L w p c := (em_ch0 h).symm
      have e7 : em_ch A L w p c + em_pw A (L - 1 - p) = em_ch A L w p 0 + (c + 1) * em_pw A (L - 1 - p) := by rw [Int.add_mul, Int.one_mul, ← e6]; omega
      obtain ⟨v2, v3, v4⟩ := (cw_v (T := T) h (hand := hand) (w := w) (bh := 0) ⟨p0, p1⟩ ⟨c0, c1⟩).2
      have cwv : ∀ b, cw A L T hand w b (p * A + c) = (if em_dg A L w p = c then 0 else ch_v T hand b p (em_dg A L w p) c) := fun b => (cw_v (T := T) h ⟨p0, p1⟩ ⟨c0, c1⟩).1
      have nx : ∀ s', ow_off [67 + (hand + 1)] M s' → (∀ t, 0 ≤ t → t < N → ow_I (s' (67 + (hand + 1)) t) ∧ ∀ b, 0 ≤ b → b < 32 → (ow_bt (s' (67 + (hand + 1)) t) b = true ↔ ow_bt (s (67 + (hand + 1)) t) b = true ∨ (sw_z A L T hand w (M (67 + hand) w) (p * A + c) ∧ t = em_ch A L w p c ∧ b = p + 1))) → (0 ≤ p ∧ p < L) ∧ ow_I (em_ch A L w p c + em_pw A (L - 1 - p)) ∧ ow_I (c + 1) ∧ ow_At C (EM A L N) (d + 1) mX5_spreadWord 75 [(0, (3, 64)), (1, (0, hand)), (2, (0, w)), (3, (0, M (67 + hand) w)), (4, (3, 67 + (hand + 1))), (5, (0, p)), (6, (0, em_dg A L w p)), (7, (0, vx A L hand p (em_dg A L w p) 0)), (8, (0, em_ch A L w p c + em_pw A (L - 1 - p))), (9, (0, c + 1))] [] (0, 0) s' K := by
        intro s' os' ht
        refine ⟨⟨p0, p1⟩, ⟨by omega, by omega⟩, ⟨by omega, by omega⟩, ?_⟩
        rw [e7]
        refine ih2 s' ⟨by omega, os', fun t t0 t1 => ⟨(ht t t0 t1).1, fun b b0 b1 => ?_⟩⟩
        rw [(ht t t0 t1).2 b b0 b1, (j3 t t0 t1).2 b b0 b1]
        refine ⟨fun z => ?_, fun z => ?_⟩
        · rcases z with (z | ⟨z, z0, z1, z2, z3, z4⟩) | ⟨y1, y2, y3⟩
          · exact Or.inl z
          · exact Or.inr ⟨z, z0, by omega, z2, z3, z4⟩
          · exact Or.inr ⟨p * A + c, v2.1, by omega, y1, by rw [v3, v4]; exact y2, by rw [v3]; exact y3⟩
        · rcases z with z | ⟨z, z0, z1, z2, z3, z4⟩
          · exact Or.inl (Or.inl z)
          · by_cases e : z = p * A + c
            · subst e
              rw [v3, v4] at z3
              rw [v3] at z4
              exact Or.inr ⟨z2, z3, z4⟩
            · exact Or.inl (Or.inr ⟨z, z0, by omega, z2, z3, z4⟩)
      rw [e6]
      refine cX5_spreadWord_75 ⟨fun q => by omega, fun _ => ⟨fun q => nx s j2 (fun t t0 t1 => ⟨(j3 t t0 t1).1, fun b b0 b1 => ⟨fun y => Or.inl y, fun y => ?_⟩⟩), fun q => ?_⟩⟩
      · rcases y with y | ⟨⟨k, k0, k1, k2⟩, _⟩
        · exact y
        · rw [cwv, if_pos q.symm] at k2; exact absurd k2 (by decide)
      · have e0 : vx A L hand p (em_dg A L w p) 0 + c = vx A L hand p (em_dg A L w p) c := by unfold vx; omega
        have hxr := vx_rg (H := 8) ⟨hh.1, by omega⟩ ⟨p0, p1⟩ hdg ⟨c0, c1⟩
        have e62 : ∀ y, s 62 y = M 62 y := j2 62 (by simp; omega)
        have ho := (vw_open h hT (k := 0) hh ⟨p0, p1⟩ hdg ⟨c0, c1⟩ q).1
        obtain ⟨b1, b2, b3, b4⟩ := em_row (A := A) (L := L) (N := N) (M := s) (j := hand + 1) ⟨by omega, by omega⟩
        have R1 : ow_R (EM A L N) s (67 + (hand + 1)) 100 (em_ch A L w p c) := ⟨b1.1, b1.2.1, b1.2.2, hr.1, by rw [b2]; exact hr.2⟩
        have sw : ow_and (M 62 (vx A L hand p (em_dg A L w p) c)) (M (67 + hand) w) ≠ 0 ↔ sw_z A L T hand w (M (67 + hand) w) (p * A + c) := by
          rw [ow_bt_ne ow_and_I]
          refine ⟨fun ⟨k, hk, hb⟩ => ?_, fun ⟨k, hk, hb, hc⟩ => ⟨k, ⟨hk.1, by omega⟩, ?_⟩⟩
          · rw [ow_bt_and, Bool.and_eq_true, ho k hk.1 hk.2, decide_eq_true_iff] at hb
            refine ⟨k, ⟨hk.1, hb.1.1⟩, hb.2, ?_⟩
            rw [cwv, if_neg (fun y => q y.symm)]; exact hb.1.2
          · rw [cwv, if_neg (fun y => q y.symm)] at hc
            rw [ow_bt_and, Bool.and_eq_true, ho k hk.1 (by omega), decide_eq_true_iff]
            exact ⟨⟨hk.2, hc⟩, hb⟩
        rw [e0, e62, b3]
        refine ⟨⟨by omega, by omega⟩, hxr, fun z => nx s j2 (fun t t0 t1 => ⟨(j3 t t0 t1).1, fun b b0 b1 => ⟨fun y => Or.inl y, fun y => ?_⟩⟩), fun z => ⟨R1, ⟨by omega, by omega⟩, R1, b4 _, fun N1 e1 => nx N1 (by rw [e1]; exact j2.up (List.mem_singleton.2 rfl)) (fun t t0 t1 => ?_)⟩⟩
        · rcases y with y | y
          · exact y
          · exact absurd z (sw.2 y.1)
        · by_cases et : t = em_ch A L w p c
          · rw [et, e1, ow_upS]
            refine ⟨ow_or_I, fun b b0 b1 => ?_⟩
            rw [ow_bt_or, Bool.or_eq_true, ow_bt_shl ⟨by omega, by omega⟩ b0, decide_eq_true_iff]
            exact ⟨fun y => by rcases y with y | y; exact Or.inl y; exact Or.inr ⟨sw.1 z, rfl, y.symm⟩, fun y => by rcases y with y | y; exact Or.inl y; exact Or.inr y.2.2.symm⟩
          · rw [e1, ow_upN (Or.inr et)]
            exact ⟨(j3 t t0 t1).1, fun b b0 b1 => ⟨fun y => Or.inl y, fun y => by rcases y with y | y; exact y; exact absurd y.2.1 et⟩⟩
  · rcases q with q | ⟨z, z0, z1, _⟩
    · exact q
    · rw [Int.zero_mul] at z1; omega
theorem em_mem {j : Int} (hj : 0 ≤ j ∧ j < 9) : 67 + j ∈ [(67 : Int), 68, 69, 70, 71, 72, 73, 74, 75] := by
  have e : j = 0 ∨ j = 1 ∨ j = 2 ∨ j = 3 ∨ j = 4 ∨ j = 5 ∨ j = 6 ∨ j = 7 ∨ j = 8 := by omega
  rcases e with e | e | e | e | e | e | e | e | e <;> subst e <;> decide
theorem tX5_spread (h : em_ok A L N) {fr n : Int} (hn : 0 ≤ n ∧ n ≤ 8) (hf : 0 ≤ fr ∧ fr < N) (hT : vw_T A L T M (vx A L n 0 0 0)) (hK : ∀ M', ow_off [67, 68, 69, 70, 71, 72, 73, 74, 75] M M' → sp_row A L N T M' fr n → K 0 M') : ow_Sp C (EM A L N) (d + 2) mX5_spread (0, 0) [(3, 64), (0, fr), (0, n)] M K := by
  have hL := h.2.2.2.1
  have hL3 := h.2.2.1
  have hN := em_Npos h
  have hN2 := h.2.2.2.2.2
  refine fX5_spread (tJ7_fillI (n := N) ⟨by omega, by omega⟩ (em_rowF ⟨by omega, by omega⟩) (fun M1 o1 z1 => ?_))
  obtain ⟨c1, c2, c3, c4⟩ := em_row (A := A) (L := L) (N := N) (M := M1) (j := 0) ⟨by omega, by omega⟩
  refine ⟨⟨c1.1, c1.2.1, c1.2.2, hf.1, by rw [c2]; exact hf.2⟩, c4 _, fun N2 e2 => ?_⟩
  have up1 : ∀ {j : Int} {S S' : ow_M}, 0 ≤ j → j < 9 → ow_off [67 + j] S S' → ow_off [67, 68, 69, 70, 71, 72, 73, 74, 75] S S' := fun {j S S'} j0 j1 o => o.mono (fun c hc => by simp only [List.mem_singleton] at hc; rw [hc]; exact em_mem ⟨j0, j1⟩)
  refine ow_upto (S := ow_M) (P := fun j s => ow_At C (EM A L N) (d + 2) mX5_spread 21 [(0, (3, 64)), (2, (0, n)), (3, (0, j))] [] (0, 0) s K) (I := fun j s => 0 ≤ j ∧ ow_off [67, 68, 69, 70, 71, 72, 73, 74, 75] M s ∧ sp_row A L N T s fr j) n (fun s hI => ?_) (fun j s j1 hI ih => ?_) 0 N2 hn.1 ⟨by omega, ?_, fun w w0 w1 => ?_⟩
  · obtain ⟨_, i2, i3⟩ := hI
    exact cX5_spread_21 ⟨fun _ => hK s i2 i3, fun q => by omega⟩
  · obtain ⟨j0, i2, i3⟩ := hI
    refine cX5_spread_21 ⟨fun q => by omega, fun _ => ⟨fun q => by omega, fun _ => ⟨⟨by omega, by omega⟩, ⟨by omega, by omega⟩, tJ7_fillI (n := N) ⟨by omega, by omega⟩ (em_rowF ⟨by omega, by omega⟩) (fun M3 o3 z3 => ?_)⟩⟩⟩
    have nj : (67 + j : Int) ∉ [67 + (j + 1)] := fun z => by simp only [List.mem_singleton] at z; omega
    refine ow_upto (S := ow_M) (P := fun w s => ow_At C (EM A L N) (d + 2) mX5_spread 47 [(0, (3, 64)), (2, (0, n)), (3, (0, j)), (4, (0, w))] [] (0, 0) s K) (I := fun w t => 0 ≤ w ∧ ow_off [67 + (j + 1)] s t ∧ ∀ x, 0 ≤ x → x < N → ow_I (t (67 + (j + 1)) x) ∧ ∀ b, 0 ≤ b → b < 32 → (ow_bt (t (67 + (j + 1)) x) b = true ↔ ∃ w', 0 ≤ w' ∧ w' < w ∧ ∃ z, 0 ≤ z ∧ z < L * A ∧ sw_z A L T j w' (s (67 + j) w') z ∧ x = em_ch A L w' (z / A) (z % A) ∧ b = z / A + 1)) N (fun t hI => ?_) (fun w t w1 hI ih2 => ?_) 0 M3 (by omega) ⟨by omega, o3, fun x x0 x1 => ?_⟩
    · obtain ⟨_, k2, k3⟩ := hI
      refine cX5_spread_47 ⟨fun _ => ⟨⟨by omega, by omega⟩, ih t ⟨by omega, i2.tr (up1 (by omega) (by omega) k2), fun x x0 x1 => ⟨(k3 x x0 x1).1, fun b b0 b1 => ?_⟩⟩⟩, fun q => by omega⟩
      rw [(k3 x x0 x1).2 b b0 b1, show (j + 1).toNat = j.toNat + 1 by omega]
      have ej : ((j.toNat : Nat) : Int) = j := by omega
      refine ⟨fun ⟨w', y0, y1, z, z0, z1, ⟨k, hk, hb, hc⟩, z3, z4⟩ => ?_, fun ⟨w', b', z, r1, r2, r3, r4, r5, r6, r7⟩ => ?_⟩
      · refine ⟨w', k, z, ⟨y0, y1⟩, hk, ⟨z0, z1⟩, ((i3 w' y0 y1).2 k hk.1 (by omega)).1 hb, ?_, z3, z4⟩
        rw [ej]; exact hc
      · rw [ej] at r5
        exact ⟨w', r1.1, r1.2, z, r3.1, r3.2, ⟨b', r2, ((i3 w' r1.1 r1.2).2 b' r2.1 (by omega)).2 r4, r5⟩, r6, r7⟩
    · obtain ⟨w0, k2, k3⟩ := hI
      obtain ⟨c1, c2, c3, c4⟩ := em_row (A := A) (L := L) (N := N) (M := t) (j := j) ⟨by omega, by omega⟩
      have ew : t (67 + j) w = s (67 + j) w := k2 (67 + j) nj w
      refine cX5_spread_47 ⟨fun q => by omega, fun _ => ⟨⟨by omega, by omega⟩, ⟨c1.1, c1.2.1, c1.2.2, w0, by rw [c2]; exact w1⟩, ?_⟩⟩
      rw [c3, ew]
      refine ⟨fun q => ⟨⟨by omega, by omega⟩, ih2 t ⟨by omega, k2, fun x x0 x1 => ⟨(k3 x x0 x1).1, fun b b0 b1 => ?_⟩⟩⟩, fun q => ?_⟩
      · rw [(k3 x x0 x1).2 b b0 b1]
        refine ⟨fun ⟨w', y0, y1, r⟩ => ⟨w', y0, by omega, r⟩, fun ⟨w', y0, y1, z, z0, z1, ⟨k, hk, hb, hc⟩, z3, z4⟩ => ?_⟩
        by_cases e : w' = w
        · rw [e, q, ow_bt_0] at hb; exact absurd hb (by decide)
        · exact ⟨w', y0, by omega, z, z0, z1, ⟨k, hk, hb, hc⟩, z3, z4⟩
      · have o62 : ∀ c, c < 67 → ∀ y, t c y = M c y := by
          intro c hc y
          rw [k2 c (by simp; omega), i2 c (by simp; omega)]
        have hTt : vw_T A L T t (vx A L n 0 0 0) := hT.cg (o62 62 (by decide)) (o62 63 (by decide))
        refine tX5_spreadWord h hn.2 hTt ⟨j0, j1⟩ ⟨w0, w1⟩ (fun x x0 x1 => (k3 x x0 x1).1) (fun M4 o4 r4 => ⟨⟨by omega, by omega⟩, ih2 M4 ⟨by omega, k2.tr o4, fun x x0 x1 => ⟨(r4 x x0 x1).1, fun b b0 b1 => ?_⟩⟩⟩)
        rw [(r4 x x0 x1).2 b b0 b1, (k3 x x0 x1).2 b b0 b1, ew]
        refine ⟨fun y => ?_, fun ⟨w', y0, y1, z, z0, z1, z2, z3, z4⟩ => ?_⟩
        · rcases y with ⟨w', y0, y1, r⟩ | ⟨z, z0, z1, z2, z3, z4⟩
          · exact ⟨w', y0, by omega, r⟩
          · exact ⟨w, w0, by omega, z, z0, z1, z2, z3, z4⟩
        · by_cases e : w' = w
          · rw [e] at z2 z3
            exact Or.inr ⟨z, z0, z1, z2, z3, z4⟩
          · exact Or.inl ⟨w', y0, by omega, z, z0, z1, z2, z3, z4⟩
    · rw [z3 x x0 x1]
      refine ⟨ow_I0, fun b b0 b1 => ?_⟩
      rw [ow_bt_0]
      exact ⟨fun q => absurd q (by decide), fun ⟨w', y0, y1, _⟩ => by omega⟩
  · have o1' : ow_off [67 + 0] M M1 := o1
    rw [e2]
    exact (up1 (by omega) (by omega) o1').up (by decide)
  · have e0 : rc A L N T fr (0 : Int).toNat w = fun b => w = fr ∧ b = 0 := rfl
    rw [e0]
    by_cases e : w = fr
    · rw [e, e2, ow_upS]
      refine ⟨⟨by decide, by decide⟩, fun b b0 b1 => ?_⟩
      have := ow_bt_shl (k := 0) (j := b) ⟨by decide, by decide⟩ b0
      rw [show ow_shl 1 0 = 1 by decide] at this
      rw [this, decide_eq_true_iff]
      exact ⟨fun y => ⟨rfl, y.symm⟩, fun y => y.2.symm⟩
    · rw [e2, ow_upN (Or.inr e), z1 w w0 w1]
      refine ⟨ow_I0, fun b b0 b1 => ?_⟩
      rw [ow_bt_0]
      exact ⟨fun q => absurd q (by decide), fun q => absurd q.1 e⟩
theorem tX5_isReached (h : em_ok A L N) {fr n w : Int} (hn : 0 ≤ n ∧ n ≤ 8) (hf : 0 ≤ fr ∧ fr < N) (hw : 0 ≤ w ∧ w < N) (hr : sp_row A L N T M fr n) (h1 : 0 < bw A L T w n.toNat 0 fr 0 → K 1 M) (h2 : ¬ 0 < bw A L T w n.toNat 0 fr 0 → K 0 M) : ow_Sp C (EM A L N) d mX5_isReached (0, 0) [(3, 64), (0, w), (0, n)] M K := by
  have hL := h.2.2.2.1
  obtain ⟨c1, c2, c3, c4⟩ := em_row (A := A) (L := L) (N := N) (M := M) (j := n) ⟨by omega, by omega⟩
  have e : M (67 + n) w ≠ 0 ↔ 0 < bw A L T w n.toNat 0 fr 0 := by
    rw [ow_bt_ne (hr w hw.1 hw.2).1, rc_any h hf]
    refine ⟨fun ⟨b, hb, ht⟩ => ⟨b, ((hr w hw.1 hw.2).2 b hb.1 hb.2).1 ht⟩, fun ⟨b, r⟩ => ?_⟩
    have rg := rc_rg h hf _ _ _ r
    exact ⟨b, ⟨rg.2.1, by omega⟩, ((hr w hw.1 hw.2).2 b rg.2.1 (by omega)).2 r⟩
  refine fX5_isReached ⟨⟨hn.1, by omega⟩, ⟨c1.1, c1.2.1, c1.2.2, hw.1, by rw [c2]; exact hw.2⟩, ?_⟩
  rw [c3]
  exact ⟨fun q => h2 (fun z => e.2 z q), fun q => h1 (e.1 q)⟩
def hd_q (A L : Int) (T : ow_M) (fr n : Int) : Int → Bool := fun w => decide (0 < bw A L T w n.toNat 0 fr 0)
def hd_v (A L N : Int) (T : ow_M) (fr n i : Int) : Int := ow_pv (hd_q A L T fr n) (fun w => w) i N
theorem tX11_heard (h : em_ok A L N) (hc : cu_C N M T) (hv : vw_R A L T M) {fr n i : Int} (h0 : ¬ ((0 ≤ fr ∧ fr < N) ∧ 0 ≤ n ∧ n ≤ 8) → K (-1) M) (hK : (0 ≤ fr ∧ fr < N) ∧ 0 ≤ n ∧ n ≤ 8 → ∀ M', ow_of [60, 61, 62, 63, 67, 68, 69, 70, 71, 72, 73, 74, 75] [(59, 2), (58, 5)] M M' → vw_R A L T M' → K (hd_v A L N T fr n i) M') : ow_Sp C (EM A L N) (d + 6) mX11_heard (0, 0) [(3, 0), (0, fr), (0, n), (0, i)] M K := by
  have hN := em_Npos h
  have hN2 := h.2.2.2.2.2
  refine fX11_heard (tX10_isWord (fun q => ⟨fun _ => h0 (fun z => q z.1), fun z => absurd rfl z⟩) (fun q1 => ⟨fun z => absurd z (by decide), fun _ => tX11_isHands (fun q => ⟨fun z => absurd rfl z, fun _ => h0 (fun z => q z.2)⟩) (fun q3 => ⟨fun _ => ?_, fun z => absurd z (by decide)⟩)⟩))
  refine tX9_prepare h hc hv q3 (fun M1 o1 v1 t1 => tX5_spread h q3 q1 t1 (fun M2 o2 r2 => ?_))
  have oo := pt_of o1 o2
  have v2 : vw_R A L T M2 := vw_Rb v1 (ow_of.off o2) (by decide) (by decide) (by decide) (by decide) (by decide) (by decide)
  have hk := hK ⟨q1, q3⟩ M2 oo v2
  unfold hd_v at hk
  refine ow_upto (S := Int) (P := fun w s => ow_At C (EM A L N) (d + 6) mX11_heard 43 [(0, (3, 0)), (2, (0, n)), (3, (0, i)), (4, (0, s)), (5, (0, w))] [] (0, 0) M2 K) (I := fun w s => 0 ≤ w ∧ s = ow_ct (hd_q A L T fr n) w ∧ ow_pk (hd_q A L T fr n) (fun w => w) i w = none) N (fun s hI => ?_) (fun w s w1 hI ih => ?_) 0 0 (by omega) ⟨by omega, rfl, rfl⟩
  · obtain ⟨_, i2, i3⟩ := hI
    rw [ow_pk_end i3] at hk
    refine cX11_heard_43 ⟨fun _ => ⟨fun q => ?_, fun q => ?_⟩, fun q => by omega⟩
    · rw [if_neg q] at hk; exact hk
    · rw [if_pos q, ← i2] at hk; exact hk
  · obtain ⟨w0, i2, i3⟩ := hI
    have cr := ow_ct_rg (q := hd_q A L T fr n) w0
    refine cX11_heard_43 ⟨fun q => by omega, fun _ => tX5_isReached h q3 q1 ⟨w0, w1⟩ r2 (fun y => ⟨fun z => absurd z (by decide), fun _ => ⟨fun z => ⟨⟨by omega, by omega⟩, ⟨by omega, by omega⟩, ih (s + 1) ⟨by omega, ?_, ?_⟩⟩, fun z => ?_⟩⟩) (fun y => ⟨fun _ => ⟨⟨by omega, by omega⟩, ih s ⟨by omega, ?_, ?_⟩⟩, fun z => absurd rfl z⟩)⟩
    · rw [ow_ctS w0, if_pos (show hd_q A L T fr n w = true from decide_eq_true y), i2]
    · exact ow_pkS w0 i3 (fun z' => z (by rw [i2]; exact z'.2))
    · rw [ow_pk_hit w0 i3 (decide_eq_true y) (by rw [← i2]; exact z) w1] at hk
      exact hk
    · rw [ow_ctS w0, if_neg (show ¬ hd_q A L T fr n w = true from fun z => y (of_decide_eq_true z)), i2]; omega
    · exact ow_pkS w0 i3 (fun z => y (of_decide_eq_true z.1))
theorem tX12_heard (h : em_ok A L N) (hc : cu_M N M T) {fr n i : Int} (h0 : ¬ ((0 ≤ fr ∧ fr < N) ∧ 0 ≤ n ∧ n ≤ 8) → K (-1) M) (hK : (0 ≤ fr ∧ fr < N) ∧ 0 ≤ n ∧ n ≤ 8 → ∀ M', ow_of [89, 90, 91, 92, 93, 94] [(83, 27), (83, 28)] M M' → K (hd_v A L N T fr n i) M') : ow_Sp C (EM A L N) (d + 8) mX12_heard (0, 0) [(3, 83), (0, fr), (0, n), (0, i)] M K := by
  have hN := em_Npos h
  have hN2 := h.2.2.2.2.2
  refine fX12_heard (tX12_isWord0 h (fun q => ⟨fun _ => h0 (fun z => q z.1), fun z => absurd rfl z⟩) (fun q1 => ⟨fun z => absurd z (by decide), fun _ => tX12_isIn (fun q => ⟨fun _ => h0 (fun z => q z.2), fun z => absurd rfl z⟩) (fun q3 => ⟨fun z => absurd z (by decide), fun _ => ⟨fun i0 => ?_, fun i0 => ?_⟩⟩)⟩))
  · refine tX12_rule hc (fun M1 o1 m1 => tX12_waysOf h m1 q1 ⟨by omega, by omega⟩ q3 (fun M2 o2 m2 f2 => ?_))
    have oo : ow_of [89, 90, 91, 92, 93, 94] [(83, 27), (83, 28)] M M2 := (o1.mono (fun c hc => by simp at hc; subst hc; decide) (fun x hx => Or.inr hx)).tr ((ow_of.off o2).mono (fun c hc => hc) (fun x hx => by simp at hx))
    have hk := hK ⟨q1, q3⟩ M2 oo
    unfold hd_v at hk
    refine ow_upto (S := Int) (P := fun w s => ow_At C (EM A L N) (d + 8) mX12_heard 44 [(0, (3, 83)), (3, (0, i)), (6, (0, s)), (7, (0, w))] [] (0, 0) M2 K) (I := fun w s => 0 ≤ w ∧ s = ow_ct (hd_q A L T fr n) w ∧ ow_pk (hd_q A L T fr n) (fun w => w) i w = none) N (fun s hI => ?_) (fun w s w1 hI ih => ?_) 0 0 (by omega) ⟨by omega, rfl, rfl⟩
    · obtain ⟨_, i2, i3⟩ := hI
      rw [ow_pk_end i3] at hk
      refine cX12_heard_44 ⟨fun _ => ⟨fun q => ?_, fun q => ?_⟩, fun q => by omega⟩
      · rw [if_neg q] at hk; exact hk
      · rw [if_pos q, ← i2] at hk; exact hk
    · obtain ⟨w0, i2, i3⟩ := hI
      have cr := ow_ct_rg (q := hd_q A L T fr n) w0
      have hlc := ow_lcq (a := bw A L T w n.toNat 0 fr 0) (b := 0)
      have hb := bw_rg (T := T) h (into := w) n.toNat 0 fr 0
      refine cX12_heard_44 ⟨fun q => by omega, fun _ => tX12_waysTo h (by omega) f2 ⟨w0, w1⟩ ⟨fun y' => ?_, fun y' => ?_⟩⟩
      · have y : 0 < bw A L T w n.toNat 0 fr 0 := by omega
        refine ⟨fun z => ⟨⟨by omega, by omega⟩, ⟨by omega, by omega⟩, ih (s + 1) ⟨by omega, ?_, ?_⟩⟩, fun z => ?_⟩
        · rw [ow_ctS w0, if_pos (show hd_q A L T fr n w = true from decide_eq_true y), i2]
        · exact ow_pkS w0 i3 (fun z' => z (by rw [i2]; exact z'.2))
        · rw [ow_pk_hit w0 i3 (decide_eq_true y) (by rw [← i2]; exact z) w1] at hk
          exact hk
      · have y : ¬ 0 < bw A L T w n.toNat 0 fr 0 := by omega
        refine ⟨⟨by omega, by omega⟩, ih s ⟨by omega, ?_, ?_⟩⟩
        · rw [ow_ctS w0, if_neg (show ¬ hd_q A L T fr n w = true from fun z => y (of_decide_eq_true z)), i2]; omega
        · exact ow_pkS w0 i3 (fun z => y (of_decide_eq_true z.1))
  · have hk := hK ⟨q1, q3⟩ M ow_of.rf
    unfold hd_v at hk
    rw [ow_pv_lo i0] at hk
    exact hk
end SPS
