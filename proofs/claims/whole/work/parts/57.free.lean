/-! ===== free changes: what so many hands can mend ===== -/
theorem ow_ct_one {q q' : Int → Bool} {n p : Int} (hp : 0 ≤ p ∧ p < n) (hq : ∀ i, 0 ≤ i → i < n → i ≠ p → q' i = q i) : ow_ct q' n + (if q p = true then 1 else 0) = ow_ct q n + (if q' p = true then 1 else 0) := by
  have key := ow_ind (P := fun k => k ≤ n → ow_ct q' k + (if p < k then (if q p = true then 1 else 0) else 0) = ow_ct q k + (if p < k then (if q' p = true then 1 else 0) else 0)) (fun _ => by rw [ow_ct0, ow_ct0, if_neg (by omega), if_neg (by omega)]) (fun k k0 ih hk => by
    have h1 := ih (by omega)
    rw [ow_ctS k0, ow_ctS k0]
    by_cases e : k = p
    · subst e
      rw [if_neg (by omega), if_neg (by omega)] at h1
      rw [if_pos (show k < k + 1 by omega), if_pos (show k < k + 1 by omega)]
      omega
    · rw [hq k k0 (by omega) e]
      by_cases e2 : p < k
      · rw [if_pos e2, if_pos e2] at h1
        rw [if_pos (show p < k + 1 by omega), if_pos (show p < k + 1 by omega)]
        omega
      · rw [if_neg e2, if_neg e2] at h1
        rw [if_neg (show ¬ p < k + 1 by omega), if_neg (show ¬ p < k + 1 by omega)]
        omega) n (by omega) (Int.le_refl n)
  rw [if_pos hp.2, if_pos hp.2] at key
  exact key
theorem ow_ct_z {q : Int → Bool} {n : Int} (hn : 0 ≤ n) : ow_ct q n = 0 ↔ ∀ i, 0 ≤ i → i < n → q i ≠ true := by
  have key := ow_ind (P := fun k => ow_ct q k = 0 ↔ ∀ i, 0 ≤ i → i < k → q i ≠ true) ⟨fun _ i i0 i1 => by omega, fun _ => rfl⟩ (fun k k0 ih => by
    have h1 := (ow_ct_rg (q := q) k0).1
    rw [ow_ctS k0]
    refine ⟨fun z i i0 i1 => ?_, fun z => ?_⟩
    · by_cases e : q k = true
      · rw [if_pos e] at z; omega
      · rw [if_neg e] at z
        by_cases e2 : i = k
        · rw [e2]; exact e
        · exact ih.1 (by omega) i i0 (by omega)
    · rw [if_neg (z k k0 (by omega)), ih.2 (fun i i0 i1 => z i i0 (by omega))]
      rfl) n hn
  exact key
section FRS
variable {C : ow_C} {A L N : Int} {d : Nat} {M T : ow_M} {K : Int → ow_M → Prop}
theorem em_ext (h : em_ok A L N) {x y : Int} (hx : 0 ≤ x ∧ x < N) (hy : 0 ≤ y ∧ y < N) (hd : ∀ p, 0 ≤ p → p < L → em_dg A L x p = em_dg A L y p) : x = y := by
  have hL3 := h.2.2.1
  have hA := h.1
  have hN : N = em_pw A L := h.2.2.2.2.1
  have key := ow_ind (P := fun k => k ≤ L → x / em_pw A (L - k) = y / em_pw A (L - k)) (fun _ => by
    rw [show L - 0 = L by omega, ← hN, Int.ediv_eq_zero_of_lt hx.1 hx.2, Int.ediv_eq_zero_of_lt hy.1 hy.2]) (fun k k0 ih hk => by
    have h1 := ih (by omega)
    have hP := em_pwp h (L - 1 - k)
    have e : em_pw A (L - k) = em_pw A (L - 1 - k) * A := by
      rw [show L - k = (L - 1 - k) + 1 by omega]; exact em_pw_s A (by omega)
    rw [e, ← Int.ediv_ediv_of_nonneg (by omega), ← Int.ediv_ediv_of_nonneg (by omega)] at h1
    have d1 : x / em_pw A (L - 1 - k) % A = y / em_pw A (L - 1 - k) % A := hd k k0 (by omega)
    have g1 := Int.mul_ediv_add_emod (x / em_pw A (L - 1 - k)) A
    have g2 := Int.mul_ediv_add_emod (y / em_pw A (L - 1 - k)) A
    rw [h1] at g1
    rw [show L - (k + 1) = L - 1 - k by omega]
    omega) L (by omega) (Int.le_refl L)
  rw [show L - L = 0 by omega, em_pw0, Int.ediv_one, Int.ediv_one] at key
  exact key
theorem ul_0 (h : em_ok A L N) {x y : Int} (hx : 0 ≤ x ∧ x < N) (hy : 0 ≤ y ∧ y < N) : em_ul A L x y = 0 ↔ x = y := by
  have hL3 := h.2.2.1
  unfold em_ul
  rw [ow_ct_z (by omega)]
  refine ⟨fun z => em_ext h hx hy (fun p p0 p1 => ?_), fun e p p0 p1 => ?_⟩
  · refine Classical.byContradiction (fun hne => z p p0 p1 (decide_eq_true hne))
  · intro z
    exact of_decide_eq_true z (by rw [e])
theorem ul_ch (h : em_ok A L N) {w y p c : Int} (hp : 0 ≤ p ∧ p < L) (hc : 0 ≤ c ∧ c < A) : em_ul A L (em_ch A L w p c) y + (if em_dg A L w p ≠ em_dg A L y p then 1 else 0) = em_ul A L w y + (if c ≠ em_dg A L y p then 1 else 0) := by
  have := ow_ct_one (q := em_ulq A L w y) (q' := em_ulq A L (em_ch A L w p c) y) hp (fun i i0 i1 hne => by
    unfold em_ulq
    rw [em_ch_ne h hp ⟨i0, i1⟩ hne hc])
  unfold em_ulq at this
  simp only [decide_eq_true_eq] at this
  rw [em_ch_dg h hc] at this
  exact this
theorem fr_ch {hand bh p f i : Int} : ch_v tx_0 hand bh p f i = 1 := by
  unfold ch_v
  rw [if_neg (fun z => absurd z.1 (by decide)), if_neg (by decide)]
theorem fr_cw {hand w b z : Int} : 0 < cw A L tx_0 hand w b z ↔ em_dg A L w (z / A) ≠ z % A := by
  unfold cw
  rw [fr_ch]
  by_cases e : em_dg A L w (z / A) = z % A
  · rw [if_pos e]; exact ⟨fun q => absurd q (by decide), fun q => absurd e q⟩
  · rw [if_neg e]; exact ⟨fun _ => e, fun _ => by decide⟩
def ct_k (A u n : Int) : Prop := u ≤ n ∧ (A = 2 → (n - u) % 2 = 0) ∧ (A ≠ 2 → 0 < u ∨ n ≠ 1)
theorem fr_bw (h : em_ok A L N) {into : Int} (hi : 0 ≤ into ∧ into < N) : ∀ (k : Nat) (hand w b : Int), (0 ≤ w ∧ w < N) → (0 < bw A L tx_0 into k hand w b ↔ ct_k A (em_ul A L w into) k) := by
  have hL3 := h.2.2.1
  have hA := h.2.1
  have hA1 := h.1
  intro k
  induction k with
  | zero =>
    intro hand w b hw
    have u0 := ul_0 h hw hi
    have ur := ow_ct_rg (q := em_ulq A L w into) (i := L) (by omega)
    have ur' : 0 ≤ em_ul A L w into := ur.1
    have e : bw A L tx_0 into 0 hand w b = if w = into then 1 else 0 := rfl
    rw [e]
    unfold ct_k
    by_cases ew : w = into
    · rw [if_pos ew, u0.2 ew]
      exact ⟨fun _ => ⟨by decide, fun _ => by decide, fun _ => Or.inr (by decide)⟩, fun _ => by decide⟩
    · rw [if_neg ew]
      exact ⟨fun q => absurd q (by decide), fun q => absurd (u0.1 (by have := q.1; omega)) ew⟩
  | succ k ih =>
    intro hand w b hw
    have ur : 0 ≤ em_ul A L w into := (ow_ct_rg (q := em_ulq A L w into) (i := L) (by omega)).1
    rw [bw_pos h]
    have ek : ((k + 1 : Nat) : Int) = (k : Int) + 1 := by omega
    rw [ek]
    refine ⟨fun ⟨z, z0, z1, z2, z3⟩ => ?_, fun q => ?_⟩
    · have c2 : 0 ≤ z / A := Int.ediv_nonneg z0 (by omega)
      have c3 : z / A < L := Int.ediv_lt_of_lt_mul (by omega) z1
      have c4 := Int.emod_nonneg z (show A ≠ 0 by omega)
      have c5 := Int.emod_lt_of_pos z (show 0 < A by omega)
      have hr := em_ch_rg h hw ⟨c2, c3⟩ ⟨c4, c5⟩
      have e1 := (ih (hand + 1) _ (z / A + 1) hr).1 z3
      have e2 := fr_cw.1 z2
      have e3 := ul_ch h (w := w) (y := into) (p := z / A) (c := z % A) ⟨c2, c3⟩ ⟨c4, c5⟩
      have d1 := em_dg_rg h w (z / A)
      have d2 := em_dg_rg h into (z / A)
      have up : 0 ≤ em_ul A L (em_ch A L w (z / A) (z % A)) into := (ow_ct_rg (q := em_ulq A L (em_ch A L w (z / A) (z % A)) into) (i := L) (by omega)).1
      obtain ⟨k1, k2, k3⟩ := e1
      unfold ct_k
      by_cases g1 : em_dg A L w (z / A) = em_dg A L into (z / A)
      · have g2 : z % A ≠ em_dg A L into (z / A) := fun y => e2 (g1.trans y.symm)
        rw [if_neg (fun y => y g1), if_pos g2] at e3
        exact ⟨by omega, fun y => by have := k2 y; omega, fun y => by have := k3 y; omega⟩
      · rw [if_pos g1] at e3
        by_cases g2 : z % A = em_dg A L into (z / A)
        · rw [if_neg (fun y => y g2)] at e3
          exact ⟨by omega, fun y => by have := k2 y; omega, fun y => by have := k3 y; omega⟩
        · rw [if_pos g2] at e3
          have hu : em_ul A L w into ≠ 0 := fun y => g1 (by rw [(ul_0 h hw hi).1 y])
          exact ⟨by omega, fun y => by omega, fun y => by omega⟩
    · obtain ⟨k1, k2, k3⟩ := q
      -- a change to a letter at a place
      have go : ∀ p c, (0 ≤ p ∧ p < L) → (0 ≤ c ∧ c < A) → em_dg A L w p ≠ c → ct_k A (em_ul A L (em_ch A L w p c) into) k → ∃ z, 0 ≤ z ∧ z < L * A ∧ 0 < cw A L tx_0 hand w b z ∧ 0 < bw A L tx_0 into k (hand + 1) (em_ch A L w (z / A) (z % A)) (z / A + 1) := by
        intro p c hp hc hne hk
        obtain ⟨a1, a2, a3, a4⟩ := vx_b hp hc
        refine ⟨p * A + c, a1, a2, ?_, ?_⟩
        · rw [fr_cw, a3, a4]; exact hne
        · rw [a3, a4]; exact (ih (hand + 1) _ (p + 1) (em_ch_rg h hw hp hc)).2 hk
      by_cases u0 : em_ul A L w into = 0
      · have ew := (ul_0 h hw hi).1 u0
        have d1 := em_dg_rg h w 0
        have hne : ∃ c, (0 ≤ c ∧ c < A) ∧ em_dg A L w 0 ≠ c := by
          by_cases e : em_dg A L w 0 = 0
          · exact ⟨1, ⟨by omega, by omega⟩, by omega⟩
          · exact ⟨0, ⟨by omega, by omega⟩, e⟩
        obtain ⟨c, hc, hne⟩ := hne
        have e3 := ul_ch h (w := w) (y := into) (p := 0) (c := c) ⟨by omega, by omega⟩ hc
        rw [if_neg (fun y => y (by rw [ew])), if_pos (fun y => hne (by rw [ew, y]))] at e3
        refine go 0 c ⟨by omega, by omega⟩ hc hne ⟨?_, fun y => by have := k2 y; omega, fun y => by omega⟩
        by_cases ea : A = 2
        · have := k2 ea; omega
        · have := k3 ea; omega
      · have hex : ∃ p, 0 ≤ p ∧ p < L ∧ em_ulq A L w into p = true := by
          refine Classical.byContradiction (fun hno => u0 ?_)
          exact (ow_ct_z (by omega)).2 (fun i i0 i1 y => hno ⟨i, i0, i1, y⟩)
        obtain ⟨p, p0, p1, p2⟩ := hex
        have p3 : em_dg A L w p ≠ em_dg A L into p := of_decide_eq_true p2
        have d1 := em_dg_rg h w p
        have d2 := em_dg_rg h into p
        by_cases hs : A ≠ 2 ∧ em_ul A L w into = 1 ∧ (k : Int) = 1
        · have hc : ∃ c, (0 ≤ c ∧ c < A) ∧ em_dg A L w p ≠ c ∧ c ≠ em_dg A L into p := by
            by_cases e0 : em_dg A L w p ≠ 0 ∧ em_dg A L into p ≠ 0
            · exact ⟨0, ⟨by omega, by omega⟩, e0.1, fun y => e0.2 y.symm⟩
            · by_cases e1 : em_dg A L w p ≠ 1 ∧ em_dg A L into p ≠ 1
              · exact ⟨1, ⟨by omega, by omega⟩, e1.1, fun y => e1.2 y.symm⟩
              · exact ⟨2, ⟨by omega, by omega⟩, by omega, by omega⟩
          obtain ⟨c, hc, hne, hn2⟩ := hc
          have e3 := ul_ch h (w := w) (y := into) (p := p) (c := c) ⟨p0, p1⟩ hc
          rw [if_pos p3, if_pos hn2] at e3
          exact go p c ⟨p0, p1⟩ hc hne ⟨by omega, fun y => absurd y hs.1, fun y => by omega⟩
        · have e3 := ul_ch h (w := w) (y := into) (p := p) (c := em_dg A L into p) ⟨p0, p1⟩ d2
          rw [if_pos p3, if_neg (fun y => y rfl)] at e3
          refine go p _ ⟨p0, p1⟩ d2 p3 ⟨by omega, fun y => by have := k2 y; omega, fun y => ?_⟩
          have : ¬ (em_ul A L w into = 1 ∧ (k : Int) = 1) := fun z => hs ⟨y, z⟩
          omega
theorem bw_free (h : em_ok A L N) {into : Int} : ∀ (k : Nat) (hand w b : Int), 0 < bw A L T into k hand w b → 0 < bw A L tx_0 into k hand w b := by
  intro k
  induction k with
  | zero => intro hand w b q; exact q
  | succ k ih =>
    intro hand w b q
    obtain ⟨z, z0, z1, z2, z3⟩ := (bw_pos h).1 q
    refine (bw_pos h).2 ⟨z, z0, z1, ?_, ih _ _ _ z3⟩
    rw [fr_cw]
    intro e
    unfold cw at z2
    rw [if_pos e] at z2
    exact absurd z2 (by decide)
theorem tX10_canTurn {u n : Int} (hu : 0 ≤ u ∧ u ≤ 8) (hn : 0 ≤ n ∧ n ≤ 8) (h1 : ct_k A u n → K 1 M) (h2 : ¬ ct_k A u n → K 0 M) : ow_Sp C (EM A L N) d mX10_canTurn (0, 0) [(3, 3), (0, u), (0, n)] M K := by
  refine fX10_canTurn ⟨fun q => ⟨fun a => ⟨fun b => h1 ⟨q, fun e => absurd e a, fun _ => Or.inl b⟩, fun b => ⟨fun c => h2 (fun z => by have := z.2.2 a; omega), fun c => h1 ⟨q, fun e => absurd e a, fun _ => Or.inr c⟩⟩⟩, fun a => ?_⟩, fun q => h2 (fun z => by have := z.1; omega)⟩
  rw [em_tdiv (by omega), em_tmod (by omega)]
  refine ⟨⟨by omega, by omega⟩, by decide, ⟨by omega, by omega⟩, ⟨by omega, by omega⟩, fun c => h2 (fun z => c (z.2.1 a)), fun c => h1 ⟨q, fun _ => c, fun b => absurd a b⟩⟩
theorem tX11_bars (h : em_ok A L N) (hc : cu_C N M T) (hv : vw_R A L T M) {fr into n : Int} (h0 : ¬ as_ok N fr into n → K (-1) M) (hK : as_ok N fr into n → ∀ M', ow_of [60, 61, 62, 63, 67, 68, 69, 70, 71, 72, 73, 74, 75] [(59, 2), (58, 5)] M M' → vw_R A L T M' → K (br_v A L T fr into n) M') : ow_Sp C (EM A L N) (d + 6) mX11_bars (0, 0) [(3, 0), (0, fr), (0, into), (0, n)] M K := by
  have hL3 := h.2.2.1
  have hL := h.2.2.2.1
  refine fX11_bars (tX10_isWord (fun q => ⟨fun _ => h0 (fun z => q z.1.1), fun z => absurd rfl z⟩) (fun q1 => ⟨fun z => absurd z (by decide), fun _ => tX10_isWord (fun q => ⟨fun _ => h0 (fun z => q z.1.2), fun z => absurd rfl z⟩) (fun q2 => ⟨fun z => absurd z (by decide), fun _ => tX11_isHands (fun q => ⟨fun z => absurd rfl z, fun _ => h0 (fun z => q z.2)⟩) (fun q3 => ⟨fun _ => ?_, fun z => absurd z (by decide)⟩)⟩)⟩))
  have ur := ow_ct_rg (q := em_ulq A L fr into) (i := L) (by omega)
  have ur' : 0 ≤ em_ul A L fr into ∧ em_ul A L fr into ≤ L := ur
  have fb := fr_bw h q2 n.toNat 0 fr 0 q1
  rw [show ((n.toNat : Nat) : Int) = n by omega] at fb
  refine tX10_unlike h q1 q2 (tX10_canTurn ⟨ur'.1, by omega⟩ q3 (fun ct => ⟨fun _ => ?_, fun z => absurd z (by decide)⟩) (fun ct => ⟨fun z => absurd rfl z, fun _ => ?_⟩))
  · refine tX9_prepare h hc hv q3 (fun M1 o1 v1 t1 => tX5_trace h ⟨q3.1, Int.le_refl n, q3.2⟩ q2 t1 (fun M2 o2 r2 => ?_))
    have oo := pt_of o1 o2
    have v2 : vw_R A L T M2 := vw_Rb v1 (ow_of.off o2) (by decide) (by decide) (by decide) (by decide) (by decide) (by decide)
    have hk := hK ⟨⟨q1, q2⟩, q3⟩ M2 oo v2
    have tb := td_bw (A := A) (L := L) (T := T) (into := into) (n := n) (hand := 0) (w := fr) (b := 0) ⟨by omega, by omega⟩
    rw [show n - 0 = n by omega] at tb
    unfold br_v at hk
    refine tX5_leads h (r2 0 (by omega) q3.1) q1 (fun z => ⟨fun y => absurd y (by decide), fun _ => ?_⟩) (fun z => ⟨fun _ => ?_, fun y => absurd rfl y⟩)
    · rw [if_pos (tb.1 z)] at hk; exact hk
    · rw [if_neg (fun y => z (tb.2 y)), if_pos (fb.2 ct)] at hk; exact hk
  · have hk := hK ⟨⟨q1, q2⟩, q3⟩ M ow_of.rf hv
    unfold br_v at hk
    have nf : ¬ 0 < bw A L tx_0 into n.toNat 0 fr 0 := fun z => ct (fb.1 z)
    rw [if_neg (fun z => nf (bw_free h _ _ _ _ z)), if_neg nf] at hk
    exact hk
end FRS
