/-! ===== a text: 0 numbers (0 clauses, 1 codes, 2 entries, 3 roads, 4 has may, 5, 6 its codes, 7 has weight, 8, 9 its codes, 10 uses hand), 1 sorts, 2, 3 what a clause says, 4 codes, 5, 6 entries, 7, 8 roads ===== -/
def ch_nm (hand bh place fr into : Int) : Int → Int := fun k => if k = 0 then place else if k = 1 then fr else if k = 2 then into else if k = 3 then hand else if k = 4 then bh - 1 else if bh = 0 then 0 else if place ≤ bh - 1 then bh - 1 - place else place - (bh - 1)
def ch_m (T : ow_M) (nm : Int → Int) : Int := (ev_run nm (T 4) (T 0 5) (T 0 6 - T 0 5).toNat).2 0
def ch_w (T : ow_M) (nm : Int → Int) : Int := (ev_run nm (T 4) (T 0 8) (T 0 9 - T 0 8).toNat).2 0
/-- the weight of a change, 0 where it may not be done -/
def ch_v (T : ow_M) (hand bh place fr into : Int) : Int := if T 0 4 = 1 ∧ ch_m T (ch_nm hand bh place fr into) = 0 then 0 else if T 0 7 = 1 then max 1 (min 9 (ch_w T (ch_nm hand bh place fr into))) else 1
def tx_fo (T : ow_M) : Prop := (T 0 4 = 0 ∨ T 0 4 = 1) ∧ (T 0 7 = 0 ∨ T 0 7 = 1) ∧ (T 0 10 = 0 ∨ T 0 10 = 1) ∧ (0 ≤ T 0 1 ∧ T 0 1 ≤ 300) ∧ (T 0 4 = 1 → 0 ≤ T 0 5 ∧ T 0 5 ≤ T 0 6 ∧ T 0 6 ≤ T 0 1 ∧ ck_all (T 4) (T 0 5) (T 0 6 - T 0 5).toNat ∧ ck_run (T 4) (T 0 5) (T 0 6 - T 0 5).toNat = (0, 1)) ∧ (T 0 7 = 1 → 0 ≤ T 0 8 ∧ T 0 8 ≤ T 0 9 ∧ T 0 9 ≤ T 0 1 ∧ ck_all (T 4) (T 0 8) (T 0 9 - T 0 8).toNat ∧ ck_run (T 4) (T 0 8) (T 0 9 - T 0 8).toNat = (1, 0)) ∧ (T 0 10 = 0 → ∀ k, 0 ≤ k → k < T 0 1 → T 4 k ≠ -4)
theorem ch_v_rg {T : ow_M} {hand bh place fr into : Int} : 0 ≤ ch_v T hand bh place fr into ∧ ch_v T hand bh place fr into ≤ 9 := by
  unfold ch_v
  split
  · omega
  · split <;> omega
def ch_in (hand bh place fr into : Int) : Prop := (0 ≤ hand ∧ hand < 8) ∧ (0 ≤ bh ∧ bh < 9) ∧ (0 ≤ place ∧ place < 8) ∧ (0 ≤ fr ∧ fr < 5) ∧ (0 ≤ into ∧ into < 5)
theorem ch_nm_ok {hand bh place fr into : Int} (h : ch_in hand bh place fr into) : ev_nm (ch_nm hand bh place fr into) := by
  intro k k0 k1
  unfold ch_in at h
  unfold ch_nm
  (repeat' split) <;> omega
/-! the reference's store of changes -/
def mc_x (hand bh place fr into : Int) : Int := ((hand * 9 + bh) * 8 + place) * 25 + 5 * fr + into
def mc_d (T : ow_M) (x : Int) : Int := ch_v T (x / 1800) (x / 200 % 9) (x / 25 % 8) (x / 5 % 5) (x % 5)
theorem mc_dx {T : ow_M} {hand bh place fr into : Int} (h : ch_in hand bh place fr into) : (0 ≤ mc_x hand bh place fr into ∧ mc_x hand bh place fr into < 14400) ∧ mc_d T (mc_x hand bh place fr into) = ch_v T hand bh place fr into := by
  unfold ch_in at h
  unfold mc_d mc_x
  refine ⟨by omega, ?_⟩
  rw [show (((hand * 9 + bh) * 8 + place) * 25 + 5 * fr + into) / 1800 = hand by omega, show (((hand * 9 + bh) * 8 + place) * 25 + 5 * fr + into) / 200 % 9 = bh by omega, show (((hand * 9 + bh) * 8 + place) * 25 + 5 * fr + into) / 25 % 8 = place by omega, show (((hand * 9 + bh) * 8 + place) * 25 + 5 * fr + into) / 5 % 5 = fr by omega, show (((hand * 9 + bh) * 8 + place) * 25 + 5 * fr + into) % 5 = into by omega]
/-- where the reference finds one of the formulas -/
def mc_at (M T : ow_M) (at_ hs a : Int) : Prop := (T 0 hs = 0 → M 83 at_ = -1) ∧ (T 0 hs = 1 → ∃ r k, M 84 1 = r ∧ (0 ≤ r ∧ r < 4) ∧ M 83 at_ = k ∧ (0 ≤ k ∧ k < 24) ∧ M 86 (680 * r + 1 + 3 * k + 1) = T 0 a ∧ M 86 (680 * r + 1 + 3 * k + 2) = T 0 (a + 1) ∧ ∀ i, T 0 a ≤ i → i < T 0 (a + 1) → M 86 (680 * r + 75 + 2 * i) = cm_o (T 4 i) ∧ M 86 (680 * r + 75 + 2 * i + 1) = cm_v (T 4 i))
def mc_ok (M T : ow_M) : Prop := tx_fo T ∧ mc_at M T 27 4 5 ∧ mc_at M T 28 7 8 ∧ ∀ x, 0 ≤ x → x < 14400 → M 92 x = -1 ∨ M 92 x = mc_d T x
theorem mc_at.fr {M M' T : ow_M} {at_ hs a : Int} {S : List Int} (h : mc_at M T at_ hs a) (o : ow_off S M M') (h1 : (83 : Int) ∉ S) (h2 : (84 : Int) ∉ S) (h3 : (86 : Int) ∉ S) : mc_at M' T at_ hs a := by
  refine ⟨fun q => by rw [o 83 h1]; exact h.1 q, fun q => ?_⟩
  obtain ⟨r, k, a1, a2, a3, a4, a5, a6, a7⟩ := h.2 q
  exact ⟨r, k, by rw [o 84 h2]; exact a1, a2, by rw [o 83 h1]; exact a3, a4, by rw [o 86 h3]; exact a5, by rw [o 86 h3]; exact a6, fun i i0 i1 => by rw [o 86 h3, o 86 h3]; exact a7 i i0 i1⟩
section TXS
variable {C : ow_C} {A L N : Int} {d : Nat} {M T : ow_M} {K : Int → ow_M → Prop}
theorem tX12_name (h : em_ok A L N) {hand w bh place into : Int} (hw : 0 ≤ w ∧ w < N) (hp : 0 ≤ place ∧ place < L) (hb : 0 ≤ bh ∧ bh < 9) (hK : ∀ M', ow_off [89] M M' → (∀ k, 0 ≤ k → k < 6 → M' 89 k = ch_nm hand bh place (em_dg A L w place) into k) → K 0 M') : ow_Sp C (EM A L N) (d + 2) mX12_name (0, 0) [(3, 83), (0, hand), (0, w), (0, bh - 1), (0, place), (0, into)] M K := by
  have hL := h.2.2.2.1
  refine fX12_name ?_
  intro N1 e1
  refine tX12_letterAt h hw hp ?_
  intro N2 e2 N3 e3 N4 e4 N5 e5
  have fin : ∀ v M', v = (if bh = 0 then 0 else if place ≤ bh - 1 then bh - 1 - place else place - (bh - 1)) → M' = ow_up N5 89 5 v → K 0 M' := by
    intro v M' hv e6
    refine hK M' ?_ (fun k k0 k1 => ?_)
    · rw [e6, e5, e4, e3, e2, e1]; exact (((((ow_off.rf.up (by decide)).up (by decide)).up (by decide)).up (by decide)).up (by decide)).up (by decide)
    · rw [e6, e5, e4, e3, e2, e1]
      have hk : k = 0 ∨ k = 1 ∨ k = 2 ∨ k = 3 ∨ k = 4 ∨ k = 5 := by omega
      rcases hk with e | e | e | e | e | e <;> subst e
      · rw [ow_upN (Or.inr (by decide)), ow_upN (Or.inr (by decide)), ow_upN (Or.inr (by decide)), ow_upN (Or.inr (by decide)), ow_upN (Or.inr (by decide)), ow_upS]; rfl
      · rw [ow_upN (Or.inr (by decide)), ow_upN (Or.inr (by decide)), ow_upN (Or.inr (by decide)), ow_upN (Or.inr (by decide)), ow_upS]; rfl
      · rw [ow_upN (Or.inr (by decide)), ow_upN (Or.inr (by decide)), ow_upN (Or.inr (by decide)), ow_upS]; rfl
      · rw [ow_upN (Or.inr (by decide)), ow_upN (Or.inr (by decide)), ow_upS]; rfl
      · rw [ow_upN (Or.inr (by decide)), ow_upS]; rfl
      · rw [ow_upS, hv]; rfl
  refine ⟨fun q => ⟨fun q2 => ⟨⟨by omega, by omega⟩, fun N7 e7 => fin _ N7 ?_ e7⟩, fun q2 => ⟨⟨by omega, by omega⟩, fun N7 e7 => fin _ N7 ?_ e7⟩⟩, fun q => fun N7 e7 => fin _ N7 ?_ e7⟩
  · rw [if_neg (by omega), if_pos q2]
  · rw [if_neg (by omega), if_neg (by omega)]
  · rw [if_pos (by omega)]
theorem tX12_weightNow {nm : Int → Int} (hnm : ev_nm nm) (hf : tx_fo T) (ha : mc_at M T 28 7 8) (hM : ∀ k, 0 ≤ k → k < 6 → M 89 k = nm k) (hK : ∀ M', ow_off [90, 91] M M' → K (if T 0 7 = 1 then max 1 (min 9 (ch_w T nm)) else 1) M') : ow_Sp C (EM A L N) (d + 3) mX12_weightNow (0, 0) [(3, 83)] M K := by
  obtain ⟨f1, f2, f3, f4, f5, f6, f7⟩ := hf
  rcases f2 with q | q
  · have e := ha.1 q
    refine fX12_weightNow ⟨fun z => by omega, fun _ => ?_⟩
    have := hK M ow_off.rf
    rw [if_neg (by omega)] at this
    exact this
  · obtain ⟨r, k, a1, a2, a3, a4, a5, a6, a7⟩ := ha.2 q
    obtain ⟨g1, g2, g3, g4, g5⟩ := f6 q
    refine fX12_weightNow ⟨fun _ => ?_, fun z => by omega⟩
    rw [a3]
    refine tX12_work a1 a2 a4 hnm hM g1 g2 (by omega) a5 a6 a7 g4 (fun M' o w => ?_)
    have hin := ev_run_in hnm g4 _ (Nat.le_refl _)
    rw [g5] at w hin
    have e0 := w.1 0 (by decide) (by decide)
    rw [show (0 : Int) + 0 = 0 from rfl] at e0
    have hr := hin.2.2.2.2 0 (by decide) (by decide)
    rw [e0]
    refine tX12_held hr ?_
    have := hK M' o
    rw [if_pos q] at this
    exact this
theorem tX12_changeBy (h : em_ok A L N) (hm : mc_ok M T) {hand w bh place into : Int} (hh : 0 ≤ hand ∧ hand < 8) (hw : 0 ≤ w ∧ w < N) (hp : 0 ≤ place ∧ place < L) (hb : 0 ≤ bh ∧ bh < 9) (hi : 0 ≤ into ∧ into < A) (hK : ∀ M', ow_off [89, 90, 91, 92] M M' → mc_ok M' T → K (if em_dg A L w place = into then 0 else ch_v T hand bh place (em_dg A L w place) into) M') : ow_Sp C (EM A L N) (d + 4) mX12_changeBy (0, 0) [(3, 83), (0, hand), (0, w), (0, bh - 1), (0, place), (0, into)] M K := by
  have hL := h.2.2.2.1
  have hA := h.2.1
  have hdg := em_dg_rg h w place
  have hin : ch_in hand bh place (em_dg A L w place) into := ⟨hh, hb, by omega, by omega, by omega⟩
  obtain ⟨hx, hd⟩ := mc_dx (T := T) hin
  have hnm := ch_nm_ok hin
  obtain ⟨m1, m2, m3, m4⟩ := hm
  refine fX12_changeBy (tX12_letterAt h hw hp ⟨fun hne => ?_, fun he => ?_⟩)
  · refine ⟨⟨by omega, by omega⟩, ⟨by omega, by omega⟩, ⟨by omega, by omega⟩, ⟨by omega, by omega⟩, ⟨by omega, by omega⟩, ⟨by omega, by omega⟩, tX12_letterAt h hw hp ?_⟩
    have ex : ((hand * 9 + (bh - 1) + 1) * 8 + place) * 25 + 5 * em_dg A L w place + into = mc_x hand bh place (em_dg A L w place) into := by unfold mc_x; omega
    have ex2 : ow_I ((((hand * 9 + (bh - 1) + 1) * 8 + place) * 25) + 5 * em_dg A L w place) := ⟨by omega, by omega⟩
    refine ⟨⟨by omega, by omega⟩, ex2, ?_⟩
    rw [ex]
    have fin : ∀ v, v = ch_v T hand bh place (em_dg A L w place) into → ∀ M1, ow_off [89, 90, 91, 92] M M1 → (∀ x, M1 92 x = M 92 x) → ∀ M2, M2 = ow_up M1 92 (mc_x hand bh place (em_dg A L w place) into) v → K (M2 92 (mc_x hand bh place (em_dg A L w place) into)) M2 := by
      intro v hv M1 o1 e92 M2 e2
      rw [show M2 92 (mc_x hand bh place (em_dg A L w place) into) = v by rw [e2, ow_upS]]
      have o2 : ow_off [89, 90, 91, 92] M M2 := by rw [e2]; exact o1.up (by decide)
      have := hK M2 o2 ⟨m1, m2.fr o2 (by decide) (by decide) (by decide), m3.fr o2 (by decide) (by decide) (by decide), fun x x0 x1 => ?_⟩
      · rw [if_neg hne, ← hv] at this
        exact this
      · by_cases e : x = mc_x hand bh place (em_dg A L w place) into
        · refine Or.inr ?_
          rw [e, e2, ow_upS, hd]; exact hv
        · rw [e2, ow_upN (Or.inr e), e92]; exact m4 x x0 x1
    refine ⟨⟨by omega, by omega⟩, hx, fun hlt => ?_, fun hge => ?_⟩
    · refine tX12_name h hw hp hb (fun M1 o1 nm1 => ?_)
      have a1 := m2.fr o1 (by decide) (by decide) (by decide)
      have a2 := m3.fr o1 (by decide) (by decide) (by decide)
      have o1' : ow_off [89, 90, 91, 92] M M1 := o1.mono (fun c hc => by simp at hc; subst hc; decide)
      have e1 : ∀ x, M1 92 x = M 92 x := o1 92 (by decide)
      -- with the may decided
      have wt : ∀ M2, ow_off [90, 91] M1 M2 → ¬ (T 0 4 = 1 ∧ ch_m T (ch_nm hand bh place (em_dg A L w place) into) = 0) → ow_Sp C (EM A L N) (d + 3) mX12_weightNow (0, 0) [(3, 83)] M2 (fun r2 N2 => (0 ≤ mc_x hand bh place (em_dg A L w place) into ∧ mc_x hand bh place (em_dg A L w place) into < 14400) ∧ ∀ N3, N3 = ow_up N2 92 (mc_x hand bh place (em_dg A L w place) into) r2 → K (N3 92 (mc_x hand bh place (em_dg A L w place) into)) N3) := by
        intro M2 o2 hmay
        refine tX12_weightNow hnm m1 (a2.fr o2 (by decide) (by decide) (by decide)) (fun k k0 k1 => by rw [o2 89 (by decide)]; exact nm1 k k0 k1) (fun M3 o3 => ⟨hx, fin _ ?_ M3 ?_ ?_⟩)
        · unfold ch_v; rw [if_neg hmay]
        · exact o1'.tr ((o2.tr o3).mono (fun c hc => by simp at hc; rcases hc with e | e <;> subst e <;> decide))
        · intro x; rw [o3 92 (by decide), o2 92 (by decide)]; exact e1 x
      rcases m1.1 with q | q
      · have ea := a1.1 q
        refine ⟨fun _ => cX12_changeBy_101 ⟨fun z => absurd z (by decide), fun _ => wt M1 ow_off.rf (fun z => by omega)⟩, fun z => by omega⟩
      · obtain ⟨r, k, b1, b2, b3, b4, b5, b6, b7⟩ := a1.2 q
        obtain ⟨g1, g2, g3, g4, g5⟩ := m1.2.2.2.2.1 q
        have f4 := m1.2.2.2.1
        refine ⟨fun z => by omega, fun _ => ?_⟩
        rw [b3]
        refine tX12_work b1 b2 b4 hnm nm1 g1 g2 (by omega) b5 b6 b7 g4 (fun M2 o2 w2 => ?_)
        rw [g5] at w2
        have e0 : M2 91 0 = ch_m T (ch_nm hand bh place (em_dg A L w place) into) := w2.2 0 (by decide) (by decide)
        rw [e0]
        refine cX12_changeBy_101 ⟨fun z => ⟨hx, fin 0 ?_ M2 ?_ ?_⟩, fun z => wt M2 o2 (fun y => z y.2)⟩
        · unfold ch_v; rw [if_pos ⟨q, z⟩]
        · exact o1'.tr (o2.mono (fun c hc => by simp at hc; rcases hc with e | e <;> subst e <;> decide))
        · intro x; rw [o2 92 (by decide)]; exact e1 x
    · have e : M 92 (mc_x hand bh place (em_dg A L w place) into) = ch_v T hand bh place (em_dg A L w place) into := by
        rcases m4 _ hx.1 hx.2 with e | e
        · omega
        · rw [e]; exact hd
      rw [e]
      have := hK M ow_off.rf ⟨m1, m2, m3, m4⟩
      rw [if_neg hne] at this
      exact this
  · have := hK M ow_off.rf ⟨m1, m2, m3, m4⟩
    rw [if_pos he] at this
    exact this
theorem tX12_may (h : em_ok A L N) (hm : mc_ok M T) {hand w bh place into : Int} (hh : 0 ≤ hand ∧ hand < 8) (hw : 0 ≤ w ∧ w < N) (hp : 0 ≤ place ∧ place < L) (hb : 0 ≤ bh ∧ bh < 9) (hi : 0 ≤ into ∧ into < A) (hK : ∀ M', ow_off [89, 90, 91, 92] M M' → mc_ok M' T → K (if em_dg A L w place ≠ into ∧ 0 < ch_v T hand bh place (em_dg A L w place) into then 1 else 0) M') : ow_Sp C (EM A L N) (d + 5) mX12_may (0, 0) [(3, 83), (0, hand), (0, w), (0, bh - 1), (0, place), (0, into)] M K := by
  refine fX12_may (tX12_changeBy h hm hh hw hp hb hi (fun M' o m' => ?_))
  have := hK M' o m'
  have g := ch_v_rg (T := T) (hand := hand) (bh := bh) (place := place) (fr := em_dg A L w place) (into := into)
  by_cases e : em_dg A L w place = into
  · rw [if_pos e]
    rw [if_neg (fun z => z.1 e)] at this
    exact ⟨fun _ => this, fun z => absurd z (by decide)⟩
  · rw [if_neg e]
    refine ⟨fun z => ?_, fun z => ?_⟩
    · rw [if_neg (fun y => by omega)] at this; exact this
    · rw [if_pos ⟨e, z⟩] at this; exact this
end TXS
