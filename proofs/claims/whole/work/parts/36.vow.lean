/-! ===== the class's tables of changes ===== -/
theorem vx_b {a b X Y : Int} (ha : 0 ≤ a ∧ a < X) (hb : 0 ≤ b ∧ b < Y) : 0 ≤ a * Y + b ∧ a * Y + b < X * Y ∧ (a * Y + b) % Y = b ∧ (a * Y + b) / Y = a := by
  have g := Int.mul_le_mul_of_nonneg_right (show a + 1 ≤ X by omega) (show 0 ≤ Y by omega)
  rw [Int.add_mul] at g
  have g2 := Int.mul_nonneg ha.1 (show 0 ≤ Y by omega)
  refine ⟨by omega, by omega, ?_, ?_⟩
  · rw [Int.add_comm, Int.add_mul_emod_self_right]; exact Int.emod_eq_of_lt hb.1 hb.2
  · rw [Int.add_comm, Int.add_mul_ediv_right _ _ (by omega), Int.ediv_eq_zero_of_lt hb.1 hb.2]; omega
def vx (A L h p f i : Int) : Int := ((h * L + p) * A + f) * A + i
def vx_v (A L : Int) (T : ow_M) (x k : Int) : Int := ch_v T (x / A / A / L) k (x / A / A % L) (x / A % A) (x % A)
theorem vx_d {A L h p f i : Int} (hh : 0 ≤ h) (hp : 0 ≤ p ∧ p < L) (hf : 0 ≤ f ∧ f < A) (hi : 0 ≤ i ∧ i < A) : vx A L h p f i % A = i ∧ vx A L h p f i / A % A = f ∧ vx A L h p f i / A / A % L = p ∧ vx A L h p f i / A / A / L = h := by
  obtain ⟨a1, a2, a3, a4⟩ := vx_b (a := h) (X := h + 1) ⟨hh, by omega⟩ hp
  obtain ⟨b1, b2, b3, b4⟩ := vx_b (a := h * L + p) (X := h * L + p + 1) ⟨a1, by omega⟩ hf
  obtain ⟨c1, c2, c3, c4⟩ := vx_b (a := (h * L + p) * A + f) (X := (h * L + p) * A + f + 1) ⟨b1, by omega⟩ hi
  unfold vx
  rw [c3, c4, b3, b4, a3, a4]
  exact ⟨rfl, rfl, rfl, rfl⟩
theorem vx_rg {A L h p f i H : Int} (hh : 0 ≤ h ∧ h < H) (hp : 0 ≤ p ∧ p < L) (hf : 0 ≤ f ∧ f < A) (hi : 0 ≤ i ∧ i < A) : 0 ≤ vx A L h p f i ∧ vx A L h p f i < H * L * A * A := by
  have a := vx_b hh hp
  have b := vx_b ⟨a.1, a.2.1⟩ hf
  have c := vx_b ⟨b.1, b.2.1⟩ hi
  exact ⟨c.1, c.2.1⟩
theorem vx_D {A L N : Int} (h : em_ok A L N) : (4 ≤ L * A ∧ L * A ≤ 40) ∧ (8 ≤ L * A * A ∧ L * A * A ≤ 200) ∧ 8 * L * A * A = 8 * (L * A * A) := by
  obtain ⟨h1, h2, h3, h4, h5, h6⟩ := h
  have a := em_bd (a := L) (x := 8) (b := A) (y := 5) (by omega) h4 (by omega) h2
  have a' := em_bd (a := 2) (x := L) (b := 2) (y := A) (by omega) h3 (by omega) h1
  have b := em_bd (a := L * A) (x := 40) (b := A) (y := 5) (by omega) (by omega) (by omega) h2
  have b' := em_bd (a := 4) (x := L * A) (b := 2) (y := A) (by omega) (by omega) (by omega) h1
  exact ⟨by omega, by omega, by rw [Int.mul_assoc, Int.mul_assoc, Int.mul_assoc]⟩
/-- the entry of one change -/
def vw_e (A L : Int) (T M : ow_M) (x : Int) : Prop := x / A % A ≠ x % A → (∀ k, 0 ≤ k → k < 32 → ow_bt (M 62 x) k = decide (k ≤ L ∧ 0 < vx_v A L T x k)) ∧ ∀ k, 0 ≤ k → k ≤ L → M 63 (x * (L + 1) + k) = vx_v A L T x k
def vw_T (A L : Int) (T M : ow_M) (n : Int) : Prop := ∀ x, 0 ≤ x → x < n → vw_e A L T M x
/-- a text without the hand's number -/
theorem ev_run_cg {nm nm' f : Int → Int} {a : Int} (k : Nat) (h : ∀ j : Nat, j < k → f (a + j) < 0 → nm (-1 - f (a + j)) = nm' (-1 - f (a + j))) : ev_run nm f a k = ev_run nm' f a k := by
  induction k with
  | zero => rfl
  | succ k ih =>
    show ev_st nm (f (a + k)) (ev_run nm f a k) = ev_st nm' (f (a + k)) (ev_run nm' f a k)
    rw [ih (fun j hj => h j (by omega))]
    unfold ev_st
    by_cases q : 0 ≤ f (a + k)
    · rw [if_pos q, if_pos q]
    · rw [if_neg q, if_neg q, h k (by omega) (by omega)]
theorem ch_hand {T : ow_M} (hf : tx_fo T) (h0 : T 0 10 = 0) {hand bh place fr into : Int} : ch_v T hand bh place fr into = ch_v T 0 bh place fr into := by
  obtain ⟨f1, f2, f3, f4, f5, f6, f7⟩ := hf
  have key : ∀ c, c ≠ -4 → ch_nm hand bh place fr into (-1 - c) = ch_nm 0 bh place fr into (-1 - c) := by
    intro c hc
    unfold ch_nm
    by_cases e0 : -1 - c = 0
    · rw [if_pos e0, if_pos e0]
    · by_cases e1 : -1 - c = 1
      · rw [if_neg e0, if_neg e0, if_pos e1, if_pos e1]
      · by_cases e2 : -1 - c = 2
        · rw [if_neg e0, if_neg e0, if_neg e1, if_neg e1, if_pos e2, if_pos e2]
        · have e3 : ¬ (-1 - c = 3) := by omega
          rw [if_neg e0, if_neg e0, if_neg e1, if_neg e1, if_neg e2, if_neg e2, if_neg e3, if_neg e3]
  unfold ch_v
  have em : T 0 4 = 1 → ch_m T (ch_nm hand bh place fr into) = ch_m T (ch_nm 0 bh place fr into) := by
    intro q
    obtain ⟨g1, g2, g3, g4, g5⟩ := f5 q
    unfold ch_m
    rw [ev_run_cg _ (fun j hj _ => key _ (f7 h0 _ (by omega) (by omega)))]
  have ew : T 0 7 = 1 → ch_w T (ch_nm hand bh place fr into) = ch_w T (ch_nm 0 bh place fr into) := by
    intro q
    obtain ⟨g1, g2, g3, g4, g5⟩ := f6 q
    unfold ch_w
    rw [ev_run_cg _ (fun j hj _ => key _ (f7 h0 _ (by omega) (by omega)))]
  have e2 : (if T 0 7 = 1 then max 1 (min 9 (ch_w T (ch_nm hand bh place fr into))) else 1) = (if T 0 7 = 1 then max 1 (min 9 (ch_w T (ch_nm 0 bh place fr into))) else 1) := by
    by_cases q : T 0 7 = 1
    · rw [if_pos q, if_pos q, ew q]
    · rw [if_neg q, if_neg q]
  rw [e2]
  by_cases q : T 0 4 = 1
  · rw [em q]
  · have q1 : ¬ (T 0 4 = 1 ∧ ch_m T (ch_nm hand bh place fr into) = 0) := fun z => q z.1
    have q2 : ¬ (T 0 4 = 1 ∧ ch_m T (ch_nm 0 bh place fr into) = 0) := fun z => q z.1
    rw [if_neg q1, if_neg q2]
/-- a text in the class's cells -/
def tx_C (M : ow_M) (t : Int) (T : ow_M) : Prop := M t 2 = T 0 10 ∧ M t 3 = T 0 4 ∧ (T 0 4 = 1 → M t 4 = T 0 5 ∧ M t 5 = T 0 6) ∧ M t 6 = T 0 7 ∧ (T 0 7 = 1 → M t 7 = T 0 8 ∧ M t 8 = T 0 9) ∧ M t 11 = T 0 2 ∧ M t 14 = T 0 3 ∧ (∀ k, 0 ≤ k → k < T 0 1 → M (t + 1) k = T 4 k) ∧ (∀ e, 0 ≤ e → e < T 0 2 → M (t + 2) e = T 5 e ∧ M (t + 3) e = T 6 e) ∧ ∀ e, 0 ≤ e → e < T 0 3 → M (t + 4) e = T 7 e ∧ M (t + 5) e = T 8 e
def cu_C (N : Int) (M T : ow_M) : Prop := tx_fo T ∧ tx_cl N T ∧ ((M 58 6 = -1 ∧ M 0 10 = -1 ∧ T 0 0 = 0) ∨ ∃ r, (0 ≤ r ∧ r < 4) ∧ M 58 6 = 22 + 6 * r ∧ M 0 10 = r ∧ tx_C M (22 + 6 * r) T)
theorem tx_C.fr {M M' T : ow_M} {t : Int} (h : tx_C M t T) (o : ∀ c i, t ≤ c → c ≤ t + 5 → M' c i = M c i) : tx_C M' t T := by
  obtain ⟨a1, a2, a3, a4, a5, a6, a7, a8, a9, a10⟩ := h
  refine ⟨by rw [o _ _ (by omega) (by omega)]; exact a1, by rw [o _ _ (by omega) (by omega)]; exact a2, fun q => ?_, by rw [o _ _ (by omega) (by omega)]; exact a4, fun q => ?_, by rw [o _ _ (by omega) (by omega)]; exact a6, by rw [o _ _ (by omega) (by omega)]; exact a7, fun k k0 k1 => ?_, fun k k0 k1 => ?_, fun k k0 k1 => ?_⟩
  · rw [o _ _ (by omega) (by omega), o _ _ (by omega) (by omega)]; exact a3 q
  · rw [o _ _ (by omega) (by omega), o _ _ (by omega) (by omega)]; exact a5 q
  · rw [o _ _ (by omega) (by omega)]; exact a8 k k0 k1
  · rw [o _ _ (by omega) (by omega), o _ _ (by omega) (by omega)]; exact a9 k k0 k1
  · rw [o _ _ (by omega) (by omega), o _ _ (by omega) (by omega)]; exact a10 k k0 k1
theorem cu_C.fr {N : Int} {M M' T : ow_M} (h : cu_C N M T) (o : ∀ c i, 22 ≤ c → c ≤ 45 → M' c i = M c i) (o1 : M' 58 6 = M 58 6) (o2 : M' 0 10 = M 0 10) : cu_C N M' T := by
  obtain ⟨a1, a2, a3⟩ := h
  refine ⟨a1, a2, ?_⟩
  rw [o1, o2]
  rcases a3 with q | ⟨r, r1, r2, r3, r4⟩
  · exact Or.inl q
  · exact Or.inr ⟨r, r1, r2, r3, r4.fr (fun c i c0 c1 => o c i (by omega) (by omega))⟩
theorem em_text {A L N : Int} {M : ow_M} {r : Int} (hr : 0 ≤ r ∧ r < 4) : ow_O (EM A L N) M (22 + 6 * r) 7 ∧ ow_gv (EM A L N) M (22 + 6 * r) 0 = 22 + 6 * r + 1 ∧ ow_gv (EM A L N) M (22 + 6 * r) 2 = M (22 + 6 * r) 2 ∧ ow_gv (EM A L N) M (22 + 6 * r) 3 = M (22 + 6 * r) 3 ∧ ow_gv (EM A L N) M (22 + 6 * r) 4 = M (22 + 6 * r) 4 ∧ ow_gv (EM A L N) M (22 + 6 * r) 5 = M (22 + 6 * r) 5 ∧ ow_gv (EM A L N) M (22 + 6 * r) 6 = M (22 + 6 * r) 6 ∧ ow_gv (EM A L N) M (22 + 6 * r) 7 = M (22 + 6 * r) 7 ∧ ow_gv (EM A L N) M (22 + 6 * r) 8 = M (22 + 6 * r) 8 ∧ ow_gv (EM A L N) M (22 + 6 * r) 11 = M (22 + 6 * r) 11 ∧ ow_gv (EM A L N) M (22 + 6 * r) 14 = M (22 + 6 * r) 14 ∧ (22 + 6 * r + 1 = 23 ∨ 22 + 6 * r + 1 = 29 ∨ 22 + 6 * r + 1 = 35 ∨ 22 + 6 * r + 1 = 41) := by
  have e : r = 0 ∨ r = 1 ∨ r = 2 ∨ r = 3 := by omega
  rcases e with e | e | e | e <;> subst e
  · exact ⟨of_eq_true eo22, rfl, rfl, rfl, rfl, rfl, rfl, rfl, rfl, rfl, rfl, by decide⟩
  · exact ⟨of_eq_true eo28, rfl, rfl, rfl, rfl, rfl, rfl, rfl, rfl, rfl, rfl, by decide⟩
  · exact ⟨of_eq_true eo34, rfl, rfl, rfl, rfl, rfl, rfl, rfl, rfl, rfl, rfl, by decide⟩
  · exact ⟨of_eq_true eo40, rfl, rfl, rfl, rfl, rfl, rfl, rfl, rfl, rfl, rfl, by decide⟩
section VWS
variable {C : ow_C} {A L N : Int} {d : Nat} {M T : ow_M} {K : Int → ow_M → Prop}
theorem tX9_changesOf (h : em_ok A L N) {hand p f : Int} (hh : 0 ≤ hand ∧ hand < 8) (hp : 0 ≤ p ∧ p < L) (hf : 0 ≤ f ∧ f < A) (hK : K (vx A L hand p f 0) M) : ow_Sp C (EM A L N) d mX9_changesOf (0, 0) [(3, 58), (0, hand), (0, p), (0, f)] M K := by
  have hL := h.2.2.2.1
  have hA := h.2.1
  have a := vx_b hh hp
  have b := vx_b ⟨a.1, a.2.1⟩ hf
  have c := vx_b (b := 0) ⟨b.1, b.2.1⟩ (show 0 ≤ (0 : Int) ∧ 0 < A by omega)
  have e := vx_D h
  have e2 : 8 * L * A = 8 * (L * A) := Int.mul_assoc _ _ _
  have c0 := Int.mul_nonneg hh.1 (show 0 ≤ L by omega)
  have c1 := Int.mul_nonneg a.1 (show 0 ≤ A by omega)
  unfold vx at hK
  rw [Int.add_zero] at hK
  refine fX9_changesOf ⟨⟨by omega, by omega⟩, ⟨by omega, by omega⟩, ⟨by omega, by omega⟩, ⟨by omega, by omega⟩, ⟨by omega, by omega⟩, hK⟩
/-- what working out one change leaves as it was -/
def vw_o (L x : Int) (M M' : ow_M) : Prop := ow_of [61, 62, 63] [(59, 2), (60, 4), (60, 5)] M M' ∧ (∀ y, y ≠ x → M' 62 y = M 62 y) ∧ ∀ y, ¬ (x * (L + 1) ≤ y ∧ y < x * (L + 1) + (L + 1)) → M' 63 y = M 63 y
theorem tX9_workOut (h : em_ok A L N) (hc : cu_C N M T) {x p f i hand : Int} (hh : 0 ≤ hand ∧ hand < 8) (hp : 0 ≤ p ∧ p < L) (hf : 0 ≤ f ∧ f < A) (hi : 0 ≤ i ∧ i < A) (hx : x = vx A L hand p f i) (n0 : M 60 0 = p) (n1 : M 60 1 = f) (n2 : M 60 2 = i) (n3 : M 60 3 = hand) (hK : ∀ M', vw_o L x M M' → (∀ k, 0 ≤ k → k < 32 → ow_bt (M' 62 x) k = decide (k ≤ L ∧ 0 < ch_v T hand k p f i)) → (∀ k, 0 ≤ k → k ≤ L → M' 63 (x * (L + 1) + k) = ch_v T hand k p f i) → K 0 M') : ow_Sp C (EM A L N) (d + 3) mX9_workOut (0, 0) [(3, 58), (0, x), (0, p)] M K := by
  have hL := h.2.2.2.1
  have hL3 := h.2.2.1
  have hA := h.2.1
  have hD := vx_D h
  have hxr := vx_rg hh hp hf hi
  rw [← hx] at hxr
  have hx63 := vx_b (a := x) (X := 8 * L * A * A) (b := 0) (Y := L + 1) hxr ⟨by omega, by omega⟩
  have hx9 := em_bd (a := x) (x := 1600) (b := L + 1) (y := 9) hxr.1 (by omega) (by omega) (by omega)
  obtain ⟨cf, cl, cr⟩ := hc
  obtain ⟨f1, f2, f3, f4, f5, f6, f7⟩ := cf
  -- from the loop on
  have loop : ∀ (fr pl : Int) (M0 : ow_M), (fr ≠ 0 ↔ T 0 4 = 0) → (pl ≠ 0 ↔ T 0 7 = 0) → M0 = ow_up M 62 x 0 → ow_At C (EM A L N) (d + 3) mX9_workOut 57 [(0, (3, 58)), (1, (0, x)), (2, (0, p)), (3, (0, fr)), (4, (0, pl)), (5, (0, 0))] [] (0, 0) M0 K := by
    intro fr pl M0 hfr hpl e0
    refine ow_upto (S := ow_M) (P := fun j s => ow_At C (EM A L N) (d + 3) mX9_workOut 57 [(0, (3, 58)), (1, (0, x)), (2, (0, p)), (3, (0, fr)), (4, (0, pl)), (5, (0, j))] [] (0, 0) s K) (I := fun j s => 0 ≤ j ∧ vw_o L x M s ∧ (∀ k, 0 ≤ k → k < 32 → ow_bt (s 62 x) k = decide (k < j ∧ 0 < ch_v T hand k p f i)) ∧ ∀ k, 0 ≤ k → k < j → s 63 (x * (L + 1) + k) = ch_v T hand k p f i) (L + 1) (fun s hI => ?_) (fun j s j1 hI ih => ?_) 0 M0 (by omega) ⟨by omega, ?_, fun k k0 k1 => ?_, fun k k0 k1 => by omega⟩
    · obtain ⟨_, i2, i3, i4⟩ := hI
      refine cX9_workOut_57 ⟨fun _ => hK s i2 (fun k k0 k1 => ?_) (fun k k0 k1 => i4 k k0 (by omega)), fun q => by omega⟩
      rw [i3 k k0 k1]
      exact decide_eq_decide.2 ⟨fun z => ⟨by omega, z.2⟩, fun z => ⟨by omega, z.2⟩⟩
    · obtain ⟨j0, ⟨o1, o2, o3⟩, i3, i4⟩ := hI
      have hin : ch_in hand j p f i := ⟨hh, by omega, by omega, by omega, by omega⟩
      have hnm := ch_nm_ok hin
      -- the end of one turn: the entry is written
      have wr : ∀ (v : Int) (M3 : ow_M), vw_o L x M M3 → (∀ k, 0 ≤ k → k < 32 → ow_bt (M3 62 x) k = decide (k < j + 1 ∧ 0 < ch_v T hand k p f i)) → (∀ k, 0 ≤ k → k < j → M3 63 (x * (L + 1) + k) = ch_v T hand k p f i) → v = ch_v T hand j p f i → ∀ N3, N3 = ow_up M3 63 (x * (L + 1) + j) v → ow_At C (EM A L N) (d + 3) mX9_workOut 57 [(0, (3, 58)), (1, (0, x)), (2, (0, p)), (3, (0, fr)), (4, (0, pl)), (5, (0, j + 1))] [] (0, 0) N3 K := by
        intro v M3 ⟨p1, p2, p3⟩ p4 p5 hv N3 e3
        refine ih N3 ⟨by omega, ⟨by rw [e3]; exact p1.up (by decide), fun y hy => ?_, fun y hy => ?_⟩, fun k k0 k1 => ?_, fun k k0 k1 => ?_⟩
        · rw [e3, ow_upN (Or.inl (by decide))]; exact p2 y hy
        · rw [e3, ow_upN (Or.inr (by omega))]; exact p3 y hy
        · rw [e3, ow_upN (Or.inl (by decide))]; exact p4 k k0 k1
        · by_cases e : k = j
          · rw [e, e3, ow_upS]; exact hv
          · rw [e3, ow_upN (Or.inr (by omega))]; exact p5 k k0 (by omega)
      -- it may be done
      have yes : ∀ M2, vw_o L x M M2 → (∀ y, M2 62 y = s 62 y) → (∀ y, M2 63 y = s 63 y) → (∀ k, 0 ≤ k → k < 6 → M2 60 k = ch_nm hand j p f i k) → ¬ (T 0 4 = 1 ∧ ch_m T (ch_nm hand j p f i) = 0) → ow_At C (EM A L N) (d + 3) mX9_workOut 144 [(0, (3, 58)), (1, (0, x)), (2, (0, p)), (3, (0, fr)), (4, (0, pl)), (5, (0, j))] [] (0, 0) M2 K := by
        intro M2 ⟨p1, p2, p3⟩ e62 e63 hn hm
        refine cX9_workOut_144 ⟨hxr, ?_⟩
        intro N1 e1
        have ov : ow_of [61, 62, 63] [(59, 2), (60, 4), (60, 5)] M N1 := by rw [e1]; exact p1.up (by decide)
        have pos : 0 < ch_v T hand j p f i := by unfold ch_v; rw [if_neg hm]; split <;> omega
        have b62 : ∀ k, 0 ≤ k → k < 32 → ow_bt (N1 62 x) k = decide (k < j + 1 ∧ 0 < ch_v T hand k p f i) := by
          intro k k0 k1
          rw [e1, ow_upS, ow_bt_or, ow_bt_shl ⟨j0, by omega⟩ k0, e62, i3 k k0 k1]
          by_cases e : j = k
          · subst e; simp [pos]; omega
          · have e2 : (k < j + 1) = (k < j) := propext ⟨fun _ => by omega, fun _ => by omega⟩
            simp [e, e2]
        have n62 : ∀ y, y ≠ x → N1 62 y = M 62 y := fun y hy => by rw [e1, ow_upN (Or.inr hy)]; exact p2 y hy
        have n63 : ∀ y, N1 63 y = s 63 y := fun y => by rw [e1, ow_upN (Or.inl (by decide))]; exact e63 y
        have done : ∀ (v : Int) (M3 : ow_M), ow_of [61] [(59, 2)] N1 M3 → max 1 (min 9 v) = ch_v T hand j p f i → ow_At C (EM A L N) (d + 3) mX9_workOut 194 [(0, (3, 58)), (1, (0, x)), (2, (0, p)), (3, (0, fr)), (4, (0, pl)), (5, (0, j))] [(0, v)] (0, 0) M3 K := by
          intro v M3 o hv
          have hx63' := vx_b (a := x) (X := 8 * L * A * A) (b := j) (Y := L + 1) hxr ⟨by omega, by omega⟩
          refine cX9_workOut_194 ⟨⟨by omega, by omega⟩, ⟨by omega, by omega⟩, ⟨by omega, by omega⟩, fun N4 e4 => ⟨⟨by omega, by omega⟩, wr _ M3 ⟨?_, fun y hy => ?_, fun y hy => ?_⟩ (fun k k0 k1 => ?_) (fun k k0 k1 => ?_) hv N4 e4⟩⟩
          · exact ov.tr (o.mono (fun c hc => by simp at hc; subst hc; decide) (fun y hy => by simp at hy; subst hy; exact Or.inr (by decide)))
          · rw [o.at (by decide) (by decide)]; exact n62 y hy
          · rw [o.at (by decide) (by decide), n63]; exact o3 y hy
          · rw [o.at (by decide) (by decide)]; exact b62 k k0 k1
          · rw [o.at (by decide) (by decide), n63]; exact i4 k k0 k1
        refine ⟨fun hz => ?_, fun hz => done 1 N1 ow_of.rf ?_⟩
        · have hw : T 0 7 = 1 := by
            rcases f2 with q | q
            · exact absurd hz (hpl.2 q)
            · exact q
          obtain ⟨g1, g2, g3, g4, g5⟩ := f6 hw
          rcases cr with ⟨r1, r2, r3⟩ | ⟨r, r1, r2, r3, r4⟩
          · obtain ⟨k, k0, k1, _⟩ := cl.2.2.2.1 hw
            omega
          · have e58 : N1 58 6 = 22 + 6 * r := by rw [ov 58 6 (by decide) (by decide)]; exact r2
            have ett : ∀ c q, 22 ≤ c → c ≤ 45 → N1 c q = M c q := fun c q c0 c1 => ov c q (by simp; omega) (by simp; omega)
            have tc := r4.fr (fun c q c0 c1 => ett c q (by omega) (by omega))
            obtain ⟨t1, t2, t3, t4, t5, t6, t7, t8, t9, t10, t11, t12⟩ := em_text (A := A) (L := L) (N := N) (M := N1) r1
            rw [e58]
            refine ⟨t1, t1, t1, ?_⟩
            rw [t2, t8, t9, (tc.2.2.2.2.1 hw).1, (tc.2.2.2.2.1 hw).2]
            have hin2 := ev_run_in hnm g4 _ (Nat.le_refl _)
            rw [g5] at hin2
            have h1 : (ev_run (ch_nm hand j p f i) (T 4) (T 0 8) (T 0 9 - T 0 8).toNat).1 = 1 := hin2.2.2.1
            refine tX3_value t12 hnm (fun k k0 k1 => by rw [e1, ow_upN (Or.inl (by decide))]; exact hn k k0 k1) g1 g2 (by omega) (fun q q0 q1 => tc.2.2.2.2.2.2.2.1 q (by omega) (by omega)) g4 (by omega) (fun M3 o => ?_)
            rw [h1]
            refine done _ M3 o ?_
            unfold ch_v
            rw [if_neg hm, if_pos hw]
            rfl
        · have hw : T 0 7 = 0 := hpl.1 hz
          unfold ch_v
          rw [if_neg hm, if_neg (by omega)]
          decide
      -- names
      have key : ∀ (v : Int) (N1 : ow_M), N1 = ow_up s 60 4 (j - 1) → v = ch_nm hand j p f i 5 → ow_At C (EM A L N) (d + 3) mX9_workOut 105 [(0, (3, 58)), (1, (0, x)), (2, (0, p)), (3, (0, fr)), (4, (0, pl)), (5, (0, j))] [(0, v), (0, 5), (3, 60)] (0, 0) N1 K := by
        intro v N1 e1 hv
        refine cX9_workOut_105 ⟨⟨by omega, by omega⟩, ?_⟩
        intro N2 e2
        have ov : ow_of [61, 62, 63] [(59, 2), (60, 4), (60, 5)] M N2 := by rw [e2, e1]; exact (o1.uf (by decide)).uf (by decide)
        have q62 : ∀ y, N2 62 y = s 62 y := fun y => by rw [e2, ow_upN (Or.inl (by decide)), e1, ow_upN (Or.inl (by decide))]
        have q63 : ∀ y, N2 63 y = s 63 y := fun y => by rw [e2, ow_upN (Or.inl (by decide)), e1, ow_upN (Or.inl (by decide))]
        have hn : ∀ k, 0 ≤ k → k < 6 → N2 60 k = ch_nm hand j p f i k := by
          intro k k0 k1
          have hk : k = 0 ∨ k = 1 ∨ k = 2 ∨ k = 3 ∨ k = 4 ∨ k = 5 := by omega
          rcases hk with e | e | e | e | e | e <;> subst e
          · rw [ov 60 0 (by decide) (by decide)]; exact n0
          · rw [ov 60 1 (by decide) (by decide)]; exact n1
          · rw [ov 60 2 (by decide) (by decide)]; exact n2
          · rw [ov 60 3 (by decide) (by decide)]; exact n3
          · rw [e2, ow_upN (Or.inr (by decide)), e1, ow_upS]; rfl
          · rw [e2, ow_upS]; exact hv
        have vo2 : vw_o L x M N2 := ⟨ov, fun y hy => by rw [q62]; exact o2 y hy, fun y hy => by rw [q63]; exact o3 y hy⟩
        refine ⟨fun hz => yes N2 vo2 q62 q63 hn (fun z => by have := hfr.1 hz; omega), fun hz => ?_⟩
        have hm1 : T 0 4 = 1 := by
          rcases f1 with q | q
          · exact absurd hz (hfr.2 q)
          · exact q
        obtain ⟨g1, g2, g3, g4, g5⟩ := f5 hm1
        rcases cr with ⟨r1, r2, r3⟩ | ⟨r, r1, r2, r3, r4⟩
        · obtain ⟨k, k0, k1, _⟩ := cl.2.2.1 hm1
          omega
        · have e58 : N2 58 6 = 22 + 6 * r := by rw [ov 58 6 (by decide) (by decide)]; exact r2
          have ett : ∀ c q, 22 ≤ c → c ≤ 45 → N2 c q = M c q := fun c q c0 c1 => ov c q (by simp; omega) (by simp; omega)
          have tc := r4.fr (fun c q c0 c1 => ett c q (by omega) (by omega))
          obtain ⟨t1, t2, t3, t4, t5, t6, t7, t8, t9, t10, t11, t12⟩ := em_text (A := A) (L := L) (N := N) (M := N2) r1
          rw [e58]
          refine ⟨t1, t1, t1, ?_⟩
          rw [t2, t5, t6, (tc.2.2.1 hm1).1, (tc.2.2.1 hm1).2]
          have hin2 := ev_run_in hnm g4 _ (Nat.le_refl _)
          rw [g5] at hin2
          have h1 : (ev_run (ch_nm hand j p f i) (T 4) (T 0 5) (T 0 6 - T 0 5).toNat).1 = 1 := hin2.2.2.1
          refine tX3_value t12 hnm hn g1 g2 (by omega) (fun q q0 q1 => tc.2.2.2.2.2.2.2.1 q (by omega) (by omega)) g4 (by omega) (fun M3 o => ?_)
          rw [h1]
          have o4 : ow_of [61, 62, 63] [(59, 2), (60, 4), (60, 5)] M M3 := ov.tr (o.mono (fun c hc => by simp at hc; subst hc; decide) (fun y hy => by simp at hy; subst hy; exact Or.inr (by decide)))
          have w62 : ∀ y, M3 62 y = s 62 y := fun y => by rw [o.at (by decide) (by decide)]; exact q62 y
          have w63 : ∀ y, M3 63 y = s 63 y := fun y => by rw [o.at (by decide) (by decide)]; exact q63 y
          have vo3 : vw_o L x M M3 := ⟨o4, fun y hy => by rw [w62]; exact o2 y hy, fun y hy => by rw [w63]; exact o3 y hy⟩
          refine ⟨fun z => ?_, fun z => yes M3 vo3 w62 w63 (fun k k0 k1 => by rw [o.at (by decide) (by decide)]; exact hn k k0 k1) (fun y => z y.2)⟩
          have z' : ch_m T (ch_nm hand j p f i) = 0 := z
          have c0 : ch_v T hand j p f i = 0 := by unfold ch_v; rw [if_pos ⟨hm1, z'⟩]
          have hx63' := vx_b (a := x) (X := 8 * L * A * A) (b := j) (Y := L + 1) hxr ⟨by omega, by omega⟩
          refine ⟨⟨by omega, by omega⟩, ⟨by omega, by omega⟩, ⟨by omega, by omega⟩, fun N4 e4 => ⟨⟨by omega, by omega⟩, wr 0 M3 vo3 (fun k k0 k1 => ?_) (fun k k0 k1 => by rw [w63]; exact i4 k k0 k1) c0.symm N4 e4⟩⟩
          rw [w62, i3 k k0 k1]
          refine decide_eq_decide.2 ⟨fun y => ⟨by omega, y.2⟩, fun y => ⟨?_, y.2⟩⟩
          by_cases e : k = j
          · have := y.2; rw [e, c0] at this; omega
          · omega
      refine cX9_workOut_57 ⟨fun q => by omega, fun _ => ⟨⟨by omega, by omega⟩, ?_⟩⟩
      intro N1 e1
      refine ⟨fun q => ⟨⟨by omega, by omega⟩, ⟨by omega, by omega⟩, key _ N1 e1 ?_⟩, fun q => key _ N1 e1 ?_⟩
      · show ow_abs (p - (j - 1)) = if j = 0 then 0 else if p ≤ j - 1 then j - 1 - p else p - (j - 1)
        unfold ow_abs
        rw [if_neg q]
        by_cases e : p ≤ j - 1
        · rw [if_pos e]
          by_cases e2 : 0 ≤ p - (j - 1)
          · rw [if_pos e2]; omega
          · rw [if_neg e2]; omega
        · rw [if_neg e, if_pos (by omega)]
      · show (0 : Int) = if j = 0 then 0 else if p ≤ j - 1 then j - 1 - p else p - (j - 1)
        rw [if_pos q]
    · rw [e0]
      exact ⟨ow_of.rf.up (by decide), fun y hy => ow_upN (Or.inr hy), fun y _ => ow_upN (Or.inl (by decide))⟩
    · rw [e0, ow_upS, ow_bt_0, decide_eq_false (fun z => by omega)]
  refine fX9_workOut ?_
  rcases cr with ⟨r1, r2, r3⟩ | ⟨r, r1, r2, r3, r4⟩
  · have z := tx_cl.no cl r3 ⟨f1, f2, f3, f4, f5, f6, f7⟩
    refine ⟨fun _ => cX9_workOut_22 ⟨fun _ => cX9_workOut_40 ⟨hxr, fun N1 e1 => loop 1 1 N1 ⟨fun _ => z.1, fun _ => by decide⟩ ⟨fun _ => z.2, fun _ => by decide⟩ e1⟩, fun q => by omega⟩, fun q => by omega⟩
  · obtain ⟨t1, t2, t3, t4, t5, t6, t7, t8, t9, t10, t11, t12⟩ := em_text (A := A) (L := L) (N := N) (M := M) r1
    have k22 : ∀ fr, (fr ≠ 0 ↔ T 0 4 = 0) → ow_At C (EM A L N) (d + 3) mX9_workOut 22 [(0, (3, 58)), (1, (0, x)), (2, (0, p))] [(0, fr)] (0, 0) M K := by
      intro fr hfr
      refine cX9_workOut_22 ⟨fun q => by omega, fun _ => ?_⟩
      rw [r2, t7, r4.2.2.2.1]
      refine ⟨t1, fun q => ⟨hxr, fun N1 e1 => loop fr 0 N1 hfr ⟨fun z => absurd rfl z, fun z => absurd z q⟩ e1⟩, fun q => cX9_workOut_40 ⟨hxr, fun N1 e1 => loop fr 1 N1 hfr ⟨fun _ => q, fun _ => by decide⟩ e1⟩⟩
    refine ⟨fun q => by omega, fun _ => ?_⟩
    rw [r2, t4, r4.2.1]
    exact ⟨t1, fun q => k22 0 ⟨fun z => absurd rfl z, fun z => absurd z q⟩, fun q => k22 1 ⟨fun _ => q, fun _ => by decide⟩⟩
end VWS
