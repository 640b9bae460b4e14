/-! ===== what a hand may do, in its order ===== -/
theorem ow_ct_hit {q : Int → Bool} {n i : Int} (hn : 0 ≤ n) (h0 : 0 ≤ i) (h1 : i < ow_ct q n) : ∃ z, 0 ≤ z ∧ z < n ∧ q z = true ∧ ow_ct q z = i := by
  refine ow_ind (P := fun n => i < ow_ct q n → ∃ z, 0 ≤ z ∧ z < n ∧ q z = true ∧ ow_ct q z = i) (fun z => by rw [ow_ct0] at z; omega) (fun k k0 ih z => ?_) n hn h1
  by_cases e : q k = true
  · by_cases e2 : i < ow_ct q k
    · obtain ⟨y, y0, y1, y2, y3⟩ := ih e2
      exact ⟨y, y0, by omega, y2, y3⟩
    · rw [ow_ctS k0, if_pos e] at z
      exact ⟨k, k0, by omega, e, by omega⟩
  · rw [ow_ctS k0, if_neg e] at z
    obtain ⟨y, y0, y1, y2, y3⟩ := ih (by omega)
    exact ⟨y, y0, by omega, y2, y3⟩
theorem ow_pk_not {q : Int → Bool} {g : Int → Int} {i n z : Int} (z0 : 0 ≤ z) (z1 : z < n) (hq : q z = true) (hc : ow_ct q z = i) : ow_pk q g i n ≠ none := by
  have st : ∀ k : Nat, ow_pkn q g i k ≠ none → ow_pkn q g i (k + 1) ≠ none := by
    intro k hk
    simp only [ow_pkn]
    split
    · exact fun e => by cases e
    · rename_i e; exact absurd e hk
  have b : ow_pkn q g i (z.toNat + 1) ≠ none := by
    simp only [ow_pkn]
    split
    · exact fun e => by cases e
    · rw [show ((z.toNat : Nat) : Int) = z by omega, if_pos ⟨hq, hc⟩]
      exact fun e => by cases e
  have key : ∀ j : Nat, ow_pkn q g i (z.toNat + 1 + j) ≠ none := by
    intro j
    induction j with
    | zero => exact b
    | succ j ih => exact st _ ih
  have := key (n - z - 1).toNat
  unfold ow_pk
  rw [show n.toNat = z.toNat + 1 + (n - z - 1).toNat by omega]
  exact this
def mq (A L : Int) (T : ow_M) (hand w bh : Int) : Int → Bool := fun z => decide (em_dg A L w (z / A) ≠ z % A ∧ 0 < ch_v T hand bh (z / A) (em_dg A L w (z / A)) (z % A))
def mg (A : Int) : Int → Int := fun z => 10 * (z / A) + z % A
section MSS
variable {C : ow_C} {A L N : Int} {d : Nat} {M T : ow_M} {K : Int → ow_M → Prop}
theorem mq_v (h : em_ok A L N) {hand w bh p i : Int} (hp : 0 ≤ p ∧ p < L) (hi : 0 ≤ i ∧ i < A) : mq A L T hand w bh (p * A + i) = decide (em_dg A L w p ≠ i ∧ 0 < ch_v T hand bh p (em_dg A L w p) i) ∧ mg A (p * A + i) = 10 * p + i ∧ (0 ≤ p * A + i ∧ p * A + i < L * A) := by
  obtain ⟨a1, a2, a3, a4⟩ := vx_b hp hi
  unfold mq mg
  rw [a3, a4]
  exact ⟨rfl, rfl, a1, a2⟩
theorem mq_lo (h : em_ok A L N) {hand w bh : Int} {z : Int} (hz : 0 ≤ z ∧ z < L * A) : 0 ≤ ow_ct (mq A L T hand w bh) z ∧ ow_ct (mq A L T hand w bh) z ≤ 40 := by
  have := ow_ct_rg (q := mq A L T hand w bh) hz.1
  have hD := vx_D h
  omega
/-- the class's table at a change -/
theorem vw_open (h : em_ok A L N) {n : Int} (hT : vw_T A L T M (vx A L n 0 0 0)) {hand p f i k : Int} (hh : 0 ≤ hand ∧ hand < n) (hp : 0 ≤ p ∧ p < L) (hf : 0 ≤ f ∧ f < A) (hi : 0 ≤ i ∧ i < A) (hne : i ≠ f) : (∀ k, 0 ≤ k → k < 32 → ow_bt (M 62 (vx A L hand p f i)) k = decide (k ≤ L ∧ 0 < ch_v T hand k p f i)) ∧ ∀ k, 0 ≤ k → k ≤ L → M 63 (vx A L hand p f i * (L + 1) + k) = ch_v T hand k p f i := by
  obtain ⟨d1, d2, d3, d4⟩ := vx_d (A := A) (L := L) hh.1 hp hf hi
  have hx := vx_lt hh hp hf hi
  have he := hT _ hx.1 hx.2
  have hne' : vx A L hand p f i / A % A ≠ vx A L hand p f i % A := by rw [d1, d2]; exact fun z => hne z.symm
  have ev : ∀ k, vx_v A L T (vx A L hand p f i) k = ch_v T hand k p f i := fun k => by unfold vx_v; rw [d1, d2, d3, d4]
  obtain ⟨a, b⟩ := he hne'
  exact ⟨fun k k0 k1 => by rw [a k k0 k1, ev], fun k k0 k1 => by rw [b k k0 k1, ev]⟩
theorem tX9_choice (h : em_ok A L N) {n : Int} (hn : n ≤ 8) (hT : vw_T A L T M (vx A L n 0 0 0)) {hand w bh i : Int} (hh : 0 ≤ hand ∧ hand < n) (hw : 0 ≤ w ∧ w < N) (hb : 0 ≤ bh ∧ bh ≤ L) (hi : i = -1 ∨ (0 ≤ i ∧ i < ow_ct (mq A L T hand w bh) (L * A))) (hK : K (ow_pv (mq A L T hand w bh) (mg A) i (L * A)) M) : ow_Sp C (EM A L N) (d + 1) mX9_choice (0, 0) [(3, 58), (0, hand), (0, w), (0, bh), (0, i)] M K := by
  have hL := h.2.2.2.1
  have hL3 := h.2.2.1
  have hA := h.2.1
  have hA1 := h.1
  have hD := vx_D h
  refine fX9_choice ?_
  refine ow_upto (S := Int) (P := fun p s => ow_At C (EM A L N) (d + 1) mX9_choice 6 [(0, (3, 58)), (1, (0, hand)), (2, (0, w)), (3, (0, bh)), (4, (0, i)), (5, (0, s)), (6, (0, p))] [] (0, 0) M K) (I := fun p s => 0 ≤ p ∧ s = ow_ct (mq A L T hand w bh) (p * A) ∧ ow_pk (mq A L T hand w bh) (mg A) i (p * A) = none) L (fun s hI => ?_) (fun p s p1 hI ih => ?_) 0 0 (by omega) ⟨by omega, by rw [Int.zero_mul]; rfl, by rw [Int.zero_mul]; rfl⟩
  · obtain ⟨_, i2, i3⟩ := hI
    refine cX9_choice_6 ⟨fun _ => ⟨fun q => ?_, fun q => ?_⟩, fun q => by omega⟩
    · rcases hi with e | e
      · exact absurd e q
      · obtain ⟨z, z0, z1, z2, z3⟩ := ow_ct_hit (by omega) e.1 e.2
        exact absurd i3 (ow_pk_not z0 z1 z2 z3)
    · rw [ow_pk_end i3, if_pos q] at hK
      rw [i2]; exact hK
  · obtain ⟨p0, i2, i3⟩ := hI
    have hdg := em_dg_rg h w p
    refine cX9_choice_6 ⟨fun q => by omega, fun _ => tX10_letter h hw ⟨p0, p1⟩ (tX9_changesOf h ⟨hh.1, by omega⟩ ⟨p0, p1⟩ hdg ?_)⟩
    refine ow_upto (S := Int) (P := fun j s => ow_At C (EM A L N) (d + 1) mX9_choice 44 [(0, (3, 58)), (1, (0, hand)), (2, (0, w)), (3, (0, bh)), (4, (0, i)), (5, (0, s)), (6, (0, p)), (7, (0, em_dg A L w p)), (8, (0, vx A L hand p (em_dg A L w p) 0)), (9, (0, j))] [] (0, 0) M K) (I := fun j s => 0 ≤ j ∧ s = ow_ct (mq A L T hand w bh) (p * A + j) ∧ ow_pk (mq A L T hand w bh) (mg A) i (p * A + j) = none) A (fun s hI => ?_) (fun j s j1 hI ih2 => ?_) 0 s (by omega) ⟨by omega, by rw [Int.add_zero]; exact i2, by rw [Int.add_zero]; exact i3⟩
    · obtain ⟨_, j2, j3⟩ := hI
      have e : p * A + A = (p + 1) * A := by rw [Int.add_mul, Int.one_mul]
      rw [e] at j2 j3
      exact cX9_choice_44 ⟨fun _ => ⟨⟨by omega, by omega⟩, ih s ⟨by omega, j2, j3⟩⟩, fun q => by omega⟩
    · obtain ⟨j0, j2, j3⟩ := hI
      obtain ⟨v1, v2, v3⟩ := mq_v (T := T) h (hand := hand) (w := w) (bh := bh) ⟨p0, p1⟩ ⟨j0, j1⟩
      have lo := mq_lo (T := T) h (hand := hand) (w := w) (bh := bh) v3
      have hxr := vx_rg (H := 8) ⟨hh.1, by omega⟩ ⟨p0, p1⟩ hdg ⟨j0, j1⟩
      have hx0 := vx_rg (H := 8) (i := 0) ⟨hh.1, by omega⟩ ⟨p0, p1⟩ hdg ⟨by omega, by omega⟩
      have e0 : vx A L hand p (em_dg A L w p) 0 + j = vx A L hand p (em_dg A L w p) j := by unfold vx; omega
      have skip : mq A L T hand w bh (p * A + j) = false → ow_I (j + 1) ∧ ow_At C (EM A L N) (d + 1) mX9_choice 44 [(0, (3, 58)), (1, (0, hand)), (2, (0, w)), (3, (0, bh)), (4, (0, i)), (5, (0, s)), (6, (0, p)), (7, (0, em_dg A L w p)), (8, (0, vx A L hand p (em_dg A L w p) 0)), (9, (0, j + 1))] [] (0, 0) M K := by
        intro hm
        refine ⟨⟨by omega, by omega⟩, ih2 s ⟨by omega, ?_, ?_⟩⟩
        · rw [← Int.add_assoc, ow_ctS v3.1, if_neg (by rw [hm]; decide)]; omega
        · rw [← Int.add_assoc]; exact ow_pkS v3.1 j3 (fun z => by rw [hm] at z; exact absurd z.1 (by decide))
      refine cX9_choice_44 ⟨fun q => by omega, fun _ => ⟨fun q => skip ?_, fun q => ?_⟩⟩
      · rw [v1]; exact decide_eq_false (fun z => z.1 q.symm)
      · have ho := (vw_open h hT (k := 0) hh ⟨p0, p1⟩ hdg ⟨j0, j1⟩ q).1 bh hb.1 (by omega)
        rw [e0]
        rw [ow_bit ⟨hb.1, by omega⟩, ho]
        refine ⟨⟨by omega, by omega⟩, hxr, fun q2 => skip ?_, fun q2 => ?_⟩
        · rw [v1]
          refine decide_eq_false (fun z => ?_)
          rw [if_pos (decide_eq_true ⟨hb.2, z.2⟩)] at q2
          exact absurd q2 (by decide)
        · have hm : mq A L T hand w bh (p * A + j) = true := by
            rw [v1]
            refine decide_eq_true ⟨fun z => q z.symm, ?_⟩
            by_cases e : 0 < ch_v T hand bh p (em_dg A L w p) j
            · exact e
            · rw [if_neg (by rw [decide_eq_true_iff]; exact fun z => e z.2)] at q2
              exact absurd rfl q2
          refine ⟨fun q3 => ⟨⟨by omega, by omega⟩, ⟨by omega, by omega⟩, ih2 (s + 1) ⟨by omega, ?_, ?_⟩⟩, fun q3 => ⟨⟨by omega, by omega⟩, ⟨by omega, by omega⟩, ?_⟩⟩
          · rw [← Int.add_assoc, ow_ctS v3.1, if_pos hm]; omega
          · rw [← Int.add_assoc]; exact ow_pkS v3.1 j3 (fun z => q3 (by rw [j2]; exact z.2))
          · rw [ow_pk_hit v3.1 j3 hm (by rw [← j2]; exact q3) v3.2, v2] at hK
            exact hK
/-- the word behind so many hands that draw -/
def ms_v (A L : Int) (T : ow_M) : Nat → Int → Int → Int → Int → Int
  | 0, _, _, w, _ => w
  | k + 1, hand, dr, w, bh => if ow_ct (mq A L T hand w bh) (L * A) = 0 then w else ms_v A L T k (hand + 1) ((dr * 211 + 53) % 30119) (em_ch A L w (ow_pv (mq A L T hand w bh) (mg A) (dr % ow_ct (mq A L T hand w bh) (L * A)) (L * A) / 10) (ow_pv (mq A L T hand w bh) (mg A) (dr % ow_ct (mq A L T hand w bh) (L * A)) (L * A) % 10)) (ow_pv (mq A L T hand w bh) (mg A) (dr % ow_ct (mq A L T hand w bh) (L * A)) (L * A) / 10 + 1)
theorem mq_pv (h : em_ok A L N) {hand w bh i : Int} (hi : 0 ≤ i ∧ i < ow_ct (mq A L T hand w bh) (L * A)) : ∃ p c, (0 ≤ p ∧ p < L) ∧ (0 ≤ c ∧ c < A) ∧ ow_pv (mq A L T hand w bh) (mg A) i (L * A) = 10 * p + c ∧ (10 * p + c) / 10 = p ∧ (10 * p + c) % 10 = c := by
  have hD := vx_D h
  have hA := h.2.1
  have hA1 := h.1
  have hL3 := h.2.2.1
  -- the first hit
  have key : ∀ n, 0 ≤ n → n ≤ L * A → (∃ z, 0 ≤ z ∧ z < n ∧ ow_pv (mq A L T hand w bh) (mg A) i (L * A) = mg A z) ∨ ow_pk (mq A L T hand w bh) (mg A) i n = none := by
    intro n hn
    refine ow_ind (P := fun n => n ≤ L * A → (∃ z, 0 ≤ z ∧ z < n ∧ ow_pv (mq A L T hand w bh) (mg A) i (L * A) = mg A z) ∨ ow_pk (mq A L T hand w bh) (mg A) i n = none) (fun _ => Or.inr rfl) (fun k k0 ih hk => ?_) n hn
    rcases ih (by omega) with ⟨z, z0, z1, z2⟩ | e
    · exact Or.inl ⟨z, z0, by omega, z2⟩
    · by_cases hit : mq A L T hand w bh k = true ∧ ow_ct (mq A L T hand w bh) k = i
      · exact Or.inl ⟨k, k0, by omega, ow_pk_hit k0 e hit.1 hit.2 (by omega)⟩
      · exact Or.inr (ow_pkS k0 e hit)
  rcases key (L * A) (by omega) (Int.le_refl _) with ⟨z, z0, z1, z2⟩ | e
  · have c1 := Int.mul_ediv_add_emod z A
    have c2 : 0 ≤ z / A := Int.ediv_nonneg z0 (by omega)
    have c3 : z / A < L := Int.ediv_lt_of_lt_mul (by omega) z1
    have c4 := Int.emod_nonneg z (show A ≠ 0 by omega)
    have c5 := Int.emod_lt_of_pos z (show 0 < A by omega)
    refine ⟨z / A, z % A, ⟨c2, c3⟩, ⟨c4, c5⟩, z2, ?_, ?_⟩
    · omega
    · omega
  · obtain ⟨z, z0, z1, z2, z3⟩ := ow_ct_hit (by omega) hi.1 hi.2
    exact absurd e (ow_pk_not z0 z1 z2 z3)
theorem tX9_carry (h : em_ok A L N) {n : Int} (hn : 0 ≤ n ∧ n ≤ 8) (hT : vw_T A L T M (vx A L n 0 0 0)) {seed w : Int} (hs : 0 ≤ seed ∧ seed ≤ 9999) (hw : 0 ≤ w ∧ w < N) (hK : K (ms_v A L T n.toNat 0 (seed * 19 + 1) w 0) M) : ow_Sp C (EM A L N) (d + 2) mX9_carry (0, 0) [(3, 58), (0, seed), (0, w), (0, n)] M K := by
  have hL := h.2.2.2.1
  have hL3 := h.2.2.1
  have hD := vx_D h
  refine fX9_carry ⟨⟨by omega, by omega⟩, ⟨by omega, by omega⟩, ?_⟩
  refine ow_upto (S := Int × Int × Int) (P := fun j s => ow_At C (EM A L N) (d + 2) mX9_carry 17 [(0, (3, 58)), (3, (0, n)), (4, (0, s.1)), (5, (0, s.2.1)), (6, (0, s.2.2)), (7, (0, j))] [] (0, 0) M K) (I := fun j s => 0 ≤ j ∧ (0 ≤ s.1 ∧ s.1 ≤ 200000) ∧ (0 ≤ s.2.1 ∧ s.2.1 < N) ∧ (0 ≤ s.2.2 ∧ s.2.2 ≤ L) ∧ K (ms_v A L T (n - j).toNat j s.1 s.2.1 s.2.2) M) n (fun s hI => ?_) (fun j s j1 hI ih => ?_) 0 (seed * 19 + 1, w, 0) hn.1 ⟨by omega, by show 0 ≤ seed * 19 + 1 ∧ seed * 19 + 1 ≤ 200000; omega, hw, by show (0 : Int) ≤ 0 ∧ 0 ≤ L; omega, by rw [show n - 0 = n by omega]; exact hK⟩
  · obtain ⟨_, _, _, _, i5⟩ := hI
    rw [show (n - n).toNat = 0 by omega] at i5
    exact cX9_carry_17 ⟨fun _ => i5, fun q => by omega⟩
  · obtain ⟨j0, i1, i2, i3, i5⟩ := hI
    rw [show (n - j).toNat = (n - (j + 1)).toNat + 1 by omega] at i5
    have g := ow_ct_rg (q := mq A L T j s.2.1 s.2.2) (i := L * A) (by omega)
    refine cX9_carry_17 ⟨fun q => by omega, fun _ => tX9_choice h hn.2 hT ⟨j0, j1⟩ i2 i3 (Or.inl rfl) ?_⟩
    have e1 : ow_pv (mq A L T j s.2.1 s.2.2) (mg A) (-1) (L * A) = ow_ct (mq A L T j s.2.1 s.2.2) (L * A) := by
      have key : ∀ k : Nat, ow_pkn (mq A L T j s.2.1 s.2.2) (mg A) (-1) k = none := by
        intro k
        induction k with
        | zero => rfl
        | succ k ih =>
          simp only [ow_pkn, ih]
          rw [if_neg (fun z => by have := (ow_ct_rg (q := mq A L T j s.2.1 s.2.2) (i := (k : Int)) (by omega)).1; omega)]
      rw [ow_pk_end (key _), if_pos rfl]
    rw [e1]
    unfold ms_v at i5
    refine ⟨fun q => ?_, fun q => ?_⟩
    · rw [if_neg (by omega)] at i5
      rw [em_tdiv i1.1, em_tmod i1.1]
      have m1 := Int.emod_nonneg s.1 (show ow_ct (mq A L T j s.2.1 s.2.2) (L * A) ≠ 0 by omega)
      have m2 := Int.emod_lt_of_pos s.1 q
      have m3 : 0 ≤ s.1 / ow_ct (mq A L T j s.2.1 s.2.2) (L * A) := Int.ediv_nonneg i1.1 (by omega)
      have m4 : s.1 / ow_ct (mq A L T j s.2.1 s.2.2) (L * A) ≤ s.1 := Int.ediv_le_self _ i1.1
      refine ⟨by omega, ⟨by omega, by omega⟩, ⟨by omega, by omega⟩, tX9_choice h hn.2 hT ⟨j0, j1⟩ i2 i3 (Or.inr ⟨m1, m2⟩) ?_⟩
      obtain ⟨p, c, p1, c1, v1, v2, v3⟩ := mq_pv (T := T) h (hand := j) (w := s.2.1) (bh := s.2.2) ⟨m1, m2⟩
      rw [v1]
      rw [v1, v2, v3] at i5
      have hA := h.2.1
      rw [em_tdiv (show 0 ≤ 10 * p + c by omega), em_tmod (show 0 ≤ 10 * p + c by omega), v2, v3, em_tdiv (show 0 ≤ s.1 * 211 + 53 by omega), em_tmod (show 0 ≤ s.1 * 211 + 53 by omega)]
      have hr := em_ch_rg h i2 p1 c1
      exact ⟨⟨by omega, by omega⟩, ⟨by omega, by omega⟩, by decide, ⟨by omega, by omega⟩, ⟨by omega, by omega⟩, by decide, ⟨by omega, by omega⟩, by decide, ⟨by omega, by omega⟩, ⟨by omega, by omega⟩, tX10_changed h i2 p1 c1 ⟨by decide, ⟨by omega, by omega⟩, ⟨by omega, by omega⟩, ⟨by omega, by omega⟩, ih ((s.1 * 211 + 53) % 30119, em_ch A L s.2.1 p c, p + 1) ⟨by omega, by show 0 ≤ (s.1 * 211 + 53) % 30119 ∧ (s.1 * 211 + 53) % 30119 ≤ 200000; omega, hr, by show 0 ≤ p + 1 ∧ p + 1 ≤ L; omega, i5⟩⟩⟩
    · rw [if_pos (by omega)] at i5
      exact i5
/-- message: what is asked -/
def ms_a (A L N : Int) (T : ow_M) (seed w n : Int) : Int := if (0 ≤ seed ∧ seed ≤ 9999) ∧ (0 ≤ w ∧ w < N) ∧ 1 ≤ n ∧ n ≤ 8 then ms_v A L T n.toNat 0 (seed * 19 + 1) w 0 else -1
theorem tX11_message (h : em_ok A L N) (hc : cu_C N M T) (hv : vw_R A L T M) {seed w n : Int} (h0 : ¬ ((0 ≤ seed ∧ seed ≤ 9999) ∧ (0 ≤ w ∧ w < N) ∧ 1 ≤ n ∧ n ≤ 8) → K (ms_a A L N T seed w n) M) (hK : ∀ M', ow_of [60, 61, 62, 63] [(59, 2), (58, 5)] M M' → vw_R A L T M' → K (ms_a A L N T seed w n) M') : ow_Sp C (EM A L N) (d + 6) mX11_message (0, 0) [(3, 0), (0, seed), (0, w), (0, n)] M K := by
  have bad : ¬ ((0 ≤ seed ∧ seed ≤ 9999) ∧ (0 ≤ w ∧ w < N) ∧ 1 ≤ n ∧ n ≤ 8) → K (-1) M := by
    intro z
    have := h0 z
    unfold ms_a at this
    rw [if_neg z] at this
    exact this
  refine fX11_message ⟨fun q => bad (by omega), fun q1 => ⟨fun q => bad (by omega), fun q2 => tX10_isWord (fun q => ⟨fun _ => bad (fun z => q z.2.1), fun z => absurd rfl z⟩) (fun hw => ⟨fun z => absurd z (by decide), fun _ => ⟨fun q => bad (by omega), fun n1 => ⟨fun n8 => ?_, fun q => bad (by omega)⟩⟩⟩)⟩⟩
  refine tX9_prepare h hc hv ⟨by omega, n8⟩ (fun M' o v t => tX9_carry h ⟨by omega, n8⟩ t ⟨q1, q2⟩ hw ?_)
  have := hK M' o v
  unfold ms_a at this
  rw [if_pos ⟨⟨q1, q2⟩, hw, n1, n8⟩] at this
  exact this
end MSS
