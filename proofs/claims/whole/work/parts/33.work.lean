/-! ===== formulas: a whole code ===== -/
def cm_o (c : Int) : Int := if 0 ≤ c then 0 else if -6 ≤ c then 1 else if c = -23 then 2 else if -14 ≤ c then -c - 8 else if -20 ≤ c then -c - 5 else if c = -24 then 20 else if c = -21 then 21 else 22
def cm_v (c : Int) : Int := if 0 ≤ c then c else if -6 ≤ c then -1 - c else 0
def wk_M (M : ow_M) (n t : Int) (st : Int → Int) : Prop := (∀ j, 0 ≤ j → j < n → M 90 j = st (t + j)) ∧ ∀ j, 0 ≤ j → j < t → M 91 j = st j
section WKS
variable {C : ow_C} {A L N : Int} {d : Nat} {M : ow_M} {K : Int → ow_M → Prop}
theorem em_code {c : Int} (hc : c = 23 ∨ c = 29 ∨ c = 35 ∨ c = 41) : (0 ≤ c ∧ c < ow_nb (EM A L N) M ∧ ((EM A L N).2.1 c).1 = 100) ∧ ((EM A L N).2.1 c).2 = 300 ∧ ∀ i, ow_gv (EM A L N) M c i = M c i := by
  rcases hc with e | e | e | e <;> subst e
  · exact ⟨⟨by decide, (show (23 : Int) < 102 by decide), rfl⟩, rfl, fun i => rfl⟩
  · exact ⟨⟨by decide, (show (29 : Int) < 102 by decide), rfl⟩, rfl, fun i => rfl⟩
  · exact ⟨⟨by decide, (show (35 : Int) < 102 by decide), rfl⟩, rfl, fun i => rfl⟩
  · exact ⟨⟨by decide, (show (41 : Int) < 102 by decide), rfl⟩, rfl, fun i => rfl⟩
theorem tX3_value {nm f : Int → Int} {c ms me : Int} (hc : c = 23 ∨ c = 29 ∨ c = 35 ∨ c = 41) (hnm : ev_nm nm) (hM : ∀ k, 0 ≤ k → k < 6 → M 60 k = nm k) (h0 : 0 ≤ ms) (h1 : ms ≤ me) (h2 : me ≤ 300) (hf : ∀ i, ms ≤ i → i < me → M c i = f i) (hk : ck_all f ms (me - ms).toNat) (hp : 0 < (ev_run nm f ms (me - ms).toNat).1) (hK : ∀ M', ow_of [61] [(59, 2)] M M' → K ((ev_run nm f ms (me - ms).toNat).2 ((ev_run nm f ms (me - ms).toNat).1 - 1)) M') : ow_Sp C (EM A L N) (d + 2) mX3_value (0, 0) [(3, 59), (3, c), (0, ms), (0, me)] M K := by
  obtain ⟨c1, c2, c3⟩ := em_code (A := A) (L := L) (N := N) (M := M) hc
  refine fX3_value ?_
  intro N1 e1
  rw [show max 0 ms = ms by omega]
  refine ow_upto (S := ow_M) (P := fun i s => ow_At C (EM A L N) (d + 2) mX3_value 12 [(0, (3, 59)), (1, (3, c)), (3, (0, me)), (4, (0, i))] [] (0, 0) s K) (I := fun i s => ms ≤ i ∧ ow_of [61] [(59, 2)] M s ∧ fm_C s (ev_run nm f ms (i - ms).toNat)) me (fun s hI => ?_) (fun i s i1 hI ih => ?_) ms N1 h1 ⟨by omega, by rw [e1]; exact ow_of.rf.uf (by decide), ?_⟩
  · obtain ⟨i0, i2, i3⟩ := hI
    have hin := ev_run_in hnm hk (me - ms).toNat (Nat.le_refl _)
    have hle := ck_le hk (me - ms).toNat (Nat.le_refl _)
    have hs := hin.2.2.1
    refine cX3_value_12 ⟨fun _ => cX3_value_39 ?_, fun q => by omega⟩
    rw [i3.1]
    refine ⟨fun q => by omega, fun _ => ⟨⟨by omega, by omega⟩, ⟨by omega, by omega⟩, ?_⟩⟩
    rw [i3.2 _ (by omega) (by omega)]
    exact hK s i2
  · obtain ⟨i0, i2, i3⟩ := hI
    have cs := em_code (A := A) (L := L) (N := N) (M := s) hc
    have hin := ev_run_in hnm hk (i - ms).toNat (by omega)
    have hle := ck_le hk (i - ms).toNat (by omega)
    have hck := hk (i - ms).toNat (by omega)
    rw [show ms + (((i - ms).toNat : Nat) : Int) = i by omega] at hck
    have hsc : s c i = f i := by
      rw [i2.at (by rcases hc with e | e | e | e <;> subst e <;> decide) (by rcases hc with e | e | e | e <;> subst e <;> decide)]
      exact hf i i0 i1
    refine cX3_value_12 ⟨fun q => by omega, fun _ => ⟨⟨cs.1.1, cs.1.2.1, cs.1.2.2, by rw [c2]; omega, by rw [c2]; omega⟩, fun q => by rw [c2] at q; omega, fun _ => ⟨⟨cs.1.1, cs.1.2.1, cs.1.2.2, by omega, by rw [c2]; omega⟩, ?_⟩⟩⟩
    rw [cs.2.2 i, hsc]
    refine tX3_step hnm (fun k k0 k1 => by rw [i2.at (by decide) (by decide)]; exact hM k k0 k1) hck hin i3 (by omega) (fun M' o F => ⟨⟨by omega, by omega⟩, ih M' ⟨by omega, i2.tr o, ?_⟩⟩)
    rw [show (i + 1 - ms).toNat = (i - ms).toNat + 1 by omega]
    show fm_C M' (ev_st nm (f (ms + (((i - ms).toNat : Nat) : Int))) (ev_run nm f ms (i - ms).toNat))
    rw [show ms + (((i - ms).toNat : Nat) : Int) = i by omega]
    exact F
  · rw [show (ms - ms).toNat = 0 by omega]
    exact ⟨by rw [e1, ow_upS]; rfl, fun j j0 j1 => absurd (Int.lt_of_le_of_lt j0 j1) (Int.lt_irrefl 0)⟩
theorem tX12_clip {E : ow_E} {x : Int} (hK : K (ev_cl x) M) : ow_Sp C E d mX12_clip (0, 0) [(1, x)] M K := by
  have h1 := ow_lcq (a := x) (b := 1000000)
  have h2 := ow_lcq (a := x) (b := -1000000)
  unfold ev_cl at hK
  refine eX12_clip ⟨fun q => ⟨fun q2 => ?_, fun q2 => ?_⟩, fun q => ?_⟩
  · rw [show max (-1000000) (min 1000000 x) = x by omega] at hK; exact hK
  · rw [show max (-1000000) (min 1000000 x) = -1000000 by omega] at hK; exact hK
  · rw [show max (-1000000) (min 1000000 x) = 1000000 by omega] at hK; exact hK
theorem tX12_two {E : ow_E} {c l r : Int} (hc : -14 ≤ c ∧ c ≤ -11) (hl : -1000000 ≤ l ∧ l ≤ 1000000) (hr : -1000000 ≤ r ∧ r ≤ 1000000) (hK : K (ev_op c l r) M) : ow_Sp C E (d + 1) mX12_two (0, 0) [(0, -c - 8), (1, l), (1, r)] M K := by
  have hm := ev_mul hl hr
  have hd := ev_div (r := r) hl
  have hl0 := ow_lcq (a := r) (b := 0)
  refine eX12_two ⟨fun q => ⟨⟨by omega, by omega⟩, tX12_clip ?_⟩, fun n1 => ⟨fun q => ⟨⟨by omega, by omega⟩, tX12_clip ?_⟩, fun n2 => ⟨fun q => ⟨⟨by omega, by omega⟩, tX12_clip ?_⟩, fun n3 => ⟨fun q => ⟨by omega, ⟨by omega, by omega⟩, tX12_clip ?_⟩, fun q => ?_⟩⟩⟩⟩
  · have e : c = -11 := by omega
    subst e; simpa only [ev_op, if_true, if_false, Int.reduceNeg, Int.reduceEq] using hK
  · have e : c = -12 := by omega
    subst e; simpa only [ev_op, if_true, if_false, Int.reduceNeg, Int.reduceEq] using hK
  · have e : c = -13 := by omega
    subst e; simpa only [ev_op, if_true, if_false, Int.reduceNeg, Int.reduceEq] using hK
  · have e : c = -14 := by omega
    have r0 : r ≠ 0 := by omega
    subst e; simpa only [ev_op, if_true, if_false, Int.reduceNeg, Int.reduceEq, r0] using hK
  · have e : c = -14 := by omega
    have r0 : r = 0 := by omega
    subst e; subst r0; simpa only [ev_op, if_true, if_false, Int.reduceNeg, Int.reduceEq] using hK
theorem tX12_isAsked {E : ow_E} {c l r : Int} (hc : -20 ≤ c ∧ c ≤ -15) (hK : K (ev_op c l r) M) : ow_Sp C E d mX12_isAsked (0, 0) [(0, -c - 5), (1, l), (1, r)] M K := by
  have hlc := ow_lcq (a := l) (b := r)
  refine eX12_isAsked ⟨fun n1 => ⟨fun n2 => ⟨fun n3 => ⟨fun n4 => ⟨fun n5 => ⟨fun q => ?_, fun q => ?_⟩, fun n5 => ⟨fun q => ?_, fun q => ?_⟩⟩, fun n4 => ⟨fun q => ?_, fun q => ?_⟩⟩, fun n3 => ⟨fun q => ?_, fun q => ?_⟩⟩, fun n2 => ⟨fun q => ?_, fun q => ?_⟩⟩, fun n1 => ⟨fun q => ?_, fun q => ?_⟩⟩
  · have e : c = -20 := by omega
    have z : l = r := by omega
    subst e; simpa only [ev_op, if_true, if_false, Int.reduceNeg, Int.reduceEq, z] using hK
  · have e : c = -20 := by omega
    have z : l ≠ r := by omega
    subst e; simpa only [ev_op, if_true, if_false, Int.reduceNeg, Int.reduceEq, z] using hK
  · have e : c = -19 := by omega
    have z : l ≠ r := by omega
    subst e; simpa only [ev_op, if_true, if_false, Int.reduceNeg, Int.reduceEq, z] using hK
  · have e : c = -19 := by omega
    have z : l = r := by omega
    subst e; simpa only [ev_op, if_true, if_false, Int.reduceNeg, Int.reduceEq, z] using hK
  · have e : c = -18 := by omega
    have z : ¬ r ≤ l := by omega
    subst e; simpa only [ev_op, if_true, if_false, Int.reduceNeg, Int.reduceEq, z] using hK
  · have e : c = -18 := by omega
    have z : r ≤ l := by omega
    subst e; simpa only [ev_op, if_true, if_false, Int.reduceNeg, Int.reduceEq, z] using hK
  · have e : c = -17 := by omega
    have z : ¬ r < l := by omega
    subst e; simpa only [ev_op, if_true, if_false, Int.reduceNeg, Int.reduceEq, z] using hK
  · have e : c = -17 := by omega
    have z : r < l := by omega
    subst e; simpa only [ev_op, if_true, if_false, Int.reduceNeg, Int.reduceEq, z] using hK
  · have e : c = -16 := by omega
    have z : ¬ l ≤ r := by omega
    subst e; simpa only [ev_op, if_true, if_false, Int.reduceNeg, Int.reduceEq, z] using hK
  · have e : c = -16 := by omega
    have z : l ≤ r := by omega
    subst e; simpa only [ev_op, if_true, if_false, Int.reduceNeg, Int.reduceEq, z] using hK
  · have e : c = -15 := by omega
    have z : ¬ l < r := by omega
    subst e; simpa only [ev_op, if_true, if_false, Int.reduceNeg, Int.reduceEq, z] using hK
  · have e : c = -15 := by omega
    have z : l < r := by omega
    subst e; simpa only [ev_op, if_true, if_false, Int.reduceNeg, Int.reduceEq, z] using hK
theorem tX12_held {E : ow_E} {x : Int} (hx : -1000000 ≤ x ∧ x ≤ 1000000) (hK : K (max 1 (min 9 x)) M) : ow_Sp C E d mX12_held (0, 0) [(1, x), (0, 1), (0, 9)] M K := by
  have h1 := ow_lcq (a := x) (b := 1)
  have h2 := ow_lcq (a := x) (b := 9)
  refine eX12_held ⟨fun q => ⟨fun q2 => ⟨⟨by omega, by omega⟩, ?_⟩, fun q2 => ?_⟩, fun q => ?_⟩
  · rw [show max 1 (min 9 x) = x by omega] at hK; exact hK
  · rw [show max 1 (min 9 x) = 9 by omega] at hK; exact hK
  · rw [show max 1 (min 9 x) = 1 by omega] at hK; exact hK
/-- one code -/
theorem tX12_work1 {nm : Int → Int} {b x c n t i me : Int} {s : Int × (Int → Int)} (hnm : ev_nm nm) (hb : 0 ≤ b ∧ b ≤ 2500) (hx : 0 ≤ x ∧ x + 2 < 2720) (hi : 0 ≤ i ∧ i < me) (hbi : b + 2 * i + 1 < 2720) (hmi : me ≤ 300) (hme : M 86 (x + 2) = me) (ho : M 86 (b + 2 * i) = cm_o c) (hv : M 86 (b + 2 * i + 1) = cm_v c) (hM : ∀ k, 0 ≤ k → k < 6 → M 89 k = nm k) (hc : ck_ok c n t) (hin : ev_in n t s) (h3 : n + t ≤ i) (hF : wk_M M n t s.2) (hK : ∀ M', ow_off [90, 91] M M' → wk_M M' (ck_n c n) (ck_t c t) (ev_st nm c s).2 → ow_At C (EM A L N) (d + 2) mX12_work 47 [(0, (3, 83)), (2, (0, x)), (3, (0, b)), (4, (0, ck_n c n)), (5, (0, ck_t c t)), (6, (0, i + 1))] [] (0, 0) M' K) : ow_At C (EM A L N) (d + 2) mX12_work 47 [(0, (3, 83)), (2, (0, x)), (3, (0, b)), (4, (0, n)), (5, (0, t)), (6, (0, i))] [] (0, 0) M K := by
  obtain ⟨h1, h2, hs, h4, h5⟩ := hin
  obtain ⟨f1, f2⟩ := hF
  refine cX12_work_47 ⟨⟨by omega, by omega⟩, ⟨by omega, by omega⟩, fun q => by omega, fun _ => ⟨⟨by omega, by omega⟩, ⟨by omega, by omega⟩, ⟨by omega, by omega⟩, ⟨by omega, by omega⟩, ⟨by omega, by omega⟩, ?_⟩⟩
  rw [ho, hv]
  have I1 : ow_I (i + 1) := ⟨by omega, by omega⟩
  have J47 : ∀ (n' t' : Int) (s' : Int → Int) (M' : ow_M), n' = ck_n c n → t' = ck_t c t → s' = (ev_st nm c s).2 → ow_off [90, 91] M M' → wk_M M' n' t' s' → ow_At C (EM A L N) (d + 2) mX12_work 47 [(0, (3, 83)), (2, (0, x)), (3, (0, b)), (4, (0, n')), (5, (0, t')), (6, (0, i + 1))] [] (0, 0) M' K := by
    intro n' t' s' M' e1 e2 e3 o w
    rw [e1, e2]
    rw [e1, e2, e3] at w
    exact hK M' o w
  rcases hc with q | q | q | q | q | q | q
  · have e1 : n + 1 = ck_n c n := by unfold ck_n; rw [if_pos (by omega)]
    have e2 : t = ck_t c t := by unfold ck_t; rw [if_pos (by omega)]
    have e3 : bk_put s.2 s.1 c = (ev_st nm c s).2 := by unfold ev_st; rw [if_pos q.1]
    have eo : cm_o c = 0 := if_pos q.1
    have ev : cm_v c = c := if_pos q.1
    rw [eo, ev]
    refine ⟨fun z => absurd z (by decide), fun _ => ⟨fun z => absurd rfl z, fun _ => cX12_work_119 ⟨⟨by omega, by omega⟩, ?_⟩⟩⟩
    rintro N1 rfl
    refine ⟨⟨by omega, by omega⟩, I1, J47 _ _ _ _ e1 e2 e3 (ow_off.rf.up (by decide)) ⟨fun j j0 j1 => ?_, fun j j0 j1 => ?_⟩⟩
    · by_cases e : j = n
      · rw [e, ow_upS, show t + n = s.1 by omega, bk_put_s]
      · rw [ow_upN (Or.inr e), bk_put_n (by omega)]; exact f1 j j0 (by omega)
    · rw [ow_upN (Or.inl (by decide)), bk_put_n (by omega)]; exact f2 j j0 j1
  · have e1 : n + 1 = ck_n c n := by unfold ck_n; rw [if_pos (by omega)]
    have e2 : t = ck_t c t := by unfold ck_t; rw [if_pos (by omega)]
    have e3 : bk_put s.2 s.1 (nm (-1 - c)) = (ev_st nm c s).2 := by unfold ev_st; rw [if_neg (by omega), if_pos q.1]
    have eo : cm_o c = 1 := by unfold cm_o; rw [if_neg (by omega), if_pos q.1]
    have ev : cm_v c = -1 - c := by unfold cm_v; rw [if_neg (by omega), if_pos q.1]
    rw [eo, ev, hM _ (by omega) (by omega)]
    refine ⟨fun z => absurd z (by decide), fun _ => ⟨fun _ => ⟨⟨by omega, by omega⟩, cX12_work_119 ⟨⟨by omega, by omega⟩, ?_⟩⟩, fun z => absurd z (by decide)⟩⟩
    rintro N1 rfl
    refine ⟨⟨by omega, by omega⟩, I1, J47 _ _ _ _ e1 e2 e3 (ow_off.rf.up (by decide)) ⟨fun j j0 j1 => ?_, fun j j0 j1 => ?_⟩⟩
    · by_cases e : j = n
      · rw [e, ow_upS, show t + n = s.1 by omega, bk_put_s]
      · rw [ow_upN (Or.inr e), bk_put_n (by omega)]; exact f1 j j0 (by omega)
    · rw [ow_upN (Or.inl (by decide)), bk_put_n (by omega)]; exact f2 j j0 j1
  · have e1 : n = ck_n c n := by unfold ck_n; rw [if_neg (by omega), if_pos (by omega)]
    have e2 : t = ck_t c t := by unfold ck_t; rw [if_neg (by omega), if_neg (by omega), if_neg (by omega)]
    have e3 : bk_put s.2 (s.1 - 1) (-(s.2 (s.1 - 1))) = (ev_st nm c s).2 := by unfold ev_st; rw [if_neg (by omega), if_neg (by omega), if_pos q.1]
    have eo : cm_o c = 2 := by unfold cm_o; rw [if_neg (by omega), if_neg (by omega), if_pos q.1]
    have g := h5 (s.1 - 1) (by omega) (by omega)
    have g1 := f1 (n - 1) (by omega) (by omega)
    rw [show t + (n - 1) = s.1 - 1 by omega] at g1
    rw [eo, g1]
    refine ⟨fun _ => ⟨fun z => absurd rfl z, fun _ => ⟨⟨by omega, by omega⟩, ⟨by omega, by omega⟩, ⟨by omega, by omega⟩, ?_⟩⟩, fun z => absurd z (by decide)⟩
    rintro N1 rfl
    refine ⟨I1, J47 _ _ _ _ e1 e2 e3 (ow_off.rf.up (by decide)) ⟨fun j j0 j1 => ?_, fun j j0 j1 => ?_⟩⟩
    · by_cases e : j = n - 1
      · rw [e, ow_upS, show t + (n - 1) = s.1 - 1 by omega, bk_put_s]
      · rw [ow_upN (Or.inr e), bk_put_n (by omega)]; exact f1 j j0 (by omega)
    · rw [ow_upN (Or.inl (by decide)), bk_put_n (by omega)]; exact f2 j j0 j1
  · have e1 : n = ck_n c n := by unfold ck_n; rw [if_neg (by omega), if_pos (by omega)]
    have e2 : t = ck_t c t := by unfold ck_t; rw [if_neg (by omega), if_neg (by omega), if_neg (by omega)]
    have e3 : bk_put s.2 (s.1 - 1) (1 - (s.2 (s.1 - 1))) = (ev_st nm c s).2 := by unfold ev_st; rw [if_neg (by omega), if_neg (by omega), if_neg (by omega), if_pos q.1]
    have eo : cm_o c = 20 := by unfold cm_o; rw [if_neg (by omega), if_neg (by omega), if_neg (by omega), if_neg (by omega), if_neg (by omega), if_pos q.1]
    have g := h4 (s.1 - 1) (by omega) (by omega)
    have g1 := f2 (t - 1) (by omega) (by omega)
    have eh : t - 1 = s.1 - 1 := by omega
    have fin : ∀ v, v = 1 - s.2 (s.1 - 1) → ow_At C (EM A L N) (d + 2) mX12_work 273 [(0, (3, 83)), (2, (0, x)), (3, (0, b)), (4, (0, n)), (5, (0, t)), (6, (0, i))] [(0, v), (0, t - 1), (3, 91)] (0, 0) M K := by
      intro v hv
      refine cX12_work_273 ⟨⟨by omega, by omega⟩, by omega, ?_⟩
      rintro N1 rfl
      refine ⟨I1, J47 _ _ _ _ e1 e2 e3 (ow_off.rf.up (by decide)) ⟨fun j j0 j1 => by omega, fun j j0 j1 => ?_⟩⟩
      by_cases e : j = t - 1
      · rw [e, ow_upS, eh, bk_put_s]; exact hv
      · rw [ow_upN (Or.inr e), bk_put_n (by omega)]; exact f2 j j0 j1
    rw [eo, g1, eh]
    rw [eh] at fin
    exact ⟨fun _ => ⟨fun _ => ⟨fun _ => ⟨fun _ => ⟨fun z => absurd rfl z, fun _ => ⟨⟨by omega, by omega⟩, ⟨by omega, by omega⟩, fun z => fin 0 (by omega), fun z => fin 1 (by omega)⟩⟩, fun z => absurd z (by decide)⟩, fun z => absurd z (by decide)⟩, fun z => absurd z (by decide)⟩, fun z => absurd z (by decide)⟩
  · have e1 : n + (-1) = ck_n c n := by unfold ck_n; rw [if_neg (by omega), if_neg (by omega), if_pos (by omega)]; omega
    have e2 : t = ck_t c t := by unfold ck_t; rw [if_pos (by omega)]
    have e3 : bk_put s.2 (s.1 - 2) (ev_op c (s.2 (s.1 - 2)) (s.2 (s.1 - 1))) = (ev_st nm c s).2 := by unfold ev_st; rw [if_neg (by omega), if_neg (by omega), if_neg (by omega), if_neg (by omega)]
    have eo : cm_o c = -c - 8 := by unfold cm_o; rw [if_neg (by omega), if_neg (by omega), if_neg (by omega), if_pos (by omega)]
    have g1 := f1 (n + (-1) - 1) (by omega) (by omega)
    have g2 := f1 (n + (-1)) (by omega) (by omega)
    rw [show t + (n + (-1) - 1) = s.1 - 2 by omega] at g1
    rw [show t + (n + (-1)) = s.1 - 1 by omega] at g2
    rw [eo, g1, g2]
    refine ⟨fun _ => ⟨fun _ => ⟨fun z => by omega, fun _ => ⟨⟨by omega, by omega⟩, ⟨by omega, by omega⟩, ⟨by omega, by omega⟩, ⟨by omega, by omega⟩, tX12_two ⟨q.1, q.2.1⟩ (h5 _ (by omega) (by omega)) (h5 _ (by omega) (by omega)) ?_⟩⟩, fun z => by omega⟩, fun z => by omega⟩
    rintro N1 rfl
    refine ⟨I1, J47 _ _ _ _ e1 e2 e3 (ow_off.rf.up (by decide)) ⟨fun j j0 j1 => ?_, fun j j0 j1 => ?_⟩⟩
    · by_cases e : j = n + (-1) - 1
      · rw [e, ow_upS, show t + (n + (-1) - 1) = s.1 - 2 by omega, bk_put_s]
      · rw [ow_upN (Or.inr e), bk_put_n (by omega)]; exact f1 j j0 (by omega)
    · rw [ow_upN (Or.inl (by decide)), bk_put_n (by omega)]; exact f2 j j0 j1
  · have e1 : n + (-2) = ck_n c n := by unfold ck_n; rw [if_neg (by omega), if_neg (by omega), if_neg (by omega)]; omega
    have e2 : t + 1 = ck_t c t := by unfold ck_t; rw [if_neg (by omega), if_pos (by omega)]
    have e3 : bk_put s.2 (s.1 - 2) (ev_op c (s.2 (s.1 - 2)) (s.2 (s.1 - 1))) = (ev_st nm c s).2 := by unfold ev_st; rw [if_neg (by omega), if_neg (by omega), if_neg (by omega), if_neg (by omega)]
    have eo : cm_o c = -c - 5 := by unfold cm_o; rw [if_neg (by omega), if_neg (by omega), if_neg (by omega), if_neg (by omega), if_pos (by omega)]
    have g1 := f1 (n + (-2)) (by omega) (by omega)
    have g2 := f1 (n + (-2) + 1) (by omega) (by omega)
    rw [show t + (n + (-2)) = s.1 - 2 by omega] at g1
    rw [show t + (n + (-2) + 1) = s.1 - 1 by omega] at g2
    have gr := (ev_op_rg (c := c) (l := s.2 (s.1 - 2)) (r := s.2 (s.1 - 1))).2 (by omega) (by omega)
    rw [eo, g1, g2]
    refine ⟨fun _ => ⟨fun _ => ⟨fun _ => ⟨fun z => by omega, fun _ => ⟨⟨by omega, by omega⟩, ⟨by omega, by omega⟩, ⟨by omega, by omega⟩, ⟨by omega, by omega⟩, tX12_isAsked ⟨q.1, q.2.1⟩ ⟨⟨by omega, by omega⟩, gr, ?_⟩⟩⟩, fun z => by omega⟩, fun z => by omega⟩, fun z => by omega⟩
    rintro N1 rfl
    refine ⟨⟨by omega, by omega⟩, I1, J47 _ _ _ _ e1 e2 e3 (ow_off.rf.up (by decide)) ⟨fun j j0 j1 => by omega, fun j j0 j1 => ?_⟩⟩
    by_cases e : j = t
    · rw [e, ow_upS, show t = s.1 - 2 by omega, bk_put_s]
    · rw [ow_upN (Or.inr e), bk_put_n (by omega)]; exact f2 j j0 (by omega)
  · have e1 : n = ck_n c n := by unfold ck_n; rw [if_neg (by omega), if_pos (by omega)]
    have e2 : t + (-1) = ck_t c t := by unfold ck_t; rw [if_neg (by omega), if_neg (by omega), if_pos (by omega)]; omega
    have e3 : bk_put s.2 (s.1 - 2) (ev_op c (s.2 (s.1 - 2)) (s.2 (s.1 - 1))) = (ev_st nm c s).2 := by unfold ev_st; rw [if_neg (by omega), if_neg (by omega), if_neg (by omega), if_neg (by omega)]
    have g1 := f2 (t + (-1) - 1) (by omega) (by omega)
    have g2 := f2 (t + (-1)) (by omega) (by omega)
    have a1 := h4 (s.1 - 2) (by omega) (by omega)
    have a2 := h4 (s.1 - 1) (by omega) (by omega)
    have eh : t + (-1) - 1 = s.1 - 2 := by omega
    have fin : ∀ v, v = ev_op c (s.2 (s.1 - 2)) (s.2 (s.1 - 1)) → (v = 0 ∨ v = 1) → ow_At C (EM A L N) (d + 2) mX12_work 352 [(0, (3, 83)), (2, (0, x)), (3, (0, b)), (4, (0, n)), (5, (0, t + (-1))), (6, (0, i))] [(0, v), (0, t + (-1) - 1), (3, 91)] (0, 0) M K := by
      intro v hv v01
      refine cX12_work_352 ⟨⟨by omega, by omega⟩, v01, ?_⟩
      rintro N1 rfl
      refine ⟨I1, J47 _ _ _ _ e1 e2 e3 (ow_off.rf.up (by decide)) ⟨fun j j0 j1 => by omega, fun j j0 j1 => ?_⟩⟩
      by_cases e : j = t + (-1) - 1
      · rw [e, ow_upS, eh, bk_put_s]; exact hv
      · rw [ow_upN (Or.inr e), bk_put_n (by omega)]; exact f2 j j0 (by omega)
    rw [eh] at g1 fin
    rw [show t + (-1) = s.1 - 1 by omega] at g2
    rw [eh]
    rw [show t + (-1) = s.1 - 1 by omega] at fin ⊢
    rw [g1, g2]
    by_cases ea : c = -21
    · have eo : cm_o c = 21 := by rw [ea]; decide
      rw [eo]
      refine ⟨fun _ => ⟨fun _ => ⟨fun _ => ⟨fun _ => ⟨fun _ => ⟨⟨by omega, by omega⟩, ⟨by omega, by omega⟩, fun z => absurd rfl z, fun _ => ⟨⟨by omega, by omega⟩, fun z => fin 0 ?_ (Or.inl rfl), fun z => ⟨⟨by omega, by omega⟩, fun z2 => fin 0 ?_ (Or.inl rfl), fun z2 => fin 1 ?_ (Or.inr rfl)⟩⟩⟩, fun z => absurd z (by decide)⟩, fun z => absurd z (by decide)⟩, fun z => absurd z (by decide)⟩, fun z => absurd z (by decide)⟩, fun z => absurd z (by decide)⟩
      · subst ea; simp only [ev_op, if_true, if_false, Int.reduceNeg, Int.reduceEq, z]
      · subst ea; simp only [ev_op, if_true, if_false, Int.reduceNeg, Int.reduceEq, z2, ite_self]
      · subst ea; simp only [ev_op, if_true, if_false, Int.reduceNeg, Int.reduceEq, z, z2]
    · have ea' : c = -22 := by omega
      have eo : cm_o c = 22 := by rw [ea']; decide
      rw [eo]
      refine ⟨fun _ => ⟨fun _ => ⟨fun _ => ⟨fun _ => ⟨fun _ => ⟨⟨by omega, by omega⟩, ⟨by omega, by omega⟩, fun _ => ⟨⟨by omega, by omega⟩, fun z => fin 1 ?_ (Or.inr rfl), fun z => ⟨⟨by omega, by omega⟩, fun z2 => fin 0 ?_ (Or.inl rfl), fun z2 => fin 1 ?_ (Or.inr rfl)⟩⟩, fun z => absurd z (by decide)⟩, fun z => absurd z (by decide)⟩, fun z => absurd z (by decide)⟩, fun z => absurd z (by decide)⟩, fun z => absurd z (by decide)⟩, fun z => absurd z (by decide)⟩
      · subst ea'; simp only [ev_op, if_true, if_false, Int.reduceNeg, Int.reduceEq, z]
      · subst ea'; simp only [ev_op, if_true, if_false, Int.reduceNeg, Int.reduceEq, z, z2]
      · subst ea'; simp only [ev_op, if_true, if_false, Int.reduceNeg, Int.reduceEq, z, z2]
theorem tX12_work {nm f : Int → Int} {r k ms me : Int} (hr : M 84 1 = r) (hr2 : 0 ≤ r ∧ r < 4) (hk : 0 ≤ k ∧ k < 24) (hnm : ev_nm nm) (hM : ∀ k, 0 ≤ k → k < 6 → M 89 k = nm k) (h0 : 0 ≤ ms) (h1 : ms ≤ me) (h2 : me ≤ 300) (hms : M 86 (680 * r + 1 + 3 * k + 1) = ms) (hme : M 86 (680 * r + 1 + 3 * k + 2) = me) (hf : ∀ i, ms ≤ i → i < me → M 86 (680 * r + 75 + 2 * i) = cm_o (f i) ∧ M 86 (680 * r + 75 + 2 * i + 1) = cm_v (f i)) (hck : ck_all f ms (me - ms).toNat) (hK : ∀ M', ow_off [90, 91] M M' → wk_M M' (ck_run f ms (me - ms).toNat).1 (ck_run f ms (me - ms).toNat).2 (ev_run nm f ms (me - ms).toNat).2 → K 0 M') : ow_Sp C (EM A L N) (d + 2) mX12_work (0, 0) [(3, 83), (0, k)] M K := by
  refine fX12_work ?_
  rw [hr, hms]
  refine ⟨⟨by omega, by omega⟩, ⟨by omega, by omega⟩, ⟨by omega, by omega⟩, ⟨by omega, by omega⟩, ⟨by omega, by omega⟩, ⟨by omega, by omega⟩, ⟨by omega, by omega⟩, ?_⟩
  have key := ow_upto (S := ow_M) (P := fun i s => ow_At C (EM A L N) (d + 2) mX12_work 47 [(0, (3, 83)), (2, (0, 680 * r + 1 + 3 * k)), (3, (0, 680 * r + 75)), (4, (0, (ck_run f ms (i - ms).toNat).1)), (5, (0, (ck_run f ms (i - ms).toNat).2)), (6, (0, i))] [] (0, 0) s K) (I := fun i s => ms ≤ i ∧ ow_off [90, 91] M s ∧ wk_M s (ck_run f ms (i - ms).toNat).1 (ck_run f ms (i - ms).toNat).2 (ev_run nm f ms (i - ms).toNat).2) me (fun s hI => ?_) (fun i s i1 hI ih => ?_) ms M h1 ?_
  · rw [show (ms - ms).toNat = 0 by omega] at key
    exact key
  · obtain ⟨i0, i2, i3⟩ := hI
    have e : s 86 (680 * r + 1 + 3 * k + 2) = me := by rw [i2 86 (by decide)]; exact hme
    refine cX12_work_47 ⟨⟨by omega, by omega⟩, ⟨by omega, by omega⟩, fun _ => hK s i2 i3, fun q => by omega⟩
  · obtain ⟨i0, i2, i3⟩ := hI
    have hin := ev_run_in hnm hck (i - ms).toNat (by omega)
    have hle := ck_le hck (i - ms).toNat (by omega)
    have hc := hck (i - ms).toNat (by omega)
    have ei : ms + (((i - ms).toNat : Nat) : Int) = i := by omega
    rw [ei] at hc
    have e86 : ∀ j, s 86 j = M 86 j := i2 86 (by decide)
    refine tX12_work1 hnm (by omega) (by omega) ⟨by omega, i1⟩ (by omega) h2 (by rw [e86]; exact hme) (by rw [e86]; exact (hf i i0 i1).1) (by rw [e86]; exact (hf i i0 i1).2) (fun k k0 k1 => by rw [i2 89 (by decide)]; exact hM k k0 k1) hc hin (by omega) i3 (fun M' o w => ?_)
    have en : (i + 1 - ms).toNat = (i - ms).toNat + 1 := by omega
    have er : ck_run f ms (i + 1 - ms).toNat = (ck_n (f i) (ck_run f ms (i - ms).toNat).1, ck_t (f i) (ck_run f ms (i - ms).toNat).2) := by
      rw [en]
      show (ck_n (f (ms + (((i - ms).toNat : Nat) : Int))) _, ck_t (f (ms + (((i - ms).toNat : Nat) : Int))) _) = _
      rw [ei]
    have ee : ev_run nm f ms (i + 1 - ms).toNat = ev_st nm (f i) (ev_run nm f ms (i - ms).toNat) := by
      rw [en]
      show ev_st nm (f (ms + (((i - ms).toNat : Nat) : Int))) _ = _
      rw [ei]
    have := ih M' ⟨by omega, i2.tr o, by rw [er, ee]; exact w⟩
    rw [er] at this
    exact this
  · refine ⟨by omega, ow_off.rf, ?_⟩
    rw [show (ms - ms).toNat = 0 by omega]
    exact ⟨fun j j0 j1 => absurd (Int.lt_of_le_of_lt j0 j1) (Int.lt_irrefl 0), fun j j0 j1 => absurd (Int.lt_of_le_of_lt j0 j1) (Int.lt_irrefl 0)⟩
end WKS
