/-! ===== the reference's ways, whole ===== -/
def fw_ok (A L N : Int) (T : ow_M) (fr : Int) (k : Nat) (f : Int → Int) : Prop := wy_s N L f ∧ ow_sm f 2304 ≤ 108 ^ k ∧ ∀ (into : Int) (m : Nat), ow_sm (fun x => f x * bw A L T into m k (x / 9) (x % 9)) 2304 = bw A L T into (k + m) 0 fr 0
section WY2
variable {C : ow_C} {A L N : Int} {d : Nat} {M T : ow_M} {K : Int → ow_M → Prop}
theorem wt_bw (h : em_ok A L N) {into hand w bh : Int} {m : Nat} : wt A L T (fun x => bw A L T into m (hand + 1) (x / 9) (x % 9)) hand w bh = bw A L T into (m + 1) hand w bh := by
  have hD := vx_D h
  have hA1 := h.1
  have hL := h.2.2.2.1
  unfold wt
  show _ = ow_sm (fun z => cw A L T hand w bh z * bw A L T into m (hand + 1) (em_ch A L w (z / A) (z % A)) (z / A + 1)) (L * A)
  refine ow_sm_cg (by omega) (fun z z0 z1 => ?_)
  have c2 : 0 ≤ z / A := Int.ediv_nonneg z0 (by omega)
  have c3 : z / A < L := Int.ediv_lt_of_lt_mul (by omega) z1
  show cw A L T hand w bh z * bw A L T into m (hand + 1) ((9 * em_ch A L w (z / A) (z % A) + (z / A + 1)) / 9) ((9 * em_ch A L w (z / A) (z % A) + (z / A + 1)) % 9) = _
  rw [show (9 * em_ch A L w (z / A) (z % A) + (z / A + 1)) / 9 = em_ch A L w (z / A) (z % A) by omega, show (9 * em_ch A L w (z / A) (z % A) + (z / A + 1)) % 9 = z / A + 1 by omega]
theorem fw_step (h : em_ok A L N) {fr : Int} {k : Nat} {f f' : Int → Int} (hf : fw_ok A L N T fr k f) (hs : wy_s N L f') (ht : ∀ q : Int → Int, ow_sm (fun x => f' x * q x) 2304 = ow_sm (fun y => f y * wt A L T q k (y / 9) (y % 9)) 2304) : fw_ok A L N T fr (k + 1) f' := by
  obtain ⟨f1, f2, f3⟩ := hf
  refine ⟨hs, ?_, fun into m => ?_⟩
  · have one : ow_sm f' 2304 = ow_sm (fun y => f y * wt A L T (fun _ => 1) k (y / 9) (y % 9)) 2304 := by
      have := ht (fun _ => 1)
      simp only [Int.mul_one] at this
      exact this
    have b1 : ow_sm (fun y => f y * wt A L T (fun _ => 1) k (y / 9) (y % 9)) 2304 ≤ ow_sm (fun y => 108 * f y) 2304 := by
      refine ow_sm_le (by decide) (fun y y0 y1 => ?_)
      rw [wt_1 h, Int.mul_comm 108]
      exact Int.mul_le_mul_of_nonneg_left (cw_sum h).2 (f1.1 y y0 y1)
    rw [ow_sm_mul (g := f) (by decide)] at b1
    rw [one, Int.pow_succ]
    omega
  · have e := ht (fun x => bw A L T into m ((k : Int) + 1) (x / 9) (x % 9))
    have e2 : (fun y => f y * wt A L T (fun x => bw A L T into m ((k : Int) + 1) (x / 9) (x % 9)) k (y / 9) (y % 9)) = (fun y => f y * bw A L T into (m + 1) k (y / 9) (y % 9)) := by
      funext y; rw [wt_bw h]
    rw [e2, f3 into (m + 1)] at e
    rw [show k + 1 + m = k + (m + 1) by omega]
    rw [show ((k + 1 : Nat) : Int) = (k : Int) + 1 by omega]
    exact e
theorem tX12_begin (h : em_ok A L N) {fr : Int} (hw : 0 ≤ fr ∧ fr < N) (hK : ∀ M', ow_off [93] M M' → fw_ok A L N T fr 0 (M' 93) → K 0 M') : ow_Sp C (EM A L N) d mX12_begin (0, 0) [(3, 83), (0, fr)] M K := by
  have hN2 := h.2.2.2.2.2
  have hL3 := h.2.2.1
  refine fX12_begin ?_
  refine ow_upto (S := ow_M) (P := fun i s => ow_At C (EM A L N) d mX12_begin 2 [(0, (3, 83)), (1, (0, fr)), (2, (0, i))] [] (0, 0) s K) (I := fun i s => 0 ≤ i ∧ ow_off [93] M s ∧ ∀ x, 0 ≤ x → x < i → s 93 x = 0) 2304 (fun s hI => ?_) (fun i s i1 hI ih => ?_) 0 M (by omega) ⟨by omega, ow_off.rf, fun x x0 x1 => by omega⟩
  · obtain ⟨_, i2, i3⟩ := hI
    refine cX12_begin_2 ⟨fun _ => ⟨⟨by omega, by omega⟩, ⟨by omega, by omega⟩, fun N1 e1 => hK N1 (by rw [e1]; exact i2.up (by decide)) ?_⟩, fun q => by omega⟩
    have ev : ∀ x, 0 ≤ x → x < 2304 → N1 93 x = bk_put (fun _ => 0) (9 * fr) (0 + 1) x := by
      intro x x0 x1
      rw [e1, ow_up_f]
      by_cases e : x = 9 * fr
      · rw [e, bk_put_s, bk_put_s]; rfl
      · rw [bk_put_n e, bk_put_n e]; exact i3 x x0 x1
    have key : ∀ q : Int → Int, ow_sm (fun x => N1 93 x * q x) 2304 = q (9 * fr) := by
      intro q
      rw [ow_sm_cg (g' := fun x => bk_put (fun _ => 0) (9 * fr) (0 + 1) x * q x) (by decide) (fun x x0 x1 => by rw [ev x x0 x1])]
      rw [ow_sm_put (f := fun _ => 0) (g := q) (v := 1) ⟨by omega, by omega⟩]
      simp only [Int.zero_mul, Int.one_mul]
      rw [ow_sm_z (by decide), Int.zero_add]
    refine ⟨⟨fun x x0 x1 => ?_, fun x x0 x1 hx => ?_⟩, ?_, fun into m => ?_⟩
    · rw [ev x x0 x1]
      by_cases e : x = 9 * fr
      · rw [e, bk_put_s]; decide
      · rw [bk_put_n e]; exact Int.le_refl 0
    · rw [ev x x0 x1, bk_put_n (fun e => hx (by omega))]
    · have := key (fun _ => 1)
      simp only [Int.mul_one] at this
      have t2 : ow_sm (N1 93) 2304 = 1 := this
      rw [t2]; exact Int.le_refl _
    · rw [key, show 9 * fr / 9 = fr by omega, show 9 * fr % 9 = 0 by omega, show 0 + m = m by omega]; rfl
  · obtain ⟨i0, i2, i3⟩ := hI
    refine cX12_begin_2 ⟨fun q => by omega, fun _ => ⟨⟨i0, by omega⟩, fun N1 e1 => ⟨⟨by omega, by omega⟩, ih N1 ⟨by omega, by rw [e1]; exact i2.up (by decide), fun x x0 x1 => ?_⟩⟩⟩⟩
    by_cases e : x = i
    · rw [e, e1, ow_upS]
    · rw [e1, ow_upN (Or.inr e)]; exact i3 x x0 (by omega)
theorem tX12_waysTo (h : em_ok A L N) {fr into : Int} {k : Nat} (hk : k ≤ 8) (hf : fw_ok A L N T fr k (M 93)) (hi : 0 ≤ into ∧ into < N) (hK : K (bw A L T into k 0 fr 0) M) : ow_Sp C (EM A L N) d mX12_waysTo (0, 0) [(3, 83), (0, into)] M K := by
  have hN2 := h.2.2.2.2.2
  have hL3 := h.2.2.1
  have hL := h.2.2.2.1
  obtain ⟨f1, f2, f3⟩ := hf
  have b8 := em_108 k hk
  have e := f3 into 0
  have g0 : ∀ x, 0 ≤ x → x < 2304 → 0 ≤ M 93 x * bw A L T into 0 k (x / 9) (x % 9) := fun x x0 x1 => Int.mul_nonneg (f1.1 x x0 x1) (bw_rg h 0 _ _ _).1
  have gz : ∀ x, 0 ≤ x → x < 2304 → (x / 9 ≠ into ∨ L < x % 9) → M 93 x * bw A L T into 0 k (x / 9) (x % 9) = 0 := by
    intro x x0 x1 hx
    rcases hx with q | q
    · have : bw A L T into 0 k (x / 9) (x % 9) = 0 := if_neg q
      rw [this, Int.mul_zero]
    · rw [f1.2 x x0 x1 (by omega), Int.zero_mul]
  have le1 : ow_sm (fun x => M 93 x * bw A L T into 0 k (x / 9) (x % 9)) 2304 ≤ ow_sm (M 93) 2304 := by
    refine ow_sm_le (by decide) (fun x x0 x1 => ?_)
    have := Int.mul_le_mul_of_nonneg_left (bw_rg h (T := T) (into := into) 0 k (x / 9) (x % 9)).2 (f1.1 x x0 x1)
    rw [Int.pow_zero, Int.mul_one] at this
    exact this
  refine fX12_waysTo ?_
  refine ow_upto (S := Int) (P := fun l s => ow_At C (EM A L N) d mX12_waysTo 5 [(0, (3, 83)), (1, (0, into)), (2, (1, s)), (4, (0, l))] [] (0, 0) M K) (I := fun l s => 0 ≤ l ∧ s = ow_sm (fun x => M 93 x * bw A L T into 0 k (x / 9) (x % 9)) (9 * into + l)) (L + 1) (fun s hI => ?_) (fun l s l1 hI ih => ?_) 0 0 (by omega) ⟨by omega, ?_⟩
  · refine cX12_waysTo_5 ⟨fun _ => ?_, fun q => by omega⟩
    rw [hI.2, ← ow_sm_zz (i := 9 * into + (L + 1)) (j := 2304) (by omega) (by omega) (fun x x0 x1 => gz x (by omega) x1 (by omega)), e]
    exact hK
  · obtain ⟨l0, l2⟩ := hI
    have v : M 93 (9 * into + l) * bw A L T into 0 k ((9 * into + l) / 9) ((9 * into + l) % 9) = M 93 (9 * into + l) := by
      have : bw A L T into 0 k ((9 * into + l) / 9) ((9 * into + l) % 9) = 1 := if_pos (by omega)
      rw [this, Int.mul_one]
    have up := ow_sm_up (g := fun x => M 93 x * bw A L T into 0 k (x / 9) (x % 9)) (i := 9 * into + l + 1) (j := 2304) (by omega) (by omega) g0
    rw [ow_smS (by omega), v] at up
    have nn := ow_sm_nn (g := fun x => M 93 x * bw A L T into 0 k (x / 9) (x % 9)) (n := 9 * into + l) (by omega) (fun x x0 x1 => g0 x x0 (by omega))
    have p0 := f1.1 (9 * into + l) (by omega) (by omega)
    refine cX12_waysTo_5 ⟨fun q => by omega, fun _ => ⟨⟨by omega, by omega⟩, ⟨by omega, by omega⟩, ⟨by omega, by omega⟩, ⟨by omega, by omega⟩, ⟨by omega, by omega⟩, ih (s + M 93 (9 * into + l)) ⟨by omega, ?_⟩⟩⟩
    rw [← Int.add_assoc, ow_smS (by omega), v, l2]
  · rw [Int.add_zero, ow_sm_zz (i := 0) (j := 9 * into) (by omega) (by omega) (fun x x0 x1 => gz x (by omega) (by omega) (by omega))]
    rfl
theorem tX12_waysOf (h : em_ok A L N) (hm : mc_ok M T) {fr into n : Int} (hw : 0 ≤ fr ∧ fr < N) (hi : 0 ≤ into ∧ into < N) (hn : 0 ≤ n ∧ n ≤ 8) (hK : ∀ M', ow_off [89, 90, 91, 92, 93, 94] M M' → mc_ok M' T → fw_ok A L N T fr n.toNat (M' 93) → K (bw A L T into n.toNat 0 fr 0) M') : ow_Sp C (EM A L N) (d + 7) mX12_waysOf (0, 0) [(3, 83), (0, fr), (0, into), (0, n)] M K := by
  refine fX12_waysOf (tX12_begin (T := T) h hw (fun M1 o1 f1 => ?_))
  have o1' : ow_off [89, 90, 91, 92, 93, 94] M M1 := o1.mono (fun c hc => by simp at hc; subst hc; decide)
  refine ow_upto (S := ow_M) (P := fun j s => ow_At C (EM A L N) (d + 7) mX12_waysOf 8 [(0, (3, 83)), (2, (0, into)), (3, (0, n)), (4, (0, j))] [] (0, 0) s K) (I := fun j s => 0 ≤ j ∧ ow_off [89, 90, 91, 92, 93, 94] M s ∧ mc_ok s T ∧ fw_ok A L N T fr j.toNat (s 93)) n (fun s hI => ?_) (fun j s j1 hI ih => ?_) 0 M1 hn.1 ⟨by omega, o1', hm.fr (ow_of.off o1) (by decide) (by decide) (by decide) (by decide) (by decide) (by decide) (by decide) (by decide) (by decide), f1⟩
  · obtain ⟨_, i2, i3, i4⟩ := hI
    exact cX12_waysOf_8 ⟨fun _ => tX12_waysTo h (by omega) i4 hi (hK s i2 i3 i4), fun q => by omega⟩
  · obtain ⟨j0, i2, i3, i4⟩ := hI
    have ej : ((j.toNat : Nat) : Int) = j := by omega
    have b7 : (108 : Int) ^ j.toNat * 108 ≤ 18509302102818816 := by
      have := em_108 (j.toNat + 1) (by omega)
      rw [Int.pow_succ] at this
      exact this
    have b6 := i4.2.1
    refine cX12_waysOf_8 ⟨fun q => by omega, fun _ => tX12_goOn h i3 ⟨j0, by omega⟩ i4.1 (by omega) (fun M2 o2 m2 w2 t2 => ⟨⟨by omega, by omega⟩, ih M2 ⟨by omega, i2.tr o2, m2, ?_⟩⟩)⟩
    rw [show (j + 1).toNat = j.toNat + 1 by omega]
    refine fw_step h i4 w2 (fun q => ?_)
    rw [ej]; exact t2 q
/-- what is asked of words and hands -/
def as_ok (N fr into n : Int) : Prop := ((0 ≤ fr ∧ fr < N) ∧ 0 ≤ into ∧ into < N) ∧ 0 ≤ n ∧ n ≤ 8
theorem tX12_areAsked (h : em_ok A L N) {fr into n : Int} (h1 : ¬ as_ok N fr into n → K 0 M) (h2 : as_ok N fr into n → K 1 M) : ow_Sp C (EM A L N) (d + 2) mX12_areAsked (0, 0) [(3, 83), (0, fr), (0, into), (0, n)] M K := by
  refine fX12_areAsked (tX12_isWord0 h (fun q => ⟨fun _ => h1 (fun z => q z.1.1), fun z => absurd rfl z⟩) (fun q1 => ⟨fun z => absurd z (by decide), fun _ => tX12_isWord0 h (fun q => ⟨fun _ => h1 (fun z => q z.1.2), fun z => absurd rfl z⟩) (fun q2 => ⟨fun z => absurd z (by decide), fun _ => tX12_isIn (fun q => ⟨fun _ => h1 (fun z => q z.2), fun z => absurd rfl z⟩) (fun q3 => ⟨fun z => absurd z (by decide), fun _ => h2 ⟨⟨q1, q2⟩, q3⟩⟩)⟩)⟩))
theorem tX12_ways (h : em_ok A L N) (hc : cu_M N M T) {fr into n : Int} (h0 : ¬ as_ok N fr into n → K (-1) M) (hK : as_ok N fr into n → ∀ M', ow_of [89, 90, 91, 92, 93, 94] [(83, 27), (83, 28)] M M' → K (bw A L T into n.toNat 0 fr 0) M') : ow_Sp C (EM A L N) (d + 8) mX12_ways (0, 0) [(3, 83), (0, fr), (0, into), (0, n)] M K := by
  refine fX12_ways (tX12_areAsked h (fun q => ⟨fun z => absurd rfl z, fun _ => h0 q⟩) (fun q => ⟨fun _ => tX12_rule hc (fun M1 o1 m1 => tX12_waysOf h m1 q.1.1 q.1.2 q.2 (fun M2 o2 m2 f2 => hK q M2 ?_)), fun z => absurd z (by decide)⟩))
  exact (o1.mono (fun c hc => by simp at hc; subst hc; decide) (fun x hx => Or.inr hx)).tr ((ow_of.off o2).mono (fun c hc => hc) (fun x hx => by simp at hx))
end WY2
