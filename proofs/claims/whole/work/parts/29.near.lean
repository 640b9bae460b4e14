/-! ===== counting and picking ===== -/
def ow_ctn (q : Int → Bool) : Nat → Int
  | 0 => 0
  | n + 1 => ow_ctn q n + (if q n = true then 1 else 0)
def ow_ct (q : Int → Bool) (i : Int) : Int := ow_ctn q i.toNat
theorem ow_ct0 {q : Int → Bool} : ow_ct q 0 = 0 := rfl
theorem ow_ctS {q : Int → Bool} {i : Int} (h : 0 ≤ i) : ow_ct q (i + 1) = ow_ct q i + (if q i = true then 1 else 0) := by
  unfold ow_ct
  rw [show (i + 1).toNat = i.toNat + 1 by omega]
  simp only [ow_ctn, show ((i.toNat : Nat) : Int) = i by omega]
theorem ow_ct_rg {q : Int → Bool} {i : Int} (h : 0 ≤ i) : 0 ≤ ow_ct q i ∧ ow_ct q i ≤ i := by
  have key : ∀ n : Nat, 0 ≤ ow_ctn q n ∧ ow_ctn q n ≤ n := by
    intro n
    induction n with
    | zero => simp [ow_ctn]
    | succ n ih => simp only [ow_ctn]; split <;> omega
  have := key i.toNat
  unfold ow_ct
  omega
/-- the i-th of those that q asks for -/
def ow_pkn (q : Int → Bool) (g : Int → Int) (i : Int) : Nat → Option Int
  | 0 => none
  | n + 1 => match ow_pkn q g i n with
    | some v => some v
    | none => if q n = true ∧ ow_ct q n = i then some (g n) else none
def ow_pk (q : Int → Bool) (g : Int → Int) (i n : Int) : Option Int := ow_pkn q g i n.toNat
/-- what such a search answers -/
def ow_pv (q : Int → Bool) (g : Int → Int) (i n : Int) : Int := (ow_pk q g i n).getD (if i = -1 then ow_ct q n else -1)
theorem ow_pkS {q : Int → Bool} {g : Int → Int} {i k : Int} (h : 0 ≤ k) (h0 : ow_pk q g i k = none) (h1 : ¬ (q k = true ∧ ow_ct q k = i)) : ow_pk q g i (k + 1) = none := by
  unfold ow_pk at *
  rw [show (k + 1).toNat = k.toNat + 1 by omega]
  simp only [ow_pkn, h0, show ((k.toNat : Nat) : Int) = k by omega]
  rw [if_neg h1]
theorem ow_pk_hit {q : Int → Bool} {g : Int → Int} {i k n : Int} (h : 0 ≤ k) (h0 : ow_pk q g i k = none) (h1 : q k = true) (h2 : ow_ct q k = i) (hn : k < n) : ow_pv q g i n = g k := by
  have key : ∀ j : Nat, ow_pkn q g i (k.toNat + 1 + j) = some (g k) := by
    intro j
    induction j with
    | zero =>
      unfold ow_pk at h0
      simp only [Nat.add_zero, ow_pkn, h0, show ((k.toNat : Nat) : Int) = k by omega]
      rw [if_pos ⟨h1, h2⟩]
    | succ j ih =>
      show (match ow_pkn q g i (k.toNat + 1 + j) with
        | some v => some v
        | none => if q ((k.toNat + 1 + j : Nat) : Int) = true ∧ ow_ct q ((k.toNat + 1 + j : Nat) : Int) = i then some (g ((k.toNat + 1 + j : Nat) : Int)) else none) = some (g k)
      rw [ih]
  unfold ow_pv ow_pk
  rw [show n.toNat = k.toNat + 1 + (n - k - 1).toNat by omega, key]
  rfl
theorem ow_pk_end {q : Int → Bool} {g : Int → Int} {i n : Int} (h0 : ow_pk q g i n = none) : ow_pv q g i n = if i = -1 then ow_ct q n else -1 := by
  unfold ow_pv
  rw [h0]
  rfl
theorem ow_pv_lo {q : Int → Bool} {g : Int → Int} {i n : Int} (hi : i < -1) : ow_pv q g i n = -1 := by
  have key : ∀ k : Nat, ow_pkn q g i k = none := by
    intro k
    induction k with
    | zero => rfl
    | succ k ih =>
      simp only [ow_pkn, ih]
      rw [if_neg (fun z => by have := (ow_ct_rg (q := q) (i := (k : Int)) (by omega)).1; omega)]
  rw [ow_pk_end (key _), if_neg (by omega)]
/-! ===== words near ===== -/
def em_ulq (A L x y : Int) : Int → Bool := fun p => decide (em_dg A L x p ≠ em_dg A L y p)
def em_ul (A L x y : Int) : Int := ow_ct (em_ulq A L x y) L
section NRS
variable {C : ow_C} {A L N : Int} {d : Nat} {M : ow_M} {K : Int → ow_M → Prop} {n : Int} {w p : Int → Int}
theorem tX10_unlike (h : em_ok A L N) {x y : Int} (hx : 0 ≤ x ∧ x < N) (hy : 0 ≤ y ∧ y < N) (hK : K (em_ul A L x y) M) : ow_Sp C (EM A L N) (d + 1) mX10_unlike (0, 0) [(3, 3), (0, x), (0, y)] M K := by
  have h3 := h.2.2.1
  have h4 := h.2.2.2.1
  refine fX10_unlike ?_
  refine ow_upto (S := Int) (P := fun i s => ow_At C (EM A L N) (d + 1) mX10_unlike 5 [(0, (3, 3)), (1, (0, x)), (2, (0, y)), (3, (0, s)), (4, (0, i))] [] (0, 0) M K) (I := fun i s => 0 ≤ i ∧ s = ow_ct (em_ulq A L x y) i) L (fun s hI => ?_) (fun i s i1 hI ih => ?_) 0 0 (by omega) ⟨by omega, rfl⟩
  · refine cX10_unlike_5 ⟨fun _ => ?_, fun q => by omega⟩
    rw [hI.2]; exact hK
  · obtain ⟨i0, i2⟩ := hI
    have g := ow_ct_rg (q := em_ulq A L x y) i0
    refine cX10_unlike_5 ⟨fun q => by omega, fun _ => tX10_letter h hx ⟨i0, i1⟩ (tX10_letter h hy ⟨i0, i1⟩ ⟨fun q => ⟨⟨by omega, by omega⟩, ih s ⟨by omega, ?_⟩⟩, fun q => ⟨⟨by omega, by omega⟩, ⟨by omega, by omega⟩, ih (s + 1) ⟨by omega, ?_⟩⟩⟩)⟩
    · rw [ow_ctS i0, if_neg (by unfold em_ulq; rw [decide_eq_true_iff]; exact fun z => z q)]; omega
    · rw [ow_ctS i0, if_pos (by unfold em_ulq; rw [decide_eq_true_iff]; exact q)]; omega
theorem tX12_unlike (h : em_ok A L N) {x y : Int} (hx : 0 ≤ x ∧ x < N) (hy : 0 ≤ y ∧ y < N) (hK : K (em_ul A L x y) M) : ow_Sp C (EM A L N) (d + 2) mX12_unlike (0, 0) [(3, 83), (0, x), (0, y)] M K := by
  have h3 := h.2.2.1
  have h4 := h.2.2.2.1
  refine fX12_unlike ?_
  refine ow_upto (S := Int) (P := fun i s => ow_At C (EM A L N) (d + 2) mX12_unlike 5 [(0, (3, 83)), (1, (0, x)), (2, (0, y)), (3, (0, s)), (4, (0, i))] [] (0, 0) M K) (I := fun i s => 0 ≤ i ∧ s = ow_ct (em_ulq A L x y) i) L (fun s hI => ?_) (fun i s i1 hI ih => ?_) 0 0 (by omega) ⟨by omega, rfl⟩
  · refine cX12_unlike_5 ⟨fun _ => ?_, fun q => by omega⟩
    rw [hI.2]; exact hK
  · obtain ⟨i0, i2⟩ := hI
    have g := ow_ct_rg (q := em_ulq A L x y) i0
    refine cX12_unlike_5 ⟨fun q => by omega, fun _ => tX12_letterAt h hx ⟨i0, i1⟩ (tX12_letterAt h hy ⟨i0, i1⟩ ⟨fun q => ⟨⟨by omega, by omega⟩, ⟨by omega, by omega⟩, ih (s + 0) ⟨by omega, ?_⟩⟩, fun q => ⟨⟨by omega, by omega⟩, ⟨by omega, by omega⟩, ih (s + 1) ⟨by omega, ?_⟩⟩⟩)⟩
    · rw [ow_ctS i0, if_neg (by unfold em_ulq; rw [decide_eq_true_iff]; exact fun z => z q)]; omega
    · rw [ow_ctS i0, if_pos (by unfold em_ulq; rw [decide_eq_true_iff]; exact q)]; omega
def nr_q (A L x : Int) (w : Int → Int) (y : Int) : Int → Bool := fun k => decide (em_ul A L x (w k) ≤ y)
/-- near: what is asked -/
def nr_v (A L N n : Int) (w : Int → Int) (x y i : Int) : Int := if (0 ≤ x ∧ x < N) ∧ 0 ≤ y ∧ y ≤ L then ow_pv (nr_q A L x w y) w i n else -1
theorem tX11_near (h : em_ok A L N) (hok : bk_ok N n w p) (hB : bk_C N M 6 n w p) {x y z : Int} (hK : K (nr_v A L N n w x y z) M) : ow_Sp C (EM A L N) (d + 2) mX11_near (0, 0) [(3, 0), (0, x), (0, y), (0, z)] M K := by
  obtain ⟨b0, b1, b2, b3⟩ := hB
  obtain ⟨o0, o1, o2, o3⟩ := hok
  have bad : ¬ ((0 ≤ x ∧ x < N) ∧ 0 ≤ y ∧ y ≤ L) → K (-1) M := by
    intro hn
    unfold nr_v at hK
    rw [if_neg hn] at hK
    exact hK
  refine fX11_near (tX10_isWord (fun q => ⟨fun _ => bad (fun z => q z.1), fun q2 => absurd rfl q2⟩) (fun hx => ⟨fun q2 => absurd q2 (by decide), fun _ => ⟨fun q => bad (by omega), fun y0 => ⟨fun y1 => ?_, fun q => bad (by omega)⟩⟩⟩))
  unfold nr_v at hK
  rw [if_pos ⟨hx, y0, y1⟩] at hK
  refine ow_upto (S := Int) (P := fun i s => ow_At C (EM A L N) (d + 2) mX11_near 34 [(0, (3, 0)), (1, (0, x)), (2, (0, y)), (3, (0, z)), (4, (0, s)), (5, (0, i))] [] (0, 0) M K) (I := fun i s => 0 ≤ i ∧ s = ow_ct (nr_q A L x w y) i ∧ ow_pk (nr_q A L x w y) w z i = none) n (fun s hI => ?_) (fun i s i1 hI ih => ?_) 0 0 o0 ⟨by omega, rfl, rfl⟩
  · rw [ow_pk_end hI.2.2] at hK
    refine cX11_near_34 ⟨fun _ => ⟨fun q => ?_, fun q => ?_⟩, fun q => by omega⟩
    · rw [if_neg q] at hK; exact hK
    · rw [if_pos q] at hK; rw [hI.2.1]; exact hK
  · obtain ⟨i0, i2, i3⟩ := hI
    have g := ow_ct_rg (q := nr_q A L x w y) i0
    have gw := b1 i i0 i1
    rw [show (6 : Int) + 1 = 7 from rfl] at gw
    refine cX11_near_34 ⟨fun q => by omega, fun _ => ⟨⟨i0, by omega⟩, ?_⟩⟩
    rw [gw.1]
    refine tX10_unlike h hx (o2 i i0 i1).1 ⟨fun q => ⟨⟨by omega, by omega⟩, ih s ⟨by omega, ?_, ?_⟩⟩, fun q => ⟨fun q2 => ⟨⟨by omega, by omega⟩, ⟨by omega, by omega⟩, ih (s + 1) ⟨by omega, ?_, ?_⟩⟩, fun q2 => ?_⟩⟩
    · rw [ow_ctS i0, if_neg (by unfold nr_q; rw [decide_eq_true_iff]; omega)]; omega
    · exact ow_pkS i0 i3 (fun z2 => by have := z2.1; unfold nr_q at this; rw [decide_eq_true_iff] at this; omega)
    · rw [ow_ctS i0, if_pos (by unfold nr_q; rw [decide_eq_true_iff]; omega)]; omega
    · exact ow_pkS i0 i3 (fun z2 => q2 (by rw [i2]; exact z2.2))
    · rw [ow_pk_hit i0 i3 (by unfold nr_q; rw [decide_eq_true_iff]; omega) (by rw [← i2]; exact q2) i1] at hK
      rw [gw.1]; exact hK
theorem tX12_near (h : em_ok A L N) (hok : bk_ok N n w p) (hB : bk_M M 84 n w p) {x y z : Int} (hK : K (nr_v A L N n w x y z) M) : ow_Sp C (EM A L N) (d + 3) mX12_near (0, 0) [(3, 83), (0, x), (0, y), (0, z)] M K := by
  obtain ⟨b0, b1⟩ := hB
  obtain ⟨o0, o1, o2, o3⟩ := hok
  have bad : ¬ ((0 ≤ x ∧ x < N) ∧ 0 ≤ y ∧ y ≤ L) → K (-1) M := by
    intro hn
    unfold nr_v at hK
    rw [if_neg hn] at hK
    exact hK
  refine fX12_near (tX12_isWord0 h (fun q => ⟨fun _ => bad (fun z => q z.1), fun q2 => absurd rfl q2⟩) (fun hx => ⟨fun q2 => absurd q2 (by decide), fun _ => tX12_isIn (fun q => ⟨fun _ => bad (fun z => q z.2), fun q2 => absurd rfl q2⟩) (fun hy => ⟨fun q2 => absurd q2 (by decide), fun _ => ?_⟩)⟩))
  unfold nr_v at hK
  rw [if_pos ⟨hx, hy.1, hy.2⟩] at hK
  refine ⟨fun z1 => ?_, fun q => by rw [ow_pv_lo q] at hK; exact hK⟩
  refine ow_upto (S := Int) (P := fun i s => ow_At C (EM A L N) (d + 3) mX12_near 33 [(0, (3, 83)), (1, (0, x)), (2, (0, y)), (3, (0, z)), (4, (0, s)), (5, (0, i))] [] (0, 0) M K) (I := fun i s => 0 ≤ i ∧ s = ow_ct (nr_q A L x w y) i ∧ ow_pk (nr_q A L x w y) w z i = none) n (fun s hI => ?_) (fun i s i1 hI ih => ?_) 0 0 o0 ⟨by omega, rfl, rfl⟩
  · rw [ow_pk_end hI.2.2] at hK
    refine cX12_near_33 ⟨fun _ => ⟨fun q => ?_, fun q => ?_⟩, fun q => by omega⟩
    · rw [if_neg q] at hK; exact hK
    · rw [if_pos q] at hK; rw [hI.2.1]; exact hK
  · obtain ⟨i0, i2, i3⟩ := hI
    have g := ow_ct_rg (q := nr_q A L x w y) i0
    have gw := b1 i i0 i1
    refine cX12_near_33 ⟨fun q => by omega, fun _ => tX12_wordOf i0 (by omega) ?_⟩
    rw [gw.1]
    refine tX12_unlike h hx (o2 i i0 i1).1 ⟨fun q => ⟨fun q2 => ⟨⟨by omega, by omega⟩, ⟨by omega, by omega⟩, ih (s + 1) ⟨by omega, ?_, ?_⟩⟩, fun q2 => tX12_wordOf i0 (by omega) ?_⟩, fun q => ⟨⟨by omega, by omega⟩, ih s ⟨by omega, ?_, ?_⟩⟩⟩
    · rw [ow_ctS i0, if_pos (by unfold nr_q; rw [decide_eq_true_iff]; omega)]; omega
    · exact ow_pkS i0 i3 (fun z2 => q2 (by rw [i2]; exact z2.2))
    · rw [ow_pk_hit i0 i3 (by unfold nr_q; rw [decide_eq_true_iff]; omega) (by rw [← i2]; exact q2) i1] at hK
      rw [gw.1]; exact hK
    · rw [ow_ctS i0, if_neg (by unfold nr_q; rw [decide_eq_true_iff]; omega)]; omega
    · exact ow_pkS i0 i3 (fun z2 => by have := z2.1; unfold nr_q at this; rw [decide_eq_true_iff] at this; omega)
end NRS
