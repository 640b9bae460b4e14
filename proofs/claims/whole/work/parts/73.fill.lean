/-! ===== filled, about ===== -/
abbrev fl_B : Type := Int × (Int → Int) × (Int → Int)
def fl_st (b : fl_B) (x q : Int) : fl_B := if b.1 ≠ 40 ∧ ow_ct (fun k => decide (b.2.1 k = x)) b.1 = 0 then (b.1 + 1, bk_put b.2.1 b.1 x, bk_put b.2.2 b.1 q) else b
def fl (T : ow_M) (b : fl_B) : Nat → fl_B
  | 0 => b
  | e + 1 => fl_st (fl T b e) (T 5 e) (T 6 e)
section FLS
variable {C : ow_C} {A L N : Int} {d : Nat} {M T : ow_M} {K : Int → ow_M → Prop} {bn : Int} {wd pr : Int → Int}
theorem fl_new {n x : Int} {w : Int → Int} (hn : 0 ≤ n) : ow_ct (fun k => decide (w k = x)) n = 0 ↔ ∀ k, 0 ≤ k → k < n → w k ≠ x := by
  rw [ow_ct_z hn]
  exact ⟨fun h k k0 k1 e => h k k0 k1 (decide_eq_true e), fun h k k0 k1 e => h k k0 k1 (of_decide_eq_true e)⟩
theorem fl_ok {b : fl_B} (hb : bk_ok N b.1 b.2.1 b.2.2) {x q : Int} (hx : 0 ≤ x ∧ x < N) (hq : 1 ≤ q ∧ q ≤ 9) : bk_ok N (fl_st b x q).1 (fl_st b x q).2.1 (fl_st b x q).2.2 ∧ b.1 ≤ (fl_st b x q).1 ∧ (fl_st b x q).1 ≤ b.1 + 1 := by
  unfold fl_st
  split
  · rename_i h
    exact ⟨bk_ok_put hb hx hq h.1 ((fl_new hb.1).1 h.2), by show b.1 ≤ b.1 + 1; omega, by show b.1 + 1 ≤ b.1 + 1; omega⟩
  · exact ⟨hb, by omega, by omega⟩
theorem fl_all (hok : bk_ok N bn wd pr) (hl : tx_cl N T) : ∀ e : Nat, (e : Int) ≤ T 0 2 → bk_ok N (fl T (bn, wd, pr) e).1 (fl T (bn, wd, pr) e).2.1 (fl T (bn, wd, pr) e).2.2 ∧ bn ≤ (fl T (bn, wd, pr) e).1 ∧ (fl T (bn, wd, pr) e).1 ≤ bn + e := by
  intro e
  induction e with
  | zero => intro _; exact ⟨hok, Int.le_refl _, by show bn ≤ bn + 0; omega⟩
  | succ e ih =>
    intro he
    obtain ⟨i1, i2, i3⟩ := ih (by omega)
    have g := hl.2.2.2.2.2.2.1 e (by omega) (by omega)
    have k := fl_ok i1 g.1 g.2
    refine ⟨k.1, ?_, ?_⟩
    · have := k.2.1
      show bn ≤ (fl_st (fl T (bn, wd, pr) e) (T 5 e) (T 6 e)).1
      omega
    · have := k.2.2
      show (fl_st (fl T (bn, wd, pr) e) (T 5 e) (T 6 e)).1 ≤ bn + ((e + 1 : Nat) : Int)
      omega
theorem tx_ents (hl : tx_cl N T) : 0 ≤ T 0 2 ∧ T 0 2 ≤ 24 := by
  have h3 := hl.2.2.2.2.1
  have hn := hl.1
  have g := ow_ct_rg (q := fun j => decide (T 1 j = 2)) (i := T 0 0) (by omega)
  have h3' : T 0 2 = ow_ct (fun j => decide (T 1 j = 2)) (T 0 0) := h3
  exact ⟨by omega, by omega⟩
theorem em_text3 {r x : Int} (hr : 0 ≤ r ∧ r < 4) (hx : 0 ≤ x ∧ x < 24) : ow_gv (EM A L N) M (22 + 6 * r) 9 = 22 + 6 * r + 2 ∧ ow_gv (EM A L N) M (22 + 6 * r) 10 = 22 + 6 * r + 3 ∧ ow_R (EM A L N) M (22 + 6 * r + 2) 100 x ∧ ow_R (EM A L N) M (22 + 6 * r + 3) 100 x ∧ ow_gv (EM A L N) M (22 + 6 * r + 2) x = M (22 + 6 * r + 2) x ∧ ow_gv (EM A L N) M (22 + 6 * r + 3) x = M (22 + 6 * r + 3) x := by
  have nb : ow_nb (EM A L N) M = 102 := rfl
  have e : r = 0 ∨ r = 1 ∨ r = 2 ∨ r = 3 := by omega
  rcases e with e | e | e | e <;> subst e <;> exact ⟨rfl, rfl, ⟨by decide, by rw [nb]; decide, rfl, hx.1, hx.2⟩, ⟨by decide, by rw [nb]; decide, rfl, hx.1, hx.2⟩, rfl, rfl⟩
theorem tX11_filled (h : em_ok A L N) {c x : Int} (ht : M 0 8 = c) (h4 : c ≤ 4) (hok : bk_ok N bn wd pr) (hB : bk_C N M 6 bn wd pr) (hl : 0 ≤ x → x < c → tx_cl N T ∧ tx_C M (22 + 6 * x) T) (h0 : ¬ (0 ≤ x ∧ x < c) → K (-1) M) (hK : 0 ≤ x → x < c → ∀ M', ow_off [6, 7, 8, 9] M M' → bk_C N M' 6 (fl T (bn, wd, pr) (T 0 2).toNat).1 (fl T (bn, wd, pr) (T 0 2).toNat).2.1 (fl T (bn, wd, pr) (T 0 2).toNat).2.2 → K ((fl T (bn, wd, pr) (T 0 2).toNat).1 - bn) M') : ow_Sp C (EM A L N) (d + 2) mX11_filled (0, 0) [(3, 0), (0, x)] M K := by
  refine fX11_filled (tX11_isText ht h4 (fun q => ⟨fun z => absurd rfl z, fun _ => h0 q⟩) (fun q => ⟨fun _ => ⟨⟨q.1, by omega⟩, ?_⟩, fun z => absurd z (by decide)⟩))
  obtain ⟨hl1, hl2⟩ := hl q.1 q.2
  have te := tx_ents hl1
  have fa := fl_all (T := T) hok hl1
  have q4 : 0 ≤ x ∧ x < 4 := by omega
  refine ow_upto (S := Int × ow_M) (P := fun i s => ow_At C (EM A L N) (d + 2) mX11_filled 22 [(0, (3, 0)), (2, (3, 22 + 6 * x)), (3, (0, s.1)), (4, (0, i))] [] (0, 0) s.2 K) (I := fun i s => 0 ≤ i ∧ s.1 = (fl T (bn, wd, pr) i.toNat).1 - bn ∧ ow_off [6, 7, 8, 9] M s.2 ∧ bk_C N s.2 6 (fl T (bn, wd, pr) i.toNat).1 (fl T (bn, wd, pr) i.toNat).2.1 (fl T (bn, wd, pr) i.toNat).2.2) (T 0 2) (fun s hI => ?_) (fun i s i1 hI ih => ?_) 0 (0, M) te.1 ⟨by omega, by show (0 : Int) = bn - bn; omega, ow_off.rf, hB⟩
  · obtain ⟨_, i2, i3, i4⟩ := hI
    obtain ⟨t1, _, _, _, _, _, _, _, _, t10, _⟩ := em_text (A := A) (L := L) (N := N) (M := s.2) q4
    refine cX11_filled_22 ⟨t1, fun _ => by rw [i2]; exact hK q.1 q.2 s.2 i3 i4, fun z => ?_⟩
    rw [t10, i3 _ (by simp; omega), hl2.2.2.2.2.2.1] at z
    omega
  · obtain ⟨i0, i2, i3, i4⟩ := hI
    obtain ⟨t1, _, _, _, _, _, _, _, _, t10, _⟩ := em_text (A := A) (L := L) (N := N) (M := s.2) q4
    obtain ⟨g1, g2, g3, g4, g5, g6⟩ := em_text3 (A := A) (L := L) (N := N) (M := s.2) (x := i) q4 ⟨i0, by omega⟩
    have b := hl2.2.2.2.2.2.2.2.2.1 i i0 i1
    have bg := hl1.2.2.2.2.2.2.1 i i0 i1
    obtain ⟨f1, f2, f3⟩ := fa i.toNat (by omega)
    have e1 : (i + 1).toNat = i.toNat + 1 := by omega
    have e2 : ((i.toNat : Nat) : Int) = i := by omega
    have fS : fl T (bn, wd, pr) (i + 1).toNat = fl_st (fl T (bn, wd, pr) i.toNat) (T 5 i) (T 6 i) := by
      rw [e1]
      show fl_st (fl T (bn, wd, pr) i.toNat) (T 5 ((i.toNat : Nat) : Int)) (T 6 ((i.toNat : Nat) : Int)) = _
      rw [e2]
    refine cX11_filled_22 ⟨t1, fun z => ?_, fun _ => ⟨fun z => by omega, fun _ => ⟨t1, ?_⟩⟩⟩
    · rw [t10, i3 _ (by simp; omega), hl2.2.2.2.2.2.1] at z
      omega
    · rw [g1, g2, g5, g6, i3 _ (by simp; omega), i3 _ (by simp; omega), b.1, b.2]
      refine ⟨g3, t1, g4, tX0_add h f1 i4 (fun z => ⟨fun _ => ⟨⟨by omega, by omega⟩, ih s ⟨by omega, ?_, i3, ?_⟩⟩, fun y => absurd rfl y⟩) (fun y1 y2 y3 y4 M' o' B' => ⟨fun y => absurd y (by decide), fun _ => ⟨⟨by omega, by omega⟩, ⟨by omega, by omega⟩, ih (s.1 + 1, M') ⟨by omega, ?_, i3.tr o', ?_⟩⟩⟩)⟩
      · have : fl_st (fl T (bn, wd, pr) i.toNat) (T 5 i) (T 6 i) = fl T (bn, wd, pr) i.toNat := if_neg (fun y => z ⟨bg.1, bg.2, y.1, (fl_new f1.1).1 y.2⟩)
        rw [fS, this]; exact i2
      · have : fl_st (fl T (bn, wd, pr) i.toNat) (T 5 i) (T 6 i) = fl T (bn, wd, pr) i.toNat := if_neg (fun y => z ⟨bg.1, bg.2, y.1, (fl_new f1.1).1 y.2⟩)
        rw [fS, this]; exact i4
      · have : fl_st (fl T (bn, wd, pr) i.toNat) (T 5 i) (T 6 i) = ((fl T (bn, wd, pr) i.toNat).1 + 1, bk_put (fl T (bn, wd, pr) i.toNat).2.1 (fl T (bn, wd, pr) i.toNat).1 (T 5 i), bk_put (fl T (bn, wd, pr) i.toNat).2.2 (fl T (bn, wd, pr) i.toNat).1 (T 6 i)) := if_pos ⟨y3, (fl_new f1.1).2 y4⟩
        rw [fS, this]
        show s.1 + 1 = (fl T (bn, wd, pr) i.toNat).1 + 1 - bn
        omega
      · have : fl_st (fl T (bn, wd, pr) i.toNat) (T 5 i) (T 6 i) = ((fl T (bn, wd, pr) i.toNat).1 + 1, bk_put (fl T (bn, wd, pr) i.toNat).2.1 (fl T (bn, wd, pr) i.toNat).1 (T 5 i), bk_put (fl T (bn, wd, pr) i.toNat).2.2 (fl T (bn, wd, pr) i.toNat).1 (T 6 i)) := if_pos ⟨y3, (fl_new f1.1).2 y4⟩
        rw [fS, this]
        exact B'
theorem tX12_filled (h : em_ok A L N) {c x : Int} (ht : M 84 0 = c) (h4 : 0 ≤ c ∧ c ≤ 4) (hok : bk_ok N bn wd pr) (hB : bk_M M 84 bn wd pr) (hl : 0 ≤ x → x < c → tx_cl N T ∧ tx_M M x T) (h0 : ¬ (0 ≤ x ∧ x < c) → K (-1) M) (hK : 0 ≤ x → x < c → ∀ M', ow_off [84] M M' → (∀ i, ¬ (i = 2 ∨ (10 ≤ i ∧ i < 90)) → M' 84 i = M 84 i) → bk_M M' 84 (fl T (bn, wd, pr) (T 0 2).toNat).1 (fl T (bn, wd, pr) (T 0 2).toNat).2.1 (fl T (bn, wd, pr) (T 0 2).toNat).2.2 → K ((fl T (bn, wd, pr) (T 0 2).toNat).1 - bn) M') : ow_Sp C (EM A L N) (d + 3) mX12_filled (0, 0) [(3, 83), (0, x)] M K := by
  refine fX12_filled ?_
  rw [ht]
  refine ⟨⟨by omega, by omega⟩, tX12_isIn (fun q => ⟨fun z => absurd rfl z, fun _ => h0 (fun z => q (by omega))⟩) (fun q => ⟨fun _ => ?_, fun z => absurd z (by decide)⟩)⟩
  have q' : 0 ≤ x ∧ x < c := by omega
  obtain ⟨hl1, hl2⟩ := hl q'.1 q'.2
  have te := tx_ents hl1
  have fa := fl_all (T := T) hok hl1
  have hn := hl1.1
  have h2 : T 0 2 = tx_ct T 2 (T 0 0) := hl1.2.2.2.2.1
  refine ow_upto (S := Int × ow_M) (P := fun k s => ow_At C (EM A L N) (d + 3) mX12_filled 22 [(0, (3, 83)), (1, (0, x)), (2, (0, s.1)), (3, (0, k))] [] (0, 0) s.2 K) (I := fun k s => 0 ≤ k ∧ s.1 = (fl T (bn, wd, pr) (tx_ct T 2 k).toNat).1 - bn ∧ ow_off [84] M s.2 ∧ (∀ i, ¬ (i = 2 ∨ (10 ≤ i ∧ i < 90)) → s.2 84 i = M 84 i) ∧ bk_M s.2 84 (fl T (bn, wd, pr) (tx_ct T 2 k).toNat).1 (fl T (bn, wd, pr) (tx_ct T 2 k).toNat).2.1 (fl T (bn, wd, pr) (tx_ct T 2 k).toNat).2.2) (T 0 0) (fun s hI => ?_) (fun k s k1 hI ih => ?_) 0 (0, M) hn.1 ⟨by omega, by show (0 : Int) = bn - bn; omega, ow_off.rf, fun i _ => rfl, hB⟩
  · obtain ⟨_, i2, i3, i4, i5⟩ := hI
    rw [← h2] at i2 i5
    refine cX12_filled_22 ⟨⟨by omega, by omega⟩, ⟨by omega, by omega⟩, fun _ => by rw [i2]; exact hK q'.1 q'.2 s.2 i3 i4 i5, fun z => ?_⟩
    rw [i3 86 (by decide), hl2.1] at z
    omega
  · obtain ⟨k0, i2, i3, i4, i5⟩ := hI
    have g := hl2.2.1 k k0 k1
    have cS : tx_ct T 2 (k + 1) = tx_ct T 2 k + (if decide (T 1 k = 2) = true then 1 else 0) := ow_ctS k0
    have c0 : 0 ≤ tx_ct T 2 k ∧ tx_ct T 2 k ≤ k := ow_ct_rg k0
    have cle : tx_ct T 2 (k + 1) ≤ tx_ct T 2 (T 0 0) := ow_ct_up (by omega) (by omega)
    refine cX12_filled_22 ⟨⟨by omega, by omega⟩, ⟨by omega, by omega⟩, fun z => ?_, fun _ => ⟨⟨by omega, by omega⟩, ⟨by omega, by omega⟩, ⟨by omega, by omega⟩, ⟨by omega, by omega⟩, ?_⟩⟩
    · rw [i3 86 (by decide), hl2.1] at z
      omega
    · rw [i3 86 (by decide), i3 86 (by decide), i3 86 (by decide), g.1, g.2.1, g.2.2]
      refine ⟨fun z => ⟨⟨by omega, by omega⟩, ih s ⟨by omega, ?_, i3, i4, ?_⟩⟩, fun z => ?_⟩
      · rw [if_neg (fun y => z (of_decide_eq_true y)), Int.add_zero] at cS
        rw [cS]; exact i2
      · rw [if_neg (fun y => z (of_decide_eq_true y)), Int.add_zero] at cS
        rw [cS]; exact i5
      · rw [if_pos (decide_eq_true z)] at cS
        obtain ⟨f1, f2, f3⟩ := fa (tx_ct T 2 k).toNat (by omega)
        have ek := (hl1.2.1 k k0 k1).2.2.2.1 z
        have bg := hl1.2.2.2.2.2.2.1 (tx_ct T 2 k) (by omega) (by omega)
        rw [ek.1, ek.2] at bg
        have e2 : (((tx_ct T 2 k).toNat : Nat) : Int) = tx_ct T 2 k := by omega
        have fS : fl T (bn, wd, pr) (tx_ct T 2 (k + 1)).toNat = fl_st (fl T (bn, wd, pr) (tx_ct T 2 k).toNat) (T 2 k) (T 3 k) := by
          rw [show (tx_ct T 2 (k + 1)).toNat = (tx_ct T 2 k).toNat + 1 by omega]
          show fl_st (fl T (bn, wd, pr) (tx_ct T 2 k).toNat) (T 5 (((tx_ct T 2 k).toNat : Nat) : Int)) (T 6 (((tx_ct T 2 k).toNat : Nat) : Int)) = _
          rw [e2, ek.1, ek.2]
        have f0 := f1.1
        refine ⟨⟨by omega, by omega⟩, ⟨by omega, by omega⟩, ⟨by omega, by omega⟩, ⟨by omega, by omega⟩, tX12_put h f1 i5 (fun y => ⟨fun _ => ⟨⟨by omega, by omega⟩, ih s ⟨by omega, ?_, i3, i4, ?_⟩⟩, fun y' => absurd y' (by decide)⟩) (fun y1 y2 y3 y4 M' o' p' B' => ⟨fun y => by omega, fun _ => ⟨⟨by omega, by omega⟩, ⟨by omega, by omega⟩, ih (s.1 + 1, M') ⟨by omega, ?_, i3.tr o', fun i hi => by show M' 84 i = M 84 i; rw [p' i hi]; exact i4 i hi, ?_⟩⟩⟩)⟩
        · have : fl_st (fl T (bn, wd, pr) (tx_ct T 2 k).toNat) (T 2 k) (T 3 k) = fl T (bn, wd, pr) (tx_ct T 2 k).toNat := if_neg (fun z' => y ⟨bg.1, bg.2, z'.1, (fl_new f1.1).1 z'.2⟩)
          rw [fS, this]; exact i2
        · have : fl_st (fl T (bn, wd, pr) (tx_ct T 2 k).toNat) (T 2 k) (T 3 k) = fl T (bn, wd, pr) (tx_ct T 2 k).toNat := if_neg (fun z' => y ⟨bg.1, bg.2, z'.1, (fl_new f1.1).1 z'.2⟩)
          rw [fS, this]; exact i5
        · have : fl_st (fl T (bn, wd, pr) (tx_ct T 2 k).toNat) (T 2 k) (T 3 k) = ((fl T (bn, wd, pr) (tx_ct T 2 k).toNat).1 + 1, bk_put (fl T (bn, wd, pr) (tx_ct T 2 k).toNat).2.1 (fl T (bn, wd, pr) (tx_ct T 2 k).toNat).1 (T 2 k), bk_put (fl T (bn, wd, pr) (tx_ct T 2 k).toNat).2.2 (fl T (bn, wd, pr) (tx_ct T 2 k).toNat).1 (T 3 k)) := if_pos ⟨y3, (fl_new f1.1).2 y4⟩
          rw [fS, this]
          show s.1 + 1 = (fl T (bn, wd, pr) (tx_ct T 2 k).toNat).1 + 1 - bn
          omega
        · have : fl_st (fl T (bn, wd, pr) (tx_ct T 2 k).toNat) (T 2 k) (T 3 k) = ((fl T (bn, wd, pr) (tx_ct T 2 k).toNat).1 + 1, bk_put (fl T (bn, wd, pr) (tx_ct T 2 k).toNat).2.1 (fl T (bn, wd, pr) (tx_ct T 2 k).toNat).1 (T 2 k), bk_put (fl T (bn, wd, pr) (tx_ct T 2 k).toNat).2.2 (fl T (bn, wd, pr) (tx_ct T 2 k).toNat).1 (T 3 k)) := if_pos ⟨y3, (fl_new f1.1).2 y4⟩
          rw [fS, this]
          exact B'
end FLS
