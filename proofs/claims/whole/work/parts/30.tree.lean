/-! ===== sums ===== -/
def ow_smn (g : Int → Int) : Nat → Int
  | 0 => 0
  | n + 1 => ow_smn g n + g n
def ow_sm (g : Int → Int) (i : Int) : Int := ow_smn g i.toNat
theorem ow_sm0 {g : Int → Int} : ow_sm g 0 = 0 := rfl
theorem ow_smS {g : Int → Int} {i : Int} (h : 0 ≤ i) : ow_sm g (i + 1) = ow_sm g i + g i := by
  unfold ow_sm
  rw [show (i + 1).toNat = i.toNat + 1 by omega]
  simp only [ow_smn, show ((i.toNat : Nat) : Int) = i by omega]
/-- what holds at the start and from each to the next -/
theorem ow_ind {P : Int → Prop} (h0 : P 0) (hs : ∀ i, 0 ≤ i → P i → P (i + 1)) : ∀ i, 0 ≤ i → P i := by
  intro i hi
  have key : ∀ n : Nat, P n := by
    intro n
    induction n with
    | zero => exact h0
    | succ n ih => exact hs n (by omega) ih
  have := key i.toNat
  rw [show ((i.toNat : Nat) : Int) = i by omega] at this
  exact this
theorem ow_sm_rg {g : Int → Int} {b : Int} (hb : ∀ i, 0 ≤ i → 0 ≤ g i ∧ g i ≤ b) {i : Int} (h : 0 ≤ i) : 0 ≤ ow_sm g i ∧ ow_sm g i ≤ i * b := by
  refine ow_ind (P := fun i => 0 ≤ ow_sm g i ∧ ow_sm g i ≤ i * b) ⟨by rw [ow_sm0]; omega, by rw [ow_sm0]; omega⟩ (fun i i0 ih => ?_) i h
  have := hb i i0
  rw [ow_smS i0, Int.add_mul]
  omega
theorem ow_ct_up {q : Int → Bool} {i j : Int} (h : 0 ≤ i) (hij : i ≤ j) : ow_ct q i ≤ ow_ct q j := by
  have := ow_ind (P := fun k => ow_ct q i ≤ ow_ct q (i + k)) (by rw [Int.add_zero]; omega) (fun k k0 ih => by rw [← Int.add_assoc, ow_ctS (show 0 ≤ i + k by omega)]; split <;> omega) (j - i) (by omega)
  rw [show i + (j - i) = j by omega] at this
  exact this
theorem ow_ct_pos {q : Int → Bool} {i j : Int} (h : 0 ≤ i) (hij : i < j) (hq : q i = true) : 0 < ow_ct q j := by
  have h1 := ow_ct_up (q := q) (show 0 ≤ i + 1 by omega) (show i + 1 ≤ j by omega)
  rw [ow_ctS h, if_pos hq] at h1
  have := (ow_ct_rg (q := q) h).1
  omega
theorem ow_ct_ex {q : Int → Bool} {j : Int} (hj : 0 ≤ j) (h : 0 < ow_ct q j) : ∃ i, 0 ≤ i ∧ i < j ∧ q i = true := by
  refine ow_ind (P := fun j => 0 < ow_ct q j → ∃ i, 0 ≤ i ∧ i < j ∧ q i = true) (fun z => by rw [ow_ct0] at z; omega) (fun i i0 ih z => ?_) j hj h
  by_cases e : q i = true
  · exact ⟨i, i0, by omega, e⟩
  · rw [ow_ctS i0, if_neg e] at z
    obtain ⟨k, k0, k1, k2⟩ := ih (by omega)
    exact ⟨k, k0, by omega, k2⟩
theorem ow_ct_cg {q q' : Int → Bool} {n : Int} (hn : 0 ≤ n) (h : ∀ i, 0 ≤ i → i < n → q i = q' i) : ow_ct q n = ow_ct q' n := by
  have := ow_ind (P := fun i => i ≤ n → ow_ct q i = ow_ct q' i) (fun _ => rfl) (fun i i0 ih hi => by rw [ow_ctS i0, ow_ctS i0, ih (by omega), h i i0 (by omega)]) n hn
  exact this (by omega)
/-! ===== the book's tree ===== -/
/-- whether the book holds a word -/
def bk_h (n : Int) (w : Int → Int) (x : Int) : Int := if 0 < ow_ct (fun k => decide (w k = x)) n then 1 else 0
def te_q (A L : Int) (H : Int → Int) (x y k : Int) : Int → Bool := fun e => decide (H (x / em_pw A (L - k) * em_pw A (L - k) + e) ≠ H (y / em_pw A (L - k) * em_pw A (L - k) + e))
/-- whether two words have the same ends behind k letters -/
def te_v (A L : Int) (H : Int → Int) (x y k : Int) : Bool := decide (ow_ct (te_q A L H x y k) (em_pw A (L - k)) = 0)
def te_f (A L : Int) (H w : Int → Int) (i k : Int) : Bool := decide (ow_ct (fun j => te_v A L H (w i) (w j) k) i = 0)
def te_c (A L : Int) (H : Int → Int) (x k c : Int) : Bool := decide (0 < ow_ct (fun j => decide (H (x / em_pw A (L - k) * em_pw A (L - k) + (c * em_pw A (L - k - 1) + j)) = 1)) (em_pw A (L - k - 1)))
def te_a (A L : Int) (H : Int → Int) (x k : Int) : Int := ow_ct (te_c A L H x k) A
section TRS
variable {C : ow_C} {A L N : Int} {d : Nat} {M : ow_M} {K : Int → ow_M → Prop} {n : Int} {w p H : Int → Int}
theorem te_sym {x y k : Int} : te_v A L H x y k = te_v A L H y x k := by
  have e : te_q A L H x y k = te_q A L H y x k := by
    funext e
    unfold te_q
    exact decide_eq_decide.2 ⟨fun h e => h e.symm, fun h e => h e.symm⟩
  unfold te_v
  rw [e]
theorem bk_h1 {x : Int} (h0 : 0 ≤ n) : bk_h n w x = 1 ↔ ∃ k, 0 ≤ k ∧ k < n ∧ w k = x := by
  unfold bk_h
  refine ⟨fun h => ?_, fun ⟨k, k0, k1, k2⟩ => if_pos (ow_ct_pos k0 k1 (decide_eq_true k2))⟩
  split at h
  · rename_i hc
    obtain ⟨k, k0, k1, k2⟩ := ow_ct_ex h0 hc
    exact ⟨k, k0, k1, of_decide_eq_true k2⟩
  · omega
theorem bk_h01 {x : Int} : bk_h n w x = 0 ∨ bk_h n w x = 1 := by
  unfold bk_h
  split
  · exact Or.inr rfl
  · exact Or.inl rfl
theorem bk_C_h (hok : bk_ok N n w p) {b : Int} (hB : bk_C N M b n w p) {x : Int} (h0 : 0 ≤ x) (h1 : x < N) : M (b + 3) x = bk_h n w x := by
  obtain ⟨b0, b1, b2, b3⟩ := hB
  by_cases hq : ∃ k, 0 ≤ k ∧ k < n ∧ w k = x
  · rw [(bk_h1 hok.1).2 hq]
    obtain ⟨k, k0, k1, k2⟩ := hq
    rw [← k2]; exact b2 k k0 k1
  · rw [b3 x h0 h1 (fun k k0 k1 k2 => hq ⟨k, k0, k1, k2⟩)]
    rcases bk_h01 (n := n) (w := w) (x := x) with e | e
    · exact e.symm
    · exact absurd ((bk_h1 hok.1).1 e) hq
/-- the words with the same first letters -/
theorem te_rg (h : em_ok A L N) {x k e : Int} (hx : 0 ≤ x ∧ x < N) (hk : 0 ≤ k ∧ k ≤ L) (he : 0 ≤ e ∧ e < em_pw A (L - k)) : 0 < em_pw A (L - k) ∧ em_pw A (L - k) ≤ 256 ∧ 0 ≤ x / em_pw A (L - k) ∧ x / em_pw A (L - k) ≤ x ∧ 0 ≤ x / em_pw A (L - k) * em_pw A (L - k) ∧ x / em_pw A (L - k) * em_pw A (L - k) ≤ x ∧ x / em_pw A (L - k) * em_pw A (L - k) + e < N := by
  have hP := em_pwp h (L - k)
  have hQ := em_pwp h k
  have hN : N = em_pw A (L - k) * em_pw A k := by
    rw [h.2.2.2.2.1, ← em_pw_add A (by omega) hk.1, show L - k + k = L by omega]
  have hN2 := h.2.2.2.2.2
  have g1 : 0 ≤ x / em_pw A (L - k) := Int.ediv_nonneg hx.1 (by omega)
  have g2 : x / em_pw A (L - k) ≤ x := Int.ediv_le_self _ hx.1
  have g3 : x / em_pw A (L - k) < em_pw A k := Int.ediv_lt_of_lt_mul hP (by rw [Int.mul_comm, ← hN]; exact hx.2)
  have g4 := Int.mul_le_mul_of_nonneg_right (show x / em_pw A (L - k) + 1 ≤ em_pw A k by omega) (show 0 ≤ em_pw A (L - k) by omega)
  rw [Int.add_mul, Int.mul_comm (em_pw A k), ← hN] at g4
  have g5 := Int.mul_nonneg g1 (Int.le_of_lt hP)
  have g6 := Int.mul_ediv_add_emod x (em_pw A (L - k))
  have g7 := Int.emod_nonneg x (show em_pw A (L - k) ≠ 0 by omega)
  rw [Int.mul_comm] at g6
  exact ⟨hP, by omega, g1, g2, g5, by omega, by omega⟩
theorem te_no (H0 : 0 ≤ n) {x y k e : Int} (he : 0 ≤ e ∧ e < em_pw A (L - k)) (hne : H (x / em_pw A (L - k) * em_pw A (L - k) + e) ≠ H (y / em_pw A (L - k) * em_pw A (L - k) + e)) : te_v A L H x y k = false := by
  have := ow_ct_pos (q := te_q A L H x y k) he.1 he.2 (decide_eq_true hne)
  unfold te_v
  exact decide_eq_false (by omega)
theorem tX0_sameEnds (h : em_ok A L N) (hok : bk_ok N n w p) (hB : bk_C N M 6 n w p) {x y k : Int} (hx : 0 ≤ x ∧ x < N) (hy : 0 ≤ y ∧ y < N) (hk : 0 ≤ k ∧ k ≤ L) (hK : K (if te_v A L (bk_h n w) x y k = true then 1 else 0) M) : ow_Sp C (EM A L N) (d + 1) mX0_sameEnds (0, 0) [(3, 6), (0, x), (0, y), (0, k)] M K := by
  have hA := h.1
  have hL := h.2.2.2.1
  have hN2 := h.2.2.2.2.2
  have hP := em_pwp h (L - k)
  obtain ⟨r1, r2, r3, r4, r5, r6, r7⟩ := te_rg h hx hk ⟨Int.le_refl 0, hP⟩
  obtain ⟨s1, s2, s3, s4, s5, s6, s7⟩ := te_rg h hy hk ⟨Int.le_refl 0, hP⟩
  have ex : x - x % em_pw A (L - k) = x / em_pw A (L - k) * em_pw A (L - k) := by
    have := Int.mul_ediv_add_emod x (em_pw A (L - k)); rw [Int.mul_comm] at this; omega
  have ey : y - y % em_pw A (L - k) = y / em_pw A (L - k) * em_pw A (L - k) := by
    have := Int.mul_ediv_add_emod y (em_pw A (L - k)); rw [Int.mul_comm] at this; omega
  have mx := Int.emod_nonneg x (show em_pw A (L - k) ≠ 0 by omega)
  have my := Int.emod_nonneg y (show em_pw A (L - k) ≠ 0 by omega)
  refine fX0_sameEnds ⟨⟨by omega, by omega⟩, tX10_raised (by omega) (by omega) (by omega) ⟨fun _ => ?_, fun q => by omega⟩⟩
  rw [em_tdiv hx.1, em_tmod hx.1, em_tdiv hy.1, em_tmod hy.1, ex, ey]
  refine ⟨by omega, ⟨by omega, by omega⟩, ⟨by omega, by omega⟩, ⟨by omega, by omega⟩, by omega, ⟨by omega, by omega⟩, ⟨by omega, by omega⟩, ⟨by omega, by omega⟩, fun hne => ?_, fun he => ?_⟩
  · refine ow_upto (S := Unit) (P := fun i _ => ow_At C (EM A L N) (d + 1) mX0_sameEnds 56 [(0, (3, 6)), (4, (0, em_pw A (L - k))), (5, (0, x / em_pw A (L - k) * em_pw A (L - k))), (6, (0, y / em_pw A (L - k) * em_pw A (L - k))), (7, (0, i))] [] (0, 0) M K) (I := fun i _ => 0 ≤ i ∧ ow_ct (te_q A L (bk_h n w) x y k) i = 0) (em_pw A (L - k)) (fun _ hI => ?_) (fun i _ i1 hI ih => ?_) 0 () (by omega) ⟨by omega, rfl⟩
    · refine cX0_sameEnds_56 ⟨fun _ => ?_, fun q => by omega⟩
      rw [if_pos (by unfold te_v; exact decide_eq_true hI.2)] at hK
      exact hK
    · obtain ⟨i0, i2⟩ := hI
      obtain ⟨_, _, _, _, _, _, t1⟩ := te_rg h hx hk ⟨i0, i1⟩
      obtain ⟨_, _, _, _, _, _, t2⟩ := te_rg h hy hk ⟨i0, i1⟩
      refine cX0_sameEnds_56 ⟨fun q => by omega, fun _ => ⟨⟨by omega, by omega⟩, ⟨by omega, by omega⟩, ⟨by omega, by omega⟩, ⟨by omega, by omega⟩, ?_⟩⟩
      have c1 := bk_C_h hok hB (x := x / em_pw A (L - k) * em_pw A (L - k) + i) (by omega) (by omega)
      have c2 := bk_C_h hok hB (x := y / em_pw A (L - k) * em_pw A (L - k) + i) (by omega) (by omega)
      rw [show (6 : Int) + 3 = 9 from rfl] at c1 c2
      rw [c1, c2]
      refine ⟨fun q => ⟨⟨by omega, by omega⟩, ih () ⟨by omega, ?_⟩⟩, fun q => ?_⟩
      · rw [ow_ctS i0, i2, if_neg (by unfold te_q; rw [decide_eq_true_iff]; exact fun z => z q)]; omega
      · rw [if_neg (by rw [te_no hok.1 ⟨i0, i1⟩ q]; decide)] at hK
        exact hK
  · have e : te_v A L (bk_h n w) x y k = true := by
      unfold te_v
      refine decide_eq_true ?_
      refine Classical.byContradiction (fun hc => ?_)
      have g := (ow_ct_rg (q := te_q A L (bk_h n w) x y k) (Int.le_of_lt hP)).1
      obtain ⟨i, i0, i1, i2⟩ := ow_ct_ex (Int.le_of_lt hP) (show 0 < ow_ct (te_q A L (bk_h n w) x y k) (em_pw A (L - k)) by omega)
      unfold te_q at i2
      rw [decide_eq_true_iff, he] at i2
      exact i2 rfl
    rw [if_pos e] at hK
    exact hK
theorem tX12_findBook (h : em_ok A L N) (hok : bk_ok N n w p) (hB : bk_M M 84 n w p) (hK : ∀ M', ow_off [96] M M' → (∀ x, 0 ≤ x → x < N → M' 96 x = bk_h n w x) → K 0 M') : ow_Sp C (EM A L N) (d + 2) mX12_findBook (0, 0) [(3, 83)] M K := by
  have hN := em_Npos h
  have hN2 := h.2.2.2.2.2
  refine fX12_findBook ?_
  refine ow_upto (S := ow_M) (P := fun i s => ow_At C (EM A L N) (d + 2) mX12_findBook 2 [(0, (3, 83)), (1, (0, i))] [] (0, 0) s K) (I := fun i s => 0 ≤ i ∧ ow_off [96] M s ∧ ∀ x, 0 ≤ x → x < i → s 96 x = bk_h n w x) N (fun s hI => ?_) (fun i s i1 hI ih => ?_) 0 M (by omega) ⟨by omega, ow_off.rf, fun x x0 x1 => by omega⟩
  · exact cX12_findBook_2 ⟨fun _ => hK s hI.2.1 hI.2.2, fun q => by omega⟩
  · obtain ⟨i0, i2, i3⟩ := hI
    have hB' : bk_M s 84 n w p := ⟨by rw [i2 84 (by decide)]; exact hB.1, fun k k0 k1 => by rw [i2 84 (by decide), i2 84 (by decide)]; exact hB.2 k k0 k1⟩
    have nxt : ∀ v, v = bk_h n w i → ∀ N2, N2 = ow_up s 96 i v → ow_I (i + 1) ∧ ow_At C (EM A L N) (d + 2) mX12_findBook 2 [(0, (3, 83)), (1, (0, i + 1))] [] (0, 0) N2 K := by
      intro v hv N2 e2
      refine ⟨⟨by omega, by omega⟩, ih N2 ⟨by omega, by rw [e2]; exact i2.up (by decide), fun x x0 x1 => ?_⟩⟩
      by_cases e : x = i
      · subst e; rw [e2, ow_upS]; exact hv
      · rw [e2, ow_upN (Or.inr e)]; exact i3 x x0 (by omega)
    refine cX12_findBook_2 ⟨fun q => by omega, fun _ => tX12_placeIn hok hB' (fun hno => ⟨fun _ => ⟨⟨i0, by omega⟩, nxt 0 ?_⟩, fun q => absurd q (by decide)⟩) (fun k k0 k1 k2 => ⟨fun q => by omega, fun _ => ⟨⟨i0, by omega⟩, nxt 1 ?_⟩⟩)⟩
    · rcases bk_h01 (n := n) (w := w) (x := i) with e | e
      · exact e.symm
      · obtain ⟨k, k0, k1, k2⟩ := (bk_h1 hok.1).1 e
        exact absurd k2 (hno k k0 k1)
    · exact ((bk_h1 hok.1).2 ⟨k, k0, k1, k2⟩).symm
theorem tX12_areOne (h : em_ok A L N) (hn : 0 ≤ n) (hH : ∀ x, 0 ≤ x → x < N → M 96 x = bk_h n w x) {x y k : Int} (hx : 0 ≤ x ∧ x < N) (hy : 0 ≤ y ∧ y < N) (hk : 0 ≤ k ∧ k ≤ L) (hK : K (if te_v A L (bk_h n w) x y k = true then 1 else 0) M) : ow_Sp C (EM A L N) (d + 1) mX12_areOne (0, 0) [(3, 83), (0, x), (0, y), (0, k)] M K := by
  have hA := h.1
  have hL := h.2.2.2.1
  have hN2 := h.2.2.2.2.2
  have hP := em_pwp h (L - k)
  obtain ⟨r1, r2, r3, r4, r5, r6, r7⟩ := te_rg h hx hk ⟨Int.le_refl 0, hP⟩
  obtain ⟨s1, s2, s3, s4, s5, s6, s7⟩ := te_rg h hy hk ⟨Int.le_refl 0, hP⟩
  refine fX12_areOne ⟨⟨by omega, by omega⟩, tX12_powerOf (by omega) (by omega) (by omega) ?_⟩
  refine ow_upto (S := Unit) (P := fun i _ => ow_At C (EM A L N) (d + 1) mX12_areOne 18 [(0, (3, 83)), (1, (0, x)), (2, (0, y)), (4, (0, em_pw A (L - k))), (5, (0, i))] [] (0, 0) M K) (I := fun i _ => 0 ≤ i ∧ ow_ct (te_q A L (bk_h n w) x y k) i = 0) (em_pw A (L - k)) (fun _ hI => ?_) (fun i _ i1 hI ih => ?_) 0 () (by omega) ⟨by omega, rfl⟩
  · refine cX12_areOne_18 ⟨fun _ => ?_, fun q => by omega⟩
    rw [if_pos (by unfold te_v; exact decide_eq_true hI.2)] at hK
    exact hK
  · obtain ⟨i0, i2⟩ := hI
    obtain ⟨_, _, _, _, _, _, t1⟩ := te_rg h hx hk ⟨i0, i1⟩
    obtain ⟨_, _, _, _, _, _, t2⟩ := te_rg h hy hk ⟨i0, i1⟩
    refine cX12_areOne_18 ⟨fun q => by omega, fun _ => ?_⟩
    rw [em_tdiv hx.1, em_tdiv hy.1, hH (x / em_pw A (L - k) * em_pw A (L - k) + i) (by omega) (by omega), hH (y / em_pw A (L - k) * em_pw A (L - k) + i) (by omega) (by omega)]
    refine ⟨by omega, ⟨by omega, by omega⟩, ⟨by omega, by omega⟩, ⟨by omega, by omega⟩, ⟨by omega, by omega⟩, by omega, ⟨by omega, by omega⟩, ⟨by omega, by omega⟩, ⟨by omega, by omega⟩, ⟨by omega, by omega⟩, fun q => ⟨⟨by omega, by omega⟩, ih () ⟨by omega, ?_⟩⟩, fun q => ?_⟩
    · rw [ow_ctS i0, i2, if_neg (by unfold te_q; rw [decide_eq_true_iff]; exact fun z => z q)]; omega
    · rw [if_neg (by rw [te_no hn ⟨i0, i1⟩ q]; decide)] at hK
      exact hK
/-- shares: what is asked -/
def te_s (A L n : Int) (w : Int → Int) (i j k : Int) : Int := if ((0 ≤ i ∧ i < n) ∧ 0 ≤ j ∧ j < n) ∧ 0 ≤ k ∧ k ≤ L then (if te_v A L (bk_h n w) (w i) (w j) k = true then 1 else 0) else 0
theorem ow_01 {q : Prop} [Decidable q] : (if q then (1 : Int) else 0) = 0 ∨ (if q then (1 : Int) else 0) = 1 := by
  split
  · exact Or.inr rfl
  · exact Or.inl rfl
theorem tX11_shares (h : em_ok A L N) (hok : bk_ok N n w p) (hB : bk_C N M 6 n w p) {i j k : Int} (hK : K (te_s A L n w i j k) M) : ow_Sp C (EM A L N) (d + 2) mX11_shares (0, 0) [(3, 0), (0, i), (0, j), (0, k)] M K := by
  have o1 := hok.2.1
  have bad : ¬ (((0 ≤ i ∧ i < n) ∧ 0 ≤ j ∧ j < n) ∧ 0 ≤ k ∧ k ≤ L) → K 0 M := by
    intro hn
    unfold te_s at hK
    rw [if_neg hn] at hK
    exact hK
  refine fX11_shares (tX0_has hok hB (fun q => ⟨fun _ => bad (fun z => q z.1.1), fun q2 => absurd rfl q2⟩) (fun i0 i1 => ⟨fun q2 => absurd q2 (by decide), fun _ => tX0_has hok hB (fun q => ⟨fun _ => bad (fun z => q z.1.2), fun q2 => absurd rfl q2⟩) (fun j0 j1 => ⟨fun q2 => absurd q2 (by decide), fun _ => ⟨fun q => bad (by omega), fun k0 => ⟨fun k1 => ⟨⟨i0, by omega⟩, ⟨j0, by omega⟩, ?_⟩, fun q => bad (by omega)⟩⟩⟩)⟩))
  unfold te_s at hK
  rw [if_pos ⟨⟨⟨i0, i1⟩, j0, j1⟩, k0, k1⟩] at hK
  have g1 := (hB.2.1 i i0 i1).1
  have g2 := (hB.2.1 j j0 j1).1
  rw [show (6 : Int) + 1 = 7 from rfl] at g1 g2
  rw [g1, g2]
  exact tX0_sameEnds h hok hB (hok.2.2.1 i i0 i1).1 (hok.2.2.1 j j0 j1).1 ⟨k0, k1⟩ ⟨ow_01, hK⟩
theorem bk_M.fr {M' : ow_M} {c : Int} {S : List Int} (hB : bk_M M c n w p) (o : ow_off S M M') (hc : c ∉ S) : bk_M M' c n w p := ⟨by rw [o c hc]; exact hB.1, fun k k0 k1 => by rw [o c hc, o c hc]; exact hB.2 k k0 k1⟩
theorem tX12_shares (h : em_ok A L N) (hok : bk_ok N n w p) (hB : bk_M M 84 n w p) {i j k : Int} (h0 : ¬ (((0 ≤ i ∧ i < n) ∧ 0 ≤ j ∧ j < n) ∧ 0 ≤ k ∧ k ≤ L) → K (te_s A L n w i j k) M) (hK : ∀ M', ow_off [96] M M' → K (te_s A L n w i j k) M') : ow_Sp C (EM A L N) (d + 3) mX12_shares (0, 0) [(3, 83), (0, i), (0, j), (0, k)] M K := by
  have o0 := hok.1
  have o1 := hok.2.1
  have bad : ¬ (((0 ≤ i ∧ i < n) ∧ 0 ≤ j ∧ j < n) ∧ 0 ≤ k ∧ k ≤ L) → K 0 M := by
    intro hn
    have := h0 hn
    unfold te_s at this
    rw [if_neg hn] at this
    exact this
  have hb0 := hB.1
  refine fX12_shares ?_
  rw [hb0]
  refine ⟨⟨by omega, by omega⟩, tX12_isIn (fun q => ⟨fun _ => bad (fun z => q (by omega)), fun q2 => absurd rfl q2⟩) (fun qi => ⟨fun q2 => absurd q2 (by decide), fun _ => ⟨⟨by omega, by omega⟩, tX12_isIn (fun q => ⟨fun _ => bad (fun z => q (by omega)), fun q2 => absurd rfl q2⟩) (fun qj => ⟨fun q2 => absurd q2 (by decide), fun _ => tX12_isIn (fun q => ⟨fun q2 => absurd rfl q2, fun _ => bad (fun z => q z.2)⟩) (fun qk => ⟨fun _ => ?_, fun q2 => absurd q2 (by decide)⟩)⟩)⟩⟩)⟩
  have i0 := qi.1
  have i1 : i < n := by omega
  have j0 := qj.1
  have j1 : j < n := by omega
  refine tX12_findBook h hok hB (fun M' o hH => ?_)
  have hK' := hK M' o
  have hB' : bk_M M' 84 n w p := hB.fr o (by decide)
  refine tX12_wordOf i0 (by omega) ?_
  rw [(hB'.2 i i0 i1).1]
  refine tX12_wordOf j0 (by omega) ?_
  rw [(hB'.2 j j0 j1).1]
  unfold te_s at hK'
  rw [if_pos ⟨⟨⟨i0, i1⟩, j0, j1⟩, qk.1, qk.2⟩] at hK'
  exact tX12_areOne h o0 hH (hok.2.2.1 i i0 i1).1 (hok.2.2.1 j j0 j1).1 qk ⟨ow_01, hK'⟩
end TRS
