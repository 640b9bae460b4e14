/-! ===== the tree's nodes and arcs ===== -/
def tr_g (A L : Int) (H w : Int → Int) (k b : Int) (i : Int) : Int := if te_f A L H w i k = true then (if b = 1 then (if k < L then te_a A L H (w i) k else 0) else 1) else 0
def tr_k (A L n : Int) (w : Int → Int) (b k : Int) : Int := ow_sm (tr_g A L (bk_h n w) w k b) n
def tr_v (A L n : Int) (w : Int → Int) (b : Int) : Int := if 0 ≤ b ∧ b ≤ 1 then ow_sm (tr_k A L n w b) (L + 1) else -1
section TR2
variable {C : ow_C} {A L N : Int} {d : Nat} {M : ow_M} {K : Int → ow_M → Prop} {n : Int} {w p H : Int → Int}
theorem te_a_rg (h : em_ok A L N) {x k : Int} : 0 ≤ te_a A L H x k ∧ te_a A L H x k ≤ 5 := by
  have := ow_ct_rg (q := te_c A L H x k) (i := A) (by have := h.1; omega)
  have h2 := h.2.1
  unfold te_a
  omega
theorem tr_g_rg (h : em_ok A L N) {k b i : Int} : 0 ≤ tr_g A L H w k b i ∧ tr_g A L H w k b i ≤ 5 := by
  have := te_a_rg h (H := H) (x := w i) (k := k)
  unfold tr_g
  split
  · split
    · split <;> omega
    · omega
  · omega
theorem tr_s_rg (h : em_ok A L N) {k b i : Int} (hi : 0 ≤ i) (hi2 : i ≤ 40) : 0 ≤ ow_sm (tr_g A L H w k b) i ∧ ow_sm (tr_g A L H w k b) i ≤ 200 := by
  have := ow_sm_rg (g := tr_g A L H w k b) (b := 5) (fun _ _ => tr_g_rg h) hi
  omega
theorem tr_o_rg (h : em_ok A L N) {b k : Int} (hn : 0 ≤ n ∧ n ≤ 40) (hk : 0 ≤ k ∧ k ≤ 9) : 0 ≤ ow_sm (tr_k A L n w b) k ∧ ow_sm (tr_k A L n w b) k ≤ 1800 := by
  have := ow_sm_rg (g := tr_k A L n w b) (b := 200) (fun j _ => tr_s_rg h hn.1 hn.2) hk.1
  omega
theorem tX0_isFirstOfNode (h : em_ok A L N) (hok : bk_ok N n w p) (hB : bk_C N M 6 n w p) {i k : Int} (hi : 0 ≤ i ∧ i < n) (hk : 0 ≤ k ∧ k ≤ L) (hK : K (if te_f A L (bk_h n w) w i k = true then 1 else 0) M) : ow_Sp C (EM A L N) (d + 2) mX0_isFirstOfNode (0, 0) [(3, 6), (0, i), (0, k)] M K := by
  have o1 := hok.2.1
  refine fX0_isFirstOfNode ?_
  refine ow_upto (S := Unit) (P := fun j _ => ow_At C (EM A L N) (d + 2) mX0_isFirstOfNode 2 [(0, (3, 6)), (1, (0, i)), (2, (0, k)), (3, (0, j))] [] (0, 0) M K) (I := fun j _ => 0 ≤ j ∧ ow_ct (fun j => te_v A L (bk_h n w) (w i) (w j) k) j = 0) i (fun _ hI => ?_) (fun j _ j1 hI ih => ?_) 0 () hi.1 ⟨by omega, rfl⟩
  · refine cX0_isFirstOfNode_2 ⟨fun _ => ?_, fun q => by omega⟩
    rw [if_pos (by unfold te_f; exact decide_eq_true hI.2)] at hK
    exact hK
  · obtain ⟨j0, j2⟩ := hI
    have g1 := (hB.2.1 i hi.1 hi.2).1
    have g2 := (hB.2.1 j j0 (by omega)).1
    rw [show (6 : Int) + 1 = 7 from rfl] at g1 g2
    refine cX0_isFirstOfNode_2 ⟨fun q => by omega, fun _ => ⟨⟨j0, by omega⟩, ⟨hi.1, by omega⟩, ?_⟩⟩
    rw [g1, g2]
    refine tX0_sameEnds h hok hB (hok.2.2.1 j j0 (by omega)).1 (hok.2.2.1 i hi.1 hi.2).1 hk ?_
    rw [te_sym]
    by_cases e : te_v A L (bk_h n w) (w i) (w j) k = true
    · rw [if_pos e]
      refine ⟨fun q => absurd q (by decide), fun _ => ?_⟩
      have := ow_ct_pos (q := fun j => te_v A L (bk_h n w) (w i) (w j) k) j0 j1 e
      rw [if_neg (by unfold te_f; rw [decide_eq_true_iff]; omega)] at hK
      exact hK
    · rw [if_neg e]
      refine ⟨fun _ => ⟨⟨by omega, by omega⟩, ih () ⟨by omega, ?_⟩⟩, fun q => absurd rfl q⟩
      rw [ow_ctS j0, j2, if_neg e]; omega
theorem tX12_isFirst (h : em_ok A L N) (hok : bk_ok N n w p) (hB : bk_M M 84 n w p) (hH : ∀ x, 0 ≤ x → x < N → M 96 x = bk_h n w x) {i k : Int} (hi : 0 ≤ i ∧ i < n) (hk : 0 ≤ k ∧ k ≤ L) (hK : K (if te_f A L (bk_h n w) w i k = true then 1 else 0) M) : ow_Sp C (EM A L N) (d + 2) mX12_isFirst (0, 0) [(3, 83), (0, i), (0, k)] M K := by
  have o1 := hok.2.1
  refine fX12_isFirst ?_
  refine ow_upto (S := Unit) (P := fun j _ => ow_At C (EM A L N) (d + 2) mX12_isFirst 2 [(0, (3, 83)), (1, (0, i)), (2, (0, k)), (3, (0, j))] [] (0, 0) M K) (I := fun j _ => 0 ≤ j ∧ ow_ct (fun j => te_v A L (bk_h n w) (w i) (w j) k) j = 0) i (fun _ hI => ?_) (fun j _ j1 hI ih => ?_) 0 () hi.1 ⟨by omega, rfl⟩
  · refine cX12_isFirst_2 ⟨fun _ => ?_, fun q => by omega⟩
    rw [if_pos (by unfold te_f; exact decide_eq_true hI.2)] at hK
    exact hK
  · obtain ⟨j0, j2⟩ := hI
    refine cX12_isFirst_2 ⟨fun q => by omega, fun _ => tX12_wordOf hi.1 (by omega) ?_⟩
    rw [(hB.2 i hi.1 hi.2).1]
    refine tX12_wordOf j0 (by omega) ?_
    rw [(hB.2 j j0 (by omega)).1]
    refine tX12_areOne h hok.1 hH (hok.2.2.1 i hi.1 hi.2).1 (hok.2.2.1 j j0 (by omega)).1 hk ?_
    by_cases e : te_v A L (bk_h n w) (w i) (w j) k = true
    · rw [if_pos e]
      refine ⟨fun q => absurd q (by decide), fun _ => ?_⟩
      have := ow_ct_pos (q := fun j => te_v A L (bk_h n w) (w i) (w j) k) j0 j1 e
      rw [if_neg (by unfold te_f; rw [decide_eq_true_iff]; omega)] at hK
      exact hK
    · rw [if_neg e]
      refine ⟨fun _ => ⟨⟨by omega, by omega⟩, ih () ⟨by omega, ?_⟩⟩, fun q => absurd rfl q⟩
      rw [ow_ctS j0, j2, if_neg e]; omega
theorem tX0_holdsAny (h : em_ok A L N) (hok : bk_ok N n w p) (hB : bk_C N M 6 n w p) {x y : Int} (hx : 0 ≤ x) (hy : 0 ≤ y) (hxy : x + y ≤ N) (hK : K (if 0 < ow_ct (fun j => decide (bk_h n w (x + j) = 1)) y then 1 else 0) M) : ow_Sp C (EM A L N) d mX0_holdsAny (0, 0) [(3, 6), (0, x), (0, y)] M K := by
  have hN2 := h.2.2.2.2.2
  refine fX0_holdsAny ?_
  refine ow_upto (S := Unit) (P := fun j _ => ow_At C (EM A L N) d mX0_holdsAny 2 [(0, (3, 6)), (1, (0, x)), (2, (0, y)), (3, (0, j))] [] (0, 0) M K) (I := fun j _ => x ≤ j ∧ ow_ct (fun j => decide (bk_h n w (x + j) = 1)) (j - x) = 0) (x + y) (fun _ hI => ?_) (fun j _ j1 hI ih => ?_) x () (by omega) ⟨by omega, by rw [show x - x = 0 by omega]; rfl⟩
  · refine cX0_holdsAny_2 ⟨⟨by omega, by omega⟩, fun _ => ?_, fun q => by omega⟩
    rw [show x + y - x = y by omega] at hI
    rw [if_neg (by omega)] at hK
    exact hK
  · obtain ⟨j0, j2⟩ := hI
    have c1 := bk_C_h hok hB (x := j) (by omega) (by omega)
    rw [show (6 : Int) + 3 = 9 from rfl] at c1
    refine cX0_holdsAny_2 ⟨⟨by omega, by omega⟩, fun q => by omega, fun _ => ⟨⟨by omega, by omega⟩, fun q => by omega, fun _ => ⟨⟨by omega, by omega⟩, ?_⟩⟩⟩
    rw [c1]
    refine ⟨fun q => ⟨⟨by omega, by omega⟩, ih () ⟨by omega, ?_⟩⟩, fun q => ?_⟩
    · rw [show j + 1 - x = j - x + 1 by omega, ow_ctS (by omega), j2, if_neg (by rw [decide_eq_true_iff, show x + (j - x) = j by omega]; omega)]; omega
    · have e : bk_h n w j = 1 := by
        rcases bk_h01 (n := n) (w := w) (x := j) with e | e
        · exact absurd e q
        · exact e
      have := ow_ct_pos (q := fun j => decide (bk_h n w (x + j) = 1)) (i := j - x) (j := y) (by omega) (by omega) (by rw [decide_eq_true_iff, show x + (j - x) = j by omega]; exact e)
      rw [if_pos this] at hK
      exact hK
theorem te_S (h : em_ok A L N) {k : Int} (hk : 0 ≤ k ∧ k < L) : em_pw A (L - k) = em_pw A (L - k - 1) * A := by
  have := em_pw_s A (k := L - k - 1) (by omega)
  rw [show L - k - 1 + 1 = L - k by omega] at this
  exact this
theorem te_cS (h : em_ok A L N) {k c j : Int} (hk : 0 ≤ k ∧ k < L) (hc : 0 ≤ c ∧ c < A) (hj : 0 ≤ j ∧ j < em_pw A (L - k - 1)) : 0 ≤ c * em_pw A (L - k - 1) ∧ c * em_pw A (L - k - 1) + em_pw A (L - k - 1) ≤ em_pw A (L - k) ∧ (c * em_pw A (L - k - 1) + j) / em_pw A (L - k - 1) = c := by
  have hS := em_pwp h (L - k - 1)
  have g := Int.mul_le_mul_of_nonneg_right (show c + 1 ≤ A by omega) (show 0 ≤ em_pw A (L - k - 1) by omega)
  rw [Int.add_mul] at g
  rw [te_S h hk, Int.mul_comm (em_pw A (L - k - 1)) A]
  refine ⟨Int.mul_nonneg hc.1 (by omega), by omega, ?_⟩
  rw [Int.add_comm, Int.add_mul_ediv_right _ _ (by omega), Int.ediv_eq_zero_of_lt hj.1 hj.2]
  omega
theorem tX0_arcsOf (h : em_ok A L N) (hok : bk_ok N n w p) (hB : bk_C N M 6 n w p) {x k : Int} (hx : 0 ≤ x ∧ x < N) (hk : 0 ≤ k ∧ k ≤ L) (hK : K (if k < L then te_a A L (bk_h n w) x k else 0) M) : ow_Sp C (EM A L N) (d + 1) mX0_arcsOf (0, 0) [(3, 6), (0, x), (0, k)] M K := by
  have hA := h.1
  have hA2 := h.2.1
  have hL := h.2.2.2.1
  have hN2 := h.2.2.2.2.2
  refine fX0_arcsOf ⟨fun hkL => ?_, fun q => by rw [if_neg (by omega)] at hK; exact hK⟩
  rw [if_pos hkL] at hK
  have hS := em_pwp h (L - k - 1)
  have hP := em_pwp h (L - k)
  obtain ⟨r1, r2, r3, r4, r5, r6, r7⟩ := te_rg h hx hk ⟨Int.le_refl 0, hP⟩
  have ex : x - x % em_pw A (L - k) = x / em_pw A (L - k) * em_pw A (L - k) := by
    have := Int.mul_ediv_add_emod x (em_pw A (L - k)); rw [Int.mul_comm] at this; omega
  have mx := Int.emod_nonneg x (show em_pw A (L - k) ≠ 0 by omega)
  have hSP := (te_cS h (c := 0) (j := 0) ⟨hk.1, hkL⟩ ⟨by omega, by omega⟩ ⟨by omega, hS⟩).2.1
  rw [Int.zero_mul] at hSP
  refine ⟨⟨by omega, by omega⟩, ⟨by omega, by omega⟩, tX10_raised (by omega) (by omega) (by omega) ?_⟩
  rw [← te_S h ⟨hk.1, hkL⟩, em_tdiv hx.1, em_tmod hx.1, ex]
  refine ⟨⟨by omega, by omega⟩, fun q => by omega, fun _ => ⟨by omega, ⟨by omega, by omega⟩, ⟨by omega, by omega⟩, ⟨by omega, by omega⟩, ?_⟩⟩
  refine ow_upto (S := Int) (P := fun c s => ow_At C (EM A L N) (d + 1) mX0_arcsOf 69 [(0, (3, 6)), (3, (0, em_pw A (L - k - 1))), (5, (0, x / em_pw A (L - k) * em_pw A (L - k))), (6, (0, s)), (7, (0, c))] [] (0, 0) M K) (I := fun c s => 0 ≤ c ∧ s = ow_ct (te_c A L (bk_h n w) x k) c) A (fun s hI => ?_) (fun c s c1 hI ih => ?_) 0 0 (by omega) ⟨by omega, rfl⟩
  · refine cX0_arcsOf_69 ⟨fun _ => ?_, fun q => by omega⟩
    rw [hI.2]; exact hK
  · obtain ⟨c0, c2⟩ := hI
    obtain ⟨t1, t2, t3⟩ := te_cS h (c := c) (j := 0) ⟨hk.1, hkL⟩ ⟨c0, c1⟩ ⟨by omega, hS⟩
    obtain ⟨_, _, _, _, _, _, r8⟩ := te_rg h hx hk (e := em_pw A (L - k) - 1) ⟨by omega, by omega⟩
    have g := ow_ct_rg (q := te_c A L (bk_h n w) x k) c0
    refine cX0_arcsOf_69 ⟨fun q => by omega, fun _ => ⟨⟨by omega, by omega⟩, ⟨by omega, by omega⟩, tX0_holdsAny h hok hB (by omega) (by omega) (by omega) ?_⟩⟩
    have e : (fun j => decide (bk_h n w (x / em_pw A (L - k) * em_pw A (L - k) + c * em_pw A (L - k - 1) + j) = 1)) = (fun j => decide (bk_h n w (x / em_pw A (L - k) * em_pw A (L - k) + (c * em_pw A (L - k - 1) + j)) = 1)) := by
      funext j; rw [Int.add_assoc]
    rw [e]
    by_cases hc : te_c A L (bk_h n w) x k c = true
    · have hc' := hc
      unfold te_c at hc'
      rw [decide_eq_true_iff] at hc'
      rw [if_pos hc']
      refine ⟨fun q => absurd q (by decide), fun _ => ⟨⟨by omega, by omega⟩, ⟨by omega, by omega⟩, ih (s + 1) ⟨by omega, ?_⟩⟩⟩
      rw [ow_ctS c0, if_pos hc]; omega
    · have hc' := hc
      unfold te_c at hc'
      rw [decide_eq_true_iff] at hc'
      rw [if_neg hc']
      refine ⟨fun _ => ⟨⟨by omega, by omega⟩, ih s ⟨by omega, ?_⟩⟩, fun q => absurd rfl q⟩
      rw [ow_ctS c0, if_neg hc]; omega
theorem tX12_arcsOf (h : em_ok A L N) (hH : ∀ x, 0 ≤ x → x < N → M 96 x = H x) (H01 : ∀ x, H x = 0 ∨ H x = 1) {x k : Int} (hx : 0 ≤ x ∧ x < N) (hk : 0 ≤ k ∧ k < L) (hK : K (te_a A L H x k) M) : ow_Sp C (EM A L N) (d + 1) mX12_arcsOf (0, 0) [(3, 83), (0, x), (0, k)] M K := by
  have hA := h.1
  have hA2 := h.2.1
  have hL := h.2.2.2.1
  have hN2 := h.2.2.2.2.2
  have hS := em_pwp h (L - k - 1)
  have hP := em_pwp h (L - k)
  obtain ⟨r1, r2, r3, r4, r5, r6, r7⟩ := te_rg h hx ⟨hk.1, by omega⟩ ⟨Int.le_refl 0, hP⟩
  have hPA : em_pw A (L - k) / A = em_pw A (L - k - 1) := by
    rw [te_S h hk]; exact Int.mul_ediv_cancel _ (by omega)
  have hSP := (te_cS h (c := 0) (j := 0) hk ⟨by omega, by omega⟩ ⟨by omega, hS⟩).2.1
  rw [Int.zero_mul] at hSP
  refine fX12_arcsOf ⟨⟨by omega, by omega⟩, tX12_powerOf (by omega) (by omega) (by omega) ?_⟩
  refine ow_upto (S := Int) (P := fun c s => ow_At C (EM A L N) (d + 1) mX12_arcsOf 20 [(0, (3, 83)), (1, (0, x)), (3, (0, em_pw A (L - k))), (4, (0, s)), (5, (0, c))] [] (0, 0) M K) (I := fun c s => 0 ≤ c ∧ s = ow_ct (te_c A L H x k) c) A (fun s hI => ?_) (fun c s c1 hI ih => ?_) 0 0 (by omega) ⟨by omega, rfl⟩
  · refine cX12_arcsOf_20 ⟨fun _ => ?_, fun q => by omega⟩
    rw [hI.2]; exact hK
  · obtain ⟨c0, c2⟩ := hI
    have g := ow_ct_rg (q := te_c A L H x k) c0
    refine cX12_arcsOf_20 ⟨fun q => by omega, fun _ => ?_⟩
    refine ow_upto (S := Int) (P := fun e b => ow_At C (EM A L N) (d + 1) mX12_arcsOf 35 [(0, (3, 83)), (1, (0, x)), (3, (0, em_pw A (L - k))), (4, (0, s)), (5, (0, c)), (6, (0, b)), (7, (0, e))] [] (0, 0) M K) (I := fun e b => 0 ≤ e ∧ (b = 0 ∨ b = 1) ∧ (b = 1 ↔ ∃ e', 0 ≤ e' ∧ e' < e ∧ e' / em_pw A (L - k - 1) = c ∧ H (x / em_pw A (L - k) * em_pw A (L - k) + e') = 1)) (em_pw A (L - k)) (fun b hI => ?_) (fun e b e1 hI ih2 => ?_) 0 0 (by omega) ⟨by omega, Or.inl rfl, ⟨fun z => absurd z (by decide), fun ⟨e', q1, q2, _⟩ => by omega⟩⟩
    · obtain ⟨_, b01, bi⟩ := hI
      have hcb : te_c A L H x k c = true ↔ b = 1 := by
        rw [bi]
        unfold te_c
        rw [decide_eq_true_iff]
        refine ⟨fun z => ?_, fun ⟨e', q1, q2, q3, q4⟩ => ?_⟩
        · obtain ⟨j, j0, j1, j2⟩ := ow_ct_ex (Int.le_of_lt hS) z
          obtain ⟨t1, t2, t3⟩ := te_cS h hk ⟨c0, c1⟩ ⟨j0, j1⟩
          exact ⟨c * em_pw A (L - k - 1) + j, by omega, by omega, t3, of_decide_eq_true j2⟩
        · have m1 := Int.mul_ediv_add_emod e' (em_pw A (L - k - 1))
          have m2 := Int.emod_nonneg e' (show em_pw A (L - k - 1) ≠ 0 by omega)
          have m3 := Int.emod_lt_of_pos e' hS
          rw [q3, Int.mul_comm] at m1
          refine ow_ct_pos m2 m3 ?_
          rw [decide_eq_true_iff, m1]
          exact q4
      refine cX12_arcsOf_35 ⟨fun _ => ⟨fun q => ⟨⟨by omega, by omega⟩, ⟨by omega, by omega⟩, ih (s + 0) ⟨by omega, ?_⟩⟩, fun q => ⟨⟨by omega, by omega⟩, ⟨by omega, by omega⟩, ih (s + 1) ⟨by omega, ?_⟩⟩⟩, fun q => by omega⟩
      · rw [ow_ctS c0, if_neg (fun z => by have := hcb.1 z; omega)]; omega
      · rw [ow_ctS c0, if_pos (hcb.2 (by omega))]; omega
    · obtain ⟨e0, b01, bi⟩ := hI
      obtain ⟨_, _, _, _, _, _, r8⟩ := te_rg h hx (k := k) (e := e) ⟨hk.1, by omega⟩ ⟨e0, e1⟩
      have dv1 : 0 ≤ e / em_pw A (L - k - 1) := Int.ediv_nonneg e0 (by omega)
      have dv2 : e / em_pw A (L - k - 1) ≤ e := Int.ediv_le_self _ e0
      have yes : (b = 1 ∨ (e / em_pw A (L - k - 1) = c ∧ H (x / em_pw A (L - k) * em_pw A (L - k) + e) = 1)) → ow_At C (EM A L N) (d + 1) mX12_arcsOf 76 [(0, (3, 83)), (1, (0, x)), (3, (0, em_pw A (L - k))), (4, (0, s)), (5, (0, c)), (7, (0, e))] [] (0, 0) M K := by
        intro hy
        refine cX12_arcsOf_76 ⟨⟨by omega, by omega⟩, ih2 1 ⟨by omega, Or.inr rfl, ⟨fun _ => ?_, fun _ => rfl⟩⟩⟩
        rcases hy with hy | hy
        · obtain ⟨e', q1, q2, q3, q4⟩ := bi.1 hy
          exact ⟨e', q1, by omega, q3, q4⟩
        · exact ⟨e, e0, by omega, hy.1, hy.2⟩
      have no : b = 0 → ¬ (e / em_pw A (L - k - 1) = c ∧ H (x / em_pw A (L - k) * em_pw A (L - k) + e) = 1) → ow_At C (EM A L N) (d + 1) mX12_arcsOf 80 [(0, (3, 83)), (1, (0, x)), (3, (0, em_pw A (L - k))), (4, (0, s)), (5, (0, c)), (7, (0, e))] [] (0, 0) M K := by
        intro hb hy
        refine cX12_arcsOf_80 ⟨⟨by omega, by omega⟩, ih2 0 ⟨by omega, Or.inl rfl, ⟨fun z => absurd z (by decide), fun ⟨e', q1, q2, q3, q4⟩ => ?_⟩⟩⟩
        by_cases ee : e' = e
        · subst ee; exact absurd ⟨q3, q4⟩ hy
        · have := bi.2 ⟨e', q1, by omega, q3, q4⟩; omega
      refine cX12_arcsOf_35 ⟨fun q => by omega, fun _ => ⟨fun q => yes (Or.inl (by omega)), fun q => ?_⟩⟩
      rw [em_tdiv (Int.le_of_lt hP), hPA, em_tdiv e0, em_tdiv hx.1, hH (x / em_pw A (L - k) * em_pw A (L - k) + e) (by omega) (by omega)]
      refine ⟨by omega, ⟨by omega, by omega⟩, by omega, ⟨by omega, by omega⟩, fun q2 => no q (fun z => q2 z.1), fun q2 => ⟨by omega, ⟨by omega, by omega⟩, ⟨by omega, by omega⟩, ⟨by omega, by omega⟩, ⟨by omega, by omega⟩, fun q3 => no q (fun z => by have := z.2; omega), fun q3 => yes (Or.inr ⟨q2, ?_⟩)⟩⟩
      rcases H01 (x / em_pw A (L - k) * em_pw A (L - k) + e) with z | z
      · exact absurd z q3
      · exact z
theorem tX0_treeAt (h : em_ok A L N) (hok : bk_ok N n w p) (hB : bk_C N M 6 n w p) {k b : Int} (hk : 0 ≤ k ∧ k ≤ L) (hb : b = 0 ∨ b = 1) (hK : K (tr_k A L n w b k) M) : ow_Sp C (EM A L N) (d + 3) mX0_treeAt (0, 0) [(3, 6), (0, k), (0, b)] M K := by
  have o0 := hok.1
  have o1 := hok.2.1
  have b0 := hB.1
  refine fX0_treeAt ?_
  refine ow_upto (S := Int) (P := fun i s => ow_At C (EM A L N) (d + 3) mX0_treeAt 5 [(0, (3, 6)), (1, (0, k)), (2, (0, b)), (3, (0, s)), (4, (0, i))] [] (0, 0) M K) (I := fun i s => 0 ≤ i ∧ s = ow_sm (tr_g A L (bk_h n w) w k b) i) n (fun s hI => ?_) (fun i s i1 hI ih => ?_) 0 0 o0 ⟨by omega, rfl⟩
  · refine cX0_treeAt_5 ⟨fun _ => ?_, fun q => by omega⟩
    rw [hI.2]; exact hK
  · obtain ⟨i0, i2⟩ := hI
    have g := tr_s_rg h (H := bk_h n w) (w := w) (k := k) (b := b) i0 (by omega)
    have g5 := tr_g_rg h (H := bk_h n w) (w := w) (k := k) (b := b) (i := i)
    have gw := (hB.2.1 i i0 i1).1
    rw [show (6 : Int) + 1 = 7 from rfl] at gw
    refine cX0_treeAt_5 ⟨fun q => by omega, fun _ => tX0_isFirstOfNode h hok hB ⟨i0, i1⟩ hk ?_⟩
    by_cases e : te_f A L (bk_h n w) w i k = true
    · rw [if_pos e]
      have fin : ∀ v, v = tr_g A L (bk_h n w) w k b i → ow_At C (EM A L N) (d + 3) mX0_treeAt 45 [(0, (3, 6)), (1, (0, k)), (2, (0, b)), (4, (0, i))] [(0, v), (0, s)] (0, 0) M K := by
        intro v hv
        refine cX0_treeAt_45 ⟨⟨by omega, by omega⟩, ⟨by omega, by omega⟩, ih (s + v) ⟨by omega, ?_⟩⟩
        rw [ow_smS i0, hv, i2]
      refine ⟨fun q => absurd q (by decide), fun _ => ⟨fun q => fin 1 ?_, fun q => ⟨⟨i0, by omega⟩, ?_⟩⟩⟩
      · unfold tr_g; rw [if_pos e, if_neg (by omega)]
      · rw [gw]
        refine tX0_arcsOf h hok hB (hok.2.2.1 i i0 i1).1 hk (fin _ ?_)
        unfold tr_g; rw [if_pos e, if_pos (show b = 1 by omega)]
    · rw [if_neg e]
      refine ⟨fun _ => ⟨⟨by omega, by omega⟩, ih s ⟨by omega, ?_⟩⟩, fun q => absurd rfl q⟩
      rw [ow_smS i0, i2]
      unfold tr_g
      rw [if_neg e]
      omega
theorem tX11_tree (h : em_ok A L N) (hok : bk_ok N n w p) (hB : bk_C N M 6 n w p) {b : Int} (hK : K (tr_v A L n w b) M) : ow_Sp C (EM A L N) (d + 4) mX11_tree (0, 0) [(3, 0), (0, b)] M K := by
  have hL := h.2.2.2.1
  have hL2 := h.2.2.1
  have bad : ¬ (0 ≤ b ∧ b ≤ 1) → K (-1) M := by
    intro hn
    unfold tr_v at hK
    rw [if_neg hn] at hK
    exact hK
  refine fX11_tree ⟨fun q => bad (by omega), fun q => ⟨fun q2 => ?_, fun q2 => bad (by omega)⟩⟩
  unfold tr_v at hK
  rw [if_pos ⟨q, q2⟩] at hK
  refine ow_upto (S := Int) (P := fun i s => ow_At C (EM A L N) (d + 4) mX11_tree 15 [(0, (3, 0)), (1, (0, b)), (2, (0, s)), (3, (0, i))] [] (0, 0) M K) (I := fun i s => 0 ≤ i ∧ s = ow_sm (tr_k A L n w b) i) (L + 1) (fun s hI => ?_) (fun i s i1 hI ih => ?_) 0 0 (by omega) ⟨by omega, rfl⟩
  · refine cX11_tree_15 ⟨fun _ => ?_, fun q => by omega⟩
    rw [hI.2]; exact hK
  · obtain ⟨i0, i2⟩ := hI
    have g := tr_o_rg h (n := n) (w := w) (b := b) (k := i) ⟨hok.1, hok.2.1⟩ ⟨i0, by omega⟩
    have g2 := tr_o_rg h (n := n) (w := w) (b := b) (k := i + 1) ⟨hok.1, hok.2.1⟩ ⟨by omega, by omega⟩
    rw [ow_smS i0] at g2
    have fin : ow_At C (EM A L N) (d + 4) mX11_tree 42 [(0, (3, 0)), (1, (0, b)), (3, (0, i))] [(0, b), (0, i), (3, 6), (0, s)] (0, 0) M K := by
      refine cX11_tree_42 (tX0_treeAt h hok hB ⟨i0, by omega⟩ (by omega) ⟨⟨by omega, by omega⟩, ⟨by omega, by omega⟩, ih _ ⟨by omega, ?_⟩⟩)
      rw [ow_smS i0, i2]
    refine cX11_tree_15 ⟨fun q => by omega, fun _ => ⟨fun q3 => ?_, fun q3 => ?_⟩⟩
    · have e : b = 0 := by omega
      subst e; exact fin
    · subst q3; exact fin
theorem tX12_tree (h : em_ok A L N) (hok : bk_ok N n w p) (hB : bk_M M 84 n w p) {b : Int} (h0 : ¬ (0 ≤ b ∧ b ≤ 1) → K (tr_v A L n w b) M) (hK : ∀ M', ow_off [96] M M' → K (tr_v A L n w b) M') : ow_Sp C (EM A L N) (d + 3) mX12_tree (0, 0) [(3, 83), (0, b)] M K := by
  have hL := h.2.2.2.1
  have hL2 := h.2.2.1
  have o0 := hok.1
  have o1 := hok.2.1
  refine fX12_tree (tX12_isIn (fun q => ⟨fun z => absurd rfl z, fun _ => ?_⟩) (fun q => ⟨fun _ => ?_, fun z => absurd z (by decide)⟩))
  · have := h0 q
    unfold tr_v at this
    rw [if_neg q] at this
    exact this
  · refine tX12_findBook h hok hB (fun M' o hH => ?_)
    have hK' := hK M' o
    have hB' : bk_M M' 84 n w p := hB.fr o (by decide)
    have b0 := hB'.1
    unfold tr_v at hK'
    rw [if_pos q] at hK'
    refine ow_upto (S := Int × Int) (P := fun k s => ow_At C (EM A L N) (d + 3) mX12_tree 22 [(0, (3, 83)), (1, (0, b)), (2, (0, s.1)), (3, (0, s.2)), (4, (0, k))] [] (0, 0) M' K) (I := fun k s => 0 ≤ k ∧ s.1 = ow_sm (tr_k A L n w 0) k ∧ s.2 = ow_sm (tr_k A L n w 1) k) (L + 1) (fun s hI => ?_) (fun k s k1 hI ih => ?_) 0 (0, 0) (by omega) ⟨by omega, rfl, rfl⟩
    · obtain ⟨_, s1, s2⟩ := hI
      refine cX12_tree_22 ⟨fun _ => ⟨fun z => ?_, fun z => ?_⟩, fun z => by omega⟩
      · have e : b = 1 := by omega
        subst e; rw [s2]; exact hK'
      · subst z; rw [s1]; exact hK'
    · obtain ⟨k0, s1, s2⟩ := hI
      have g := tr_o_rg h (n := n) (w := w) (b := 0) (k := k) ⟨o0, o1⟩ ⟨k0, by omega⟩
      have g' := tr_o_rg h (n := n) (w := w) (b := 1) (k := k) ⟨o0, o1⟩ ⟨k0, by omega⟩
      refine cX12_tree_22 ⟨fun z => by omega, fun _ => ?_⟩
      refine ow_upto (S := Int × Int) (P := fun i t => ow_At C (EM A L N) (d + 3) mX12_tree 34 [(0, (3, 83)), (1, (0, b)), (2, (0, t.1)), (3, (0, t.2)), (4, (0, k)), (5, (0, i))] [] (0, 0) M' K) (I := fun i t => 0 ≤ i ∧ t.1 = ow_sm (tr_k A L n w 0) k + ow_sm (tr_g A L (bk_h n w) w k 0) i ∧ t.2 = ow_sm (tr_k A L n w 1) k + ow_sm (tr_g A L (bk_h n w) w k 1) i) n (fun t hI => ?_) (fun i t i1 hI ih2 => ?_) 0 (s.1, s.2) o0 ⟨by omega, by rw [s1, ow_sm0]; omega, by rw [s2, ow_sm0]; omega⟩
      · obtain ⟨_, t1, t2⟩ := hI
        refine cX12_tree_34 ⟨fun _ => ⟨⟨by omega, by omega⟩, ih (t.1, t.2) ⟨by omega, ?_, ?_⟩⟩, fun z => by omega⟩
        · rw [ow_smS k0]; exact t1
        · rw [ow_smS k0]; exact t2
      · obtain ⟨i0, t1, t2⟩ := hI
        have u := tr_s_rg h (H := bk_h n w) (w := w) (k := k) (b := 0) i0 (by omega)
        have u' := tr_s_rg h (H := bk_h n w) (w := w) (k := k) (b := 1) i0 (by omega)
        have v' := tr_g_rg h (H := bk_h n w) (w := w) (k := k) (b := 1) (i := i)
        have hwi := (hok.2.2.1 i i0 i1).1
        refine cX12_tree_34 ⟨fun z => by omega, fun _ => tX12_isFirst h hok hB' hH ⟨i0, i1⟩ ⟨k0, by omega⟩ ?_⟩
        by_cases e : te_f A L (bk_h n w) w i k = true
        · rw [if_pos e]
          have fin : ∀ v, v = tr_g A L (bk_h n w) w k 1 i → ow_At C (EM A L N) (d + 3) mX12_tree 88 [(0, (3, 83)), (1, (0, b)), (2, (0, t.1 + 1)), (4, (0, k)), (5, (0, i))] [(0, v), (0, t.2)] (0, 0) M' K := by
            intro v hv
            refine cX12_tree_88 ⟨⟨by omega, by omega⟩, ⟨by omega, by omega⟩, ih2 (t.1 + 1, t.2 + v) ⟨by omega, ?_, ?_⟩⟩
            · show t.1 + 1 = _
              rw [ow_smS i0, t1]
              unfold tr_g
              rw [if_pos e, if_neg (by decide)]
              omega
            · show t.2 + v = _
              rw [ow_smS i0, t2, hv]
              omega
          refine ⟨fun _ => ⟨⟨by omega, by omega⟩, fun z => fin 0 ?_, fun z => tX12_wordOf i0 (by omega) ?_⟩, fun z => absurd z (by decide)⟩
          · unfold tr_g; rw [if_pos e, if_pos rfl, if_neg (by omega)]
          · rw [(hB'.2 i i0 i1).1]
            refine tX12_arcsOf h hH (fun x => bk_h01) hwi ⟨k0, z⟩ (fin _ ?_)
            unfold tr_g; rw [if_pos e, if_pos rfl, if_pos z]
        · rw [if_neg e]
          refine ⟨fun z => absurd rfl z, fun _ => ⟨⟨by omega, by omega⟩, ih2 (t.1, t.2) ⟨by omega, ?_, ?_⟩⟩⟩
          · rw [ow_smS i0, t1]; unfold tr_g; rw [if_neg e]; omega
          · rw [ow_smS i0, t2]; unfold tr_g; rw [if_neg e]; omega
end TR2
