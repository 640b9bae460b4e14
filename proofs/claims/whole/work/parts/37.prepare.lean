/-! ===== the class's tables, hand by hand ===== -/
theorem vx_q {A L q : Int} : vx A L q 0 0 0 = q * L * A * A := by
  unfold vx
  simp only [Int.add_zero]
theorem vx_lt {A L q h p f i : Int} (hh : 0 ≤ h ∧ h < q) (hp : 0 ≤ p ∧ p < L) (hf : 0 ≤ f ∧ f < A) (hi : 0 ≤ i ∧ i < A) : 0 ≤ vx A L h p f i ∧ vx A L h p f i < vx A L q 0 0 0 := by
  rw [vx_q]; exact vx_rg hh hp hf hi
theorem vx_sh {A L h p f i : Int} : vx A L h p f i = h * (L * A * A) + vx A L 0 p f i := by
  unfold vx
  simp only [Int.add_mul, Int.zero_mul, Int.zero_add, Int.mul_assoc]
  omega
theorem vx_inv {A L y : Int} (hA : 0 < A) (hL : 0 < L) (h0 : 0 ≤ y) (h1 : y < L * A * A) : y = vx A L 0 (y / A / A) (y / A % A) (y % A) ∧ (0 ≤ y / A / A ∧ y / A / A < L) ∧ (0 ≤ y / A % A ∧ y / A % A < A) ∧ (0 ≤ y % A ∧ y % A < A) := by
  have a1 : 0 ≤ y / A := Int.ediv_nonneg h0 (by omega)
  have a2 : 0 ≤ y / A / A := Int.ediv_nonneg a1 (by omega)
  have b1 : y / A < L * A := Int.ediv_lt_of_lt_mul hA h1
  have b2 : y / A / A < L := Int.ediv_lt_of_lt_mul hA b1
  have c1 := Int.mul_ediv_add_emod y A
  have c2 := Int.mul_ediv_add_emod (y / A) A
  rw [Int.mul_comm] at c1 c2
  refine ⟨?_, ⟨a2, b2⟩, ⟨Int.emod_nonneg _ (by omega), Int.emod_lt_of_pos _ hA⟩, ⟨Int.emod_nonneg _ (by omega), Int.emod_lt_of_pos _ hA⟩⟩
  unfold vx
  rw [Int.zero_mul, Int.zero_add, c2, c1]
theorem ch_hand0 {N : Int} {T : ow_M} (hf : tx_fo T) (hl : tx_cl N T) (h0 : T 0 10 = 0 ∨ T 0 0 = 0) {hand bh place fr into : Int} : ch_v T hand bh place fr into = ch_v T 0 bh place fr into := by
  rcases h0 with q | q
  · exact ch_hand hf q
  · have z := tx_cl.no hl q hf
    unfold ch_v
    have q1 : ¬ (T 0 4 = 1 ∧ ch_m T (ch_nm hand bh place fr into) = 0) := fun z2 => by omega
    have q2 : ¬ (T 0 4 = 1 ∧ ch_m T (ch_nm 0 bh place fr into) = 0) := fun z2 => by omega
    rw [if_neg q1, if_neg q2, if_neg (by omega), if_neg (by omega)]
theorem vw_T.dn {A L n n' : Int} {T M : ow_M} (h : vw_T A L T M n) (hn : n' ≤ n) : vw_T A L T M n' := fun x x0 x1 => h x x0 (by omega)
theorem vw_e.fr {A L x : Int} {T M M' : ow_M} (h : vw_e A L T M x) (h62 : M' 62 x = M 62 x) (h63 : ∀ k, 0 ≤ k → k ≤ L → M' 63 (x * (L + 1) + k) = M 63 (x * (L + 1) + k)) : vw_e A L T M' x := by
  intro hne
  obtain ⟨a, b⟩ := h hne
  exact ⟨fun k k0 k1 => by rw [h62]; exact a k k0 k1, fun k k0 k1 => by rw [h63 k k0 k1]; exact b k k0 k1⟩
theorem vw_63 {L x y k : Int} (hL : 0 ≤ L) (hxy : y < x) (hk : 0 ≤ k ∧ k ≤ L) : y * (L + 1) + k < x * (L + 1) := by
  have g := Int.mul_le_mul_of_nonneg_right (show y + 1 ≤ x by omega) (show 0 ≤ L + 1 by omega)
  rw [Int.add_mul] at g
  omega
theorem vw_T.wo {A L x : Int} {T M M' : ow_M} (hL : 0 ≤ L) (h : vw_T A L T M x) (o : vw_o L x M M') : vw_T A L T M' x := by
  intro y y0 y1
  refine (h y y0 y1).fr (o.2.1 y (by omega)) (fun k k0 k1 => o.2.2 _ (fun z => ?_))
  have := vw_63 hL y1 ⟨k0, k1⟩
  omega
theorem vw_T.cg {A L n : Int} {T M M' : ow_M} (h : vw_T A L T M n) (h1 : ∀ y, M' 62 y = M 62 y) (h2 : ∀ y, M' 63 y = M 63 y) : vw_T A L T M' n := fun y y0 y1 => (h y y0 y1).fr (h1 y) (fun k _ _ => h2 _)
theorem vw_T.add {A L x : Int} {T M : ow_M} (h : vw_T A L T M x) (he : vw_e A L T M x) : vw_T A L T M (x + 1) := by
  intro y y0 y1
  by_cases e : y = x
  · rw [e]; exact he
  · exact h y y0 (by omega)
section PRS
variable {C : ow_C} {A L N : Int} {d : Nat} {M T : ow_M} {K : Int → ow_M → Prop}
theorem vw_cu {M' : ow_M} (hc : cu_C N M T) (o : ow_of [60, 61, 62, 63] [(59, 2), (58, 5)] M M') : cu_C N M' T := hc.fr (fun c i c0 c1 => o c i (by simp; omega) (by simp; omega)) (o 58 6 (by decide) (by decide)) (o 0 10 (by decide) (by decide))
theorem tX9_prepareHand (h : em_ok A L N) (hc : cu_C N M T) {hand : Int} (hh : 0 ≤ hand ∧ hand < 8) (hT : vw_T A L T M (vx A L hand 0 0 0)) (hK : ∀ M', ow_of [60, 61, 62, 63] [(59, 2), (58, 5)] M M' → M' 58 5 = M 58 5 → vw_T A L T M' (vx A L (hand + 1) 0 0 0) → K 0 M') : ow_Sp C (EM A L N) (d + 4) mX9_prepareHand (0, 0) [(3, 58), (0, hand)] M K := by
  have hL := h.2.2.2.1
  have hL3 := h.2.2.1
  have hA := h.2.1
  have hA1 := h.1
  have hD := vx_D h
  refine fX9_prepareHand ?_
  intro N1 e1
  refine ow_upto (S := ow_M) (P := fun p s => ow_At C (EM A L N) (d + 4) mX9_prepareHand 12 [(0, (3, 58)), (1, (0, hand)), (2, (0, p))] [] (0, 0) s K) (I := fun p s => 0 ≤ p ∧ ow_of [60, 61, 62, 63] [(59, 2), (58, 5)] M s ∧ s 58 5 = M 58 5 ∧ s 60 3 = hand ∧ vw_T A L T s (vx A L hand p 0 0)) L (fun s hI => ?_) (fun p s p1 hI ih => ?_) 0 N1 (by omega) ⟨by omega, by rw [e1]; exact ow_of.rf.up (by decide), by rw [e1, ow_upN (Or.inl (by decide))], by rw [e1, ow_upS], ?_⟩
  · obtain ⟨_, i2, i5, i3, i4⟩ := hI
    refine cX9_prepareHand_12 ⟨fun _ => hK s i2 i5 ?_, fun q => by omega⟩
    have e : vx A L hand L 0 0 = vx A L (hand + 1) 0 0 0 := by
      unfold vx; rw [Int.add_mul hand 1 L, Int.one_mul, Int.add_zero]; simp only [Int.add_zero]
    rw [← e]; exact i4
  · obtain ⟨p0, i2, i5, i3, i4⟩ := hI
    refine cX9_prepareHand_12 ⟨fun q => by omega, fun _ => ?_⟩
    intro N2 e2
    refine ow_upto (S := ow_M) (P := fun f s => ow_At C (EM A L N) (d + 4) mX9_prepareHand 35 [(0, (3, 58)), (1, (0, hand)), (2, (0, p)), (3, (0, f))] [] (0, 0) s K) (I := fun f s => 0 ≤ f ∧ ow_of [60, 61, 62, 63] [(59, 2), (58, 5)] M s ∧ s 58 5 = M 58 5 ∧ s 60 3 = hand ∧ s 60 0 = p ∧ vw_T A L T s (vx A L hand p f 0)) A (fun s hI => ?_) (fun f s f1 hI ih2 => ?_) 0 N2 (by omega) ⟨by omega, by rw [e2]; exact i2.up (by decide), by rw [e2, ow_upN (Or.inl (by decide))]; exact i5, by rw [e2, ow_upN (Or.inr (by decide))]; exact i3, by rw [e2, ow_upS], by rw [e2]; exact i4.cg (fun y => ow_upN (Or.inl (by decide))) (fun y => ow_upN (Or.inl (by decide)))⟩
    · obtain ⟨_, j2, j5, j3, j4, j6⟩ := hI
      refine cX9_prepareHand_35 ⟨fun _ => ⟨⟨by omega, by omega⟩, ih s ⟨by omega, j2, j5, j3, ?_⟩⟩, fun q => by omega⟩
      have e : vx A L hand p A 0 = vx A L hand (p + 1) 0 0 := by
        unfold vx; rw [← Int.add_assoc, Int.add_mul (hand * L + p) 1 A, Int.one_mul, Int.add_zero]; simp only [Int.add_zero]
      rw [← e]; exact j6
    · obtain ⟨f0, j2, j5, j3, j4, j6⟩ := hI
      refine cX9_prepareHand_35 ⟨fun q => by omega, fun _ => ?_⟩
      intro N3 e3
      refine ow_upto (S := ow_M) (P := fun i s => ow_At C (EM A L N) (d + 4) mX9_prepareHand 59 [(0, (3, 58)), (1, (0, hand)), (2, (0, p)), (3, (0, f)), (4, (0, i))] [] (0, 0) s K) (I := fun i s => 0 ≤ i ∧ ow_of [60, 61, 62, 63] [(59, 2), (58, 5)] M s ∧ s 58 5 = M 58 5 ∧ s 60 3 = hand ∧ s 60 0 = p ∧ s 60 1 = f ∧ vw_T A L T s (vx A L hand p f i)) A (fun s hI => ?_) (fun i s i1 hI ih3 => ?_) 0 N3 (by omega) ⟨by omega, by rw [e3]; exact j2.up (by decide), by rw [e3, ow_upN (Or.inl (by decide))]; exact j5, by rw [e3, ow_upN (Or.inr (by decide))]; exact j3, by rw [e3, ow_upN (Or.inr (by decide))]; exact j4, by rw [e3, ow_upS], by rw [e3]; exact j6.cg (fun y => ow_upN (Or.inl (by decide))) (fun y => ow_upN (Or.inl (by decide)))⟩
      · obtain ⟨_, k2, k5, k3, k4, k6, k7⟩ := hI
        refine cX9_prepareHand_59 ⟨fun _ => ⟨⟨by omega, by omega⟩, ih2 s ⟨by omega, k2, k5, k3, k4, ?_⟩⟩, fun q => by omega⟩
        have e : vx A L hand p f A = vx A L hand p (f + 1) 0 := by
          unfold vx; rw [← Int.add_assoc, Int.add_mul ((hand * L + p) * A + f) 1 A, Int.one_mul, Int.add_zero]
        rw [← e]; exact k7
      · obtain ⟨i0, k2, k5, k3, k4, k6, k7⟩ := hI
        have enx : vx A L hand p f (i + 1) = vx A L hand p f i + 1 := by unfold vx; omega
        obtain ⟨d1, d2, d3, d4⟩ := vx_d (A := A) (L := L) hh.1 ⟨p0, p1⟩ ⟨f0, f1⟩ ⟨i0, i1⟩
        have hxr := vx_rg (H := 8) hh ⟨p0, p1⟩ ⟨f0, f1⟩ ⟨i0, i1⟩
        have hx0 := vx_rg (H := 8) hh ⟨p0, p1⟩ ⟨f0, f1⟩ (show 0 ≤ (0 : Int) ∧ 0 < A by omega)
        have e0 : vx A L hand p f 0 + i = vx A L hand p f i := by unfold vx; omega
        refine cX9_prepareHand_59 ⟨fun q => by omega, fun _ => ⟨fun q => ⟨⟨by omega, by omega⟩, ih3 s ⟨by omega, k2, k5, k3, k4, k6, ?_⟩⟩, fun q => ?_⟩⟩
        · rw [enx]
          refine k7.add (fun hne => ?_)
          rw [d1, d2] at hne
          exact absurd q.symm hne
        · intro N4 e4
          have k2' : ow_of [60, 61, 62, 63] [(59, 2), (58, 5)] M N4 := by rw [e4]; exact k2.up (by decide)
          refine tX9_changesOf h hh ⟨p0, p1⟩ ⟨f0, f1⟩ ⟨⟨by omega, by omega⟩, ?_⟩
          rw [e0]
          refine tX9_workOut h (vw_cu hc k2') hh ⟨p0, p1⟩ ⟨f0, f1⟩ ⟨i0, i1⟩ rfl (by rw [e4, ow_upN (Or.inr (by decide))]; exact k4) (by rw [e4, ow_upN (Or.inr (by decide))]; exact k6) (by rw [e4, ow_upS]) (by rw [e4, ow_upN (Or.inr (by decide))]; exact k3) (fun M' o w62 w63 => ⟨⟨by omega, by omega⟩, ih3 M' ⟨by omega, ?_, ?_, ?_, ?_, ?_, ?_⟩⟩)
          · exact k2'.tr (o.1.mono (fun c hc => by simp at hc; rcases hc with e | e | e <;> subst e <;> decide) (fun y hy => by simp at hy; rcases hy with e | e | e <;> subst e <;> first | exact Or.inl (by decide) | exact Or.inr (by decide)))
          · rw [o.1 58 5 (by decide) (by decide), e4, ow_upN (Or.inl (by decide))]; exact k5
          · rw [o.1 60 3 (by decide) (by decide), e4, ow_upN (Or.inr (by decide))]; exact k3
          · rw [o.1 60 0 (by decide) (by decide), e4, ow_upN (Or.inr (by decide))]; exact k4
          · rw [o.1 60 1 (by decide) (by decide), e4, ow_upN (Or.inr (by decide))]; exact k6
          · rw [enx]
            have k7' : vw_T A L T N4 (vx A L hand p f i) := by rw [e4]; exact k7.cg (fun y => ow_upN (Or.inl (by decide))) (fun y => ow_upN (Or.inl (by decide)))
            refine (k7'.wo (by omega) o).add (fun hne => ?_)
            have ev : ∀ k, vx_v A L T (vx A L hand p f i) k = ch_v T hand k p f i := fun k => by unfold vx_v; rw [d1, d2, d3, d4]
            exact ⟨fun k k0 k1 => by rw [ev]; exact w62 k k0 k1, fun k k0 k1 => by rw [ev]; exact w63 k k0 k1⟩
  · rw [e1]; exact hT.cg (fun y => ow_upN (Or.inl (by decide))) (fun y => ow_upN (Or.inl (by decide)))
theorem ow_cpJ {E : ow_E} {M : ow_M} {a0 a dp n i : Int} (h : dp ≤ i) (h2 : i < dp + n) : ow_cp E M a0 0 a dp n a i = ow_gv E M a0 (i - dp) := by
  unfold ow_cp
  rw [if_pos ⟨rfl, h, h2⟩, Int.zero_add]
theorem ow_cpO {E : ow_E} {M : ow_M} {a0 a dp n c i : Int} (h : c ≠ a ∨ i < dp ∨ dp + n ≤ i) : ow_cp E M a0 0 a dp n c i = M c i := if_neg (fun q => by rcases h with z | z | z; exact z q.1; omega; omega)
theorem tX9_copyFirstHand (h : em_ok A L N) (hf : tx_fo T) (hl : tx_cl N T) (h0 : T 0 10 = 0 ∨ T 0 0 = 0) {hand : Int} (hh : 0 < hand ∧ hand < 8) (hT : vw_T A L T M (vx A L hand 0 0 0)) (hK : ∀ M', ow_off [62, 63] M M' → vw_T A L T M' (vx A L (hand + 1) 0 0 0) → K 0 M') : ow_Sp C (EM A L N) (d + 1) mX9_copyFirstHand (0, 0) [(3, 58), (0, hand)] M K := by
  have hL := h.2.2.2.1
  have hL3 := h.2.2.1
  have hA := h.2.1
  have hA1 := h.1
  obtain ⟨hD1, hD2, hD3⟩ := vx_D h
  have g1 := em_bd (a := hand) (x := 7) (b := L * A * A) (y := 200) (by omega) (by omega) (by omega) (by omega)
  have g2 := em_bd (a := hand * (L * A * A)) (x := 1400) (b := L + 1) (y := 9) (by omega) (by omega) (by omega) (by omega)
  have g3 := em_bd (a := L * A * A) (x := 200) (b := L + 1) (y := 9) (by omega) (by omega) (by omega) (by omega)
  have g4 := Int.mul_le_mul_of_nonneg_right (show hand + 1 ≤ 8 by omega) (show 0 ≤ L * A * A by omega)
  rw [Int.add_mul, Int.one_mul] at g4
  have g5 := Int.mul_le_mul_of_nonneg_right (show hand * (L * A * A) + L * A * A ≤ 8 * (L * A * A) by omega) (show 0 ≤ L + 1 by omega)
  rw [Int.add_mul] at g5
  have eD : 8 * L * A * A * (L + 1) = 8 * (L * A * A) * (L + 1) := by rw [hD3]
  refine fX9_copyFirstHand ⟨⟨by omega, by omega⟩, ⟨by omega, by omega⟩, ⟨by omega, by omega⟩, ⟨by omega, by omega, by omega⟩, ⟨by omega, by omega⟩, ?_⟩
  intro N1 e1
  refine ⟨⟨by omega, by omega⟩, ⟨by omega, by omega⟩, ⟨by omega, by omega, by rw [eD]; omega⟩, ⟨by omega, by rw [eD]; omega⟩, ?_⟩
  intro N2 e2
  have q62 : ∀ y, N2 62 y = N1 62 y := fun y => by rw [e2]; exact ow_cpO (Or.inl (by decide))
  refine hK N2 ?_ (fun y y0 y1 => ?_)
  · intro c hc i
    have c1 : c ≠ 62 := fun e => hc (by rw [e]; decide)
    have c2 : c ≠ 63 := fun e => hc (by rw [e]; decide)
    rw [e2, ow_cpO (Or.inl c2), e1, ow_cpO (Or.inl c1)]
  · have ehq : ∀ q, vx A L q 0 0 0 = q * (L * A * A) := fun q => by rw [vx_q, Int.mul_assoc, Int.mul_assoc, ← Int.mul_assoc L]
    rw [ehq, Int.add_mul, Int.one_mul] at y1
    by_cases hy : y < hand * (L * A * A)
    · refine (hT y y0 (by rw [ehq]; exact hy)).fr ?_ (fun k k0 k1 => ?_)
      · rw [q62, e1, ow_cpO (Or.inr (Or.inl hy))]
      · have := vw_63 (L := L) (by omega) hy ⟨k0, k1⟩
        rw [e2, ow_cpO (Or.inr (Or.inl this)), e1, ow_cpO (Or.inl (by decide))]
    · have z0 : 0 ≤ y - hand * (L * A * A) := by omega
      have z1 : y - hand * (L * A * A) < L * A * A := by omega
      obtain ⟨v1, v2, v3, v4⟩ := vx_inv (by omega) (by omega) z0 z1
      have ey : y = vx A L hand ((y - hand * (L * A * A)) / A / A) ((y - hand * (L * A * A)) / A % A) ((y - hand * (L * A * A)) % A) := by
        rw [vx_sh, ← v1]; omega
      obtain ⟨d1, d2, d3, d4⟩ := vx_d (A := A) (L := L) (h := hand) (by omega) v2 v3 v4
      rw [← ey] at d1 d2 d3 d4
      obtain ⟨c1, c2, c3, c4⟩ := vx_d (A := A) (L := L) (h := 0) (by omega) v2 v3 v4
      rw [← v1] at c1 c2 c3 c4
      have hb := hT (y - hand * (L * A * A)) z0 (by rw [ehq]; have := Int.mul_le_mul_of_nonneg_right (show 1 ≤ hand by omega) (show 0 ≤ L * A * A by omega); omega)
      intro hne
      rw [d1, d2] at hne
      obtain ⟨w1, w2⟩ := hb (by rw [c1, c2]; exact hne)
      have ev : ∀ k, vx_v A L T y k = vx_v A L T (y - hand * (L * A * A)) k := by
        intro k
        unfold vx_v
        rw [d1, d2, d3, d4]
        have := c4
        rw [c4]
        rw [ch_hand0 hf hl h0 (hand := hand)]
        rw [c3]
      refine ⟨fun k k0 k1 => ?_, fun k k0 k1 => ?_⟩
      · rw [q62, e1, ow_cpJ (by omega) (by omega), ea62, ev]; exact w1 k k0 k1
      · have m1 : hand * (L * A * A) * (L + 1) ≤ y * (L + 1) := Int.mul_le_mul_of_nonneg_right (by omega) (by omega)
        have m2 := vw_63 (L := L) (y := y) (x := hand * (L * A * A) + L * A * A) (k := k) (by omega) (by omega) ⟨k0, k1⟩
        rw [Int.add_mul] at m2
        rw [e2, ow_cpJ (by omega) (by omega), ea63, e1, ow_cpO (Or.inl (by decide)), ev]
        have m3 : y * (L + 1) + k - hand * (L * A * A) * (L + 1) = (y - hand * (L * A * A)) * (L + 1) + k := by rw [Int.sub_mul]; omega
        rw [m3]; exact w2 k k0 k1
/-- the vow as it stands -/
def vw_R (A L : Int) (T M : ow_M) : Prop := (0 ≤ M 58 5 ∧ M 58 5 ≤ 8) ∧ vw_T A L T M (vx A L (M 58 5) 0 0 0)
theorem tX9_prepare (h : em_ok A L N) (hc : cu_C N M T) (hv : vw_R A L T M) {n : Int} (hn : 0 ≤ n ∧ n ≤ 8) (hK : ∀ M', ow_of [60, 61, 62, 63] [(59, 2), (58, 5)] M M' → vw_R A L T M' → vw_T A L T M' (vx A L n 0 0 0) → K 0 M') : ow_Sp C (EM A L N) (d + 5) mX9_prepare (0, 0) [(3, 58), (0, n)] M K := by
  have hc0 := hc
  obtain ⟨cf, cl, cr⟩ := hc
  have hA := h.1
  have hL3 := h.2.2.1
  have hv1 := hv.1
  have mono : ∀ a b, a ≤ b → vx A L a 0 0 0 ≤ vx A L b 0 0 0 := by
    intro a b hab
    rw [vx_q, vx_q]
    exact Int.mul_le_mul_of_nonneg_right (Int.mul_le_mul_of_nonneg_right (Int.mul_le_mul_of_nonneg_right hab (by omega)) (by omega)) (by omega)
  have loop : ∀ al, (al ≠ 0 → T 0 10 = 0 ∨ T 0 0 = 0) → ow_At C (EM A L N) (d + 5) mX9_prepare 28 [(0, (3, 58)), (1, (0, n)), (2, (0, al)), (3, (0, M 58 5))] [] (0, 0) M K := by
    intro al hal
    have key := ow_upto (S := ow_M) (P := fun j s => ow_At C (EM A L N) (d + 5) mX9_prepare 28 [(0, (3, 58)), (1, (0, n)), (2, (0, al)), (3, (0, j))] [] (0, 0) s K) (I := fun j s => M 58 5 ≤ j ∧ ow_of [60, 61, 62, 63] [(59, 2), (58, 5)] M s ∧ s 58 5 = j ∧ j ≤ 8 ∧ vw_T A L T s (vx A L j 0 0 0)) (max n (M 58 5)) (fun s hI => ?_) (fun j s j1 hI ih => ?_) (M 58 5) M (by omega) ⟨Int.le_refl _, ow_of.rf, rfl, hv.1.2, hv.2⟩
    · exact key
    · obtain ⟨i0, i2, i3, i5, i4⟩ := hI
      refine cX9_prepare_28 ⟨fun _ => hK s i2 ⟨by rw [i3]; omega, by rw [i3]; exact i4⟩ (i4.dn (mono _ _ (by omega))), fun q => by omega⟩
    · obtain ⟨i0, i2, i3, i5, i4⟩ := hI
      have nx : ∀ M1, ow_of [60, 61, 62, 63] [(59, 2), (58, 5)] M M1 → vw_T A L T M1 (vx A L (j + 1) 0 0 0) → ow_I (j + 1) ∧ ∀ N2, N2 = ow_up M1 58 5 (j + 1) → ow_At C (EM A L N) (d + 5) mX9_prepare 28 [(0, (3, 58)), (1, (0, n)), (2, (0, al)), (3, (0, j + 1))] [] (0, 0) N2 K := by
        intro M1 o1 t1
        refine ⟨⟨by omega, by omega⟩, fun N2 e2 => ih N2 ⟨by omega, by rw [e2]; exact o1.uf (by decide), by rw [e2, ow_upS], by omega, by rw [e2]; exact t1.cg (fun y => ow_upN (Or.inl (by decide))) (fun y => ow_upN (Or.inl (by decide)))⟩⟩
      have ph : ow_At C (EM A L N) (d + 5) mX9_prepare 55 [(0, (3, 58)), (1, (0, n)), (2, (0, al)), (3, (0, j))] [] (0, 0) s K := cX9_prepare_55 (tX9_prepareHand h (vw_cu hc0 i2) ⟨by omega, by omega⟩ i4 (fun M1 o _ t => nx M1 (i2.tr o) t))
      refine cX9_prepare_28 ⟨fun q => by omega, fun _ => ⟨fun q => by omega, fun _ => ⟨fun q => ph, fun q => ⟨fun q2 => ph, fun q2 => ?_⟩⟩⟩⟩
      exact tX9_copyFirstHand h cf cl (hal q) ⟨q2, by omega⟩ i4 (fun M1 o t => nx M1 (i2.tr ((ow_of.off o).mono (fun c hc => by simp at hc; rcases hc with e | e <;> subst e <;> decide) (fun y hy => by simp at hy))) t)
  refine fX9_prepare ?_
  rcases cr with ⟨r1, r2, r3⟩ | ⟨r, r1, r2, r3, r4⟩
  · exact ⟨fun _ => cX9_prepare_17 (loop 1 (fun _ => Or.inr r3)), fun q => by omega⟩
  · obtain ⟨t1, t2, t3, t4, t5, t6, t7, t8, t9, t10, t11, t12⟩ := em_text (A := A) (L := L) (N := N) (M := M) r1
    refine ⟨fun q => by omega, fun _ => ?_⟩
    rw [r2, t3, r4.1]
    exact ⟨t1, fun q => loop 0 (fun z => absurd rfl z), fun q => cX9_prepare_17 (loop 1 (fun _ => Or.inl q))⟩
end PRS
