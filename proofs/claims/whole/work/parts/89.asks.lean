/-! ===== sums, questions: what is read, as relations ===== -/
def sumR (n : Int) (t : Int → Int) (i o : Int) (E : pm_E) (f j : Int) (E' : pm_E) : Prop := (f = 0 ∧ rch n t (0, [], i, o, E) (3, [], j, o, E') ∧ i < j ∧ E'.1 + i ≤ E.1 + j ∧ E.1 ≤ E'.1) ∨ (f ≠ 0 ∧ rch n t (0, [], i, o, E) (4, [], j, f, E'))
def cmp_ (k : Int) : Int := if k = 35 then -20 else if k = 60 then -15 else if k = 61 then -19 else if k = 62 then -17 else if k = 256 then -16 else if k = 257 then -18 else 0
def askB (n : Int) (t : Int → Int) (i o : Int) (E : pm_E) (f j : Int) (E' : pm_E) : Prop := ∃ f1 j1 E1, sumR n t i o E f1 j1 E1 ∧ ((f1 ≠ 0 ∧ f = f1 ∧ j = j1) ∨ (f1 = 0 ∧ cmp_ (kx n t j1) = 0 ∧ f = 1 ∧ j = j1) ∨ (f1 = 0 ∧ cmp_ (kx n t j1) ≠ 0 ∧ ∃ E2, sumR n t (j1 + 1) o E1 f j E2 ∧ (f = 0 → E' = pe E2 (cmp_ (kx n t j1)))))
def askR (n : Int) (t : Int → Int) : Nat → Int → pm_E → Int → Int → pm_E → Prop
  | 0, i, E, f, j, E' => (nx n t i = 13 ∧ f = 3 ∧ j = i) ∨ (nx n t i ≠ 13 ∧ askB n t i 8 E f j E')
  | k + 1, i, E, f, j, E' => (nx n t i = 13 ∧ ∃ E1, askR n t k (i + 1) E f j E1 ∧ (f = 0 → E' = pe E1 (-24))) ∨ (nx n t i ≠ 13 ∧ askB n t i (7 - k) E f j E')
def ga (m i : Int) (E : pm_E) (j : Int) (E' : pm_E) : Prop := i < j ∧ j ≤ m ∧ E'.1 + i ≤ E.1 + j ∧ E.1 ≤ E'.1 ∧ (∀ k, 0 ≤ k → k < E.1 → E'.2 k = E.2 k) ∧ ∀ a tr, ckv E a 0 tr → 0 ≤ tr → ckv E' a 0 (tr + 1)
theorem cmp_rg {k : Int} : cmp_ k = 0 ∨ (-20 ≤ cmp_ k ∧ cmp_ k ≤ -15) := by
  unfold cmp_
  (repeat' split) <;> omega
theorem ga_cmp {m i j j' c : Int} {E E1 E2 : pm_E} (h : gr m i E j E1) (h2 : gr m (j + 1) E1 j' E2) (hc : -20 ≤ c ∧ c ≤ -15) : ga m i E j' (pe E2 c) := by
  obtain ⟨a1, a2, a3, a4, a5, a6⟩ := h
  obtain ⟨b1, b2, b3, b4, b5, b6⟩ := h2
  refine ⟨by omega, b2, by show E2.1 + 1 + i ≤ E.1 + j'; omega, by show E.1 ≤ E2.1 + 1; omega, fun k k0 k1 => ?_, fun a tr g g0 => ?_⟩
  · show bk_put E2.2 E2.1 c k = E.2 k
    rw [bk_put_n (by omega), b5 k k0 (by omega)]; exact a5 k k0 k1
  · have := ckv_push (c := c) (b6 a (0 + 1) tr (a6 a 0 tr g (by omega)) (by omega)) (by unfold ck_ok; omega)
    have e1 : ck_n c (0 + 1 + 1) = 0 := by unfold ck_n; rw [if_neg (by omega), if_neg (by omega), if_neg (by omega)]; omega
    have e2 : ck_t c tr = tr + 1 := by unfold ck_t; rw [if_neg (by omega), if_pos (by omega)]
    rw [e1, e2] at this
    exact this
theorem ga_not {m i j : Int} {E E' : pm_E} (h : ga m (i + 1) E j E') : ga m i E j (pe E' (-24)) := by
  obtain ⟨h1, h2, h3, h4, h5, h6⟩ := h
  refine ⟨by omega, h2, by show E'.1 + 1 + i ≤ E.1 + j; omega, by show E.1 ≤ E'.1 + 1; omega, fun k k0 k1 => ?_, fun a tr g g0 => ?_⟩
  · show bk_put E'.2 E'.1 (-24) k = E.2 k
    rw [bk_put_n (by omega)]; exact h5 k k0 k1
  · have := ckv_push (c := -24) (h6 a tr g g0) (by unfold ck_ok; omega)
    have e1 : ck_n (-24) 0 = 0 := by decide
    have e2 : ck_t (-24) (tr + 1) = tr + 1 := by unfold ck_t; rw [if_neg (by omega), if_neg (by omega), if_neg (by omega)]
    rw [e1, e2] at this
    exact this
section ASK
variable {C : ow_C} {A L N : Int} {n : Int} {t : Int → Int} {m r : Int}
/-- a whole sum by the class -/
theorem tX6_readSum (hp : tp_ok n t) (hr : 0 ≤ r ∧ r < 4) (hm : te_ok n t m) {k D : Nat} {o i : Int} {E : pm_E} {M : ow_M} {K : Int → ow_M → Prop} (ho : o = 8 - k) (h0 : 0 ≤ o) (h : rd A L n t m r M i E) (hE0 : 0 ≤ E.1) (hE : E.1 ≤ i) (k1 : ∀ M' j E', rF r M M' → rd A L n t m r M' j E' → sumR n t i o E 0 j E' → gr m i E j E' → K 0 M') (k2 : ∀ M' f j E', rF r M M' → rw_ A L n t m r M' f j → sumR n t i o E f j E' → K 0 M') : ow_Sp C (EM A L N) (D + 3 * k + 4) mX6_readSum (0, 0) [(3, 46), (0, o)] M K := by
  refine (tX6_sums hp hr hm k D o ho h0).2.2 [] i E M K (fun x Q e => by cases e) h hE0 hE (fun M' j Q X oo s rc hQ q1 q2 g => ?_) (fun M' f j E' oo w rc => k2 M' f j E' oo w (Or.inr ⟨w.2.1, rc⟩))
  have re := rch_end (n := n) (t := t) (P := []) (i := j) (o := o) q2 q1 (fun z => by have := z.2; simp at this) (fun x R e => by cases e) Q X hQ
  rw [if_pos rfl] at re
  exact k1 M' j (pes X Q) oo s (Or.inl ⟨rfl, rc.tr re, g.1, g.2.2.1, g.2.2.2.1⟩) g
theorem tX3_comparison {d : Nat} {M : ow_M} {K : Int → ow_M → Prop} {k : Int} (hK : K (cmp_ k) M) : ow_Sp C (EM A L N) d mX3_comparison (0, 0) [(0, k)] M K := by
  refine fX3_comparison ⟨fun q => ?_, fun q => ⟨fun q2 => ?_, fun q2 => ⟨fun q3 => ?_, fun q3 => ⟨fun q4 => ?_, fun q4 => ⟨fun q5 => ?_, fun q5 => ⟨fun q6 => ?_, fun q6 => ?_⟩⟩⟩⟩⟩⟩
  · rw [q] at hK; exact hK
  · rw [q2] at hK; exact hK
  · rw [q3] at hK; exact hK
  · rw [q4] at hK; exact hK
  · rw [q5] at hK; exact hK
  · rw [q6] at hK; exact hK
  · have e : cmp_ k = 0 := by unfold cmp_; rw [if_neg q, if_neg q2, if_neg q3, if_neg q4, if_neg q5, if_neg q6]
    rw [e] at hK; exact hK
/-- a question that begins with a sum -/
theorem ask_b (hp : tp_ok n t) (hr : 0 ≤ r ∧ r < 4) (hm : te_ok n t m) {k D : Nat} {o i : Int} {E : pm_E} {M : ow_M} {K : Int → ow_M → Prop} (ho : o = 8 - k) (h0 : 0 ≤ o) (h : rd A L n t m r M i E) (hE0 : 0 ≤ E.1) (hE : E.1 ≤ i) (k1 : ∀ M' j E', rF r M M' → rd A L n t m r M' j E' → askB n t i o E 0 j E' → ga m i E j E' → K 0 M') (k2 : ∀ M' f j E', rF r M M' → rw_ A L n t m r M' f j → askB n t i o E f j E' → K 0 M') : ow_Sp C (EM A L N) (D + 3 * k + 4) mX6_readSum (0, 0) [(3, 46), (0, o)] M (fun r2 N2 => ow_Sp C (EM A L N) (D + 3 * k + 4) mX6_kind (0, 0) [(3, 46)] N2 (fun r3 N3 => ow_Sp C (EM A L N) (D + 3 * k + 4) mX3_comparison (0, 0) [(0, r3)] N3 (fun r4 N4 => (r4 = 0 → ow_At C (EM A L N) (D + 3 * k + 4 + 1) mX6_readAsk 57 [(0, (3, 46)), (1, (0, o)), (2, (0, r4))] [(0, 0), (3, 46)] (0, 0) N4 K) ∧ (r4 ≠ 0 → ow_At C (EM A L N) (D + 3 * k + 4 + 1) mX6_readAsk 57 [(0, (3, 46)), (1, (0, o)), (2, (0, r4))] [(0, 1), (3, 46)] (0, 0) N4 K)))) := by
  have m3 := hm.1
  -- with a fault nothing more is read
  have dead : ∀ M1 f j E1 c s0, rF r M M1 → rw_ A L n t m r M1 f j → askB n t i o E f j E1 → ow_At C (EM A L N) (D + 3 * k + 4 + 1) mX6_readAsk 57 [(0, (3, 46)), (1, (0, o)), (2, (0, c))] [(0, s0), (3, 46)] (0, 0) M1 K := by
    intro M1 f j E1 c s0 o1 w1 a1
    refine cX6_readAsk_57 (tX6_passW hr hm w1 ?_)
    refine sumW (D := D + 3 * k + 1) w1 ?_
    rw [w1.1.1]
    exact ⟨(em_text (A := A) (L := L) (N := N) (M := M1) hr).1, rw_emit hr w1 (fun M3 o3 w3 => k2 M3 f j E1 (o1.tr o3) w3 a1)⟩
  refine tX6_readSum hp hr hm ho h0 h hE0 hE (fun M1 j1 E1 o1 s1 r1 g1 => tX6_kind hm s1.1 (tX3_comparison ?_)) (fun M1 f1 j1 E1 o1 w1 r1 => tX6_kind hm w1.1 (tX3_comparison ⟨fun _ => ?_, fun _ => ?_⟩))
  · rw [s1.2.1]
    refine ⟨fun z => ?_, fun z => ?_⟩
    · rw [z]
      refine cX6_readAsk_57 (tX6_pass hr hm s1 (fun q => absurd rfl q) (fun q => absurd rfl q) (fun _ M2 o2 w2 => ?_))
      refine sumW (D := D + 3 * k + 1) w2 ?_
      rw [w2.1.1]
      exact ⟨(em_text (A := A) (L := L) (N := N) (M := M2) hr).1, rw_emit hr w2 (fun M3 o3 w3 => k2 M3 1 j1 E1 (o1.tr (o2.tr o3)) w3 ⟨0, j1, E1, r1, Or.inr (Or.inl ⟨rfl, z, rfl, rfl⟩)⟩)⟩
    · have cr : -20 ≤ cmp_ (kx n t j1) ∧ cmp_ (kx n t j1) ≤ -15 := by
        rcases cmp_rg (k := kx n t j1) with e | e
        · exact absurd e z
        · exact e
      have kn : kx n t j1 ≠ 0 := fun e => by rw [e] at z; exact absurd rfl z
      have jl := kx_lt hm g1.2.1 kn
      have ge := g1.2.2.1
      have gl := g1.2.2.2.1
      refine cX6_readAsk_57 (tX6_pass hr hm s1 (fun _ => jl) (fun _ M2 o2 s2 => ?_) (fun q => absurd q (by decide)))
      refine tX6_readSum hp hr hm ho h0 s2 (by omega) (by omega) (fun M3 j3 E3 o3 s3 r3 g3 => ?_) (fun M3 f3 j3 E3 o3 w3 r3 => ?_)
      · rw [s3.1.1]
        have gg := ga_cmp g1 g3 cr
        have l3 := gg.2.2.1
        have l4 := gg.2.1
        have l5 : (pe E3 (cmp_ (kx n t j1))).1 = E3.1 + 1 := rfl
        exact ⟨(em_text (A := A) (L := L) (N := N) (M := M3) hr).1, rd_emit hr s3 (by omega) (by omega) (fun M4 o4 s4 => k1 M4 j3 _ (o1.tr (o2.tr (o3.tr o4))) s4 ⟨0, j1, E1, r1, Or.inr (Or.inr ⟨rfl, z, E3, r3, fun _ => rfl⟩)⟩ gg)⟩
      · rw [w3.1.1]
        exact ⟨(em_text (A := A) (L := L) (N := N) (M := M3) hr).1, rw_emit hr w3 (fun M4 o4 w4 => k2 M4 f3 j3 E3 (o1.tr (o2.tr (o3.tr o4))) w4 ⟨0, j1, E1, r1, Or.inr (Or.inr ⟨rfl, z, E3, r3, fun e => absurd e w4.2.1⟩)⟩)⟩
  · exact dead M1 f1 j1 E1 _ _ o1 w1 ⟨f1, j1, E1, r1, Or.inl ⟨w1.2.1, rfl, rfl⟩⟩
  · exact dead M1 f1 j1 E1 _ _ o1 w1 ⟨f1, j1, E1, r1, Or.inl ⟨w1.2.1, rfl, rfl⟩⟩
/-- a question -/
theorem tX6_readAsk (hp : tp_ok n t) (hr : 0 ≤ r ∧ r < 4) (hm : te_ok n t m) : ∀ (k D : Nat) (o i : Int) (E : pm_E) (M : ow_M) (K : Int → ow_M → Prop), o = 8 - k → 0 ≤ o → rd A L n t m r M i E → 0 ≤ E.1 → E.1 ≤ i → (∀ M' j E', rF r M M' → rd A L n t m r M' j E' → askR n t k i E 0 j E' → ga m i E j E' → K 0 M') → (∀ M' f j E', rF r M M' → rw_ A L n t m r M' f j → askR n t k i E f j E' → K 0 M') → ow_Sp C (EM A L N) (D + 3 * k + 5) mX6_readAsk (0, 0) [(3, 46), (0, o)] M K := by
  have m3 := hm.1
  intro k
  induction k with
  | zero =>
    intro D o i E M K ho h0 h hE0 hE k1 k2
    refine fX6_readAsk (tX6_isName hm h.1 (fun q => ⟨fun z => absurd z (by decide), fun _ => ?_⟩) (fun q => ⟨fun _ => ?_, fun z => absurd rfl z⟩))
    · rw [h.2.1] at q
      have il := (nx_lt hm (by have := h.1.2.2.1.2; rw [h.2.1] at this; exact this) (show 0 ≤ nx n t i by omega)).1
      exact tX6_opensOneMore hr hm h il (fun z => by omega) (fun _ M' o' w => ⟨fun _ => k2 M' 3 i E o' w (Or.inl ⟨q, rfl, rfl⟩), fun z => absurd rfl z⟩)
    · rw [h.2.1] at q
      have o8 : o = 8 := by omega
      exact ask_b (k := 0) (D := D) hp hr hm ho h0 h hE0 hE (fun M' j E' o' s a g => k1 M' j E' o' s (Or.inr ⟨q, by rw [o8] at a; exact a⟩) g) (fun M' f j E' o' w a => k2 M' f j E' o' w (Or.inr ⟨q, by rw [o8] at a; exact a⟩))
  | succ k ih =>
    intro D o i E M K ho h0 h hE0 hE k1 k2
    have e7 : o = 7 - k := by omega
    refine fX6_readAsk (tX6_isName hm h.1 (fun q => ⟨fun z => absurd z (by decide), fun _ => ?_⟩) (fun q => ⟨fun _ => ?_, fun z => absurd rfl z⟩))
    · rw [h.2.1] at q
      have il := (nx_lt hm (by have := h.1.2.2.1.2; rw [h.2.1] at this; exact this) (show 0 ≤ nx n t i by omega)).1
      refine tX6_opensOneMore hr hm h il (fun z M1 o1 s1 => ⟨fun z2 => absurd z2 (by decide), fun _ => ⟨⟨by omega, by omega⟩, ?_⟩⟩) (fun z => by omega)
      rw [show D + 3 * (k + 1) + 4 = (D + 2) + 3 * k + 5 by omega]
      refine ih (D + 2) (o + 1) (i + 1) E M1 _ (by omega) (by omega) s1 hE0 (by omega) (fun M2 j2 E2 o2 s2 a2 g2 => ?_) (fun M2 f2 j2 E2 o2 w2 a2 => ?_)
      · have gg := ga_not g2
        have l3 := gg.2.2.1
        have l4 := gg.2.1
        have l5 : (pe E2 (-24)).1 = E2.1 + 1 := rfl
        rw [s2.1.1]
        exact ⟨(em_text (A := A) (L := L) (N := N) (M := M2) hr).1, rd_emit hr s2 (by omega) (by decide) (fun M3 o3 s3 => k1 M3 j2 _ (o1.tr (o2.tr o3)) s3 (Or.inl ⟨q, E2, a2, fun _ => rfl⟩) gg)⟩
      · rw [w2.1.1]
        exact ⟨(em_text (A := A) (L := L) (N := N) (M := M2) hr).1, rw_emit hr w2 (fun M3 o3 w3 => k2 M3 f2 j2 E2 (o1.tr (o2.tr o3)) w3 (Or.inl ⟨q, E2, a2, fun z => absurd z w3.2.1⟩))⟩
    · rw [h.2.1] at q
      exact ask_b (k := k + 1) (D := D) hp hr hm ho h0 h hE0 hE (fun M' j E' o' s a g => k1 M' j E' o' s (Or.inr ⟨q, by rw [e7] at a; exact a⟩) g) (fun M' f j E' o' w a => k2 M' f j E' o' w (Or.inr ⟨q, by rw [e7] at a; exact a⟩))
end ASK
