/-! ===== sums by the reference ===== -/
def rr (n : Int) (t : Int → Int) (r : Int) (M : ow_M) (i : Int) (E : pm_E) : Prop := rf n t M i ∧ tp_M M n t ∧ M 83 15 = 680 * r ∧ M 83 17 = E.1 ∧ ∀ k, 0 ≤ k → k < E.1 → M 86 (680 * r + 75 + 2 * k) = cm_o (E.2 k) ∧ M 86 (680 * r + 75 + 2 * k + 1) = cm_v (E.2 k)
def pil (M : ow_M) : List Int → Prop
  | [] => True
  | x :: Q => M 88 (Q.length : Int) = x ∧ pil M Q
def rp (n : Int) (t : Int → Int) (r : Int) (M : ow_M) (i o : Int) (P : List Int) (E : pm_E) : Prop := rr n t r M i E ∧ M 83 21 = o ∧ M 83 20 = (P.length : Int) ∧ pil M P
def qS (r : Int) (M M' : ow_M) : Prop := ∀ c i, c ≠ 88 → ¬ (c = 83 ∧ ((10 ≤ i ∧ i ≤ 14) ∨ i = 17 ∨ (20 ≤ i ∧ i ≤ 22))) → ¬ (c = 86 ∧ 680 * r + 75 ≤ i ∧ i < 680 * r + 680) → M' c i = M c i
def cn : List Int → Int
  | [] => 0
  | x :: Q => (if op_ x = true then 0 else 1) + cn Q
def pb : List Int → Prop
  | [] => True
  | x :: Q => pb Q ∧ (if mu_ x = true then (Q.length : Int) + 1 ≤ 3 * cn (x :: Q) + 2 else if op_ x = true then (Q.length : Int) + 1 ≤ 3 * cn (x :: Q) + 1 else (Q.length : Int) + 1 ≤ 3 * cn (x :: Q))
def pv (m i o : Int) (P : List Int) (E : pm_E) : Prop := 0 ≤ E.1 ∧ E.1 + (P.length : Int) ≤ i ∧ i ≤ m ∧ pb P ∧ cn P ≤ o ∧ o ≤ 8 ∧ ∀ x ∈ P, x = 2 ∨ (3 ≤ x ∧ x ≤ 6) ∨ x = 40
section RFS
variable {C : ow_C} {A L N : Int} {d : Nat} {M : ow_M} {K : Int → ow_M → Prop} {n : Int} {t : Int → Int} {m r i o : Int} {P : List Int} {E : pm_E}
theorem qS.rf : qS r M M := fun _ _ _ _ _ => rfl
theorem qS.tr {M' M'' : ow_M} (h : qS r M M') (h2 : qS r M' M'') : qS r M M'' := fun c i h3 h4 h5 => (h2 c i h3 h4 h5).trans (h c i h3 h4 h5)
theorem cn_0 : ∀ P : List Int, 0 ≤ cn P := by
  intro P
  induction P with
  | nil => exact Int.le_refl 0
  | cons x Q ih =>
    show 0 ≤ (if op_ x = true then 0 else 1) + cn Q
    split <;> omega
theorem pb_le (h : pb P) : (P.length : Int) ≤ 3 * cn P + 2 ∧ ((∀ x Q, P = x :: Q → mu_ x ≠ true) → (P.length : Int) ≤ 3 * cn P + 1) ∧ ((∀ x Q, P = x :: Q → op_ x ≠ true) → (P.length : Int) ≤ 3 * cn P) := by
  cases P with
  | nil => exact ⟨by show (0 : Int) ≤ 3 * 0 + 2; omega, fun _ => by show (0 : Int) ≤ 3 * 0 + 1; omega, fun _ => by show (0 : Int) ≤ 3 * 0; omega⟩
  | cons x Q =>
    have h2 := h.2
    have e : ((x :: Q).length : Int) = (Q.length : Int) + 1 := by simp
    rw [e]
    by_cases hm : mu_ x = true
    · rw [if_pos hm] at h2
      exact ⟨h2, fun z => absurd hm (z x Q rfl), fun z => absurd (op_mu hm) (z x Q rfl)⟩
    · rw [if_neg hm] at h2
      by_cases hp : op_ x = true
      · rw [if_pos hp] at h2
        exact ⟨by omega, fun _ => h2, fun z => absurd hp (z x Q rfl)⟩
      · rw [if_neg hp] at h2
        exact ⟨by omega, fun _ => by omega, fun _ => h2⟩
theorem pv.len (h : pv m i o P E) : (P.length : Int) ≤ 26 ∧ 0 ≤ o := by
  obtain ⟨h1, h2, h3, h4, h5, h6, h7⟩ := h
  have := (pb_le h4).1
  have := cn_0 P
  omega
/-- popping -/
theorem pv_pop {x v : Int} {Q : List Int} (h : pv m i o (x :: Q) E) (hx : op_ x = true) : pv m i o Q (pe E v) := by
  obtain ⟨h1, h2, h3, h4, h5, h6, h7⟩ := h
  have e : ((x :: Q).length : Int) = (Q.length : Int) + 1 := by simp
  have c : cn (x :: Q) = 0 + cn Q := by show (if op_ x = true then 0 else 1) + cn Q = _; rw [if_pos hx]
  exact ⟨by show 0 ≤ E.1 + 1; omega, by show E.1 + 1 + (Q.length : Int) ≤ i; omega, h3, h4.1, by omega, h6, fun y hy => h7 y (List.mem_cons_of_mem _ hy)⟩
theorem pv_out {x : Int} {Q : List Int} {E' : pm_E} {i' : Int} (h : pv m i o (x :: Q) E) (hx : op_ x ≠ true) (hE : 0 ≤ E'.1) (hl : E'.1 + (Q.length : Int) ≤ i') (hi : i' ≤ m) : pv m i' (o - 1) Q E' := by
  obtain ⟨h1, h2, h3, h4, h5, h6, h7⟩ := h
  have c : cn (x :: Q) = 1 + cn Q := by show (if op_ x = true then 0 else 1) + cn Q = _; rw [if_neg hx]
  exact ⟨hE, hl, hi, h4.1, by omega, by omega, fun y hy => h7 y (List.mem_cons_of_mem _ hy)⟩
theorem pv_add {x : Int} (h : pv m i o P E) (hx : op_ x = true ∧ mu_ x ≠ true) (hP : ∀ y Q, P = y :: Q → op_ y ≠ true) (hi : i < m) : pv m (i + 1) o (x :: P) E := by
  obtain ⟨h1, h2, h3, h4, h5, h6, h7⟩ := h
  have l := (pb_le h4).2.2 hP
  have e : ((x :: P).length : Int) = (P.length : Int) + 1 := by simp
  have c : cn (x :: P) = 0 + cn P := by show (if op_ x = true then 0 else 1) + cn P = _; rw [if_pos hx.1]
  have xr := of_decide_eq_true hx.1
  refine ⟨h1, by omega, by omega, ⟨h4, ?_⟩, by omega, h6, fun y hy => ?_⟩
  · rw [if_neg hx.2, if_pos hx.1]; omega
  · rw [List.mem_cons] at hy
    rcases hy with hy | hy
    · omega
    · exact h7 y hy
theorem pv_mul {x : Int} (h : pv m i o P E) (hx : mu_ x = true) (hP : ∀ y Q, P = y :: Q → mu_ y ≠ true) (hi : i < m) : pv m (i + 1) o (x :: P) E := by
  obtain ⟨h1, h2, h3, h4, h5, h6, h7⟩ := h
  have l := (pb_le h4).2.1 hP
  have e : ((x :: P).length : Int) = (P.length : Int) + 1 := by simp
  have c : cn (x :: P) = 0 + cn P := by show (if op_ x = true then 0 else 1) + cn P = _; rw [if_pos (op_mu hx)]
  have xr := of_decide_eq_true hx
  refine ⟨h1, by omega, by omega, ⟨h4, ?_⟩, by omega, h6, fun y hy => ?_⟩
  · rw [if_pos hx]; omega
  · rw [List.mem_cons] at hy
    rcases hy with hy | hy
    · omega
    · exact h7 y hy
theorem pv_open {x : Int} (h : pv m i o P E) (hx : x = 2 ∨ x = 40) (ho : o < 8) (hi : i < m) : pv m (i + 1) (o + 1) (x :: P) E := by
  obtain ⟨h1, h2, h3, h4, h5, h6, h7⟩ := h
  have l := (pb_le h4).1
  have e : ((x :: P).length : Int) = (P.length : Int) + 1 := by simp
  have nx_ : op_ x ≠ true := by rcases hx with z | z <;> rw [z] <;> decide
  have nm_ : mu_ x ≠ true := by rcases hx with z | z <;> rw [z] <;> decide
  have c : cn (x :: P) = 1 + cn P := by show (if op_ x = true then 0 else 1) + cn P = _; rw [if_neg nx_]
  refine ⟨h1, by omega, by omega, ⟨h4, ?_⟩, by omega, by omega, fun y hy => ?_⟩
  · rw [if_neg nm_, if_neg nx_]; omega
  · rw [List.mem_cons] at hy
    rcases hy with hy | hy
    · omega
    · exact h7 y hy
theorem pv_val {v : Int} (h : pv m i o P E) (hi : i < m) : pv m (i + 1) o P (pe E v) := by
  obtain ⟨h1, h2, h3, h4, h5, h6, h7⟩ := h
  exact ⟨by show 0 ≤ E.1 + 1; omega, by show E.1 + 1 + (P.length : Int) ≤ i + 1; omega, by omega, h4, h5, h6, h7⟩
theorem pil.fr {M' : ow_M} : ∀ (P : List Int), pil M P → (∀ k, 0 ≤ k → k < (P.length : Int) → M' 88 k = M 88 k) → pil M' P := by
  intro P
  induction P with
  | nil => intro _ _; exact True.intro
  | cons x Q ih =>
    intro h o
    have e : ((x :: Q).length : Int) = (Q.length : Int) + 1 := by simp
    exact ⟨by rw [o _ (by omega) (by omega)]; exact h.1, ih h.2 (fun k k0 k1 => o k k0 (by omega))⟩
/-- it stands where codes, the place of reading and the tape stand -/
theorem rr.fr {M' : ow_M} (h : rr n t r M i E) (h83 : ∀ j, (7 ≤ j ∧ j ≤ 17) → M' 83 j = M 83 j) (h86 : ∀ j, M' 86 j = M 86 j) (h87 : ∀ j, M' 87 j = M 87 j) : rr n t r M' i E := by
  obtain ⟨⟨a1, a2, a3, a4, a5⟩, ⟨b1, b2⟩, c1, c2, c3⟩ := h
  refine ⟨⟨?_, ?_, ?_, ?_, ?_⟩, ⟨?_, ?_⟩, ?_, ?_, ?_⟩
  · rw [h83 _ (by omega)]; exact a1
  · rw [h83 _ (by omega)]; exact a2
  · rw [h83 _ (by omega)]; exact a3
  · rw [h83 13 (by omega)]; exact a4
  · rw [h83 14 (by omega)]; exact a5
  · rw [h83 _ (by omega)]; exact b1
  · intro j j0 j1; rw [h87]; exact b2 j j0 j1
  · rw [h83 _ (by omega)]; exact c1
  · rw [h83 _ (by omega)]; exact c2
  · intro k k0 k1; rw [h86, h86]; exact c3 k k0 k1
theorem tX12_emit (hr : 0 ≤ r ∧ r < 4) {v a b : Int} (h : rr n t r M i E) (h0 : 0 ≤ E.1) (h3 : E.1 < 300) (ha : a = cm_o v) (hb : b = cm_v v) (hK : ∀ M', qS r M M' → (∀ j, j ≠ 17 → M' 83 j = M 83 j) → (∀ j, M' 88 j = M 88 j) → rr n t r M' i (pe E v) → K 0 M') : ow_Sp C (EM A L N) d mX12_emit (0, 0) [(3, 83), (0, a), (0, b)] M K := by
  obtain ⟨⟨a1, a2, a3, a4, a5⟩, ⟨b1, b2⟩, c1, c2, c3⟩ := h
  refine fX12_emit ?_
  rw [c1, c2]
  refine ⟨⟨by omega, by omega⟩, ⟨by omega, by omega⟩, ⟨by omega, by omega⟩, ⟨by omega, by omega⟩, fun N1 e1 => ?_⟩
  have d1 : N1 83 15 = 680 * r := by rw [e1, ow_upN (Or.inl (by decide))]; exact c1
  have d2 : N1 83 17 = E.1 := by rw [e1, ow_upN (Or.inl (by decide))]; exact c2
  rw [d1, d2]
  refine ⟨⟨by omega, by omega⟩, ⟨by omega, by omega⟩, ⟨by omega, by omega⟩, ⟨by omega, by omega⟩, ⟨by omega, by omega⟩, fun N2 e2 => ?_⟩
  have d3 : N2 83 17 = E.1 := by rw [e2, ow_upN (Or.inl (by decide))]; exact d2
  rw [d3]
  refine ⟨⟨by omega, by omega⟩, fun N3 e3 => ?_⟩
  have s83 : ∀ j, j ≠ 17 → N3 83 j = M 83 j := fun j hj => by rw [e3, ow_upN (Or.inr hj), e2, ow_upN (Or.inl (by decide)), e1, ow_upN (Or.inl (by decide))]
  have sO : ∀ c j, c ≠ 83 → c ≠ 86 → N3 c j = M c j := fun c j q1 q2 => by rw [e3, ow_upN (Or.inl q1), e2, ow_upN (Or.inl q2), e1, ow_upN (Or.inl q2)]
  have s86 : ∀ j, j ≠ 680 * r + 75 + 2 * E.1 → j ≠ 680 * r + 75 + 2 * E.1 + 1 → N3 86 j = M 86 j := fun j q1 q2 => by rw [e3, ow_upN (Or.inl (by decide)), e2, ow_upN (Or.inr q2), e1, ow_upN (Or.inr q1)]
  refine hK N3 ?_ s83 (fun j => sO _ _ (by decide) (by decide)) ⟨⟨?_, ?_, ?_, ?_, ?_⟩, ⟨?_, ?_⟩, ?_, ?_, ?_⟩
  · intro c j q1 q2 q3
    by_cases e83 : c = 83
    · rw [e83, s83 j (by omega)]
    · by_cases e86 : c = 86
      · rw [e86, s86 j (by omega) (by omega)]
      · exact sO c j e83 e86
  · rw [s83 _ (by decide)]; exact a1
  · rw [s83 _ (by decide)]; exact a2
  · rw [s83 _ (by decide)]; exact a3
  · rw [s83 13 (by decide)]; exact a4
  · rw [s83 14 (by decide)]; exact a5
  · rw [s83 _ (by decide)]; exact b1
  · intro j j0 j1; rw [sO _ _ (by decide) (by decide)]; exact b2 j j0 j1
  · rw [s83 _ (by decide)]; exact c1
  · rw [e3, ow_upS]; rfl
  · intro k k0 k1
    have k1' : k < E.1 + 1 := k1
    show _ = cm_o (bk_put E.2 E.1 v k) ∧ _ = cm_v (bk_put E.2 E.1 v k)
    by_cases ek : k = E.1
    · rw [ek, bk_put_s, ← ha, ← hb]
      refine ⟨?_, ?_⟩
      · rw [e3, ow_upN (Or.inl (by decide)), e2, ow_upN (Or.inr (by omega)), e1, ow_upS]
      · rw [e3, ow_upN (Or.inl (by decide)), e2, ow_upS]
    · rw [bk_put_n ek, s86 _ (by omega) (by omega), s86 _ (by omega) (by omega)]
      exact c3 k k0 (by omega)
theorem rp_next (hp : tp_ok n t) (h : rp n t r M i o P E) (i0 : 0 ≤ i) (hK : ∀ M', qS r M M' → M' 83 22 = M 83 22 → rp n t r M' (i + 1) o P E → K 0 M') : ow_Sp C (EM A L N) (d + 2) mX12_nextToken (0, 0) [(3, 83)] M K := by
  obtain ⟨⟨⟨a1, a2, a3, a4, a5⟩, b, c1, c2, c3⟩, h2, h3, h4⟩ := h
  refine tX12_nextToken hp b (show 0 ≤ i + 1 by omega) (by rw [a1, show (i + 1).toNat = i.toNat + 1 by omega]) (fun M' oo hf => ?_)
  have s : ∀ c j, ¬ (c = 83 ∧ 10 ≤ j ∧ j ≤ 14) → M' c j = M c j := fun c j q => oo c j (by simp) (by simp <;> omega)
  refine hK M' (fun c j q1 q2 q3 => s c j (by omega)) (s _ _ (by omega)) ⟨⟨hf, ⟨by rw [s _ _ (by omega)]; exact b.1, fun j j0 j1 => by rw [s _ _ (by omega)]; exact b.2 j j0 j1⟩, by rw [s _ _ (by omega)]; exact c1, by rw [s _ _ (by omega)]; exact c2, fun k k0 k1 => by rw [s _ _ (by omega), s _ _ (by omega)]; exact c3 k k0 k1⟩, by rw [s _ _ (by omega)]; exact h2, by rw [s _ _ (by omega)]; exact h3, pil.fr P h4 (fun k _ _ => s _ _ (by omega))⟩
theorem rp_push {x : Int} (h : rp n t r M i o P E) (hl : (P.length : Int) < 160) (hK : ∀ M', qS r M M' → M' 83 22 = M 83 22 → rp n t r M' i o (x :: P) E → K 0 M') : ow_Sp C (EM A L N) d mX12_push (0, 0) [(3, 83), (0, x)] M K := by
  obtain ⟨h1, h2, h3, h4⟩ := h
  refine fX12_push ?_
  rw [h3]
  refine ⟨⟨by omega, by omega⟩, fun N1 e1 => ?_⟩
  have g : N1 83 20 = (P.length : Int) := by rw [e1, ow_upN (Or.inl (by decide))]; exact h3
  rw [g]
  refine ⟨⟨by omega, by omega⟩, fun N2 e2 => ?_⟩
  have s : ∀ c j, ¬ (c = 83 ∧ j = 20) → c ≠ 88 → N2 c j = M c j := fun c j q1 q2 => by rw [e2, ow_upN (by omega), e1, ow_upN (Or.inl q2)]
  refine hK N2 (fun c j q1 q2 q3 => s c j (by omega) q1) (s _ _ (by omega) (by decide)) ⟨h1.fr (fun j hj => s _ _ (by omega) (by decide)) (fun j => s _ _ (by omega) (by decide)) (fun j => s _ _ (by omega) (by decide)), by rw [s _ _ (by omega) (by decide)]; exact h2, by rw [e2, ow_upS]; simp, ?_, ?_⟩
  · rw [e2, ow_upN (Or.inl (by decide)), e1, ow_upS]
  · exact pil.fr P h4 (fun k k0 k1 => by rw [e2, ow_upN (Or.inl (by decide)), e1, ow_upN (Or.inr (by omega))])
end RFS
