/-! ===== sums by the reference, following the machine ===== -/
section RFT
variable {C : ow_C} {A L N : Int} {d : Nat} {M : ow_M} {K : Int → ow_M → Prop} {n : Int} {t : Int → Int} {m r i o : Int} {P : List Int} {E : pm_E}
theorem cm_op {x : Int} (h : op_ x = true) : x = cm_o (-8 - x) ∧ (0 : Int) = cm_v (-8 - x) := by
  have := of_decide_eq_true h
  unfold cm_o cm_v
  constructor
  · rw [if_neg (by omega), if_neg (by omega), if_neg (by omega), if_pos (by omega)]; omega
  · rw [if_neg (by omega), if_neg (by omega)]
/-- a pop -/
theorem rp_pop {x : Int} {Q : List Int} {M' : ow_M} (h : rp n t r M i o (x :: Q) E) (e : M' = ow_up M 83 20 (M 83 20 - 1)) : rp n t r M' i o Q E ∧ qS r M M' ∧ M' 83 22 = M 83 22 ∧ M 83 20 - 1 = (Q.length : Int) ∧ M 88 (Q.length : Int) = x := by
  obtain ⟨h1, h2, h3, h4⟩ := h
  have l : M 83 20 - 1 = (Q.length : Int) := by rw [h3]; simp
  have s : ∀ c j, ¬ (c = 83 ∧ j = 20) → M' c j = M c j := fun c j q1 => by rw [e, ow_upN (by omega)]
  exact ⟨⟨h1.fr (fun j hj => s _ _ (by omega)) (fun j => s _ _ (by omega)) (fun j => s _ _ (by omega)), by rw [s _ _ (by omega)]; exact h2, by rw [e, ow_upS, l], pil.fr Q h4.2 (fun k _ _ => s _ _ (by omega))⟩, fun c j q1 q2 q3 => s c j (by omega), s _ _ (by omega), l, h4.1⟩
theorem rp_open {o' : Int} {M' : ow_M} (h : rp n t r M i o P E) (e : M' = ow_up M 83 21 o') : rp n t r M' i o' P E ∧ qS r M M' ∧ M' 83 22 = M 83 22 := by
  obtain ⟨h1, h2, h3, h4⟩ := h
  have s : ∀ c j, ¬ (c = 83 ∧ j = 21) → M' c j = M c j := fun c j q1 => by rw [e, ow_upN (by omega)]
  exact ⟨⟨h1.fr (fun j hj => s _ _ (by omega)) (fun j => s _ _ (by omega)) (fun j => s _ _ (by omega)), by rw [e, ow_upS], by rw [s _ _ (by omega)]; exact h3, pil.fr P h4 (fun k _ _ => s _ _ (by omega))⟩, fun c j q1 q2 q3 => s c j (by omega), s _ _ (by omega)⟩
theorem rp_w {v : Int} {M' : ow_M} (h : rp n t r M i o P E) (e : M' = ow_up M 83 22 v) : rp n t r M' i o P E ∧ qS r M M' ∧ M' 83 22 = v := by
  obtain ⟨h1, h2, h3, h4⟩ := h
  have s : ∀ c j, ¬ (c = 83 ∧ j = 22) → M' c j = M c j := fun c j q1 => by rw [e, ow_upN (by omega)]
  exact ⟨⟨h1.fr (fun j hj => s _ _ (by omega)) (fun j => s _ _ (by omega)) (fun j => s _ _ (by omega)), by rw [s _ _ (by omega)]; exact h2, by rw [s _ _ (by omega)]; exact h3, pil.fr P h4 (fun k _ _ => s _ _ (by omega))⟩, fun c j q1 q2 q3 => s c j (by omega), by rw [e, ow_upS]⟩
theorem rp_emit (hr : 0 ≤ r ∧ r < 4) {v a b : Int} (h : rp n t r M i o P E) (h0 : 0 ≤ E.1) (h3 : E.1 < 300) (ha : a = cm_o v) (hb : b = cm_v v) (hK : ∀ M', qS r M M' → M' 83 22 = M 83 22 → rp n t r M' i o P (pe E v) → K 0 M') : ow_Sp C (EM A L N) d mX12_emit (0, 0) [(3, 83), (0, a), (0, b)] M K := by
  obtain ⟨h1, h2, h3', h4⟩ := h
  exact tX12_emit hr h1 h0 h3 ha hb (fun M' q s8 s88 g => hK M' q (s8 _ (by decide)) ⟨g, by rw [s8 _ (by decide)]; exact h2, by rw [s8 _ (by decide)]; exact h3', pil.fr P h4 (fun k _ _ => s88 k)⟩)
/-- what is pending and binds as tight -/
theorem tX12_settle (hr : 0 ≤ r ∧ r < 4) (m3 : m ≤ 300) {l : Int} (hl : l = 3 ∨ l = 5) : ∀ (P : List Int) (E : pm_E) (M : ow_M), rp n t r M i o P E → pv m i o P E → (∀ M' Q P', qS r M M' → M' 83 22 = M 83 22 → P = Q ++ P' → (∀ x ∈ Q, op_ x = true ∧ (l = 5 → mu_ x = true)) → (∀ x R, P' = x :: R → (l = 3 → op_ x ≠ true) ∧ (l = 5 → mu_ x ≠ true)) → rp n t r M' i o P' (pes E Q) → pv m i o P' (pes E Q) → K 0 M') → ow_At C (EM A L N) (d + 1) mX12_settle 0 [(0, (3, 83)), (1, (0, l))] [] (0, 0) M K := by
  intro P
  induction P with
  | nil =>
    intro E M h hv hK
    have e := h.2.2.1
    have e' : M 83 20 = 0 := e
    exact cX12_settle_0 ⟨fun _ => hK M [] [] qS.rf rfl rfl (fun x hx => by simp at hx) (fun x R z => by cases z) h hv, fun q => by omega⟩
  | cons x Q ih =>
    intro E M h hv hK
    have e := h.2.2.1
    have e' : M 83 20 = (Q.length : Int) + 1 := by rw [e]; simp
    have lw := hv.len.1
    have lw' : ((x :: Q).length : Int) = (Q.length : Int) + 1 := by simp
    have x88 : M 88 (M 83 20 - 1) = x := by rw [e', show (Q.length : Int) + 1 - 1 = (Q.length : Int) by omega]; exact h.2.2.2.1
    have hx := hv.2.2.2.2.2.2 x List.mem_cons_self
    have stop : (¬ (l ≤ x ∧ x ≤ 6)) → K 0 M := by
      intro hn
      refine hK M [] (x :: Q) qS.rf rfl rfl (fun y hy => by simp at hy) (fun y R z => ?_) h hv
      injection z with z1 z2
      rw [← z1]
      refine ⟨fun q => ?_, fun q => ?_⟩
      · intro z; have := of_decide_eq_true z; omega
      · intro z; have := of_decide_eq_true z; omega
    refine cX12_settle_0 ⟨fun q => by omega, fun _ => ?_⟩
    rw [x88]
    refine ⟨⟨by omega, by omega⟩, ⟨by omega, by omega⟩, fun q => stop (by omega), fun q => ⟨fun q2 => stop (by omega), fun q2 N1 e1 => ?_⟩⟩
    obtain ⟨g1, g2, g3, g4, g5⟩ := rp_pop h e1
    have n20 : N1 83 20 = (Q.length : Int) := g1.2.2.1
    have n88 : N1 88 (Q.length : Int) = x := by rw [e1, ow_upN (Or.inl (by decide))]; exact g5
    rw [n20, n88]
    have hop : op_ x = true := decide_eq_true (by omega)
    have v1 := hv.1
    have v2 := hv.2.1
    have v3 := hv.2.2.1
    refine ⟨⟨by omega, by omega⟩, rp_emit hr g1 v1 (by omega) (cm_op hop).1 (cm_op hop).2 (fun M2 q2' q3 q4 => ?_)⟩
    refine ih (pe E (-8 - x)) M2 q4 (pv_pop hv hop) (fun M' Q' P' w1 w2 w3 w4 w5 w6 w7 => hK M' (x :: Q') P' (g2.tr (q2'.tr w1)) (w2.trans (q3.trans g3)) (by rw [w3]; rfl) (fun y hy => ?_) w5 w6 w7)
    rw [List.mem_cons] at hy
    rcases hy with hy | hy
    · rw [hy]; exact ⟨hop, fun z => decide_eq_true (by omega)⟩
    · exact w4 y hy
/-- one is whole: what stands before it is done -/
theorem tX12_whole (hr : 0 ≤ r ∧ r < 4) (m3 : m ≤ 300) : ∀ (P : List Int) (o : Int) (E : pm_E) (M : ow_M), rp n t r M i o P E → pv m i o P E → M 83 22 = 1 → (∀ M' P' o' E', qS r M M' → M' 83 22 = 1 → (∀ i', rch n t (1, P, i', o, E) (2, P', i', o', E')) → rp n t r M' i o' P' E' → pv m i o' P' E' → K 0 M') → ow_At C (EM A L N) (d + 1) mX12_whole 5 [(0, (3, 83))] [] (0, 0) M K := by
  intro P
  induction P with
  | nil =>
    intro o E M h hv h22 hK
    have e' : M 83 20 = 0 := h.2.2.1
    exact cX12_whole_5 ⟨fun _ => hK M [] o E qS.rf h22 (fun _ => rch.st rfl) h hv, fun q => by omega⟩
  | cons x Q ih =>
    intro o E M h hv h22 hK
    have e := h.2.2.1
    have e' : M 83 20 = (Q.length : Int) + 1 := by rw [e]; simp
    have lw := hv.len.1
    have o0 := hv.len.2
    have o8 := hv.2.2.2.2.2.1
    have lw' : ((x :: Q).length : Int) = (Q.length : Int) + 1 := by simp
    have x88 : M 88 (M 83 20 - 1) = x := by rw [e', show (Q.length : Int) + 1 - 1 = (Q.length : Int) by omega]; exact h.2.2.2.1
    refine cX12_whole_5 ⟨fun q => by omega, fun _ => ?_⟩
    rw [x88]
    refine ⟨⟨by omega, by omega⟩, ⟨by omega, by omega⟩, fun q => hK M (x :: Q) o E qS.rf h22 (fun _ => rch.st ?_) h hv, fun q N1 e1 => ?_⟩
    · show (if x = 2 then _ else _) = _
      rw [if_neg q]
    · obtain ⟨g1, g2, g3, g4, g5⟩ := rp_pop h e1
      rw [g1.2.1]
      refine ⟨⟨by omega, by omega⟩, fun N2 e2 => ?_⟩
      obtain ⟨g6, g7, g8⟩ := rp_open g1 e2
      have v1 := hv.1
      have v2 := hv.2.1
      have v3 := hv.2.2.1
      refine rp_emit (v := -23) hr g6 v1 (by omega) rfl rfl (fun M2 q2' q3 q4 => ?_)
      refine ih (o - 1) (pe E (-23)) M2 q4 (pv_out hv (by rw [q]; decide) (by show 0 ≤ E.1 + 1; omega) (by show E.1 + 1 + (Q.length : Int) ≤ i; omega) v3) (by rw [q3, g8, g3]; exact h22) (fun M' P' o' E' w1 w2 w3 w4 w5 => hK M' P' o' E' (g2.tr (g7.tr (q2'.tr w1))) w2 (fun i' => rch.tr (rch.st ?_) (w3 i')) w4 w5)
      show (if x = 2 then _ else _) = _
      rw [if_pos q]
theorem pil_mem : ∀ (P : List Int), pil M P → ∀ x, x ∈ P ↔ ∃ k, 0 ≤ k ∧ k < (P.length : Int) ∧ M 88 k = x := by
  intro P
  induction P with
  | nil =>
    intro _ x
    constructor
    · intro h; simp at h
    · rintro ⟨k, k0, k1, _⟩
      have : k < 0 := k1
      omega
  | cons y Q ih =>
    intro h x
    have e : ((y :: Q).length : Int) = (Q.length : Int) + 1 := by simp
    rw [List.mem_cons, ih h.2 x, e]
    constructor
    · rintro (z | ⟨k, k0, k1, k2⟩)
      · exact ⟨(Q.length : Int), by omega, by omega, by rw [h.1, z]⟩
      · exact ⟨k, k0, by omega, k2⟩
    · rintro ⟨k, k0, k1, k2⟩
      by_cases z : k = (Q.length : Int)
      · left; rw [← k2, z]; exact h.1
      · right; exact ⟨k, k0, by omega, k2⟩
theorem tX12_hasParen (h : rp n t r M i o P E) (hl : (P.length : Int) ≤ 26) (k1 : 40 ∈ P → K 1 M) (k2 : 40 ∉ P → K 0 M) : ow_Sp C (EM A L N) d mX12_hasParen (0, 0) [(3, 83)] M K := by
  have hm := pil_mem P h.2.2.2 40
  have e := h.2.2.1
  have loop : ∀ (b : Nat) (l : Int), (P.length : Int) - l < b → 0 ≤ l → l ≤ (P.length : Int) → (∀ k, 0 ≤ k → k < l → M 88 k ≠ 40) → ow_At C (EM A L N) d mX12_hasParen 2 [(0, (3, 83)), (1, (0, l))] [] (0, 0) M K := by
    intro b
    induction b with
    | zero => intro l hb l0 l1 _; omega
    | succ b ih =>
      intro l hb l0 l1 hk
      refine cX12_hasParen_2 ?_
      rw [e]
      refine ⟨fun q => k2 (fun z => ?_), fun q => ⟨⟨by omega, by omega⟩, fun z => ⟨⟨by omega, by omega⟩, ih (l + 1) (by omega) (by omega) (by omega) (fun k k0 k1' => ?_)⟩, fun z => k1 (hm.2 ⟨l, l0, q, z⟩)⟩⟩
      · obtain ⟨k, k0, k1', k2'⟩ := hm.1 z
        exact hk k k0 (by omega) k2'
      · by_cases ek : k = l
        · rw [ek]; exact z
        · exact hk k k0 (by omega)
  exact fX12_hasParen (loop (P.length + 1) 0 (by omega) (Int.le_refl 0) (by omega) (fun k k0 k1' => by omega))
/-- does the sum go on? -/
theorem tX12_goesOn (h : rp n t r M i o P E) (hl : (P.length : Int) ≤ 26) (k1 : (kx n t i = 43 ∨ kx n t i = 45) ∨ (kx n t i = 42 ∨ kx n t i = 47) ∨ (kx n t i = 41 ∧ 40 ∈ P) → K 1 M) (k2 : ¬ (kx n t i = 43 ∨ kx n t i = 45) → ¬ (kx n t i = 42 ∨ kx n t i = 47) → ¬ (kx n t i = 41 ∧ 40 ∈ P) → K 0 M) : ow_Sp C (EM A L N) (d + 1) mX12_goesOn (0, 0) [(3, 83)] M K := by
  have tc := (tcode_rg (kx_45 (n := n) (t := t) (i := i))).2.2.2.2.2
  have e := h.1.1.2.2.1
  refine fX12_goesOn ?_
  rw [e]
  refine ⟨fun q => k1 (Or.inl (Or.inl ((tc 43 (by decide) (by decide)).1 q))), fun q1 => ⟨fun q => k1 (Or.inl (Or.inr ((tc 45 (by decide) (by decide)).1 q))), fun q2 => ⟨fun q => k1 (Or.inr (Or.inl (Or.inl ((tc 42 (by decide) (by decide)).1 q)))), fun q3 => ⟨fun q => k1 (Or.inr (Or.inl (Or.inr ((tc 47 (by decide) (by decide)).1 q)))), fun q4 => ?_⟩⟩⟩⟩
  have n1 : ¬ (kx n t i = 43 ∨ kx n t i = 45) := fun z => z.elim (fun z => q1 ((tc 43 (by decide) (by decide)).2 z)) (fun z => q2 ((tc 45 (by decide) (by decide)).2 z))
  have n2 : ¬ (kx n t i = 42 ∨ kx n t i = 47) := fun z => z.elim (fun z => q3 ((tc 42 (by decide) (by decide)).2 z)) (fun z => q4 ((tc 47 (by decide) (by decide)).2 z))
  refine ⟨fun q => k2 n1 n2 (fun z => q ((tc 41 (by decide) (by decide)).2 z.1)), fun q => tX12_hasParen h hl (fun z => ⟨fun y => absurd y (by decide), fun _ => k1 (Or.inr (Or.inr ⟨(tc 41 (by decide) (by decide)).1 q, z⟩))⟩) (fun z => ⟨fun _ => k2 n1 n2 (fun y => z y.2), fun y => absurd rfl y⟩)⟩
end RFT
