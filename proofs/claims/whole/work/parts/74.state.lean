/-! ===== class and reference side by side ===== -/
def gs_T (TT : Int → ow_M) (r : Int) : ow_M := if r < 0 then tx_0 else TT r
def gs_b (N : Int) (M : ow_M) : Prop := ∃ n w p, bk_ok N n w p ∧ bk_C N M 6 n w p ∧ bk_M M 84 n w p
def gs_bi (N : Int) (M : ow_M) : Prop := ∃ n w p, bk_ok N n w p ∧ bk_C N M 10 n w p ∧ bk_M M 85 n w p
def gs_l (N : Int) (M : ow_M) : Prop := ∃ h n hd wd tm, lg_ok N h n hd wd tm ∧ lg_C M 14 h n hd wd tm ∧ lg_M M 84 h n hd wd tm
def gs_li (N : Int) (M : ow_M) : Prop := ∃ h n hd wd tm, lg_ok N h n hd wd tm ∧ lg_C M 18 h n hd wd tm ∧ lg_M M 85 h n hd wd tm
def gs_t (M : ow_M) : Prop := ∃ n t, tp_ok n t ∧ tp_C M n t ∧ tp_M M n t
def gs_f (M : ow_M) : Prop := M 0 12 = M 83 8 ∧ M 0 13 = M 83 9
def gx (N : Int) (M : ow_M) (c c' r r' : Int) (TT : Int → ow_M) : Prop := (M 0 8 = c ∧ M 0 9 = c' ∧ M 0 10 = r ∧ M 0 11 = r') ∧ (M 84 0 = c ∧ M 85 0 = c' ∧ M 84 1 = r ∧ M 85 1 = r') ∧ (0 ≤ c' ∧ c' ≤ c ∧ c ≤ 4) ∧ (-1 ≤ r ∧ r < c) ∧ (-1 ≤ r' ∧ r' < c') ∧ (∀ i, 0 ≤ i → i < c → tx_fo (TT i) ∧ tx_cl N (TT i) ∧ tx_C M (22 + 6 * i) (TT i) ∧ tx_M M i (TT i)) ∧ M 58 6 = ru_src r
def gs_x (A L N : Int) (M : ow_M) : Prop := ∃ c c' r r' TT, gx N M c c' r r' TT ∧ vw_R A L (gs_T TT r) M
def gs (A L N : Int) (M : ow_M) : Prop := (gs_b N M ∧ gs_bi N M) ∧ (gs_l N M ∧ gs_li N M) ∧ gs_t M ∧ gs_f M ∧ gs_x A L N M ∧ ct_C M ∧ cc_C M
section GSS
variable {A L N : Int} {M M' T : ow_M} {c c' r r' : Int} {TT : Int → ow_M}
theorem gx.cuC (h : gx N M c c' r r' TT) : cu_C N M (gs_T TT r) := by
  obtain ⟨a1, a2, a3, a4, a5, a6, a7⟩ := h
  unfold gs_T
  by_cases e : r < 0
  · rw [if_pos e]
    refine ⟨tx_0_fo, tx_0_cl, Or.inl ⟨?_, by omega, rfl⟩⟩
    rw [a7]; unfold ru_src; rw [if_pos e]
  · rw [if_neg e]
    obtain ⟨b1, b2, b3, b4⟩ := a6 r (by omega) a4.2
    refine ⟨b1, b2, Or.inr ⟨r, ⟨by omega, by omega⟩, ?_, a1.2.2.1, b3⟩⟩
    rw [a7]; unfold ru_src; rw [if_neg e]
theorem gx.cuM (h : gx N M c c' r r' TT) : cu_M N M (gs_T TT r) := by
  obtain ⟨a1, a2, a3, a4, a5, a6, a7⟩ := h
  unfold gs_T
  by_cases e : r < 0
  · rw [if_pos e]
    exact ⟨tx_0_fo, tx_0_cl, Or.inl ⟨by omega, rfl⟩⟩
  · rw [if_neg e]
    obtain ⟨b1, b2, b3, b4⟩ := a6 r (by omega) a4.2
    refine ⟨b1, b2, Or.inr ⟨⟨by omega, by omega⟩, ?_⟩⟩
    rw [a2.2.2.1]; exact b4
theorem gx.tc (h : gx N M c c' r r' TT) : tc_ok M c := ⟨h.1.1, ⟨by have := h.2.2.1; omega, h.2.2.1.2.2⟩, by rw [h.1.2.2.1]; exact h.2.2.2.1.2⟩
theorem tx_M.mv {i : Int} (h : tx_M M i T) (e : ∀ x, M' 86 x = M 86 x) : tx_M M' i T := ⟨by rw [e]; exact h.1, fun k k0 k1 => by rw [e, e, e]; exact h.2.1 k k0 k1, fun k k0 k1 => by rw [e, e]; exact h.2.2 k k0 k1⟩
theorem gx.mv (h : gx N M c c' r r' TT) (e0 : ∀ i, 8 ≤ i → i ≤ 11 → M' 0 i = M 0 i) (e4 : ∀ i, i = 0 ∨ i = 1 → M' 84 i = M 84 i) (e5 : ∀ i, i = 0 ∨ i = 1 → M' 85 i = M 85 i) (et : ∀ x i, 22 ≤ x → x ≤ 45 → M' x i = M x i) (e6 : ∀ i, M' 86 i = M 86 i) (e8 : M' 58 6 = M 58 6) : gx N M' c c' r r' TT := by
  obtain ⟨a1, a2, a3, a4, a5, a6, a7⟩ := h
  refine ⟨?_, ?_, a3, a4, a5, fun i i0 i1 => ?_, by rw [e8]; exact a7⟩
  · rw [e0 8 (by decide) (by decide), e0 9 (by decide) (by decide), e0 10 (by decide) (by decide), e0 11 (by decide) (by decide)]; exact a1
  · rw [e4 0 (Or.inl rfl), e4 1 (Or.inr rfl), e5 0 (Or.inl rfl), e5 1 (Or.inr rfl)]; exact a2
  · obtain ⟨b1, b2, b3, b4⟩ := a6 i i0 i1
    exact ⟨b1, b2, b3.fr (fun x j x0 x1 => et x j (by omega) (by omega)), b4.mv e6⟩
/-- the book -/
theorem gs_b.mv (h : gs_b N M) (e1 : M' 6 4 = M 6 4) (e2 : ∀ x i, 7 ≤ x → x ≤ 9 → M' x i = M x i) (e3 : ∀ i, (i = 2 ∨ (10 ≤ i ∧ i < 90)) → M' 84 i = M 84 i) : gs_b N M' := by
  obtain ⟨n, w, p, h1, h2, h3⟩ := h
  refine ⟨n, w, p, h1, h2.mv e1 (fun i => e2 7 i (by decide) (by decide)) (fun i => e2 8 i (by decide) (by decide)) (fun i => e2 9 i (by decide) (by decide)), ?_⟩
  have hn := h1.2.1
  exact ⟨by rw [e3 2 (Or.inl rfl)]; exact h3.1, fun k k0 k1 => by rw [e3 _ (Or.inr ⟨by omega, by omega⟩), e3 _ (Or.inr ⟨by omega, by omega⟩)]; exact h3.2 k k0 k1⟩
theorem gs_bi.mv (h : gs_bi N M) (e1 : M' 10 4 = M 10 4) (e2 : ∀ x i, 11 ≤ x → x ≤ 13 → M' x i = M x i) (e3 : ∀ i, M' 85 i = M 85 i) : gs_bi N M' := by
  obtain ⟨n, w, p, h1, h2, h3⟩ := h
  exact ⟨n, w, p, h1, h2.mv e1 (fun i => e2 11 i (by decide) (by decide)) (fun i => e2 12 i (by decide) (by decide)) (fun i => e2 13 i (by decide) (by decide)), h3.mv e3⟩
theorem gs_l.mv (h : gs_l N M) (e1 : ∀ i, i = 0 ∨ i = 1 → M' 14 i = M 14 i) (e2 : ∀ x i, 15 ≤ x → x ≤ 17 → M' x i = M x i) (e3 : ∀ i, (i = 3 ∨ i = 4 ∨ (90 ≤ i ∧ i < 210)) → M' 84 i = M 84 i) : gs_l N M' := by
  obtain ⟨hs, n, hd, wd, tm, h1, h2, h3⟩ := h
  have hn := h1.2.2.2.1
  refine ⟨hs, n, hd, wd, tm, h1, ⟨by rw [e1 0 (Or.inl rfl)]; exact h2.1, by rw [e1 1 (Or.inr rfl)]; exact h2.2.1, fun k k0 k1 => ?_⟩, ⟨by rw [e3 3 (Or.inl rfl)]; exact h3.1, by rw [e3 4 (Or.inr (Or.inl rfl))]; exact h3.2.1, fun k k0 k1 => ?_⟩⟩
  · rw [e2 _ _ (by decide) (by decide), e2 _ _ (by decide) (by decide), e2 _ _ (by decide) (by decide)]; exact h2.2.2 k k0 k1
  · rw [e3 _ (Or.inr (Or.inr ⟨by omega, by omega⟩)), e3 _ (Or.inr (Or.inr ⟨by omega, by omega⟩)), e3 _ (Or.inr (Or.inr ⟨by omega, by omega⟩))]; exact h3.2.2 k k0 k1
theorem gs_li.mv (h : gs_li N M) (e1 : ∀ i, M' 18 i = M 18 i) (e2 : ∀ x i, 19 ≤ x → x ≤ 21 → M' x i = M x i) (e3 : ∀ i, M' 85 i = M 85 i) : gs_li N M' := by
  obtain ⟨hs, n, hd, wd, tm, h1, h2, h3⟩ := h
  refine ⟨hs, n, hd, wd, tm, h1, ⟨by rw [e1]; exact h2.1, by rw [e1]; exact h2.2.1, fun k k0 k1 => ?_⟩, ⟨by rw [e3]; exact h3.1, by rw [e3]; exact h3.2.1, fun k k0 k1 => ?_⟩⟩
  · rw [e2 _ _ (by decide) (by decide), e2 _ _ (by decide) (by decide), e2 _ _ (by decide) (by decide)]; exact h2.2.2 k k0 k1
  · rw [e3, e3, e3]; exact h3.2.2 k k0 k1
theorem gs_t.mv (h : gs_t M) (e1 : M' 0 6 = M 0 6) (e2 : ∀ i, M' 1 i = M 1 i) (e3 : M' 83 7 = M 83 7) (e4 : ∀ i, M' 87 i = M 87 i) : gs_t M' := by
  obtain ⟨n, t, h1, h2, h3⟩ := h
  exact ⟨n, t, h1, ⟨by rw [e1]; exact h2.1, fun i i0 i1 => by rw [e2]; exact h2.2 i i0 i1⟩, ⟨by rw [e3]; exact h3.1, fun i i0 i1 => by rw [e4]; exact h3.2 i i0 i1⟩⟩
theorem gs_f.mv (h : gs_f M) (e1 : M' 0 12 = M 0 12) (e2 : M' 0 13 = M 0 13) (e3 : M' 83 8 = M 83 8) (e4 : M' 83 9 = M 83 9) : gs_f M' := by
  unfold gs_f
  rw [e1, e2, e3, e4]
  exact h
/-- what a question may change -/
def gq (M M' : ow_M) : Prop := ∀ x i, (x < 58 ∨ (x = 58 ∧ i = 6) ∨ (83 ≤ x ∧ x ≤ 87 ∧ (x, i) ∉ [((83 : Int), (27 : Int)), (83, 28), (83, 39)])) → M' x i = M x i
theorem gq.rf : gq M M := fun _ _ _ => rfl
theorem gq.tr {M'' : ow_M} (h : gq M M') (h2 : gq M' M'') : gq M M'' := fun x i hx => (h2 x i hx).trans (h x i hx)
theorem gq.of {S : List Int} {F : List (Int × Int)} (o : ow_of S F M M') (hS : ∀ x ∈ S, ¬ (x < 59) ∧ ¬ (83 ≤ x ∧ x ≤ 87)) (hF : ∀ x ∈ F, ¬ (x.1 < 58 ∨ (x.1 = 58 ∧ x.2 = 6) ∨ (83 ≤ x.1 ∧ x.1 ≤ 87 ∧ x ∉ [((83 : Int), (27 : Int)), (83, 28), (83, 39)]))) : gq M M' := by
  intro x i hx
  refine o x i (fun hs => ?_) (fun hf => hF (x, i) hf hx)
  have := hS x hs
  omega
theorem gq.go (h : gs A L N M) (o : gq M M') (hx : gs_x A L N M') (h1 : ct_C M') (h2 : cc_C M') : gs A L N M' := by
  obtain ⟨⟨g1, g2⟩, ⟨g3, g4⟩, g5, g6, g7, g8, g9⟩ := h
  have lo : ∀ x i, x < 58 → M' x i = M x i := fun x i hx => o x i (Or.inl hx)
  have hi : ∀ x i, 84 ≤ x → x ≤ 87 → M' x i = M x i := fun x i h0 h1 => o x i (Or.inr (Or.inr ⟨by omega, h1, by simp; omega⟩))
  have h83 : ∀ i, i < 27 → M' 83 i = M 83 i := fun i h0 => o 83 i (Or.inr (Or.inr ⟨by decide, by decide, by simp; omega⟩))
  refine ⟨⟨g1.mv (lo 6 _ (by decide)) (fun x i h0 h1 => lo x i (by omega)) (fun i _ => hi 84 i (by decide) (by decide)), g2.mv (lo 10 _ (by decide)) (fun x i h0 h1 => lo x i (by omega)) (fun i => hi 85 i (by decide) (by decide))⟩, ⟨g3.mv (fun i _ => lo 14 i (by decide)) (fun x i h0 h1 => lo x i (by omega)) (fun i _ => hi 84 i (by decide) (by decide)), g4.mv (fun i => lo 18 i (by decide)) (fun x i h0 h1 => lo x i (by omega)) (fun i => hi 85 i (by decide) (by decide))⟩, g5.mv (lo 0 _ (by decide)) (fun i => lo 1 i (by decide)) (h83 7 (by decide)) (fun i => hi 87 i (by decide) (by decide)), g6.mv (lo 0 _ (by decide)) (lo 0 _ (by decide)) (h83 8 (by decide)) (h83 9 (by decide)), hx, h1, h2⟩
theorem gq.gx (o : gq M M') (h : gx N M c c' r r' TT) : gx N M' c c' r r' TT := h.mv (fun i _ _ => o 0 i (Or.inl (by decide))) (fun i _ => o 84 i (Or.inr (Or.inr ⟨by decide, by decide, by simp⟩))) (fun i _ => o 85 i (Or.inr (Or.inr ⟨by decide, by decide, by simp⟩))) (fun x i h0 h1 => o x i (Or.inl (by omega))) (fun i => o 86 i (Or.inr (Or.inr ⟨by decide, by decide, by simp⟩))) (o 58 6 (Or.inr (Or.inl ⟨rfl, rfl⟩)))
theorem ct_C.mv (h : ct_C M) (e1 : M' 77 3 = M 77 3) (e2 : M' 77 4 = M 77 4) : ct_C M' := by unfold ct_C; rw [e1, e2]; exact h
theorem cc_C.mv (h : cc_C M) (e1 : M' 80 3 = M 80 3) (e2 : M' 80 4 = M 80 4) : cc_C M' := by unfold cc_C; rw [e1, e2]; exact h
theorem vw_R.mv (h : vw_R A L T M) (e1 : M' 58 5 = M 58 5) (e2 : ∀ i, M' 62 i = M 62 i) (e3 : ∀ i, M' 63 i = M 63 i) : vw_R A L T M' := by
  unfold vw_R
  rw [e1]
  exact ⟨h.1, h.2.cg e2 e3⟩
end GSS
