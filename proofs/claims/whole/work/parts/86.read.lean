/-! ===== the class's reader: its small steps ===== -/
section RDS
variable {C : ow_C} {A L N : Int} {d : Nat} {M : ow_M} {K : Int → ow_M → Prop} {n : Int} {t : Int → Int} {m r : Int}
theorem em_text4 {c : Int} (hr : 0 ≤ r ∧ r < 4) (hc : 0 ≤ c ∧ c < 300) : ow_gv (EM A L N) M (22 + 6 * r) 1 = M (22 + 6 * r) 1 ∧ ow_R (EM A L N) M (22 + 6 * r + 1) 100 c ∧ (EM A L N).1 (22 + 6 * r + 1) c = none ∧ (EM A L N).1 (22 + 6 * r) 1 = none ∧ (EM A L N).1 (22 + 6 * r) 2 = none ∧ (EM A L N).1 (22 + 6 * r) 3 = none ∧ (EM A L N).1 (22 + 6 * r) 4 = none ∧ (EM A L N).1 (22 + 6 * r) 5 = none ∧ (EM A L N).1 (22 + 6 * r) 6 = none ∧ (EM A L N).1 (22 + 6 * r) 7 = none ∧ (EM A L N).1 (22 + 6 * r) 8 = none := by
  have nb : ow_nb (EM A L N) M = 102 := rfl
  have e : r = 0 ∨ r = 1 ∨ r = 2 ∨ r = 3 := by omega
  rcases e with e | e | e | e <;> subst e <;> exact ⟨rfl, ⟨by decide, by rw [nb]; decide, rfl, hc.1, hc.2⟩, rfl, rfl, rfl, rfl, rfl, rfl, rfl, rfl, rfl⟩
/-- what holds all the time -/
def rd0 (A L n : Int) (t : Int → Int) (m r : Int) (M : ow_M) : Prop := M 46 1 = 22 + 6 * r ∧ tz A L n t M m ∧ (0 ≤ M 46 2 ∧ M 46 2 ≤ m) ∧ (0 ≤ M (22 + 6 * r) 1 ∧ M (22 + 6 * r) 1 ≤ 300) ∧ (M (22 + 6 * r) 2 = 0 ∨ M (22 + 6 * r) 2 = 1)
/-- without a fault so far: at a token, with codes -/
def rd (A L n : Int) (t : Int → Int) (m r : Int) (M : ow_M) (i : Int) (E : pm_E) : Prop := rd0 A L n t m r M ∧ M 46 2 = i ∧ M 46 4 = 0 ∧ M (22 + 6 * r) 1 = E.1 ∧ (∀ k, 0 ≤ k → k < E.1 → M (22 + 6 * r + 1) k = E.2 k) ∧ (M (22 + 6 * r) 2 = 0 → ∀ k, 0 ≤ k → k < E.1 → E.2 k ≠ -4) ∧ M 46 5 = -1
def rw_ (A L n : Int) (t : Int → Int) (m r : Int) (M : ow_M) (f j : Int) : Prop := rd0 A L n t m r M ∧ f ≠ 0 ∧ M 46 4 = f ∧ M 46 5 = ts n t j
def rF (r : Int) (M M' : ow_M) : Prop := ow_of [22 + 6 * r + 1] [(46, 2), (46, 4), (46, 5), (22 + 6 * r, 1), (22 + 6 * r, 2)] M M'
theorem rF.rf : rF r M M := ow_of.rf
theorem rF.tr {M' M'' : ow_M} (h : rF r M M') (h2 : rF r M' M'') : rF r M M'' := ow_of.tr h h2
theorem tz.fr {M' : ow_M} (h : tz A L n t M m) (e1 : M' 53 5 = M 53 5) (e2 : ∀ c i, 54 ≤ c → c ≤ 57 → M' c i = M c i) : tz A L n t M' m := by
  refine ⟨by rw [e1]; exact h.1, fun i i0 i1 => ?_⟩
  unfold tz_r
  rw [e2 54 i (by decide) (by decide), e2 55 i (by decide) (by decide), e2 56 i (by decide) (by decide), e2 57 i (by decide) (by decide)]
  exact h.2 i i0 i1
theorem rF.tz {M' : ow_M} (hr : 0 ≤ r ∧ r < 4) (o : rF r M M') (h : tz A L n t M m) : tz A L n t M' m := h.fr (o 53 5 (by simp <;> omega) (by simp <;> omega)) (fun c i h0 h1 => o c i (by simp <;> omega) (by simp <;> omega))
theorem kx_end (hm : te_ok n t m) : kx n t m = 0 := by
  unfold kx tk_k
  rw [hm.2.2, if_pos (Int.le_refl n)]
theorem kx_lt (hm : te_ok n t m) {i : Int} (hi : i ≤ m) (hk : kx n t i ≠ 0) : i < m := by
  by_cases e : i = m
  · rw [e] at hk; exact absurd (kx_end hm) hk
  · omega
theorem nx_lt (hm : te_ok n t m) {i : Int} (hi : i ≤ m) (hk : 0 ≤ nx n t i) : i < m ∧ kx n t i = 1 := by
  have k1 : kx n t i = 1 := by
    by_cases e : kx n t i = 1
    · exact e
    · unfold nx tk_n at hk
      have e' : ¬ tk_k n t (ts n t i) = 1 := e
      rw [if_neg e'] at hk
      omega
  exact ⟨kx_lt hm hi (by omega), k1⟩
theorem tX6_kind (hm : te_ok n t m) (h : rd0 A L n t m r M) (hK : K (kx n t (M 46 2)) M) : ow_Sp C (EM A L N) d mX6_kind (0, 0) [(3, 46)] M K := by
  obtain ⟨h1, h2, h3, h4, h5⟩ := h
  have m3 := hm.1
  have hz := (h2.2 (M 46 2) h3.1 h3.2).1
  refine fX6_kind ?_
  rw [h2.1, hz]
  exact ⟨fun q => by omega, fun _ => ⟨fun q => by omega, fun _ => ⟨⟨by omega, by omega⟩, hK⟩⟩⟩
theorem tX6_isName (hm : te_ok n t m) (h : rd0 A L n t m r M) {x : Int} (k1 : nx n t (M 46 2) = x → K 1 M) (k2 : nx n t (M 46 2) ≠ x → K 0 M) : ow_Sp C (EM A L N) d mX6_isName (0, 0) [(3, 46), (0, x)] M K := by
  obtain ⟨h1, h2, h3, h4, h5⟩ := h
  have m3 := hm.1
  have hz := (h2.2 (M 46 2) h3.1 h3.2).2.2.1
  refine fX6_isName ?_
  rw [h2.1, hz]
  exact ⟨fun q => by omega, fun _ => ⟨fun q => by omega, fun _ => ⟨⟨by omega, by omega⟩, k2, k1⟩⟩⟩
theorem rd0.fr {M' : ow_M} (hr : 0 ≤ r ∧ r < 4) (h : rd0 A L n t m r M) (o : rF r M M') (h2 : 0 ≤ M' 46 2 ∧ M' 46 2 ≤ m) (h3 : 0 ≤ M' (22 + 6 * r) 1 ∧ M' (22 + 6 * r) 1 ≤ 300) (h4 : M' (22 + 6 * r) 2 = 0 ∨ M' (22 + 6 * r) 2 = 1) : rd0 A L n t m r M' := ⟨by rw [o 46 1 (by simp <;> omega) (by simp <;> omega)]; exact h.1, o.tz hr h.2.1, h2, h3, h4⟩
/-- a fault told -/
theorem tX6_fail (hr : 0 ≤ r ∧ r < 4) (hm : te_ok n t m) (h : rd0 A L n t m r M) {f : Int} (hf : f ≠ 0) (k1 : M 46 4 ≠ 0 → K 0 M) (k2 : M 46 4 = 0 → ∀ M', rF r M M' → rw_ A L n t m r M' f (M 46 2) → K 0 M') : ow_Sp C (EM A L N) d mX6_fail (0, 0) [(3, 46), (0, f)] M K := by
  have h0 := h
  obtain ⟨h1, h2, h3, h4, h5⟩ := h
  have m3 := hm.1
  have hz := (h2.2 (M 46 2) h3.1 h3.2).2.1
  refine fX6_fail ⟨k1, fun q => ⟨fun z => by omega, fun _ => ⟨fun z => by rw [h2.1] at z; omega, fun _ N1 e1 => ?_⟩⟩⟩
  have a1 : N1 46 2 = M 46 2 := by rw [e1, ow_upN (Or.inr (by decide))]
  have a2 : N1 55 (M 46 2) = ts n t (M 46 2) := by rw [e1, ow_upN (Or.inl (by decide))]; exact hz
  rw [a1, a2]
  refine ⟨⟨by omega, by omega⟩, fun N2 e2 => k2 q N2 ?_ ⟨?_, hf, ?_, ?_⟩⟩
  · rw [e2, e1]; exact (ow_of.rf.uf (by simp)).uf (by simp)
  · have o : rF r M N2 := by rw [e2, e1]; exact (ow_of.rf.uf (by simp)).uf (by simp)
    refine h0.fr hr o ?_ ?_ ?_
    · rw [e2, ow_upN (Or.inr (by decide)), a1]; exact h3
    · rw [e2, ow_upN (Or.inl (by omega)), e1, ow_upN (Or.inl (by omega))]; exact h4
    · rw [e2, ow_upN (Or.inl (by omega)), e1, ow_upN (Or.inl (by omega))]; exact h5
  · rw [e2, ow_upN (Or.inr (by decide)), e1, ow_upS]
  · rw [e2, ow_upS]
/-- past a token -/
theorem rd.go {i : Int} {E : pm_E} (hr : 0 ≤ r ∧ r < 4) (h : rd A L n t m r M i E) (hi : i < m) {M' : ow_M} (e : M' = ow_up M 46 2 (i + 1)) : rd A L n t m r M' (i + 1) E ∧ rF r M M' := by
  obtain ⟨h1, h2, h3, h4, h5, h6, h7⟩ := h
  have o : rF r M M' := by rw [e]; exact ow_of.rf.uf (by simp)
  have s : ∀ c j, ¬ (c = 46 ∧ j = 2) → M' c j = M c j := fun c j hc => by rw [e, ow_upN (by omega)]
  have a : M' 46 2 = i + 1 := by rw [e, ow_upS]
  have i0 := h1.2.2.1.1
  refine ⟨⟨h1.fr hr o (by rw [a]; omega) (by rw [s _ _ (by omega)]; exact h1.2.2.2.1) (by rw [s _ _ (by omega)]; exact h1.2.2.2.2), a, by rw [s _ _ (by decide)]; exact h3, by rw [s _ _ (by omega)]; exact h4, fun k k0 k1 => by rw [s _ _ (by omega)]; exact h5 k k0 k1, fun z k k0 k1 => h6 (by rw [s _ _ (by omega)] at z; exact z) k k0 k1, by rw [s _ _ (by decide)]; exact h7⟩, o⟩
theorem tX6_pass (hr : 0 ≤ r ∧ r < 4) (hm : te_ok n t m) {i x : Int} {E : pm_E} (h : rd A L n t m r M i E) (hx : x ≠ 0 → i < m) (k1 : x ≠ 0 → ∀ M', rF r M M' → rd A L n t m r M' (i + 1) E → K 0 M') (k2 : x = 0 → ∀ M', rF r M M' → rw_ A L n t m r M' 1 i → K 0 M') : ow_Sp C (EM A L N) (d + 1) mX6_pass (0, 0) [(3, 46), (0, x)] M K := by
  have m3 := hm.1
  refine fX6_pass ⟨fun q => cX6_pass_9 ⟨fun z => absurd h.2.2.1 z, fun _ => ?_⟩, fun q => tX6_fail hr hm h.1 (by decide) (fun z => absurd h.2.2.1 z) (fun _ M' o w => ?_)⟩
  · rw [h.2.1]
    have i0 := h.1.2.2.1.1
    have il := hx q
    rw [h.2.1] at i0
    refine ⟨⟨by omega, by omega⟩, fun N1 e1 => ?_⟩
    obtain ⟨g1, g2⟩ := h.go hr il e1
    exact k1 q N1 g2 g1
  · rw [h.2.1] at w
    refine cX6_pass_9 ⟨fun _ => k2 q M' o w, fun z => absurd (w.2.2.1.symm.trans z) w.2.1⟩
theorem tX6_passW (hr : 0 ≤ r ∧ r < 4) (hm : te_ok n t m) {f j x : Int} (h : rw_ A L n t m r M f j) (hK : K 0 M) : ow_Sp C (EM A L N) (d + 1) mX6_pass (0, 0) [(3, 46), (0, x)] M K := by
  have ne : M 46 4 ≠ 0 := by rw [h.2.2.1]; exact h.2.1
  exact fX6_pass ⟨fun q => cX6_pass_9 ⟨fun _ => hK, fun z => absurd z ne⟩, fun q => tX6_fail hr hm h.1 (by decide) (fun _ => cX6_pass_9 ⟨fun _ => hK, fun z => absurd z ne⟩) (fun z => absurd z ne)⟩
theorem tX6_opensOneMore (hr : 0 ≤ r ∧ r < 4) (hm : te_ok n t m) {i o : Int} {E : pm_E} (h : rd A L n t m r M i E) (hi : i < m) (k1 : o < 8 → ∀ M', rF r M M' → rd A L n t m r M' (i + 1) E → K 1 M') (k2 : 8 ≤ o → ∀ M', rF r M M' → rw_ A L n t m r M' 3 i → K 0 M') : ow_Sp C (EM A L N) (d + 1) mX6_opensOneMore (0, 0) [(3, 46), (0, o)] M K := by
  have m3 := hm.1
  have i0 := h.1.2.2.1.1
  refine fX6_opensOneMore ⟨fun q => ?_, fun q => tX6_fail hr hm h.1 (by decide) (fun z => absurd h.2.2.1 z) (fun _ M' o' w => k2 q M' o' (by rw [h.2.1] at w; exact w))⟩
  rw [h.2.1] at i0 ⊢
  refine ⟨⟨by omega, by omega⟩, fun N1 e1 => ?_⟩
  obtain ⟨g1, g2⟩ := h.go hr hi e1
  exact k1 q N1 g2 g1
/-- codes -/
theorem tX7_emit (hr : 0 ≤ r ∧ r < 4) (h : 0 ≤ M (22 + 6 * r) 1 ∧ M (22 + 6 * r) 1 ≤ 300) {v : Int} (k1 : M (22 + 6 * r) 1 = 300 → K 0 M) (k2 : M (22 + 6 * r) 1 < 300 → ∀ M', M' = ow_up (ow_up M (22 + 6 * r + 1) (M (22 + 6 * r) 1) v) (22 + 6 * r) 1 (M (22 + 6 * r) 1 + 1) → K 0 M') : ow_Sp C (EM A L N) d mX7_emit (0, 0) [(3, 22 + 6 * r), (0, v)] M K := by
  obtain ⟨t1, t2, _⟩ := em_text (A := A) (L := L) (N := N) (M := M) hr
  obtain ⟨u1, _⟩ := em_text4 (A := A) (L := L) (N := N) (M := M) (c := 0) hr ⟨by decide, by decide⟩
  refine eX7_emit ?_
  rw [t2, u1]
  refine ⟨t1, fun q => k1 (by omega), fun q => ?_⟩
  obtain ⟨_, u2, u3, u4, _⟩ := em_text4 (A := A) (L := L) (N := N) (M := M) (c := M (22 + 6 * r) 1) hr ⟨h.1, q⟩
  refine ⟨t1, t1, u2, u3, fun N1 e1 => ?_⟩
  have g1 : ow_gv (EM A L N) N1 (22 + 6 * r) 1 = M (22 + 6 * r) 1 := by
    rw [(em_text4 (A := A) (L := L) (N := N) (M := N1) (c := 0) hr ⟨by decide, by decide⟩).1, e1, ow_upN (Or.inl (by omega))]
  have t1' := (em_text (A := A) (L := L) (N := N) (M := N1) hr).1
  rw [g1]
  exact ⟨t1', ⟨by omega, by omega⟩, t1', u4, fun N2 e2 => k2 q N2 (by rw [e2, e1])⟩
theorem rd_emit (hr : 0 ≤ r ∧ r < 4) {i v : Int} {E : pm_E} (h : rd A L n t m r M i E) (h3 : E.1 < 300) (hv : v ≠ -4) (hK : ∀ M', rF r M M' → rd A L n t m r M' i (pe E v) → K 0 M') : ow_Sp C (EM A L N) d mX7_emit (0, 0) [(3, 22 + 6 * r), (0, v)] M K := by
  obtain ⟨h1, h2, h3', h4, h5, h6, h7⟩ := h
  have hc := h1.2.2.2.1
  refine tX7_emit hr hc (fun z => by omega) (fun _ M' e => ?_)
  rw [h4] at e hc
  have o : rF r M M' := by rw [e]; exact (ow_of.rf.up (by simp)).uf (by simp)
  have s : ∀ c j, ¬ (c = 22 + 6 * r ∧ j = 1) → c ≠ 22 + 6 * r + 1 → M' c j = M c j := fun c j g1 g2 => by rw [e, ow_upN (by omega), ow_upN (Or.inl g2)]
  have a : M' (22 + 6 * r) 1 = E.1 + 1 := by rw [e, ow_upS]
  refine hK M' o ⟨h1.fr hr o (by rw [s _ _ (by omega) (by omega)]; exact h1.2.2.1) (by rw [a]; omega) (by rw [s _ _ (by omega) (by omega)]; exact h1.2.2.2.2), by rw [s _ _ (by omega) (by omega)]; exact h2, by rw [s _ _ (by omega) (by omega)]; exact h3', a, fun k k0 k1 => ?_, fun z k k0 k1 => ?_, by rw [s _ _ (by omega) (by omega)]; exact h7⟩
  · show M' _ k = bk_put E.2 E.1 v k
    by_cases ek : k = E.1
    · rw [ek, bk_put_s, e, ow_upN (Or.inl (by omega)), ow_upS]
    · rw [bk_put_n ek, e, ow_upN (Or.inl (by omega)), ow_upN (Or.inr ek)]
      have k1' : k < E.1 + 1 := k1
      exact h5 k k0 (by omega)
  · show bk_put E.2 E.1 v k ≠ -4
    by_cases ek : k = E.1
    · rw [ek, bk_put_s]; exact hv
    · rw [bk_put_n ek]
      have k1' : k < E.1 + 1 := k1
      exact h6 (by rw [s _ _ (by omega) (by omega)] at z; exact z) k k0 (by omega)
theorem rw_emit (hr : 0 ≤ r ∧ r < 4) {f j v : Int} (h : rw_ A L n t m r M f j) (hK : ∀ M', rF r M M' → rw_ A L n t m r M' f j → K 0 M') : ow_Sp C (EM A L N) d mX7_emit (0, 0) [(3, 22 + 6 * r), (0, v)] M K := by
  obtain ⟨h1, h2, h3, h4⟩ := h
  have hc := h1.2.2.2.1
  refine tX7_emit hr hc (fun _ => hK M rF.rf ⟨h1, h2, h3, h4⟩) (fun z M' e => ?_)
  have o : rF r M M' := by rw [e]; exact (ow_of.rf.up (by simp)).uf (by simp)
  have s : ∀ c j, ¬ (c = 22 + 6 * r ∧ j = 1) → c ≠ 22 + 6 * r + 1 → M' c j = M c j := fun c j g1 g2 => by rw [e, ow_upN (by omega), ow_upN (Or.inl g2)]
  exact hK M' o ⟨h1.fr hr o (by rw [s _ _ (by omega) (by omega)]; exact h1.2.2.1) (by rw [e, ow_upS]; omega) (by rw [s _ _ (by omega) (by omega)]; exact h1.2.2.2.2), h2, by rw [s _ _ (by omega) (by omega)]; exact h3, by rw [s _ _ (by omega) (by omega)]; exact h4⟩
end RDS
