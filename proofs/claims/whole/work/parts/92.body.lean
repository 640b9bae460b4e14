/-! ===== what stands behind a clause's first word ===== -/
def numR (n : Int) (t : Int → Int) (i lo hi f v : Int) : Prop := (kx n t i ≠ 2 ∧ f = 1) ∨ (kx n t i = 2 ∧ ¬ (lo ≤ nv n t i ∧ nv n t i ≤ hi) ∧ f = 2) ∨ (kx n t i = 2 ∧ lo ≤ nv n t i ∧ nv n t i ≤ hi ∧ f = 0 ∧ v = nv n t i)
def bd0 (n : Int) (t : Int → Int) (i : Int) (T : ow_M) (f j : Int) (T' : ow_M) : Prop := ∃ E', mayR n t i (tE T) f j E' ∧ (f = 0 → T' = tst T 0 (T 0 1) E'.1 E')
def bd1 (n : Int) (t : Int → Int) (i : Int) (T : ow_M) (f j : Int) (T' : ow_M) : Prop := ∃ E', sumR n t i 0 (tE T) f j E' ∧ (f = 0 → T' = tst T 1 (T 0 1) E'.1 E')
def bd2 (A L n : Int) (t : Int → Int) (i : Int) (T : ow_M) (f j : Int) (T' : ow_M) : Prop := (kx n t i ≠ 1 ∧ f = 1 ∧ j = i) ∨ (kx n t i = 1 ∧ vx_t A L n t i < 0 ∧ f = 2 ∧ j = i) ∨ (kx n t i = 1 ∧ 0 ≤ vx_t A L n t i ∧ ∃ f1 v, numR n t (i + 1) 1 9 f1 v ∧ ((f1 ≠ 0 ∧ f = f1 ∧ j = i + 1) ∨ (f1 = 0 ∧ f = 0 ∧ j = i + 2 ∧ T' = tst T 2 (vx_t A L n t i) v (tE T))))
def bd3 (n : Int) (t : Int → Int) (i : Int) (T : ow_M) (f j : Int) (T' : ow_M) : Prop := ∃ f1 a, numR n t i 0 8 f1 a ∧ ((f1 ≠ 0 ∧ f = f1 ∧ j = i) ∨ (f1 = 0 ∧ nx n t (i + 1) ≠ 10 ∧ f = 1 ∧ j = i + 1) ∨ (f1 = 0 ∧ nx n t (i + 1) = 10 ∧ ∃ f2 b, numR n t (i + 2) a 8 f2 b ∧ ((f2 ≠ 0 ∧ f = f2 ∧ j = i + 2) ∨ (f2 = 0 ∧ f = 0 ∧ j = i + 3 ∧ T' = tst T 3 a b (tE T)))))
def bodyR (A L n : Int) (t : Int → Int) (s i : Int) (T : ow_M) (f j : Int) (T' : ow_M) : Prop := (s = 0 ∧ bd0 n t i T f j T') ∨ (s = 1 ∧ bd1 n t i T f j T') ∨ (s = 2 ∧ bd2 A L n t i T f j T') ∨ (s = 3 ∧ bd3 n t i T f j T')
def tcC (M : ow_M) (c : Int) (T : ow_M) : Prop := M c 3 = T 0 4 ∧ (T 0 4 = 1 → M c 4 = T 0 5 ∧ M c 5 = T 0 6) ∧ M c 6 = T 0 7 ∧ (T 0 7 = 1 → M c 7 = T 0 8 ∧ M c 8 = T 0 9) ∧ M c 11 = T 0 2 ∧ M c 14 = T 0 3 ∧ (∀ e, 0 ≤ e → e < T 0 2 → M (c + 2) e = T 5 e ∧ M (c + 3) e = T 6 e) ∧ ∀ e, 0 ≤ e → e < T 0 3 → M (c + 4) e = T 7 e ∧ M (c + 5) e = T 8 e
def csd (A L N n : Int) (t : Int → Int) (m r : Int) (M : ow_M) (i : Int) (T : ow_M) : Prop := rd A L n t m r M i (tE T) ∧ M 46 3 = T 0 0 ∧ tcC M (22 + 6 * r) T ∧ ti N T ∧ T 0 1 ≤ i
def cbd (A L N n : Int) (t : Int → Int) (m r : Int) (M : ow_M) (i : Int) (T : ow_M) : Prop := rd A L n t m r M i (tE T) ∧ M 46 3 = T 0 0 + 1 ∧ tcC M (22 + 6 * r) T ∧ ti N T ∧ T 0 1 ≤ i ∧ T 0 0 < 24
def rG (r : Int) (M M' : ow_M) : Prop := ∀ c i, c ≠ 46 → ¬ (22 + 6 * r ≤ c ∧ c ≤ 22 + 6 * r + 5) → M' c i = M c i
section BOD
variable {C : ow_C} {A L N : Int} {n : Int} {t : Int → Int} {m r : Int}
theorem rG.rf {M : ow_M} : rG r M M := fun _ _ _ _ => rfl
theorem rG.tr {M M' M'' : ow_M} (h : rG r M M') (h2 : rG r M' M'') : rG r M M'' := fun c i h3 h4 => (h2 c i h3 h4).trans (h c i h3 h4)
theorem rF.rG {M M' : ow_M} (h : rF r M M') : rG r M M' := fun c i h1 h2 => h c i (by simp <;> omega) (by simp <;> omega)
theorem rM.rG {M M' : ow_M} (h : rM r M M') : rG r M M' := fun c i h1 h2 => h c i (by simp <;> omega) (by simp <;> omega)
theorem rG.up {M M' : ow_M} {c i v : Int} (h : rG r M M') (hc : c = 46 ∨ (22 + 6 * r ≤ c ∧ c ≤ 22 + 6 * r + 5)) : rG r M (ow_up M' c i v) := fun c' i' h1 h2 => by rw [ow_upN (by omega)]; exact h c' i' h1 h2
theorem rw_.go {M M' : ow_M} {f j : Int} (hr : 0 ≤ r ∧ r < 4) (h : rw_ A L n t m r M f j) (hi : M 46 2 < m) (e : M' = ow_up M 46 2 (M 46 2 + 1)) : rw_ A L n t m r M' f j ∧ rF r M M' := by
  obtain ⟨h1, h2, h3, h4⟩ := h
  have o : rF r M M' := by rw [e]; exact ow_of.rf.uf (by simp)
  have s : ∀ c j, ¬ (c = 46 ∧ j = 2) → M' c j = M c j := fun c j hc => by rw [e, ow_upN (by omega)]
  have a : M' 46 2 = M 46 2 + 1 := by rw [e, ow_upS]
  have i0 := h1.2.2.1.1
  exact ⟨⟨h1.fr hr o (by rw [a]; omega) (by rw [s _ _ (by omega)]; exact h1.2.2.2.1) (by rw [s _ _ (by omega)]; exact h1.2.2.2.2), h2, by rw [s _ _ (by decide)]; exact h3, by rw [s _ _ (by decide)]; exact h4⟩, o⟩
theorem tX6_readNumberW {d : Nat} {M : ow_M} {K : Int → ow_M → Prop} (hr : 0 ≤ r ∧ r < 4) (hm : te_ok n t m) {f j lo hi : Int} (h : rw_ A L n t m r M f j) (hK : ∀ v M', rF r M M' → rw_ A L n t m r M' f j → K v M') : ow_Sp C (EM A L N) (d + 1) mX6_readNumber (0, 0) [(3, 46), (0, lo), (0, hi)] M K := by
  have m3 := hm.1
  have ne : M 46 4 ≠ 0 := by rw [h.2.2.1]; exact h.2.1
  have i0 := h.1.2.2.1
  have bad : ∀ v, ow_At C (EM A L N) (d + 1) mX6_readNumber 51 [(0, (3, 46)), (3, (0, v))] [] (0, 0) M K := fun v => cX6_readNumber_51 (tX6_fail hr hm h.1 (by decide) (fun _ => hK _ M rF.rf h) (fun z => absurd z ne))
  refine fX6_readNumber (tX6_kind hm h.1 ⟨fun q => cX6_readNumber_24 (tX6_kind hm h.1 ⟨fun q2 => absurd q2 q, fun _ => tX6_fail hr hm h.1 (by decide) (fun _ => hK _ M rF.rf h) (fun z => absurd z ne)⟩), fun q => ⟨⟨by omega, by omega⟩, ?_⟩⟩)
  have il := kx_lt hm i0.2 (show kx n t (M 46 2) ≠ 0 by omega)
  refine cX6_readNumber_24 (tX6_kind hm h.1 ⟨fun _ => ⟨fun y => bad _, fun y => ⟨fun y2 => ⟨⟨by omega, by omega⟩, fun N2 e3 => ?_⟩, fun y2 => bad _⟩⟩, fun q2 => absurd q q2⟩)
  obtain ⟨g1, g2⟩ := h.go hr il e3
  exact hK _ N2 g2 g1
/-- a number, with its fault -/
theorem num_c {d : Nat} {M : ow_M} {K : Int → ow_M → Prop} (hr : 0 ≤ r ∧ r < 4) (hm : te_ok n t m) {i lo hi : Int} {E : pm_E} (h : rd A L n t m r M i E) (k1 : ∀ v, numR n t i lo hi 0 v → lo ≤ v → v ≤ hi → i < m → ∀ M', rF r M M' → rd A L n t m r M' (i + 1) E → K v M') (k2 : ∀ v f M', numR n t i lo hi f v → rF r M M' → rw_ A L n t m r M' f i → K v M') : ow_Sp C (EM A L N) (d + 1) mX6_readNumber (0, 0) [(3, 46), (0, lo), (0, hi)] M K := by
  have i0 := h.1.2.2.1
  rw [h.2.1] at i0
  refine tX6_readNumber hr hm h (fun q a b M' o s => k1 _ (Or.inr (Or.inr ⟨q, a, b, rfl, rfl⟩)) a b (kx_lt hm i0.2 (by omega)) M' o s) (fun v f M' hc o w => k2 v f M' ?_ o w)
  rcases hc with hc | hc
  · exact Or.inl hc
  · exact Or.inr (Or.inl ⟨hc.1, hc.2.2, hc.2.1⟩)
/-- the codes have grown, the rest stands -/
theorem tcC_may (hr : 0 ≤ r ∧ r < 4) {M M' T : ow_M} {b : Int} {E' : pm_E} (h : tcC M (22 + 6 * r) T) (o : rM r M M') (v3 : M' (22 + 6 * r) 3 = 1) (v4 : M' (22 + 6 * r) 4 = T 0 1) (v5 : M' (22 + 6 * r) 5 = b) : tcC M' (22 + 6 * r) (tst T 0 (T 0 1) b E') := by
  obtain ⟨a1, a2, a3, a4, a5, a6, a7, a8⟩ := h
  have s : ∀ c j, c ≠ 46 → ¬ (c = 22 + 6 * r ∧ j ≤ 5) → c ≠ 22 + 6 * r + 1 → M' c j = M c j := fun c j h1 h2 h3 => o c j (by simp <;> omega) (by simp <;> omega)
  refine ⟨v3, fun _ => ⟨v4, v5⟩, ?_, fun q => ?_, ?_, ?_, fun e e0 e1 => ?_, fun e e0 e1 => ?_⟩
  · rw [s _ _ (by omega) (by omega) (by omega)]; exact a3
  · rw [s _ _ (by omega) (by omega) (by omega), s _ _ (by omega) (by omega) (by omega)]; exact a4 q
  · rw [s _ _ (by omega) (by omega) (by omega)]; exact a5
  · rw [s _ _ (by omega) (by omega) (by omega)]; exact a6
  · rw [s _ _ (by omega) (by omega) (by omega), s _ _ (by omega) (by omega) (by omega)]; exact a7 e e0 e1
  · rw [s _ _ (by omega) (by omega) (by omega), s _ _ (by omega) (by omega) (by omega)]; exact a8 e e0 e1
def rW (r : Int) (M M' : ow_M) : Prop := ow_of [22 + 6 * r + 1] [(46, 2), (46, 4), (46, 5), (22 + 6 * r, 1), (22 + 6 * r, 2), (22 + 6 * r, 6), (22 + 6 * r, 7), (22 + 6 * r, 8)] M M'
theorem rF.rW {M M' : ow_M} (h : rF r M M') : rW r M M' := fun c i h1 h2 => h c i h1 (fun z => h2 (by simp at z ⊢; omega))
theorem rW.rG {M M' : ow_M} (h : rW r M M') : rG r M M' := fun c i h1 h2 => h c i (by simp <;> omega) (by simp <;> omega)
theorem tcC_wei (hr : 0 ≤ r ∧ r < 4) {M M' T : ow_M} {b : Int} {E' : pm_E} (h : tcC M (22 + 6 * r) T) (o : rW r M M') (v3 : M' (22 + 6 * r) 6 = 1) (v4 : M' (22 + 6 * r) 7 = T 0 1) (v5 : M' (22 + 6 * r) 8 = b) : tcC M' (22 + 6 * r) (tst T 1 (T 0 1) b E') := by
  obtain ⟨a1, a2, a3, a4, a5, a6, a7, a8⟩ := h
  have s : ∀ c j, c ≠ 46 → ¬ (c = 22 + 6 * r ∧ (j ≤ 2 ∨ (6 ≤ j ∧ j ≤ 8))) → c ≠ 22 + 6 * r + 1 → M' c j = M c j := fun c j h1 h2 h3 => o c j (by simp <;> omega) (by simp <;> omega)
  refine ⟨?_, fun q => ?_, v3, fun _ => ⟨v4, v5⟩, ?_, ?_, fun e e0 e1 => ?_, fun e e0 e1 => ?_⟩
  · rw [s _ _ (by omega) (by omega) (by omega)]; exact a1
  · rw [s _ _ (by omega) (by omega) (by omega), s _ _ (by omega) (by omega) (by omega)]; exact a2 q
  · rw [s _ _ (by omega) (by omega) (by omega)]; exact a5
  · rw [s _ _ (by omega) (by omega) (by omega)]; exact a6
  · rw [s _ _ (by omega) (by omega) (by omega), s _ _ (by omega) (by omega) (by omega)]; exact a7 e e0 e1
  · rw [s _ _ (by omega) (by omega) (by omega), s _ _ (by omega) (by omega) (by omega)]; exact a8 e e0 e1
theorem body0 (hp : tp_ok n t) (hr : 0 ≤ r ∧ r < 4) (hm : te_ok n t m) {D : Nat} {i : Int} {T M : ow_M} {K : Int → ow_M → Prop} (h : cbd A L N n t m r M i T) (h4 : T 0 4 = 0) (k1 : ∀ M' j T', rG r M M' → csd A L N n t m r M' j T' → bd0 n t i T 0 j T' → K 0 M') (k2 : ∀ M' f j, rG r M M' → rw_ A L n t m r M' f j → bd0 n t i T f j T → K 0 M') : ow_Sp C (EM A L N) (D + 30) mX6_readMay (0, 0) [(3, 46)] M K := by
  obtain ⟨a1, a2, a3, a4, a5, a6⟩ := h
  have m3 := hm.1
  refine tX6_readMay hp hr hm a1 a4.2.2.1.1 a5 (fun M' j E' o s v3 v4 v5 my g => ?_) (fun M' f j E' o w my => k2 M' f j o.rG w ⟨E', my, fun z => absurd z w.2.1⟩)
  have g3 := g.2.2.1
  have g2 := g.2.1
  have g4 := g.2.2.2.1
  have ee : (tE T).1 = T 0 1 := rfl
  rw [ee] at g3 g4
  refine k1 M' j (tst T 0 (T 0 1) E'.1 E') o.rG ⟨s, ?_, tcC_may hr a3 o v3 v4 v5, ?_, ?_⟩ ⟨E', my, fun _ => rfl⟩
  · rw [o 46 3 (by simp <;> omega) (by simp <;> omega)]; exact a2
  · exact ti_step a4 a6 ⟨by decide, by decide⟩ (fun _ => h4) (fun z => absurd z (by decide)) ⟨g4, by omega⟩ g.2.2.2.2.1 (fun _ => ⟨rfl, rfl⟩) (fun _ => by have := g.2.2.2.2.2; exact this) (fun z => absurd z (by decide)) (fun z => absurd z (by decide)) (fun z => absurd z (by decide))
  · show E'.1 ≤ j
    omega
theorem body1 (hp : tp_ok n t) (hr : 0 ≤ r ∧ r < 4) (hm : te_ok n t m) {D : Nat} {i : Int} {T M : ow_M} {K : Int → ow_M → Prop} (h : cbd A L N n t m r M i T) (h7 : T 0 7 = 0) (k1 : ∀ M' j T', rG r M M' → csd A L N n t m r M' j T' → bd1 n t i T 0 j T' → K 0 M') (k2 : ∀ M' f j, rG r M M' → rw_ A L n t m r M' f j → bd1 n t i T f j T → K 0 M') : ow_Sp C (EM A L N) (D + 30) mX6_readWeight (0, 0) [(3, 46)] M K := by
  obtain ⟨a1, a2, a3, a4, a5, a6⟩ := h
  have m3 := hm.1
  have tx : ∀ s, ow_O (EM A L N) s (22 + 6 * r) 7 := fun s => (em_text (A := A) (L := L) (N := N) (M := s) hr).1
  have t4 := fun s => em_text4 (A := A) (L := L) (N := N) (M := s) (c := 0) hr ⟨by decide, by decide⟩
  refine fX6_readWeight ?_
  rw [a1.1.1]
  refine ⟨tx M, (t4 M).2.2.2.2.2.2.2.2.1, fun N1 e1 => ?_⟩
  have s1 := a1.f2 hr (r2_up e1 (by decide))
  rw [s1.1.1, (t4 N1).1]
  refine ⟨tx N1, tx N1, (t4 N1).2.2.2.2.2.2.2.2.2.1, fun N2 e2 => ?_⟩
  have s2 := s1.f2 hr (r2_up e2 (by decide))
  have oM : rW r M N2 := by rw [e2, e1]; exact (ow_of.rf.uf (by simp)).uf (by simp)
  have v3 : N2 (22 + 6 * r) 6 = 1 := by rw [e2, ow_upN (Or.inr (by decide)), e1, ow_upS]
  have v4 : N2 (22 + 6 * r) 7 = T 0 1 := by rw [e2, ow_upS]; exact s1.2.2.2.1
  refine tX6_readSum (k := 8) (D := D + 1) hp hr hm rfl (by decide) s2 a4.2.2.1.1 a5 (fun M' j E' o s sr g => ?_) (fun M' f j E' o w sr => ?_)
  · rw [s.1.1]
    refine ⟨tx M', tx M', (t4 M').2.2.2.2.2.2.2.2.2.2, fun N3 e3 => ?_⟩
    rw [(t4 M').1, s.2.2.2.1] at e3
    have s3 := s.f2 hr (r2_up e3 (by decide))
    have g3 := g.2.2.1
    have g2 := g.2.1
    have g4 := g.2.2.2.1
    have ee : (tE T).1 = T 0 1 := rfl
    rw [ee] at g3 g4
    have oN : rW r M N3 := by rw [e3]; exact (ow_of.tr oM o.rW).uf (by simp)
    refine k1 N3 j (tst T 1 (T 0 1) E'.1 E') oN.rG ⟨s3, ?_, tcC_wei hr a3 oN ?_ ?_ ?_, ?_, ?_⟩ ⟨E', sr, fun _ => rfl⟩
    · rw [oN 46 3 (by simp <;> omega) (by simp <;> omega)]; exact a2
    · rw [e3, ow_upN (Or.inr (by decide)), o _ _ (by simp <;> omega) (by simp <;> omega)]; exact v3
    · rw [e3, ow_upN (Or.inr (by decide)), o _ _ (by simp <;> omega) (by simp <;> omega)]; exact v4
    · rw [e3, ow_upS]
    · exact ti_step a4 a6 ⟨by decide, by decide⟩ (fun z => absurd z (by decide)) (fun _ => h7) ⟨g4, by omega⟩ g.2.2.2.2.1 (fun _ => ⟨rfl, rfl⟩) (fun z => absurd z (by decide)) (fun _ => by have := g.2.2.2.2.2 (T 0 1) 0 0 (ckv_0 (E := tE T) a4.2.2.1.1) (by decide); exact this) (fun z => absurd z (by decide)) (fun z => absurd z (by decide))
    · show E'.1 ≤ j
      omega
  · rw [w.1.1]
    refine ⟨tx M', tx M', (t4 M').2.2.2.2.2.2.2.2.2.2, fun N3 e3 => ?_⟩
    refine k2 N3 f j ?_ (w.f2 hr (r2_up e3 (by decide))) ⟨E', sr, fun z => absurd z w.2.1⟩
    rw [e3]; exact ((oM.rG).tr o.rG).up (by omega)
end BOD
