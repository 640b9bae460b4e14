/-! ===== what may be done, by the class ===== -/
def orE (w : Int) (E : pm_E) : pm_E := if w = 1 then pe E (-22) else E
def mayL (n : Int) (t : Int → Int) : Nat → Int → Int → pm_E → Int → Int → pm_E → Prop
  | 0, w, i, E, f, j, E' => nx n t i ≠ 11 ∧ nx n t i ≠ 12 ∧ f = 0 ∧ j = i ∧ E' = orE w E
  | k + 1, w, i, E, f, j, E' => (nx n t i = 12 ∧ ∃ f1 j1 E1, askR n t 8 (i + 1) E f1 j1 E1 ∧ ((f1 ≠ 0 ∧ f = f1 ∧ j = j1) ∨ (f1 = 0 ∧ mayL n t k w j1 (pe E1 (-21)) f j E'))) ∨ (nx n t i = 11 ∧ ∃ f1 j1 E1, askR n t 8 (i + 1) (orE w E) f1 j1 E1 ∧ ((f1 ≠ 0 ∧ f = f1 ∧ j = j1) ∨ (f1 = 0 ∧ mayL n t k 1 j1 E1 f j E')))
def mayR (n : Int) (t : Int → Int) (i : Int) (E : pm_E) (f j : Int) (E' : pm_E) : Prop := ∃ f1 j1 E1, askR n t 8 i E f1 j1 E1 ∧ ((f1 ≠ 0 ∧ f = f1 ∧ j = j1) ∨ (f1 = 0 ∧ ∃ k, mayL n t k 0 j1 E1 f j E'))
def gm (m i : Int) (E : pm_E) (j : Int) (E' : pm_E) (w : Int) : Prop := i < j ∧ j ≤ m ∧ E'.1 + w + i ≤ E.1 + j ∧ E.1 ≤ E'.1 ∧ (∀ k, 0 ≤ k → k < E.1 → E'.2 k = E.2 k) ∧ ckv E' E.1 0 (1 + w)
theorem ckv_0 {E : pm_E} (h : 0 ≤ E.1) : ckv E E.1 0 0 := by
  refine ⟨⟨h, Int.le_refl _⟩, ?_, ?_⟩
  · intro j hj; omega
  · rw [show (E.1 - E.1).toNat = 0 by omega]; rfl
theorem gm_ask {m i j : Int} {E E' : pm_E} (h : ga m i E j E') (h0 : 0 ≤ E.1) : gm m i E j E' 0 := ⟨h.1, h.2.1, by have := h.2.2.1; omega, h.2.2.2.1, h.2.2.2.2.1, by have := h.2.2.2.2.2 E.1 0 (ckv_0 h0) (by decide); exact this⟩
theorem ck_and {c tr : Int} (hc : c = -21 ∨ c = -22) : ck_n c 0 = 0 ∧ ck_t c tr = tr - 1 := by
  rcases hc with e | e <;> subst e <;> exact ⟨rfl, by unfold ck_t; rw [if_neg (by omega), if_neg (by omega), if_pos (by omega)]⟩
theorem gm_or {m i j w : Int} {E E' : pm_E} (h : gm m i E j E' w) (hw : w = 0 ∨ w = 1) : gm m i E j (orE w E') 0 := by
  unfold orE
  rcases hw with e | e
  · rw [if_neg (by omega)]; rw [e] at h; exact h
  · rw [if_pos e]
    obtain ⟨h1, h2, h3, h4, h5, h6⟩ := h
    refine ⟨h1, h2, by show E'.1 + 1 + 0 + i ≤ E.1 + j; omega, by show E.1 ≤ E'.1 + 1; omega, fun k k0 k1 => ?_, ?_⟩
    · show bk_put E'.2 E'.1 (-22) k = E.2 k
      rw [bk_put_n (by omega)]; exact h5 k k0 k1
    · have := ckv_push (c := -22) h6 (by unfold ck_ok; omega)
      rw [(ck_and (tr := 0) (Or.inr rfl)).1, (ck_and (Or.inr rfl)).2, show 1 + w - 1 = 1 + 0 by omega] at this
      exact this
theorem gm_and {m i j j' w : Int} {E E1 E2 : pm_E} (h : gm m i E j E1 w) (h2 : ga m (j + 1) E1 j' E2) (hw : w = 0 ∨ w = 1) : gm m i E j' (pe E2 (-21)) w := by
  obtain ⟨a1, a2, a3, a4, a5, a6⟩ := h
  obtain ⟨b1, b2, b3, b4, b5, b6⟩ := h2
  refine ⟨by omega, b2, by show E2.1 + 1 + w + i ≤ E.1 + j'; omega, by show E.1 ≤ E2.1 + 1; omega, fun k k0 k1 => ?_, ?_⟩
  · show bk_put E2.2 E2.1 (-21) k = E.2 k
    rw [bk_put_n (by omega), b5 k k0 (by omega)]; exact a5 k k0 k1
  · have := ckv_push (c := -21) (b6 E.1 (1 + w) a6 (by omega)) (by unfold ck_ok; omega)
    rw [(ck_and (tr := 0) (Or.inl rfl)).1, (ck_and (Or.inl rfl)).2, show 1 + w + 1 - 1 = 1 + w by omega] at this
    exact this
theorem gm_next {m i j j' w : Int} {E E1 E2 : pm_E} (h : gm m i E j E1 w) (hw : w = 0 ∨ w = 1) (h2 : ga m (j + 1) (orE w E1) j' E2) : gm m i E j' E2 1 := by
  obtain ⟨a1, a2, a3, a4, a5, a6⟩ := gm_or h hw
  obtain ⟨b1, b2, b3, b4, b5, b6⟩ := h2
  exact ⟨by omega, b2, by omega, by omega, fun k k0 k1 => by rw [b5 k k0 (by omega)]; exact a5 k k0 k1, by have := b6 E.1 (1 + 0) a6 (by omega); exact this⟩
section MAY
variable {C : ow_C} {A L N : Int} {n : Int} {t : Int → Int} {m r : Int}
/-- fields that the reading of codes doesn't look at -/
def r2 (r : Int) (M M' : ow_M) : Prop := ∀ c j, ¬ (c = 22 + 6 * r ∧ 3 ≤ j) → ¬ (22 + 6 * r + 2 ≤ c ∧ c ≤ 22 + 6 * r + 5) → ¬ (c = 46 ∧ j = 3) → M' c j = M c j
theorem rd0.f2 {M M' : ow_M} (hr : 0 ≤ r ∧ r < 4) (h : rd0 A L n t m r M) (o : r2 r M M') : rd0 A L n t m r M' := by
  obtain ⟨h1, h2, h3, h4, h5⟩ := h
  refine ⟨by rw [o _ _ (by omega) (by omega) (by omega)]; exact h1, h2.fr (o _ _ (by omega) (by omega) (by omega)) (fun c i q1 q2 => o _ _ (by omega) (by omega) (by omega)), by rw [o _ _ (by omega) (by omega) (by omega)]; exact h3, by rw [o _ _ (by omega) (by omega) (by omega)]; exact h4, by rw [o _ _ (by omega) (by omega) (by omega)]; exact h5⟩
theorem rd.f2 {M M' : ow_M} {i : Int} {E : pm_E} (hr : 0 ≤ r ∧ r < 4) (h : rd A L n t m r M i E) (o : r2 r M M') : rd A L n t m r M' i E := by
  obtain ⟨h1, h2, h3, h4, h5, h6, h7⟩ := h
  exact ⟨h1.f2 hr o, by rw [o _ _ (by omega) (by omega) (by omega)]; exact h2, by rw [o _ _ (by omega) (by omega) (by omega)]; exact h3, by rw [o _ _ (by omega) (by omega) (by omega)]; exact h4, fun k k0 k1 => by rw [o _ _ (by omega) (by omega) (by omega)]; exact h5 k k0 k1, fun z => h6 (by rw [o _ _ (by omega) (by omega) (by omega)] at z; exact z), by rw [o _ _ (by omega) (by omega) (by omega)]; exact h7⟩
theorem rw_.f2 {M M' : ow_M} {f j : Int} (hr : 0 ≤ r ∧ r < 4) (h : rw_ A L n t m r M f j) (o : r2 r M M') : rw_ A L n t m r M' f j := ⟨h.1.f2 hr o, h.2.1, by rw [o _ _ (by omega) (by omega) (by omega)]; exact h.2.2.1, by rw [o _ _ (by omega) (by omega) (by omega)]; exact h.2.2.2⟩
theorem r2_up {M M' : ow_M} {j v : Int} (e : M' = ow_up M (22 + 6 * r) j v) (hj : 3 ≤ j) : r2 r M M' := fun c i h1 h2 h3 => by rw [e, ow_upN (by omega)]
def rM (r : Int) (M M' : ow_M) : Prop := ow_of [22 + 6 * r + 1] [(46, 2), (46, 4), (46, 5), (22 + 6 * r, 1), (22 + 6 * r, 2), (22 + 6 * r, 3), (22 + 6 * r, 4), (22 + 6 * r, 5)] M M'
theorem rF.rM {M M' : ow_M} (h : rF r M M') : rM r M M' := fun c i h1 h2 => h c i h1 (fun z => h2 (by simp at z ⊢; omega))
theorem rd_or (hr : 0 ≤ r ∧ r < 4) {d : Nat} {i w : Int} {E : pm_E} {M : ow_M} {K : Int → ow_M → Prop} (h : rd A L n t m r M i E) (hw : w = 1) (h3 : E.1 < 300) (hK : ∀ M', rF r M M' → rd A L n t m r M' i (orE w E) → K 0 M') : ow_Sp C (EM A L N) d mX7_emit (0, 0) [(3, 22 + 6 * r), (0, (-22))] M K := rd_emit hr h h3 (by decide) (fun M' o s => hK M' o (by unfold orE; rw [if_pos hw]; exact s))
theorem tX6_readMay (hp : tp_ok n t) (hr : 0 ≤ r ∧ r < 4) (hm : te_ok n t m) {D : Nat} {i : Int} {E : pm_E} {M : ow_M} {K : Int → ow_M → Prop} (h : rd A L n t m r M i E) (hE0 : 0 ≤ E.1) (hE : E.1 ≤ i) (k1 : ∀ M' j E', rM r M M' → rd A L n t m r M' j E' → M' (22 + 6 * r) 3 = 1 → M' (22 + 6 * r) 4 = E.1 → M' (22 + 6 * r) 5 = E'.1 → mayR n t i E 0 j E' → gm m i E j E' 0 → K 0 M') (k2 : ∀ M' f j E', rM r M M' → rw_ A L n t m r M' f j → mayR n t i E f j E' → K 0 M') : ow_Sp C (EM A L N) (D + 30) mX6_readMay (0, 0) [(3, 46)] M K := by
  have m3 := hm.1
  have tx : ∀ s, ow_O (EM A L N) s (22 + 6 * r) 7 := fun s => (em_text (A := A) (L := L) (N := N) (M := s) hr).1
  have t4 := fun s => em_text4 (A := A) (L := L) (N := N) (M := s) (c := 0) hr ⟨by decide, by decide⟩
  refine fX6_readMay ?_
  rw [h.1.1]
  refine ⟨tx M, (t4 M).2.2.2.2.2.1, fun N1 e1 => ?_⟩
  have s1 := h.f2 hr (r2_up e1 (by decide))
  rw [s1.1.1, (t4 N1).1]
  refine ⟨tx N1, tx N1, (t4 N1).2.2.2.2.2.2.1, fun N2 e2 => ?_⟩
  have s2 := s1.f2 hr (r2_up e2 (by decide))
  have oM : rM r M N2 := by rw [e2, e1]; exact (ow_of.rf.uf (by simp)).uf (by simp)
  have v3 : N2 (22 + 6 * r) 3 = 1 := by rw [e2, ow_upN (Or.inr (by decide)), e1, ow_upS]
  have v4 : N2 (22 + 6 * r) 4 = E.1 := by rw [e2, ow_upS]; exact s1.2.2.2.1
  have i0 := h.1.2.2.1.1
  rw [h.2.1] at i0
  -- the end of it
  have fin : ∀ (s : ow_M) (j w : Int) (E1 : pm_E), rF r N2 s → rd A L n t m r s j E1 → (w = 0 ∨ w = 1) → gm m i E j E1 w → mayR n t i E 0 j (orE w E1) → ow_At C (EM A L N) (D + 30) mX6_readMay 133 [(0, (3, 46)), (1, (0, w))] [] (0, 0) s K := by
    intro s j w E1 os hs hw g hmay
    have last : ∀ s2 E2, rF r N2 s2 → rd A L n t m r s2 j E2 → E2 = orE w E1 → ow_O (EM A L N) s2 (22 + 6 * r) 7 ∧ ow_O (EM A L N) s2 (22 + 6 * r) 7 ∧ (EM A L N).1 (22 + 6 * r) 5 = none ∧ ∀ N3, N3 = ow_up s2 (22 + 6 * r) 5 (ow_gv (EM A L N) s2 (22 + 6 * r) 1) → K 0 N3 := by
      intro s2 E2 o2 h2 eE
      refine ⟨tx s2, tx s2, (t4 s2).2.2.2.2.2.2.2.1, fun N3 e3 => ?_⟩
      rw [(t4 s2).1] at e3
      have s3 := h2.f2 hr (r2_up e3 (by decide))
      rw [eE] at s3
      refine k1 N3 j (orE w E1) ?_ s3 ?_ ?_ ?_ hmay (gm_or g hw)
      · rw [e3]; exact (ow_of.tr oM o2.rM).uf (by simp)
      · rw [e3, ow_upN (Or.inr (by decide)), o2 _ _ (by simp <;> omega) (by simp <;> omega)]; exact v3
      · rw [e3, ow_upN (Or.inr (by decide)), o2 _ _ (by simp <;> omega) (by simp <;> omega)]; exact v4
      · rw [e3, ow_upS, h2.2.2.2.1, eE]
    have g3 := g.2.2.1
    have g4 := g.2.1
    refine cX6_readMay_133 ⟨fun q => ?_, fun q => ?_⟩
    · rw [hs.1.1]
      exact last s E1 os hs (by unfold orE; rw [if_neg (by omega)])
    · rw [hs.1.1]
      refine ⟨tx s, rd_or (w := w) hr hs (by omega) (by omega) (fun M3 o3 s3 => ?_)⟩
      rw [s3.1.1]
      exact last M3 _ (os.tr o3) s3 rfl
  have dead133 : ∀ (s : ow_M) (f j w : Int) (E1 : pm_E), rF r N2 s → rw_ A L n t m r s f j → mayR n t i E f j E1 → ow_At C (EM A L N) (D + 30) mX6_readMay 133 [(0, (3, 46)), (1, (0, w))] [] (0, 0) s K := by
    intro s f j w E1 os hs hmay
    have last : ∀ s2, rF r N2 s2 → rw_ A L n t m r s2 f j → ow_O (EM A L N) s2 (22 + 6 * r) 7 ∧ ow_O (EM A L N) s2 (22 + 6 * r) 7 ∧ (EM A L N).1 (22 + 6 * r) 5 = none ∧ ∀ N3, N3 = ow_up s2 (22 + 6 * r) 5 (ow_gv (EM A L N) s2 (22 + 6 * r) 1) → K 0 N3 := by
      intro s2 o2 h2
      refine ⟨tx s2, tx s2, (t4 s2).2.2.2.2.2.2.2.1, fun N3 e3 => ?_⟩
      exact k2 N3 f j E1 (by rw [e3]; exact (ow_of.tr oM o2.rM).uf (by simp)) (h2.f2 hr (r2_up e3 (by decide))) hmay
    refine cX6_readMay_133 ⟨fun q => ?_, fun q => ?_⟩
    · rw [hs.1.1]; exact last s os hs
    · rw [hs.1.1]
      refine ⟨tx s, rw_emit hr hs (fun M3 o3 w3 => ?_)⟩
      rw [w3.1.1]
      exact last M3 (os.tr o3) w3
  have dead31 : ∀ (s : ow_M) (f j w l : Int) (E1 : pm_E), rF r N2 s → rw_ A L n t m r s f j → mayR n t i E f j E1 → ow_At C (EM A L N) (D + 30) mX6_readMay 31 [(0, (3, 46)), (1, (0, w)), (2, (0, l))] [] (0, 0) s K := fun s f j w l E1 os hs hmay => cX6_readMay_31 ⟨fun _ => dead133 s f j w E1 os hs hmay, fun _ => ⟨fun _ => dead133 s f j w E1 os hs hmay, fun z => absurd (hs.2.2.1.symm.trans z) hs.2.1⟩⟩
  -- the loop
  have loop : ∀ (b : Nat) (j l w : Int) (E1 : pm_E) (s : ow_M), m - j ≤ b → (0 ≤ l ∧ l < j) → (w = 0 ∨ w = 1) → rF r N2 s → rd A L n t m r s j E1 → gm m i E j E1 w → (∀ k f j' E', mayL n t k w j E1 f j' E' → mayR n t i E f j' E') → ow_At C (EM A L N) (D + 30) mX6_readMay 31 [(0, (3, 46)), (1, (0, w)), (2, (0, l))] [] (0, 0) s K := by
    intro b
    induction b with
    | zero =>
      intro j l w E1 s hb hl hw os hs g hk
      have jm : j = m := by have := g.2.1; omega
      have kz : kx n t j = 0 := by rw [jm]; exact kx_end hm
      have nz := nx_no (n := n) (t := t) (i := j) (by omega)
      refine cX6_readMay_31 ⟨fun q => by omega, fun _ => ⟨fun z => absurd hs.2.2.1 z, fun _ => tX6_isName hm hs.1 (fun q => ?_) (fun _ => ⟨fun z => absurd rfl z, fun _ => tX6_isName hm hs.1 (fun q => ?_) (fun _ => ⟨fun _ => ?_, fun z => absurd rfl z⟩)⟩)⟩⟩
      · rw [hs.2.1] at q; omega
      · rw [hs.2.1] at q; omega
      · exact fin s j w E1 os hs hw g (hk 0 0 j _ ⟨by omega, by omega, rfl, rfl, rfl⟩)
    | succ b ih =>
      intro j l w E1 s hb hl hw os hs g hk
      have jm := g.2.1
      have g3 := g.2.2.1
      have g4 := g.2.2.2.1
      -- one more question, behind 'and'
      have andc : nx n t j = 12 → ow_At C (EM A L N) (D + 30) mX6_readMay 63 [(0, (3, 46)), (1, (0, w)), (2, (0, l))] [] (0, 0) s K := by
        intro q
        have il := (nx_lt hm jm (show 0 ≤ nx n t j by omega)).1
        refine cX6_readMay_63 (tX6_isName hm hs.1 (fun _ => ⟨fun _ => cX6_readMay_87 ⟨fun _ => cX6_readMay_97 ?_, fun z => absurd z (by decide)⟩, fun z => absurd z (by decide)⟩) (fun z => absurd (by rw [hs.2.1]; exact q) z))
        rw [hs.2.1]
        refine ⟨⟨by omega, by omega⟩, fun N3 e3 => ?_⟩
        obtain ⟨s3, o3⟩ := hs.go hr il e3
        have ow0 : ow_or w 0 = w := by rcases hw with e | e <;> rw [e] <;> decide
        rw [ow0]
        refine tX6_readAsk hp hr hm 8 D 0 (j + 1) E1 N3 _ rfl (by decide) s3 (by omega) (by omega) (fun M4 j4 E4 o4 s4 a4 g4 => ⟨fun z => absurd z (by decide), fun _ => ?_⟩) (fun M4 f4 j4 E4 o4 w4 a4 => ⟨fun z => absurd z (by decide), fun _ => ?_⟩)
        · have gg := gm_and g g4 hw
          have y1 := gg.2.2.1
          have y2 := gg.2.1
          have y3 : (pe E4 (-21)).1 = E4.1 + 1 := rfl
          have y4 := g4.1
          rw [s4.1.1]
          refine ⟨tx M4, rd_emit hr s4 (by omega) (by decide) (fun M5 o5 s5 => ⟨⟨by omega, by omega⟩, ih j4 (l + 1) w _ M5 (by omega) ⟨by omega, by omega⟩ hw (os.tr (o3.tr (o4.tr o5))) s5 gg (fun k f j' E' hl' => hk (k + 1) f j' E' (Or.inl ⟨q, 0, j4, E4, a4, Or.inr ⟨rfl, hl'⟩⟩))⟩)⟩
        · rw [w4.1.1]
          refine ⟨tx M4, rw_emit hr w4 (fun M5 o5 w5 => ⟨⟨by omega, by omega⟩, dead31 M5 f4 j4 w (l + 1) E4 (os.tr (o3.tr (o4.tr o5))) w5 (hk 1 f4 j4 E4 (Or.inl ⟨q, f4, j4, E4, a4, Or.inl ⟨w5.2.1, rfl, rfl⟩⟩))⟩)⟩
      have orc : nx n t j = 11 → ow_At C (EM A L N) (D + 30) mX6_readMay 63 [(0, (3, 46)), (1, (0, w)), (2, (0, l))] [] (0, 0) s K := by
        intro q
        have il := (nx_lt hm jm (show 0 ≤ nx n t j by omega)).1
        -- behind what was waiting
        have next : ∀ s2, rF r N2 s2 → rd A L n t m r s2 j (orE w E1) → ow_At C (EM A L N) (D + 30) mX6_readMay 87 [(0, (3, 46)), (1, (0, w)), (2, (0, l)), (3, (0, 0))] [] (0, 0) s2 K := by
          intro s2 os2 hs2
          have gw := gm_or g hw
          have z1 := gw.2.2.1
          have z2 := gw.2.2.2.1
          refine cX6_readMay_87 ⟨fun z => absurd rfl z, fun _ => cX6_readMay_97 ?_⟩
          rw [hs2.2.1]
          refine ⟨⟨by omega, by omega⟩, fun N3 e3 => ?_⟩
          obtain ⟨s3, o3⟩ := hs2.go hr il e3
          have ow1 : ow_or w 1 = 1 := by rcases hw with e | e <;> rw [e] <;> decide
          rw [ow1]
          refine tX6_readAsk hp hr hm 8 D 0 (j + 1) (orE w E1) N3 _ rfl (by decide) s3 (by omega) (by omega) (fun M4 j4 E4 o4 s4 a4 g4 => ⟨fun _ => ?_, fun z => absurd rfl z⟩) (fun M4 f4 j4 E4 o4 w4 a4 => ⟨fun _ => ?_, fun z => absurd rfl z⟩)
          · have gg := gm_next g hw g4
            have y4 := g4.1
            exact ⟨⟨by omega, by omega⟩, ih j4 (l + 1) 1 _ M4 (by omega) ⟨by omega, by omega⟩ (Or.inr rfl) (os2.tr (o3.tr o4)) s4 gg (fun k f j' E' hl' => hk (k + 1) f j' E' (Or.inr ⟨q, 0, j4, E4, a4, Or.inr ⟨rfl, hl'⟩⟩))⟩
          · exact ⟨⟨by omega, by omega⟩, dead31 M4 f4 j4 1 (l + 1) E4 (os2.tr (o3.tr o4)) w4 (hk 1 f4 j4 E4 (Or.inr ⟨q, f4, j4, E4, a4, Or.inl ⟨w4.2.1, rfl, rfl⟩⟩))⟩
        refine cX6_readMay_63 (tX6_isName hm hs.1 (fun z => by rw [hs.2.1] at z; omega) (fun _ => ⟨fun z => absurd rfl z, fun _ => ⟨fun z => ?_, fun z => ?_⟩⟩))
        · exact next s os (by unfold orE; rw [if_neg (by omega)]; exact hs)
        · rw [hs.1.1]
          exact ⟨tx s, rd_or (w := w) hr hs (by omega) (by omega) (fun M3 o3 s3 => next M3 (os.tr o3) s3)⟩
      refine cX6_readMay_31 ⟨fun q => by omega, fun _ => ⟨fun z => absurd hs.2.2.1 z, fun _ => tX6_isName hm hs.1 (fun q => ⟨fun _ => orc (by rw [hs.2.1] at q; exact q), fun z => absurd z (by decide)⟩) (fun q1 => ⟨fun z => absurd rfl z, fun _ => tX6_isName hm hs.1 (fun q => ⟨fun z => absurd z (by decide), fun _ => andc (by rw [hs.2.1] at q; exact q)⟩) (fun q2 => ⟨fun _ => ?_, fun z => absurd rfl z⟩)⟩)⟩⟩
      rw [hs.2.1] at q1 q2
      exact fin s j w E1 os hs hw g (hk 0 0 j _ ⟨q1, q2, rfl, rfl, rfl⟩)
  refine tX6_readAsk hp hr hm 8 D 0 i E N2 _ rfl (by decide) s2 hE0 hE (fun M3 j3 E3 o3 s3 a3 g3 => ?_) (fun M3 f3 j3 E3 o3 w3 a3 => ?_)
  · have y4 := g3.1
    exact loop (m - j3).toNat j3 0 0 E3 M3 (by omega) ⟨by omega, by omega⟩ (Or.inl rfl) o3 s3 (gm_ask g3 hE0) (fun k f j' E' hl => ⟨0, j3, E3, a3, Or.inr ⟨rfl, k, hl⟩⟩)
  · exact dead31 M3 f3 j3 0 0 E3 o3 w3 ⟨f3, j3, E3, a3, Or.inl ⟨w3.2.1, rfl, rfl⟩⟩
end MAY
