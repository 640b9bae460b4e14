/-! ===== entries, roads, clauses by the class ===== -/
section CLS
variable {C : ow_C} {A L N : Int} {n : Int} {t : Int → Int} {m r : Int}
theorem em_text5 {M : ow_M} {x : Int} (hr : 0 ≤ r ∧ r < 4) : (EM A L N).1 (22 + 6 * r + 2) x = none ∧ (EM A L N).1 (22 + 6 * r + 3) x = none ∧ (EM A L N).1 (22 + 6 * r + 4) x = none ∧ (EM A L N).1 (22 + 6 * r + 5) x = none ∧ (EM A L N).1 (22 + 6 * r) 11 = none ∧ (EM A L N).1 (22 + 6 * r) 14 = none := by
  have e : r = 0 ∨ r = 1 ∨ r = 2 ∨ r = 3 := by omega
  rcases e with e | e | e | e <;> subst e <;> exact ⟨rfl, rfl, rfl, rfl, rfl, rfl⟩
theorem tX7_addEntry {d : Nat} {M : ow_M} {K : Int → ow_M → Prop} (hr : 0 ≤ r ∧ r < 4) {x a b : Int} (h : M (22 + 6 * r) 11 = x) (hx : 0 ≤ x ∧ x < 24) (hK : ∀ M', M' = ow_up (ow_up (ow_up M (22 + 6 * r + 2) x a) (22 + 6 * r + 3) x b) (22 + 6 * r) 11 (x + 1) → K 0 M') : ow_Sp C (EM A L N) d mX7_addEntry (0, 0) [(3, 22 + 6 * r), (0, a), (0, b)] M K := by
  have tx : ∀ s, ow_O (EM A L N) s (22 + 6 * r) 7 := fun s => (em_text (A := A) (L := L) (N := N) (M := s) hr).1
  have g11 : ∀ s, ow_gv (EM A L N) s (22 + 6 * r) 11 = s (22 + 6 * r) 11 := fun s => (em_text (A := A) (L := L) (N := N) (M := s) hr).2.2.2.2.2.2.2.2.2.1
  have t3 := fun s => em_text3 (A := A) (L := L) (N := N) (M := s) hr hx
  have t5 := em_text5 (A := A) (L := L) (N := N) (M := M) (x := x) hr
  refine eX7_addEntry ?_
  rw [g11, h, (t3 M).1]
  refine ⟨tx M, fun q => by omega, fun _ => ⟨tx M, tx M, (t3 M).2.2.1, t5.1, fun N1 e1 => ?_⟩⟩
  have h1 : N1 (22 + 6 * r) 11 = x := by rw [e1, ow_upN (Or.inl (by omega))]; exact h
  rw [g11, h1, (t3 N1).2.1]
  refine ⟨tx N1, tx N1, (t3 N1).2.2.2.1, t5.2.1, fun N2 e2 => ?_⟩
  have h2 : N2 (22 + 6 * r) 11 = x := by rw [e2, ow_upN (Or.inl (by omega))]; exact h1
  rw [g11, h2]
  exact ⟨tx N2, ⟨by omega, by omega⟩, tx N2, t5.2.2.2.2.1, fun N3 e3 => hK N3 (by rw [e3, e2, e1])⟩
theorem tX7_addRoad {d : Nat} {M : ow_M} {K : Int → ow_M → Prop} (hr : 0 ≤ r ∧ r < 4) {x a b : Int} (h : M (22 + 6 * r) 14 = x) (hx : 0 ≤ x ∧ x < 24) (hK : ∀ M', M' = ow_up (ow_up (ow_up M (22 + 6 * r + 4) x a) (22 + 6 * r + 5) x b) (22 + 6 * r) 14 (x + 1) → K 0 M') : ow_Sp C (EM A L N) d mX7_addRoad (0, 0) [(3, 22 + 6 * r), (0, a), (0, b)] M K := by
  have tx : ∀ s, ow_O (EM A L N) s (22 + 6 * r) 7 := fun s => (em_text (A := A) (L := L) (N := N) (M := s) hr).1
  have g14 : ∀ s, ow_gv (EM A L N) s (22 + 6 * r) 14 = s (22 + 6 * r) 14 := fun s => (em_text (A := A) (L := L) (N := N) (M := s) hr).2.2.2.2.2.2.2.2.2.2.1
  have t3 := fun s => em_text2 (A := A) (L := L) (N := N) (M := s) hr hx
  have t5 := em_text5 (A := A) (L := L) (N := N) (M := M) (x := x) hr
  refine eX7_addRoad ?_
  rw [g14, h, (t3 M).1]
  refine ⟨tx M, fun q => by omega, fun _ => ⟨tx M, tx M, (t3 M).2.2.1, t5.2.2.1, fun N1 e1 => ?_⟩⟩
  have h1 : N1 (22 + 6 * r) 14 = x := by rw [e1, ow_upN (Or.inl (by omega))]; exact h
  rw [g14, h1, (t3 N1).2.1]
  refine ⟨tx N1, tx N1, (t3 N1).2.2.2.1, t5.2.2.2.1, fun N2 e2 => ?_⟩
  have h2 : N2 (22 + 6 * r) 14 = x := by rw [e2, ow_upN (Or.inl (by omega))]; exact h1
  rw [g14, h2]
  exact ⟨tx N2, ⟨by omega, by omega⟩, tx N2, t5.2.2.2.2.2, fun N3 e3 => hK N3 (by rw [e3, e2, e1])⟩
theorem tcC.F (hr : 0 ≤ r ∧ r < 4) {M M' T : ow_M} (h : tcC M (22 + 6 * r) T) (o : rF r M M') : tcC M' (22 + 6 * r) T := by
  obtain ⟨a1, a2, a3, a4, a5, a6, a7, a8⟩ := h
  have s : ∀ c j, c ≠ 46 → ¬ (c = 22 + 6 * r ∧ j ≤ 2) → c ≠ 22 + 6 * r + 1 → M' c j = M c j := fun c j h1 h2 h3 => o c j (by simp <;> omega) (by simp <;> omega)
  refine ⟨?_, fun q => ?_, ?_, fun q => ?_, ?_, ?_, fun e e0 e1 => ?_, fun e e0 e1 => ?_⟩
  · rw [s _ _ (by omega) (by omega) (by omega)]; exact a1
  · rw [s _ _ (by omega) (by omega) (by omega), s _ _ (by omega) (by omega) (by omega)]; exact a2 q
  · rw [s _ _ (by omega) (by omega) (by omega)]; exact a3
  · rw [s _ _ (by omega) (by omega) (by omega), s _ _ (by omega) (by omega) (by omega)]; exact a4 q
  · rw [s _ _ (by omega) (by omega) (by omega)]; exact a5
  · rw [s _ _ (by omega) (by omega) (by omega)]; exact a6
  · rw [s _ _ (by omega) (by omega) (by omega), s _ _ (by omega) (by omega) (by omega)]; exact a7 e e0 e1
  · rw [s _ _ (by omega) (by omega) (by omega), s _ _ (by omega) (by omega) (by omega)]; exact a8 e e0 e1
theorem tcC_ent {M M' T : ow_M} {c a b : Int} {E' : pm_E} (h : tcC M c T) (hx : 0 ≤ T 0 2) (e : M' = ow_up (ow_up (ow_up M (c + 2) (T 0 2) a) (c + 3) (T 0 2) b) c 11 (T 0 2 + 1)) : tcC M' c (tst T 2 a b E') := by
  obtain ⟨a1, a2, a3, a4, a5, a6, a7, a8⟩ := h
  have s : ∀ x j, ¬ (x = c ∧ j = 11) → x ≠ c + 2 → x ≠ c + 3 → M' x j = M x j := fun x j h1 h2 h3 => by rw [e, ow_upN (by omega), ow_upN (by omega), ow_upN (by omega)]
  refine ⟨?_, fun q => ?_, ?_, fun q => ?_, ?_, ?_, fun x e0 e1 => ?_, fun x e0 e1 => ?_⟩
  · rw [s _ _ (by omega) (by omega) (by omega)]; exact a1
  · rw [s _ _ (by omega) (by omega) (by omega), s _ _ (by omega) (by omega) (by omega)]; exact a2 q
  · rw [s _ _ (by omega) (by omega) (by omega)]; exact a3
  · rw [s _ _ (by omega) (by omega) (by omega), s _ _ (by omega) (by omega) (by omega)]; exact a4 q
  · rw [e, ow_upS]; rfl
  · rw [s _ _ (by omega) (by omega) (by omega)]; exact a6
  · show _ = bk_put (T 5) (T 0 2) a x ∧ _ = bk_put (T 6) (T 0 2) b x
    have e1' : x < T 0 2 + 1 := e1
    by_cases ex : x = T 0 2
    · rw [ex, bk_put_s, bk_put_s]
      refine ⟨?_, ?_⟩
      · rw [e, ow_upN (Or.inl (by omega)), ow_upN (Or.inl (by omega)), ow_upS]
      · rw [e, ow_upN (Or.inl (by omega)), ow_upS]
    · rw [bk_put_n ex, bk_put_n ex]
      have := a7 x e0 (by omega)
      refine ⟨?_, ?_⟩
      · rw [e, ow_upN (Or.inl (by omega)), ow_upN (Or.inl (by omega)), ow_upN (Or.inr ex)]; exact this.1
      · rw [e, ow_upN (Or.inl (by omega)), ow_upN (Or.inr ex), ow_upN (Or.inl (by omega))]; exact this.2
  · rw [s _ _ (by omega) (by omega) (by omega), s _ _ (by omega) (by omega) (by omega)]; exact a8 x e0 e1
theorem tcC_road {M M' T : ow_M} {c a b : Int} {E' : pm_E} (h : tcC M c T) (hx : 0 ≤ T 0 3) (e : M' = ow_up (ow_up (ow_up M (c + 4) (T 0 3) a) (c + 5) (T 0 3) b) c 14 (T 0 3 + 1)) : tcC M' c (tst T 3 a b E') := by
  obtain ⟨a1, a2, a3, a4, a5, a6, a7, a8⟩ := h
  have s : ∀ x j, ¬ (x = c ∧ j = 14) → x ≠ c + 4 → x ≠ c + 5 → M' x j = M x j := fun x j h1 h2 h3 => by rw [e, ow_upN (by omega), ow_upN (by omega), ow_upN (by omega)]
  refine ⟨?_, fun q => ?_, ?_, fun q => ?_, ?_, ?_, fun x e0 e1 => ?_, fun x e0 e1 => ?_⟩
  · rw [s _ _ (by omega) (by omega) (by omega)]; exact a1
  · rw [s _ _ (by omega) (by omega) (by omega), s _ _ (by omega) (by omega) (by omega)]; exact a2 q
  · rw [s _ _ (by omega) (by omega) (by omega)]; exact a3
  · rw [s _ _ (by omega) (by omega) (by omega), s _ _ (by omega) (by omega) (by omega)]; exact a4 q
  · rw [s _ _ (by omega) (by omega) (by omega)]; exact a5
  · rw [e, ow_upS]; rfl
  · rw [s _ _ (by omega) (by omega) (by omega), s _ _ (by omega) (by omega) (by omega)]; exact a7 x e0 e1
  · show _ = bk_put (T 7) (T 0 3) a x ∧ _ = bk_put (T 8) (T 0 3) b x
    have e1' : x < T 0 3 + 1 := e1
    by_cases ex : x = T 0 3
    · rw [ex, bk_put_s, bk_put_s]
      refine ⟨?_, ?_⟩
      · rw [e, ow_upN (Or.inl (by omega)), ow_upN (Or.inl (by omega)), ow_upS]
      · rw [e, ow_upN (Or.inl (by omega)), ow_upS]
    · rw [bk_put_n ex, bk_put_n ex]
      have := a8 x e0 (by omega)
      refine ⟨?_, ?_⟩
      · rw [e, ow_upN (Or.inl (by omega)), ow_upN (Or.inl (by omega)), ow_upN (Or.inr ex)]; exact this.1
      · rw [e, ow_upN (Or.inl (by omega)), ow_upN (Or.inr ex), ow_upN (Or.inl (by omega))]; exact this.2
theorem ti_cts {T : ow_M} (h : ti N T) : (0 ≤ T 0 2 ∧ T 0 2 ≤ T 0 0) ∧ (0 ≤ T 0 3 ∧ T 0 3 ≤ T 0 0) := by
  obtain ⟨_, _, _, _, _, c1, c2, c3, c4, c5, c6, c7, c8⟩ := h
  rw [c5, c6]
  exact ⟨ow_ct_rg c1.1, ow_ct_rg c1.1⟩
theorem tX6_readWord {d : Nat} {M : ow_M} {K : Int → ow_M → Prop} (hr : 0 ≤ r ∧ r < 4) (h : em_ok A L N) (hm : te_ok n t m) {i : Int} {E : pm_E} (hs : rd A L n t m r M i E) (k1 : kx n t i = 1 → 0 ≤ vx_t A L n t i → vx_t A L n t i < N → i < m → ∀ M', rF r M M' → rd A L n t m r M' (i + 1) E → K (vx_t A L n t i) M') (k2 : ∀ v f M', ((kx n t i ≠ 1 ∧ f = 1) ∨ (kx n t i = 1 ∧ vx_t A L n t i < 0 ∧ f = 2)) → rF r M M' → rw_ A L n t m r M' f i → K v M') : ow_Sp C (EM A L N) (d + 1) mX6_readWord (0, 0) [(3, 46)] M K := by
  have m3 := hm.1
  have e2 := hs.2.1
  have i0 := hs.1.2.2.1
  rw [e2] at i0
  have z4 : M 46 4 = 0 := hs.2.2.1
  refine fX6_readWord (tX6_kind hm hs.1 ?_)
  rw [e2]
  refine ⟨fun q => cX6_readWord_24 (tX6_kind hm hs.1 ?_), fun q => ⟨⟨by omega, by omega⟩, ?_⟩⟩
  · rw [e2]
    exact ⟨fun q2 => absurd q2 q, fun _ => tX6_fail hr hm hs.1 (by decide) (fun z => absurd z4 z) (fun _ M' o w => k2 _ 1 M' (Or.inl ⟨q, rfl⟩) o (by rw [e2] at w; exact w))⟩
  · have il := kx_lt hm i0.2 (show kx n t i ≠ 0 by omega)
    have ev : M 57 i = vx_t A L n t i := (hs.1.2.1.2 i i0.1 i0.2).2.2.2 (Or.inl q)
    rw [ev]
    have rg := vxt_rg (t := t) h q
    refine cX6_readWord_24 (tX6_kind hm hs.1 ?_)
    rw [e2]
    refine ⟨fun _ => ⟨fun y => ⟨⟨by omega, by omega⟩, fun N2 e3 => ?_⟩, fun y => ?_⟩, fun q2 => absurd q q2⟩
    · obtain ⟨g1, g2⟩ := hs.go hr il e3
      exact k1 q (by omega) (by omega) il N2 g2 g1
    · exact tX6_fail hr hm hs.1 (by decide) (fun z => absurd z4 z) (fun _ M' o w => k2 _ 2 M' (Or.inr ⟨q, by omega, rfl⟩) o (by rw [e2] at w; exact w))
theorem body2 (hp : tp_ok n t) (hr : 0 ≤ r ∧ r < 4) (ho : em_ok A L N) (hm : te_ok n t m) {D : Nat} {i : Int} {T M : ow_M} {K : Int → ow_M → Prop} (h : cbd A L N n t m r M i T) (k1 : ∀ M' j T', rG r M M' → csd A L N n t m r M' j T' → bd2 A L n t i T 0 j T' → K 0 M') (k2 : ∀ M' f j, rG r M M' → rw_ A L n t m r M' f j → bd2 A L n t i T f j T → K 0 M') : ow_Sp C (EM A L N) (D + 30) mX6_readEntry (0, 0) [(3, 46)] M K := by
  obtain ⟨a1, a2, a3, a4, a5, a6⟩ := h
  refine fX6_readEntry (tX6_readWord hr ho hm a1 (fun q v0 v1 il M1 o1 s1 => ?_) (fun v f M1 hc o1 w1 => ?_))
  · refine num_c hr hm s1 (fun v hv b0 b1 il2 M2 o2 s2 => ⟨fun z => absurd s2.2.2.1 z, fun _ => ?_⟩) (fun v f M2 hv o2 w2 => ⟨fun _ => k2 M2 f (i + 1) (o1.rG.tr o2.rG) w2 (Or.inr (Or.inr ⟨q, v0, f, v, hv, Or.inl ⟨w2.2.1, rfl, rfl⟩⟩)), fun z => absurd (w2.2.2.1.symm.trans z) w2.2.1⟩)
    have t2 := (tcC.F hr a3 o1).F hr o2
    have ct := ti_cts a4
    rw [s2.1.1]
    refine ⟨(em_text (A := A) (L := L) (N := N) (M := M2) hr).1, tX7_addEntry hr t2.2.2.2.2.1 ⟨ct.1.1, by omega⟩ (fun M3 e3 => ?_)⟩
    have o3 : r2 r M2 M3 := fun c j h1 h2 h3 => by rw [e3, ow_upN (by omega), ow_upN (by omega), ow_upN (by omega)]
    refine k1 M3 (i + 2) (tst T 2 (vx_t A L n t i) v (tE T)) ?_ ⟨?_, ?_, tcC_ent t2 ct.1.1 e3, ?_, ?_⟩ (Or.inr (Or.inr ⟨q, v0, 0, v, hv, Or.inr ⟨rfl, rfl, rfl, rfl⟩⟩))
    · rw [e3]; exact (((o1.rG.tr o2.rG).up (by omega)).up (by omega)).up (by omega)
    · have := s2.f2 hr o3
      rw [show i + 1 + 1 = i + 2 by omega] at this
      exact this
    · rw [e3, ow_upN (Or.inl (by omega)), ow_upN (Or.inl (by omega)), ow_upN (Or.inl (by omega)), o2 46 3 (by simp <;> omega) (by simp <;> omega), o1 46 3 (by simp <;> omega) (by simp <;> omega)]; exact a2
    · exact ti_step a4 a6 ⟨by decide, by decide⟩ (fun z => absurd z (by decide)) (fun z => absurd z (by decide)) ⟨Int.le_refl _, a4.2.2.1.2⟩ (fun _ _ _ => rfl) (fun z => absurd z (by decide)) (fun z => absurd z (by decide)) (fun z => absurd z (by decide)) (fun _ => ⟨⟨v0, v1⟩, b0, b1⟩) (fun z => absurd z (by decide))
    · show T 0 1 ≤ i + 2
      omega
  · refine tX6_readNumberW hr hm w1 (fun v2 M2 o2 w2 => ⟨fun _ => k2 M2 f i (o1.rG.tr o2.rG) w2 ?_, fun z => absurd (w2.2.2.1.symm.trans z) w2.2.1⟩)
    rcases hc with hc | hc
    · exact Or.inl ⟨hc.1, hc.2, rfl⟩
    · exact Or.inr (Or.inl ⟨hc.1, hc.2.1, hc.2.2, rfl⟩)
theorem body3 (hp : tp_ok n t) (hr : 0 ≤ r ∧ r < 4) (hm : te_ok n t m) {D : Nat} {i : Int} {T M : ow_M} {K : Int → ow_M → Prop} (h : cbd A L N n t m r M i T) (k1 : ∀ M' j T', rG r M M' → csd A L N n t m r M' j T' → bd3 n t i T 0 j T' → K 0 M') (k2 : ∀ M' f j, rG r M M' → rw_ A L n t m r M' f j → bd3 n t i T f j T → K 0 M') : ow_Sp C (EM A L N) (D + 30) mX6_readRoad (0, 0) [(3, 46)] M K := by
  obtain ⟨a1, a2, a3, a4, a5, a6⟩ := h
  -- with a fault nothing more is read
  have dead2 : ∀ M1 f j x, rG r M M1 → rw_ A L n t m r M1 f j → bd3 n t i T f j T → ow_Sp C (EM A L N) (D + 29) mX6_readNumber (0, 0) [(3, 46), (0, x), (0, 8)] M1 (fun r4 N4 => (N4 46 4 ≠ 0 → K 0 N4) ∧ (N4 46 4 = 0 → ow_O (EM A L N) N4 (N4 46 1) 7 ∧ ow_Sp C (EM A L N) (D + 29) mX7_addRoad (0, 0) [(3, N4 46 1), (0, x), (0, r4)] N4 (fun r5 N5 => K 0 N5))) := fun M1 f j x o1 w1 b1 => tX6_readNumberW hr hm w1 (fun v2 M2 o2 w2 => ⟨fun _ => k2 M2 f j (o1.tr o2.rG) w2 b1, fun z => absurd (w2.2.2.1.symm.trans z) w2.2.1⟩)
  refine fX6_readRoad (num_c hr hm a1 (fun a ha b0 b1 il M1 o1 s1 => tX6_isName hm s1.1 (fun q => ?_) (fun q => ?_)) (fun v f M1 hv o1 w1 => ?_))
  · rw [s1.2.1] at q
    have i1 := s1.1.2.2.1
    rw [s1.2.1] at i1
    have il2 := (nx_lt hm i1.2 (show 0 ≤ nx n t (i + 1) by omega)).1
    refine tX6_pass hr hm s1 (fun _ => il2) (fun _ M2 o2 s2 => ?_) (fun z => absurd z (by decide))
    rw [show i + 1 + 1 = i + 2 by omega] at s2
    refine num_c hr hm s2 (fun b hb c0 c1 il3 M3 o3 s3 => ⟨fun z => absurd s3.2.2.1 z, fun _ => ?_⟩) (fun v f M3 hv o3 w3 => ⟨fun _ => k2 M3 f (i + 2) (o1.rG.tr (o2.rG.tr o3.rG)) w3 ⟨0, a, ha, Or.inr (Or.inr ⟨rfl, q, f, v, hv, Or.inl ⟨w3.2.1, rfl, rfl⟩⟩)⟩, fun z => absurd (w3.2.2.1.symm.trans z) w3.2.1⟩)
    have t2 := ((tcC.F hr a3 o1).F hr o2).F hr o3
    have ct := ti_cts a4
    rw [s3.1.1]
    refine ⟨(em_text (A := A) (L := L) (N := N) (M := M3) hr).1, tX7_addRoad hr t2.2.2.2.2.2.1 ⟨ct.2.1, by omega⟩ (fun M4 e4 => ?_)⟩
    have o4 : r2 r M3 M4 := fun c j h1 h2 h3 => by rw [e4, ow_upN (by omega), ow_upN (by omega), ow_upN (by omega)]
    refine k1 M4 (i + 3) (tst T 3 a b (tE T)) ?_ ⟨?_, ?_, tcC_road t2 ct.2.1 e4, ?_, ?_⟩ ⟨0, a, ha, Or.inr (Or.inr ⟨rfl, q, 0, b, hb, Or.inr ⟨rfl, rfl, rfl, rfl⟩⟩)⟩
    · rw [e4]; exact (((o1.rG.tr (o2.rG.tr o3.rG)).up (by omega)).up (by omega)).up (by omega)
    · have := s3.f2 hr o4
      rw [show i + 2 + 1 = i + 3 by omega] at this
      exact this
    · rw [e4, ow_upN (Or.inl (by omega)), ow_upN (Or.inl (by omega)), ow_upN (Or.inl (by omega)), o3 46 3 (by simp <;> omega) (by simp <;> omega), o2 46 3 (by simp <;> omega) (by simp <;> omega), o1 46 3 (by simp <;> omega) (by simp <;> omega)]; exact a2
    · exact ti_step a4 a6 ⟨by decide, by decide⟩ (fun z => absurd z (by decide)) (fun z => absurd z (by decide)) ⟨Int.le_refl _, a4.2.2.1.2⟩ (fun _ _ _ => rfl) (fun z => absurd z (by decide)) (fun z => absurd z (by decide)) (fun z => absurd z (by decide)) (fun z => absurd z (by decide)) (fun _ => ⟨b0, c0, c1⟩)
    · show T 0 1 ≤ i + 3
      omega
  · rw [s1.2.1] at q
    refine tX6_pass hr hm s1 (fun z => absurd rfl z) (fun z => absurd rfl z) (fun _ M2 o2 w2 => ?_)
    exact dead2 M2 1 (i + 1) _ (o1.rG.tr o2.rG) w2 ⟨0, a, ha, Or.inr (Or.inl ⟨rfl, q, rfl, rfl⟩)⟩
  · exact tX6_isName hm w1.1 (fun _ => tX6_passW hr hm w1 (dead2 M1 f i _ o1.rG w1 ⟨f, v, hv, Or.inl ⟨w1.2.1, rfl, rfl⟩⟩)) (fun _ => tX6_passW hr hm w1 (dead2 M1 f i _ o1.rG w1 ⟨f, v, hv, Or.inl ⟨w1.2.1, rfl, rfl⟩⟩))
end CLS
