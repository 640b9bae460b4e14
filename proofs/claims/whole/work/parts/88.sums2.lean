/-! ===== operands, products, sums by the class ===== -/
def OneP (C : ow_C) (A L N n : Int) (t : Int → Int) (m r : Int) (D : Nat) (o : Int) : Prop := ∀ (P : List Int) (i : Int) (E : pm_E) (M : ow_M) (K : Int → ow_M → Prop), rd A L n t m r M i E → 0 ≤ E.1 → E.1 ≤ i → (∀ M' j E', rF r M M' → rd A L n t m r M' j E' → rch n t (0, P, i, o, E) (1, P, j, o, E') → gr m i E j E' → K 0 M') → (∀ M' f j E', rF r M M' → rw_ A L n t m r M' f j → rch n t (0, P, i, o, E) (4, [], j, f, E') → K 0 M') → ow_Sp C (EM A L N) D mX6_readOne (0, 0) [(3, 46), (0, o)] M K
def ProdP (C : ow_C) (A L N n : Int) (t : Int → Int) (m r : Int) (D : Nat) (o : Int) : Prop := ∀ (P : List Int) (i : Int) (E : pm_E) (M : ow_M) (K : Int → ow_M → Prop), (∀ x Q, P = x :: Q → x ≠ 2 ∧ mu_ x ≠ true) → rd A L n t m r M i E → 0 ≤ E.1 → E.1 ≤ i → (∀ M' j Q X, rF r M M' → rd A L n t m r M' j (pes X Q) → rch n t (0, P, i, o, E) (2, Q ++ P, j, o, X) → (∀ x ∈ Q, mu_ x = true) → ¬ (kx n t j = 42 ∨ kx n t j = 47) → gr m i E j (pes X Q) → K 0 M') → (∀ M' f j E', rF r M M' → rw_ A L n t m r M' f j → rch n t (0, P, i, o, E) (4, [], j, f, E') → K 0 M') → ow_Sp C (EM A L N) D mX6_readProduct (0, 0) [(3, 46), (0, o)] M K
def SumP (C : ow_C) (A L N n : Int) (t : Int → Int) (m r : Int) (D : Nat) (o : Int) : Prop := ∀ (P : List Int) (i : Int) (E : pm_E) (M : ow_M) (K : Int → ow_M → Prop), (∀ x Q, P = x :: Q → x ≠ 2 ∧ op_ x ≠ true) → rd A L n t m r M i E → 0 ≤ E.1 → E.1 ≤ i → (∀ M' j Q X, rF r M M' → rd A L n t m r M' j (pes X Q) → rch n t (0, P, i, o, E) (2, Q ++ P, j, o, X) → (∀ x ∈ Q, op_ x = true) → ¬ (kx n t j = 42 ∨ kx n t j = 47) → ¬ (kx n t j = 43 ∨ kx n t j = 45) → gr m i E j (pes X Q) → K 0 M') → (∀ M' f j E', rF r M M' → rw_ A L n t m r M' f j → rch n t (0, P, i, o, E) (4, [], j, f, E') → K 0 M') → ow_Sp C (EM A L N) D mX6_readSum (0, 0) [(3, 46), (0, o)] M K
section SM2
variable {C : ow_C} {A L N : Int} {n : Int} {t : Int → Int} {m r : Int}
/-- with a fault nothing more is read -/
theorem oneW {D : Nat} {M : ow_M} {K : Int → ow_M → Prop} {f j o : Int} (h : rw_ A L n t m r M f j) (hK : K 0 M) : ow_Sp C (EM A L N) (D + 1) mX6_readOne (0, 0) [(3, 46), (0, o)] M K := fX6_readOne ⟨fun z => absurd (h.2.2.1.symm.trans z) h.2.1, fun _ => hK⟩
theorem prodW {D : Nat} {M : ow_M} {K : Int → ow_M → Prop} {f j o : Int} (h : rw_ A L n t m r M f j) (hK : K 0 M) : ow_Sp C (EM A L N) (D + 2) mX6_readProduct (0, 0) [(3, 46), (0, o)] M K := fX6_readProduct (oneW h (cX6_readProduct_7 ⟨fun _ => hK, fun _ => ⟨fun _ => hK, fun z => absurd (h.2.2.1.symm.trans z) h.2.1⟩⟩))
theorem sumW {D : Nat} {M : ow_M} {K : Int → ow_M → Prop} {f j o : Int} (h : rw_ A L n t m r M f j) (hK : K 0 M) : ow_Sp C (EM A L N) (D + 3) mX6_readSum (0, 0) [(3, 46), (0, o)] M K := fX6_readSum (prodW h (cX6_readSum_7 ⟨fun _ => hK, fun _ => ⟨fun _ => hK, fun z => absurd (h.2.2.1.symm.trans z) h.2.1⟩⟩))
theorem rw_F {M M' : ow_M} {f j : Int} (h : rd0 A L n t m r M) : M 46 1 = 22 + 6 * r := h.1
theorem prodOf {D : Nat} {o : Int} (hr : 0 ≤ r ∧ r < 4) (hm : te_ok n t m) (h1 : OneP C A L N n t m r (D + 1) o) : ProdP C A L N n t m r (D + 2) o := by
  intro P i E M K hP h h0 hE k1 k2
  have m3 := hm.1
  -- behind an operand
  have loop : ∀ (f : Nat) (j l : Int) (Q : List Int) (X : pm_E) (s : ow_M), m - j ≤ f → (0 ≤ l ∧ l ≤ j) → rF r M s → rd A L n t m r s j (pes X Q) → rch n t (0, P, i, o, E) (2, Q ++ P, j, o, X) → (∀ x ∈ Q, mu_ x = true) → gr m i E j (pes X Q) → ow_At C (EM A L N) (D + 2) mX6_readProduct 7 [(0, (3, 46)), (1, (0, o)), (2, (0, l))] [] (0, 0) s K := by
    intro f
    induction f with
    | zero =>
      intro j l Q X s hf hl os hs rc hQ g
      have jm : j = m := by have := g.2.1; omega
      have kz : kx n t j = 0 := by rw [jm]; exact kx_end hm
      have done := k1 s j Q X os hs rc hQ (by omega) g
      refine cX6_readProduct_7 ⟨fun _ => done, fun _ => ⟨fun _ => done, fun _ => tX6_kind hm hs.1 ?_⟩⟩
      rw [hs.2.1, kz]
      refine ⟨fun z => absurd z (by decide), fun _ => tX6_kind hm hs.1 ?_⟩
      rw [hs.2.1, kz]
      exact ⟨fun _ => done, fun z => absurd z (by decide)⟩
    | succ f ih =>
      intro j l Q X s hf hl os hs rc hQ g
      have jm := g.2.1
      -- one more
      have more : ∀ x c, (kx n t j = 42 ∨ kx n t j = 47) → x = (if kx n t j = 42 then (5 : Int) else 6) → c = -8 - x → ow_At C (EM A L N) (D + 2) mX6_readProduct 55 [(0, (3, 46)), (1, (0, o)), (2, (0, l))] [(0, c)] (0, 0) s K := by
        intro x c hk hx hc
        have il := kx_lt hm jm (show kx n t j ≠ 0 by omega)
        have hxm : mu_ x = true := by rw [hx]; split <;> decide
        have hx2 : x ≠ 2 := by rw [hx]; split <;> decide
        refine cX6_readProduct_55 ?_
        rw [hs.2.1]
        refine ⟨⟨by omega, by omega⟩, fun N1 e1 => ?_⟩
        obtain ⟨s1, o1⟩ := hs.go hr il e1
        have rc1 := rch_mul (n := n) (t := t) (P := P) (i := j) (o := o) hk (fun y R e => (hP y R e).2) Q X hQ
        rw [← hx] at rc1
        have ge := g.2.2.1
        have gl := g.2.2.2.1
        refine h1 (x :: P) (j + 1) (pes X Q) N1 _ s1 (by omega) (by omega) (fun M2 j2 E2 o2 s2 rc2 g2 => ?_) (fun M2 f2 j2 E2 o2 w2 rc2 => ?_)
        · have g3 := gr_op g g2 (op_mu hxm)
          have gm := g3.2.1
          have ge2 := g3.2.2.1
          have e2' : (pe E2 (-8 - x)).1 = E2.1 + 1 := rfl
          rw [s2.1.1]
          refine ⟨(em_text (A := A) (L := L) (N := N) (M := M2) hr).1, rd_emit hr s2 (by omega) (by have := of_decide_eq_true hxm; omega) (fun M3 o3 s3 => ⟨⟨by omega, by omega⟩, ih j2 (l + 1) [x] E2 M3 ?_ ?_ (os.tr (o1.tr (o2.tr o3))) ?_ ?_ ?_ ?_⟩)⟩
          · have := g2.1; omega
          · have := g2.1; omega
          · rw [hc] at s3; exact s3
          · refine rc.tr (rc1.tr (rc2.tr (rch.st ?_)))
            show pm1 (x :: P) j2 o E2 = _
            unfold pm1
            show (if x = 2 then _ else _) = _
            rw [if_neg hx2]; rfl
          · intro y hy; simp only [List.mem_singleton] at hy; rw [hy]; exact hxm
          · exact g3
        · rw [w2.1.1]
          refine ⟨(em_text (A := A) (L := L) (N := N) (M := M2) hr).1, rw_emit hr w2 (fun M3 o3 w3 => ⟨⟨by omega, by omega⟩, ?_⟩)⟩
          have kk := k2 M3 f2 j2 E2 (os.tr (o1.tr (o2.tr o3))) w3 (rc.tr (rc1.tr rc2))
          exact cX6_readProduct_7 ⟨fun _ => kk, fun _ => ⟨fun _ => kk, fun z => absurd (w3.2.2.1.symm.trans z) w3.2.1⟩⟩
      have more2 : (kx n t j = 42 ∨ kx n t j = 47) → ow_At C (EM A L N) (D + 2) mX6_readProduct 39 [(0, (3, 46)), (1, (0, o)), (2, (0, l))] [] (0, 0) s K := by
        intro hk
        refine cX6_readProduct_39 (tX6_kind hm hs.1 ?_)
        rw [hs.2.1]
        exact ⟨fun z => more 6 (-14) hk (by rw [if_neg z]) (by decide), fun z => more 5 (-13) hk (by rw [if_pos z]) (by decide)⟩
      refine cX6_readProduct_7 ⟨fun q => ?_, fun q => ⟨fun z => absurd hs.2.2.1 z, fun _ => tX6_kind hm hs.1 ?_⟩⟩
      · have jm' : j = m := by omega
        have kz : kx n t j = 0 := by rw [jm']; exact kx_end hm
        exact k1 s j Q X os hs rc hQ (by omega) g
      · rw [hs.2.1]
        refine ⟨fun z => more2 (Or.inl z), fun z => tX6_kind hm hs.1 ?_⟩
        rw [hs.2.1]
        exact ⟨fun z2 => k1 s j Q X os hs rc hQ (by omega) g, fun z2 => more2 (Or.inr z2)⟩
  refine fX6_readProduct (h1 P i E M _ h h0 hE (fun M2 j2 E2 o2 s2 rc2 g2 => ?_) (fun M2 f2 j2 E2 o2 w2 rc2 => ?_))
  · have gj := g2.1
    have i0 := h.1.2.2.1.1
    rw [h.2.1] at i0
    refine loop (m - j2).toNat j2 0 [] E2 M2 (by omega) ⟨by omega, by omega⟩ o2 s2 (rc2.tr (rch.st ?_)) (fun x hx => by simp at hx) g2
    show pm1 P j2 o E2 = (2, P, j2, o, E2)
    unfold pm1
    cases P with
    | nil => rfl
    | cons x R =>
      show (if x = 2 then _ else _) = _
      rw [if_neg (hP x R rfl).1]
  · have kk := k2 M2 f2 j2 E2 o2 w2 rc2
    exact cX6_readProduct_7 ⟨fun _ => kk, fun _ => ⟨fun _ => kk, fun z => absurd (w2.2.2.1.symm.trans z) w2.2.1⟩⟩
theorem sumOf {D : Nat} {o : Int} (hr : 0 ≤ r ∧ r < 4) (hm : te_ok n t m) (h1 : ProdP C A L N n t m r (D + 2) o) : SumP C A L N n t m r (D + 3) o := by
  intro P i E M K hP h h0 hE k1 k2
  have m3 := hm.1
  have hPm : ∀ x Q, P = x :: Q → x ≠ 2 ∧ mu_ x ≠ true := fun x Q e => ⟨(hP x Q e).1, fun z => (hP x Q e).2 (op_mu z)⟩
  have loop : ∀ (f : Nat) (j l : Int) (Q : List Int) (X : pm_E) (s : ow_M), m - j ≤ f → (0 ≤ l ∧ l ≤ j) → rF r M s → rd A L n t m r s j (pes X Q) → rch n t (0, P, i, o, E) (2, Q ++ P, j, o, X) → (∀ x ∈ Q, op_ x = true) → ¬ (kx n t j = 42 ∨ kx n t j = 47) → gr m i E j (pes X Q) → ow_At C (EM A L N) (D + 3) mX6_readSum 7 [(0, (3, 46)), (1, (0, o)), (2, (0, l))] [] (0, 0) s K := by
    intro f
    induction f with
    | zero =>
      intro j l Q X s hf hl os hs rc hQ hnm g
      have jm : j = m := by have := g.2.1; omega
      have kz : kx n t j = 0 := by rw [jm]; exact kx_end hm
      have done := k1 s j Q X os hs rc hQ hnm (by omega) g
      refine cX6_readSum_7 ⟨fun _ => done, fun _ => ⟨fun _ => done, fun _ => tX6_kind hm hs.1 ?_⟩⟩
      rw [hs.2.1, kz]
      refine ⟨fun z => absurd z (by decide), fun _ => tX6_kind hm hs.1 ?_⟩
      rw [hs.2.1, kz]
      exact ⟨fun _ => done, fun z => absurd z (by decide)⟩
    | succ f ih =>
      intro j l Q X s hf hl os hs rc hQ hnm g
      have jm := g.2.1
      have more : ∀ x c, (kx n t j = 43 ∨ kx n t j = 45) → x = (if kx n t j = 43 then (3 : Int) else 4) → c = -8 - x → ow_At C (EM A L N) (D + 3) mX6_readSum 55 [(0, (3, 46)), (1, (0, o)), (2, (0, l))] [(0, c)] (0, 0) s K := by
        intro x c hk hx hc
        have il := kx_lt hm jm (show kx n t j ≠ 0 by omega)
        have hxo : op_ x = true := by rw [hx]; split <;> decide
        have hxm : mu_ x ≠ true := by rw [hx]; split <;> decide
        have hx2 : x ≠ 2 := by rw [hx]; split <;> decide
        refine cX6_readSum_55 ?_
        rw [hs.2.1]
        refine ⟨⟨by omega, by omega⟩, fun N1 e1 => ?_⟩
        obtain ⟨s1, o1⟩ := hs.go hr il e1
        have rc1 := rch_add (n := n) (t := t) (P := P) (i := j) (o := o) hk (fun y R e => (hP y R e).2) Q X hQ
        rw [← hx] at rc1
        have ge := g.2.2.1
        have gl := g.2.2.2.1
        refine h1 (x :: P) (j + 1) (pes X Q) N1 _ (fun y R e => by cases e; exact ⟨hx2, hxm⟩) s1 (by omega) (by omega) (fun M2 j2 Q2 X2 o2 s2 rc2 q2 nm2 g2 => ?_) (fun M2 f2 j2 E2 o2 w2 rc2 => ?_)
        · have g3 := gr_op g g2 hxo
          have gm := g3.2.1
          have ge2 := g3.2.2.1
          have e2' : (pe (pes X2 Q2) (-8 - x)).1 = (pes X2 Q2).1 + 1 := rfl
          have es : pes X2 (Q2 ++ [x]) = pe (pes X2 Q2) (-8 - x) := pes_snoc Q2 X2
          rw [s2.1.1]
          refine ⟨(em_text (A := A) (L := L) (N := N) (M := M2) hr).1, rd_emit hr s2 (by omega) (by have := of_decide_eq_true hxo; omega) (fun M3 o3 s3 => ⟨⟨by omega, by omega⟩, ih j2 (l + 1) (Q2 ++ [x]) X2 M3 ?_ ?_ (os.tr (o1.tr (o2.tr o3))) ?_ ?_ ?_ nm2 ?_⟩)⟩
          · have := g2.1; omega
          · have := g2.1; omega
          · rw [es, ← hc]; exact s3
          · rw [List.append_assoc]; exact rc.tr (rc1.tr rc2)
          · intro y hy
            rw [List.mem_append, List.mem_singleton] at hy
            rcases hy with hy | hy
            · exact op_mu (q2 y hy)
            · rw [hy]; exact hxo
          · rw [es]; exact g3
        · rw [w2.1.1]
          refine ⟨(em_text (A := A) (L := L) (N := N) (M := M2) hr).1, rw_emit hr w2 (fun M3 o3 w3 => ⟨⟨by omega, by omega⟩, ?_⟩)⟩
          have kk := k2 M3 f2 j2 E2 (os.tr (o1.tr (o2.tr o3))) w3 (rc.tr (rc1.tr rc2))
          exact cX6_readSum_7 ⟨fun _ => kk, fun _ => ⟨fun _ => kk, fun z => absurd (w3.2.2.1.symm.trans z) w3.2.1⟩⟩
      have more2 : (kx n t j = 43 ∨ kx n t j = 45) → ow_At C (EM A L N) (D + 3) mX6_readSum 39 [(0, (3, 46)), (1, (0, o)), (2, (0, l))] [] (0, 0) s K := by
        intro hk
        refine cX6_readSum_39 (tX6_kind hm hs.1 ?_)
        rw [hs.2.1]
        exact ⟨fun z => more 4 (-12) hk (by rw [if_neg z]) (by decide), fun z => more 3 (-11) hk (by rw [if_pos z]) (by decide)⟩
      refine cX6_readSum_7 ⟨fun q => ?_, fun q => ⟨fun z => absurd hs.2.2.1 z, fun _ => tX6_kind hm hs.1 ?_⟩⟩
      · have jm' : j = m := by omega
        have kz : kx n t j = 0 := by rw [jm']; exact kx_end hm
        exact k1 s j Q X os hs rc hQ hnm (by omega) g
      · rw [hs.2.1]
        refine ⟨fun z => more2 (Or.inl z), fun z => tX6_kind hm hs.1 ?_⟩
        rw [hs.2.1]
        exact ⟨fun z2 => k1 s j Q X os hs rc hQ hnm (by omega) g, fun z2 => more2 (Or.inr z2)⟩
  refine fX6_readSum (h1 P i E M _ hPm h h0 hE (fun M2 j2 Q2 X2 o2 s2 rc2 q2 nm2 g2 => ?_) (fun M2 f2 j2 E2 o2 w2 rc2 => ?_))
  · have gj := g2.1
    have i0 := h.1.2.2.1.1
    rw [h.2.1] at i0
    exact loop (m - j2).toNat j2 0 Q2 X2 M2 (by omega) ⟨by omega, by omega⟩ o2 s2 rc2 (fun x hx => op_mu (q2 x hx)) nm2 g2
  · have kk := k2 M2 f2 j2 E2 o2 w2 rc2
    exact cX6_readSum_7 ⟨fun _ => kk, fun _ => ⟨fun _ => kk, fun z => absurd (w2.2.2.1.symm.trans z) w2.2.1⟩⟩
theorem oneOf {D : Nat} {o : Int} (hp : tp_ok n t) (hr : 0 ≤ r ∧ r < 4) (hm : te_ok n t m) (ho : 0 ≤ o ∧ o ≤ 8) (h1 : o < 8 → SumP C A L N n t m r (D + 1) (o + 1)) (h2 : o < 8 → OneP C A L N n t m r (D + 1) (o + 1)) : OneP C A L N n t m r (D + 2) o := by
  intro P i E M K h h0 hE k1 k2
  have m3 := hm.1
  have e2 := h.2.1
  have i0 := h.1.2.2.1
  rw [e2] at i0
  have t1 : ∀ {M' : ow_M}, ow_O (EM A L N) M' (22 + 6 * r) 7 := fun {M'} => (em_text (A := A) (L := L) (N := N) (M := M') hr).1
  refine fX6_readOne ⟨fun _ => tX6_kind hm h.1 ?_, fun z => absurd h.2.2.1 z⟩
  rw [e2]
  refine ⟨fun n2 => tX6_kind hm h.1 ?_, fun y2 => ?_⟩
  · rw [e2]
    refine ⟨fun n40 => tX6_kind hm h.1 ?_, fun y40 => ?_⟩
    · rw [e2]
      refine ⟨fun n45 => ?_, fun y45 => ?_⟩
      · -- a name
        by_cases hmx : i = m
        · have nn : nx n t i = -1 := nx_no (by rw [hmx, kx_end hm]; decide)
          have pmz : pm n t (0, P, i, o, E) = (4, [], i, 1, E) := by
            show pm0 n t P i o E = _
            unfold pm0
            rw [if_neg n2, if_neg (by omega), if_neg n40, if_neg n45]
          by_cases h3 : E.1 < 300
          · exact tX6_readName hr hm h h0 h3 (fun z => by omega) (fun _ M2 o2 w2 => k2 M2 1 i E o2 w2 (rch.st pmz))
          · -- codes are full: it is no name
            have z4 : M 46 4 = 0 := h.2.2.1
            refine fX6_readName ?_
            have ev : M 56 i = nx n t i := (h.1.2.1.2 i i0.1 i0.2).2.2.1
            rw [e2, h.1.2.1.1, ev, nn]
            refine ⟨fun q => by omega, fun _ => ⟨fun q => by omega, fun _ => ⟨⟨by omega, by omega⟩, cX6_readName_37 ⟨fun _ => cX6_readName_93 (tX6_fail hr hm h.1 (by decide) (fun z => absurd z4 z) (fun _ M2 o2 w2 => k2 M2 1 i E o2 (by rw [e2] at w2; exact w2) (rch.st pmz))), fun z => absurd z (by decide)⟩⟩⟩⟩
        · refine tX6_readName hr hm h h0 (by omega) (fun z0 z1 M2 o2 s2 => k1 M2 (i + 1) _ o2 s2 (rch.st ?_) (gr_val (by omega) (Or.inr ⟨by omega, by omega⟩))) (fun z M2 o2 w2 => k2 M2 1 i E o2 w2 (rch.st ?_))
          · show pm0 n t P i o E = _
            unfold pm0
            rw [if_neg n2, if_pos ⟨z0, z1⟩]
          · show pm0 n t P i o E = _
            unfold pm0
            rw [if_neg n2, if_neg z, if_neg n40, if_neg n45]
      · -- minus
        have il := kx_lt hm i0.2 (show kx n t i ≠ 0 by omega)
        have nn : nx n t i = -1 := nx_no (by omega)
        refine tX6_opensOneMore hr hm h il (fun lt M2 o2 s2 => ⟨fun z => absurd z (by decide), fun _ => ⟨⟨by omega, by omega⟩, ?_⟩⟩) (fun ge M2 o2 w2 => ⟨fun _ => k2 M2 3 i E o2 w2 (rch.st ?_), fun z => absurd rfl z⟩)
        · have rc1 : rch n t (0, P, i, o, E) (0, 2 :: P, i + 1, o + 1, E) := by
            refine rch.st ?_
            show pm0 n t P i o E = _
            unfold pm0
            rw [if_neg n2, if_neg (by omega), if_neg n40, if_pos y45, if_neg (by omega)]
          refine h2 lt (2 :: P) (i + 1) E M2 _ s2 h0 (by omega) (fun M3 j3 E3 o3 s3 rc3 g3 => ?_) (fun M3 f3 j3 E3 o3 w3 rc3 => ?_)
          · have g4 := gr_min g3
            have gm := g4.2.1
            have ge2 := g4.2.2.1
            have e2' : (pe E3 (-23)).1 = E3.1 + 1 := rfl
            rw [s3.1.1]
            refine ⟨t1, rd_emit hr s3 (by omega) (by decide) (fun M4 o4 s4 => k1 M4 j3 _ (o2.tr (o3.tr o4)) s4 (rc1.tr (rc3.tr (rch.st ?_))) g4)⟩
            show pm1 (2 :: P) j3 (o + 1) E3 = _
            unfold pm1
            show (if (2 : Int) = 2 then _ else _) = _
            rw [if_pos rfl, show o + 1 - 1 = o by omega]
          · rw [w3.1.1]
            exact ⟨t1, rw_emit hr w3 (fun M4 o4 w4 => k2 M4 f3 j3 E3 (o2.tr (o3.tr o4)) w4 (rc1.tr rc3))⟩
        · show pm0 n t P i o E = _
          unfold pm0
          rw [if_neg n2, if_neg (by omega), if_neg n40, if_pos y45, if_pos (by omega)]
    · -- a parenthesis
      have il := kx_lt hm i0.2 (show kx n t i ≠ 0 by omega)
      have nn : nx n t i = -1 := nx_no (by omega)
      refine tX6_opensOneMore hr hm h il (fun lt M2 o2 s2 => ⟨fun z => absurd z (by decide), fun _ => ⟨⟨by omega, by omega⟩, ?_⟩⟩) (fun ge M2 o2 w2 => ⟨fun _ => k2 M2 3 i E o2 w2 (rch.st ?_), fun z => absurd rfl z⟩)
      · have rc1 : rch n t (0, P, i, o, E) (0, 40 :: P, i + 1, o + 1, E) := by
          refine rch.st ?_
          show pm0 n t P i o E = _
          unfold pm0
          rw [if_neg n2, if_neg (by omega), if_pos y40, if_neg (by omega)]
        refine h1 lt (40 :: P) (i + 1) E M2 _ (fun y R e => by cases e; exact ⟨by decide, by decide⟩) s2 h0 (by omega) (fun M3 j3 Q3 X3 o3 s3 rc3 q3 nm3 na3 g3 => tX6_kind hm s3.1 ?_) (fun M3 f3 j3 E3 o3 w3 rc3 => tX6_kind hm w3.1 ?_)
        · rw [s3.2.1]
          have gm := g3.2.1
          refine ⟨fun z => cX6_readOne_73 (tX6_pass hr hm s3 (fun y => absurd rfl y) (fun y => absurd rfl y) (fun _ M4 o4 w4 => k2 M4 1 j3 (pes X3 Q3) (o2.tr (o3.tr o4)) w4 (rc1.tr (rc3.tr ?_)))), fun z => cX6_readOne_73 (tX6_pass hr hm s3 (fun _ => kx_lt hm gm (by omega)) (fun _ M4 o4 s4 => k1 M4 (j3 + 1) _ (o2.tr (o3.tr o4)) s4 (rc1.tr (rc3.tr ?_)) (gr_in (gr_end g3 (by omega) (by have := kx_lt hm gm (show kx n t j3 ≠ 0 by omega); omega)) (by omega))) (fun y => absurd y (by decide)))⟩
          · have := rch_end (n := n) (t := t) (P := 40 :: P) (i := j3) (o := o + 1) na3 nm3 (fun y => z y.1) (fun y R e => by cases e; decide) Q3 X3 q3
            rw [if_neg (by simp)] at this
            exact this
          · have := rch_par (n := n) (t := t) (P := P) (i := j3) (o := o + 1) z Q3 X3 q3
            rw [show o + 1 - 1 = o by omega] at this
            exact this
        · have kk := k2 M3 f3 j3 E3 (o2.tr o3) w3 (rc1.tr rc3)
          exact ⟨fun _ => cX6_readOne_73 (tX6_passW hr hm w3 kk), fun _ => cX6_readOne_73 (tX6_passW hr hm w3 kk)⟩
      · show pm0 n t P i o E = _
        unfold pm0
        rw [if_neg n2, if_neg (by omega), if_pos y40, if_pos (by omega)]
  · -- a number
    have il := kx_lt hm i0.2 (show kx n t i ≠ 0 by omega)
    have nr := kx2_rg hp y2
    rw [h.1.1]
    refine tX6_readNumber hr hm h (fun _ z0 z1 M2 o2 s2 => ⟨t1, rd_emit hr s2 (by omega) (by omega) (fun M3 o3 s3 => k1 M3 (i + 1) _ (o2.tr o3) s3 (rch.st ?_) (gr_val il (Or.inl ⟨z0, z1⟩)))⟩) (fun v f M2 hc o2 w2 => ⟨t1, rw_emit hr w2 (fun M3 o3 w3 => k2 M3 f i E (o2.tr o3) w3 (rch.st ?_))⟩)
    · show pm0 n t P i o E = _
      unfold pm0
      rw [if_pos y2, if_pos z1]
    · rcases hc with hc | ⟨_, hf, hc⟩
      · exact absurd y2 hc.1
      · show pm0 n t P i o E = _
        unfold pm0
        rw [if_pos y2, if_neg (by omega), hf]
/-- all of them, by how many may still be opened -/
theorem tX6_sums (hp : tp_ok n t) (hr : 0 ≤ r ∧ r < 4) (hm : te_ok n t m) : ∀ (k D : Nat) (o : Int), o = 8 - k → 0 ≤ o → OneP C A L N n t m r (D + 3 * k + 2) o ∧ ProdP C A L N n t m r (D + 3 * k + 3) o ∧ SumP C A L N n t m r (D + 3 * k + 4) o := by
  intro k
  induction k with
  | zero =>
    intro D o ho h0
    have one : OneP C A L N n t m r (D + 3 * 0 + 2) o := oneOf hp hr hm ⟨h0, by omega⟩ (fun z => by omega) (fun z => by omega)
    have prod := prodOf (D := D + 1) hr hm one
    exact ⟨one, prod, sumOf (D := D + 1) hr hm prod⟩
  | succ k ih =>
    intro D o ho h0
    obtain ⟨i1, i2, i3⟩ := ih D (o + 1) (by omega) (by omega)
    obtain ⟨j1, _, _⟩ := ih (D + 2) (o + 1) (by omega) (by omega)
    have one : OneP C A L N n t m r (D + 3 * (k + 1) + 2) o := by
      have e : D + 3 * (k + 1) + 2 = (D + 3 * k + 3) + 2 := by omega
      rw [e]
      refine oneOf hp hr hm ⟨h0, by omega⟩ (fun _ => i3) (fun _ => ?_)
      rw [show D + 3 * k + 3 + 1 = D + 2 + 3 * k + 2 by omega]
      exact j1
    have prod := prodOf (D := D + 3 * (k + 1) + 1) hr hm one
    exact ⟨one, prod, sumOf (D := D + 3 * (k + 1) + 1) hr hm prod⟩
end SM2
