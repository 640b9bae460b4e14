/-! ===== sums by the reference: the loop ===== -/
section RFU
variable {C : ow_C} {A L N : Int} {d : Nat} {M : ow_M} {K : Int → ow_M → Prop} {n : Int} {t : Int → Int} {m r i o : Int} {P : List Int} {E : pm_E}
theorem pm_tm {s : pm_S} (h : 3 ≤ s.1) : pm n t s = s := by
  unfold pm
  rw [if_neg (by omega), if_neg (by omega), if_neg (by omega)]
theorem pmi_tm {s : pm_S} (h : 3 ≤ s.1) : ∀ k : Nat, pmi n t k s = s := by
  intro k
  induction k with
  | zero => rfl
  | succ k ih => show pmi n t k (pm n t s) = s; rw [pm_tm h]; exact ih
theorem rch_drop {s s' tm : pm_S} (h : rch n t s tm) (ht : 3 ≤ tm.1) (h2 : rch n t s s') : rch n t s' tm := by
  obtain ⟨k, hk⟩ := h
  obtain ⟨q, hq⟩ := h2
  by_cases z : q ≤ k
  · refine ⟨k - q, ?_⟩
    rw [← hq, ← pmi_add, show q + (k - q) = k by omega]; exact hk
  · have e : pmi n t q s = tm := by
      rw [show q = k + (q - k) by omega, pmi_add, hk]; exact pmi_tm ht _
    rw [hq] at e
    rw [e]; exact rch.rf
theorem rch_end_eq {s s' tm : pm_S} (h : rch n t s tm) (ht : 3 ≤ tm.1) (h2 : rch n t s s') (hs : 3 ≤ s'.1) : s' = tm := by
  obtain ⟨k, hk⟩ := rch_drop h ht h2
  rw [pmi_tm hs] at hk
  exact hk
theorem rch_par2 {x : Int} {R : List Int} (hk : kx n t i = 41) (hx : op_ x ≠ true) (hm : 40 ∈ x :: R) : ∀ (Q : List Int) (E : pm_E), (∀ y ∈ Q, op_ y = true) → rch n t (2, Q ++ x :: R, i, o, E) (1, R, i + 1, o - 1, pes E Q) := by
  have h1 : ¬ (kx n t i = 43 ∨ kx n t i = 45) := by omega
  have h2 : ¬ (kx n t i = 42 ∨ kx n t i = 47) := by omega
  intro Q
  induction Q with
  | nil =>
    intro E _
    refine rch.st ?_
    show pm2 n t (x :: R) i o E = _
    unfold pm2
    rw [if_neg h1, if_neg h2, if_pos ⟨hk, hm⟩]
    show (if op_ x = true then _ else _) = _
    rw [if_neg hx]
    rfl
  | cons y Q ih =>
    intro E hQ
    refine rch.tr (rch.st (s' := (2, Q ++ x :: R, i, o, pe E (-8 - y))) ?_) (ih (pe E (-8 - y)) (fun z hz => hQ z (List.mem_cons_of_mem _ hz)))
    show pm2 n t (y :: (Q ++ x :: R)) i o E = _
    unfold pm2
    rw [if_neg h1, if_neg h2, if_pos ⟨hk, List.mem_cons_of_mem _ (List.mem_append_right _ hm)⟩]
    show (if op_ y = true then _ else _) = _
    rw [if_pos (hQ y List.mem_cons_self)]
/-- an operand begins -/
theorem tX12_beginOne (hp : tp_ok n t) (hm : te_ok n t m) (hr : 0 ≤ r ∧ r < 4) (h : rp n t r M i o P E) (hv : pv m i o P E) (h22 : M 83 22 = 0) (k1 : ∀ M' md P' o' E', qS r M M' → (md = 0 ∧ M' 83 22 = 0) ∨ (md = 2 ∧ M' 83 22 = 1) → rch n t (0, P, i, o, E) (md, P', i + 1, o', E') → rp n t r M' (i + 1) o' P' E' → pv m (i + 1) o' P' E' → K 0 M') (k2 : ∀ f, f ≠ 0 → rch n t (0, P, i, o, E) (4, [], i, f, E) → K f M) : ow_Sp C (EM A L N) (d + 4) mX12_beginOne (0, 0) [(3, 83)] M K := by
  have m3 := hm.1
  have lw := hv.len
  obtain ⟨v1, v2, v3, v4, v5, v6, v7⟩ := id hv
  have i0 : 0 ≤ i := by omega
  have tc := tcode_rg (kx_45 (n := n) (t := t) (i := i))
  have rf' := h.1.1
  have e12 := rf'.2.2.1
  -- one that is whole at once
  have val : ∀ v a b, i < m → a = cm_o v → b = cm_v v → pm0 n t P i o E = (1, P, i + 1, o, pe E v) → ow_Sp C (EM A L N) (d + 3) mX12_emit (0, 0) [(3, 83), (0, a), (0, b)] M (fun _ N6 => ow_Sp C (EM A L N) (d + 3) mX12_nextToken (0, 0) [(3, 83)] N6 (fun _ N7 => ow_Sp C (EM A L N) (d + 3) mX12_whole (0, 0) [(3, 83)] N7 (fun _ N8 => K 0 N8))) := by
    intro v a b il ha hb he
    refine rp_emit hr h v1 (by omega) ha hb (fun M1 q1 w1 g1 => rp_next hp g1 i0 (fun M2 q2 w2 g2 => fX12_whole (fun N3 e3 => ?_)))
    obtain ⟨g3, q3, w3⟩ := rp_w g2 e3
    refine tX12_whole hr m3.2 P o (pe E v) N3 g3 (pv_val hv il) w3 (fun M' P' o' E' q4 w4 rc g4 v4' => ?_)
    exact k1 M' 2 P' o' E' (q1.tr (q2.tr (q3.tr q4))) (Or.inr ⟨rfl, w4⟩) (rch.tr (rch.st he) (rc (i + 1))) g4 v4'
  -- one that opens
  have opn : ∀ x, (x = 2 ∨ x = 40) → i < m → (o ≠ 8 → pm0 n t P i o E = (0, x :: P, i + 1, o + 1, E)) → (o = 8 → pm0 n t P i o E = (4, [], i, 3, E)) → ow_At C (EM A L N) (d + 4) mX12_beginOne 93 [(0, (3, 83))] [(0, x)] (0, 0) M K := by
    intro x hx il h1 h2
    refine cX12_beginOne_93 ⟨fun _ => ?_, fun z => by omega⟩
    rw [h.2.1]
    refine ⟨fun q => ⟨⟨by omega, by omega⟩, fun N1 e1 => ?_⟩, fun q => k2 3 (by decide) (rch.st (h2 q))⟩
    obtain ⟨g1, q1, w1⟩ := rp_open h e1
    refine rp_push (x := x) g1 (by omega) (fun M2 q2 w2 g2 => rp_next hp g2 i0 (fun M3 q3 w3 g3 => ?_))
    exact k1 M3 0 (x :: P) (o + 1) E (q1.tr (q2.tr q3)) (Or.inl ⟨rfl, by rw [w3, w2, w1]; exact h22⟩) (rch.st (h1 q)) g3 (pv_open hv hx (by omega) il)
  refine fX12_beginOne ⟨fun q => tX12_nameOf rf' (fun v hv1 hv2 => ⟨fun z => ?_, fun z => tX12_nameOf rf' (fun v' hv1' hv2' => ?_)⟩), fun q => ?_⟩
  · have n2 : kx n t i ≠ 2 := fun y => q (by rw [e12]; exact tc.2.1.2 y)
    have nn : ¬ (0 ≤ nx n t i ∧ nx n t i < 6) := fun y => by have := hv1 y; omega
    rw [e12]
    refine ⟨fun q40 => ⟨fun q45 => cX12_beginOne_93 ⟨fun y => absurd rfl y, fun _ => k2 1 (by decide) (rch.st ?_)⟩, fun q45 => ?_⟩, fun q40 => ?_⟩
    · show pm0 n t P i o E = _
      unfold pm0
      rw [if_neg n2, if_neg nn, if_neg (fun y => q40 ((tc.2.2.2.2.2 40 (by decide) (by decide)).2 y)), if_neg (fun y => q45 ((tc.2.2.2.2.2 45 (by decide) (by decide)).2 y))]
    · have k45 := (tc.2.2.2.2.2 45 (by decide) (by decide)).1 q45
      refine opn 2 (Or.inl rfl) (kx_lt hm v3 (by omega)) (fun y => ?_) (fun y => ?_)
      · unfold pm0
        rw [if_neg n2, if_neg nn, if_neg (by omega), if_pos k45, if_neg y]
      · unfold pm0
        rw [if_neg n2, if_neg nn, if_neg (by omega), if_pos k45, if_pos y]
    · have k40 := (tc.2.2.2.2.2 40 (by decide) (by decide)).1 q40
      refine opn 40 (Or.inr rfl) (kx_lt hm v3 (by omega)) (fun y => ?_) (fun y => ?_)
      · unfold pm0
        rw [if_neg n2, if_neg nn, if_pos k40, if_neg y]
      · unfold pm0
        rw [if_neg n2, if_neg nn, if_pos k40, if_pos y]
  · have n2 : kx n t i ≠ 2 := fun y => q (by rw [e12]; exact tc.2.1.2 y)
    have yn : 0 ≤ nx n t i ∧ nx n t i < 6 := by
      by_cases y : 0 ≤ nx n t i ∧ nx n t i < 6
      · exact y
      · have := hv2 y; omega
    have ev := hv1' yn
    rw [ev]
    refine val (-1 - nx n t i) 1 (nx n t i) (nx_lt hm v3 yn.1).1 ?_ ?_ ?_
    · unfold cm_o; rw [if_neg (by omega), if_pos (by omega)]
    · unfold cm_v; rw [if_neg (by omega), if_pos (by omega)]; omega
    · unfold pm0
      rw [if_neg n2, if_pos yn]
  · have y2 : kx n t i = 2 := tc.2.1.1 (by rw [← e12]; exact q)
    have hn := rf'.2.2.2.1 y2
    have nr := kx2_rg hp y2
    have nve : nv n t i = nu n t (tk_e n t (ts n t i) - ts n t i).toNat (ts n t i) 0 := rfl
    rw [← nve] at hn
    refine ⟨fun z => ?_, fun z => k2 2 (by decide) (rch.st ?_)⟩
    · have le : nv n t i ≤ 9999 := by
        by_cases y : nv n t i ≤ 9999
        · exact y
        · have := hn.2 (by omega); omega
      rw [hn.1 le]
      refine val (nv n t i) 0 (nv n t i) (kx_lt hm v3 (by omega)) ?_ ?_ ?_
      · unfold cm_o; rw [if_pos nr.1]
      · unfold cm_v; rw [if_pos nr.1]
      · unfold pm0
        rw [if_pos y2, if_pos le]
    · have gt : ¬ nv n t i ≤ 9999 := fun y => by have := hn.1 y; omega
      show pm0 n t P i o E = _
      unfold pm0
      rw [if_pos y2, if_neg gt]
/-- behind an operand -/
theorem tX12_behindOne (hp : tp_ok n t) (hm : te_ok n t m) (hr : 0 ≤ r ∧ r < 4) (h : rp n t r M i o P E) (hv : pv m i o P E) (h22 : M 83 22 = 1) (hg : (kx n t i = 43 ∨ kx n t i = 45) ∨ (kx n t i = 42 ∨ kx n t i = 47) ∨ (kx n t i = 41 ∧ 40 ∈ P)) (k1 : ∀ M' md P' o' E', qS r M M' → (md = 0 ∧ M' 83 22 = 0) ∨ (md = 2 ∧ M' 83 22 = 1) → rch n t (2, P, i, o, E) (md, P', i + 1, o', E') → rp n t r M' (i + 1) o' P' E' → pv m (i + 1) o' P' E' → K 0 M') : ow_Sp C (EM A L N) (d + 4) mX12_behindOne (0, 0) [(3, 83)] M K := by
  have m3 := hm.1
  have lw := hv.len
  obtain ⟨v1, v2, v3, v4, v5, v6, v7⟩ := id hv
  have i0 : 0 ≤ i := by omega
  have tc := (tcode_rg (kx_45 (n := n) (t := t) (i := i))).2.2.2.2.2
  have e12 := h.1.1.2.2.1
  have il : i < m := kx_lt hm v3 (by omega)
  have t43 := tc 43 (by decide) (by decide)
  have t45 := tc 45 (by decide) (by decide)
  have t42 := tc 42 (by decide) (by decide)
  have t47 := tc 47 (by decide) (by decide)
  -- a sign is pushed
  have psh : ∀ M1 x P' E', qS r M M1 → rp n t r M1 i o P' E' → pv m (i + 1) o (x :: P') E' → rch n t (2, P, i, o, E) (0, x :: P', i + 1, o, E') → ow_Sp C (EM A L N) (d + 3) mX12_push (0, 0) [(3, 83), (0, x)] M1 (fun _ N1 => ∀ N2, N2 = ow_up N1 83 22 0 → ow_At C (EM A L N) (d + 4) mX12_behindOne 115 [(0, (3, 83))] [] (0, 0) N2 K) := by
    intro M1 x P' E' q1 g1 v' rc
    have l' := v'.len.1
    have l'' : ((x :: P').length : Int) = (P'.length : Int) + 1 := by simp
    refine rp_push (x := x) g1 (by omega) (fun M2 q2 w2 g2 N2 e2 => ?_)
    obtain ⟨g3, q3, w3⟩ := rp_w g2 e2
    refine cX12_behindOne_115 (rp_next hp g3 i0 (fun M4 q4 w4 g4 => ?_))
    exact k1 M4 0 (x :: P') o E' (q1.tr (q2.tr (q3.tr q4))) (Or.inl ⟨rfl, by rw [w4, w3]⟩) rc g4 v'
  have add : (kx n t i = 43 ∨ kx n t i = 45) → ow_At C (EM A L N) (d + 4) mX12_behindOne 17 [(0, (3, 83)), (1, (0, M 83 12))] [] (0, 0) M K := by
    intro hk
    refine cX12_behindOne_17 (ow_enter (by decide +kernel) rfl rfl (tX12_settle (m := m) hr m3.2 (Or.inl rfl) P E M h hv (fun M1 Q P' q1 w1 eP hQ hP' g1 v1' => ?_)))
    have rc := rch_add (n := n) (t := t) (P := P') (i := i) (o := o) hk (fun x R e => (hP' x R e).1 rfl) Q E (fun x hx => (hQ x hx).1)
    rw [← eP] at rc
    rw [e12]
    refine ⟨fun z => cX12_behindOne_34 ?_, fun z => cX12_behindOne_34 ?_⟩
    · have k45 : ¬ kx n t i = 43 := fun y => z (t43.2 y)
      rw [if_neg k45] at rc
      exact psh M1 4 P' _ q1 g1 (pv_add v1' ⟨by decide, by decide⟩ (fun x R e => (hP' x R e).1 rfl) il) rc
    · rw [if_pos (t43.1 z)] at rc
      exact psh M1 3 P' _ q1 g1 (pv_add v1' ⟨by decide, by decide⟩ (fun x R e => (hP' x R e).1 rfl) il) rc
  have mul : (kx n t i = 42 ∨ kx n t i = 47) → ow_At C (EM A L N) (d + 4) mX12_behindOne 57 [(0, (3, 83)), (1, (0, M 83 12))] [] (0, 0) M K := by
    intro hk
    refine cX12_behindOne_57 (ow_enter (by decide +kernel) rfl rfl (tX12_settle (m := m) hr m3.2 (Or.inr rfl) P E M h hv (fun M1 Q P' q1 w1 eP hQ hP' g1 v1' => ?_)))
    have rc := rch_mul (n := n) (t := t) (P := P') (i := i) (o := o) hk (fun x R e => (hP' x R e).2 rfl) Q E (fun x hx => (hQ x hx).2 rfl)
    rw [← eP] at rc
    rw [e12]
    refine ⟨fun z => cX12_behindOne_75 ?_, fun z => cX12_behindOne_75 ?_⟩
    · have k47 : ¬ kx n t i = 42 := fun y => z (t42.2 y)
      rw [if_neg k47] at rc
      exact psh M1 6 P' _ q1 g1 (pv_mul v1' (by decide) (fun x R e => (hP' x R e).2 rfl) il) rc
    · rw [if_pos (t42.1 z)] at rc
      exact psh M1 5 P' _ q1 g1 (pv_mul v1' (by decide) (fun x R e => (hP' x R e).2 rfl) il) rc
  refine fX12_behindOne ⟨fun q => add (Or.inl (t43.1 (by rw [← e12]; exact q))), fun q43 => ⟨fun q45 => ⟨fun q => mul (Or.inl (t42.1 (by rw [← e12]; exact q))), fun q42 => ⟨fun q47 => ?_, fun q => mul (Or.inr (t47.1 (by rw [← e12]; exact q)))⟩⟩, fun q => add (Or.inr (t45.1 (by rw [← e12]; exact q)))⟩⟩
  rw [e12] at q43 q45 q42 q47
  have k41 : kx n t i = 41 ∧ 40 ∈ P := by
    rcases hg with z | z | z
    · rcases z with z | z
      · exact absurd (t43.2 z) q43
      · exact absurd (t45.2 z) q45
    · rcases z with z | z
      · exact absurd (t42.2 z) q42
      · exact absurd (t47.2 z) q47
    · exact z
  refine ow_enter (by decide +kernel) rfl rfl (tX12_settle (m := m) hr m3.2 (Or.inl rfl) P E M h hv (fun M1 Q P' q1 w1 eP hQ hP' g1 v1' => ?_))
  have mem : 40 ∈ P' := by
    have := k41.2
    rw [eP, List.mem_append] at this
    rcases this with z | z
    · exact absurd (hQ 40 z).1 (by decide)
    · exact z
  cases P' with
  | nil => simp at mem
  | cons x R =>
    have l' := v1'.len
    have l'' : ((x :: R).length : Int) = (R.length : Int) + 1 := by simp
    have hnx := (hP' x R rfl).1 rfl
    have e20 : M1 83 20 = (R.length : Int) + 1 := by rw [g1.2.2.1]; simp
    have w7 := v1'.2.2.2.2.2.1
    refine ⟨⟨by omega, by omega⟩, fun N2 e2 => ?_⟩
    obtain ⟨g2, q2, w2, _, _⟩ := rp_pop g1 e2
    rw [g2.2.1]
    refine ⟨⟨by omega, by omega⟩, fun N3 e3 => ?_⟩
    obtain ⟨g3, q3, w3⟩ := rp_open g2 e3
    refine fX12_whole (fun N4 e4 => ?_)
    obtain ⟨g4, q4, w4⟩ := rp_w g3 e4
    have a1 := v1'.1
    have a2 := v1'.2.1
    have vR : pv m i (o - 1) R (pes E Q) := pv_out v1' hnx a1 (by omega) v3
    refine tX12_whole (i := i) hr m3.2 R (o - 1) (pes E Q) N4 g4 vR w4 (fun M5 P5 o5 E5 q5 w5 rc5 g5 v5' => ?_)
    refine cX12_behindOne_115 (rp_next hp g5 i0 (fun M6 q6 w6 g6 => ?_))
    refine k1 M6 2 P5 o5 E5 (q1.tr (q2.tr (q3.tr (q4.tr (q5.tr q6))))) (Or.inr ⟨rfl, by rw [w6]; exact w5⟩) ?_ g6 ?_
    · rw [eP]
      exact (rch_par2 k41.1 hnx mem Q E (fun y hy => (hQ y hy).1)).tr (rc5 (i + 1))
    · exact ⟨v5'.1, by have := v5'.2.1; omega, by omega, v5'.2.2.2⟩
/-- a whole sum -/
theorem tX12_summed (hp : tp_ok n t) (hm : te_ok n t m) (hr : 0 ≤ r ∧ r < 4) {f j : Int} {E' : pm_E} (h : rr n t r M i E) (ho : M 83 21 = o) (h0 : 0 ≤ E.1) (hE : E.1 ≤ i) (hi : i ≤ m) (ho8 : 0 ≤ o ∧ o ≤ 8) (hs : sumR n t i o E f j E') (hK : ∀ M', qS r M M' → rf n t M' j → (f = 0 → rr n t r M' j E' ∧ M' 83 21 = o ∧ j ≤ m) → K f M') : ow_Sp C (EM A L N) (d + 5) mX12_summed (0, 0) [(3, 83)] M K := by
  have m3 := hm.1
  -- from anywhere on the way
  have loop : ∀ (b : Nat) (md i1 o1 : Int) (P1 : List Int) (E1 : pm_E) (s : ow_M) (tm : pm_S), m - i1 < b → qS r M s → (md = 0 ∧ s 83 22 = 0) ∨ (md = 2 ∧ s 83 22 = 1) → rp n t r s i1 o1 P1 E1 → pv m i1 o1 P1 E1 → rch n t (md, P1, i1, o1, E1) tm → 3 ≤ tm.1 → (∀ j2 o2 E2 M', qS r M M' → rp n t r M' j2 o2 [] E2 → j2 ≤ m → tm = (3, [], j2, o2, E2) → K 0 M') → (∀ j2 f2 E2 M', qS r M M' → rf n t M' j2 → tm = (4, [], j2, f2, E2) → K f2 M') → ow_At C (EM A L N) (d + 5) mX12_summed 10 [(0, (3, 83))] [] (0, 0) s K := by
    intro b
    induction b with
    | zero =>
      intro md i1 o1 P1 E1 s tm hb q w g v
      have := v.2.2.1
      omega
    | succ b ih =>
      intro md i1 o1 P1 E1 s tm hb q w g v rc ht kA kB
      have lw := v.len
      have nxt : ∀ M' md' P' o' E', qS r s M' → (md' = 0 ∧ M' 83 22 = 0) ∨ (md' = 2 ∧ M' 83 22 = 1) → rch n t (md, P1, i1, o1, E1) (md', P', i1 + 1, o', E') → rp n t r M' (i1 + 1) o' P' E' → pv m (i1 + 1) o' P' E' → ow_At C (EM A L N) (d + 5) mX12_summed 42 [(0, (3, 83))] [(0, 0)] (0, 0) M' K := by
        intro M' md' P' o' E' q' w' rc' g' v'
        refine cX12_summed_42 ⟨fun _ => ih md' (i1 + 1) o' P' E' M' tm (by omega) (q.tr q') w' g' v' (rch_drop rc ht rc') ht kA kB, fun z => absurd rfl z⟩
      rcases w with ⟨w1, w2⟩ | ⟨w1, w2⟩
      · subst w1
        refine cX12_summed_10 ⟨fun _ => cX12_summed_24 ⟨fun _ => tX12_beginOne hp hm hr g v w2 nxt (fun f2 hf2 rc2 => ?_), fun z => absurd w2 z⟩, fun z => absurd w2 z⟩
        have e := rch_end_eq rc ht rc2 (by show (3 : Int) ≤ 4; decide)
        exact cX12_summed_42 ⟨fun z => absurd z hf2, fun _ => kB i1 f2 E1 s q g.1.1 e.symm⟩
      · subst w1
        have w3 : s 83 22 ≠ 0 := by omega
        refine cX12_summed_10 ⟨fun z => absurd z w3, fun _ => tX12_goesOn g lw.1 (fun hg => ⟨fun z => absurd z (by decide), fun _ => cX12_summed_24 ⟨fun z => absurd z w3, fun _ => tX12_behindOne hp hm hr g v w2 hg nxt⟩⟩) (fun h1 h2 h3 => ⟨fun _ => ?_, fun z => absurd rfl z⟩)⟩
        refine ow_enter (by decide +kernel) rfl rfl (tX12_settle (m := m) hr m3.2 (Or.inl rfl) P1 E1 s g v (fun M1 Q P' q1 w1 eP hQ hP' g1 v1' => ?_))
        have h3' : ¬ (kx n t i1 = 41 ∧ 40 ∈ P') := fun z => h3 ⟨z.1, by rw [eP]; exact List.mem_append_right _ z.2⟩
        have rc2 := rch_end (n := n) (t := t) (P := P') (i := i1) (o := o1) h1 h2 h3' (fun x R e => (hP' x R e).1 rfl) Q E1 (fun x hx => (hQ x hx).1)
        rw [← eP] at rc2
        have e20 := g1.2.2.1
        cases P' with
        | nil =>
          rw [if_pos rfl] at rc2
          have e := rch_end_eq rc ht rc2 (by show (3 : Int) ≤ 3; decide)
          exact ⟨fun _ => kA i1 o1 _ M1 (q.tr q1) g1 v.2.2.1 e.symm, fun z => by have : M1 83 20 = 0 := e20; omega⟩
        | cons x R =>
          rw [if_neg (by simp)] at rc2
          have e := rch_end_eq rc ht rc2 (by show (3 : Int) ≤ 4; decide)
          exact ⟨fun z => by have : M1 83 20 = (R.length : Int) + 1 := by rw [e20]; simp
                             omega, fun _ => kB i1 1 _ M1 (q.tr q1) g1.1.1 e.symm⟩
  refine fX12_summed (fun N1 e1 N2 e2 => ?_)
  have s12 : ∀ c x, ¬ (c = 83 ∧ (x = 20 ∨ x = 22)) → N2 c x = M c x := fun c x z => by rw [e2, ow_upN (by omega), e1, ow_upN (by omega)]
  have g2 : rp n t r N2 i o [] E := ⟨h.fr (fun x hx => s12 _ _ (by omega)) (fun x => s12 _ _ (by omega)) (fun x => s12 _ _ (by omega)), by rw [s12 _ _ (by omega)]; exact ho, by rw [e2, ow_upN (Or.inr (by decide)), e1, ow_upS]; rfl, True.intro⟩
  have q2 : qS r M N2 := fun c x z1 z2 z3 => s12 c x (by omega)
  have v2 : pv m i o [] E := ⟨h0, by show E.1 + 0 ≤ i; omega, hi, True.intro, by show (0 : Int) ≤ o; omega, ho8.2, fun x hx => by simp at hx⟩
  have w2 : N2 83 22 = 0 := by rw [e2, ow_upS]
  rcases hs with ⟨hf, hs, _⟩ | ⟨hf, hs⟩
  · refine loop ((m - i).toNat + 1) 0 i o [] E N2 _ (by omega) q2 (Or.inl ⟨rfl, w2⟩) g2 v2 hs (by show (3 : Int) ≤ 3; decide) (fun j2 o2 E2 M' q' g' jm e' => ?_) (fun j2 f2 E2 M' q' g' e' => ?_)
    · injection e' with _ e'
      injection e' with _ e'
      injection e' with ej e'
      injection e' with eo eE
      subst ej; subst eo; subst eE; subst hf
      exact hK M' q' g'.1.1 (fun _ => ⟨g'.1, g'.2.1, jm⟩)
    · injection e' with e' _
      exact absurd e' (by decide)
  · refine loop ((m - i).toNat + 1) 0 i o [] E N2 _ (by omega) q2 (Or.inl ⟨rfl, w2⟩) g2 v2 hs (by show (3 : Int) ≤ 4; decide) (fun j2 o2 E2 M' q' g' jm e' => ?_) (fun j2 f2 E2 M' q' g' e' => ?_)
    · injection e' with e' _
      exact absurd e' (by decide)
    · injection e' with _ e'
      injection e' with _ e'
      injection e' with ej e'
      injection e' with ef eE
      subst ej; subst ef
      exact hK M' q' g' (fun z => absurd z hf)
end RFU
