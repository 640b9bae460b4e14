/-! ===== clauses and the whole text, by the class ===== -/
def dupl (T : ow_M) (s : Int) : Prop := (s = 0 ∧ T 0 4 = 1) ∨ (s = 1 ∧ T 0 7 = 1)
def clR (A L n : Int) (t : Int → Int) (i : Int) (T : ow_M) (f j : Int) (T' : ow_M) : Prop := (¬ (6 ≤ nx n t i ∧ nx n t i ≤ 9) ∧ f = 1 ∧ j = i) ∨ ∃ s, (0 ≤ s ∧ s ≤ 3) ∧ nx n t i = 6 + s ∧ ((dupl T s ∧ f = 4 ∧ j = i) ∨ (¬ dupl T s ∧ T 0 0 = 24 ∧ f = 5 ∧ j = i) ∨ (¬ dupl T s ∧ T 0 0 < 24 ∧ ∃ f1 j1 T1, bodyR A L n t s (i + 1) T f1 j1 T1 ∧ ((f1 ≠ 0 ∧ f = f1 ∧ j = j1) ∨ (f1 = 0 ∧ kx n t j1 ≠ 59 ∧ f = 1 ∧ j = j1) ∨ (f1 = 0 ∧ kx n t j1 = 59 ∧ f = 0 ∧ j = j1 + 1 ∧ T' = T1))))
def txtR (A L n : Int) (t : Int → Int) : Nat → Int → ow_M → Int → Int → ow_M → Prop
  | 0, i, T, f, _, T' => kx n t i = 0 ∧ f = 0 ∧ T' = T
  | k + 1, i, T, f, j, T' => kx n t i ≠ 0 ∧ ∃ f1 j1 T1, clR A L n t i T f1 j1 T1 ∧ ((f1 ≠ 0 ∧ f = f1 ∧ j = j1) ∨ (f1 = 0 ∧ txtR A L n t k j1 T1 f j T'))
section CLR
variable {C : ow_C} {A L N : Int} {n : Int} {t : Int → Int} {m r : Int}
theorem isN {d : Nat} {M : ow_M} {K : Int → ow_M → Prop} {i x : Int} {E : pm_E} (hm : te_ok n t m) (h : rd A L n t m r M i E) (hK : K (if nx n t i = x then 1 else 0) M) : ow_Sp C (EM A L N) d mX6_isName (0, 0) [(3, 46), (0, x)] M K := by
  have e := h.2.1
  exact tX6_isName hm h.1 (fun q => by rw [e] at q; rw [if_pos q] at hK; exact hK) (fun q => by rw [e] at q; rw [if_neg q] at hK; exact hK)
theorem tX6_readClause (hp : tp_ok n t) (hr : 0 ≤ r ∧ r < 4) (ho : em_ok A L N) (hm : te_ok n t m) {D : Nat} {i : Int} {T M : ow_M} {K : Int → ow_M → Prop} (h : csd A L N n t m r M i T) (k1 : ∀ M' j T', rG r M M' → csd A L N n t m r M' j T' → T' 0 0 = T 0 0 + 1 → clR A L n t i T 0 j T' → K 0 M') (k2 : ∀ M' f j, rG r M M' → rw_ A L n t m r M' f j → clR A L n t i T f j T → K 0 M') : ow_Sp C (EM A L N) (D + 31) mX6_readClause (0, 0) [(3, 46)] M K := by
  have h' := h
  obtain ⟨a1, a2, a3, a4, a5⟩ := h
  have m3 := hm.1
  have i0 := a1.1.2.2.1
  rw [a1.2.1] at i0
  have tx := em_text (A := A) (L := L) (N := N) (M := M) hr
  have z4 : M 46 4 = 0 := a1.2.2.1
  -- told at the first word
  have tell : ∀ f, f ≠ 0 → clR A L n t i T f i T → ow_Sp C (EM A L N) (D + 30) mX6_fail (0, 0) [(3, 46), (0, f)] M (fun _ N1 => K 0 N1) := fun f hf hc => tX6_fail hr hm a1.1 hf (fun z => absurd z4 z) (fun _ M' o w => k2 M' f i o.rG (by rw [a1.2.1] at w; exact w) hc)
  -- from the body on
  have rest : ∀ s, (0 ≤ s ∧ s ≤ 3) → nx n t i = 6 + s → ¬ dupl T s → ow_At C (EM A L N) (D + 31) mX6_readClause 86 [(0, (3, 46)), (1, (0, if s = 0 then 1 else 0)), (2, (0, if s = 1 then 1 else 0)), (3, (0, if s = 2 then 1 else 0))] [] (0, 0) M K := by
    intro s hs hn hd
    have il := (nx_lt hm i0.2 (show 0 ≤ nx n t i by omega)).1
    have c24 := a4.2.2.2.2.2.1
    refine cX6_readClause_86 ⟨fun q => ⟨⟨by omega, by omega⟩, fun N1 e1 => ?_⟩, fun q => tell 5 (by decide) (Or.inr ⟨s, hs, hn, Or.inr (Or.inl ⟨hd, by omega, rfl, rfl⟩)⟩)⟩
    have o1 : r2 r M N1 := fun c j h1 h2 h3 => by rw [e1, ow_upN (by omega)]
    have s1 := a1.f2 hr o1
    rw [s1.2.1]
    refine ⟨⟨by omega, by omega⟩, fun N2 e2 => ?_⟩
    obtain ⟨s2, o2⟩ := s1.go hr il e2
    have oG : rG r M N2 := by rw [e2, e1]; exact (rG.rf.up (Or.inl rfl)).up (Or.inl rfl)
    have t1 : tcC N1 (22 + 6 * r) T := by
      obtain ⟨b1, b2, b3, b4, b5, b6, b7, b8⟩ := a3
      have sm : ∀ c j, c ≠ 46 → N1 c j = M c j := fun c j hc => by rw [e1, ow_upN (Or.inl hc)]
      refine ⟨?_, fun q => ?_, ?_, fun q => ?_, ?_, ?_, fun x x0 x1 => ?_, fun x x0 x1 => ?_⟩
      · rw [sm _ _ (by omega)]; exact b1
      · rw [sm _ _ (by omega), sm _ _ (by omega)]; exact b2 q
      · rw [sm _ _ (by omega)]; exact b3
      · rw [sm _ _ (by omega), sm _ _ (by omega)]; exact b4 q
      · rw [sm _ _ (by omega)]; exact b5
      · rw [sm _ _ (by omega)]; exact b6
      · rw [sm _ _ (by omega), sm _ _ (by omega)]; exact b7 x x0 x1
      · rw [sm _ _ (by omega), sm _ _ (by omega)]; exact b8 x x0 x1
    have cb2 : cbd A L N n t m r N2 (i + 1) T := ⟨s2, by rw [e2, ow_upN (Or.inr (by decide)), e1, ow_upS, a2], tcC.F hr t1 o2, a4, by omega, by omega⟩
    -- the end of it
    have fin : ∀ M' j T', rG r N2 M' → csd A L N n t m r M' j T' → T' 0 0 = T 0 0 + 1 → bodyR A L n t s (i + 1) T 0 j T' → ow_At C (EM A L N) (D + 31) mX6_readClause 160 [(0, (3, 46))] [] (0, 0) M' K := by
      intro M' j T' o' c' ht hb
      obtain ⟨d1, d2, d3, d4, d5⟩ := c'
      have j0 := d1.1.2.2.1
      rw [d1.2.1] at j0
      refine cX6_readClause_160 (tX6_kind hm d1.1 ?_)
      rw [d1.2.1]
      refine ⟨fun z => cX6_readClause_175 (tX6_pass hr hm d1 (fun y => absurd rfl y) (fun y => absurd rfl y) (fun _ M3 o3 w3 => k2 M3 1 j (oG.tr (o'.tr o3.rG)) w3 (Or.inr ⟨s, hs, hn, Or.inr (Or.inr ⟨hd, by omega, 0, j, T', hb, Or.inr (Or.inl ⟨rfl, z, rfl, rfl⟩)⟩)⟩))), fun z => cX6_readClause_175 (tX6_pass hr hm d1 (fun _ => kx_lt hm j0.2 (by omega)) (fun _ M3 o3 s3 => k1 M3 (j + 1) T' (oG.tr (o'.tr o3.rG)) ⟨s3, ?_, tcC.F hr d3 o3, d4, by omega⟩ ht (Or.inr ⟨s, hs, hn, Or.inr (Or.inr ⟨hd, by omega, 0, j, T', hb, Or.inr (Or.inr ⟨rfl, z, rfl, rfl, rfl⟩)⟩)⟩)) (fun y => absurd y (by decide)))⟩
      rw [o3 46 3 (by simp <;> omega) (by simp <;> omega)]; exact d2
    have dead : ∀ M' f j T', rG r N2 M' → rw_ A L n t m r M' f j → bodyR A L n t s (i + 1) T f j T' → ow_At C (EM A L N) (D + 31) mX6_readClause 160 [(0, (3, 46))] [] (0, 0) M' K := by
      intro M' f j T' o' w hb
      have kk := k2 M' f j (oG.tr o') w (Or.inr ⟨s, hs, hn, Or.inr (Or.inr ⟨hd, by omega, f, j, T', hb, Or.inl ⟨w.2.1, rfl, rfl⟩⟩)⟩)
      exact cX6_readClause_160 (tX6_kind hm w.1 ⟨fun _ => cX6_readClause_175 (tX6_passW hr hm w kk), fun _ => cX6_readClause_175 (tX6_passW hr hm w kk)⟩)
    have e : s = 0 ∨ s = 1 ∨ s = 2 ∨ s = 3 := by omega
    rcases e with e | e | e | e
    · have h4 : T 0 4 = 0 := by
        rcases a4.1 with z | z
        · exact z
        · exact absurd (Or.inl ⟨e, z⟩) hd
      rw [if_pos e, if_neg (by omega), if_neg (by omega)]
      refine ⟨fun z => absurd z (by decide), fun _ => body0 hp hr hm cb2 h4 (fun M' j T' o' c' b' => fin M' j T' o' c' ?_ (Or.inl ⟨e, b'⟩)) (fun M' f j o' w' b' => dead M' f j T o' w' (Or.inl ⟨e, b'⟩))⟩
      obtain ⟨E', _, hE⟩ := b'
      rw [hE rfl]; rfl
    · have h7 : T 0 7 = 0 := by
        rcases a4.2.1 with z | z
        · exact z
        · exact absurd (Or.inr ⟨e, z⟩) hd
      rw [if_neg (by omega), if_pos e, if_neg (by omega)]
      refine ⟨fun _ => ⟨fun z => absurd z (by decide), fun _ => body1 hp hr hm cb2 h7 (fun M' j T' o' c' b' => fin M' j T' o' c' ?_ (Or.inr (Or.inl ⟨e, b'⟩))) (fun M' f j o' w' b' => dead M' f j T o' w' (Or.inr (Or.inl ⟨e, b'⟩)))⟩, fun z => absurd rfl z⟩
      obtain ⟨E', _, hE⟩ := b'
      rw [hE rfl]; rfl
    · rw [if_neg (by omega), if_neg (by omega), if_pos e]
      refine ⟨fun _ => ⟨fun _ => ⟨fun z => absurd z (by decide), fun _ => body2 hp hr ho hm cb2 (fun M' j T' o' c' b' => fin M' j T' o' c' ?_ (Or.inr (Or.inr (Or.inl ⟨e, b'⟩)))) (fun M' f j o' w' b' => dead M' f j T o' w' (Or.inr (Or.inr (Or.inl ⟨e, b'⟩))))⟩, fun z => absurd rfl z⟩, fun z => absurd rfl z⟩
      rcases b' with b' | b' | ⟨_, _, f1, v, _, b' | b'⟩
      · exact absurd b'.2.1 (by decide)
      · exact absurd b'.2.2.1 (by decide)
      · exact absurd b'.2.1.symm b'.1
      · rw [b'.2.2.2]; rfl
    · rw [if_neg (by omega), if_neg (by omega), if_neg (by omega)]
      refine ⟨fun _ => ⟨fun _ => ⟨fun _ => body3 hp hr hm cb2 (fun M' j T' o' c' b' => fin M' j T' o' c' ?_ (Or.inr (Or.inr (Or.inr ⟨e, b'⟩)))) (fun M' f j o' w' b' => dead M' f j T o' w' (Or.inr (Or.inr (Or.inr ⟨e, b'⟩)))), fun z => absurd rfl z⟩, fun z => absurd rfl z⟩, fun z => absurd rfl z⟩
      obtain ⟨f1, a, _, b' | b' | ⟨_, _, f2, b, _, b' | b'⟩⟩ := b'
      · exact absurd b'.2.1.symm b'.1
      · exact absurd b'.2.2.1 (by decide)
      · exact absurd b'.2.1.symm b'.1
      · rw [b'.2.2.2]; rfl
  -- the first word
  have go : ∀ s, (0 ≤ s ∧ s ≤ 3) → nx n t i = 6 + s → ow_At C (EM A L N) (D + 31) mX6_readClause 50 [(0, (3, 46)), (1, (0, if s = 0 then 1 else 0)), (2, (0, if s = 1 then 1 else 0)), (3, (0, if s = 2 then 1 else 0))] [] (0, 0) M K := by
    intro s hs hn
    have g3 : ow_gv (EM A L N) M (22 + 6 * r) 3 = T 0 4 := by rw [tx.2.2.2.1]; exact a3.1
    have g6 : ow_gv (EM A L N) M (22 + 6 * r) 6 = T 0 7 := by rw [tx.2.2.2.2.2.2.1]; exact a3.2.2.1
    have dup : dupl T s → ow_At C (EM A L N) (D + 31) mX6_readClause 78 [(0, (3, 46))] [] (0, 0) M K := fun hd => cX6_readClause_78 (tell 4 (by decide) (Or.inr ⟨s, hs, hn, Or.inl ⟨hd, rfl, rfl⟩⟩))
    have at64 : (s = 0 → T 0 4 = 0) → ow_At C (EM A L N) (D + 31) mX6_readClause 64 [(0, (3, 46)), (1, (0, if s = 0 then 1 else 0)), (2, (0, if s = 1 then 1 else 0)), (3, (0, if s = 2 then 1 else 0))] [] (0, 0) M K := by
      intro h0
      refine cX6_readClause_64 ⟨fun q => rest s hs hn (fun z => ?_), fun q => ?_⟩
      · rcases z with z | z
        · have := h0 z.1; omega
        · rw [if_pos z.1] at q; exact absurd q (by decide)
      · have s1 : s = 1 := by
          by_cases z : s = 1
          · exact z
          · rw [if_neg z] at q; exact absurd rfl q
        rw [a1.1.1, g6]
        refine ⟨tx.1, fun z => rest s hs hn (fun y => ?_), fun z => dup (Or.inr ⟨s1, ?_⟩)⟩
        · rcases y with y | y <;> omega
        · have := a4.2.1; omega
    refine cX6_readClause_50 ⟨fun q => at64 (fun z => ?_), fun q => ?_⟩
    · rw [if_pos z] at q; exact absurd q (by decide)
    · have s0 : s = 0 := by
        by_cases z : s = 0
        · exact z
        · rw [if_neg z] at q; exact absurd rfl q
      rw [a1.1.1, g3]
      exact ⟨tx.1, fun z => dup (Or.inl ⟨s0, by have := a4.1; omega⟩), fun z => at64 (fun _ => z)⟩
  refine fX6_readClause (isN hm a1 (isN hm a1 (isN hm a1 ?_)))
  by_cases n6 : nx n t i = 6
  · have g := go 0 ⟨by decide, by decide⟩ (by omega)
    rw [if_pos n6, if_neg (by omega), if_neg (by omega)]
    exact ⟨fun _ => g, fun z => absurd z (by decide)⟩
  · by_cases n7 : nx n t i = 7
    · have g := go 1 ⟨by decide, by decide⟩ (by omega)
      rw [if_neg n6, if_pos n7, if_neg (by omega)]
      exact ⟨fun z => absurd rfl z, fun _ => ⟨fun _ => g, fun z => absurd z (by decide)⟩⟩
    · by_cases n8 : nx n t i = 8
      · have g := go 2 ⟨by decide, by decide⟩ (by omega)
        rw [if_neg n6, if_neg n7, if_pos n8]
        exact ⟨fun z => absurd rfl z, fun _ => ⟨fun z => absurd rfl z, fun _ => ⟨fun _ => g, fun z => absurd z (by decide)⟩⟩⟩
      · rw [if_neg n6, if_neg n7, if_neg n8]
        refine ⟨fun z => absurd rfl z, fun _ => ⟨fun z => absurd rfl z, fun _ => ⟨fun z => absurd rfl z, fun _ => isN hm a1 ?_⟩⟩⟩
        by_cases n9 : nx n t i = 9
        · have g := go 3 ⟨by decide, by decide⟩ (by omega)
          rw [if_pos n9]
          exact ⟨fun _ => g, fun z => absurd z (by decide)⟩
        · rw [if_neg n9]
          exact ⟨fun z => absurd rfl z, fun _ => tell 1 (by decide) (Or.inl ⟨by omega, rfl, rfl⟩)⟩
end CLR
