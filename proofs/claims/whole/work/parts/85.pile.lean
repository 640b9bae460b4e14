/-! ===== the pile machine ===== -/
abbrev pm_E : Type := Int × (Int → Int)
abbrev pm_S : Type := Int × List Int × Int × Int × pm_E
def pe (E : pm_E) (v : Int) : pm_E := (E.1 + 1, bk_put E.2 E.1 v)
def pes (E : pm_E) : List Int → pm_E
  | [] => E
  | x :: Q => pes (pe E (-8 - x)) Q
def nv (n : Int) (t : Int → Int) (i : Int) : Int := nu n t (tk_e n t (ts n t i) - ts n t i).toNat (ts n t i) 0
def op_ (x : Int) : Bool := decide (3 ≤ x ∧ x ≤ 6)
def mu_ (x : Int) : Bool := decide (5 ≤ x ∧ x ≤ 6)
/-- behind an operand -/
def pm2 (n : Int) (t : Int → Int) (P : List Int) (i o : Int) (E : pm_E) : pm_S :=
  if kx n t i = 43 ∨ kx n t i = 45 then (match P with
    | [] => (0, [if kx n t i = 43 then 3 else 4], i + 1, o, E)
    | x :: Q => if op_ x = true then (2, Q, i, o, pe E (-8 - x)) else (0, (if kx n t i = 43 then 3 else 4) :: x :: Q, i + 1, o, E))
  else if kx n t i = 42 ∨ kx n t i = 47 then (match P with
    | [] => (0, [if kx n t i = 42 then 5 else 6], i + 1, o, E)
    | x :: Q => if mu_ x = true then (2, Q, i, o, pe E (-8 - x)) else (0, (if kx n t i = 42 then 5 else 6) :: x :: Q, i + 1, o, E))
  else if kx n t i = 41 ∧ 40 ∈ P then (match P with
    | [] => (4, [], i, 1, E)
    | x :: Q => if op_ x = true then (2, Q, i, o, pe E (-8 - x)) else (1, Q, i + 1, o - 1, E))
  else (match P with
    | [] => (3, [], i, o, E)
    | x :: Q => if op_ x = true then (2, Q, i, o, pe E (-8 - x)) else (4, [], i, 1, E))
def pm0 (n : Int) (t : Int → Int) (P : List Int) (i o : Int) (E : pm_E) : pm_S :=
  if kx n t i = 2 then (if nv n t i ≤ 9999 then (1, P, i + 1, o, pe E (nv n t i)) else (4, [], i, 2, E))
  else if 0 ≤ nx n t i ∧ nx n t i < 6 then (1, P, i + 1, o, pe E (-1 - nx n t i))
  else if kx n t i = 40 then (if o = 8 then (4, [], i, 3, E) else (0, 40 :: P, i + 1, o + 1, E))
  else if kx n t i = 45 then (if o = 8 then (4, [], i, 3, E) else (0, 2 :: P, i + 1, o + 1, E))
  else (4, [], i, 1, E)
def pm1 (P : List Int) (i o : Int) (E : pm_E) : pm_S := match P with
  | [] => (2, [], i, o, E)
  | x :: Q => if x = 2 then (1, Q, i, o - 1, pe E (-23)) else (2, x :: Q, i, o, E)
def pm (n : Int) (t : Int → Int) (s : pm_S) : pm_S := if s.1 = 0 then pm0 n t s.2.1 s.2.2.1 s.2.2.2.1 s.2.2.2.2 else if s.1 = 1 then pm1 s.2.1 s.2.2.1 s.2.2.2.1 s.2.2.2.2 else if s.1 = 2 then pm2 n t s.2.1 s.2.2.1 s.2.2.2.1 s.2.2.2.2 else s
def pmi (n : Int) (t : Int → Int) : Nat → pm_S → pm_S
  | 0, s => s
  | k + 1, s => pmi n t k (pm n t s)
def rch (n : Int) (t : Int → Int) (s s' : pm_S) : Prop := ∃ k, pmi n t k s = s'
section PMS
variable {n : Int} {t : Int → Int}
theorem rch.rf {s : pm_S} : rch n t s s := ⟨0, rfl⟩
theorem pmi_add (k j : Nat) (s : pm_S) : pmi n t (k + j) s = pmi n t j (pmi n t k s) := by
  induction k generalizing s with
  | zero => rw [Nat.zero_add]; rfl
  | succ k ih => rw [show k + 1 + j = (k + j) + 1 by omega]; exact ih (pm n t s)
theorem rch.tr {s s' s'' : pm_S} (h : rch n t s s') (h2 : rch n t s' s'') : rch n t s s'' := by
  obtain ⟨k, hk⟩ := h
  obtain ⟨j, hj⟩ := h2
  exact ⟨k + j, by rw [pmi_add, hk, hj]⟩
theorem rch.st {s s' : pm_S} (h : pm n t s = s') : rch n t s s' := ⟨1, h⟩
/-- settling what is pending -/
theorem pes_cons {E : pm_E} {x : Int} {Q : List Int} : pes E (x :: Q) = pes (pe E (-8 - x)) Q := rfl
theorem pes_snoc {x : Int} : ∀ (Q : List Int) (E : pm_E), pes E (Q ++ [x]) = pe (pes E Q) (-8 - x) := by
  intro Q
  induction Q with
  | nil => intro E; rfl
  | cons y Q ih => intro E; exact ih (pe E (-8 - y))
theorem pes_app {R : List Int} : ∀ (Q : List Int) (E : pm_E), pes E (Q ++ R) = pes (pes E Q) R := by
  intro Q
  induction Q with
  | nil => intro E; rfl
  | cons y Q ih => intro E; exact ih (pe E (-8 - y))
theorem op_mu {x : Int} (h : mu_ x = true) : op_ x = true := by
  have := of_decide_eq_true h
  exact decide_eq_true (by omega)
/-- + or -: all pending ones are done, then it is pushed -/
theorem rch_add {P : List Int} {i o : Int} (hk : kx n t i = 43 ∨ kx n t i = 45) (hP : ∀ x Q, P = x :: Q → op_ x ≠ true) : ∀ (Q : List Int) (E : pm_E), (∀ x ∈ Q, op_ x = true) → rch n t (2, Q ++ P, i, o, E) (0, (if kx n t i = 43 then 3 else 4) :: P, i + 1, o, pes E Q) := by
  intro Q
  induction Q with
  | nil =>
    intro E _
    refine rch.st ?_
    show pm2 n t P i o E = _
    unfold pm2
    rw [if_pos hk]
    cases P with
    | nil => rfl
    | cons x R =>
      show (if op_ x = true then _ else _) = _
      rw [if_neg (hP x R rfl)]
      rfl
  | cons y Q ih =>
    intro E hQ
    refine rch.tr (rch.st (s' := (2, Q ++ P, i, o, pe E (-8 - y))) ?_) (ih (pe E (-8 - y)) (fun x hx => hQ x (List.mem_cons_of_mem _ hx)))
    show pm2 n t (y :: (Q ++ P)) i o E = _
    unfold pm2
    rw [if_pos hk]
    show (if op_ y = true then _ else _) = _
    rw [if_pos (hQ y List.mem_cons_self)]
theorem rch_mul {P : List Int} {i o : Int} (hk : kx n t i = 42 ∨ kx n t i = 47) (hP : ∀ x Q, P = x :: Q → mu_ x ≠ true) : ∀ (Q : List Int) (E : pm_E), (∀ x ∈ Q, mu_ x = true) → rch n t (2, Q ++ P, i, o, E) (0, (if kx n t i = 42 then 5 else 6) :: P, i + 1, o, pes E Q) := by
  have hk' : ¬ (kx n t i = 43 ∨ kx n t i = 45) := by omega
  intro Q
  induction Q with
  | nil =>
    intro E _
    refine rch.st ?_
    show pm2 n t P i o E = _
    unfold pm2
    rw [if_neg hk', if_pos hk]
    cases P with
    | nil => rfl
    | cons x R =>
      show (if mu_ x = true then _ else _) = _
      rw [if_neg (hP x R rfl)]
      rfl
  | cons y Q ih =>
    intro E hQ
    refine rch.tr (rch.st (s' := (2, Q ++ P, i, o, pe E (-8 - y))) ?_) (ih (pe E (-8 - y)) (fun x hx => hQ x (List.mem_cons_of_mem _ hx)))
    show pm2 n t (y :: (Q ++ P)) i o E = _
    unfold pm2
    rw [if_neg hk', if_pos hk]
    show (if mu_ y = true then _ else _) = _
    rw [if_pos (hQ y List.mem_cons_self)]
theorem rch_par {P : List Int} {i o : Int} (hk : kx n t i = 41) : ∀ (Q : List Int) (E : pm_E), (∀ x ∈ Q, op_ x = true) → rch n t (2, Q ++ 40 :: P, i, o, E) (1, P, i + 1, o - 1, pes E Q) := by
  have h1 : ¬ (kx n t i = 43 ∨ kx n t i = 45) := by omega
  have h2 : ¬ (kx n t i = 42 ∨ kx n t i = 47) := by omega
  intro Q
  induction Q with
  | nil =>
    intro E _
    refine rch.st ?_
    show pm2 n t (40 :: P) i o E = _
    unfold pm2
    rw [if_neg h1, if_neg h2, if_pos ⟨hk, List.mem_cons_self⟩]
    show (if op_ 40 = true then _ else _) = _
    rw [if_neg (by decide)]
    rfl
  | cons y Q ih =>
    intro E hQ
    refine rch.tr (rch.st (s' := (2, Q ++ 40 :: P, i, o, pe E (-8 - y))) ?_) (ih (pe E (-8 - y)) (fun x hx => hQ x (List.mem_cons_of_mem _ hx)))
    show pm2 n t (y :: (Q ++ 40 :: P)) i o E = _
    unfold pm2
    rw [if_neg h1, if_neg h2, if_pos ⟨hk, List.mem_cons_of_mem _ (List.mem_append_right _ List.mem_cons_self)⟩]
    show (if op_ y = true then _ else _) = _
    rw [if_pos (hQ y List.mem_cons_self)]
/-- it can't go on -/
theorem rch_end {P : List Int} {i o : Int} (h1 : ¬ (kx n t i = 43 ∨ kx n t i = 45)) (h2 : ¬ (kx n t i = 42 ∨ kx n t i = 47)) (h3 : ¬ (kx n t i = 41 ∧ 40 ∈ P)) (hP : ∀ x Q, P = x :: Q → op_ x ≠ true) : ∀ (Q : List Int) (E : pm_E), (∀ x ∈ Q, op_ x = true) → rch n t (2, Q ++ P, i, o, E) (if P = [] then (3, [], i, o, pes E Q) else (4, [], i, 1, pes E Q)) := by
  intro Q
  induction Q with
  | nil =>
    intro E _
    refine rch.st ?_
    show pm2 n t P i o E = _
    unfold pm2
    rw [if_neg h1, if_neg h2, if_neg h3]
    cases P with
    | nil => rfl
    | cons x R =>
      show (if op_ x = true then _ else _) = _
      rw [if_neg (hP x R rfl), if_neg (by simp)]
      rfl
  | cons y Q ih =>
    intro E hQ
    refine rch.tr (rch.st (s' := (2, Q ++ P, i, o, pe E (-8 - y))) ?_) (ih (pe E (-8 - y)) (fun x hx => hQ x (List.mem_cons_of_mem _ hx)))
    have h3' : ¬ (kx n t i = 41 ∧ 40 ∈ y :: (Q ++ P)) := by
      intro z
      have := z.2
      rw [List.mem_cons, List.mem_append] at this
      rcases this with z2 | z2 | z2
      · have := hQ y List.mem_cons_self
        rw [← z2] at this
        exact absurd this (by decide)
      · have := hQ 40 (List.mem_cons_of_mem _ z2)
        exact absurd this (by decide)
      · exact h3 ⟨z.1, z2⟩
    show pm2 n t (y :: (Q ++ P)) i o E = _
    unfold pm2
    rw [if_neg h1, if_neg h2, if_neg h3']
    show (if op_ y = true then _ else _) = _
    rw [if_pos (hQ y List.mem_cons_self)]
end PMS
