/-! ===== the whole text, by the class ===== -/
def rH (r : Int) (M M' : ow_M) : Prop := ∀ c i, c ≠ 46 → ¬ (22 + 6 * r ≤ c ∧ c ≤ 22 + 6 * r + 5) → ¬ (53 ≤ c ∧ c ≤ 57) → M' c i = M c i
def txF (M : ow_M) (c : Int) (T : ow_M) : ow_M := ow_up T 0 10 (M c 2)
section TXR
variable {C : ow_C} {A L N : Int} {n : Int} {t : Int → Int} {m r : Int}
theorem txF_n {M T : ow_M} {c x i : Int} (h : ¬ (x = 0 ∧ i = 10)) : txF M c T x i = T x i := by
  unfold txF
  rw [ow_upN (by omega)]
theorem txF_s {M T : ow_M} {c : Int} : txF M c T 0 10 = M c 2 := by
  unfold txF
  rw [ow_upS]
theorem txF_c {M T : ow_M} {c x : Int} (h : x ≠ 0) : txF M c T x = T x := by
  funext i
  exact txF_n (by omega)
theorem txF_ct {M T : ow_M} {c s k : Int} : tx_ct (txF M c T) s k = tx_ct T s k := by
  unfold tx_ct
  rw [txF_c (by decide)]
theorem txF_cl {M T : ow_M} {c : Int} (h : tx_cl N T) : tx_cl N (txF M c T) := by
  unfold tx_cl
  rw [txF_n (by decide), txF_n (by decide), txF_n (by decide), txF_n (by decide), txF_n (by decide), txF_n (by decide), txF_n (by decide), txF_n (by decide), txF_n (by decide), txF_c (show (1 : Int) ≠ 0 by decide), txF_c (show (2 : Int) ≠ 0 by decide), txF_c (show (3 : Int) ≠ 0 by decide), txF_c (show (5 : Int) ≠ 0 by decide), txF_c (show (6 : Int) ≠ 0 by decide), txF_c (show (7 : Int) ≠ 0 by decide), txF_c (show (8 : Int) ≠ 0 by decide)]
  simp only [txF_ct]
  exact h
theorem txF_M {M M' T : ow_M} {c i : Int} (h : tx_M M' i T) : tx_M M' i (txF M c T) := by
  unfold tx_M
  rw [txF_n (by decide), txF_n (by decide), txF_c (show (1 : Int) ≠ 0 by decide), txF_c (show (2 : Int) ≠ 0 by decide), txF_c (show (3 : Int) ≠ 0 by decide), txF_c (show (4 : Int) ≠ 0 by decide)]
  exact h
/-- what the class holds at the end -/
theorem csd.end {M T : ow_M} {i : Int} (h : csd A L N n t m r M i T) : tx_fo (txF M (22 + 6 * r) T) ∧ tx_cl N (txF M (22 + 6 * r) T) ∧ tx_C M (22 + 6 * r) (txF M (22 + 6 * r) T) := by
  obtain ⟨a1, a2, a3, a4, a5⟩ := h
  obtain ⟨b1, b2, b3, b4, b5, b6⟩ := a4
  obtain ⟨c1, c2, c3, c4, c5, c6, c7, c8⟩ := a3
  refine ⟨?_, txF_cl b6, ?_⟩
  · unfold tx_fo
    rw [txF_s, txF_n (by decide), txF_n (by decide), txF_n (by decide), txF_n (by decide), txF_n (by decide), txF_n (by decide), txF_n (by decide), txF_c (show (4 : Int) ≠ 0 by decide)]
    exact ⟨b1, b2, a1.1.2.2.2.2, b3, b4, b5, a1.2.2.2.2.2.1⟩
  · unfold tx_C
    rw [txF_s, txF_n (by decide), txF_n (by decide), txF_n (by decide), txF_n (by decide), txF_n (by decide), txF_n (by decide), txF_n (by decide), txF_n (by decide), txF_n (by decide), txF_c (show (4 : Int) ≠ 0 by decide), txF_c (show (5 : Int) ≠ 0 by decide), txF_c (show (6 : Int) ≠ 0 by decide), txF_c (show (7 : Int) ≠ 0 by decide), txF_c (show (8 : Int) ≠ 0 by decide)]
    exact ⟨rfl, c1, c2, c3, c4, c5, c6, a1.2.2.2.2.1, c7, c8⟩
theorem tX6_read (hp : tp_ok n t) (hr : 0 ≤ r ∧ r < 4) (ho : em_ok A L N) {D : Nat} {M : ow_M} {K : Int → ow_M → Prop} (hT : ∀ i, 0 ≤ i → i < n → M 1 i = t i) (k1 : ∀ M' T' m j k, rH r M M' → te_ok n t m → M' 46 5 = -1 → tx_fo (txF M' (22 + 6 * r) T') → tx_cl N (txF M' (22 + 6 * r) T') → tx_C M' (22 + 6 * r) (txF M' (22 + 6 * r) T') → txtR A L n t k 0 tx_0 0 j T' → K 0 M') (k2 : ∀ M' f j m k, rH r M M' → te_ok n t m → f ≠ 0 → M' 46 5 = ts n t j → txtR A L n t k 0 tx_0 f j tx_0 → K f M') : ow_Sp C (EM A L N) (D + 32) mX6_read (0, 0) [(3, 46), (3, 1), (0, n), (3, 22 + 6 * r)] M K := by
  refine fX6_read ?_
  intro N1 e1 N2 e2 N3 e3 N4 e4
  refine ⟨fun _ N5 e5 => ?_, fun z => by omega⟩
  have v1 : N5 46 1 = 22 + 6 * r := by rw [e5, ow_upS]
  have tx : ∀ s, ow_O (EM A L N) s (22 + 6 * r) 7 := fun s => (em_text (A := A) (L := L) (N := N) (M := s) hr).1
  have t4 := em_text4 (A := A) (L := L) (N := N) (M := N5) (c := 0) hr ⟨by decide, by decide⟩
  have t5 := em_text5 (A := A) (L := L) (N := N) (M := N5) (x := 0) hr
  rw [v1]
  refine ⟨tx N5, eX7_clear ⟨tx _, t4.2.2.2.1, fun P1 d1 => ⟨tx _, t4.2.2.2.2.1, fun P2 d2 => ⟨tx _, t4.2.2.2.2.2.1, fun P3 d3 => ⟨tx _, t4.2.2.2.2.2.2.2.2.1, fun P4 d4 => ⟨tx _, t5.2.2.2.2.1, fun P5 d5 => ⟨tx _, t5.2.2.2.2.2, fun P6 d6 => ?_⟩⟩⟩⟩⟩⟩⟩
  have oP : ∀ c j, c ≠ 46 → c ≠ 22 + 6 * r → P6 c j = M c j := fun c j h1 h2 => by rw [d6, ow_upN (Or.inl h2), d5, ow_upN (Or.inl h2), d4, ow_upN (Or.inl h2), d3, ow_upN (Or.inl h2), d2, ow_upN (Or.inl h2), d1, ow_upN (Or.inl h2), e5, ow_upN (Or.inl h1), e4, ow_upN (Or.inl h1), e3, ow_upN (Or.inl h1), e2, ow_upN (Or.inl h1), e1, ow_upN (Or.inl h1)]
  have q46 : ∀ j, P6 46 j = N5 46 j := fun j => by
    have h2 : (46 : Int) ≠ 22 + 6 * r := by omega
    rw [d6, ow_upN (Or.inl h2), d5, ow_upN (Or.inl h2), d4, ow_upN (Or.inl h2), d3, ow_upN (Or.inl h2), d2, ow_upN (Or.inl h2), d1, ow_upN (Or.inl h2)]
  refine tX8_cut (d := D + 24) ho hp (fun i i0 i1 => by rw [oP _ _ (by omega) (by omega)]; exact hT i i0 i1) (fun M7 m o7 hm hz => ?_)
  have m3 := hm.1
  have q7 : ∀ c j, ¬ (53 ≤ c ∧ c ≤ 57) → M7 c j = P6 c j := fun c j h1 => o7 c j (by simp <;> omega) (by simp <;> omega)
  have w1 : M7 46 1 = 22 + 6 * r := by rw [q7 _ _ (by omega), q46, v1]
  have w2 : M7 46 2 = 0 := by rw [q7 _ _ (by omega), q46, e5, ow_upN (Or.inr (by decide)), e4, ow_upS]
  have w3 : M7 46 3 = 0 := by rw [q7 _ _ (by omega), q46, e5, ow_upN (Or.inr (by decide)), e4, ow_upN (Or.inr (by decide)), e3, ow_upS]
  have w4 : M7 46 4 = 0 := by rw [q7 _ _ (by omega), q46, e5, ow_upN (Or.inr (by decide)), e4, ow_upN (Or.inr (by decide)), e3, ow_upN (Or.inr (by decide)), e2, ow_upN (Or.inr (by decide)), e1, ow_upS]
  have w5 : M7 46 5 = -1 := by rw [q7 _ _ (by omega), q46, e5, ow_upN (Or.inr (by decide)), e4, ow_upN (Or.inr (by decide)), e3, ow_upN (Or.inr (by decide)), e2, ow_upS]
  have x1 : M7 (22 + 6 * r) 1 = 0 := by rw [q7 _ _ (by omega), d6, ow_upN (Or.inr (by decide)), d5, ow_upN (Or.inr (by decide)), d4, ow_upN (Or.inr (by decide)), d3, ow_upN (Or.inr (by decide)), d2, ow_upN (Or.inr (by decide)), d1, ow_upS]
  have x2 : M7 (22 + 6 * r) 2 = 0 := by rw [q7 _ _ (by omega), d6, ow_upN (Or.inr (by decide)), d5, ow_upN (Or.inr (by decide)), d4, ow_upN (Or.inr (by decide)), d3, ow_upN (Or.inr (by decide)), d2, ow_upS]
  have x3 : M7 (22 + 6 * r) 3 = 0 := by rw [q7 _ _ (by omega), d6, ow_upN (Or.inr (by decide)), d5, ow_upN (Or.inr (by decide)), d4, ow_upN (Or.inr (by decide)), d3, ow_upS]
  have x6 : M7 (22 + 6 * r) 6 = 0 := by rw [q7 _ _ (by omega), d6, ow_upN (Or.inr (by decide)), d5, ow_upN (Or.inr (by decide)), d4, ow_upS]
  have x11 : M7 (22 + 6 * r) 11 = 0 := by rw [q7 _ _ (by omega), d6, ow_upN (Or.inr (by decide)), d5, ow_upS]
  have x14 : M7 (22 + 6 * r) 14 = 0 := by rw [q7 _ _ (by omega), d6, ow_upS]
  have oH : rH r M M7 := fun c j h1 h2 h3 => by rw [q7 _ _ h3, oP _ _ h1 (by omega)]
  have c0 : csd A L N n t m r M7 0 tx_0 := by
    refine ⟨⟨⟨w1, hz, by omega, by omega, Or.inl x2⟩, w2, w4, x1, fun k k0 k1' => ?_, fun _ k k0 k1' => ?_, w5⟩, w3, ⟨x3, fun q => absurd q (by decide), x6, fun q => absurd q (by decide), x11, x14, fun e q0 q1 => ?_, fun e q0 q1 => ?_⟩, ti_0, by decide⟩
    · have : k < 0 := k1'
      omega
    · have : k < 0 := k1'
      omega
    · have : e < 0 := q1
      omega
    · have : e < 0 := q1
      omega
  have GH : ∀ s s', rH r M s → rG r s s' → rH r M s' := fun s s' h1 h2 c j q1 q2 q3 => (h2 c j q1 q2).trans (h1 c j q1 q2 q3)
  have loop : ∀ (b : Nat) (i : Int) (T s : ow_M), 25 - T 0 0 ≤ b → rH r M s → csd A L N n t m r s i T → (∀ k f j T', txtR A L n t k i T f j T' → ∃ k', txtR A L n t k' 0 tx_0 f j T') → ow_At C (EM A L N) (D + 32) mX6_read 53 [(0, (3, 46)), (4, (0, T 0 0))] [] (0, 0) s K := by
    intro b
    induction b with
    | zero =>
      intro i T s hb os hs hk
      have := hs.2.2.2.1.2.2.2.2.2.1
      omega
    | succ b ih =>
      intro i T s hb os hs hk
      have c24 := hs.2.2.2.1.2.2.2.2.2.1
      refine cX6_read_53 ⟨fun q => by omega, fun _ => ⟨fun z => absurd hs.1.2.2.1 z, fun _ => tX6_kind hm hs.1.1 ?_⟩⟩
      rw [hs.1.2.1]
      refine ⟨fun z => ?_, fun z => ?_⟩
      · obtain ⟨k', hk'⟩ := hk 0 0 0 T ⟨z, rfl, rfl⟩
        obtain ⟨f1, f2, f3⟩ := hs.end
        rw [hs.1.2.2.1]
        exact k1 s T m 0 k' os hm hs.1.2.2.2.2.2.2 f1 f2 f3 hk'
      · refine tX6_readClause hp hr ho hm hs (fun M' j T' o' c' ht hc => ⟨⟨by omega, by omega⟩, ?_⟩) (fun M' f j o' w' hc => ⟨⟨by omega, by omega⟩, ?_⟩)
        · rw [← ht]
          exact ih j T' M' (by omega) (GH s M' os o') c' (fun k f j' T'' h2 => hk (k + 1) f j' T'' ⟨z, 0, j, T', hc, Or.inr ⟨rfl, h2⟩⟩)
        · obtain ⟨k', hk'⟩ := hk 1 f j tx_0 ⟨z, f, j, T, hc, Or.inl ⟨w'.2.1, rfl, rfl⟩⟩
          have kk := k2 M' f j m k' (GH s M' os o') hm w'.2.1 w'.2.2.2 hk'
          have e4' : M' 46 4 = f := w'.2.2.1
          refine cX6_read_53 ⟨fun _ => ?_, fun _ => ⟨fun _ => ?_, fun y => absurd (e4'.symm.trans y) w'.2.1⟩⟩
          · rw [e4']; exact kk
          · rw [e4']; exact kk
  exact loop 25 0 tx_0 M7 (by show (25 : Int) - 0 ≤ ((25 : Nat) : Int); omega) oH c0 (fun k f j T' h2 => ⟨k, h2⟩)
end TXR
