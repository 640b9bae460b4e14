/-! ===== the reference's next token ===== -/
def tcode (k : Int) : Int := if k = 1 then 2 else if k = 2 then 1 else if k = 256 then 4 else if k = 257 then 5 else k
def rf (n : Int) (t : Int → Int) (M : ow_M) (i : Int) : Prop := M 83 10 = ps n t (i.toNat + 1) ∧ M 83 11 = ts n t i ∧ M 83 12 = tcode (kx n t i) ∧ (kx n t i = 2 → (nu n t (tk_e n t (ts n t i) - ts n t i).toNat (ts n t i) 0 ≤ 9999 → M 83 13 = nu n t (tk_e n t (ts n t i) - ts n t i).toNat (ts n t i) 0) ∧ (9999 < nu n t (tk_e n t (ts n t i) - ts n t i).toNat (ts n t i) 0 → 10000 ≤ M 83 13)) ∧ (kx n t i = 1 → ∀ k : Nat, k < 14 → (M 83 14 = wc k ↔ nx n t i = (k : Int)))
section NXS
variable {C : ow_C} {A L N : Int} {d : Nat} {M : ow_M} {K : Int → ow_M → Prop} {n : Int} {t : Int → Int}
theorem tp_M.fr {M' : ow_M} {F : List (Int × Int)} (h : tp_M M n t) (o : ow_of [] F M M') (h1 : ((83 : Int), (7 : Int)) ∉ F) (h2 : (87 : Int) ∉ F.map Prod.fst) : tp_M M' n t := ⟨by rw [o 83 7 (by decide) h1]; exact h.1, fun i i0 i1 => by rw [o.at (by decide) h2]; exact h.2 i i0 i1⟩
theorem tX12_byteAt (hp : tp_ok n t) (hx : tp_M M n t) {i : Int} (h0 : 0 ≤ i) (hK : K (ty_b n t i) M) : ow_Sp C (EM A L N) d mX12_byteAt (0, 0) [(3, 83), (0, i)] M K := by
  have n3 := hp.2.1
  refine fX12_byteAt ?_
  rw [hx.1]
  refine ⟨fun q => ?_, fun q => ⟨⟨h0, by omega⟩, ?_⟩⟩
  · rw [ty_no q] at hK; exact hK
  · rw [ty_in h0 q, ← hx.2 i h0 q] at hK; exact hK
theorem tX12_isLetter {c : Int} (h1 : tq_l c = true → K 1 M) (h2 : tq_l c ≠ true → K 0 M) : ow_Sp C (EM A L N) (d + 1) mX12_isLetter (0, 0) [(0, c)] M K := by
  refine fX12_isLetter (tX12_isIn (fun q => ⟨fun z => absurd rfl z, fun _ => tX12_isIn (fun q2 => ⟨fun _ => h2 (fun z => by have := of_decide_eq_true z; omega), fun z => absurd rfl z⟩) (fun q2 => ⟨fun z => absurd z (by decide), fun _ => h1 (decide_eq_true (Or.inr q2))⟩)⟩) (fun q => ⟨fun _ => h1 (decide_eq_true (Or.inl q)), fun z => absurd z (by decide)⟩))
theorem tX12_isDigit {c : Int} (h1 : tq_d c = true → K 1 M) (h2 : tq_d c ≠ true → K 0 M) : ow_Sp C (EM A L N) (d + 1) mX12_isDigit (0, 0) [(0, c)] M K := by
  exact fX12_isDigit (tX12_isIn (fun q => ⟨Or.inl rfl, h2 (fun z => q (of_decide_eq_true z))⟩) (fun q => ⟨Or.inr rfl, h1 (decide_eq_true q)⟩))
theorem pkf_lt {f : Int → Int} {p : Int} : ∀ k : Nat, (∀ j : Nat, j < k → 0 ≤ f (p + j) ∧ f (p + j) ≤ 255) → 0 ≤ pkf f k p 0 ∧ pkf f k p 0 < ((256 ^ k : Nat) : Int) := by
  intro k
  induction k with
  | zero => intro _; exact ⟨Int.le_refl 0, by show (0 : Int) < 1; decide⟩
  | succ k ih =>
    intro h
    have h1 := ih (fun j hj => h j (by omega))
    have h2 := h k (by omega)
    have e : 256 ^ (k + 1) = 256 ^ k * 256 := Nat.pow_succ 256 k
    rw [pkf_s, e]
    omega
theorem nu_rg (hp : tp_ok n t) {p : Int} : ∀ k : Nat, (∀ j : Nat, j < k → tq_d (ty_b n t (p + j)) = true) → 0 ≤ nu n t k p 0 ∧ nu n t k p 0 ≤ 10000 := by
  intro k
  induction k with
  | zero => intro _; exact ⟨by show (0 : Int) ≤ 0; decide, by show (0 : Int) ≤ 10000; decide⟩
  | succ k ih =>
    intro h
    have h1 := ih (fun j hj => h j (by omega))
    have h2 := of_decide_eq_true (h k (by omega))
    rw [nu_s]
    omega
theorem tX12_nextToken (hp : tp_ok n t) (hx : tp_M M n t) {i : Int} (hi : 0 ≤ i) (hat : M 83 10 = ps n t i.toNat) (hK : ∀ M', ow_of [] [(83, 10), (83, 11), (83, 12), (83, 13), (83, 14)] M M' → rf n t M' i → K 0 M') : ow_Sp C (EM A L N) (d + 2) mX12_nextToken (0, 0) [(3, 83)] M K := by
  have n0 := hp.1
  have n3 := hp.2.1
  have tr := ts_rg (t := t) n0 (i := i)
  have pr := ps_rg (t := t) n0 i.toNat
  have eps : ps n t (i.toNat + 1) = tk_e n t (ts n t i) := rfl
  -- behind the blanks
  have body : ∀ s, ow_of [] [(83, 10), (83, 11), (83, 12), (83, 13), (83, 14)] M s → s 83 10 = ts n t i → tq_b (ty_b n t (ts n t i)) ≠ true → ow_At C (EM A L N) (d + 2) mX12_nextToken 0 [(0, (3, 83))] [] (0, 0) s K := by
    intro s os sa nb
    have xs := hx.fr os (by decide) (by decide)
    have nb1 : ty_b n t (ts n t i) ≠ 32 := fun z => nb (decide_eq_true (Or.inl z))
    have nb2 : ty_b n t (ts n t i) ≠ 10 := fun z => nb (decide_eq_true (Or.inr z))
    refine cX12_nextToken_0 ?_
    rw [sa]
    refine tX12_byteAt hp xs tr.1 ⟨fun q => absurd q nb1, fun _ => ?_⟩
    rw [sa]
    refine tX12_byteAt hp xs tr.1 ⟨fun _ N4 e4 => ?_, fun q => absurd q nb2⟩
    rw [sa] at e4
    have o4 : ow_of [] [(83, 10), (83, 11), (83, 12), (83, 13), (83, 14)] M N4 := by rw [e4]; exact os.uf (by decide)
    have x4 := hx.fr o4 (by decide) (by decide)
    have a4 : N4 83 10 = ts n t i := by rw [e4, ow_upN (Or.inr (by decide))]; exact sa
    have p4 : N4 83 11 = ts n t i := by rw [e4, ow_upS]
    rw [a4]
    refine tX12_byteAt hp x4 tr.1 ⟨fun pos => ?_, fun neg N13 e13 => ?_⟩
    · have lt : ts n t i < n := by
        by_cases e : ts n t i < n
        · exact e
        · rw [ty_no (by omega)] at pos; omega
      refine tX12_isDigit (fun y => ⟨fun z => absurd z (by decide), fun _ N11 e11 N12 e12 => ?_⟩) (fun y => ⟨fun _ => ?_, fun z => absurd rfl z⟩)
      · -- digits
        have nl : tq_l (ty_b n t (ts n t i)) ≠ true := fun z => by have := of_decide_eq_true z; have := of_decide_eq_true y; omega
        have ek : kx n t i = 2 := by unfold kx tk_k; rw [if_neg (by omega), if_neg nl, if_pos y]
        have ee : tk_e n t (ts n t i) = run n t tq_d (ts n t i) := by unfold tk_e; rw [if_neg (by omega), if_neg nl, if_pos y]
        have al := run_all (t := t) (q := tq_d) (by decide) tr.1 (show ts n t i ≤ n by omega)
        have rr := run_rg (t := t) (q := tq_d) (show ts n t i ≤ n by omega)
        have o12 : ow_of [] [(83, 10), (83, 11), (83, 12), (83, 13), (83, 14)] M N12 := by rw [e12, e11]; exact (o4.uf (by decide)).uf (by decide)
        refine ow_upto (S := ow_M) (P := fun j s => ow_At C (EM A L N) (d + 2) mX12_nextToken 85 [(0, (3, 83))] [] (0, 0) s K) (I := fun j s => ts n t i ≤ j ∧ ow_of [] [(83, 10), (83, 11), (83, 12), (83, 13), (83, 14)] M s ∧ s 83 10 = j ∧ s 83 11 = ts n t i ∧ s 83 12 = 1 ∧ (0 ≤ s 83 13 ∧ s 83 13 ≤ 999999) ∧ (nu n t (j - ts n t i).toNat (ts n t i) 0 ≤ 9999 → s 83 13 = nu n t (j - ts n t i).toNat (ts n t i) 0) ∧ (9999 < nu n t (j - ts n t i).toNat (ts n t i) 0 → 10000 ≤ s 83 13)) (run n t tq_d (ts n t i)) (fun s hI => ?_) (fun j s j1 hI ih => ?_) (ts n t i) N12 rr.1 ⟨Int.le_refl _, o12, ?_, ?_, ?_, ?_, fun _ => ?_, fun z => ?_⟩
        · obtain ⟨_, k1, k2, k3, k4, k5, k6, k7⟩ := hI
          refine cX12_nextToken_85 ?_
          rw [k2]
          refine tX12_byteAt hp (hx.fr k1 (by decide) (by decide)) (by omega) (tX12_isDigit (fun z => absurd z al.2) (fun _ => ⟨fun _ => hK s k1 ⟨?_, k3, ?_, fun _ => ?_, fun z => by omega⟩, fun z => absurd rfl z⟩))
          · rw [k2, eps, ee]
          · rw [k4, ek]; decide
          · rw [ee]; exact ⟨k6, k7⟩
        · obtain ⟨j0, k1, k2, k3, k4, k5, k6, k7⟩ := hI
          have dj := al.1 j j0 j1
          have dj' := of_decide_eq_true dj
          have nr := nu_rg hp (p := ts n t i) (j - ts n t i).toNat (fun q hq => al.1 _ (by omega) (by omega))
          have ns := nu_s (n := n) (t := t) (j - ts n t i).toNat (ts n t i) 0
          rw [show ts n t i + (((j - ts n t i).toNat : Nat) : Int) = j by omega] at ns
          have nxx : ∀ s', ow_of [] [(83, 10), (83, 11), (83, 12), (83, 13), (83, 14)] M s' → s' 83 10 = j + 1 → s' 83 11 = ts n t i → s' 83 12 = 1 → (0 ≤ s' 83 13 ∧ s' 83 13 ≤ 999999) → (nu n t ((j - ts n t i).toNat + 1) (ts n t i) 0 ≤ 9999 → s' 83 13 = nu n t ((j - ts n t i).toNat + 1) (ts n t i) 0) → (9999 < nu n t ((j - ts n t i).toNat + 1) (ts n t i) 0 → 10000 ≤ s' 83 13) → ow_At C (EM A L N) (d + 2) mX12_nextToken 85 [(0, (3, 83))] [] (0, 0) s' K := by
            intro s' b1 b2 b3 b4 b5 b6 b7
            refine ih s' ⟨by omega, b1, b2, b3, b4, b5, ?_, ?_⟩
            · rw [show (j + 1 - ts n t i).toNat = (j - ts n t i).toNat + 1 by omega]; exact b6
            · rw [show (j + 1 - ts n t i).toNat = (j - ts n t i).toNat + 1 by omega]; exact b7
          refine cX12_nextToken_85 ?_
          rw [k2]
          have xs := hx.fr k1 (by decide) (by decide)
          refine tX12_byteAt hp xs (by omega) (tX12_isDigit (fun _ => ⟨fun z => absurd z (by decide), fun _ => ⟨fun big => ⟨?_, fun N3 e3 => ?_⟩, fun small => ⟨⟨by omega, by omega⟩, ?_⟩⟩⟩) (fun z => absurd dj z))
          · exact ⟨by omega, by omega⟩
          · rw [k2] at e3
            refine nxx N3 (by rw [e3]; exact k1.uf (by decide)) (by rw [e3, ow_upS]) (by rw [e3, ow_upN (Or.inr (by decide))]; exact k3) (by rw [e3, ow_upN (Or.inr (by decide))]; exact k4) (by rw [e3, ow_upN (Or.inr (by decide))]; exact k5) (fun z => ?_) (fun z => ?_)
            · rw [e3, ow_upN (Or.inr (by decide))]; omega
            · rw [e3, ow_upN (Or.inr (by decide))]; omega
          · rw [k2]
            refine tX12_byteAt hp xs (by omega) ⟨⟨by omega, by omega⟩, ⟨by omega, by omega⟩, fun N5 e5 => ?_⟩
            have a5 : N5 83 10 = j := by rw [e5, ow_upN (Or.inr (by decide))]; exact k2
            rw [a5]
            refine ⟨⟨by omega, by omega⟩, fun N6 e6 => ?_⟩
            have v6 : N6 83 13 = 10 * s 83 13 + ty_b n t j - 48 := by rw [e6, ow_upN (Or.inr (by decide)), e5, ow_upS]
            refine nxx N6 (by rw [e6, e5]; exact (k1.uf (by decide)).uf (by decide)) (by rw [e6, ow_upS]) (by rw [e6, ow_upN (Or.inr (by decide)), e5, ow_upN (Or.inr (by decide))]; exact k3) (by rw [e6, ow_upN (Or.inr (by decide)), e5, ow_upN (Or.inr (by decide))]; exact k4) (by omega) (fun z => ?_) (fun z => ?_)
            · rw [v6]; omega
            · rw [v6]; omega
        · rw [e12, ow_upN (Or.inr (by decide)), e11, ow_upN (Or.inr (by decide))]; exact a4
        · rw [e12, ow_upN (Or.inr (by decide)), e11, ow_upN (Or.inr (by decide))]; exact p4
        · rw [e12, ow_upN (Or.inr (by decide)), e11, ow_upS]
        · rw [e12, ow_upS]; decide
        · rw [e12, ow_upS, show (ts n t i - ts n t i).toNat = 0 by omega]; rfl
        · rw [show (ts n t i - ts n t i).toNat = 0 by omega] at z
          exact absurd z (by show ¬ (9999 : Int) < 0; decide)
      · refine tX12_isLetter (fun y2 => ⟨fun z => absurd z (by decide), fun _ N9 e9 N10 e10 => ?_⟩) (fun y2 => ⟨fun _ => ?_, fun z => absurd rfl z⟩)
        · -- letters
          have ek : kx n t i = 1 := by unfold kx tk_k; rw [if_neg (by omega), if_pos y2]
          have ee : tk_e n t (ts n t i) = run n t tq_l (ts n t i) := by unfold tk_e; rw [if_neg (by omega), if_pos y2]
          have al := run_all (t := t) (q := tq_l) (by decide) tr.1 (show ts n t i ≤ n by omega)
          have rr := run_rg (t := t) (q := tq_l) (show ts n t i ≤ n by omega)
          have o10 : ow_of [] [(83, 10), (83, 11), (83, 12), (83, 13), (83, 14)] M N10 := by rw [e10, e9]; exact (o4.uf (by decide)).uf (by decide)
          have by0 : ∀ k : Nat, (k : Int) ≤ run n t tq_l (ts n t i) - ts n t i → ∀ j : Nat, j < k → 0 ≤ ty_b n t (ts n t i + j) ∧ ty_b n t (ts n t i + j) ≤ 255 := by
            intro k hk j hj
            have := of_decide_eq_true (al.1 (ts n t i + j) (by omega) (by omega))
            omega
          refine ow_upto (S := ow_M) (P := fun j s => ow_At C (EM A L N) (d + 2) mX12_nextToken 161 [(0, (3, 83))] [] (0, 0) s K) (I := fun j s => ts n t i ≤ j ∧ ow_of [] [(83, 10), (83, 11), (83, 12), (83, 13), (83, 14)] M s ∧ s 83 10 = j ∧ s 83 11 = ts n t i ∧ s 83 12 = 2 ∧ s 83 14 = pkf (ty_b n t) (min (j - ts n t i) 7).toNat (ts n t i) 0) (run n t tq_l (ts n t i)) (fun s hI => ?_) (fun j s j1 hI ih => ?_) (ts n t i) N10 rr.1 ⟨Int.le_refl _, o10, ?_, ?_, ?_, ?_⟩
          · obtain ⟨_, k1, k2, k3, k4, k5⟩ := hI
            have st1 : ts n t i < run n t tq_l (ts n t i) := by
              rw [run_yes lt y2]
              have := run_rg (t := t) (q := tq_l) (show ts n t i + 1 ≤ n by omega)
              omega
            have wdv : ∀ s' : ow_M, s' 83 14 = (if run n t tq_l (ts n t i) - ts n t i ≤ 7 then pkf (ty_b n t) (run n t tq_l (ts n t i) - ts n t i).toNat (ts n t i) 0 else 0) → ∀ k : Nat, k < 14 → (s' 83 14 = wc k ↔ nx n t i = (k : Int)) := by
              intro s' hs' k hk
              rw [hs', pk_nm hp tr.1 st1 al.1 hk]
              unfold nx tk_n
              have ek' : tk_k n t (ts n t i) = 1 := ek
              rw [if_pos ek', ee]
            refine cX12_nextToken_161 ?_
            rw [k2]
            refine tX12_byteAt hp (hx.fr k1 (by decide) (by decide)) (by omega) (tX12_isLetter (fun z => absurd z al.2) (fun _ => ⟨fun _ => ?_, fun z => absurd rfl z⟩))
            rw [k2, k3]
            refine ⟨⟨by omega, by omega⟩, fun q => hK s k1 ⟨by rw [k2, eps, ee], k3, by rw [k4, ek]; decide, fun z => by omega, fun _ => wdv s ?_⟩, fun q N3 e3 => hK N3 (by rw [e3]; exact k1.uf (by decide)) ⟨?_, ?_, ?_, fun z => by omega, fun _ => wdv N3 ?_⟩⟩
            · rw [if_pos q, k5, show min (run n t tq_l (ts n t i) - ts n t i) 7 = run n t tq_l (ts n t i) - ts n t i by omega]
            · rw [e3, ow_upN (Or.inr (by decide)), k2, eps, ee]
            · rw [e3, ow_upN (Or.inr (by decide))]; exact k3
            · rw [e3, ow_upN (Or.inr (by decide)), k4, ek]; decide
            · rw [e3, ow_upS, if_neg (by omega)]
          · obtain ⟨j0, k1, k2, k3, k4, k5⟩ := hI
            have lj := al.1 j j0 j1
            have lj' := of_decide_eq_true lj
            have xs := hx.fr k1 (by decide) (by decide)
            refine cX12_nextToken_161 ?_
            rw [k2]
            refine tX12_byteAt hp xs (by omega) (tX12_isLetter (fun _ => ⟨fun z => absurd z (by decide), fun _ => ?_⟩) (fun z => absurd lj z))
            rw [k2, k3]
            refine ⟨⟨by omega, by omega⟩, fun q => ⟨⟨by omega, by omega⟩, fun N4' e4' => ih N4' ⟨by omega, by rw [e4']; exact k1.uf (by decide), by rw [e4', ow_upS], by rw [e4', ow_upN (Or.inr (by decide))]; exact k3, by rw [e4', ow_upN (Or.inr (by decide))]; exact k4, ?_⟩⟩, fun q => ?_⟩
            · rw [e4', ow_upN (Or.inr (by decide)), k5, show min (j + 1 - ts n t i) 7 = min (j - ts n t i) 7 by omega]
            · refine tX12_byteAt hp xs (by omega) (fun N6 e6 => ?_)
              have a6 : N6 83 10 = j := by rw [e6, ow_upN (Or.inr (by decide))]; exact k2
              rw [a6]
              refine ⟨⟨by omega, by omega⟩, fun N7 e7 => ih N7 ⟨by omega, by rw [e7, e6]; exact (k1.uf (by decide)).uf (by decide), by rw [e7, ow_upS], by rw [e7, ow_upN (Or.inr (by decide)), e6, ow_upN (Or.inr (by decide))]; exact k3, by rw [e7, ow_upN (Or.inr (by decide)), e6, ow_upN (Or.inr (by decide))]; exact k4, ?_⟩⟩
              have pl := pkf_lt (f := ty_b n t) (p := ts n t i) (j - ts n t i).toNat (by0 _ (by omega))
              have p6 : 256 ^ (j - ts n t i).toNat ≤ 256 ^ 6 := Nat.pow_le_pow_right (by decide) (by omega)
              have p6' : (256 : Nat) ^ 6 = 281474976710656 := by decide
              rw [e7, ow_upN (Or.inr (by decide)), e6, ow_upS, k5, show min (j - ts n t i) 7 = j - ts n t i by omega, show min (j + 1 - ts n t i) 7 = j + 1 - ts n t i by omega, ow_lpk pl.1 (by omega) (by omega) (by omega), show (j + 1 - ts n t i).toNat = (j - ts n t i).toNat + 1 by omega, pkf_s, show ts n t i + (((j - ts n t i).toNat : Nat) : Int) = j by omega]
          · rw [e10, ow_upN (Or.inr (by decide)), e9, ow_upN (Or.inr (by decide))]; exact a4
          · rw [e10, ow_upN (Or.inr (by decide)), e9, ow_upN (Or.inr (by decide))]; exact p4
          · rw [e10, ow_upN (Or.inr (by decide)), e9, ow_upS]
          · rw [e10, ow_upS, show (min (ts n t i - ts n t i) 7).toNat = 0 by omega]; rfl
        · -- signs
          rw [a4]
          refine ⟨⟨by omega, by omega⟩, fun N8 e8 => ?_⟩
          have o8 : ow_of [] [(83, 10), (83, 11), (83, 12), (83, 13), (83, 14)] M N8 := by rw [e8]; exact o4.uf (by decide)
          have a8 : N8 83 10 = ts n t i + 1 := by rw [e8, ow_upS]
          have p8 : N8 83 11 = ts n t i := by rw [e8, ow_upN (Or.inr (by decide))]; exact p4
          -- the kind is written
          have fin : ∀ M', ow_of [] [(83, 10), (83, 11), (83, 12), (83, 13), (83, 14)] M M' → M' 83 10 = tk_e n t (ts n t i) → M' 83 11 = ts n t i → M' 83 12 = tcode (kx n t i) → kx n t i ≠ 1 → kx n t i ≠ 2 → K 0 M' := fun M' o b1 b2 b3 b4 b5 => hK M' o ⟨by rw [b1, eps], b2, b3, fun z => absurd z b5, fun z => absurd z b4⟩
          have two : (ty_b n t (ts n t i) = 60 ∨ ty_b n t (ts n t i) = 62) → ∀ N1, N1 = ow_up N8 83 12 (ty_b n t (ts n t i)) → ow_At C (EM A L N) (d + 2) mX12_nextToken 352 [(0, (3, 83)), (1, (0, ty_b n t (ts n t i)))] [] (0, 0) N1 K := by
            intro hc N1 e1
            have o1 : ow_of [] [(83, 10), (83, 11), (83, 12), (83, 13), (83, 14)] M N1 := by rw [e1]; exact o8.uf (by decide)
            have a1 : N1 83 10 = ts n t i + 1 := by rw [e1, ow_upN (Or.inr (by decide))]; exact a8
            have p1 : N1 83 11 = ts n t i := by rw [e1, ow_upN (Or.inr (by decide))]; exact p8
            refine cX12_nextToken_352 ?_
            rw [a1]
            refine tX12_byteAt hp (hx.fr o1 (by decide) (by decide)) (by omega) ⟨fun q => ?_, fun q => ?_⟩
            · have ek : kx n t i = ty_b n t (ts n t i) := by unfold kx tk_k; rw [if_neg (by omega), if_neg y2, if_neg y, if_neg (fun z => q z.2), if_pos (show tq_s (ty_b n t (ts n t i)) = true from decide_eq_true (by omega))]
              refine fin N1 o1 ?_ p1 ?_ (by omega) (by omega)
              · rw [a1]; unfold tk_e; rw [if_neg (by omega), if_neg y2, if_neg y, if_neg (fun z => q z.2)]
              · rw [e1, ow_upS, ek]; unfold tcode; rw [if_neg (by omega), if_neg (by omega), if_neg (by omega), if_neg (by omega)]
            · have ee : tk_e n t (ts n t i) = ts n t i + 1 + 1 := by unfold tk_e; rw [if_neg (by omega), if_neg y2, if_neg y, if_pos ⟨hc, q⟩]; omega
              rw [a1]
              refine ⟨⟨by omega, by omega⟩, fun N2 e2' => ⟨fun q2 N3 e3 => ?_, fun q2 N3 e3 => ?_⟩⟩
              · have ek : kx n t i = 257 := by unfold kx tk_k; rw [if_neg (by omega), if_neg y2, if_neg y, if_pos ⟨hc, q⟩, if_neg q2]
                refine fin N3 (by rw [e3, e2']; exact (o1.uf (by decide)).uf (by decide)) ?_ ?_ ?_ (by omega) (by omega)
                · rw [e3, ow_upN (Or.inr (by decide)), e2', ow_upS, ee]
                · rw [e3, ow_upN (Or.inr (by decide)), e2', ow_upN (Or.inr (by decide))]; exact p1
                · rw [e3, ow_upS, ek]; decide
              · have ek : kx n t i = 256 := by unfold kx tk_k; rw [if_neg (by omega), if_neg y2, if_neg y, if_pos ⟨hc, q⟩, if_pos q2]
                refine fin N3 (by rw [e3, e2']; exact (o1.uf (by decide)).uf (by decide)) ?_ ?_ ?_ (by omega) (by omega)
                · rw [e3, ow_upN (Or.inr (by decide)), e2', ow_upS, ee]
                · rw [e3, ow_upN (Or.inr (by decide)), e2', ow_upN (Or.inr (by decide))]; exact p1
                · rw [e3, ow_upS, ek]; decide
          have sgn : ∀ v, (v ≠ 0 ↔ tq_s (ty_b n t (ts n t i)) = true) → ow_At C (EM A L N) (d + 2) mX12_nextToken 326 [(0, (3, 83)), (1, (0, ty_b n t (ts n t i)))] [(0, v)] (0, 0) N8 K := by
            intro v hv
            have one : ∀ w, ¬ (ty_b n t (ts n t i) = 60 ∨ ty_b n t (ts n t i) = 62) → kx n t i = w → tcode w = w → w ≠ 1 → w ≠ 2 → ∀ N1, N1 = ow_up N8 83 12 w → K 0 N1 := by
              intro w hc ek tc w1 w2 N1 e1
              refine fin N1 (by rw [e1]; exact o8.uf (by decide)) ?_ (by rw [e1, ow_upN (Or.inr (by decide))]; exact p8) (by rw [e1, ow_upS, ek, tc]) (by omega) (by omega)
              rw [e1, ow_upN (Or.inr (by decide)), a8]
              unfold tk_e; rw [if_neg (by omega), if_neg y2, if_neg y, if_neg (fun z => hc z.1)]
            refine cX12_nextToken_326 ⟨fun q => ?_, fun q => ?_⟩
            · have ns : tq_s (ty_b n t (ts n t i)) ≠ true := fun z => hv.2 z q
              have hc : ¬ (ty_b n t (ts n t i) = 60 ∨ ty_b n t (ts n t i) = 62) := fun z => ns (decide_eq_true (by omega))
              refine cX12_nextToken_337 (fun N1 e1 => ⟨fun z => absurd (Or.inl z) hc, fun _ => ⟨fun _ => one 3 hc ?_ (by decide) (by decide) (by decide) N1 e1, fun z => absurd (Or.inr z) hc⟩⟩)
              unfold kx tk_k; rw [if_neg (by omega), if_neg y2, if_neg y, if_neg (fun z => hc z.1), if_neg ns]
            · have sg := hv.1 q
              have sg' := of_decide_eq_true sg
              refine cX12_nextToken_337 (fun N1 e1 => ⟨fun z => two (Or.inl z) N1 e1, fun z1 => ⟨fun z2 => one (ty_b n t (ts n t i)) (by omega) ?_ ?_ (by omega) (by omega) N1 e1, fun z => two (Or.inr z) N1 e1⟩⟩)
              · unfold kx tk_k; rw [if_neg (by omega), if_neg y2, if_neg y, if_neg (by omega), if_pos sg]
              · unfold tcode; rw [if_neg (by omega), if_neg (by omega), if_neg (by omega), if_neg (by omega)]
          have yes : tq_s (ty_b n t (ts n t i)) = true → ow_At C (EM A L N) (d + 2) mX12_nextToken 326 [(0, (3, 83)), (1, (0, ty_b n t (ts n t i)))] [(0, 1)] (0, 0) N8 K := fun z => sgn 1 ⟨fun _ => z, fun _ => by decide⟩
          refine ⟨fun q => yes (decide_eq_true (by omega)), fun q1 => ⟨fun q => yes (decide_eq_true (by omega)), fun q2 => ⟨fun q => yes (decide_eq_true (by omega)), fun q3 => ⟨fun q => yes (decide_eq_true (by omega)), fun q4 => ⟨fun q => yes (decide_eq_true (by omega)), fun q5 => ⟨fun q => yes (decide_eq_true (by omega)), fun q6 => ⟨fun q => yes (decide_eq_true (by omega)), fun q7 => ⟨fun q => yes (decide_eq_true (by omega)), fun q8 => ⟨fun q => yes (decide_eq_true (by omega)), fun q9 => ⟨fun q => yes (decide_eq_true (by omega)), fun q10 => ⟨fun q => sgn 0 ⟨fun z => absurd rfl z, fun z => ?_⟩, fun q => yes (decide_eq_true (by omega))⟩⟩⟩⟩⟩⟩⟩⟩⟩⟩⟩
          have := of_decide_eq_true z
          omega
    · have en : n ≤ ts n t i := by
        by_cases e : n ≤ ts n t i
        · exact e
        · have := hp.2.2 (ts n t i) tr.1 (by omega)
          rw [ty_in tr.1 (by omega)] at neg
          omega
      have ek : kx n t i = 0 := by unfold kx tk_k; rw [if_pos en]
      refine hK N13 (by rw [e13]; exact o4.uf (by decide)) ⟨?_, ?_, ?_, fun z => by omega, fun z => by omega⟩
      · rw [e13, ow_upN (Or.inr (by decide)), a4, eps]; unfold tk_e; rw [if_pos en]
      · rw [e13, ow_upN (Or.inr (by decide))]; exact p4
      · rw [e13, ow_upS, ek]; decide
  have loop : ∀ (f : Nat) (a : Int) (s : ow_M), n - a ≤ f → (0 ≤ a ∧ a ≤ n) → run n t tq_b a = ts n t i → ow_of [] [(83, 10), (83, 11), (83, 12), (83, 13), (83, 14)] M s → s 83 10 = a → ow_At C (EM A L N) (d + 2) mX12_nextToken 0 [(0, (3, 83))] [] (0, 0) s K := by
    intro f
    induction f with
    | zero =>
      intro a s hf ha hr os sa
      have ea : ts n t i = a := by rw [← hr, run_end (by omega)]
      refine body s os (by rw [sa, ea]) (by rw [ea, ty_no (by omega)]; decide)
    | succ f ih =>
      intro a s hf ha hr os sa
      by_cases y : tq_b (ty_b n t a) = true
      · have lt := (tq_lt (by decide) y).2
        have xs := hx.fr os (by decide) (by decide)
        have nxt : ∀ N2, N2 = ow_up s 83 10 (a + 1) → ow_At C (EM A L N) (d + 2) mX12_nextToken 0 [(0, (3, 83))] [] (0, 0) N2 K := fun N2 e2 => ih (a + 1) N2 (by omega) (by omega) (by rw [← run_yes lt y]; exact hr) (by rw [e2]; exact os.uf (by decide)) (by rw [e2, ow_upS])
        refine cX12_nextToken_0 ?_
        rw [sa]
        refine tX12_byteAt hp xs ha.1 ⟨fun q => ?_, fun q => ?_⟩
        · rw [sa]; exact ⟨⟨by omega, by omega⟩, nxt⟩
        · rw [sa]
          refine tX12_byteAt hp xs ha.1 ⟨fun q2 => ?_, fun q2 => ?_⟩
          · have := of_decide_eq_true y; omega
          · rw [sa]; exact ⟨⟨by omega, by omega⟩, nxt⟩
      · have ea : ts n t i = a := by rw [← hr, run_no y]
        exact body s os (by rw [sa, ea]) (by rw [ea]; exact y)
  exact ow_enter (by decide +kernel) rfl rfl (loop n.toNat (ps n t i.toNat) M (by omega) pr rfl ow_of.rf hat)
end NXS
