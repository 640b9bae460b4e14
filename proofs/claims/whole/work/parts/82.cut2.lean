/-! ===== one token more, and all of them ===== -/
def kx (n : Int) (t : Int → Int) (i : Int) : Int := tk_k n t (ts n t i)
def nx (n : Int) (t : Int → Int) (i : Int) : Int := tk_n n t (ts n t i)
def vx_t (A L n : Int) (t : Int → Int) (i : Int) : Int := tk_v A L n t (ts n t i)
/-- m tokens, then the end -/
def te_ok (n : Int) (t : Int → Int) (m : Int) : Prop := (0 ≤ m ∧ m ≤ 300) ∧ (∀ j, 0 ≤ j → j < m → ts n t j < n) ∧ ts n t m = n
def tz_r (A L n : Int) (t : Int → Int) (M : ow_M) (i : Int) : Prop := M 54 i = kx n t i ∧ M 55 i = ts n t i ∧ M 56 i = nx n t i ∧ (kx n t i = 1 ∨ kx n t i = 2 → M 57 i = vx_t A L n t i)
def tz (A L n : Int) (t : Int → Int) (M : ow_M) (m : Int) : Prop := M 53 5 = m + 1 ∧ ∀ i, 0 ≤ i → i ≤ m → tz_r A L n t M i
section CT2
variable {C : ow_C} {A L N : Int} {d : Nat} {M : ow_M} {K : Int → ow_M → Prop} {n : Int} {t : Int → Int}
/-- what one token changes -/
def co_f (s : Int) (M M' : ow_M) : Prop := ow_of [54, 55, 56, 57] [(53, 5)] M M' ∧ ∀ c i, (54 ≤ c ∧ c ≤ 57) → i ≠ s → M' c i = M c i
theorem co_f.rf {s : Int} : co_f s M M := ⟨ow_of.rf, fun _ _ _ _ => rfl⟩
theorem co_f.up {s : Int} {M' : ow_M} {c v : Int} (h : co_f s M M') (hc : c = 54 ∨ c = 55 ∨ c = 56 ∨ c = 57) : co_f s M (ow_up M' c s v) := ⟨h.1.up (by rcases hc with e | e | e | e <;> subst e <;> decide), fun c' i h1 h2 => by rw [ow_upN (Or.inr h2)]; exact h.2 c' i h1 h2⟩
theorem co_f.us {s : Int} {M' : ow_M} {v : Int} (h : co_f s M M') : co_f s M (ow_up M' 53 5 v) := ⟨h.1.uf (by decide), fun c' i h1 h2 => by rw [ow_upN (Or.inl (by omega))]; exact h.2 c' i h1 h2⟩
theorem tX8_cutOne (h : em_ok A L N) (hp : tp_ok n t) (hx : tb_C M n t) {s p : Int} (hs : M 53 5 = s) (s0 : 0 ≤ s ∧ s < 300) (h0 : 0 ≤ p) (h1 : p < n) (hK : ∀ M', co_f s M M' → M' 53 5 = s + 1 → M' 54 s = tk_k n t p → M' 55 s = p → M' 56 s = tk_n n t p → (tk_k n t p = 1 ∨ tk_k n t p = 2 → M' 57 s = tk_v A L n t p) → K (tk_e n t p) M') : ow_Sp C (EM A L N) (d + 6) mX8_cutOne (0, 0) [(3, 53), (0, p)] M K := by
  have n3 := hp.2.1
  have rg := ty_rg hp p
  refine fX8_cutOne (tX8_byteAt hp hx ⟨⟨by omega, by omega⟩, ?_⟩)
  rw [hs]
  refine ⟨⟨by omega, by omega⟩, fun N2 e2 => ?_⟩
  have c2 : co_f s M N2 := by rw [e2]; exact co_f.rf.up (by decide)
  have s2 : N2 53 5 = s := by rw [e2, ow_upN (Or.inl (by decide))]; exact hs
  rw [s2]
  refine ⟨⟨by omega, by omega⟩, fun N3 e3 => ?_⟩
  have c3 : co_f s M N3 := by rw [e3]; exact c2.up (by decide)
  have x3 := hx.fr c3.1
  have s3 : N3 53 5 = s := by rw [e3, ow_upN (Or.inl (by decide))]; exact s2
  have v56 : N3 56 s = -1 := by rw [e3, ow_upN (Or.inl (by decide)), e2, ow_upS]
  have v55 : N3 55 s = p := by rw [e3, ow_upS]
  refine tX8_isLetter (fun y => ⟨fun z => absurd z (by decide), fun _ => ?_⟩) (fun y => ⟨fun _ => ?_, fun z => absurd rfl z⟩)
  · -- letters
    have ek : tk_k n t p = 1 := by unfold tk_k; rw [if_neg (by omega), if_pos y]
    have ee : tk_e n t p = run n t tq_l p := by unfold tk_e; rw [if_neg (by omega), if_pos y]
    have er := run_rg (t := t) (q := tq_l) (show p ≤ n by omega)
    refine tX8_lettersStop hp x3 h0 (by omega) ?_
    rw [s3]
    refine ⟨⟨by omega, by omega⟩, fun N5 e5 => ?_⟩
    have c5 : co_f s M N5 := by rw [e5]; exact c3.up (by decide)
    have s5 : N5 53 5 = s := by rw [e5, ow_upN (Or.inl (by decide))]; exact s3
    refine tX8_nameOf hp (hx.fr c5.1) h0 er.1 er.2 ?_
    rw [s5]
    refine ⟨⟨by omega, by omega⟩, fun N7 e7 => ?_⟩
    have c7 : co_f s M N7 := by rw [e7]; exact c5.up (by decide)
    have s7 : N7 53 5 = s := by rw [e7, ow_upN (Or.inl (by decide))]; exact s5
    refine tX8_wordOf h hp (hx.fr c7.1) h0 er.1 er.2 ?_
    rw [s7]
    refine ⟨⟨by omega, by omega⟩, fun N9 e9 => ?_⟩
    have c9 : co_f s M N9 := by rw [e9]; exact c7.up (by decide)
    have s9 : N9 53 5 = s := by rw [e9, ow_upN (Or.inl (by decide))]; exact s7
    rw [s9]
    refine ⟨⟨by omega, by omega⟩, fun N10 e10 => ?_⟩
    rw [← ee]
    refine hK N10 (by rw [e10]; exact c9.us) (by rw [e10, ow_upS]) ?_ ?_ ?_ (fun _ => ?_)
    · rw [e10, ow_upN (Or.inl (by decide)), e9, ow_upN (Or.inl (by decide)), e7, ow_upN (Or.inl (by decide)), e5, ow_upS, ek]
    · rw [e10, ow_upN (Or.inl (by decide)), e9, ow_upN (Or.inl (by decide)), e7, ow_upN (Or.inl (by decide)), e5, ow_upN (Or.inl (by decide))]; exact v55
    · rw [e10, ow_upN (Or.inl (by decide)), e9, ow_upN (Or.inl (by decide)), e7, ow_upS]
      unfold tk_n; rw [if_pos ek, ee]
    · rw [e10, ow_upN (Or.inl (by decide)), e9, ow_upS]
      unfold tk_v; rw [if_pos ek, ee]
  · refine tX8_isDigit (fun y2 => ⟨fun z => absurd z (by decide), fun _ => ?_⟩) (fun y2 => ⟨fun _ => ?_, fun z => absurd rfl z⟩)
    · -- digits
      have ek : tk_k n t p = 2 := by unfold tk_k; rw [if_neg (by omega), if_neg y, if_pos y2]
      have ee : tk_e n t p = run n t tq_d p := by unfold tk_e; rw [if_neg (by omega), if_neg y, if_pos y2]
      have er := run_rg (t := t) (q := tq_d) (show p ≤ n by omega)
      have al := run_all (t := t) (q := tq_d) (by decide) h0 (show p ≤ n by omega)
      refine tX8_digitsStop hp x3 h0 (by omega) ?_
      rw [s3]
      refine ⟨⟨by omega, by omega⟩, fun N5 e5 => ?_⟩
      have c5 : co_f s M N5 := by rw [e5]; exact c3.up (by decide)
      have s5 : N5 53 5 = s := by rw [e5, ow_upN (Or.inl (by decide))]; exact s3
      refine tX8_numberOf hp (hx.fr c5.1) h0 er.1 er.2 al.1 ?_
      rw [s5]
      refine ⟨⟨by omega, by omega⟩, fun N9 e9 => ?_⟩
      have c9 : co_f s M N9 := by rw [e9]; exact c5.up (by decide)
      have s9 : N9 53 5 = s := by rw [e9, ow_upN (Or.inl (by decide))]; exact s5
      rw [s9]
      refine ⟨⟨by omega, by omega⟩, fun N10 e10 => ?_⟩
      rw [← ee]
      refine hK N10 (by rw [e10]; exact c9.us) (by rw [e10, ow_upS]) ?_ ?_ ?_ (fun _ => ?_)
      · rw [e10, ow_upN (Or.inl (by decide)), e9, ow_upN (Or.inl (by decide)), e5, ow_upS, ek]
      · rw [e10, ow_upN (Or.inl (by decide)), e9, ow_upN (Or.inl (by decide)), e5, ow_upN (Or.inl (by decide))]; exact v55
      · rw [e10, ow_upN (Or.inl (by decide)), e9, ow_upN (Or.inl (by decide)), e5, ow_upN (Or.inl (by decide)), v56]
        unfold tk_n; rw [if_neg (by omega)]
      · rw [e10, ow_upN (Or.inl (by decide)), e9, ow_upS]
        unfold tk_v; rw [if_neg (by omega), ee]
    · -- signs
      have fin : ∀ v q, tk_k n t p = v → tk_e n t p = q → ¬ (v = 1 ∨ v = 2) → (0 ≤ s ∧ s < 301) ∧ ∀ N1, N1 = ow_up N3 54 s v → ow_I (N1 53 5 + 1) ∧ ∀ N2, N2 = ow_up N1 53 5 (N1 53 5 + 1) → K q N2 := by
        intro v q ek ee hv
        refine ⟨⟨by omega, by omega⟩, fun N5 e5 => ?_⟩
        have s5 : N5 53 5 = s := by rw [e5, ow_upN (Or.inl (by decide))]; exact s3
        rw [s5]
        refine ⟨⟨by omega, by omega⟩, fun N6 e6 => ?_⟩
        rw [← ee]
        refine hK N6 (by rw [e6, e5]; exact (c3.up (by decide)).us) (by rw [e6, ow_upS]) ?_ ?_ ?_ (fun z => by rw [ek] at z; exact absurd z hv)
        · rw [e6, ow_upN (Or.inl (by decide)), e5, ow_upS, ek]
        · rw [e6, ow_upN (Or.inl (by decide)), e5, ow_upN (Or.inl (by decide))]; exact v55
        · rw [e6, ow_upN (Or.inl (by decide)), e5, ow_upN (Or.inl (by decide)), v56]
          unfold tk_n; rw [if_neg (by omega)]
      have one : ¬ ((ty_b n t p = 60 ∨ ty_b n t p = 62) ∧ ty_b n t (p + 1) = 61) → ow_At C (EM A L N) (d + 6) mX8_cutOne 179 [(0, (3, 53)), (2, (0, ty_b n t p)), (3, (0, p + 1))] [] (0, 0) N3 K := by
        intro hno
        have ee : tk_e n t p = p + 1 := by unfold tk_e; rw [if_neg (by omega), if_neg y, if_neg y2, if_neg hno]
        refine cX8_cutOne_179 (tX8_isSign (fun z => ⟨fun q => absurd q (by decide), fun _ => ?_⟩) (fun z => ⟨fun _ => ?_, fun q => absurd rfl q⟩))
        · rw [s3]
          refine cX8_cutOne_199 (fin _ _ (by unfold tk_k; rw [if_neg (by omega), if_neg y, if_neg y2, if_neg hno, if_pos z]) ee ?_)
          have := of_decide_eq_true z
          omega
        · rw [s3]
          exact cX8_cutOne_199 (fin _ _ (by unfold tk_k; rw [if_neg (by omega), if_neg y, if_neg y2, if_neg hno, if_neg z]) ee (by omega))
      have two : (ty_b n t p = 60 ∨ ty_b n t p = 62) → ow_At C (EM A L N) (d + 6) mX8_cutOne 139 [(0, (3, 53)), (2, (0, ty_b n t p)), (3, (0, p + 1))] [] (0, 0) N3 K := by
        intro hc
        refine cX8_cutOne_139 (tX8_byteAt hp x3 ⟨fun q => one (fun z => q z.2), fun q => ⟨⟨by omega, by omega⟩, ?_, ?_⟩⟩)
        · intro q2
          rw [s3]
          refine cX8_cutOne_175 (fin _ _ (by unfold tk_k; rw [if_neg (by omega), if_neg y, if_neg y2, if_pos ⟨hc, q⟩, if_neg q2]) (by unfold tk_e; rw [if_neg (by omega), if_neg y, if_neg y2, if_pos ⟨hc, q⟩]; omega) (by omega))
        · intro q2
          rw [s3]
          refine cX8_cutOne_175 (fin _ _ (by unfold tk_k; rw [if_neg (by omega), if_neg y, if_neg y2, if_pos ⟨hc, q⟩, if_pos q2]) (by unfold tk_e; rw [if_neg (by omega), if_neg y, if_neg y2, if_pos ⟨hc, q⟩]; omega) (by omega))
      exact ⟨fun q => two (Or.inl q), fun q => ⟨fun q2 => one (fun z => by rcases z.1 with z | z; exact q z; exact q2 z), fun q2 => two (Or.inr q2)⟩⟩
theorem tX8_cut (h : em_ok A L N) (hp : tp_ok n t) (hT : ∀ i, 0 ≤ i → i < n → M 1 i = t i) (hK : ∀ M' m, ow_of [54, 55, 56, 57] [(53, 5), (53, 6), (53, 7)] M M' → te_ok n t m → tz A L n t M' m → K 0 M') : ow_Sp C (EM A L N) (d + 7) mX8_cut (0, 0) [(3, 53), (3, 1), (0, n)] M K := by
  have n0 := hp.1
  have n3 := hp.2.1
  have e1 : ((EM A L N).2.1 1).1 = 100 ∧ ((EM A L N).2.1 1).2 = 300 := ⟨rfl, rfl⟩
  refine fX8_cut (fun N1 q1 => ⟨fun _ => ⟨⟨by decide, (show (1 : Int) < 102 by decide), e1.1, by rw [e1.2]; decide, by rw [e1.2]; decide⟩, ?_⟩, fun z => absurd z (by decide)⟩)
  rw [e1.2, show max 0 (min n 300) = n by omega]
  intro N2 q2 N3 q3
  have o3 : ow_of [54, 55, 56, 57] [(53, 5), (53, 6), (53, 7)] M N3 := by rw [q3, q2, q1]; exact ((ow_of.rf.uf (by decide)).uf (by decide)).uf (by decide)
  have x3 : tb_C N3 n t := by
    refine ⟨?_, ?_, fun i i0 i1 => ?_⟩
    · rw [q3, ow_upN (Or.inr (by decide)), q2, ow_upN (Or.inr (by decide)), q1, ow_upS]
    · rw [q3, ow_upN (Or.inr (by decide)), q2, ow_upS]
    · rw [o3.at (by decide) (by decide)]; exact hT i i0 i1
  have s3 : N3 53 5 = 0 := by rw [q3, ow_upS]
  have wide : ∀ {s s'}, ow_of [54, 55, 56, 57] [(53, 5)] s s' → ow_of [54, 55, 56, 57] [(53, 5), (53, 6), (53, 7)] s s' := fun {s s'} o => o.mono (fun c hc => hc) (fun x hx => by simp at hx; subst hx; exact Or.inr (by decide))
  -- the end
  have fin : ∀ s k, ow_of [54, 55, 56, 57] [(53, 5)] N3 s → s 53 5 = k → (0 ≤ k ∧ k ≤ 300) → (∀ j, 0 ≤ j → j < k → ts n t j < n) → ts n t k = n → (∀ j, 0 ≤ j → j < k → tz_r A L n t s j) → ow_At C (EM A L N) (d + 7) mX8_cut 92 [(0, (3, 53))] [] (0, 0) s K := by
    intro s k os sk kr lt en rows
    have xs := x3.fr os
    refine cX8_cut_92 ?_
    rw [sk]
    refine ⟨⟨by omega, by omega⟩, fun N5 e5 => ?_⟩
    have s5 : N5 53 5 = k := by rw [e5, ow_upN (Or.inl (by decide))]; exact sk
    rw [s5]
    refine ⟨⟨by omega, by omega⟩, fun N6 e6 => ?_⟩
    have s6 : N6 53 5 = k := by rw [e6, ow_upN (Or.inl (by decide))]; exact s5
    rw [s6]
    refine ⟨⟨by omega, by omega⟩, fun N7 e7 => ?_⟩
    have s7 : N7 53 5 = k := by rw [e7, ow_upN (Or.inl (by decide))]; exact s6
    rw [s7]
    refine ⟨⟨by omega, by omega⟩, fun N8 e8 => ?_⟩
    have o8 : ow_of [54, 55, 56, 57] [(53, 5)] s N8 := by rw [e8, e7, e6, e5]; exact (((ow_of.rf.up (by decide)).up (by decide)).up (by decide)).uf (by decide)
    have kz : tk_k n t (ts n t k) = 0 := by rw [en]; unfold tk_k; rw [if_pos (Int.le_refl n)]
    refine hK N8 k (o3.tr (wide (os.tr o8))) ⟨kr, lt, en⟩ ⟨by rw [e8, ow_upS], fun i i0 i1 => ?_⟩
    by_cases e : i = k
    · subst e
      refine ⟨?_, ?_, ?_, fun z => ?_⟩
      · rw [e8, ow_upN (Or.inl (by decide)), e7, ow_upN (Or.inl (by decide)), e6, ow_upN (Or.inl (by decide)), e5, ow_upS]; exact kz.symm
      · rw [e8, ow_upN (Or.inl (by decide)), e7, ow_upN (Or.inl (by decide)), e6, ow_upS, e5, ow_upN (Or.inl (by decide)), xs.2.1, en]
      · rw [e8, ow_upN (Or.inl (by decide)), e7, ow_upS]; unfold nx tk_n; rw [if_neg (by rw [kz]; decide)]
      · unfold kx at z; rw [kz] at z; omega
    · have same : ∀ c, (54 ≤ c ∧ c ≤ 57) → N8 c i = s c i := by
        intro c hc
        rw [e8, ow_upN (Or.inl (by omega)), e7, ow_upN (Or.inr e), e6, ow_upN (Or.inr e), e5, ow_upN (Or.inr e)]
      obtain ⟨a1, a2, a3, a4⟩ := rows i i0 (by omega)
      unfold tz_r
      rw [same 54 (by decide), same 55 (by decide), same 56 (by decide), same 57 (by decide)]
      exact ⟨a1, a2, a3, a4⟩
  -- bytes one by one
  have loop : ∀ (f : Nat) (at_ i k : Int) (s : ow_M), n - at_ ≤ f → (0 ≤ i ∧ i ≤ at_) → (0 ≤ at_ ∧ at_ ≤ n) → run n t tq_b at_ = ts n t k → (0 ≤ k ∧ k ≤ at_) → (∀ j, 0 ≤ j → j < k → ts n t j < n) → ow_of [54, 55, 56, 57] [(53, 5)] N3 s → s 53 5 = k → (∀ j, 0 ≤ j → j < k → tz_r A L n t s j) → ow_At C (EM A L N) (d + 7) mX8_cut 37 [(0, (3, 53)), (3, (0, at_)), (4, (0, i))] [] (0, 0) s K := by
    intro f
    induction f with
    | zero =>
      intro at_ i k s hf hi ha hr hk lt os sk rows
      have xs := x3.fr os
      have en : ts n t k = n := by rw [← hr, run_end (by omega)]; omega
      have go := fin s k os sk ⟨hk.1, by omega⟩ lt en rows
      refine cX8_cut_37 ⟨fun _ => go, fun _ => ⟨fun _ => go, fun q => ?_⟩⟩
      rw [xs.2.1] at q; omega
    | succ f ih =>
      intro at_ i k s hf hi ha hr hk lt os sk rows
      have xs := x3.fr os
      by_cases en : n ≤ at_
      · have en' : ts n t k = n := by rw [← hr, run_end en]; omega
        have go := fin s k os sk ⟨hk.1, by omega⟩ lt en' rows
        refine cX8_cut_37 ⟨fun _ => go, fun _ => ⟨fun _ => go, fun q => ?_⟩⟩
        rw [xs.2.1] at q; omega
      · refine cX8_cut_37 ⟨fun q => by omega, fun _ => ⟨fun q => by rw [xs.2.1] at q; omega, fun _ => ⟨fun q => by rw [sk] at q; omega, fun _ => tX8_byteAt hp xs (tX8_isBlank (fun y => ⟨fun z => absurd z (by decide), fun _ => ⟨⟨by omega, by omega⟩, ⟨by omega, by omega⟩, ih (at_ + 1) (i + 1) k s (by omega) (by omega) (by omega) (by rw [← run_yes (by omega) y]; exact hr) (by omega) lt os sk rows⟩⟩) (fun y => ⟨fun _ => ?_, fun z => absurd rfl z⟩))⟩⟩⟩
        have ea : ts n t k = at_ := by rw [← hr, run_no y]
        refine tX8_cutOne h hp xs sk ⟨hk.1, by omega⟩ ha.1 (by omega) (fun M4 c4 s4 a1 a2 a3 a4 => ?_)
        have er := tk_e_rg (t := t) ha.1 (show at_ < n by omega)
        have st := ts_step (t := t) n0 hk.1 (show ts n t k < n by omega)
        have lt' : ∀ j, 0 ≤ j → j < k + 1 → ts n t j < n := by
          intro j j0 j1
          by_cases e : j = k
          · rw [e]; omega
          · exact lt j j0 (by omega)
        refine ⟨⟨by omega, by omega⟩, ih (tk_e n t at_) (i + 1) (k + 1) M4 (by omega) (by omega) (by omega) ?_ (by omega) lt' (os.tr c4.1) s4 (fun j j0 j1 => ?_)⟩
        · show run n t tq_b (tk_e n t at_) = run n t tq_b (ps n t (k + 1).toNat)
          rw [st.2, ea]
        · by_cases e : j = k
          · subst e
            unfold tz_r kx nx vx_t
            rw [ea]
            exact ⟨a1, a2, a3, a4⟩
          · obtain ⟨b1, b2, b3, b4⟩ := rows j j0 (by omega)
            unfold tz_r
            rw [c4.2 54 j (by decide) e, c4.2 55 j (by decide) e, c4.2 56 j (by decide) e, c4.2 57 j (by decide) e]
            exact ⟨b1, b2, b3, b4⟩
  exact loop n.toNat 0 0 0 N3 (by omega) ⟨by omega, by omega⟩ ⟨by omega, n0⟩ rfl ⟨by omega, by omega⟩ (fun j j0 j1 => by omega) ow_of.rf s3 (fun j j0 j1 => by omega)
end CT2
