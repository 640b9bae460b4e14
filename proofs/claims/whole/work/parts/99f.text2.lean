/-! ===== a text, by both ===== -/
def qX (c : Int) (M M' : ow_M) : Prop := ∀ x i, ¬ (x = 0 ∧ (i = 6 ∨ i = 8 ∨ i = 12 ∨ i = 13)) → ¬ (22 + 6 * c ≤ x ∧ x ≤ 22 + 6 * c + 5) → x ≠ 46 → ¬ (53 ≤ x ∧ x ≤ 57) → x ≠ 88 → ¬ (x = 83 ∧ 7 ≤ i ∧ i ≤ 23) → ¬ (x = 84 ∧ i = 0) → ¬ (x = 86 ∧ 680 * c ≤ i ∧ i < 680 * c + 680) → M' x i = M x i
section TX2
variable {C : ow_C} {A L N : Int} {d : Nat} {n : Int} {t : Int → Int} {m r : Int}
theorem trx_M {M T : ow_M} {i : Int} (h : trx n t r M i T) : tx_M M r T := ⟨h.2.1, h.2.2.1, h.1.2.2.2.2⟩
theorem tX12_readText (ho : em_ok A L N) (hp : tp_ok n t) (hm : te_ok n t m) (hr : 0 ≤ r ∧ r < 4) {M T' : ow_M} {K : Int → ow_M → Prop} {f j : Int} {k : Nat} (hx : tp_M M n t) (hc : M 84 0 = r) (ht : txtR A L n t k 0 tx_0 f j T') (k1 : f = 0 → ∀ M', qT r M M' → tx_M M' r T' → K 0 M') (k2 : f ≠ 0 → ∀ M', qT r M M' → M' 83 11 = ts n t j → K f M') : ow_Sp C (EM A L N) (d + 9) mX12_readText (0, 0) [(3, 83)] M K := by
  refine fX12_readText ?_
  rw [hc]
  refine ⟨⟨by omega, by omega⟩, fun N1 e1 => ?_⟩
  have v15 : N1 83 15 = 680 * r := by rw [e1, ow_upS]
  rw [v15]
  refine ⟨⟨by omega, by omega⟩, fun N2 e2 N3 e3 N4 e4 N5 e5 N6 e6 => ?_⟩
  have s6 : ∀ x i, ¬ (x = 83 ∧ (i = 10 ∨ i = 15 ∨ i = 17 ∨ i = 21 ∨ i = 23)) → ¬ (x = 86 ∧ i = 680 * r) → N6 x i = M x i := fun x i z1 z2 => by rw [e6, ow_upN (by omega), e5, ow_upN (by omega), e4, ow_upN (by omega), e3, ow_upN (by omega), e2, ow_upN (by omega), e1, ow_upN (by omega)]
  have x6 : tp_M N6 n t := ⟨by rw [s6 _ _ (by omega) (by omega)]; exact hx.1, fun i i0 i1 => by rw [s6 _ _ (by omega) (by omega)]; exact hx.2 i i0 i1⟩
  refine tX12_nextToken hp x6 (Int.le_refl 0) (by rw [e6, ow_upS]; rfl) (fun M7 o7 rf7 => ?_)
  have s7 : ∀ x i, ¬ (x = 83 ∧ 10 ≤ i ∧ i ≤ 14) → M7 x i = N6 x i := fun x i z => o7 x i (by simp) (by simp <;> omega)
  have q7 : qT r M M7 := fun x i z1 z2 z3 => by rw [s7 _ _ (by omega), s6 _ _ (by omega) (by omega)]
  have t7 : trx n t r M7 0 tx_0 := by
    refine ⟨⟨rf7, ⟨by rw [s7 _ _ (by omega)]; exact x6.1, fun i i0 i1 => by rw [s7 _ _ (by omega)]; exact x6.2 i i0 i1⟩, ?_, ?_, fun k k0 k1' => ?_⟩, ?_, fun k k0 k1' => ?_, ?_, ?_⟩
    · rw [s7 _ _ (by omega), e6, ow_upN (Or.inr (by decide)), e5, ow_upN (Or.inr (by decide)), e4, ow_upN (Or.inr (by decide)), e3, ow_upN (Or.inr (by decide)), e2, ow_upN (Or.inl (by decide))]; exact v15
    · rw [s7 _ _ (by omega), e6, ow_upN (Or.inr (by decide)), e5, ow_upN (Or.inr (by decide)), e4, ow_upN (Or.inr (by decide)), e3, ow_upS]; rfl
    · have : k < 0 := k1'
      omega
    · rw [s7 _ _ (by omega), e6, ow_upN (Or.inl (by decide)), e5, ow_upN (Or.inl (by decide)), e4, ow_upN (Or.inl (by decide)), e3, ow_upN (Or.inl (by decide)), e2, ow_upS]; rfl
    · have : k < 0 := k1'
      omega
    · rw [s7 _ _ (by omega), e6, ow_upN (Or.inr (by decide)), e5, ow_upN (Or.inr (by decide)), e4, ow_upS]
    · rw [s7 _ _ (by omega), e6, ow_upN (Or.inr (by decide)), e5, ow_upS]; rfl
  have loop : ∀ (k : Nat) (i f j : Int) (T T' s : ow_M), qT r M s → trx n t r s i T → tq m i T → txtR A L n t k i T f j T' → (f = 0 → ∀ M', qT r M M' → tx_M M' r T' → K 0 M') → (f ≠ 0 → ∀ M', qT r M M' → M' 83 11 = ts n t j → K f M') → ow_At C (EM A L N) (d + 9) mX12_readText 48 [(0, (3, 83))] [] (0, 0) s K := by
    intro k
    induction k with
    | zero =>
      intro i f j T T' s os hs hq hl k1 k2
      obtain ⟨kz, hf, hT⟩ := hl
      have e12 : s 83 12 = tcode (kx n t i) := hs.1.1.2.2.1
      refine cX12_readText_48 ⟨fun _ => k1 hf s os (by rw [hT]; exact trx_M hs), fun z => ?_⟩
      rw [e12, kz] at z
      exact absurd rfl z
    | succ k ih =>
      intro i f j T T' s os hs hq hl k1 k2
      obtain ⟨kz, f1, j1, T1, hc1, hl⟩ := hl
      have e12 : s 83 12 = tcode (kx n t i) := hs.1.1.2.2.1
      refine cX12_readText_48 ⟨fun z => absurd ((tcode_rg kx_45).2.2.2.2.1.1 (by rw [← e12]; exact z)) kz, fun _ => tX12_clause (m := m) ho hp hm hr hs hq hc1 (fun M2 q2 rf2 g2 => ⟨fun z => ?_, fun z => ?_⟩)⟩
      · obtain ⟨g3, g4⟩ := g2 z
        rcases hl with hl | ⟨_, hl⟩
        · exact absurd z hl.1
        · exact ih j1 f j T1 T' M2 (os.tr q2) g3 g4 hl k1 k2
      · rcases hl with hl | hl
        · rw [← hl.2.1]
          exact k2 (by omega) M2 (os.tr q2) (by rw [hl.2.2]; exact rf2.2.1)
        · exact absurd hl.1 z
  exact loop k 0 f j tx_0 T' M7 q7 t7 ⟨Or.inl rfl, Or.inl rfl, ⟨Int.le_refl 0, by show (0 : Int) ≤ 24; decide⟩, ⟨Int.le_refl 0, Int.le_refl 0⟩, hm.1.1⟩ ht k1 k2
/-- what is kept by reading a text -/
theorem gx_tx {M M2 Tf : ow_M} {c c' rr_ r' c2 : Int} {TT : Int → ow_M} (h : gx N M c c' rr_ r' TT) (o : qX c M M2) (hc2 : c2 = c ∨ c2 = c + 1) (c4 : c < 4) (e1 : M2 0 8 = c2) (e2 : M2 84 0 = c2) (hn : c2 = c + 1 → tx_fo Tf ∧ tx_cl N Tf ∧ tx_C M2 (22 + 6 * c) Tf ∧ tx_M M2 c Tf) : gx N M2 c2 c' rr_ r' (fun i => if i = c then Tf else TT i) := by
  obtain ⟨a1, a2, a3, a4, a5, a6, a7⟩ := h
  refine ⟨⟨e1, ?_, ?_, ?_⟩, ⟨e2, ?_, ?_, ?_⟩, by omega, by omega, a5, fun i i0 i1 => ?_, ?_⟩
  · rw [o 0 9 (by omega) (by omega) (by omega) (by omega) (by omega) (by omega) (by omega) (by omega)]; exact a1.2.1
  · rw [o 0 10 (by omega) (by omega) (by omega) (by omega) (by omega) (by omega) (by omega) (by omega)]; exact a1.2.2.1
  · rw [o 0 11 (by omega) (by omega) (by omega) (by omega) (by omega) (by omega) (by omega) (by omega)]; exact a1.2.2.2
  · rw [o 85 0 (by omega) (by omega) (by omega) (by omega) (by omega) (by omega) (by omega) (by omega)]; exact a2.2.1
  · rw [o 84 1 (by omega) (by omega) (by omega) (by omega) (by omega) (by omega) (by omega) (by omega)]; exact a2.2.2.1
  · rw [o 85 1 (by omega) (by omega) (by omega) (by omega) (by omega) (by omega) (by omega) (by omega)]; exact a2.2.2.2
  · show tx_fo (if i = c then Tf else TT i) ∧ tx_cl N (if i = c then Tf else TT i) ∧ tx_C M2 (22 + 6 * i) (if i = c then Tf else TT i) ∧ tx_M M2 i (if i = c then Tf else TT i)
    by_cases z : i = c
    · rw [if_pos z, z]
      exact hn (by omega)
    · rw [if_neg z]
      obtain ⟨b1, b2, b3, b4⟩ := a6 i i0 (by omega)
      have t00 := b2.1
      have t01 := b1.2.2.2.1
      refine ⟨b1, b2, b3.fr (fun x y x0 x1 => o x y (by omega) (by omega) (by omega) (by omega) (by omega) (by omega) (by omega) (by omega)), ?_⟩
      have s : ∀ y, 680 * i ≤ y → y < 680 * i + 680 → M2 86 y = M 86 y := fun y y0 y1 => o 86 y (by omega) (by omega) (by omega) (by omega) (by omega) (by omega) (by omega) (by omega)
      refine ⟨by rw [s _ (by omega) (by omega)]; exact b4.1, fun k k0 k1 => ?_, fun k k0 k1 => ?_⟩
      · rw [s _ (by omega) (by omega), s _ (by omega) (by omega), s _ (by omega) (by omega)]; exact b4.2.1 k k0 k1
      · rw [s _ (by omega) (by omega), s _ (by omega) (by omega)]; exact b4.2.2 k k0 k1
  · rw [o 58 6 (by omega) (by omega) (by omega) (by omega) (by omega) (by omega) (by omega) (by omega)]; exact a7
theorem gs_tx {M M2 : ow_M} {c c' rr_ r' c2 : Int} {TT TT2 : Int → ow_M} (hG : gs A L N M) (g : gx N M2 c2 c' rr_ r' TT2) (gv : vw_R A L (gs_T TT rr_) M) (eT : gs_T TT2 rr_ = gs_T TT rr_) (c0 : 0 ≤ c ∧ c < 4) (o : qX c M M2) (ht : gs_t M2) (hf : gs_f M2) : gs A L N M2 := by
  obtain ⟨⟨g1, g2⟩, ⟨g3, g4⟩, g5, g6, _, g8, g9⟩ := hG
  have p : ∀ x i, x ≠ 0 → ¬ (22 ≤ x ∧ x ≤ 57) → x ≠ 88 → x ≠ 83 → x ≠ 86 → ¬ (x = 84 ∧ i = 0) → M2 x i = M x i := fun x i h1 h2 h3 h4 h5 h6 => o x i (by omega) (by omega) (by omega) (by omega) h3 (by omega) h6 (by omega)
  refine ⟨⟨g1.mv (p _ _ (by decide) (by decide) (by decide) (by decide) (by decide) (by decide)) (fun x i h0 h1 => p x i (by omega) (by omega) (by omega) (by omega) (by omega) (by omega)) (fun i hi => p 84 i (by decide) (by decide) (by decide) (by decide) (by decide) (by omega)), g2.mv (p _ _ (by decide) (by decide) (by decide) (by decide) (by decide) (by decide)) (fun x i h0 h1 => p x i (by omega) (by omega) (by omega) (by omega) (by omega) (by omega)) (fun i => p 85 i (by decide) (by decide) (by decide) (by decide) (by decide) (by omega))⟩, ⟨g3.mv (fun i _ => p 14 i (by decide) (by decide) (by decide) (by decide) (by decide) (by omega)) (fun x i h0 h1 => p x i (by omega) (by omega) (by omega) (by omega) (by omega) (by omega)) (fun i hi => p 84 i (by decide) (by decide) (by decide) (by decide) (by decide) (by omega)), g4.mv (fun i => p 18 i (by decide) (by decide) (by decide) (by decide) (by decide) (by omega)) (fun x i h0 h1 => p x i (by omega) (by omega) (by omega) (by omega) (by omega) (by omega)) (fun i => p 85 i (by decide) (by decide) (by decide) (by decide) (by decide) (by omega))⟩, ht, hf, ⟨c2, c', rr_, r', TT2, g, ?_⟩, ?_, ?_⟩
  · rw [eT]
    exact gv.mv (p _ _ (by decide) (by decide) (by decide) (by decide) (by decide) (by decide)) (fun i => p 62 i (by decide) (by decide) (by decide) (by decide) (by decide) (by omega)) (fun i => p 63 i (by decide) (by decide) (by decide) (by decide) (by decide) (by omega))
  · unfold ct_C
    rw [p 77 3 (by decide) (by decide) (by decide) (by decide) (by decide) (by decide), p 77 4 (by decide) (by decide) (by decide) (by decide) (by decide) (by decide)]
    exact g8
  · unfold cc_C
    rw [p 80 3 (by decide) (by decide) (by decide) (by decide) (by decide) (by decide), p 80 4 (by decide) (by decide) (by decide) (by decide) (by decide) (by decide)]
    exact g9
theorem s_text {M : ow_M} {K : Int → Int → ow_M → Prop} (h : em_ok A L N) (hG : gs A L N M) (hK : ∀ r N2, gs A L N N2 → K r r N2) : ow_2 C A L N (d + 60) mX11_text mX12_text [] M K := by
  have hG0 := hG
  obtain ⟨n, t, hp, hC, hM⟩ := hG.2.2.1
  obtain ⟨_, _, _, _, ⟨c, c', r', r'', TT, gx1, gv⟩, _, _⟩ := hG0
  have a1 := gx1.1.1
  have a2 := gx1.2.1.1
  have a3 := gx1.2.2.1
  have a4 := gx1.2.2.2.1
  have eT : ∀ Tf, gs_T (fun i => if i = c then Tf else TT i) r' = gs_T TT r' := by
    intro Tf
    unfold gs_T
    by_cases z : r' < 0
    · rw [if_pos z, if_pos z]
    · rw [if_neg z, if_neg z]
      show (if r' = c then Tf else TT r') = TT r'
      rw [if_neg (by omega)]
  refine fX11_text ?_
  rw [a1]
  refine ⟨fun z => by omega, fun _ => ⟨fun c4 => ⟨⟨by omega, c4⟩, ?_⟩, fun c4 => ?_⟩⟩
  · rw [hC.1]
    have z0 : ∀ s : ow_M, s 0 6 = 0 → s 83 7 = 0 → gs_t s := fun s z1 z2 => ⟨0, t, ⟨Int.le_refl 0, by decide, fun i i0 i1 => by omega⟩, ⟨z1, fun i i0 i1 => by omega⟩, ⟨z2, fun i i0 i1 => by omega⟩⟩
    -- the class's last steps
    have cls : ∀ (f j m : Int) (k : Nat) (T' M1 N4 : ow_M), te_ok n t m → txtR A L n t k 0 tx_0 f j T' → rH c M M1 → N4 = ow_up (ow_up (ow_up M1 0 12 f) 0 13 (M1 46 5)) 0 6 0 → (f = 0 → M1 46 5 = -1 ∧ tx_fo (txF M1 (22 + 6 * c) T') ∧ tx_cl N (txF M1 (22 + 6 * c) T') ∧ tx_C M1 (22 + 6 * c) (txF M1 (22 + 6 * c) T')) → (f ≠ 0 → M1 46 5 = ts n t j) → ∀ N5 v, (f = 0 → N5 = ow_up N4 0 8 (c + 1) ∧ v = c) → (f ≠ 0 → N5 = N4 ∧ v = -1) → ow_Sp C (EM A L N) (d + 60) mX12_text (0, 0) [(3, 83)] N5 (fun r2 N6 => K v r2 N6) := by
      intro f j m k T' M1 N4 hm ht oH e4 hf0 hf1 N5 v h5 h6
      have s5 : ∀ x i, ¬ (x = 0 ∧ (i = 6 ∨ i = 8 ∨ i = 12 ∨ i = 13)) → N5 x i = M1 x i := by
        intro x i z
        by_cases hf : f = 0
        · rw [(h5 hf).1, ow_upN (by omega), e4, ow_upN (by omega), ow_upN (by omega), ow_upN (by omega)]
        · rw [(h6 hf).1, e4, ow_upN (by omega), ow_upN (by omega), ow_upN (by omega)]
      have p5 : ∀ x i, x ≠ 0 → x ≠ 46 → ¬ (22 + 6 * c ≤ x ∧ x ≤ 22 + 6 * c + 5) → ¬ (53 ≤ x ∧ x ≤ 57) → N5 x i = M x i := fun x i z1 z2 z3 z4 => by rw [s5 _ _ (by omega), oH x i z2 z3 z4]
      have f12 : N5 0 12 = f := by
        by_cases hf : f = 0
        · rw [(h5 hf).1, ow_upN (Or.inr (by decide)), e4, ow_upN (Or.inr (by decide)), ow_upN (Or.inr (by decide)), ow_upS]
        · rw [(h6 hf).1, e4, ow_upN (Or.inr (by decide)), ow_upN (Or.inr (by decide)), ow_upS]
      have f13 : N5 0 13 = M1 46 5 := by
        by_cases hf : f = 0
        · rw [(h5 hf).1, ow_upN (Or.inr (by decide)), e4, ow_upN (Or.inr (by decide)), ow_upS]
        · rw [(h6 hf).1, e4, ow_upN (Or.inr (by decide)), ow_upS]
      have f6 : N5 0 6 = 0 := by
        by_cases hf : f = 0
        · rw [(h5 hf).1, ow_upN (Or.inr (by decide)), e4, ow_upS]
        · rw [(h6 hf).1, e4, ow_upS]
      have f8 : N5 0 8 = if f = 0 then c + 1 else c := by
        by_cases hf : f = 0
        · rw [(h5 hf).1, ow_upS, if_pos hf]
        · rw [(h6 hf).1, e4, ow_upN (Or.inr (by decide)), ow_upN (Or.inr (by decide)), ow_upN (Or.inr (by decide)), oH 0 8 (by omega) (by omega) (by omega), if_neg hf]; exact a1
      have hM5 : tp_M N5 n t := ⟨by rw [p5 _ _ (by omega) (by omega) (by omega) (by omega)]; exact hM.1, fun i i0 i1 => by rw [p5 _ _ (by omega) (by omega) (by omega) (by omega)]; exact hM.2 i i0 i1⟩
      have c5 : N5 84 0 = c := by rw [p5 _ _ (by omega) (by omega) (by omega) (by omega)]; exact a2
      have q5 : qX c M N5 := fun x i z1 z2 z3 z4 z5 z6 z7 z8 => by rw [s5 _ _ z1, oH x i z3 z2 z4]
      refine fX12_text ?_
      rw [c5]
      refine ⟨fun _ => tX12_readText (d := d + 50) h hp hm ⟨by omega, c4⟩ hM5 c5 ht (fun hf M6 q6 g6 N7 e7 => ?_) (fun hf M6 q6 g6 N7 e7 => ?_), fun z => by omega⟩
      · -- without a fault
        have e78 : N7 83 8 = 0 := by rw [e7, ow_upS]
        rw [e78]
        refine ⟨fun z => absurd rfl z, fun _ => cX12_text_36 (fun N8 e8 N9 e9 => ?_)⟩
        have e98 : N9 83 8 = 0 := by rw [e9, ow_upN (Or.inr (by decide)), e8, ow_upN (Or.inr (by decide))]; exact e78
        have s9 : ∀ x i, ¬ (x = 83 ∧ (i = 7 ∨ i = 8 ∨ i = 9)) → N9 x i = M6 x i := fun x i z => by rw [e9, ow_upN (by omega), e8, ow_upN (by omega), e7, ow_upN (by omega)]
        have e90 : N9 84 0 = c := by rw [s9 _ _ (by omega), q6 84 0 (by decide) (by omega) (by omega)]; exact c5
        rw [e98, e90]
        refine ⟨fun _ => ⟨⟨by omega, by omega⟩, fun N10 e10 => ?_⟩, fun z => absurd rfl z⟩
        have e100 : N10 84 0 = c + 1 := by rw [e10, ow_upS]
        rw [e100]
        refine ⟨⟨by omega, by omega⟩, ?_⟩
        have hv := (h5 hf).2
        rw [hv, show c + 1 - 1 = c by omega]
        obtain ⟨m5, tf, tcl_, tC⟩ := hf0 hf
        have s10 : ∀ x i, ¬ (x = 84 ∧ i = 0) → N10 x i = N9 x i := fun x i z => by rw [e10, ow_upN (by omega)]
        have qq : qX c M N10 := fun x i z1 z2 z3 z4 z5 z6 z7 z8 => by rw [s10 _ _ z7, s9 _ _ (by omega), q6 x i z5 (by omega) z8]; exact q5 x i z1 z2 z3 z4 z5 z6 z7 z8
        have tc10 : ∀ x i, (22 ≤ x ∧ x ≤ 45) → N10 x i = M1 x i := fun x i z => by rw [s10 _ _ (by omega), s9 _ _ (by omega), q6 x i (by omega) (by omega) (by omega), s5 _ _ (by omega)]
        have tM : tx_M N10 c (txF M1 (22 + 6 * c) T') := txF_M (g6.mv (fun x => by rw [s10 _ _ (by omega), s9 _ _ (by omega)]))
        refine hK c N10 (gs_tx hG (gx_tx (c2 := c + 1) gx1 qq (Or.inr rfl) c4 ?_ e100 (fun _ => ⟨tf, tcl_, tC.fr (fun x i x0 x1 => tc10 x i (by omega)), tM⟩)) gv (eT _) ⟨by omega, c4⟩ qq (z0 N10 ?_ ?_) ⟨?_, ?_⟩)
        · rw [s10 _ _ (by omega), s9 _ _ (by omega), q6 0 8 (by decide) (by omega) (by omega), f8, if_pos hf]
        · rw [s10 _ _ (by omega), s9 _ _ (by omega), q6 0 6 (by decide) (by omega) (by omega)]; exact f6
        · rw [s10 _ _ (by omega), e9, ow_upS]
        · rw [s10 _ _ (by omega), s9 _ _ (by omega), q6 0 12 (by decide) (by omega) (by omega), f12, s10 _ _ (by omega), e98]; exact hf
        · rw [s10 _ _ (by omega), s9 _ _ (by omega), q6 0 13 (by decide) (by omega) (by omega), f13, m5, s10 _ _ (by omega), e9, ow_upN (Or.inr (by decide)), e8, ow_upS]
      · -- with a fault
        have e78 : N7 83 8 = f := by rw [e7, ow_upS]
        have e711 : N7 83 11 = ts n t j := by rw [e7, ow_upN (Or.inr (by decide))]; exact g6
        rw [e78, e711]
        refine ⟨fun _ => cX12_text_36 (fun N8 e8 N9 e9 => ?_), fun z => absurd z hf⟩
        have e98 : N9 83 8 = f := by rw [e9, ow_upN (Or.inr (by decide)), e8, ow_upN (Or.inr (by decide))]; exact e78
        have s9 : ∀ x i, ¬ (x = 83 ∧ (i = 7 ∨ i = 8 ∨ i = 9)) → N9 x i = M6 x i := fun x i z => by rw [e9, ow_upN (by omega), e8, ow_upN (by omega), e7, ow_upN (by omega)]
        have e90 : N9 84 0 = c := by rw [s9 _ _ (by omega), q6 84 0 (by decide) (by omega) (by omega)]; exact c5
        rw [e98]
        refine ⟨fun z => absurd z hf, fun _ => ?_⟩
        have hv := (h6 hf).2
        rw [hv]
        have qq : qX c M N9 := fun x i z1 z2 z3 z4 z5 z6 z7 z8 => by rw [s9 _ _ (by omega), q6 x i z5 (by omega) z8]; exact q5 x i z1 z2 z3 z4 z5 z6 z7 z8
        refine hK (-1) N9 (gs_tx hG (gx_tx (c2 := c) (Tf := tx_0) gx1 qq (Or.inl rfl) c4 ?_ e90 (fun z => by omega)) gv (eT _) ⟨by omega, c4⟩ qq (z0 N9 ?_ ?_) ⟨?_, ?_⟩)
        · rw [s9 _ _ (by omega), q6 0 8 (by decide) (by omega) (by omega), f8, if_neg hf]
        · rw [s9 _ _ (by omega), q6 0 6 (by decide) (by omega) (by omega)]; exact f6
        · rw [e9, ow_upS]
        · rw [s9 _ _ (by omega), q6 0 12 (by decide) (by omega) (by omega), f12, e98]
        · rw [s9 _ _ (by omega), q6 0 13 (by decide) (by omega) (by omega), f13, hf1 hf, e9, ow_upN (Or.inr (by decide)), e8, ow_upS]
    refine tX6_read (D := d + 27) hp ⟨by omega, c4⟩ h hC.2 (fun M1 T' m j k oH hm m5 tf tcl_ tC ht N2 e2 N3 e3 N4 e4 => ?_) (fun M1 f j m k oH hm hf m5 ht N2 e2 N3 e3 N4 e4 => ?_)
    · have e25 : N2 46 5 = M1 46 5 := by rw [e2, ow_upN (Or.inl (by decide))]
      have g4 : N4 = ow_up (ow_up (ow_up M1 0 12 0) 0 13 (M1 46 5)) 0 6 0 := by rw [e4, e3, e25, e2]
      have v12 : N4 0 12 = 0 := by rw [g4, ow_upN (Or.inr (by decide)), ow_upN (Or.inr (by decide)), ow_upS]
      have v8 : N4 0 8 = c := by rw [g4, ow_upN (Or.inr (by decide)), ow_upN (Or.inr (by decide)), ow_upN (Or.inr (by decide)), oH 0 8 (by omega) (by omega) (by omega)]; exact a1
      rw [v12, v8]
      refine ⟨fun _ => ⟨⟨by omega, by omega⟩, fun N5 e5 => ?_⟩, fun z => absurd rfl z⟩
      have v85 : N5 0 8 = c + 1 := by rw [e5, ow_upS]
      rw [v85]
      exact ⟨⟨by omega, by omega⟩, cls 0 j m k T' M1 N4 hm ht oH g4 (fun _ => ⟨m5, tf, tcl_, tC⟩) (fun z => absurd rfl z) N5 _ (fun _ => ⟨e5, by omega⟩) (fun z => absurd rfl z)⟩
    · have e25 : N2 46 5 = M1 46 5 := by rw [e2, ow_upN (Or.inl (by decide))]
      have g4 : N4 = ow_up (ow_up (ow_up M1 0 12 f) 0 13 (M1 46 5)) 0 6 0 := by rw [e4, e3, e25, e2]
      have v12 : N4 0 12 = f := by rw [g4, ow_upN (Or.inr (by decide)), ow_upN (Or.inr (by decide)), ow_upS]
      rw [v12]
      exact ⟨fun z => absurd z hf, fun _ => cls f j m k tx_0 M1 N4 hm ht oH g4 (fun z => absurd z hf) (fun _ => m5) N4 _ (fun z => absurd z hf) (fun _ => ⟨rfl, rfl⟩)⟩
  · have c44 : c = 4 := by omega
    refine fX12_text ⟨fun z => by omega, fun _ => hK (-1) M hG⟩
end TX2
