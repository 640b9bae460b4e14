/-! ===== the class's ways, whole ===== -/
def ct_C (M : ow_M) : Prop := (M 77 3 = 78 ∧ M 77 4 = 79) ∨ (M 77 3 = 79 ∧ M 77 4 = 78)
def cn_ok (A L N : Int) (T M : ow_M) (into : Int) (k : Nat) (h : Int) : Prop := ∀ w b, 0 ≤ w → w < N → (h = 0 → b = 0) → (h ≠ 0 → 1 ≤ b) → 0 ≤ b → b ≤ L → M (M 77 3) (w * (L + 1) + b) = bw A L T into k h w b
section CN3
variable {C : ow_C} {A L N : Int} {d : Nat} {M T : ow_M} {K : Int → ow_M → Prop}
theorem vw_tab {M' : ow_M} {n : Int} {F : List (Int × Int)} (hT : vw_T A L T M n) (o : ow_of [78, 79] F M M') (h1 : (62 : Int) ∉ F.map Prod.fst) (h2 : (63 : Int) ∉ F.map Prod.fst) : vw_T A L T M' n := hT.cg (o.at (by decide) h1) (o.at (by decide) h2)
theorem tX2_count (h : em_ok A L N) (hc : ct_C M) {into n : Int} (hn : 0 ≤ n ∧ n ≤ 8) (hi : 0 ≤ into ∧ into < N) (hT : vw_T A L T M (vx A L n 0 0 0)) (hK : ∀ M', ow_of [78, 79] [(77, 3), (77, 4)] M M' → ct_C M' → cn_ok A L N T M' into n.toNat 0 → K 0 M') : ow_Sp C (EM A L N) (d + 2) mX2_count (0, 0) [(3, 77), (0, into), (0, n)] M K := by
  have hL := h.2.2.2.1
  have hL3 := h.2.2.1
  have hN := em_Npos h
  have hN2 := h.2.2.2.2.2
  have hNL := em_NL h
  obtain ⟨u, hu⟩ : ∃ u, M 77 3 = u := ⟨_, rfl⟩
  have hu0 : u = 78 ∨ u = 79 := by rcases hc with e | e <;> omega
  have uS : u ∈ [(78 : Int), 79] := by rcases hu0 with e | e <;> subst e <;> decide
  have u77 : (77 : Int) ∉ [u] := by rcases hu0 with e | e <;> subst e <;> decide
  have off2 : ∀ M1 M2 c, (c = 78 ∨ c = 79) → ow_off [c] M1 M2 → ow_of [78, 79] [(77, 3), (77, 4)] M1 M2 := by
    intro M1 M2 c hc o
    exact (ow_of.off o).mono (fun x hx => by simp at hx; subst hx; rcases hc with e | e <;> subst e <;> decide) (fun x hx => by simp at hx)
  -- the hands, from the last one on
  have hands : ∀ s, ow_of [78, 79] [(77, 3), (77, 4)] M s → ct_C s → cn_ok A L N T s into 0 n → ow_At C (EM A L N) (d + 2) mX2_count 47 [(0, (3, 77)), (3, (0, n - 1))] [] (0, 0) s K := by
    intro s0 os0 cs0 ts0
    refine ow_dnto (S := ow_M) (P := fun i s => ow_At C (EM A L N) (d + 2) mX2_count 47 [(0, (3, 77)), (3, (0, i))] [] (0, 0) s K) (I := fun i s => i < n ∧ ow_of [78, 79] [(77, 3), (77, 4)] M s ∧ ct_C s ∧ cn_ok A L N T s into (n - 1 - i).toNat (i + 1)) (fun s hI => ?_) (fun i s i0 hI ih => ?_) (n - 1) s0 (by omega) ⟨by omega, os0, cs0, by rw [show (n - 1 - (n - 1)).toNat = 0 by omega, show n - 1 + 1 = n by omega]; exact ts0⟩
    · obtain ⟨_, i2, i3, i4⟩ := hI
      rw [show (n - 1 - -1).toNat = n.toNat by omega] at i4
      exact cX2_count_47 ⟨fun _ => hK s i2 i3 i4, fun q => by omega⟩
    · obtain ⟨i1, i2, i3, i4⟩ := hI
      obtain ⟨a, ha⟩ : ∃ a, s 77 3 = a := ⟨_, rfl⟩
      obtain ⟨b, hb⟩ : ∃ b, s 77 4 = b := ⟨_, rfl⟩
      have hab : (b = 78 ∧ a = 79) ∨ (b = 79 ∧ a = 78) := by rcases i3 with e | e <;> omega
      have hb0 : b = 78 ∨ b = 79 := by omega
      refine cX2_count_47 ⟨fun q => by omega, fun _ => ?_⟩
      rw [hb, ha]
      intro N1 e1 N2 e2
      have n3 : N2 77 3 = b := by rw [e2, ow_upN (Or.inr (by decide)), e1, ow_upS]
      have n4 : N2 77 4 = a := by rw [e2, ow_upS]
      rw [n3]
      have o2 : ow_of [78, 79] [(77, 3), (77, 4)] M N2 := by rw [e2, e1]; exact (i2.uf (by decide)).uf (by decide)
      have b77 : (77 : Int) ∉ [b] := by rcases hb0 with e | e <;> subst e <;> decide
      have ba : a ∉ [b] := by rcases hab with e | e <;> rw [e.1, e.2] <;> decide
      have na : ∀ y, N2 a y = s a y := fun y => by
        have : a ≠ 77 := by omega
        rw [e2, ow_upN (Or.inl this), e1, ow_upN (Or.inl this)]
      refine tJ7_fillL h hb0 (fun M3 o3 z3 => ?_)
      have o3' := o2.tr (off2 N2 M3 b hb0 o3)
      refine ow_upto (S := ow_M) (P := fun w s => ow_At C (EM A L N) (d + 2) mX2_count 82 [(0, (3, 77)), (3, (0, i)), (5, (0, w))] [] (0, 0) s K) (I := fun w t => 0 ≤ w ∧ ow_off [b] N2 t ∧ (∀ x k, 0 ≤ x → x < w → cn_lo i ≤ k → k ≤ cn_hi L i → t b (x * (L + 1) + k) = bw A L T into ((n - 1 - i).toNat + 1) i x k) ∧ ∀ x k, w ≤ x → x < N → 0 ≤ k → k ≤ L → t b (x * (L + 1) + k) = 0) N (fun t hI => ?_) (fun w t w1 hI ih2 => ?_) 0 M3 (by omega) ⟨by omega, o3, fun x k x0 x1 => by omega, fun x k x0 x1 k0 k1 => ?_⟩
      · obtain ⟨_, j2, j3, j4⟩ := hI
        have t3 : t 77 3 = b := by rw [j2 77 b77]; exact n3
        have t4 : t 77 4 = a := by rw [j2 77 b77]; exact n4
        refine cX2_count_82 ⟨fun _ => ⟨⟨by omega, by omega⟩, ih t ⟨by omega, o2.tr (off2 N2 t b hb0 j2), ?_, ?_⟩⟩, fun q => by omega⟩
        · unfold ct_C; rw [t3, t4]; omega
        · intro x k x0 x1 k2 k3 k0 k1
          rw [t3, show (n - 1 - (i - 1)).toNat = (n - 1 - i).toNat + 1 by omega, show i - 1 + 1 = i by omega]
          rw [show i - 1 + 1 = i by omega] at k2 k3
          refine j3 x k x0 x1 ?_ ?_
          · unfold cn_lo; split <;> omega
          · unfold cn_hi; split <;> omega
      · obtain ⟨w0, j2, j3, j4⟩ := hI
        have t3 : t 77 3 = b := by rw [j2 77 b77]; exact n3
        have t4 : t 77 4 = a := by rw [j2 77 b77]; exact n4
        have ot := o2.tr (off2 N2 t b hb0 j2)
        have lr := cn_rg (L := L) (hand := i) (by omega)
        refine cX2_count_82 ⟨fun q => by omega, fun _ => tX2_countWord (T := T) (into := into) (k := (n - 1 - i).toNat) h hn.2 (vw_tab hT ot (by decide) (by decide)) (by omega) hab t3 t4 ⟨i0, i1⟩ ⟨w0, w1⟩ (fun k k0 k1 => j4 w k (by omega) w1 k0 k1) (fun x k x0 x1 k0 k1 => ?_) (fun M4 o4 t5 y5 => ⟨⟨by omega, by omega⟩, ih2 M4 ⟨by omega, j2.tr o4, fun x k x0 x1 k0 k1 => ?_, fun x k x0 x1 k0 k1 => ?_⟩⟩)⟩
        · rw [j2 a ba, na]
          have := i4 x k x0 x1 (fun z => by omega) (fun _ => k0) (by omega) k1
          rw [ha] at this
          exact this
        · by_cases e : x = w
          · rw [e]; exact t5 k k0 k1
          · have := vw_63 (L := L) (x := w) (y := x) (k := k) (by omega) (by omega) ⟨by omega, by omega⟩
            rw [y5 _ (by omega)]; exact j3 x k x0 (by omega) k0 k1
        · have := vw_63 (L := L) (x := x) (y := w) (k := L) (by omega) (by omega) ⟨by omega, by omega⟩
          rw [y5 _ (by omega)]; exact j4 x k (by omega) x1 k0 k1
      · have r := vx_b (a := x) (X := N) (b := k) (Y := L + 1) ⟨by omega, x1⟩ ⟨by omega, by omega⟩
        exact z3 _ r.1 r.2.1
  refine fX2_count ?_
  rw [hu]
  refine tJ7_fillL h hu0 (fun M1 o1 z1 => ?_)
  refine ow_upto (S := ow_M) (P := fun b s => ow_At C (EM A L N) (d + 2) mX2_count 10 [(0, (3, 77)), (1, (0, into)), (2, (0, n)), (3, (0, b))] [] (0, 0) s K) (I := fun b s => 0 ≤ b ∧ ow_off [u] M s ∧ (∀ y, 0 ≤ y → y < N * (L + 1) → s u y = if into * (L + 1) ≤ y ∧ y < into * (L + 1) + b then 1 else 0)) (L + 1) (fun s hI => ?_) (fun b s b1 hI ih => ?_) 0 M1 (by omega) ⟨by omega, o1, fun y y0 y1 => by rw [z1 y y0 y1, if_neg (by omega)]⟩
  · obtain ⟨_, i2, i3⟩ := hI
    have s3 : s 77 3 = u := by rw [i2 77 u77]; exact hu
    have s4 : s 77 4 = M 77 4 := i2 77 u77 4
    refine cX2_count_10 ⟨fun _ => ⟨⟨by omega, by omega⟩, ?_⟩, fun q => by omega⟩
    rw [show min n 8 = n by omega]
    refine hands s (off2 M s u hu0 i2) (by unfold ct_C; rw [s3, s4, ← hu]; exact hc) (fun w b w0 w1 _ _ b0 b1 => ?_)
    have r := vx_b (a := w) (X := N) (b := b) (Y := L + 1) ⟨w0, w1⟩ ⟨b0, by omega⟩
    rw [s3, i3 _ r.1 r.2.1]
    show _ = if w = into then (1 : Int) else 0
    by_cases e : w = into
    · rw [if_pos e, if_pos (by rw [e]; omega)]
    · rw [if_neg e, if_neg (fun z => ?_)]
      by_cases e2 : w < into
      · have := vw_63 (L := L) (x := into) (y := w) (k := b) (by omega) e2 ⟨b0, b1⟩
        omega
      · have := vw_63 (L := L) (x := w) (y := into) (k := L) (by omega) (by omega) ⟨by omega, by omega⟩
        omega
  · obtain ⟨b0, i2, i3⟩ := hI
    have s3 : s 77 3 = u := by rw [i2 77 u77]; exact hu
    have r := vx_b (a := into) (X := N) (b := b) (Y := L + 1) hi ⟨b0, by omega⟩
    have a6 := em_bd (a := into) (x := 256) (b := L + 1) (y := 9) hi.1 (by omega) (by omega) (by omega)
    obtain ⟨cs1, cs2, cs3, cs4⟩ := em_lg (A := A) (L := L) (N := N) (M := s) hu0
    refine cX2_count_10 ⟨fun q => by omega, fun _ => ?_⟩
    rw [s3]
    refine ⟨⟨by omega, by omega⟩, ⟨by omega, by omega⟩, ⟨cs1.1, cs1.2.1, cs1.2.2, r.1, by rw [cs2]; exact r.2.1⟩, cs4 _, fun N1 e1 => ⟨⟨by omega, by omega⟩, ih N1 ⟨by omega, by rw [e1]; exact i2.up (List.mem_singleton.2 rfl), fun y y0 y1 => ?_⟩⟩⟩
    by_cases e : y = into * (L + 1) + b
    · rw [e, e1, ow_upS, if_pos (by omega)]
    · rw [e1, ow_upN (Or.inr e), i3 y y0 y1]
      have e2 : (into * (L + 1) ≤ y ∧ y < into * (L + 1) + (b + 1)) = (into * (L + 1) ≤ y ∧ y < into * (L + 1) + b) := propext ⟨fun z => by omega, fun z => by omega⟩
      simp only [e2]
theorem tX2_waysOf (h : em_ok A L N) (hc : ct_C M) {into fr : Int} {k : Nat} (ht : cn_ok A L N T M into k 0) (hw : 0 ≤ fr ∧ fr < N) (hK : K (bw A L T into k 0 fr 0) M) : ow_Sp C (EM A L N) d mX2_waysOf (0, 0) [(3, 77), (0, fr)] M K := by
  have hL := h.2.2.2.1
  have hL3 := h.2.2.1
  have hu0 : M 77 3 = 78 ∨ M 77 3 = 79 := by rcases hc with e | e <;> omega
  obtain ⟨cs1, cs2, cs3, cs4⟩ := em_lg (A := A) (L := L) (N := N) (M := M) hu0
  have r := vx_b (a := fr) (X := N) (b := 0) (Y := L + 1) hw ⟨by omega, by omega⟩
  have a6 := em_bd (a := fr) (x := 256) (b := L + 1) (y := 9) hw.1 (by have := h.2.2.2.2.2; omega) (by omega) (by omega)
  have e := ht fr 0 hw.1 hw.2 (fun _ => rfl) (fun z => absurd rfl z) (by omega) (by omega)
  rw [Int.add_zero] at e r
  refine fX2_waysOf ⟨⟨by omega, by omega⟩, ⟨cs1.1, cs1.2.1, cs1.2.2, r.1, by rw [cs2]; exact r.2.1⟩, ?_⟩
  rw [cs3, e]
  exact hK
theorem tX11_ways (h : em_ok A L N) (hc : cu_C N M T) (hv : vw_R A L T M) (hcn : ct_C M) {fr into n : Int} (h0 : ¬ as_ok N fr into n → K (-1) M) (hK : as_ok N fr into n → ∀ M', ow_of [60, 61, 62, 63, 78, 79] [(59, 2), (58, 5), (77, 3), (77, 4)] M M' → vw_R A L T M' → ct_C M' → K (bw A L T into n.toNat 0 fr 0) M') : ow_Sp C (EM A L N) (d + 6) mX11_ways (0, 0) [(3, 0), (0, fr), (0, into), (0, n)] M K := by
  refine fX11_ways (tX10_isWord (fun q => ⟨fun _ => h0 (fun z => q z.1.1), fun z => absurd rfl z⟩) (fun q1 => ⟨fun z => absurd z (by decide), fun _ => tX10_isWord (fun q => ⟨fun _ => h0 (fun z => q z.1.2), fun z => absurd rfl z⟩) (fun q2 => ⟨fun z => absurd z (by decide), fun _ => tX11_isHands (fun q => ⟨fun z => absurd rfl z, fun _ => h0 (fun z => q z.2)⟩) (fun q3 => ⟨fun _ => ?_, fun z => absurd z (by decide)⟩)⟩)⟩))
  refine tX9_prepare h hc hv q3 (fun M1 o1 v1 t1 => ?_)
  have c1 : ct_C M1 := by unfold ct_C; rw [o1.at (by decide) (by decide), o1.at (by decide) (by decide)]; exact hcn
  refine tX2_count h c1 q3 q2 t1 (fun M2 o2 c2 n2 => tX2_waysOf h c2 n2 q1 (hK ⟨⟨q1, q2⟩, q3⟩ M2 ?_ ?_ c2))
  · exact (o1.mono (fun c hc => by simp at hc; rcases hc with e | e | e | e <;> subst e <;> decide) (fun x hx => by simp at hx; rcases hx with e | e <;> subst e <;> exact Or.inr (by decide))).tr (o2.mono (fun c hc => by simp at hc; rcases hc with e | e <;> subst e <;> decide) (fun x hx => by simp at hx; rcases hx with e | e <;> subst e <;> exact Or.inr (by decide)))
  · unfold vw_R
    rw [o2 58 5 (by decide) (by decide)]
    exact ⟨v1.1, vw_tab v1.2 o2 (by decide) (by decide)⟩
end CN3
