/-! ===== a text's clauses ===== -/
def tx_ct (T : ow_M) (s k : Int) : Int := ow_ct (fun j => decide (T 1 j = s)) k
def tx_cl (N : Int) (T : ow_M) : Prop := (0 ≤ T 0 0 ∧ T 0 0 ≤ 24) ∧ (∀ k, 0 ≤ k → k < T 0 0 → (0 ≤ T 1 k ∧ T 1 k ≤ 3) ∧ (T 1 k = 0 → T 0 4 = 1 ∧ T 2 k = T 0 5 ∧ T 3 k = T 0 6) ∧ (T 1 k = 1 → T 0 7 = 1 ∧ T 2 k = T 0 8 ∧ T 3 k = T 0 9) ∧ (T 1 k = 2 → T 5 (tx_ct T 2 k) = T 2 k ∧ T 6 (tx_ct T 2 k) = T 3 k) ∧ (T 1 k = 3 → T 7 (tx_ct T 3 k) = T 2 k ∧ T 8 (tx_ct T 3 k) = T 3 k)) ∧ (T 0 4 = 1 → ∃ k, 0 ≤ k ∧ k < T 0 0 ∧ T 1 k = 0) ∧ (T 0 7 = 1 → ∃ k, 0 ≤ k ∧ k < T 0 0 ∧ T 1 k = 1) ∧ T 0 2 = tx_ct T 2 (T 0 0) ∧ T 0 3 = tx_ct T 3 (T 0 0) ∧ (∀ e, 0 ≤ e → e < T 0 2 → (0 ≤ T 5 e ∧ T 5 e < N) ∧ 1 ≤ T 6 e ∧ T 6 e ≤ 9) ∧ ∀ e, 0 ≤ e → e < T 0 3 → 0 ≤ T 7 e ∧ T 7 e ≤ T 8 e ∧ T 8 e ≤ 8
def tx_M (M : ow_M) (i : Int) (T : ow_M) : Prop := M 86 (680 * i) = T 0 0 ∧ (∀ k, 0 ≤ k → k < T 0 0 → M 86 (680 * i + 1 + 3 * k) = T 1 k ∧ M 86 (680 * i + 1 + 3 * k + 1) = T 2 k ∧ M 86 (680 * i + 1 + 3 * k + 2) = T 3 k) ∧ ∀ k, 0 ≤ k → k < T 0 1 → M 86 (680 * i + 75 + 2 * k) = cm_o (T 4 k) ∧ M 86 (680 * i + 75 + 2 * k + 1) = cm_v (T 4 k)
/-- the text that rules, on the reference's side -/
def cu_M (N : Int) (M T : ow_M) : Prop := tx_fo T ∧ tx_cl N T ∧ ((M 84 1 = -1 ∧ T 0 0 = 0) ∨ ((0 ≤ M 84 1 ∧ M 84 1 < 4) ∧ tx_M M (M 84 1) T))
def tx_0 : ow_M := fun _ _ => 0
theorem tx_0_fo : tx_fo tx_0 := ⟨Or.inl rfl, Or.inl rfl, Or.inl rfl, ⟨by decide, by decide⟩, fun h => absurd h (by decide), fun h => absurd h (by decide), fun _ k k0 k1 => by
  have : k < 0 := k1
  omega⟩
theorem tx_0_cl {N : Int} : tx_cl N tx_0 := by
  refine ⟨⟨by decide, by decide⟩, fun k k0 k1 => ?_, fun h => absurd h (by decide), fun h => absurd h (by decide), rfl, rfl, fun e e0 e1 => ?_, fun e e0 e1 => ?_⟩
  · have : k < 0 := k1
    omega
  · have : e < 0 := e1
    omega
  · have : e < 0 := e1
    omega
theorem tx_cl.no {N : Int} {T : ow_M} (h : tx_cl N T) (h0 : T 0 0 = 0) (hf : tx_fo T) : T 0 4 = 0 ∧ T 0 7 = 0 := by
  refine ⟨?_, ?_⟩
  · rcases hf.1 with e | e
    · exact e
    · obtain ⟨k, k0, k1, _⟩ := h.2.2.1 e
      omega
  · rcases hf.2.1 with e | e
    · exact e
    · obtain ⟨k, k0, k1, _⟩ := h.2.2.2.1 e
      omega
section RLS
variable {C : ow_C} {A L N : Int} {d : Nat} {M T : ow_M} {K : Int → ow_M → Prop}
theorem tX12_clauseOf (hc : cu_M N M T) {s : Int} (h1 : (∀ k, 0 ≤ k → k < T 0 0 → T 1 k ≠ s) → K (-1) M) (h2 : ∀ k, 0 ≤ k → k < T 0 0 → T 1 k = s → K k M) : ow_Sp C (EM A L N) d mX12_clauseOf (0, 0) [(3, 83), (0, s)] M K := by
  obtain ⟨hf, hl, hr⟩ := hc
  have hn := hl.1
  refine fX12_clauseOf ?_
  rcases hr with ⟨r1, r2⟩ | ⟨r1, r2, r3, r4⟩
  · refine cX12_clauseOf_2 ⟨fun _ => h1 (fun k k0 k1 => by omega), fun q => by omega⟩
  · refine ow_upto (S := Unit) (P := fun k _ => ow_At C (EM A L N) d mX12_clauseOf 2 [(0, (3, 83)), (1, (0, s)), (2, (0, k))] [] (0, 0) M K) (I := fun k _ => 0 ≤ k ∧ ∀ j, 0 ≤ j → j < k → T 1 j ≠ s) (T 0 0) (fun _ hI => ?_) (fun k _ k1 hI ih => ?_) 0 () (by omega) ⟨by omega, fun j j0 j1 => by omega⟩
    · refine cX12_clauseOf_2 ⟨fun q => by omega, fun _ => ⟨⟨by omega, by omega⟩, ⟨by omega, by omega⟩, ?_⟩⟩
      rw [r2]
      exact ⟨fun _ => h1 hI.2, fun q => by omega⟩
    · obtain ⟨k0, k2⟩ := hI
      refine cX12_clauseOf_2 ⟨fun q => by omega, fun _ => ⟨⟨by omega, by omega⟩, ⟨by omega, by omega⟩, ?_⟩⟩
      rw [r2, (r3 k k0 k1).1]
      refine ⟨fun q => by omega, fun _ => ⟨⟨by omega, by omega⟩, ⟨by omega, by omega⟩, ⟨by omega, by omega⟩, ⟨by omega, by omega⟩, fun q => ⟨⟨by omega, by omega⟩, ih () ⟨by omega, fun j j0 j1 => ?_⟩⟩, fun q => h2 k k0 k1 q⟩⟩
      by_cases e : j = k
      · rw [e]; exact q
      · exact k2 j j0 (by omega)
theorem tx_M.fr {M' : ow_M} {i : Int} {S : List Int} {F : List (Int × Int)} (h : tx_M M i T) (o : ow_of S F M M') (h1 : (86 : Int) ∉ S) (h2 : (86 : Int) ∉ F.map Prod.fst) : tx_M M' i T := by
  have e := o.at h1 h2
  refine ⟨by rw [e]; exact h.1, fun k k0 k1 => by rw [e, e, e]; exact h.2.1 k k0 k1, fun k k0 k1 => by rw [e, e]; exact h.2.2 k k0 k1⟩
theorem cu_M.fr {M' : ow_M} {S : List Int} {F : List (Int × Int)} (h : cu_M N M T) (o : ow_of S F M M') (h1 : (86 : Int) ∉ S) (h2 : (86 : Int) ∉ F.map Prod.fst) (h3 : (84 : Int) ∉ S) (h4 : ((84 : Int), (1 : Int)) ∉ F) : cu_M N M' T := by
  obtain ⟨a1, a2, a3⟩ := h
  have e : M' 84 1 = M 84 1 := o 84 1 h3 h4
  refine ⟨a1, a2, ?_⟩
  rw [e]
  rcases a3 with q | q
  · exact Or.inl q
  · exact Or.inr ⟨q.1, q.2.fr o h1 h2⟩
/-- what the reference finds, one formula -/
theorem mc_at_of (hc : cu_M N M T) {s at_ hs a k : Int} (hs1 : T 0 hs = 1) (hk : 0 ≤ k ∧ k < T 0 0) (hk2 : T 2 k = T 0 a ∧ T 3 k = T 0 (a + 1)) (hle : 0 ≤ T 0 a ∧ T 0 (a + 1) ≤ T 0 1) (hm : M 83 at_ = k) : mc_at M T at_ hs a := by
  obtain ⟨hf, hl, hr⟩ := hc
  have hn := hl.1
  rcases hr with ⟨r1, r2⟩ | ⟨r1, r2, r3, r4⟩
  · omega
  · refine ⟨fun q => by omega, fun _ => ⟨M 84 1, k, rfl, r1, hm, by omega, ?_, ?_, fun i i0 i1 => r4 i (by omega) (by omega)⟩⟩
    · rw [(r3 k hk.1 hk.2).2.1]; exact hk2.1
    · rw [(r3 k hk.1 hk.2).2.2]; exact hk2.2
theorem tX12_rule (hc : cu_M N M T) (hK : ∀ M', ow_of [92] [(83, 27), (83, 28)] M M' → mc_ok M' T → K 0 M') : ow_Sp C (EM A L N) (d + 1) mX12_rule (0, 0) [(3, 83)] M K := by
  have hc0 := hc
  obtain ⟨hf, hl, hr⟩ := hc
  have fin : ∀ M1, ow_of [92] [(83, 27), (83, 28)] M M1 → mc_at M1 T 27 4 5 → mc_at M1 T 28 7 8 → ow_At C (EM A L N) (d + 1) mX12_rule 20 [(0, (3, 83)), (1, (0, 0))] [] (0, 0) M1 K := by
    intro M1 o1 a1 a2
    refine ow_upto (S := ow_M) (P := fun i s => ow_At C (EM A L N) (d + 1) mX12_rule 20 [(0, (3, 83)), (1, (0, i))] [] (0, 0) s K) (I := fun i s => 0 ≤ i ∧ ow_off [92] M1 s ∧ ∀ x, 0 ≤ x → x < i → s 92 x = -1) 14400 (fun s hI => ?_) (fun i s i1 hI ih => ?_) 0 M1 (by omega) ⟨by omega, ow_off.rf, fun x x0 x1 => by omega⟩
    · obtain ⟨_, i2, i3⟩ := hI
      refine cX12_rule_20 ⟨fun _ => hK s ?_ ⟨hf, a1.fr i2 (by decide) (by decide) (by decide), a2.fr i2 (by decide) (by decide) (by decide), fun x x0 x1 => Or.inl (i3 x x0 x1)⟩, fun q => by omega⟩
      exact o1.tr ((ow_of.off i2).mono (fun c hc => hc) (fun x hx => by simp at hx))
    · obtain ⟨i0, i2, i3⟩ := hI
      refine cX12_rule_20 ⟨fun q => by omega, fun _ => ⟨⟨i0, by omega⟩, ?_⟩⟩
      intro N1 e1
      refine ⟨⟨by omega, by omega⟩, ih N1 ⟨by omega, by rw [e1]; exact i2.up (by decide), fun x x0 x1 => ?_⟩⟩
      by_cases e : x = i
      · rw [e, e1, ow_upS]
      · rw [e1, ow_upN (Or.inr e)]; exact i3 x x0 (by omega)
  -- the second formula, once the first one stands
  have snd : ∀ M1, ow_of [92] [(83, 27), (83, 28)] M M1 → mc_at M1 T 27 4 5 → (∀ M2, ow_of [] [(83, 28)] M1 M2 → mc_at M2 T 27 4 5) → ow_Sp C (EM A L N) d mX12_clauseOf (0, 0) [(3, 83), (0, 1)] M1 (fun r3 N3 => ∀ N4, N4 = ow_up N3 83 28 r3 → ow_At C (EM A L N) (d + 1) mX12_rule 20 [(0, (3, 83)), (1, (0, 0))] [] (0, 0) N4 K) := by
    intro M1 o1 a1 ax
    have hc1 : cu_M N M1 T := hc0.fr o1 (by decide) (by decide) (by decide) (by decide)
    refine tX12_clauseOf hc1 (fun hno => ?_) (fun k k0 k1 k2 => ?_)
    · intro N4 e4
      have o4 : ow_of [] [(83, 28)] M1 N4 := by rw [e4]; exact ow_of.rf.uf (by decide)
      refine fin N4 (o1.tr (o4.mono (fun c hc => by simp at hc) (fun x hx => by simp at hx; subst hx; exact Or.inr (by decide)))) (ax N4 o4) ⟨fun _ => by rw [e4, ow_upS], fun q => ?_⟩
      obtain ⟨k, k0, k1, k2⟩ := hl.2.2.2.1 q
      exact absurd k2 (hno k k0 k1)
    · intro N4 e4
      have o4 : ow_of [] [(83, 28)] M1 N4 := by rw [e4]; exact ow_of.rf.uf (by decide)
      have o5 := o1.tr (o4.mono (S' := [92]) (F' := [(83, 27), (83, 28)]) (fun c hc => by simp at hc) (fun x hx => by simp at hx; subst hx; exact Or.inr (by decide)))
      obtain ⟨b1, b2, b3⟩ := (hl.2.1 k k0 k1).2.2.1 k2
      obtain ⟨g1, g2, g3, g4, g5⟩ := hf.2.2.2.2.2.1 b1
      exact fin N4 o5 (ax N4 o4) (mc_at_of (s := 1) (hc0.fr o5 (by decide) (by decide) (by decide) (by decide)) b1 ⟨k0, k1⟩ ⟨b2, b3⟩ ⟨g1, g3⟩ (by rw [e4, ow_upS]))
  refine fX12_rule (tX12_clauseOf hc0 (fun hno => ?_) (fun k k0 k1 k2 => ?_))
  · intro N2 e2
    have o2 : ow_of [92] [(83, 27), (83, 28)] M N2 := by rw [e2]; exact ow_of.rf.uf (by decide)
    have key : ∀ M2, ow_of [] [(83, 28)] N2 M2 → mc_at M2 T 27 4 5 := by
      intro M2 o
      refine ⟨fun _ => by rw [o 83 27 (by decide) (by decide), e2, ow_upS], fun q => ?_⟩
      obtain ⟨k, k0, k1, k2⟩ := hl.2.2.1 q
      exact absurd k2 (hno k k0 k1)
    exact snd N2 o2 (key N2 ow_of.rf) key
  · intro N2 e2
    have o2 : ow_of [92] [(83, 27), (83, 28)] M N2 := by rw [e2]; exact ow_of.rf.uf (by decide)
    obtain ⟨b1, b2, b3⟩ := (hl.2.1 k k0 k1).2.1 k2
    obtain ⟨g1, g2, g3, g4, g5⟩ := hf.2.2.2.2.1 b1
    have key : ∀ M2, ow_of [] [(83, 28)] N2 M2 → mc_at M2 T 27 4 5 := by
      intro M2 o
      have o3 := o2.tr (o.mono (S' := [92]) (F' := [(83, 27), (83, 28)]) (fun c hc => by simp at hc) (fun x hx => by simp at hx; subst hx; exact Or.inr (by decide)))
      exact mc_at_of (s := 0) (hc0.fr o3 (by decide) (by decide) (by decide) (by decide)) b1 ⟨k0, k1⟩ ⟨b2, b3⟩ ⟨g1, g3⟩ (by rw [o 83 27 (by decide) (by decide), e2, ow_upS])
    exact snd N2 o2 (key N2 ow_of.rf) key
theorem tX12_roads (hc : cu_M N M T) (hK : K (T 0 3) M) : ow_Sp C (EM A L N) d mX12_roads (0, 0) [(3, 83)] M K := by
  obtain ⟨hf, hl, hr⟩ := hc
  have hn := hl.1
  have h3 := hl.2.2.2.2.2.1
  refine fX12_roads ?_
  rcases hr with ⟨r1, r2⟩ | ⟨r1, r2, r3, r4⟩
  · rw [h3, r2] at hK
    refine cX12_roads_4 ⟨fun _ => hK, fun q => by omega⟩
  · refine ow_upto (S := Int) (P := fun k s => ow_At C (EM A L N) d mX12_roads 4 [(0, (3, 83)), (1, (0, s)), (2, (0, k))] [] (0, 0) M K) (I := fun k s => 0 ≤ k ∧ s = tx_ct T 3 k) (T 0 0) (fun s hI => ?_) (fun k s k1 hI ih => ?_) 0 0 (by omega) ⟨by omega, rfl⟩
    · refine cX12_roads_4 ⟨fun q => by omega, fun _ => ⟨⟨by omega, by omega⟩, ⟨by omega, by omega⟩, ?_⟩⟩
      rw [r2]
      refine ⟨fun _ => ?_, fun q => by omega⟩
      rw [hI.2, ← h3]; exact hK
    · obtain ⟨k0, k2⟩ := hI
      have g := ow_ct_rg (q := fun j => decide (T 1 j = 3)) k0
      have k2' : s = ow_ct (fun j => decide (T 1 j = 3)) k := k2
      refine cX12_roads_4 ⟨fun q => by omega, fun _ => ⟨⟨by omega, by omega⟩, ⟨by omega, by omega⟩, ?_⟩⟩
      rw [r2, (r3 k k0 k1).1]
      refine ⟨fun q => by omega, fun _ => ⟨⟨by omega, by omega⟩, ⟨by omega, by omega⟩, ⟨by omega, by omega⟩, ⟨by omega, by omega⟩, fun q => ⟨⟨by omega, by omega⟩, ⟨by omega, by omega⟩, ih (s + 0) ⟨by omega, ?_⟩⟩, fun q => ⟨⟨by omega, by omega⟩, ⟨by omega, by omega⟩, ih (s + 1) ⟨by omega, ?_⟩⟩⟩⟩
      · unfold tx_ct; rw [ow_ctS k0, if_neg (by rw [decide_eq_true_iff]; exact q)]; omega
      · unfold tx_ct; rw [ow_ctS k0, if_pos (by rw [decide_eq_true_iff]; exact q)]; omega
end RLS
