/-! ===== words by the reference ===== -/
section WDS
variable {C : ow_C} {A L N : Int} {d : Nat} {M : ow_M} {K : Int → ow_M → Prop} {n : Int} {t : Int → Int}
theorem ow_lcmp0 {a b : Int} : ow_lcmp a b = 0 ↔ a = b := by
  unfold ow_lcmp
  constructor
  · intro h
    split at h
    · omega
    · split at h <;> omega
  · intro h
    rw [h]
    split
    · omega
    · split <;> omega
theorem kx_45 {i : Int} : kx n t i ≠ 4 ∧ kx n t i ≠ 5 := by
  unfold kx tk_k
  split
  · decide
  · split
    · decide
    · split
      · decide
      · split
        · split <;> decide
        · split
          · rename_i h
            have := of_decide_eq_true h
            omega
          · decide
theorem tcode_rg {k : Int} (h : k ≠ 4 ∧ k ≠ 5) : (tcode k = 2 ↔ k = 1) ∧ (tcode k = 1 ↔ k = 2) ∧ (tcode k = 4 ↔ k = 256) ∧ (tcode k = 5 ↔ k = 257) ∧ (tcode k = 0 ↔ k = 0) ∧ ∀ x, 6 ≤ x → x < 256 → (tcode k = x ↔ k = x) := by
  unfold tcode
  refine ⟨?_, ?_, ?_, ?_, ?_, fun x h1 h2 => ?_⟩ <;> (repeat' split) <;> omega
theorem tX12_w3 {a b c : Int} (hK : K (ow_lor (ow_lshl (ow_lor (ow_lshl a 8) b) 8) c) M) : ow_Sp C (EM A L N) d mX12_w3 (0, 0) [(0, a), (0, b), (0, c)] M K := fX12_w3 hK
theorem tX12_w4 {a b c e : Int} (hK : K (ow_lor (ow_lshl (ow_lor (ow_lshl (ow_lor (ow_lshl a 8) b) 8) c) 8) e) M) : ow_Sp C (EM A L N) (d + 1) mX12_w4 (0, 0) [(0, a), (0, b), (0, c), (0, e)] M K := fX12_w4 (tX12_w3 hK)
theorem tX12_w5 {a b c e f : Int} (hK : K (ow_lor (ow_lshl (ow_lor (ow_lshl (ow_lor (ow_lshl (ow_lor (ow_lshl a 8) b) 8) c) 8) e) 8) f) M) : ow_Sp C (EM A L N) (d + 1) mX12_w5 (0, 0) [(0, a), (0, b), (0, c), (0, e), (0, f)] M K := fX12_w5 (tX12_w3 hK)
theorem tX12_w6 {a b c e f g : Int} (hK : K (ow_lor (ow_lshl (ow_lor (ow_lshl (ow_lor (ow_lshl (ow_lor (ow_lshl (ow_lor (ow_lshl a 8) b) 8) c) 8) e) 8) f) 8) g) M) : ow_Sp C (EM A L N) (d + 2) mX12_w6 (0, 0) [(0, a), (0, b), (0, c), (0, e), (0, f), (0, g)] M K := fX12_w6 (tX12_w5 hK)
theorem wk3 {a b c : Int} {k : Nat} (h : wc k = ow_lor (ow_lshl (ow_lor (ow_lshl a 8) b) 8) c) (hK : K (wc k) M) : ow_Sp C (EM A L N) d mX12_w3 (0, 0) [(0, a), (0, b), (0, c)] M K := tX12_w3 (by rw [← h]; exact hK)
theorem wk4 {a b c e : Int} {k : Nat} (h : wc k = ow_lor (ow_lshl (ow_lor (ow_lshl (ow_lor (ow_lshl a 8) b) 8) c) 8) e) (hK : K (wc k) M) : ow_Sp C (EM A L N) (d + 1) mX12_w4 (0, 0) [(0, a), (0, b), (0, c), (0, e)] M K := tX12_w4 (by rw [← h]; exact hK)
theorem wk5 {a b c e f : Int} {k : Nat} (h : wc k = ow_lor (ow_lshl (ow_lor (ow_lshl (ow_lor (ow_lshl (ow_lor (ow_lshl a 8) b) 8) c) 8) e) 8) f) (hK : K (wc k) M) : ow_Sp C (EM A L N) (d + 1) mX12_w5 (0, 0) [(0, a), (0, b), (0, c), (0, e), (0, f)] M K := tX12_w5 (by rw [← h]; exact hK)
theorem wk6 {a b c e f g : Int} {k : Nat} (h : wc k = ow_lor (ow_lshl (ow_lor (ow_lshl (ow_lor (ow_lshl (ow_lor (ow_lshl (ow_lor (ow_lshl a 8) b) 8) c) 8) e) 8) f) 8) g) (hK : K (wc k) M) : ow_Sp C (EM A L N) (d + 2) mX12_w6 (0, 0) [(0, a), (0, b), (0, c), (0, e), (0, f), (0, g)] M K := tX12_w6 (by rw [← h]; exact hK)
theorem wcs : wc 0 = ow_lor (ow_lshl (ow_lor (ow_lshl (ow_lor (ow_lshl (ow_lor (ow_lshl 112 8) 108) 8) 97) 8) 99) 8) 101 ∧ wc 1 = ow_lor (ow_lshl (ow_lor (ow_lshl (ow_lor (ow_lshl 102 8) 114) 8) 111) 8) 109 ∧ wc 2 = ow_lor (ow_lshl (ow_lor (ow_lshl (ow_lor (ow_lshl 105 8) 110) 8) 116) 8) 111 ∧ wc 3 = ow_lor (ow_lshl (ow_lor (ow_lshl (ow_lor (ow_lshl 104 8) 97) 8) 110) 8) 100 ∧ wc 4 = ow_lor (ow_lshl (ow_lor (ow_lshl (ow_lor (ow_lshl 108 8) 97) 8) 115) 8) 116 ∧ wc 5 = ow_lor (ow_lshl (ow_lor (ow_lshl 102 8) 97) 8) 114 := by decide +kernel
theorem wcs2 : wc 6 = ow_lor (ow_lshl (ow_lor (ow_lshl 109 8) 97) 8) 121 ∧ wc 7 = ow_lor (ow_lshl (ow_lor (ow_lshl (ow_lor (ow_lshl (ow_lor (ow_lshl (ow_lor (ow_lshl 119 8) 101) 8) 105) 8) 103) 8) 104) 8) 116 ∧ wc 8 = ow_lor (ow_lshl (ow_lor (ow_lshl (ow_lor (ow_lshl 98 8) 111) 8) 111) 8) 107 ∧ wc 9 = ow_lor (ow_lshl (ow_lor (ow_lshl (ow_lor (ow_lshl 114 8) 111) 8) 97) 8) 100 ∧ wc 10 = 29807 ∧ wc 11 = 28530 ∧ wc 12 = ow_lor (ow_lshl (ow_lor (ow_lshl 97 8) 110) 8) 100 ∧ wc 13 = ow_lor (ow_lshl (ow_lor (ow_lshl 110 8) 111) 8) 116 := by decide +kernel
theorem rf_w {i : Int} (h : rf n t M i) {k : Nat} (hk : k < 14) : (M 83 12 = 2 ∧ M 83 14 = wc k) ↔ nx n t i = (k : Int) := by
  obtain ⟨h1, h2, h3, h4, h5⟩ := h
  have tc := tcode_rg (kx_45 (n := n) (t := t) (i := i))
  constructor
  · rintro ⟨a, b⟩
    rw [h3] at a
    exact (h5 (tc.1.1 a) k hk).1 b
  · intro q
    have k1 : kx n t i = 1 := by
      by_cases e : kx n t i = 1
      · exact e
      · have := nx_no (n := n) (t := t) e; omega
    exact ⟨by rw [h3]; exact tc.1.2 k1, (h5 k1 k hk).2 q⟩
theorem isW {i : Int} (h : rf n t M i) {k : Nat} (hk : k < 14) (hK : K (if nx n t i = (k : Int) then 1 else 0) M) : ow_Sp C (EM A L N) d mX12_isWord (0, 0) [(3, 83), (1, wc k)] M K := by
  have w := rf_w h hk
  refine fX12_isWord ⟨fun q => ?_, fun q => ⟨fun z => ?_, fun z => ?_⟩⟩
  · rw [if_neg (fun y => q (w.2 y).1)] at hK; exact hK
  · rw [if_neg (fun y => z (ow_lcmp0.2 (w.2 y).2))] at hK; exact hK
  · rw [if_pos (w.1 ⟨q, ow_lcmp0.1 z⟩)] at hK; exact hK
/-- which of the six names -/
theorem tX12_nameOf {i : Int} (h : rf n t M i) (hK : ∀ v, ((0 ≤ nx n t i ∧ nx n t i < 6) → v = nx n t i) → (¬ (0 ≤ nx n t i ∧ nx n t i < 6) → v = -1) → K v M) : ow_Sp C (EM A L N) (d + 3) mX12_nameOf (0, 0) [(3, 83)] M K := by
  have w : ∀ {k : Nat}, k < 14 → ((M 83 12 = 2 ∧ M 83 14 = wc k) ↔ nx n t i = (k : Int)) := fun hk => rf_w h hk
  have hit : ∀ (k : Nat), k < 6 → M 83 12 = 2 → ow_lcmp (M 83 14) (wc k) = 0 → K (k : Int) M := fun k hk q z => by
    have e := (w (show k < 14 by omega)).1 ⟨q, ow_lcmp0.1 z⟩
    exact hK _ (fun _ => e.symm) (fun y => by omega)
  have miss : ∀ (k : Nat), k < 14 → ow_lcmp (M 83 14) (wc k) ≠ 0 → nx n t i ≠ (k : Int) := fun k hk z e => z (ow_lcmp0.2 ((w hk).2 e).2)
  refine fX12_nameOf ⟨fun q => wk5 (k := 0) wcs.1 ⟨fun z0 => wk4 (k := 1) wcs.2.1 ⟨fun z1 => wk4 (k := 2) wcs.2.2.1 ⟨fun z2 => wk4 (k := 3) wcs.2.2.2.1 ⟨fun z3 => wk4 (k := 4) wcs.2.2.2.2.1 ⟨fun z4 => wk3 (k := 5) wcs.2.2.2.2.2 ⟨fun z5 => ?_, fun z => hit 5 (by decide) q z⟩, fun z => hit 4 (by decide) q z⟩, fun z => hit 3 (by decide) q z⟩, fun z => hit 2 (by decide) q z⟩, fun z => hit 1 (by decide) q z⟩, fun z => hit 0 (by decide) q z⟩, fun q => ?_⟩
  · have a0 := miss 0 (by decide) z0
    have a1 := miss 1 (by decide) z1
    have a2 := miss 2 (by decide) z2
    have a3 := miss 3 (by decide) z3
    have a4 := miss 4 (by decide) z4
    have a5 := miss 5 (by decide) z5
    exact hK _ (fun y => by omega) (fun _ => rfl)
  · refine hK _ (fun y => ?_) (fun _ => rfl)
    have : kx n t i ≠ 1 := fun e => q (by rw [h.2.2.1]; exact (tcode_rg kx_45).1.2 e)
    have := nx_no (n := n) (t := t) this
    omega
theorem tX12_compareOf {i : Int} (h : rf n t M i) (hK : K (if cmp_ (kx n t i) = 0 then -1 else cm_o (cmp_ (kx n t i))) M) : ow_Sp C (EM A L N) d mX12_compareOf (0, 0) [(3, 83)] M K := by
  have tc := tcode_rg (kx_45 (n := n) (t := t) (i := i))
  have e := h.2.2.1
  refine fX12_compareOf ?_
  rw [e]
  refine ⟨fun q1 => ⟨fun q2 => ⟨fun q3 => ⟨fun q4 => ⟨fun q5 => ⟨fun q6 => ?_, fun q6 => ?_⟩, fun q5 => ?_⟩, fun q4 => ?_⟩, fun q3 => ?_⟩, fun q2 => ?_⟩, fun q1 => ?_⟩
  · have c0 : cmp_ (kx n t i) = 0 := by
      unfold cmp_
      rw [if_neg (fun z => q6 ((tc.2.2.2.2.2 35 (by decide) (by decide)).2 z)), if_neg (fun z => q1 ((tc.2.2.2.2.2 60 (by decide) (by decide)).2 z)), if_neg (fun z => q5 ((tc.2.2.2.2.2 61 (by decide) (by decide)).2 z)), if_neg (fun z => q3 ((tc.2.2.2.2.2 62 (by decide) (by decide)).2 z)), if_neg (fun z => q2 (tc.2.2.1.2 z)), if_neg (fun z => q4 (tc.2.2.2.1.2 z))]
    rw [if_pos c0] at hK; exact hK
  · rw [(tc.2.2.2.2.2 35 (by decide) (by decide)).1 q6] at hK; exact hK
  · rw [(tc.2.2.2.2.2 61 (by decide) (by decide)).1 q5] at hK; exact hK
  · rw [tc.2.2.2.1.1 q4] at hK; exact hK
  · rw [(tc.2.2.2.2.2 62 (by decide) (by decide)).1 q3] at hK; exact hK
  · rw [tc.2.2.1.1 q2] at hK; exact hK
  · rw [(tc.2.2.2.2.2 60 (by decide) (by decide)).1 q1] at hK; exact hK
end WDS
