/-! ===== the words' constructor, its second table ===== -/
section WD3
variable {C : ow_C} {A L N : Int} {d : Nat} {M : ow_M} {K : Int → ow_M → Prop} {f : ow_M}
def fWd (A L N : Int) (f : ow_M) (q : Int → Prop) [DecidablePred q] : ow_M := fun c i => if c = 5 ∧ q i then em_dg A L (i / L) (i % L) else fWc A L N f c i
theorem dvL {w p : Int} (hL : 0 < L) (h0 : 0 ≤ p) (h1 : p < L) : (w * L + p) / L = w ∧ (w * L + p) % L = p := by
  rw [Int.add_comm (w * L) p, Int.add_mul_ediv_right p w (by omega), Int.add_mul_emod_self_right, Int.ediv_eq_zero_of_lt h0 h1, Int.emod_eq_of_lt h0 h1]
  omega
theorem vm.cg {n : Int} {g : ow_M} (h : vm n f M) (e : ∀ c i, 0 ≤ c → c < n → f c i = g c i) : vm n g M := ⟨h.1, fun c i c0 c1 => (h.2 c i c0 c1).trans (e c i c0 c1)⟩
theorem iX10_127 (ho : em_ok A L N) {w : Int} (hw : 0 ≤ w ∧ w < N) (hK : ∀ M', vm 6 (fWd A L N f (fun i => 0 ≤ i ∧ i < (w + 1) * L)) M' → ow_At C (E0 A L N) (d + 1) mX10_init 108 [(0, (3, 3)), (3, (0, w + 1))] [] (0 + 0, 0 + 0) M' K) : ∀ (k : Nat) (p l4 : Int) (s : ow_M), p = k - 1 → p < L → l4 = w / em_pw A (L - 1 - p) → vm 6 (fWd A L N f (fun i => 0 ≤ i ∧ (i < w * L ∨ (w * L + p < i ∧ i < w * L + L)))) s → ow_At C (E0 A L N) (d + 1) mX10_init 127 [(0, (3, 3)), (3, (0, w)), (4, (0, l4)), (5, (0, p))] [] (0 + 0, 0 + 0) s K := by
  have b := em_NLb ho
  have hA := ho.1
  have hA5 := ho.2.1
  have wL0 := Int.mul_nonneg hw.1 (show 0 ≤ L by omega)
  have wLN := Int.mul_le_mul_of_nonneg_right (show w + 1 ≤ N by omega) (show 0 ≤ L by omega)
  have NL := Int.mul_le_mul b.2.1 (show L ≤ 8 by omega) (show 0 ≤ L by omega) (show (0 : Int) ≤ 256 by decide)
  rw [Int.add_mul, Int.one_mul] at wLN
  intro k
  induction k with
  | zero =>
    intro p l4 s hp hpL hl v
    refine bX10_init_127 ⟨fun _ => ⟨⟨by omega, by omega⟩, hK s (v.cg (fun c i c0 c1 => ?_))⟩, fun z => by omega⟩
    unfold fWd
    have e : (w + 1) * L = w * L + L := by rw [Int.add_mul, Int.one_mul]
    rw [e]
    by_cases z : c = 5 ∧ 0 ≤ i ∧ (i < w * L ∨ (w * L + p < i ∧ i < w * L + L))
    · rw [if_pos z, if_pos (by omega)]
    · rw [if_neg z, if_neg (by omega)]
  | succ k ih =>
    intro p l4 s hp hpL hl v
    have g0 : ow_gv (E0 A L N) s 3 0 = A := (v.gv (by decide) (by decide)).trans rfl
    have g1 : ow_gv (E0 A L N) s 3 1 = L := (v.gv (by decide) (by decide)).trans rfl
    have g4 : ow_gv (E0 A L N) s 3 4 = 5 := (v.gv (by decide) (by decide)).trans rfl
    have pp := em_pw_pos (a := A) (by omega) (L - 1 - p)
    have l40 : 0 ≤ l4 := by rw [hl]; exact Int.ediv_nonneg hw.1 (by omega)
    have l4w : l4 ≤ w := by rw [hl]; exact Int.ediv_le_self _ hw.1
    have md := Int.emod_nonneg l4 (show A ≠ 0 by omega)
    have md2 := Int.emod_lt_of_pos l4 (show 0 < A by omega)
    have dv0 : 0 ≤ l4 / A := Int.ediv_nonneg l40 (by omega)
    have dv1 : l4 / A ≤ l4 := Int.ediv_le_self _ l40
    refine bX10_init_127 ⟨fun z => by omega, fun _ => ?_⟩
    rw [g0, g1, g4, em_tdiv l40, em_tmod l40]
    refine ⟨v.O (by decide) (by decide) rfl, v.O (by decide) (by decide) rfl, ⟨by omega, by omega⟩, ⟨by omega, by omega⟩, v.O (by decide) (by decide) rfl, by omega, ⟨by omega, by omega⟩, ⟨by omega, by omega⟩, v.R (by decide) (by decide) rfl (by omega) (by omega), rfl, fun N1 e1 => ?_⟩
    have v1 := v.up (by decide) e1
    have g5 : ow_gv (E0 A L N) N1 3 0 = A := (v1.gv (by decide) (by decide)).trans rfl
    rw [g5, em_tdiv l40]
    refine ⟨v1.O (by decide) (by decide) rfl, by omega, ⟨by omega, by omega⟩, ⟨by omega, by omega⟩, ih (p + (-1)) (l4 / A) N1 (by omega) (by omega) ?_ (v1.cg (fun c i c0 c1 => ?_))⟩
    · rw [hl, show L - 1 - (p + -1) = L - 1 - p + 1 by omega, em_pw_s A (by omega), Int.ediv_ediv, if_neg (by omega)]; omega
    · unfold ow_up
      have dd := dvL (L := L) (w := w) (p := p) (by omega) (by omega) hpL
      by_cases z : c = 5 ∧ i = w * L + p
      · rw [if_pos z]
        unfold fWd
        rw [if_pos (by omega), z.2, dd.1, dd.2, hl]
        rfl
      · rw [if_neg z]
        unfold fWd
        by_cases z2 : c = 5 ∧ 0 ≤ i ∧ (i < w * L ∨ (w * L + p < i ∧ i < w * L + L))
        · rw [if_pos z2, if_pos (by omega)]
        · rw [if_neg z2, if_neg (by omega)]
end WD3
