/-! ===== what can come of what ===== -/
/-- a word leads into another by so many hands in all, least to most -/
def td (A L : Int) (T : ow_M) (into least most hand w b : Int) : Prop := ∃ m : Nat, least ≤ hand + m ∧ hand + m ≤ most ∧ 0 < bw A L T into m hand w b
section RCS
variable {A L N : Int} {T : ow_M}
theorem ow_sm_pos {g : Int → Int} {n : Int} (hn : 0 ≤ n) (hg : ∀ i, 0 ≤ i → i < n → 0 ≤ g i) : 0 < ow_sm g n ↔ ∃ i, 0 ≤ i ∧ i < n ∧ 0 < g i := by
  refine ⟨fun h => Classical.byContradiction (fun hno => ?_), fun ⟨i, i0, i1, i2⟩ => ?_⟩
  · have : ow_sm g n = ow_sm (fun _ => 0) n := ow_sm_cg hn (fun i i0 i1 => by
      have h1 := hg i i0 i1
      have h2 : ¬ 0 < g i := fun z => hno ⟨i, i0, i1, z⟩
      omega)
    rw [ow_sm_z hn] at this
    omega
  · have := ow_sm_one (g := g) ⟨i0, i1⟩ hg
    omega
theorem bw_pos (h : em_ok A L N) {into hand w b : Int} {m : Nat} : 0 < bw A L T into (m + 1) hand w b ↔ ∃ z, 0 ≤ z ∧ z < L * A ∧ 0 < cw A L T hand w b z ∧ 0 < bw A L T into m (hand + 1) (em_ch A L w (z / A) (z % A)) (z / A + 1) := by
  have hD := vx_D h
  have e := ow_sm_pos (g := fun z => cw A L T hand w b z * bw A L T into m (hand + 1) (em_ch A L w (z / A) (z % A)) (z / A + 1)) (n := L * A) (by omega) (fun z _ _ => Int.mul_nonneg cw_rg.1 (bw_rg h m _ _ _).1)
  refine ⟨fun q => ?_, fun ⟨z, z0, z1, z2, z3⟩ => e.2 ⟨z, z0, z1, Int.mul_pos z2 z3⟩⟩
  obtain ⟨z, z0, z1, z2⟩ := e.1 q
  refine ⟨z, z0, z1, ?_, ?_⟩
  · refine Classical.byContradiction (fun hc => ?_)
    have h0 : cw A L T hand w b z = 0 := by have := cw_rg (A := A) (L := L) (T := T) (hand := hand) (w := w) (bh := b) (z := z); omega
    simp only [h0, Int.zero_mul] at z2
    omega
  · refine Classical.byContradiction (fun hc => ?_)
    have h0 : bw A L T into m (hand + 1) (em_ch A L w (z / A) (z % A)) (z / A + 1) = 0 := by have := bw_rg (T := T) h (into := into) m (hand + 1) (em_ch A L w (z / A) (z % A)) (z / A + 1); omega
    simp only [h0, Int.mul_zero] at z2
    omega
theorem td_step (h : em_ok A L N) {into least most hand w b : Int} (hm : hand ≤ most) : td A L T into least most hand w b ↔ (least ≤ hand ∧ w = into) ∨ (hand < most ∧ ∃ z, 0 ≤ z ∧ z < L * A ∧ 0 < cw A L T hand w b z ∧ td A L T into least most (hand + 1) (em_ch A L w (z / A) (z % A)) (z / A + 1)) := by
  refine ⟨fun ⟨m, m1, m2, m3⟩ => ?_, fun q => ?_⟩
  · cases m with
    | zero =>
      refine Or.inl ⟨by omega, ?_⟩
      refine Classical.byContradiction (fun hne => ?_)
      have : bw A L T into 0 hand w b = 0 := if_neg hne
      omega
    | succ m =>
      obtain ⟨z, z0, z1, z2, z3⟩ := (bw_pos h).1 m3
      exact Or.inr ⟨by omega, z, z0, z1, z2, m, by omega, by omega, z3⟩
  · rcases q with ⟨q1, q2⟩ | ⟨q1, z, z0, z1, z2, m, m1, m2, m3⟩
    · refine ⟨0, by omega, by omega, ?_⟩
      have : bw A L T into 0 hand w b = 1 := if_pos q2
      omega
    · exact ⟨m + 1, by omega, by omega, (bw_pos h).2 ⟨z, z0, z1, z2, m3⟩⟩
/-- all the lasts -/
theorem em_all (h : em_ok A L N) {b : Int} (hb : 0 ≤ b ∧ b ≤ L) : ow_bt (em_pw 2 (L + 1) - 1) b = true := by
  have hL := h.2.2.2.1
  have hL3 := h.2.2.1
  have e : L = 2 ∨ L = 3 ∨ L = 4 ∨ L = 5 ∨ L = 6 ∨ L = 7 ∨ L = 8 := by omega
  have hb' : b = 0 ∨ b = 1 ∨ b = 2 ∨ b = 3 ∨ b = 4 ∨ b = 5 ∨ b = 6 ∨ b = 7 ∨ b = 8 := by omega
  rcases e with e | e | e | e | e | e | e <;> subst e <;> rcases hb' with e | e | e | e | e | e | e | e | e <;> subst e <;> first | (exfalso; omega) | decide
end RCS
