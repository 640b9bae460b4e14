/-! ===== the greatest part by the class ===== -/
section WDE
variable {C : ow_C} {A L N : Int} {M T : ow_M}
theorem em_65 : (0 ≤ (65 : Int) ∧ (65 : Int) < ow_nb (EM A L N) M ∧ ((EM A L N).2.1 65).1 = 100) ∧ ((EM A L N).2.1 65).2 = 16 ∧ (∀ i, ow_gv (EM A L N) M 65 i = M 65 i) ∧ ∀ i, (EM A L N).1 65 i = none := ⟨⟨by decide, (show (65 : Int) < 102 by decide), rfl⟩, rfl, fun i => rfl, fun i => rfl⟩
theorem em_76 : (0 ≤ (76 : Int) ∧ (76 : Int) < ow_nb (EM A L N) M ∧ ((EM A L N).2.1 76).1 = 100) ∧ ((EM A L N).2.1 76).2 = N ∧ (∀ i, ow_gv (EM A L N) M 76 i = M 76 i) ∧ ∀ i, (EM A L N).1 76 i = none := ⟨⟨by decide, (show (76 : Int) < 102 by decide), rfl⟩, rfl, fun i => rfl, fun i => rfl⟩
theorem tX5_widest {R : Int → Int → Bool} (hR : ∀ i j, 0 ≤ i → i < 16 → 0 ≤ j → j < i → ow_bt (M 65 i) j = R i j) : ∀ (t d : Nat) (c F b : Int) (K : Int → ow_M → Prop), t ≤ 16 → (0 ≤ c ∧ c < 65536) → (0 ≤ F ∧ F < ((2 ^ t : Nat) : Int)) → (0 ≤ b ∧ b < 65536) → K (wf (qw R F) c b (2 ^ t)) M → ow_Sp C (EM A L N) (d + t + 1) mX5_widest (0, 0) [(3, 65), (0, (t : Int) - 1), (0, c), (0, F), (0, b)] M K := by
  intro t
  induction t with
  | zero =>
    intro d c F b K ht hc hF hb hK
    have hF0 : F = 0 := by
      have : ((2 ^ 0 : Nat) : Int) = 1 := rfl
      omega
    subst hF0
    have r1 := ow_pc_rg (a := c)
    have r3 := ow_pc_rg (a := b)
    have z := ow_pc_0
    have e : wf (qw R 0) c b (2 ^ 0) = if ow_pc b < ow_pc c then c else b := by
      have q0 : qw R 0 ((0 : Nat) : Int) = true := by
        show (sb 0 0 && gdb R 0) = true
        rw [gdb_0, Bool.and_true]
        exact sb_iff.2 (fun i _ _ q => q)
      have o0 : ow_or c ((0 : Nat) : Int) = c := by
        refine ow_bt_ex ow_or_I ⟨by omega, by omega⟩ (fun k _ _ => ?_)
        have : ow_bt ((0 : Nat) : Int) k = false := ow_bt_0
        rw [ow_bt_or, this, Bool.or_false]
      show (if qw R 0 ((0 : Nat) : Int) = true ∧ ow_pc b < ow_pc (ow_or c ((0 : Nat) : Int)) then ow_or c ((0 : Nat) : Int) else b) = _
      rw [o0]
      by_cases e : ow_pc b < ow_pc c
      · rw [if_pos ⟨q0, e⟩, if_pos e]
      · rw [if_neg (fun y => e y.2), if_neg e]
    rw [e] at hK
    refine fX5_widest (tJ6_bitCount hc (tJ6_bitCount ⟨by omega, by omega⟩ ⟨⟨by omega, by omega⟩, tJ6_bitCount hb ⟨fun q => ⟨fun _ => ?_, fun q2 => by omega⟩, fun q => ?_⟩⟩))
    · rw [if_pos (by omega)] at hK; exact hK
    · rw [if_neg (by omega)] at hK; exact hK
  | succ t ih =>
    intro d c F b K ht hc hF hb hK
    have hp := ow_p16 (t := t) (by omega)
    have hp1 := ow_p16 (t := t + 1) ht
    have e2 : 2 ^ (t + 1) = 2 ^ t + 2 ^ t := by rw [Nat.pow_succ]; omega
    have r1 := ow_pc_rg (a := c)
    have r2 := ow_pc_rg (a := F)
    have r3 := ow_pc_rg (a := b)
    have hFr : 0 ≤ F ∧ F < 65536 := by omega
    have et : ((t + 1 : Nat) : Int) - 1 = (t : Int) := by omega
    rw [et]
    -- bits of what is asked for
    have xh : ∀ x : Nat, x < 2 ^ t → ∀ i, (t : Int) ≤ i → ow_bt (x : Int) i = false := fun x hx i hi => ow_bt_hi (by omega) (by omega) (by omega) hi
    refine fX5_widest (tJ6_bitCount hc (tJ6_bitCount hFr ⟨⟨by omega, by omega⟩, tJ6_bitCount hb ⟨fun q => ⟨fun q2 => by omega, fun _ => ?_⟩, fun q => ?_⟩⟩))
    · obtain ⟨k1, k2, k3, k4⟩ := em_65 (A := A) (L := L) (N := N) (M := M)
      rw [k2]
      refine ⟨⟨k1.1, k1.2.1, k1.2.2, by decide, by decide⟩, fun _ => ⟨⟨by omega, by omega⟩, ?_⟩, fun q2 => by omega⟩
      have esh : ow_shl 1 (t : Int) = ((2 ^ t : Nat) : Int) := by rw [ow_shl1 ⟨by omega, by omega⟩, Int.toNat_natCast, ow_p2]
      obtain ⟨O, hO⟩ : ∃ O, O = ow_and F (ow_xor (ow_shl 1 (t : Int)) (-1)) := ⟨_, rfl⟩
      have bO : ∀ i, 0 ≤ i → i < 32 → ow_bt O i = (ow_bt F i && !(decide ((t : Int) = i))) := by
        intro i i0 i1
        rw [hO, ow_bt_and, ow_bt_not ⟨i0, i1⟩, esh, ow_bt_p2 (by omega) i0]
      have rO : 0 ≤ O ∧ O < ((2 ^ t : Nat) : Int) := by
        refine ow_bt_lt (by rw [hO]; exact ow_and_I) (by omega) (fun i i0 i1 => ?_)
        rw [bO i (by omega) i1]
        by_cases e : (t : Int) = i
        · rw [decide_eq_true e]; simp
        · rw [ow_bt_hi hF.1 hF.2 (by omega) (by omega)]; rfl
      -- the half without the top one
      have half : wf (qw R F) c b (2 ^ t) = wf (qw R O) c b (2 ^ t) := by
        refine wf_cg _ (fun x hx => ?_)
        unfold qw
        congr 1
        rw [Bool.eq_iff_iff, sb_iff, sb_iff]
        refine ⟨fun g i i0 i1 y => ?_, fun g i i0 i1 y => ?_⟩
        · rw [bO i i0 (by omega), g i i0 i1 y, decide_eq_false (fun z => ?_)]
          · rfl
          · rw [xh x hx i (by omega)] at y; exact absurd y (by decide)
        · have := g i i0 i1 y
          rw [bO i i0 (by omega), Bool.and_eq_true] at this
          exact this.1
      rw [e2, wf_split (by omega) _ (Nat.le_refl _), half] at hK
      have rb := wf_rg (q := qw R O) hc hb (2 ^ t) hp.2
      rw [← hO]
      refine ih d c O b _ (by omega) hc rO hb ?_
      refine ⟨fun q2 => ?_, fun q2 => ?_⟩
      · -- the top one is free
        have bt : ow_bt F (t : Int) = true := by
          cases e : ow_bt F (t : Int) with
          | true => rfl
          | false =>
            refine absurd (ow_bt_ex (by rw [hO]; exact ow_and_I) ⟨by omega, by omega⟩ (fun i i0 i1 => ?_)) q2
            rw [bO i i0 i1]
            by_cases e3 : (t : Int) = i
            · rw [← e3, e]; rfl
            · rw [decide_eq_false e3]; simp
        refine ⟨⟨k1.1, k1.2.1, k1.2.2, by omega, by rw [k2]; omega⟩, ?_⟩
        rw [k3, esh]
        obtain ⟨G, hG⟩ : ∃ G, G = ow_and O (ow_xor (M 65 (t : Int)) (-1)) := ⟨_, rfl⟩
        have bG : ∀ i, 0 ≤ i → i < 32 → ow_bt G i = (ow_bt O i && !(ow_bt (M 65 (t : Int)) i)) := by
          intro i i0 i1
          rw [hG, ow_bt_and, ow_bt_not ⟨i0, i1⟩]
        have rG : 0 ≤ G ∧ G < ((2 ^ t : Nat) : Int) := by
          refine ow_bt_lt (by rw [hG]; exact ow_and_I) (by omega) (fun i i0 i1 => ?_)
          rw [bG i (by omega) i1, ow_bt_hi rO.1 rO.2 (by omega) i0]; rfl
        rw [← hG]
        refine ih d (ow_or c ((2 ^ t : Nat) : Int)) G _ _ (by omega) (ow_or_rg hc ⟨by omega, by omega⟩) rG rb ?_
        rw [wf_cg (q' := qw R G) _ (fun x hx => ?_)] at hK
        · exact hK
        · show qw R F (((2 ^ t : Nat) : Int) + (x : Int)) = qw R G (x : Int)
          unfold qw
          rw [Bool.eq_iff_iff, Bool.and_eq_true, Bool.and_eq_true, sb_iff, sb_iff, gdb_pa (by omega) (by omega) (by omega)]
          have pa := fun (i : Int) (i0 : 0 ≤ i) => ow_bt_pa (x := (x : Int)) (t := t) (by omega) (by omega) (by omega) i0
          refine ⟨fun ⟨g1, g2, g3⟩ => ⟨fun i i0 i1 y => ?_, g2⟩, fun ⟨g1, g2⟩ => ⟨fun i i0 i1 y => ?_, g2, fun i i0 i1 y => ?_⟩⟩
          · have lt : i < t := by
              by_cases e : i < t
              · exact e
              · rw [xh x hx i (by omega)] at y; exact absurd y (by decide)
            have f1 := g1 i i0 i1 (by rw [pa i i0, y, Bool.or_true])
            rw [bG i i0 (by omega), bO i i0 (by omega), f1, decide_eq_false (show ¬ (t : Int) = i by omega), hR t i (by omega) (by omega) i0 lt, g3 i i0 lt y]
            rfl
          · rw [pa i i0] at y
            by_cases e : (t : Int) = i
            · rw [← e]; exact bt
            · rw [decide_eq_false e, Bool.false_or] at y
              have := g1 i i0 i1 y
              rw [bG i i0 (by omega), Bool.and_eq_true, bO i i0 (by omega), Bool.and_eq_true] at this
              exact this.1.1
          · have := g1 i i0 (by omega) y
            rw [bG i i0 (by omega), Bool.and_eq_true, hR t i (by omega) (by omega) i0 i1] at this
            cases e : R t i with
            | false => rfl
            | true => rw [e] at this; exact absurd this.2 (by decide)
      · -- it isn't
        have bt : ow_bt F (t : Int) = false := by
          have := bO t (by omega) (by omega)
          rw [q2, decide_eq_true rfl] at this
          rw [this]; simp
        rw [wf_no _ (fun x hx y => ?_)] at hK
        · exact hK
        · have y' : (sb (((2 ^ t : Nat) : Int) + (x : Int)) F && gdb R (((2 ^ t : Nat) : Int) + (x : Int))) = true := y
          rw [Bool.and_eq_true, sb_iff] at y'
          have := y'.1 t (by omega) (by omega) (by rw [ow_bt_pa (by omega) (by omega) (by omega) (by omega), decide_eq_true rfl]; rfl)
          rw [bt] at this
          exact absurd this (by decide)
    · rw [wf_no _ (fun x hx y => ?_)] at hK
      · exact hK
      · have y' : (sb (x : Int) F && gdb R (x : Int)) = true := y
        rw [Bool.and_eq_true, sb_iff] at y'
        have s1 := ow_pc_or (a := c) (b := (x : Int))
        have s2 := ow_pc_sub (a := (x : Int)) (b := F) y'.1
        omega
end WDE
