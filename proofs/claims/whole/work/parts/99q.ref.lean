/-! ===== the reference's constructor, at its place ===== -/
section REF
variable {C : ow_C} {A L N : Int} {d : Nat} {M : ow_M} {K : Int → ow_M → Prop} {f : ow_M}
def fX12a (f : ow_M) : ow_M := (ow_up (fm 101 (fun _ => 0) (ow_up (fm 100 (fun _ => 0) (ow_up (fm 99 (fun _ => 0) (ow_up (fm 98 (fun _ => 0) (ow_up (fm 97 (fun _ => 0) (ow_up (fm 96 (fun _ => 0) (ow_up (fm 95 (fun _ => 0) (ow_up (fm 94 (fun _ => 0) (ow_up (fm 93 (fun _ => 0) (ow_up (fm 92 (fun _ => 0) (ow_up (fm 91 (fun _ => 0) (ow_up (fm 90 (fun _ => 0) (ow_up (fm 89 (fun _ => 0) (ow_up (fm 88 (fun _ => 0) (ow_up (ow_up (ow_up (fm 87 (fun _ => 0) (ow_up (fm 86 (fun _ => 0) (ow_up (fm 85 (fun _ => 0) (ow_up (fm 84 (fun _ => 0) f) 83 0 84)) 83 1 85)) 83 5 86)) 83 6 87) 83 8 (-1)) 83 9 (-1))) 83 19 88)) 83 24 89)) 83 25 90)) 83 26 91)) 83 29 92)) 83 30 93)) 83 31 94)) 83 32 95)) 83 33 96)) 83 34 97)) 83 35 98)) 83 36 99)) 83 37 100)) 83 38 101)
def fX12 (A L N : Int) (f : ow_M) : ow_M := fun c i => if c = 85 ∧ 0 ≤ i ∧ i < 215 then ow_up (ow_up (ow_up (ow_up (fX12a f) 83 2 A) 83 3 L) 83 4 N) 84 1 (-1) 84 i else ow_up (ow_up (ow_up (ow_up (fX12a f) 83 2 A) 83 3 L) 83 4 N) 84 1 (-1) c i
theorem vm.R {n c i s : Int} {k : Nat} (h : vm n f M) (c0 : 0 ≤ c) (c1 : c < n) (hk : (EM A L N).2.1 c = (k, s)) (i0 : 0 ≤ i) (i1 : i < s) : ow_R (E0 A L N) M c k i := ⟨c0, by show c < M (-1) 0; rw [h.1]; exact c1, by show ((EM A L N).2.1 c).1 = k; rw [hk], i0, by show i < ((EM A L N).2.1 c).2; rw [hk]; exact i1⟩
theorem iCopy (h : vm 102 f M) (hK : ∀ M', vm 102 (fun c i => if c = 85 ∧ 0 ≤ i ∧ i < 215 then f 84 i else f c i) M' → K 0 M') : ow_Sp C (E0 A L N) d mX12_copy (0, 0) [(3, 84), (3, 85)] M K := by
  refine eX12_copy ?_
  refine ow_upto (S := ow_M) (P := fun j s => ow_At C (E0 A L N) d mX12_copy 2 [(0, (3, 84)), (1, (3, 85)), (2, (0, j))] [] (0, 0) s K) (I := fun j s => 0 ≤ j ∧ vm 102 (fun c i => if c = 85 ∧ 0 ≤ i ∧ i < j then f 84 i else f c i) s) 215 (fun s hI => ?_) (fun j s j1 hI ih => ?_) 0 M (by decide) ⟨Int.le_refl 0, h.1, fun c i c0 c1 => ?_⟩
  · exact bX12_copy_2 ⟨fun _ => hK s hI.2, fun z => by omega⟩
  · obtain ⟨j0, v⟩ := hI
    have g : ow_gv (E0 A L N) s 84 j = f 84 j := by
      rw [v.gv (by decide) (by decide)]
      show (if (84 : Int) = 85 ∧ 0 ≤ j ∧ j < j then _ else _) = _
      rw [if_neg (by omega)]
    refine bX12_copy_2 ⟨fun z => by omega, fun _ => ⟨v.R (by decide) (by decide) rfl j0 j1, v.R (by decide) (by decide) rfl j0 j1, rfl, fun N1 e1 => ?_⟩⟩
    rw [g] at e1
    have v1 := v.up (by decide) e1
    refine ⟨⟨by omega, by omega⟩, ih N1 ⟨by omega, v1.1, fun c i c0 c1 => ?_⟩⟩
    rw [v1.2 c i c0 c1]
    unfold ow_up
    by_cases z : c = 85 ∧ i = j
    · rw [if_pos z]
      show f 84 j = (if c = 85 ∧ 0 ≤ i ∧ i < j + 1 then f 84 i else f c i)
      rw [if_pos (by omega), z.2]
    · rw [if_neg z]
      show (if c = 85 ∧ 0 ≤ i ∧ i < j then f 84 i else f c i) = (if c = 85 ∧ 0 ≤ i ∧ i < j + 1 then f 84 i else f c i)
      by_cases z2 : c = 85 ∧ 0 ≤ i ∧ i < j
      · rw [if_pos z2, if_pos (by omega)]
      · rw [if_neg z2, if_neg (by omega)]
  · show M c i = (if c = 85 ∧ 0 ≤ i ∧ i < 0 then f 84 i else f c i)
    rw [if_neg (by omega)]
    exact h.2 c i c0 c1
theorem iX12_218 {k : Nat} (ha : 2 ≤ A ∧ A ≤ 5) (hLN : N = em_pw A L) : ∀ (k : Nat) (l3 : Int) (f M : ow_M), vm 102 f M → f 83 2 = A → f 83 0 = 84 → f 83 1 = 85 → 2 ≤ l3 → l3 ≤ 8 → l3 ≤ 2 + k → lnF A k l3 = L → (∀ M', vm 102 (fun c i => if c = 85 ∧ 0 ≤ i ∧ i < 215 then ow_up (ow_up (ow_up f 83 3 L) 83 4 N) 84 1 (-1) 84 i else ow_up (ow_up (ow_up f 83 3 L) 83 4 N) 84 1 (-1) c i) M' → K 0 M') → ow_At C (E0 A L N) (d + 1) mX12_init 218 [(0, (3, 83)), (3, (0, l3))] [] (0 + 0, 0 + 0) M K := by
  have done : ∀ (l3 : Int) (f M : ow_M), vm 102 f M → f 83 2 = A → f 83 0 = 84 → f 83 1 = 85 → 2 ≤ l3 → l3 ≤ 8 → em_pw A l3 ≤ 256 → l3 = L → (∀ M', vm 102 (fun c i => if c = 85 ∧ 0 ≤ i ∧ i < 215 then ow_up (ow_up (ow_up f 83 3 L) 83 4 N) 84 1 (-1) 84 i else ow_up (ow_up (ow_up f 83 3 L) 83 4 N) 84 1 (-1) c i) M' → K 0 M') → ow_At C (E0 A L N) (d + 1) mX12_init 218 [(0, (3, 83)), (3, (0, l3))] [] (0 + 0, 0 + 0) M K := by
    intro l3 f M h hA h0 h1 l2 l8 hz hl hK
    subst hl
    have p := em_pw8 ha ⟨l2, l8⟩
    have g0 : ow_gv (E0 A l3 N) M 83 2 = A := (h.gv (by decide) (by decide)).trans hA
    refine bX12_init_218 ⟨h.O (by decide) (by decide) rfl, ?_⟩
    rw [g0]
    refine tX12_powerOf (by omega) (by omega) p.1 ⟨fun _ => ⟨h.O (by decide) (by decide) rfl, rfl, fun N2 e2 => ?_⟩, fun z => by omega⟩
    have v2 := h.up (by decide) e2
    have g2 : ow_gv (E0 A l3 N) N2 83 2 = A := (v2.gv (by decide) (by decide)).trans hA
    refine ⟨v2.O (by decide) (by decide) rfl, ?_⟩
    rw [g2]
    refine tX12_powerOf (by omega) (by omega) p.1 ⟨v2.O (by decide) (by decide) rfl, rfl, fun N4 e4 => ?_⟩
    rw [← hLN] at e4
    have v4 := v2.up (by decide) e4
    have g4 : ow_gv (E0 A l3 N) N4 83 0 = 84 := (v4.gv (by decide) (by decide)).trans h0
    rw [g4]
    refine ⟨v4.O (by decide) (by decide) rfl, v4.R (by decide) (by decide) rfl (by decide) (by decide), rfl, fun N5 e5 => ?_⟩
    have v5 := v4.up (by decide) e5
    have g5 : ow_gv (E0 A l3 N) N5 83 0 = 84 := (v5.gv (by decide) (by decide)).trans h0
    have g6 : ow_gv (E0 A l3 N) N5 83 1 = 85 := (v5.gv (by decide) (by decide)).trans h1
    rw [g5, g6]
    exact ⟨v5.O (by decide) (by decide) rfl, v5.O (by decide) (by decide) rfl, iCopy v5 (fun M' v' => hK M' v')⟩
  intro k
  induction k with
  | zero =>
    intro l3 f M h hA h0 h1 l2 l8 lk hl hK
    have p := em_pw8 ha ⟨l2, l8⟩
    have e : em_pw A l3 ≤ 256 := by
      by_cases z : em_pw A l3 ≤ 256
      · exact z
      · have := p.2 (by omega); omega
    exact done l3 f M h hA h0 h1 l2 l8 e hl hK
  | succ k ih =>
    intro l3 f M h hA h0 h1 l2 l8 lk hl hK
    have p := em_pw8 ha ⟨l2, l8⟩
    have hl' : (if em_pw A l3 ≤ 256 then l3 else lnF A k (l3 - 1)) = L := hl
    by_cases z : em_pw A l3 ≤ 256
    · rw [if_pos z] at hl'
      exact done l3 f M h hA h0 h1 l2 l8 z hl' hK
    · rw [if_neg z] at hl'
      have l3' := p.2 (by omega)
      have g0 : ow_gv (E0 A L N) M 83 2 = A := (h.gv (by decide) (by decide)).trans hA
      refine bX12_init_218 ⟨h.O (by decide) (by decide) rfl, ?_⟩
      rw [g0]
      refine tX12_powerOf (by omega) (by omega) p.1 ⟨fun y => absurd y z, fun _ => ⟨⟨by omega, by omega⟩, ?_⟩⟩
      exact ih (l3 + (-1)) f M h hA h0 h1 (by omega) (by omega) (by omega) (by rw [show l3 + (-1) = l3 - 1 by omega]; exact hl') hK
end REF
