/-! ===== the log ===== -/
def lg_ok (N h n : Int) (hd wd tm : Int → Int) : Prop := 0 ≤ h ∧ h ≤ 8 ∧ 0 ≤ n ∧ n ≤ 40 ∧ ∀ k, 0 ≤ k → k < n → (0 ≤ hd k ∧ hd k ≤ h) ∧ (-1 ≤ wd k ∧ wd k < N) ∧ 0 ≤ tm k ∧ tm k ≤ 99
def lg_C (M : ow_M) (b h n : Int) (hd wd tm : Int → Int) : Prop := M b 0 = h ∧ M b 1 = n ∧ ∀ k, 0 ≤ k → k < n → M (b + 1) k = hd k ∧ M (b + 2) k = wd k ∧ M (b + 3) k = tm k
def lg_M (M : ow_M) (c h n : Int) (hd wd tm : Int → Int) : Prop := M c 3 = h ∧ M c 4 = n ∧ ∀ k, 0 ≤ k → k < n → M c (90 + 3 * k) = hd k ∧ M c (91 + 3 * k) = wd k ∧ M c (92 + 3 * k) = tm k
section LGS
variable {C : ow_C} {A L N : Int} {d : Nat} {M : ow_M} {K : Int → ow_M → Prop} {h n : Int} {hd wd tm : Int → Int}
theorem tX11_isHands {E : ow_E} {x : Int} (h1 : ¬ (0 ≤ x ∧ x ≤ 8) → K 0 M) (h2 : (0 ≤ x ∧ x ≤ 8) → K 1 M) : ow_Sp C E d mX11_isHands (0, 0) [(0, x)] M K := by
  refine eX11_isHands ⟨fun q => h1 (by omega), fun q => ⟨fun q2 => h1 (by omega), fun q2 => h2 ⟨q, q2⟩⟩⟩
theorem tX11_isTime {E : ow_E} {x : Int} (h1 : ¬ (0 ≤ x ∧ x ≤ 99) → K 0 M) (h2 : (0 ≤ x ∧ x ≤ 99) → K 1 M) : ow_Sp C E d mX11_isTime (0, 0) [(0, x)] M K := by
  refine eX11_isTime ⟨fun q => h1 (by omega), fun q => ⟨fun q2 => h1 (by omega), fun q2 => h2 ⟨q, q2⟩⟩⟩
theorem tX11_log {x : Int} (h1 : ¬ (0 ≤ x ∧ x ≤ 8) → K 0 M) (h2 : 0 ≤ x → x ≤ 8 → ∀ M', ow_of [] [(14, 0), (14, 1)] M M' → lg_C M' 14 x 0 hd wd tm → K 1 M') : ow_Sp C (EM A L N) (d + 1) mX11_log (0, 0) [(3, 0), (0, x)] M K := by
  refine fX11_log (tX11_isHands (fun q => ⟨fun z => absurd rfl z, fun _ => h1 q⟩) (fun q => ⟨fun _ => fX4_begin ?_, fun z => absurd z (by decide)⟩))
  rintro N1 rfl N2 rfl
  refine h2 q.1 q.2 _ ((ow_of.rf.uf (by decide)).uf (by decide)) ⟨?_, ow_upS, fun k k0 k1 => by omega⟩
  rw [ow_upN (Or.inr (by decide)), ow_upS]
theorem tX12_log {x : Int} (h1 : ¬ (0 ≤ x ∧ x ≤ 8) → K 0 M) (h2 : 0 ≤ x → x ≤ 8 → ∀ M', ow_of [] [(84, 3), (84, 4)] M M' → lg_M M' 84 x 0 hd wd tm → K 1 M') : ow_Sp C (EM A L N) (d + 1) mX12_log (0, 0) [(3, 83), (0, x)] M K := by
  refine fX12_log (tX12_isIn (fun q => ⟨fun z => absurd rfl z, fun _ => h1 q⟩) (fun q => ⟨fun _ => ?_, fun z => absurd z (by decide)⟩))
  rintro N1 rfl N2 rfl
  refine h2 q.1 q.2 _ ((ow_of.rf.uf (by decide)).uf (by decide)) ⟨?_, ow_upS, fun k k0 k1 => by omega⟩
  rw [ow_upN (Or.inr (by decide)), ow_upS]
/-- what may be said -/
def lg_may (N h n x y z : Int) : Prop := (y = -1 ∨ (0 ≤ y ∧ y < N)) ∧ (0 ≤ z ∧ z ≤ 99) ∧ (0 ≤ x ∧ x ≤ h) ∧ n < 40
theorem lg_put_ok (hN : 0 ≤ N) (hok : lg_ok N h n hd wd tm) {x y z : Int} (hm : lg_may N h n x y z) : lg_ok N h (n + 1) (bk_put hd n x) (bk_put wd n y) (bk_put tm n z) := by
  obtain ⟨o1, o2, o3, o4, o5⟩ := hok
  obtain ⟨m1, m2, m3, m4⟩ := hm
  refine ⟨o1, o2, by omega, by omega, fun k k0 k1 => ?_⟩
  by_cases e : k = n
  · subst e; rw [bk_put_s, bk_put_s, bk_put_s]; omega
  · rw [bk_put_n e, bk_put_n e, bk_put_n e]; exact o5 k k0 (by omega)
theorem tX4_add (hok : lg_ok N h n hd wd tm) (hL : lg_C M 14 h n hd wd tm) {x y z : Int} (h1 : n = 40 → K 0 M) (h2 : n < 40 → ∀ M', ow_of [15, 16, 17] [(14, 1)] M M' → lg_C M' 14 h (n + 1) (bk_put hd n x) (bk_put wd n y) (bk_put tm n z) → K 1 M') : ow_Sp C (EM A L N) d mX4_add (0, 0) [(3, 14), (0, x), (0, y), (0, z)] M K := by
  obtain ⟨o1, o2, o3, o4, o5⟩ := hok
  obtain ⟨l1, l2, l3⟩ := hL
  refine fX4_add ?_
  rw [l2]
  refine ⟨fun q => ⟨⟨o3, q⟩, ?_⟩, fun q => h1 (by omega)⟩
  intro N1 e1
  have g1 : N1 14 1 = n := by rw [e1, ow_upN (Or.inl (by decide))]; exact l2
  rw [g1]
  refine ⟨⟨o3, q⟩, ?_⟩
  intro N2 e2
  have g2 : N2 14 1 = n := by rw [e2, ow_upN (Or.inl (by decide))]; exact g1
  rw [g2]
  refine ⟨⟨o3, q⟩, ?_⟩
  intro N3 e3
  have g3 : N3 14 1 = n := by rw [e3, ow_upN (Or.inl (by decide))]; exact g2
  rw [g3]
  refine ⟨⟨by omega, by omega⟩, ?_⟩
  intro N4 e4
  refine h2 q N4 ?_ ?_
  · rw [e4, e3, e2, e1]; exact (((ow_of.rf.up (by decide)).up (by decide)).up (by decide)).uf (by decide)
  · subst e4; subst e3; subst e2; subst e1
    refine ⟨?_, ow_upS, fun k k0 k1 => ?_⟩
    · rw [ow_upN (Or.inr (by decide)), ow_upN (Or.inl (by decide)), ow_upN (Or.inl (by decide)), ow_upN (Or.inl (by decide))]; exact l1
    · rw [show (14 : Int) + 1 = 15 from rfl, show (14 : Int) + 2 = 16 from rfl, show (14 : Int) + 3 = 17 from rfl]
      by_cases e : k = n
      · subst e
        rw [bk_put_s, bk_put_s, bk_put_s]
        refine ⟨?_, ?_, ?_⟩
        · rw [ow_upN (Or.inl (by decide)), ow_upN (Or.inl (by decide)), ow_upN (Or.inl (by decide)), ow_upS]
        · rw [ow_upN (Or.inl (by decide)), ow_upN (Or.inl (by decide)), ow_upS]
        · rw [ow_upN (Or.inl (by decide)), ow_upS]
      · rw [bk_put_n e, bk_put_n e, bk_put_n e]
        obtain ⟨g1, g2, g3⟩ := l3 k k0 (by omega)
        refine ⟨?_, ?_, ?_⟩
        · rw [ow_upN (Or.inl (by decide)), ow_upN (Or.inl (by decide)), ow_upN (Or.inl (by decide)), ow_upN (Or.inr e)]; exact g1
        · rw [ow_upN (Or.inl (by decide)), ow_upN (Or.inl (by decide)), ow_upN (Or.inr e), ow_upN (Or.inl (by decide))]; exact g2
        · rw [ow_upN (Or.inl (by decide)), ow_upN (Or.inr e), ow_upN (Or.inl (by decide)), ow_upN (Or.inl (by decide))]; exact g3
theorem tX11_said (hN : em_ok A L N) (hok : lg_ok N h n hd wd tm) (hL : lg_C M 14 h n hd wd tm) {x y z : Int} (h1 : ¬ lg_may N h n x y z → K (-1) M) (h2 : lg_may N h n x y z → ∀ M', ow_of [15, 16, 17] [(14, 1)] M M' → lg_C M' 14 h (n + 1) (bk_put hd n x) (bk_put wd n y) (bk_put tm n z) → K (n + 1) M') : ow_Sp C (EM A L N) (d + 1) mX11_said (0, 0) [(3, 0), (0, x), (0, y), (0, z)] M K := by
  have key : (y = -1 ∨ (0 ≤ y ∧ y < N)) → ow_At C (EM A L N) (d + 1) mX11_said 18 [(0, (3, 0)), (1, (0, x)), (2, (0, y)), (3, (0, z))] [] (0, 0) M K := by
    intro hy
    refine cX11_said_18 (tX11_isTime (fun q => ⟨fun _ => h1 (fun m => q m.2.1), fun q2 => absurd rfl q2⟩) (fun q => ⟨fun q2 => absurd q2 (by decide), fun _ => ?_⟩))
    rw [hL.1]
    refine ⟨fun q2 => h1 (fun m => by have := m.2.2.1; omega), fun q2 => ⟨fun q3 => ?_, fun q3 => h1 (fun m => by have := m.2.2.1; omega)⟩⟩
    refine tX4_add hok hL (fun q4 => ⟨fun _ => h1 (fun m => by have := m.2.2.2; omega), fun q5 => absurd rfl q5⟩) (fun q4 M' o l => ⟨fun q5 => absurd q5 (by decide), fun _ => ?_⟩)
    rw [l.2.1]
    exact h2 ⟨hy, q, ⟨q2, q3⟩, q4⟩ M' o l
  refine fX11_said ⟨fun e => key (Or.inl e), fun e => tX10_isWord (fun q => ⟨fun q2 => absurd rfl q2, fun _ => h1 (fun m => by rcases m.1 with q3 | q3; exact e q3; exact q q3)⟩) (fun q => ⟨fun _ => key (Or.inr q), fun q2 => absurd q2 (by decide)⟩)⟩
theorem tX12_said (hN : em_ok A L N) (hok : lg_ok N h n hd wd tm) (hL : lg_M M 84 h n hd wd tm) {x y z : Int} (h1 : ¬ lg_may N h n x y z → K (-1) M) (h2 : lg_may N h n x y z → ∀ M', ow_off [84] M M' → (∀ i, ¬ (i = 4 ∨ (90 ≤ i ∧ i < 210)) → M' 84 i = M 84 i) → lg_M M' 84 h (n + 1) (bk_put hd n x) (bk_put wd n y) (bk_put tm n z) → K (n + 1) M') : ow_Sp C (EM A L N) (d + 2) mX12_said (0, 0) [(3, 83), (0, x), (0, y), (0, z)] M K := by
  have hok' := hok
  obtain ⟨o1, o2, o3, o4, o5⟩ := hok
  have hL' := hL
  obtain ⟨l1, l2, l3⟩ := hL
  have key : (0 ≤ x ∧ x ≤ h) → (y = -1 ∨ (0 ≤ y ∧ y < N)) → ow_At C (EM A L N) (d + 2) mX12_said 27 [(0, (3, 83)), (1, (0, x)), (2, (0, y)), (3, (0, z))] [] (0, 0) M K := by
    intro hx hy
    refine cX12_said_27 (tX12_isIn (fun q => ⟨fun _ => h1 (fun m => q m.2.1), fun q2 => absurd rfl q2⟩) (fun q => ⟨fun q2 => absurd q2 (by decide), fun _ => ?_⟩))
    rw [l2]
    refine ⟨fun q2 => ?_, fun q2 => h1 (fun m => by have := m.2.2.2; omega)⟩
    refine ⟨⟨by omega, by omega⟩, ⟨by omega, by omega⟩, ⟨by omega, by omega⟩, ?_⟩
    intro N1 e1
    refine ⟨⟨by omega, by omega⟩, ⟨by omega, by omega⟩, ?_⟩
    intro N2 e2
    refine ⟨⟨by omega, by omega⟩, ⟨by omega, by omega⟩, ?_⟩
    intro N3 e3
    have g3 : N3 84 4 = n := by rw [e3, e2, e1, ow_upN (Or.inr (by omega)), ow_upN (Or.inr (by omega)), ow_upN (Or.inr (by omega))]; exact l2
    rw [g3]
    refine ⟨⟨by omega, by omega⟩, ?_⟩
    intro N4 e4
    rw [show N4 84 4 = n + 1 by rw [e4, ow_upS]]
    refine h2 ⟨hy, q, hx, by omega⟩ N4 ?_ ?_ ?_
    · rw [e4, e3, e2, e1]; exact (((ow_off.rf.up (by decide)).up (by decide)).up (by decide)).up (by decide)
    · intro i hi
      rw [e4, e3, e2, e1, ow_upN (Or.inr (by omega)), ow_upN (Or.inr (by omega)), ow_upN (Or.inr (by omega)), ow_upN (Or.inr (by omega))]
    · subst e4; subst e3; subst e2; subst e1
      refine ⟨?_, ow_upS, fun k k0 k1 => ?_⟩
      · rw [ow_upN (Or.inr (by decide)), ow_upN (Or.inr (by omega)), ow_upN (Or.inr (by omega)), ow_upN (Or.inr (by omega))]; exact l1
      · by_cases e : k = n
        · subst e
          rw [bk_put_s, bk_put_s, bk_put_s]
          refine ⟨?_, ?_, ?_⟩
          · rw [ow_upN (Or.inr (by omega)), ow_upN (Or.inr (by omega)), ow_upN (Or.inr (by omega)), ow_upS]
          · rw [ow_upN (Or.inr (by omega)), ow_upN (Or.inr (by omega)), show (91 : Int) + 3 * k = 90 + 3 * k + 1 by omega, ow_upS]
          · rw [ow_upN (Or.inr (by omega)), show (92 : Int) + 3 * k = 90 + 3 * k + 2 by omega, ow_upS]
        · rw [bk_put_n e, bk_put_n e, bk_put_n e]
          obtain ⟨g1, g2, g3⟩ := l3 k k0 (by omega)
          refine ⟨?_, ?_, ?_⟩
          · rw [ow_upN (Or.inr (by omega)), ow_upN (Or.inr (by omega)), ow_upN (Or.inr (by omega)), ow_upN (Or.inr (by omega))]; exact g1
          · rw [ow_upN (Or.inr (by omega)), ow_upN (Or.inr (by omega)), ow_upN (Or.inr (by omega)), ow_upN (Or.inr (by omega))]; exact g2
          · rw [ow_upN (Or.inr (by omega)), ow_upN (Or.inr (by omega)), ow_upN (Or.inr (by omega)), ow_upN (Or.inr (by omega))]; exact g3
  refine fX12_said ?_
  rw [l1]
  refine tX12_isIn (fun q => ⟨fun _ => h1 (fun m => q m.2.2.1), fun q2 => absurd rfl q2⟩) (fun q => ⟨fun q2 => absurd q2 (by decide), fun _ => ⟨fun e => key q (Or.inl e), fun e => tX12_isWord0 hN (fun q2 => ⟨fun _ => h1 (fun m => by rcases m.1 with q3 | q3; exact e q3; exact q2 q3), fun q3 => absurd rfl q3⟩) (fun q2 => ⟨fun q3 => absurd q3 (by decide), fun _ => key q (Or.inr q2)⟩)⟩⟩)
/-- what a hand last said up to a time, among the first n of the log -/
def lg_as (hd wd tm : Int → Int) (x z : Int) : Nat → Int
  | 0 => -1
  | n + 1 => if hd n = x ∧ tm n ≤ z then wd n else lg_as hd wd tm x z n
theorem tX4_known (hok : lg_ok N h n hd wd tm) (hL : lg_C M 14 h n hd wd tm) {x z : Int} (h1 : K (lg_as hd wd tm x z n.toNat) M) : ow_Sp C (EM A L N) d mX4_known (0, 0) [(3, 14), (0, x), (0, z)] M K := by
  obtain ⟨o1, o2, o3, o4, o5⟩ := hok
  obtain ⟨l1, l2, l3⟩ := hL
  refine fX4_known ?_
  rw [l2]
  refine ⟨⟨by omega, by omega⟩, ?_⟩
  refine ow_dnto (S := Unit) (P := fun i _ => ow_At C (EM A L N) d mX4_known 7 [(0, (3, 14)), (1, (0, x)), (2, (0, z)), (3, (0, i))] [] (0, 0) M K) (I := fun i _ => i < n ∧ lg_as hd wd tm x z n.toNat = lg_as hd wd tm x z (i + 1).toNat) (fun _ hI => ?_) (fun i s i0 hI ih => ?_) (n - 1) () (by omega) ⟨by omega, by rw [show n - 1 + 1 = n by omega]⟩
  · refine cX4_known_7 ⟨fun _ => ?_, fun q => by omega⟩
    rw [hI.2] at h1
    exact h1
  · obtain ⟨i1, i2⟩ := hI
    obtain ⟨g1, g2, g3⟩ := l3 i i0 i1
    rw [show (14 : Int) + 1 = 15 from rfl] at g1
    rw [show (14 : Int) + 2 = 16 from rfl] at g2
    rw [show (14 : Int) + 3 = 17 from rfl] at g3
    have e : (i + 1).toNat = i.toNat + 1 := by omega
    have e2 : ((i.toNat : Nat) : Int) = i := by omega
    rw [e] at i2
    simp only [lg_as, e2] at i2
    refine cX4_known_7 ⟨fun q => by omega, fun _ => ⟨⟨i0, by omega⟩, ?_⟩⟩
    rw [g1, g2, g3]
    refine ⟨fun q => ⟨⟨by omega, by omega⟩, ih () ⟨by omega, ?_⟩⟩, fun q => ⟨fun q2 => ⟨⟨by omega, by omega⟩, ih () ⟨by omega, ?_⟩⟩, fun q2 => ?_⟩⟩
    · rw [if_neg (fun m => q m.1)] at i2
      rw [show i - 1 + 1 = i by omega]; exact i2
    · rw [if_neg (fun m => by omega)] at i2
      rw [show i - 1 + 1 = i by omega]; exact i2
    · rw [if_pos ⟨q, q2⟩] at i2
      rw [i2] at h1; exact h1
theorem tX12_asOf (hok : lg_ok N h n hd wd tm) (hL : lg_M M 84 h n hd wd tm) {x z : Int} (h1 : K (lg_as hd wd tm x z n.toNat) M) : ow_Sp C (EM A L N) d mX12_asOf (0, 0) [(3, 83), (0, x), (0, z)] M K := by
  obtain ⟨o1, o2, o3, o4, o5⟩ := hok
  obtain ⟨l1, l2, l3⟩ := hL
  refine fX12_asOf ?_
  refine ow_upto (S := Int) (P := fun i s => ow_At C (EM A L N) d mX12_asOf 5 [(0, (3, 83)), (1, (0, x)), (2, (0, z)), (3, (0, s)), (4, (0, i))] [] (0, 0) M K) (I := fun i s => 0 ≤ i ∧ s = lg_as hd wd tm x z i.toNat) n (fun s hI => ?_) (fun i s i1 hI ih => ?_) 0 (-1) (by omega) ⟨by omega, rfl⟩
  · refine cX12_asOf_5 ⟨fun _ => ?_, fun q => by omega⟩
    rw [hI.2]
    exact h1
  · obtain ⟨i0, i2⟩ := hI
    obtain ⟨g1, g2, g3⟩ := l3 i i0 i1
    have e : (i + 1).toNat = i.toNat + 1 := by omega
    have e2 : ((i.toNat : Nat) : Int) = i := by omega
    refine cX12_asOf_5 ⟨fun q => by omega, fun _ => ⟨⟨by omega, by omega⟩, ⟨by omega, by omega⟩, ⟨by omega, by omega⟩, ?_⟩⟩
    rw [show (90 : Int) + 3 * i + 2 = 92 + 3 * i by omega, show (90 : Int) + 3 * i + 1 = 91 + 3 * i by omega, g1, g2, g3]
    refine ⟨fun q => ⟨⟨by omega, by omega⟩, ih s ⟨by omega, ?_⟩⟩, fun q => ⟨⟨by omega, by omega⟩, ⟨by omega, by omega⟩, fun q2 => ⟨⟨by omega, by omega⟩, ih s ⟨by omega, ?_⟩⟩, fun q2 => ⟨⟨by omega, by omega⟩, ⟨by omega, by omega⟩, ⟨by omega, by omega⟩, ih (wd i) ⟨by omega, ?_⟩⟩⟩⟩
    · rw [e]; simp only [lg_as, e2]
      rw [if_neg (fun m => q m.1)]; exact i2
    · rw [e]; simp only [lg_as, e2]
      rw [if_neg (fun m => by omega)]; exact i2
    · rw [e]; simp only [lg_as, e2]
      rw [if_pos ⟨q, q2⟩]
end LGS
