/-! ===== words as longs ===== -/
def pkf (f : Int → Int) : Nat → Int → Int → Int
  | 0, _, a => a
  | k + 1, i, a => pkf f k (i + 1) (a * 256 + f i)
theorem pkf_s {f : Int → Int} : ∀ (k : Nat) (i a : Int), pkf f (k + 1) i a = pkf f k i a * 256 + f (i + k) := by
  intro k
  induction k with
  | zero => intro i a; show a * 256 + f i = a * 256 + f (i + 0); rw [Int.add_zero]
  | succ k ih =>
    intro i a
    show pkf f (k + 1) (i + 1) (a * 256 + f i) = pkf f k (i + 1) (a * 256 + f i) * 256 + f (i + ((k + 1 : Nat) : Int))
    rw [ih (i + 1) (a * 256 + f i), show i + 1 + (k : Int) = i + ((k + 1 : Nat) : Int) by omega]
theorem pkf_nn {f : Int → Int} {p : Int} : ∀ k : Nat, (∀ j : Nat, j < k → 1 ≤ f (p + j) ∧ f (p + j) ≤ 255) → 0 ≤ pkf f k p 0 ∧ (0 < k → 0 < pkf f k p 0) := by
  intro k
  induction k with
  | zero => intro _; exact ⟨Int.le_refl 0, fun z => by omega⟩
  | succ k ih =>
    intro h
    have h1 := (ih (fun j hj => h j (by omega))).1
    have h2 := h k (by omega)
    rw [pkf_s]
    exact ⟨by omega, fun _ => by omega⟩
theorem pkf_inj {f g : Int → Int} {p q : Int} : ∀ k l : Nat, (∀ j : Nat, j < k → 1 ≤ f (p + j) ∧ f (p + j) ≤ 255) → (∀ j : Nat, j < l → 1 ≤ g (q + j) ∧ g (q + j) ≤ 255) → pkf f k p 0 = pkf g l q 0 → k = l ∧ ∀ j : Nat, j < k → f (p + j) = g (q + j) := by
  intro k
  induction k with
  | zero =>
    intro l hf hg e
    cases l with
    | zero => exact ⟨rfl, fun j hj => by omega⟩
    | succ l =>
      have := (pkf_nn (l + 1) hg).2 (by omega)
      have e0 : pkf f 0 p 0 = 0 := rfl
      omega
  | succ k ih =>
    intro l hf hg e
    cases l with
    | zero =>
      have := (pkf_nn (k + 1) hf).2 (by omega)
      have e0 : pkf g 0 q 0 = 0 := rfl
      omega
    | succ l =>
      rw [pkf_s, pkf_s] at e
      have a := hf k (by omega)
      have b := hg l (by omega)
      obtain ⟨i1, i2⟩ := ih l (fun j hj => hf j (by omega)) (fun j hj => hg j (by omega)) (by omega)
      subst i1
      refine ⟨rfl, fun j hj => ?_⟩
      by_cases ej : j = k
      · subst ej; omega
      · exact i2 j (by omega)
theorem pkf_cg {f g : Int → Int} {p q : Int} : ∀ k : Nat, (∀ j : Nat, j < k → f (p + j) = g (q + j)) → pkf f k p 0 = pkf g k q 0 := by
  intro k
  induction k with
  | zero => intro _; rfl
  | succ k ih => intro h; rw [pkf_s, pkf_s, ih (fun j hj => h j (by omega)), h k (by omega)]
theorem ow_lbt_ex {x y : Int} (hx : ow_L x) (hy : ow_L y) (h : ∀ k, 0 ≤ k → k < 64 → ow_lbt x k = ow_lbt y k) : x = y := by
  have e : Int64.ofInt x = Int64.ofInt y := by
    apply Int64.toBitVec_inj.1
    apply BitVec.eq_of_getLsbD_eq
    intro i hi
    have := h i (by omega) (by omega)
    simpa [ow_lbt] using this
  have e2 := congrArg Int64.toInt e
  rw [ow_tl hx, ow_tl hy] at e2
  exact e2
theorem ow_lsh8 : (((Int32.ofInt 8).toInt64 &&& 63).toBitVec.smod 64).toNat = 8 := by decide
theorem ow_lpk {a b : Int} (ha : 0 ≤ a) (ha2 : a < 281474976710656) (hb : 0 ≤ b) (hb2 : b < 256) : ow_lor (ow_lshl a 8) b = a * 256 + b := by
  refine ow_lbt_ex (ow_lt _) ⟨by omega, by omega⟩ (fun k k0 k1 => ?_)
  have sh : ow_lbt (ow_lshl a 8) k = (decide (8 ≤ k) && ow_lbt a (k - 8)) := by
    unfold ow_lbt ow_lshl
    rw [Int64.ofInt_toInt, Int64.toBitVec_shiftLeft, BitVec.shiftLeft_eq', ow_lsh8, BitVec.getLsbD_shiftLeft]
    have h1 : k.toNat < 64 := by omega
    have h2 : (k - 8).toNat = k.toNat - 8 := by omega
    rw [h2]
    by_cases e : 8 ≤ k
    · have h3 : ¬ k.toNat < 8 := by omega
      simp [h1, h3, e]
    · have h3 : k.toNat < 8 := by omega
      simp [h3, e]
  obtain ⟨x, rfl⟩ := Int.eq_ofNat_of_zero_le ha
  obtain ⟨y, rfl⟩ := Int.eq_ofNat_of_zero_le hb
  rw [ow_lbt_or, sh, ow_lbt_nn (by omega) (by omega), ow_lbt_nn (by omega) (by omega), ow_lbt_nn (by omega) (by omega), Int.toNat_natCast, Int.toNat_natCast, show ((x : Int) * 256 + (y : Int)).toNat = 2 ^ 8 * x + y by omega, Nat.testBit_two_pow_mul_add x (show y < 2 ^ 8 by omega)]
  by_cases e : k.toNat < 8
  · rw [if_pos e, decide_eq_false (by omega), Bool.false_and, Bool.false_or]
  · rw [if_neg e, decide_eq_true (by omega), Bool.true_and, show (k - 8).toNat = k.toNat - 8 by omega]
    have : y.testBit k.toNat = false := Nat.testBit_lt_two_pow (Nat.lt_of_lt_of_le (show y < 2 ^ 8 by omega) (Nat.pow_le_pow_right (by decide) (by omega)))
    rw [this, Bool.or_false]
def wc (k : Nat) : Int := pkf (ow_byt k) (ow_len k).toNat 0 0
theorem nu_s {n : Int} {t : Int → Int} : ∀ (k : Nat) (i a : Int), nu n t (k + 1) i a = min 10000 (nu n t k i a * 10 + ty_b n t (i + k) - 48) := by
  intro k
  induction k with
  | zero => intro i a; show min 10000 (a * 10 + ty_b n t i - 48) = min 10000 (a * 10 + ty_b n t (i + 0) - 48); rw [Int.add_zero]
  | succ k ih =>
    intro i a
    show nu n t (k + 1) (i + 1) (min 10000 (a * 10 + ty_b n t i - 48)) = min 10000 (nu n t k (i + 1) (min 10000 (a * 10 + ty_b n t i - 48)) * 10 + ty_b n t (i + ((k + 1 : Nat) : Int)) - 48)
    rw [ih (i + 1), show i + 1 + (k : Int) = i + ((k + 1 : Nat) : Int) by omega]
/-- names are apart -/
theorem nm_apart : ∀ j k : Fin 14, j ≠ k → (ow_len j.val ≠ ow_len k.val ∨ ∃ i : Fin 6, (i.val : Int) < ow_len j.val ∧ ow_byt j.val (i.val : Int) ≠ ow_byt k.val (i.val : Int)) := by decide +kernel
theorem nm_byt : ∀ k : Fin 14, ∀ i : Fin 6, (i.val : Int) < ow_len k.val → 1 ≤ ow_byt k.val (i.val : Int) ∧ ow_byt k.val (i.val : Int) ≤ 255 := by decide +kernel
theorem nm_len : ∀ k : Fin 14, 2 ≤ ow_len k.val ∧ ow_len k.val ≤ 6 := by decide +kernel
section NMS
variable {n : Int} {t : Int → Int}
theorem sp_iff {k : Nat} (hk : k < 14) {p e : Int} : sp n t k p e = true ↔ e - p = ow_len k ∧ ∀ j, 0 ≤ j → j < ow_len k → ty_b n t (p + j) = ow_byt k j := by
  have hl := nm_len ⟨k, hk⟩
  simp only at hl
  unfold sp
  rw [decide_eq_true_iff, ow_ct_z (by omega)]
  refine ⟨fun ⟨h1, h2⟩ => ⟨h1, fun j j0 j1 => ?_⟩, fun ⟨h1, h2⟩ => ⟨h1, fun j j0 j1 z => of_decide_eq_true z (h2 j j0 j1)⟩⟩
  exact Classical.byContradiction (fun hne => h2 j j0 j1 (decide_eq_true hne))
theorem sp_one {j k : Nat} (hj : j < 14) (hk : k < 14) {p e : Int} (h1 : sp n t j p e = true) (h2 : sp n t k p e = true) : j = k := by
  refine Classical.byContradiction (fun hne => ?_)
  obtain ⟨a1, a2⟩ := (sp_iff hj).1 h1
  obtain ⟨b1, b2⟩ := (sp_iff hk).1 h2
  rcases nm_apart ⟨j, hj⟩ ⟨k, hk⟩ (fun z => hne (congrArg Fin.val z)) with z | ⟨i, i1, i2⟩
  · simp only at z; omega
  · simp only at i1 i2
    exact i2 ((a2 i.val (by omega) i1).symm.trans (b2 i.val (by omega) (by omega)))
theorem nm_iff {k : Nat} (hk : k < 14) {p e : Int} : nm n t p e = (k : Int) ↔ sp n t k p e = true := by
  unfold nm
  refine ⟨fun q => ?_, fun q => ?_⟩
  · by_cases hex : ∃ z : Int, 0 ≤ z ∧ z < 14 ∧ sp n t z.toNat p e = true
    · obtain ⟨z, z0, z1, z2, z3⟩ := ow_pv_first (q := fun k => sp n t k.toNat p e) (g := fun k => k) (n := 14) (by decide) hex
      rw [z3] at q
      rw [q, Int.toNat_natCast] at z2
      exact z2
    · have : ow_pk (fun k => sp n t k.toNat p e) (fun k => k) 0 14 = none := by
        have := ow_ind (P := fun i => i ≤ 14 → ow_pk (fun k => sp n t k.toNat p e) (fun k => k) 0 i = none) (fun _ => rfl) (fun i i0 ih hi => ow_pkS i0 (ih (by omega)) (fun z => hex ⟨i, i0, by omega, z.1⟩)) 14 (by decide)
        exact this (Int.le_refl 14)
      rw [ow_pk_end this, if_neg (by decide)] at q
      omega
  · obtain ⟨z, z0, z1, z2, z3⟩ := ow_pv_first (q := fun k => sp n t k.toNat p e) (g := fun k => k) (n := 14) (by decide) ⟨(k : Int), by omega, by omega, by rw [Int.toNat_natCast]; exact q⟩
    rw [z3]
    have := sp_one (show z.toNat < 14 by omega) hk z2 q
    omega
/-- a packed word against a name -/
theorem pk_nm (hp : tp_ok n t) {p e : Int} (h0 : 0 ≤ p) (h1 : p < e) (hl : ∀ j, p ≤ j → j < e → tq_l (ty_b n t j) = true) {k : Nat} (hk : k < 14) : (if e - p ≤ 7 then pkf (ty_b n t) (e - p).toNat p 0 else 0) = wc k ↔ nm n t p e = (k : Int) := by
  have lk := nm_len ⟨k, hk⟩
  simp only at lk
  have by1 : ∀ j : Nat, j < (e - p).toNat → 1 ≤ ty_b n t (p + j) ∧ ty_b n t (p + j) ≤ 255 := by
    intro j hj
    have := of_decide_eq_true (hl (p + j) (by omega) (by omega))
    omega
  have by2 : ∀ j : Nat, j < (ow_len k).toNat → 1 ≤ ow_byt k (0 + j) ∧ ow_byt k (0 + j) ≤ 255 := by
    intro j hj
    have := nm_byt ⟨k, hk⟩ ⟨j, by omega⟩ (by simp only; omega)
    rw [Int.zero_add]; exact this
  rw [nm_iff hk, sp_iff hk]
  have wp := (pkf_nn (ow_len k).toNat by2).2 (by omega)
  by_cases e7 : e - p ≤ 7
  · rw [if_pos e7]
    refine ⟨fun q => ?_, fun ⟨q1, q2⟩ => ?_⟩
    · obtain ⟨a1, a2⟩ := pkf_inj (e - p).toNat (ow_len k).toNat by1 by2 q
      refine ⟨by omega, fun j j0 j1 => ?_⟩
      have := a2 j.toNat (by omega)
      rw [show ((j.toNat : Nat) : Int) = j by omega, Int.zero_add] at this
      exact this
    · unfold wc
      rw [q1]
      refine pkf_cg _ (fun j hj => ?_)
      rw [Int.zero_add]
      exact q2 j (by omega) (by omega)
  · rw [if_neg e7]
    refine ⟨fun q => ?_, fun q => by omega⟩
    unfold wc at q
    omega
end NMS
