/-! ===== the fewest who broke the vow: what is asked ===== -/
def ow_mnn (g : Int → Int) : Nat → Int
  | 0 => 1048576
  | n + 1 => min (ow_mnn g n) (g n)
def ow_mn (g : Int → Int) (n : Int) : Int := ow_mnn g n.toNat
theorem ow_mn0 {g : Int → Int} : ow_mn g 0 = 1048576 := rfl
theorem ow_mnS {g : Int → Int} {i : Int} (h : 0 ≤ i) : ow_mn g (i + 1) = min (ow_mn g i) (g i) := by
  unfold ow_mn
  rw [show (i + 1).toNat = i.toNat + 1 by omega]
  simp only [ow_mnn, show ((i.toNat : Nat) : Int) = i by omega]
theorem ow_mn_le {g : Int → Int} {n t : Int} (hn : 0 ≤ n) : ow_mn g n ≤ t ↔ 1048576 ≤ t ∨ ∃ i, 0 ≤ i ∧ i < n ∧ g i ≤ t := by
  refine ow_ind (P := fun n => ow_mn g n ≤ t ↔ 1048576 ≤ t ∨ ∃ i, 0 ≤ i ∧ i < n ∧ g i ≤ t) ?_ (fun k k0 ih => ?_) n hn
  · rw [ow_mn0]
    exact ⟨fun q => Or.inl q, fun q => by rcases q with q | ⟨i, i0, i1, _⟩; exact q; omega⟩
  · rw [ow_mnS k0]
    have e : min (ow_mn g k) (g k) ≤ t ↔ ow_mn g k ≤ t ∨ g k ≤ t := by omega
    rw [e, ih]
    refine ⟨fun q => ?_, fun q => ?_⟩
    · rcases q with (q | ⟨i, i0, i1, i2⟩) | q
      · exact Or.inl q
      · exact Or.inr ⟨i, i0, by omega, i2⟩
      · exact Or.inr ⟨k, k0, by omega, q⟩
    · rcases q with q | ⟨i, i0, i1, i2⟩
      · exact Or.inl (Or.inl q)
      · by_cases e : i = k
        · rw [e] at i2; exact Or.inr i2
        · exact Or.inl (Or.inr ⟨i, i0, by omega, i2⟩)
theorem ow_mn_P {P : Int → Prop} {g : Int → Int} {n : Int} (hn : 0 ≤ n) (h0 : P 1048576) (h : ∀ i, 0 ≤ i → i < n → P (g i)) : P (ow_mn g n) := by
  have := ow_ind (P := fun k => k ≤ n → P (ow_mn g k)) (fun _ => h0) (fun k k0 ih hk => by
    rw [ow_mnS k0]
    have h1 := ih (by omega)
    have h2 := h k k0 (by omega)
    by_cases e : ow_mn g k ≤ g k
    · rw [show min (ow_mn g k) (g k) = ow_mn g k by omega]; exact h1
    · rw [show min (ow_mn g k) (g k) = g k by omega]; exact h2) n hn
  exact this (Int.le_refl n)
theorem ow_le_eq {a b : Int} (h : ∀ t, a ≤ t ↔ b ≤ t) : a = b := by
  have h1 := (h b).2 (Int.le_refl b)
  have h2 := (h a).1 (Int.le_refl a)
  omega
def bs_lt (L N : Int) (f : Int → Int → Int) : Int := ow_mn (fun w => ow_mn (fun b => f w b) (L + 1)) N
def bs_st (A L N : Int) (T : ow_M) (f : Int → Int → Int) (hand w' b' : Int) : Int := ow_mn (fun w => ow_mn (fun b => ow_mn (fun z => if 0 < cw A L T hand w b z ∧ em_ch A L w (z / A) (z % A) = w' ∧ z / A + 1 = b' then f w b else 1048576) (L * A)) (L + 1)) N
/-- what the hands can have cost, by word and last, behind so many of them -/
def bf (A L N : Int) (T : ow_M) (kn : Int → Int) : Nat → Int → Int → Int
  | 0, w, b => if kn 0 = -1 ∨ w = kn 0 then (if b = 0 then 0 else 1048576) else 1048576
  | k + 1, w, b => if kn ((k : Int) + 1) = -1 ∨ w = kn ((k : Int) + 1) then (if b = 0 then bs_lt L N (bf A L N T kn k) + 256 + 2 ^ k else bs_st A L N T (bf A L N T kn k) k w b) else 1048576
def dm (k : Nat) (x : Int) : Prop := (0 ≤ x ∧ x / 256 ≤ k ∧ x % 256 ≤ 2 ^ k - 1) ∨ x = 1048576
def ph (x : Int) : Int := if x = 1048576 then 1000000 else x / 256 * 1024 + x % 256
section BFS
variable {A L N : Int} {T : ow_M}
theorem bs_lt_le (h : em_ok A L N) {f : Int → Int → Int} {t : Int} : bs_lt L N f ≤ t ↔ 1048576 ≤ t ∨ ∃ w b, (0 ≤ w ∧ w < N) ∧ (0 ≤ b ∧ b ≤ L) ∧ f w b ≤ t := by
  have hN := em_Npos h
  have hL := h.2.2.1
  unfold bs_lt
  rw [ow_mn_le (by omega)]
  refine ⟨fun q => ?_, fun q => ?_⟩
  · rcases q with q | ⟨w, w0, w1, q⟩
    · exact Or.inl q
    · rcases (ow_mn_le (by omega)).1 q with q | ⟨b, b0, b1, q⟩
      · exact Or.inl q
      · exact Or.inr ⟨w, b, ⟨w0, w1⟩, ⟨b0, by omega⟩, q⟩
  · rcases q with q | ⟨w, b, hw, hb, q⟩
    · exact Or.inl q
    · exact Or.inr ⟨w, hw.1, hw.2, (ow_mn_le (by omega)).2 (Or.inr ⟨b, hb.1, by omega, q⟩)⟩
theorem bs_st_le (h : em_ok A L N) {f : Int → Int → Int} {hand w' b' t : Int} : bs_st A L N T f hand w' b' ≤ t ↔ 1048576 ≤ t ∨ ∃ w b z, (0 ≤ w ∧ w < N) ∧ (0 ≤ b ∧ b ≤ L) ∧ (0 ≤ z ∧ z < L * A) ∧ 0 < cw A L T hand w b z ∧ em_ch A L w (z / A) (z % A) = w' ∧ z / A + 1 = b' ∧ f w b ≤ t := by
  have hN := em_Npos h
  have hL := h.2.2.1
  have hD := vx_D h
  unfold bs_st
  rw [ow_mn_le (by omega)]
  refine ⟨fun q => ?_, fun q => ?_⟩
  · rcases q with q | ⟨w, w0, w1, q⟩
    · exact Or.inl q
    · rcases (ow_mn_le (by omega)).1 q with q | ⟨b, b0, b1, q⟩
      · exact Or.inl q
      · rcases (ow_mn_le (by omega)).1 q with q | ⟨z, z0, z1, q⟩
        · exact Or.inl q
        · by_cases e : 0 < cw A L T hand w b z ∧ em_ch A L w (z / A) (z % A) = w' ∧ z / A + 1 = b'
          · rw [if_pos e] at q
            exact Or.inr ⟨w, b, z, ⟨w0, w1⟩, ⟨b0, by omega⟩, ⟨z0, z1⟩, e.1, e.2.1, e.2.2, q⟩
          · rw [if_neg e] at q; exact Or.inl q
  · rcases q with q | ⟨w, b, z, hw, hb, hz, e1, e2, e3, q⟩
    · exact Or.inl q
    · exact Or.inr ⟨w, hw.1, hw.2, (ow_mn_le (by omega)).2 (Or.inr ⟨b, hb.1, by omega, (ow_mn_le (by omega)).2 (Or.inr ⟨z, hz.1, hz.2, by rw [if_pos ⟨e1, e2, e3⟩]; exact q⟩)⟩)⟩
theorem pw2 {k : Nat} (hk : k ≤ 7) : (1 : Int) ≤ 2 ^ k ∧ (2 : Int) ^ k ≤ 128 ∧ (2 : Int) ^ (k + 1) = 2 * 2 ^ k := by
  have e : k = 0 ∨ k = 1 ∨ k = 2 ∨ k = 3 ∨ k = 4 ∨ k = 5 ∨ k = 6 ∨ k = 7 := by omega
  rcases e with e | e | e | e | e | e | e | e <;> subst e <;> decide
theorem dm.up {k : Nat} {x : Int} (hk : k ≤ 7) (h : dm k x) : dm (k + 1) x := by
  have p := pw2 hk
  rcases h with h | h
  · exact Or.inl ⟨h.1, by omega, by omega⟩
  · exact Or.inr h
theorem dm.add {k : Nat} {x : Int} (hk : k ≤ 7) (h : dm k x) (hx : x ≠ 1048576) : dm (k + 1) (x + 256 + 2 ^ k) ∧ x + 256 + 2 ^ k ≠ 1048576 ∧ ph (x + 256 + 2 ^ k) = ph x + 1024 + 2 ^ k := by
  have p := pw2 hk
  rcases h with h | h
  · refine ⟨Or.inl ⟨by omega, by omega, by omega⟩, by omega, ?_⟩
    unfold ph
    rw [if_neg hx, if_neg (by omega)]
    omega
  · exact absurd h hx
theorem dm.rg {k : Nat} {x : Int} (hk : k ≤ 8) (h : dm k x) : 0 ≤ x ∧ (x ≤ 2303 ∨ x = 1048576) := by
  rcases h with h | h
  · omega
  · omega
theorem ph_lt {k : Nat} {x y : Int} (hk : k ≤ 8) (hx : dm k x) (hy : dm k y) : ph x < ph y ↔ x < y := by
  have a := hx.rg hk
  have b := hy.rg hk
  unfold ph
  by_cases e1 : x = 1048576
  · rw [if_pos e1]
    by_cases e2 : y = 1048576
    · rw [if_pos e2]; omega
    · rw [if_neg e2]; omega
  · rw [if_neg e1]
    by_cases e2 : y = 1048576
    · rw [if_pos e2]; omega
    · rw [if_neg e2]; omega
/-- what is known of all of them -/
theorem bf_dm (h : em_ok A L N) {kn : Int → Int} (hk : ∀ i, -1 ≤ kn i ∧ kn i < N) : ∀ k : Nat, k ≤ 8 → (∀ w b, dm k (bf A L N T kn k w b)) ∧ dm k (bs_lt L N (bf A L N T kn k)) ∧ bs_lt L N (bf A L N T kn k) ≠ 1048576 := by
  have hN := em_Npos h
  have hL := h.2.2.1
  have hD := vx_D h
  have fin : ∀ (k : Nat) (f : Int → Int → Int) (c : Int), (∀ w b, dm k (f w b)) → c < 1048576 → (∃ w, (0 ≤ w ∧ w < N) ∧ f w 0 = c) → dm k (bs_lt L N f) ∧ bs_lt L N f ≠ 1048576 := by
    intro k f c hd hc ⟨w, hw, e⟩
    refine ⟨ow_mn_P (by omega) (Or.inr rfl) (fun w _ _ => ow_mn_P (by omega) (Or.inr rfl) (fun b _ _ => hd w b)), fun z => ?_⟩
    have := (bs_lt_le h (f := f) (t := c)).2 (Or.inr ⟨w, 0, hw, ⟨by omega, by omega⟩, by omega⟩)
    omega
  have wex : ∀ i, ∃ w, (0 ≤ w ∧ w < N) ∧ (kn i = -1 ∨ w = kn i) := by
    intro i
    by_cases e : kn i = -1
    · exact ⟨0, ⟨by omega, by omega⟩, Or.inl e⟩
    · exact ⟨kn i, ⟨by have := hk i; omega, (hk i).2⟩, Or.inr rfl⟩
  intro k
  induction k with
  | zero =>
    intro _
    have d0 : ∀ w b, dm 0 (bf A L N T kn 0 w b) := by
      intro w b
      show dm 0 (if kn 0 = -1 ∨ w = kn 0 then (if b = 0 then 0 else 1048576) else 1048576)
      split
      · split
        · exact Or.inl ⟨by decide, by decide, by decide⟩
        · exact Or.inr rfl
      · exact Or.inr rfl
    obtain ⟨w, hw, e⟩ := wex 0
    refine ⟨d0, fin 0 _ 0 d0 (by decide) ⟨w, hw, ?_⟩⟩
    show (if kn 0 = -1 ∨ w = kn 0 then (if (0 : Int) = 0 then (0 : Int) else 1048576) else 1048576) = 0
    rw [if_pos e, if_pos rfl]
  | succ k ih =>
    intro hk8
    obtain ⟨i1, i2, i3⟩ := ih (by omega)
    have ad := i2.add (by omega) i3
    have d1 : ∀ w b, dm (k + 1) (bf A L N T kn (k + 1) w b) := by
      intro w b
      show dm (k + 1) (if kn ((k : Int) + 1) = -1 ∨ w = kn ((k : Int) + 1) then (if b = 0 then bs_lt L N (bf A L N T kn k) + 256 + 2 ^ k else bs_st A L N T (bf A L N T kn k) k w b) else 1048576)
      split
      · split
        · exact ad.1
        · refine ow_mn_P (by omega) (Or.inr rfl) (fun w _ _ => ow_mn_P (by omega) (Or.inr rfl) (fun b _ _ => ow_mn_P (by omega) (Or.inr rfl) (fun z _ _ => ?_)))
          split
          · exact (i1 w b).up (by omega)
          · exact Or.inr rfl
      · exact Or.inr rfl
    obtain ⟨w, hw, e⟩ := wex ((k : Int) + 1)
    have rg := ad.1.rg (by omega)
    refine ⟨d1, fin (k + 1) _ (bs_lt L N (bf A L N T kn k) + 256 + 2 ^ k) d1 (by have := ad.2.1; omega) ⟨w, hw, ?_⟩⟩
    show (if kn ((k : Int) + 1) = -1 ∨ w = kn ((k : Int) + 1) then (if (0 : Int) = 0 then bs_lt L N (bf A L N T kn k) + 256 + 2 ^ k else bs_st A L N T (bf A L N T kn k) k w 0) else 1048576) = _
    rw [if_pos e, if_pos rfl]
end BFS
