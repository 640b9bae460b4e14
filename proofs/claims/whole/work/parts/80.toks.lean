/-! ===== tokens of a tape ===== -/
def ty_b (n : Int) (t : Int → Int) (i : Int) : Int := if 0 ≤ i ∧ i < n then t i else -1
def tq_b (c : Int) : Bool := decide (c = 32 ∨ c = 10)
def tq_l (c : Int) : Bool := decide ((97 ≤ c ∧ c ≤ 122) ∨ (65 ≤ c ∧ c ≤ 90))
def tq_d (c : Int) : Bool := decide (48 ≤ c ∧ c ≤ 57)
def tq_s (c : Int) : Bool := decide (c = 60 ∨ c = 62 ∨ c = 61 ∨ c = 35 ∨ c = 43 ∨ c = 45 ∨ c = 42 ∨ c = 47 ∨ c = 40 ∨ c = 41 ∨ c = 59)
/-- where a run of bytes ends -/
def rn (n : Int) (t : Int → Int) (q : Int → Bool) : Nat → Int → Int
  | 0, i => i
  | k + 1, i => if q (ty_b n t i) = true then rn n t q k (i + 1) else i
def run (n : Int) (t : Int → Int) (q : Int → Bool) (i : Int) : Int := rn n t q (n - i).toNat i
/-- numbers, words, names -/
def nu (n : Int) (t : Int → Int) : Nat → Int → Int → Int
  | 0, _, a => a
  | k + 1, i, a => nu n t k (i + 1) (min 10000 (a * 10 + ty_b n t i - 48))
def wu (A n : Int) (t : Int → Int) : Nat → Int → Int → Int
  | 0, _, a => a
  | k + 1, i, a => if 0 ≤ ty_b n t i - 97 ∧ ty_b n t i - 97 < A then wu A n t k (i + 1) (a * A + (ty_b n t i - 97)) else -1
def wv (A L n : Int) (t : Int → Int) (p e : Int) : Int := if e - p = L then wu A n t L.toNat p 0 else -1
def sp_d (n : Int) (t : Int → Int) (k : Nat) (p : Int) : Int → Bool := fun j => decide (ty_b n t (p + j) ≠ ow_byt k j)
def sp (n : Int) (t : Int → Int) (k : Nat) (p e : Int) : Bool := decide (e - p = ow_len k ∧ ow_ct (sp_d n t k p) (ow_len k) = 0)
def nm (n : Int) (t : Int → Int) (p e : Int) : Int := ow_pv (fun k => sp n t k.toNat p e) (fun k => k) 0 14
/-- the token at a byte: its end, its kind -/
def tk_e (n : Int) (t : Int → Int) (p : Int) : Int := if n ≤ p then p else if tq_l (ty_b n t p) = true then run n t tq_l p else if tq_d (ty_b n t p) = true then run n t tq_d p else if (ty_b n t p = 60 ∨ ty_b n t p = 62) ∧ ty_b n t (p + 1) = 61 then p + 2 else p + 1
def tk_k (n : Int) (t : Int → Int) (p : Int) : Int := if n ≤ p then 0 else if tq_l (ty_b n t p) = true then 1 else if tq_d (ty_b n t p) = true then 2 else if (ty_b n t p = 60 ∨ ty_b n t p = 62) ∧ ty_b n t (p + 1) = 61 then (if ty_b n t p = 60 then 256 else 257) else if tq_s (ty_b n t p) = true then ty_b n t p else 3
def tk_n (n : Int) (t : Int → Int) (p : Int) : Int := if tk_k n t p = 1 then nm n t p (tk_e n t p) else -1
def tk_v (A L n : Int) (t : Int → Int) (p : Int) : Int := if tk_k n t p = 1 then wv A L n t p (tk_e n t p) else nu n t (tk_e n t p - p).toNat p 0
/-- the tokens one by one -/
def ps (n : Int) (t : Int → Int) : Nat → Int
  | 0 => 0
  | k + 1 => tk_e n t (run n t tq_b (ps n t k))
def ts (n : Int) (t : Int → Int) (i : Int) : Int := run n t tq_b (ps n t i.toNat)
section TKS
variable {n : Int} {t : Int → Int}
theorem ty_in {i : Int} (h0 : 0 ≤ i) (h1 : i < n) : ty_b n t i = t i := if_pos ⟨h0, h1⟩
theorem ty_no {i : Int} (h : n ≤ i) : ty_b n t i = -1 := if_neg (fun z => by omega)
theorem ty_rg (h : tp_ok n t) (i : Int) : -1 ≤ ty_b n t i ∧ ty_b n t i ≤ 255 := by
  unfold ty_b
  split
  · rename_i z; have := h.2.2 i z.1 z.2; omega
  · omega
theorem run_no {q : Int → Bool} {i : Int} (h : q (ty_b n t i) ≠ true) : run n t q i = i := by
  unfold run
  cases (n - i).toNat with
  | zero => rfl
  | succ k => show (if q (ty_b n t i) = true then _ else i) = i; rw [if_neg h]
theorem run_yes {q : Int → Bool} {i : Int} (hi : i < n) (h : q (ty_b n t i) = true) : run n t q i = run n t q (i + 1) := by
  unfold run
  rw [show (n - i).toNat = (n - (i + 1)).toNat + 1 by omega]
  show (if q (ty_b n t i) = true then _ else i) = _
  rw [if_pos h]
theorem run_end {q : Int → Bool} {i : Int} (hi : n ≤ i) : run n t q i = i := by
  unfold run
  rw [show (n - i).toNat = 0 by omega]
  rfl
theorem run_rg {q : Int → Bool} {i : Int} (hi : i ≤ n) : i ≤ run n t q i ∧ run n t q i ≤ n := by
  have key : ∀ (k : Nat) (i : Int), i + k ≤ n → i ≤ rn n t q k i ∧ rn n t q k i ≤ i + k := by
    intro k
    induction k with
    | zero => intro i h; exact ⟨Int.le_refl _, by show i ≤ i + 0; omega⟩
    | succ k ih =>
      intro i h
      show i ≤ (if q (ty_b n t i) = true then rn n t q k (i + 1) else i) ∧ (if q (ty_b n t i) = true then rn n t q k (i + 1) else i) ≤ i + ((k + 1 : Nat) : Int)
      split
      · have := ih (i + 1) (by omega); omega
      · omega
  have := key (n - i).toNat i (by omega)
  unfold run
  omega
/-- all of a run is asked for, and what is behind it isn't -/
theorem run_all {q : Int → Bool} (hq : q (-1) ≠ true) {i : Int} (h0 : 0 ≤ i) (hi : i ≤ n) : (∀ j, i ≤ j → j < run n t q i → q (ty_b n t j) = true) ∧ q (ty_b n t (run n t q i)) ≠ true := by
  have key : ∀ (k : Nat) (i : Int), n - i = k → (∀ j, i ≤ j → j < run n t q i → q (ty_b n t j) = true) ∧ q (ty_b n t (run n t q i)) ≠ true := by
    intro k
    induction k with
    | zero =>
      intro i h
      rw [run_end (by omega)]
      exact ⟨fun j j0 j1 => by omega, by rw [ty_no (by omega)]; exact hq⟩
    | succ k ih =>
      intro i h
      by_cases e : q (ty_b n t i) = true
      · rw [run_yes (by omega) e]
        have := ih (i + 1) (by omega)
        refine ⟨fun j j0 j1 => ?_, this.2⟩
        by_cases ej : j = i
        · rw [ej]; exact e
        · exact this.1 j (by omega) j1
      · rw [run_no e]
        exact ⟨fun j j0 j1 => by omega, e⟩
  exact key (n - i).toNat i (by omega)
theorem tq_lt {q : Int → Bool} (hq : q (-1) ≠ true) {i : Int} (h : q (ty_b n t i) = true) : 0 ≤ i ∧ i < n := by
  by_cases e : 0 ≤ i ∧ i < n
  · exact e
  · have : ty_b n t i = -1 := if_neg e
    rw [this] at h
    exact absurd h hq
theorem tk_e_rg {p : Int} (h0 : 0 ≤ p) (h1 : p < n) : p < tk_e n t p ∧ tk_e n t p ≤ n := by
  unfold tk_e
  rw [if_neg (by omega)]
  split
  · rename_i e
    rw [run_yes h1 e]
    have := run_rg (t := t) (q := tq_l) (show p + 1 ≤ n by omega)
    omega
  · split
    · rename_i e
      rw [run_yes h1 e]
      have := run_rg (t := t) (q := tq_d) (show p + 1 ≤ n by omega)
      omega
    · split
      · rename_i e
        have : p + 1 < n := by
          by_cases z : p + 1 < n
          · exact z
          · rw [ty_no (show n ≤ p + 1 by omega)] at e
            exact absurd e.2 (by decide)
        omega
      · omega
theorem ps_rg (hn : 0 ≤ n) : ∀ k : Nat, 0 ≤ ps n t k ∧ ps n t k ≤ n := by
  intro k
  induction k with
  | zero => exact ⟨by show (0 : Int) ≤ 0; omega, hn⟩
  | succ k ih =>
    show 0 ≤ tk_e n t (run n t tq_b (ps n t k)) ∧ tk_e n t (run n t tq_b (ps n t k)) ≤ n
    have r := run_rg (t := t) (q := tq_b) ih.2
    by_cases e : run n t tq_b (ps n t k) < n
    · have := tk_e_rg (t := t) (show 0 ≤ run n t tq_b (ps n t k) by omega) e
      omega
    · have : tk_e n t (run n t tq_b (ps n t k)) = run n t tq_b (ps n t k) := if_pos (by omega)
      omega
theorem ts_rg (hn : 0 ≤ n) {i : Int} : 0 ≤ ts n t i ∧ ts n t i ≤ n ∧ ps n t i.toNat ≤ ts n t i := by
  have h := ps_rg (t := t) hn i.toNat
  have := run_rg (t := t) (q := tq_b) h.2
  unfold ts
  omega
theorem ts_step (hn : 0 ≤ n) {i : Int} (h0 : 0 ≤ i) (h1 : ts n t i < n) : ts n t i < ps n t (i + 1).toNat ∧ ps n t (i + 1).toNat = tk_e n t (ts n t i) := by
  have r := ts_rg (t := t) hn (i := i)
  have e : ps n t (i + 1).toNat = tk_e n t (ts n t i) := by
    rw [show (i + 1).toNat = i.toNat + 1 by omega]; rfl
  rw [e]
  exact ⟨(tk_e_rg r.1 h1).1, rfl⟩
/-- as long as there are tokens, the i-th lies behind i bytes at least -/
theorem ts_ge (hn : 0 ≤ n) {i : Int} (h0 : 0 ≤ i) (h : ∀ j, 0 ≤ j → j < i → ts n t j < n) : i ≤ ps n t i.toNat := by
  have := ow_ind (P := fun k => k ≤ i → k ≤ ps n t k.toNat) (fun _ => by show (0 : Int) ≤ 0; omega) (fun k k0 ih hk => by
    have h1 := ih (by omega)
    have h2 := ts_step (t := t) hn k0 (h k k0 (by omega))
    have h3 := (ts_rg (t := t) hn (i := k)).2.2
    omega) i h0
  exact this (Int.le_refl i)
end TKS
