/-! ===== the memory behind both constructors ===== -/
def fAll (A L N : Int) : ow_M := fX12 A L N (fm 83 (ow_df 12) (fX11 A L N (fm 0 (ow_df 11) (fun _ _ => 0))))
def cko (g : Int → Int) : List (Option Int) → Int → Prop
  | [], _ => True
  | none :: t, k => cko g t (k + 1)
  | some a :: t, k => g k = a ∧ cko g t (k + 1)
theorem cko_at {g : Int → Int} : ∀ (l : List (Option Int)) (k : Int) (j : Nat) (v : Int), cko g l k → l.getD j none = some v → g (k + j) = v := by
  intro l
  induction l with
  | nil => intro k j v _ e; simp at e
  | cons o t ih =>
    intro k j v h e
    cases o with
    | none =>
      cases j with
      | zero => simp at e
      | succ j =>
        have h2 := ih (k + 1) j v h (by simpa using e)
        rw [show k + ((j + 1 : Nat) : Int) = k + 1 + j by omega]
        exact h2
    | some a =>
      cases j with
      | zero =>
        have h2 : a = v := by simpa using e
        rw [show k + ((0 : Nat) : Int) = k by omega, ← h2]
        exact h.1
      | succ j =>
        have h2 := ih (k + 1) j v h.2 (by simpa using e)
        rw [show k + ((j + 1 : Nat) : Int) = k + 1 + j by omega]
        exact h2
theorem em_oq {g : Int → Int} {l : List (Option Int)} {i v : Int} (h : cko g l 0) (e : em_o l i = some v) : g i = v := by
  unfold em_o at e
  split at e
  · cases e
  · have h2 := cko_at l 0 i.toNat v h e
    rw [show (0 : Int) + (i.toNat : Int) = i by omega] at h2
    exact h2
def alP (P : Int → Prop) : Nat → Int → Prop
  | 0, _ => True
  | n + 1, k => P k ∧ alP P n (k + 1)
theorem alP_at {P : Int → Prop} : ∀ (n : Nat) (k c : Int), alP P n k → k ≤ c → c < k + n → P c := by
  intro n
  induction n with
  | zero => intro k c _ h1 h2; omega
  | succ n ih =>
    intro k c h h1 h2
    by_cases z : c = k
    · rw [z]; exact h.1
    · exact ih (k + 1) c h.2 (by omega) (by omega)
section BEG
variable {A L N : Int}
def fOk (A L N c : Int) : Prop := ∀ i v : Int, 0 ≤ i → i < ((EM A L N).2.1 c).2 → em_F A L N c i = some v → fAll A L N c i = v
set_option maxRecDepth 100000 in
theorem fo_0 : fOk A L N 0 := fun i v _ _ e => em_oq (g := fun i => fAll A L N 0 i) (l := [some 3, some 6, some 10, some 14, some 18, some 1, none, some 2, none, none, none, none, none, none, some 46, some 58, some 64, some 77, some 80]) ⟨rfl, rfl, rfl, rfl, rfl, rfl, rfl, rfl, rfl, rfl, rfl, rfl, trivial⟩ e
set_option maxRecDepth 100000 in
theorem fo_2 : fOk A L N 2 := by
  intro i v i0 i1 e
  have i1 : i < 4 := i1
  have e : some (22 + 6 * i) = some v := e
  have e := Option.some.inj e
  subst e
  have h : i = 0 ∨ i = 1 ∨ i = 2 ∨ i = 3 := by omega
  rcases h with z | z | z | z <;> subst z <;> rfl
set_option maxRecDepth 100000 in
theorem fo_3 : fOk A L N 3 := fun i v _ _ e => em_oq (g := fun i => fAll A L N 3 i) (l := [some A, some L, some N, some 4, some 5]) ⟨rfl, rfl, rfl, rfl, rfl, trivial⟩ e
set_option maxRecDepth 100000 in
theorem fo_4 : fOk A L N 4 := by
  intro i v i0 i1 e
  have i1 : i < L := i1
  have e : some (em_pw A (L - 1 - i)) = some v := e
  have r : fAll A L N 4 i = if (4 : Int) = 4 ∧ 0 ≤ i ∧ i < L then em_pw A (L - 1 - i) else fWa A L N (fCa (fm 0 (ow_df 11) (fun _ _ => 0))) 4 i := rfl
  rw [r, if_pos ⟨rfl, i0, i1⟩]
  exact Option.some.inj e
set_option maxRecDepth 100000 in
theorem fo_5 : fOk A L N 5 := by
  intro i v i0 i1 e
  have i1 : i < N * L := i1
  have e : some (em_dg A L (i / L) (i % L)) = some v := e
  have r : fAll A L N 5 i = if (5 : Int) = 5 ∧ (0 ≤ i ∧ i < N * L) then em_dg A L (i / L) (i % L) else fWc A L N (fCa (fm 0 (ow_df 11) (fun _ _ => 0))) 5 i := rfl
  rw [r, if_pos ⟨rfl, i0, i1⟩]
  exact Option.some.inj e
set_option maxRecDepth 100000 in
theorem fo_6 : fOk A L N 6 := fun i v _ _ e => em_oq (g := fun i => fAll A L N 6 i) (l := [some 3, some 7, some 8, some 9, none]) ⟨rfl, rfl, rfl, rfl, trivial⟩ e
set_option maxRecDepth 100000 in
theorem fo_10 : fOk A L N 10 := fun i v _ _ e => em_oq (g := fun i => fAll A L N 10 i) (l := [some 3, some 11, some 12, some 13, none]) ⟨rfl, rfl, rfl, rfl, trivial⟩ e
set_option maxRecDepth 100000 in
theorem fo_14 : fOk A L N 14 := fun i v _ _ e => em_oq (g := fun i => fAll A L N 14 i) (l := [none, none, some 15, some 16, some 17]) ⟨rfl, rfl, rfl, trivial⟩ e
set_option maxRecDepth 100000 in
theorem fo_18 : fOk A L N 18 := fun i v _ _ e => em_oq (g := fun i => fAll A L N 18 i) (l := [none, none, some 19, some 20, some 21]) ⟨rfl, rfl, rfl, trivial⟩ e
set_option maxRecDepth 100000 in
theorem fo_22 : fOk A L N 22 := fun i v _ _ e => em_oq (g := fun i => fAll A L N 22 i) (l := [some 23, none, none, none, none, none, none, none, none, some 24, some 25, none, some 26, some 27, none]) ⟨rfl, rfl, rfl, rfl, rfl, trivial⟩ e
set_option maxRecDepth 100000 in
theorem fo_28 : fOk A L N 28 := fun i v _ _ e => em_oq (g := fun i => fAll A L N 28 i) (l := [some 29, none, none, none, none, none, none, none, none, some 30, some 31, none, some 32, some 33, none]) ⟨rfl, rfl, rfl, rfl, rfl, trivial⟩ e
set_option maxRecDepth 100000 in
theorem fo_34 : fOk A L N 34 := fun i v _ _ e => em_oq (g := fun i => fAll A L N 34 i) (l := [some 35, none, none, none, none, none, none, none, none, some 36, some 37, none, some 38, some 39, none]) ⟨rfl, rfl, rfl, rfl, rfl, trivial⟩ e
set_option maxRecDepth 100000 in
theorem fo_40 : fOk A L N 40 := fun i v _ _ e => em_oq (g := fun i => fAll A L N 40 i) (l := [some 41, none, none, none, none, none, none, none, none, some 42, some 43, none, some 44, some 45, none]) ⟨rfl, rfl, rfl, rfl, rfl, trivial⟩ e
set_option maxRecDepth 100000 in
theorem fo_46 : fOk A L N 46 := fun i v _ _ e => em_oq (g := fun i => fAll A L N 46 i) (l := [some 53, none, none, none, none, none]) ⟨rfl, trivial⟩ e
set_option maxRecDepth 100000 in
theorem fo_47 : fOk A L N 47 := fun i v _ _ e => em_oq (g := fun i => fAll A L N 47 i) (l := [some 48, none, none, none, none, none, none, none, none, some 49, some 50, none, some 51, some 52, none]) ⟨rfl, rfl, rfl, rfl, rfl, trivial⟩ e
set_option maxRecDepth 100000 in
theorem fo_53 : fOk A L N 53 := fun i v _ _ e => em_oq (g := fun i => fAll A L N 53 i) (l := [some 3, some 54, some 55, some 56, some 57, none, none, none]) ⟨rfl, rfl, rfl, rfl, rfl, trivial⟩ e
set_option maxRecDepth 100000 in
theorem fo_58 : fOk A L N 58 := fun i v _ _ e => em_oq (g := fun i => fAll A L N 58 i) (l := [some 3, some 59, some (L + 1), some 62, some 63, none, none]) ⟨rfl, rfl, rfl, rfl, rfl, trivial⟩ e
set_option maxRecDepth 100000 in
theorem fo_59 : fOk A L N 59 := fun i v _ _ e => em_oq (g := fun i => fAll A L N 59 i) (l := [some 60, some 61, none]) ⟨rfl, rfl, trivial⟩ e
set_option maxRecDepth 100000 in
theorem fo_64 : fOk A L N 64 := fun i v _ _ e => em_oq (g := fun i => fAll A L N 64 i) (l := [some 3, some 58, some (em_pw 2 (L + 1) - 1), some 66, some 76, some 65]) ⟨rfl, rfl, rfl, rfl, rfl, rfl, trivial⟩ e
set_option maxRecDepth 100000 in
theorem fo_66 : fOk A L N 66 := by
  intro i v i0 i1 e
  have i1 : i < 9 := i1
  have e : some (67 + i) = some v := e
  have e := Option.some.inj e
  have r : fAll A L N 66 i = if 0 ≤ i ∧ i < 9 then 66 + 1 + i else -1 := rfl
  rw [r, if_pos ⟨i0, i1⟩]
  omega
set_option maxRecDepth 100000 in
theorem fo_77 : fOk A L N 77 := fun i v _ _ e => em_oq (g := fun i => fAll A L N 77 i) (l := [some 3, some 58, some (L + 1), none, none]) ⟨rfl, rfl, rfl, trivial⟩ e
set_option maxRecDepth 100000 in
theorem fo_80 : fOk A L N 80 := fun i v _ _ e => em_oq (g := fun i => fAll A L N 80 i) (l := [some 3, some 58, some (L + 1), none, none]) ⟨rfl, rfl, rfl, trivial⟩ e
set_option maxRecDepth 100000 in
theorem fo_83 : fOk A L N 83 := fun i v _ _ e => em_oq (g := fun i => fAll A L N 83 i) (l := [some 84, some 85, some A, some L, some N, some 86, some 87, none, none, none, none, none, none, none, none, none, none, none, none, some 88, none, none, none, none, some 89, some 90, some 91, none, none, some 92, some 93, some 94, some 95, some 96, some 97, some 98, some 99, some 100, some 101, none]) ⟨rfl, rfl, rfl, rfl, rfl, rfl, rfl, rfl, rfl, rfl, rfl, rfl, rfl, rfl, rfl, rfl, rfl, rfl, rfl, rfl, rfl, trivial⟩ e
set_option maxRecDepth 100000 in
theorem fa_0 : alP (fOk A L N) 17 0 := ⟨(fo_0 : fOk A L N 0), (fun i v _ _ e => nomatch (e : (none : Option Int) = some v) : fOk A L N 1), (fo_2 : fOk A L N 2), (fo_3 : fOk A L N 3), (fo_4 : fOk A L N 4), (fo_5 : fOk A L N 5), (fo_6 : fOk A L N 6), (fun i v _ _ e => nomatch (e : (none : Option Int) = some v) : fOk A L N 7), (fun i v _ _ e => nomatch (e : (none : Option Int) = some v) : fOk A L N 8), (fun i v _ _ e => nomatch (e : (none : Option Int) = some v) : fOk A L N 9), (fo_10 : fOk A L N 10), (fun i v _ _ e => nomatch (e : (none : Option Int) = some v) : fOk A L N 11), (fun i v _ _ e => nomatch (e : (none : Option Int) = some v) : fOk A L N 12), (fun i v _ _ e => nomatch (e : (none : Option Int) = some v) : fOk A L N 13), (fo_14 : fOk A L N 14), (fun i v _ _ e => nomatch (e : (none : Option Int) = some v) : fOk A L N 15), (fun i v _ _ e => nomatch (e : (none : Option Int) = some v) : fOk A L N 16), trivial⟩
set_option maxRecDepth 100000 in
theorem fa_17 : alP (fOk A L N) 17 17 := ⟨(fun i v _ _ e => nomatch (e : (none : Option Int) = some v) : fOk A L N 17), (fo_18 : fOk A L N 18), (fun i v _ _ e => nomatch (e : (none : Option Int) = some v) : fOk A L N 19), (fun i v _ _ e => nomatch (e : (none : Option Int) = some v) : fOk A L N 20), (fun i v _ _ e => nomatch (e : (none : Option Int) = some v) : fOk A L N 21), (fo_22 : fOk A L N 22), (fun i v _ _ e => nomatch (e : (none : Option Int) = some v) : fOk A L N 23), (fun i v _ _ e => nomatch (e : (none : Option Int) = some v) : fOk A L N 24), (fun i v _ _ e => nomatch (e : (none : Option Int) = some v) : fOk A L N 25), (fun i v _ _ e => nomatch (e : (none : Option Int) = some v) : fOk A L N 26), (fun i v _ _ e => nomatch (e : (none : Option Int) = some v) : fOk A L N 27), (fo_28 : fOk A L N 28), (fun i v _ _ e => nomatch (e : (none : Option Int) = some v) : fOk A L N 29), (fun i v _ _ e => nomatch (e : (none : Option Int) = some v) : fOk A L N 30), (fun i v _ _ e => nomatch (e : (none : Option Int) = some v) : fOk A L N 31), (fun i v _ _ e => nomatch (e : (none : Option Int) = some v) : fOk A L N 32), (fun i v _ _ e => nomatch (e : (none : Option Int) = some v) : fOk A L N 33), trivial⟩
set_option maxRecDepth 100000 in
theorem fa_34 : alP (fOk A L N) 17 34 := ⟨(fo_34 : fOk A L N 34), (fun i v _ _ e => nomatch (e : (none : Option Int) = some v) : fOk A L N 35), (fun i v _ _ e => nomatch (e : (none : Option Int) = some v) : fOk A L N 36), (fun i v _ _ e => nomatch (e : (none : Option Int) = some v) : fOk A L N 37), (fun i v _ _ e => nomatch (e : (none : Option Int) = some v) : fOk A L N 38), (fun i v _ _ e => nomatch (e : (none : Option Int) = some v) : fOk A L N 39), (fo_40 : fOk A L N 40), (fun i v _ _ e => nomatch (e : (none : Option Int) = some v) : fOk A L N 41), (fun i v _ _ e => nomatch (e : (none : Option Int) = some v) : fOk A L N 42), (fun i v _ _ e => nomatch (e : (none : Option Int) = some v) : fOk A L N 43), (fun i v _ _ e => nomatch (e : (none : Option Int) = some v) : fOk A L N 44), (fun i v _ _ e => nomatch (e : (none : Option Int) = some v) : fOk A L N 45), (fo_46 : fOk A L N 46), (fo_47 : fOk A L N 47), (fun i v _ _ e => nomatch (e : (none : Option Int) = some v) : fOk A L N 48), (fun i v _ _ e => nomatch (e : (none : Option Int) = some v) : fOk A L N 49), (fun i v _ _ e => nomatch (e : (none : Option Int) = some v) : fOk A L N 50), trivial⟩
set_option maxRecDepth 100000 in
theorem fa_51 : alP (fOk A L N) 17 51 := ⟨(fun i v _ _ e => nomatch (e : (none : Option Int) = some v) : fOk A L N 51), (fun i v _ _ e => nomatch (e : (none : Option Int) = some v) : fOk A L N 52), (fo_53 : fOk A L N 53), (fun i v _ _ e => nomatch (e : (none : Option Int) = some v) : fOk A L N 54), (fun i v _ _ e => nomatch (e : (none : Option Int) = some v) : fOk A L N 55), (fun i v _ _ e => nomatch (e : (none : Option Int) = some v) : fOk A L N 56), (fun i v _ _ e => nomatch (e : (none : Option Int) = some v) : fOk A L N 57), (fo_58 : fOk A L N 58), (fo_59 : fOk A L N 59), (fun i v _ _ e => nomatch (e : (none : Option Int) = some v) : fOk A L N 60), (fun i v _ _ e => nomatch (e : (none : Option Int) = some v) : fOk A L N 61), (fun i v _ _ e => nomatch (e : (none : Option Int) = some v) : fOk A L N 62), (fun i v _ _ e => nomatch (e : (none : Option Int) = some v) : fOk A L N 63), (fo_64 : fOk A L N 64), (fun i v _ _ e => nomatch (e : (none : Option Int) = some v) : fOk A L N 65), (fo_66 : fOk A L N 66), (fun i v _ _ e => nomatch (e : (none : Option Int) = some v) : fOk A L N 67), trivial⟩
set_option maxRecDepth 100000 in
theorem fa_68 : alP (fOk A L N) 17 68 := ⟨(fun i v _ _ e => nomatch (e : (none : Option Int) = some v) : fOk A L N 68), (fun i v _ _ e => nomatch (e : (none : Option Int) = some v) : fOk A L N 69), (fun i v _ _ e => nomatch (e : (none : Option Int) = some v) : fOk A L N 70), (fun i v _ _ e => nomatch (e : (none : Option Int) = some v) : fOk A L N 71), (fun i v _ _ e => nomatch (e : (none : Option Int) = some v) : fOk A L N 72), (fun i v _ _ e => nomatch (e : (none : Option Int) = some v) : fOk A L N 73), (fun i v _ _ e => nomatch (e : (none : Option Int) = some v) : fOk A L N 74), (fun i v _ _ e => nomatch (e : (none : Option Int) = some v) : fOk A L N 75), (fun i v _ _ e => nomatch (e : (none : Option Int) = some v) : fOk A L N 76), (fo_77 : fOk A L N 77), (fun i v _ _ e => nomatch (e : (none : Option Int) = some v) : fOk A L N 78), (fun i v _ _ e => nomatch (e : (none : Option Int) = some v) : fOk A L N 79), (fo_80 : fOk A L N 80), (fun i v _ _ e => nomatch (e : (none : Option Int) = some v) : fOk A L N 81), (fun i v _ _ e => nomatch (e : (none : Option Int) = some v) : fOk A L N 82), (fo_83 : fOk A L N 83), (fun i v _ _ e => nomatch (e : (none : Option Int) = some v) : fOk A L N 84), trivial⟩
set_option maxRecDepth 100000 in
theorem fa_85 : alP (fOk A L N) 17 85 := ⟨(fun i v _ _ e => nomatch (e : (none : Option Int) = some v) : fOk A L N 85), (fun i v _ _ e => nomatch (e : (none : Option Int) = some v) : fOk A L N 86), (fun i v _ _ e => nomatch (e : (none : Option Int) = some v) : fOk A L N 87), (fun i v _ _ e => nomatch (e : (none : Option Int) = some v) : fOk A L N 88), (fun i v _ _ e => nomatch (e : (none : Option Int) = some v) : fOk A L N 89), (fun i v _ _ e => nomatch (e : (none : Option Int) = some v) : fOk A L N 90), (fun i v _ _ e => nomatch (e : (none : Option Int) = some v) : fOk A L N 91), (fun i v _ _ e => nomatch (e : (none : Option Int) = some v) : fOk A L N 92), (fun i v _ _ e => nomatch (e : (none : Option Int) = some v) : fOk A L N 93), (fun i v _ _ e => nomatch (e : (none : Option Int) = some v) : fOk A L N 94), (fun i v _ _ e => nomatch (e : (none : Option Int) = some v) : fOk A L N 95), (fun i v _ _ e => nomatch (e : (none : Option Int) = some v) : fOk A L N 96), (fun i v _ _ e => nomatch (e : (none : Option Int) = some v) : fOk A L N 97), (fun i v _ _ e => nomatch (e : (none : Option Int) = some v) : fOk A L N 98), (fun i v _ _ e => nomatch (e : (none : Option Int) = some v) : fOk A L N 99), (fun i v _ _ e => nomatch (e : (none : Option Int) = some v) : fOk A L N 100), (fun i v _ _ e => nomatch (e : (none : Option Int) = some v) : fOk A L N 101), trivial⟩
theorem fAll_ok {c : Int} (h0 : 0 ≤ c) (h1 : c < 102) : fOk A L N c := by
  by_cases z1 : c < 17
  · exact alP_at 17 0 c fa_0 h0 (by omega)
  by_cases z2 : c < 34
  · exact alP_at 17 17 c fa_17 (by omega) (by omega)
  by_cases z3 : c < 51
  · exact alP_at 17 34 c fa_34 (by omega) (by omega)
  by_cases z4 : c < 68
  · exact alP_at 17 51 c fa_51 (by omega) (by omega)
  by_cases z5 : c < 85
  · exact alP_at 17 68 c fa_68 (by omega) (by omega)
  · exact alP_at 17 85 c fa_85 (by omega) (by omega)
set_option maxRecDepth 100000 in
/-- both objects, new -/
theorem gs_new {M : ow_M} (v : vm 102 (fAll A L N) M) : gs A L N M := by
  have g : ∀ c i, 0 ≤ c → c < 102 → M c i = fAll A L N c i := v.2
  refine ⟨⟨⟨0, z0, z0, ⟨by decide, by decide, fun k h0 h1 => by omega, fun j k h0 h1 h2 => by omega⟩, ⟨(g 6 4 (by decide) (by decide)).trans rfl, fun k h0 h1 => by omega, fun k h0 h1 => by omega, fun x x0 x1 _ => (g (6 + 3) x (by decide) (by decide)).trans rfl⟩, ⟨(g 84 2 (by decide) (by decide)).trans rfl, fun k h0 h1 => by omega⟩⟩, ⟨0, z0, z0, ⟨by decide, by decide, fun k h0 h1 => by omega, fun j k h0 h1 h2 => by omega⟩, ⟨(g 10 4 (by decide) (by decide)).trans rfl, fun k h0 h1 => by omega, fun k h0 h1 => by omega, fun x x0 x1 _ => (g (10 + 3) x (by decide) (by decide)).trans rfl⟩, ⟨(g 85 2 (by decide) (by decide)).trans rfl, fun k h0 h1 => by omega⟩⟩⟩, ⟨⟨0, 0, z0, z0, z0, ⟨by decide, by decide, by decide, by decide, fun k h0 h1 => by omega⟩, ⟨(g 14 0 (by decide) (by decide)).trans rfl, (g 14 1 (by decide) (by decide)).trans rfl, fun k h0 h1 => by omega⟩, ⟨(g 84 3 (by decide) (by decide)).trans rfl, (g 84 4 (by decide) (by decide)).trans rfl, fun k h0 h1 => by omega⟩⟩, ⟨0, 0, z0, z0, z0, ⟨by decide, by decide, by decide, by decide, fun k h0 h1 => by omega⟩, ⟨(g 18 0 (by decide) (by decide)).trans rfl, (g 18 1 (by decide) (by decide)).trans rfl, fun k h0 h1 => by omega⟩, ⟨(g 85 3 (by decide) (by decide)).trans rfl, (g 85 4 (by decide) (by decide)).trans rfl, fun k h0 h1 => by omega⟩⟩⟩, ⟨0, z0, ⟨by decide, by decide, fun k h0 h1 => by omega⟩, ⟨(g 0 6 (by decide) (by decide)).trans rfl, fun k h0 h1 => by omega⟩, ⟨(g 83 7 (by decide) (by decide)).trans rfl, fun k h0 h1 => by omega⟩⟩, ⟨((g 0 12 (by decide) (by decide)).trans (rfl : _ = (-1 : Int))).trans ((g 83 8 (by decide) (by decide)).trans rfl).symm, ((g 0 13 (by decide) (by decide)).trans (rfl : _ = (-1 : Int))).trans ((g 83 9 (by decide) (by decide)).trans rfl).symm⟩, ⟨0, 0, -1, -1, fun _ => tx_0, ⟨⟨(g 0 8 (by decide) (by decide)).trans rfl, (g 0 9 (by decide) (by decide)).trans rfl, (g 0 10 (by decide) (by decide)).trans rfl, (g 0 11 (by decide) (by decide)).trans rfl⟩, ⟨(g 84 0 (by decide) (by decide)).trans rfl, (g 85 0 (by decide) (by decide)).trans rfl, (g 84 1 (by decide) (by decide)).trans rfl, (g 85 1 (by decide) (by decide)).trans rfl⟩, by decide, by decide, by decide, fun i i0 i1 => by omega, (g 58 6 (by decide) (by decide)).trans rfl⟩, vw_R0 ((g 58 5 (by decide) (by decide)).trans rfl)⟩, Or.inl ⟨(g 77 3 (by decide) (by decide)).trans rfl, (g 77 4 (by decide) (by decide)).trans rfl⟩, Or.inl ⟨(g 80 3 (by decide) (by decide)).trans rfl, (g 80 4 (by decide) (by decide)).trans rfl⟩⟩
end BEG
set_option maxRecDepth 100000 in
/-- the law, from its entry -/
theorem law_all {C : ow_C} (h3 : (C.2.2.2.2.1.2.1 : Int) ≤ 386) {M : ow_M} (hM : M (-1) 0 = 0) : ∃ A L N, em_ok A L N ∧ ow_At2 C (E0 A L N) (EM A L N) 61 mL_law 0 [(0, (3, 999))] [] (0 + 102, 0 + 136614) M (fun r _ => r = 1) := by
  obtain ⟨a, ha⟩ : ∃ a, ∀ (E : ow_E) (d : Nat) (M : ow_M) (K : Int → ow_M → Prop), K a M → ow_Sp C E d mL_cell (0, 0) [(3, 999), (0, 0)] M K := by
    by_cases z : (C.2.2.2.2.1.2.1 : Int) ≤ 0
    · exact ⟨0, fun E d M K k => eL_cell ⟨by omega, fun _ => k, fun y => by omega⟩⟩
    · exact ⟨ow_sc C 0, fun E d M K k => eL_cell ⟨by omega, fun y => by omega, fun _ => ⟨by decide, by omega, k⟩⟩⟩
  obtain ⟨l, hl⟩ : ∃ l, ∀ (E : ow_E) (d : Nat) (M : ow_M) (K : Int → ow_M → Prop), K l M → ow_Sp C E d mL_cell (0, 0) [(3, 999), (0, 1)] M K := by
    by_cases z : (C.2.2.2.2.1.2.1 : Int) ≤ 1
    · exact ⟨0, fun E d M K k => eL_cell ⟨by omega, fun _ => k, fun y => by omega⟩⟩
    · exact ⟨ow_sc C 1, fun E d M K k => eL_cell ⟨by omega, fun y => by omega, fun _ => ⟨by decide, by omega, k⟩⟩⟩
  have ho := em_of (a := a) (l := l)
  generalize eA : max 2 (min 5 a) = A at ho
  generalize eL : lnF A 8 (max 2 (min 8 l)) = L at ho
  generalize eN : em_pw A L = N at ho
  have v0 : vm 0 (fun _ _ => 0) M := ⟨hM, fun c i c0 c1 => by omega⟩
  refine ⟨A, L, N, ho, bL_law_0_2 (d := 60) (bc := 0) (bs := 0) rfl (fun _ _ => rfl) ⟨by rw [hM]; rfl, by rw [hM]; decide, fun q1 N1 eq1 e1 => ?_⟩⟩
  rw [hM] at eq1
  subst eq1
  have v1 : vm 1 (fm 0 (ow_df 11) (fun _ _ => 0)) N1 := v0.mk (by decide) e1
  refine ha _ _ _ _ (hl _ _ _ _ ⟨by decide, by decide, iX11 (d := 57) ho eA eL v1 (fun N4 v4 => ⟨by rw [v4.1]; rfl, by rw [v4.1]; decide, fun q5 N5 eq5 e5 => ?_⟩)⟩)
  rw [v4.1] at eq5
  subst eq5
  have v5 : vm 84 (fm 83 (ow_df 12) (fX11 A L N (fm 0 (ow_df 11) (fun _ _ => 0)))) N5 := v4.mk (by decide) e5
  refine ha _ _ _ _ (hl _ _ _ _ ⟨by decide, by decide, iX12 (d := 59) eA eL eN.symm v5 (fun N8 v8 => ?_)⟩)
  have v8 : vm 102 (fAll A L N) N8 := v8
  refine At2_sw v8.1 (fun c i v c0 c1 i0 i1 e => (v8.2 c i c0 c1).trans (fAll_ok c0 c1 i v i0 i1 e)) ?_
  exact law_loop (d := 0) (bc := 0) (bs := 0) ho h3 (fun M' _ => rfl) 400 2 N8 (by omega) (by decide) (by decide) (gs_new v8)
