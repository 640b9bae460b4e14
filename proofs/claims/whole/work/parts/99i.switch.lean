/-! ===== from what constructors leave to the fixed fields ===== -/
def E0 (A L N : Int) : ow_E := (fun _ _ => none, (EM A L N).2.1, none)
/-- what a cell's picture looks at -/
theorem va_at_cg {C : ow_C} {E E' : ow_E} {M M' : ow_M} {c : Int} {a : Nat} {H : Heap} (hk : E'.2.1 c = E.2.1 c) (hg : ∀ j : Nat, (j : Int) < (E.2.1 c).2 → ow_gv E' M' c j = ow_gv E M c j) (h : va_at C.2.2.1 vwCl (a, ow_cell C E M c) H) : va_at C.2.2.1 vwCl (a, ow_cell C E' M' c) H := by
  have arr : ∀ (cA : ClassId) (f g : Nat → Value), (∀ j : Nat, (j : Int) < (E.2.1 c).2 → f j = g j) → arrV cA (E.2.1 c).2.toNat f = arrV cA (E.2.1 c).2.toNat g := by
    intro cA f g hfg
    unfold arrV
    congr 1
    apply Array.ext
    · simp
    · intro i h1 h2
      simp at h1
      simp
      exact hfg i (by omega)
  obtain ⟨k, hkk⟩ : ∃ k, (E.2.1 c).1 = k := ⟨_, rfl⟩
  unfold ow_cell at h ⊢
  rw [hk]
  rw [hkk] at h ⊢
  split at h
  · show H[a]? = some (arrV (C.2.2.2.1 0) (E.2.1 c).2.toNat (fun j => .int (Int32.ofInt (ow_gv E' M' c j))))
    rw [arr _ _ (fun j => .int (Int32.ofInt (ow_gv E M c j))) (fun j hj => by show Value.int _ = Value.int _; rw [hg j hj])]
    exact h
  · show H[a]? = some (arrV (C.2.2.2.1 1) (E.2.1 c).2.toNat (fun j => .long (Int64.ofInt (ow_gv E' M' c j))))
    rw [arr _ _ (fun j => .long (Int64.ofInt (ow_gv E M c j))) (fun j hj => by show Value.long _ = Value.long _; rw [hg j hj])]
    exact h
  · show H[a]? = some (arrV (C.2.2.2.1 2) (E.2.1 c).2.toNat (fun j => .int (Int32.ofInt (ow_gv E' M' c j))))
    rw [arr _ _ (fun j => .int (Int32.ofInt (ow_gv E M c j))) (fun j hj => by show Value.int _ = Value.int _; rw [hg j hj])]
    exact h
  · show H[a]? = some (arrV (C.2.2.2.1 3) (E.2.1 c).2.toNat (fun j => va_rf (ow_rf C (ow_gv E' M' c j))))
    rw [arr _ _ (fun j => va_rf (ow_rf C (ow_gv E M c j))) (fun j hj => by show va_rf _ = va_rf _; rw [hg j hj])]
    exact h
  · show H[a]? = some (arrV (C.2.2.2.1 4) (E.2.1 c).2.toNat (fun j => va_rf (ow_rf C (ow_gv E' M' c j))))
    rw [arr _ _ (fun j => va_rf (ow_rf C (ow_gv E M c j))) (fun j hj => by show va_rf _ = va_rf _; rw [hg j hj])]
    exact h
  · rename_i n1 n2 n3 n4 n5
    have e : (List.range (E.2.1 c).2.toNat).map (fun (j : Nat) => ow_cv C (ow_tg k j, ow_gv E' M' c j)) = (List.range (E.2.1 c).2.toNat).map (fun (j : Nat) => ow_cv C (ow_tg k j, ow_gv E M c j)) := by
      apply List.map_congr_left
      intro j hj
      rw [List.mem_range] at hj
      rw [hg j (by omega)]
    rw [e]; exact h
theorem rep_sw {C : ow_C} {A L N : Int} {M : ow_M} {H : Heap} (h : ow_rep C (E0 A L N) M H) (h1 : M (-1) 0 = 102) (h2 : ∀ c i v, 0 ≤ c → c < 102 → 0 ≤ i → i < ((EM A L N).2.1 c).2 → em_F A L N c i = some v → M c i = v) : ow_rep C (EM A L N) M H := by
  obtain ⟨r0, r1, r2, r3, r4⟩ := h
  have n0 : ow_nb (E0 A L N) M = 102 := h1
  have n1 : ow_nb (EM A L N) M = 102 := rfl
  have gg : ∀ c i, 0 ≤ c → c < 102 → 0 ≤ i → i < ((EM A L N).2.1 c).2 → ow_gv (EM A L N) M c i = ow_gv (E0 A L N) M c i := by
    intro c i c0 c1 i0 i1
    show (match em_F A L N c i with | some v => v | none => M c i) = M c i
    cases hf : em_F A L N c i with
    | none => rfl
    | some v => exact (h2 c i v c0 c1 i0 i1 hf).symm
  refine ⟨by rw [n1]; decide, by rw [n1]; decide, fun z => (by cases z), fun k q hq => ?_, fun c c0 c1 i i0 i1 => ?_⟩
  · obtain ⟨k1, rfl⟩ := ow_ws_inv hq
    rw [n1] at k1
    have k2 : (k : Int) < 102 := by omega
    have h9 := r3 k _ (by have := ow_ws_at (C := C) (E := E0 A L N) (M := M) (c := (k : Int)) (by omega) (by rw [n0]; exact k2); simpa using this)
    exact va_at_cg (E := E0 A L N) (M := M) rfl (fun j hj => gg k j (by omega) k2 (by omega) hj) h9
  · rw [n1] at c1
    rw [gg c i c0 c1 i0 i1]
    exact r4 c c0 (by rw [n0]; exact c1) i i0 i1
/-- the loop, out of the constructors' memory -/
theorem At2_sw {C : ow_C} {A L N : Int} {d : Nat} {y : ow_Y} {pc : Nat} {lv : List (Nat × ow_V)} {st : List ow_V} {b : Nat × Nat} {M : ow_M} {K : Int → ow_M → Prop} (h1 : M (-1) 0 = 102) (h2 : ∀ c i v, 0 ≤ c → c < 102 → 0 ≤ i → i < ((EM A L N).2.1 c).2 → em_F A L N c i = some v → M c i = v) (h : ow_At C (EM A L N) d y pc lv st b M K) : ow_At2 C (E0 A L N) (EM A L N) d y pc lv st b M K := by
  intro p e s m args below meth c H locs ls cells slots cx hr hS hl hv hs
  exact h p e s m args below meth c H locs ls cells slots cx (rep_sw hr h1 h2) hS hl hv hs
