/-! ===== new int[n][k] ===== -/
def ow_mkN (M : ow_M) (n : Int) : ow_M := fun c i => if c = -1 ∧ i = 0 then M (-1) 0 + 1 + n else if c = M (-1) 0 then (if 0 ≤ i ∧ i < n then M (-1) 0 + 1 + i else -1) else if M (-1) 0 < c ∧ c ≤ M (-1) 0 + n then 0 else M c i
theorem ow_mna {C : ow_C} {E : ow_E} {d : Nat} {y : ow_Y} {pc pc' ix : Nat} {lv : List (Nat × ow_V)} {st : List ow_V} {b b2 : Nat × Nat} {M : ow_M} {K : Int → ow_M → Prop} {n k : Int} {N Ks : Nat} (hd : decode y.2.1 pc = .ok (.multianewarray ix 2, 4)) (hcl : Cond.classLink y.1.cls ix ("[" ++ (FieldType.array .int).toString) ∈ ow_gt) (hw : Cond.arrayClass .int ∈ ow_gt) (hp : pc + 4 = pc') (hE : E.2.2 = none) (hF : ∀ c i, E.1 c i = none) (hn0 : 0 ≤ n) (hnN : n = N) (hN : Nat.ble N 100 = true) (hk0 : 0 ≤ k) (hkK : k ≤ Ks) (hKs : Nat.ble Ks 1000 = true) (hT : E.2.1 (M (-1) 0) = (104, n)) (hT2 : ∀ i, 0 ≤ i → i < n → E.2.1 (M (-1) 0 + 1 + i) = (100, k)) (h8 : M (-1) 0 + n < 800) (hb : b = (1 + N + b2.1, N + N * Ks + b2.2))
    (kk : ow_At C E d y pc' lv ((3, M (-1) 0) :: st) b2 (ow_mkN M n) K) : ow_At C E d y pc lv ((0, k) :: (0, n) :: st) b M K := by
  subst hp
  have hN : N ≤ 100 := Nat.ble_eq.mp hN
  have hKs : Ks ≤ 1000 := Nat.ble_eq.mp hKs
  intro p e s m args below meth c H locs ls cells slots cx hr hS hl hv hs
  have in_k : ow_I k := ow_r1 hs
  have in_n : ow_I n := ow_r1 (ow_rs hs)
  have hs2 : ∀ v ∈ st, ow_rg v := ow_rs (ow_rs hs)
  have e0 : ow_nb E M = M (-1) 0 := by unfold ow_nb; rw [hE]
  have hsz : H.size = C.2.1 + (M (-1) 0).toNat := by rw [hr.2.2.1 hE, e0]
  have h0 : 0 ≤ M (-1) 0 := by have := hr.1; rw [e0] at this; exact this
  have hts := cx.2.2.2.2.2.2.1
  rw [List.map_cons, List.map_cons]
  have nlt : ∀ {z : Int}, ow_I z → 0 ≤ z → ¬ Int32.ofInt z < 0 := fun {z} hz h0 => by
    rw [show (0 : Int32) = Int32.ofInt 0 from rfl, ow_ilt hz ow_i0]; omega
  have cn : (Int32.ofInt n).toNatClampNeg = N := by rw [ow_clamp in_n]; omega
  have ck : (Int32.ofInt k).toNatClampNeg = k.toNat := ow_clamp in_k
  have kle : k.toNat ≤ Ks := by omega
  have nk : N * k.toNat ≤ N * Ks := Nat.mul_le_mul_left N kle
  intro T hT0 Xs
  have hX := cx.2.2.2.2.2.2.2.2.1
  have hNK : N * k.toNat ≤ N * Ks := nk
  obtain ⟨vm₁, cA, comp, fA, fC, X', step⟩ := na_step Xs cx.1 cx.2.2.2.2.2.1 (hts _ hcl) (va_AOA.use hX.2.2.1) (hts _ hw) (g := F0 m pc ls (.int (Int32.ofInt k) :: .int (Int32.ofInt n) :: st.map (ow_cv C))) rfl (by rw [cx.2.1]; exact hd) rfl (nlt in_n hn0) cn (nlt in_k hk0) ck (by omega) (by omega) (by show cells + (1 + N) ≤ cells + b.1; rw [hb]; simp only []; omega) (by show slots + (N + N * k.toNat) ≤ slots + b.2; rw [hb]; simp only []; omega)
  have hcA : cA = C.2.2.2.1 4 := ow_tys_u (t := 4) cx.2.2.2.2.2.2.2.1 rfl (fun _ h => by cases h) fA
  have hcI : comp = C.2.2.2.1 0 := ow_tys_u (t := 0) cx.2.2.2.2.2.2.2.1 rfl (fun _ h => by cases h) fC
  subst hcA
  subst hcI
  have hTh : (T.setVm vm₁).heap = H := hT0
  have f1 := na_size (T := T.setVm vm₁) (cA := C.2.2.2.1 4) (cI := C.2.2.2.1 0) (N := N) (K := k.toNat) N
  have f2 := na_at (T := T.setVm vm₁) (cA := C.2.2.2.1 4) (cI := C.2.2.2.1 0) (N := N) (K := k.toNat) N
  have hold : ∀ x : Nat, x < H.size → (na_st (T.setVm vm₁) (C.2.2.2.1 4) (C.2.2.2.1 0) N k.toNat N).heap[x]? = H[x]? := fun x hx => by
    have := na_old (T := T.setVm vm₁) (cA := C.2.2.2.1 4) (cI := C.2.2.2.1 0) (N := N) (K := k.toNat) (x := x) (by rw [hTh]; exact hx) N
    rw [hTh] at this
    exact this
  have hrow : ∀ j : Nat, j < N → (na_st (T.setVm vm₁) (C.2.2.2.1 4) (C.2.2.2.1 0) N k.toNat N).heap[H.size + 1 + j]? = some (na_r (C.2.2.2.1 0) k.toNat) := fun j hj => by
    have := na_row (T := T.setVm vm₁) (cA := C.2.2.2.1 4) (cI := C.2.2.2.1 0) (N := N) (K := k.toNat) N j hj
    rw [hTh] at this
    exact this
  rw [hTh] at f1 f2
  unfold na_o at f2
  generalize na_st (T.setVm vm₁) (C.2.2.2.1 4) (C.2.2.2.1 0) N k.toNat N = F at X' step f1 f2 hold hrow
  have e1 : ow_nb E (ow_mkN M n) = M (-1) 0 + 1 + n := by unfold ow_nb; rw [hE]; simp [ow_mkN]
  have ho : ∀ c i, 0 ≤ c → c < M (-1) 0 → ow_mkN M n c i = M c i := by
    intro c i g1 g2
    unfold ow_mkN
    rw [if_neg (by omega), if_neg (by omega), if_neg (by omega)]
  have ha : ∀ i, 0 ≤ i → i < n → ow_mkN M n (M (-1) 0) i = M (-1) 0 + 1 + i := by
    intro i g1 g2
    unfold ow_mkN
    rw [if_neg (by omega), if_pos rfl, if_pos ⟨g1, g2⟩]
  have hz : ∀ c i, M (-1) 0 < c → c ≤ M (-1) 0 + n → ow_mkN M n c i = 0 := by
    intro c i g1 g2
    unfold ow_mkN
    rw [if_neg (by omega), if_neg (by omega), if_pos ⟨g1, g2⟩]
  have hrep : ow_rep C E (ow_mkN M n) F.heap := by
    refine ⟨by omega, by omega, fun _ => by rw [f1, hsz, e1]; omega, ?_, ?_⟩
    · intro j q hj
      obtain ⟨g1, rfl⟩ := ow_ws_inv hj
      rw [e1] at g1
      by_cases c1 : (j : Int) < M (-1) 0
      · have h9 := hr.2.2.2.1 j _ (by have := ow_ws_at (C := C) (E := E) (M := M) (c := (j : Int)) (by omega) (by omega); simpa using this)
        have hc : ow_cell C E (ow_mkN M n) j = ow_cell C E M j := by
          unfold ow_cell
          have : ∀ i : Int, ow_gv E (ow_mkN M n) (j : Int) i = ow_gv E M (j : Int) i := fun i => by
            rw [ow_gv_none hF, ow_gv_none hF]; exact ho _ _ (by omega) c1
          simp only [this]
        rw [hc]
        refine h9.kept (hold _ ?_)
        show C.2.1 + j < H.size
        omega
      · by_cases c2 : (j : Int) = M (-1) 0
        · have hj2 : C.2.1 + j = H.size := by omega
          rw [hj2, c2]
          unfold ow_cell
          rw [hT]
          show F.heap[H.size]? = some (vp_cell _ _)
          rw [f2, vp_cell_q]
          have hNn : n.toNat = N := by omega
          show some (arrV _ N _) = some (arrV _ n.toNat _)
          rw [hNn]
          refine congrArg some (congrArg (arrV (C.2.2.2.1 4) N) (funext fun i => ?_))
          rw [ow_gv_none hF]
          by_cases hi : i < N
          · rw [if_pos hi, ha i (by omega) (by omega), ow_rfs C (by omega) (by omega)]
            congr 2
            omega
          · rw [if_neg hi]
            unfold ow_mkN
            rw [if_neg (by omega), if_pos rfl, if_neg (by omega)]
            rfl
        · obtain ⟨i, hi⟩ : ∃ i : Nat, (j : Int) = M (-1) 0 + 1 + i := ⟨j - (M (-1) 0).toNat - 1, by omega⟩
          have hiN : i < N := by omega
          have hj2 : C.2.1 + j = H.size + 1 + i := by omega
          rw [hj2, hi]
          have hT3 := hT2 i (by omega) (by omega)
          unfold ow_cell
          rw [hT3]
          show F.heap[H.size + 1 + i]? = some (vp_cell _ _)
          rw [hrow i hiN, vp_cell_i]
          unfold na_r
          refine congrArg some (congrArg (arrV (C.2.2.2.1 0) k.toNat) (funext fun i2 => ?_))
          rw [ow_gv_none hF, hz _ _ (by omega) (by omega)]
          rfl
    · intro c' g1 g2 i' g3 g4
      rw [e1] at g2
      rw [ow_gv_none hF]
      by_cases c1 : c' < M (-1) 0
      · have h9 := hr.2.2.2.2 c' g1 (by omega) i' g3 g4
        rw [ow_gv_none hF] at h9
        rw [ho _ _ g1 c1]
        exact h9
      · by_cases c2 : c' = M (-1) 0
        · rw [c2, hT]
          trivial
        · have hT3 := hT2 (c' - (M (-1) 0 + 1)) (by omega) (by omega)
          rw [show M (-1) 0 + 1 + (c' - (M (-1) 0 + 1)) = c' by omega] at hT3
          rw [hz _ _ (by omega) (by omega), hT3]
          exact (show ow_I 0 from ⟨by decide, by decide⟩)
  have hS' : va_S (ow_A C) s.heap F.heap locs := ⟨by rw [f1]; have := hS.1; omega, fun q g1 g2 => by rw [hold q (by have := hS.1; omega)]; exact hS.2.1 q g1 g2, hS.2.2⟩
  have hkk := kk p e s m args below meth c F.heap locs ls (cells + 1 + N) (slots + (N + N * Ks)) cx hrep hS' hl hv (ow_rc (v := (3, _)) trivial hs2)
  rw [show cells + 1 + N + b2.1 = cells + b.1 by rw [hb]; simp only []; omega, show slots + (N + N * Ks) + b2.2 = slots + b.2 by rw [hb]; simp only []; omega, List.map_cons, ow_ref C h0 (by omega)] at hkk
  obtain ⟨t, a1, b1⟩ := hkk F rfl (stand_widen X' (Nat.le_refl _) (by omega))
  refine ⟨t, step t ?_, b1⟩
  have e9 : T.heap.size = C.2.1 + (M (-1) 0).toNat := by rw [hT0]; exact hsz
  rw [e9]
  exact a1
