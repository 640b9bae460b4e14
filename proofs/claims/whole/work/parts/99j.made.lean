/-! ===== what constructors make: a view of the memory ===== -/
def vm (n : Int) (f M : ow_M) : Prop := M (-1) 0 = n ∧ ∀ c i, 0 ≤ c → c < n → M c i = f c i
def fm (n : Int) (g : Int → Int) (f : ow_M) : ow_M := fun c i => if c = n then g i else f c i
section MADE
variable {C : ow_C} {A L N : Int} {d : Nat} {M : ow_M} {K : Int → ow_M → Prop} {n : Int} {f : ow_M}
theorem vm.mk {M' : ow_M} {g : Int → Int} (h : vm n f M) (h0 : 0 ≤ n) (e : M' = ow_mk1 M g) : vm (n + 1) (fm n g f) M' := by
  refine ⟨by rw [e, ow_mk1_c, h.1], fun c i c0 c1 => ?_⟩
  unfold fm
  by_cases z : c = n
  · rw [if_pos z, e, z, ← h.1, ow_mk1_n (by rw [h.1]; exact h0)]
  · rw [if_neg z, e, ow_mk1_o c0 (by rw [h.1]; exact z)]
    exact h.2 c i c0 (by omega)
theorem vm.up {M' : ow_M} {c i v : Int} (h : vm n f M) (c0 : 0 ≤ c) (e : M' = ow_up M c i v) : vm n (ow_up f c i v) M' := by
  refine ⟨by rw [e, ow_upN (Or.inl (by omega))]; exact h.1, fun c' i' h0 h1 => ?_⟩
  rw [e]
  unfold ow_up
  split
  · rfl
  · exact h.2 c' i' h0 h1
theorem vm.O {c : Int} {k : Nat} (h : vm n f M) (c0 : 0 ≤ c) (c1 : c < n) (hk : (EM A L N).2.1 c = (k, (ow_nf k : Int))) : ow_O (E0 A L N) M c k := ⟨c0, by show c < M (-1) 0; rw [h.1]; exact c1, by show ((EM A L N).2.1 c).1 = k; rw [hk], by show ((EM A L N).2.1 c).2 = _; rw [hk]⟩
theorem vm.gv {c i : Int} (h : vm n f M) (c0 : 0 ≤ c) (c1 : c < n) : ow_gv (E0 A L N) M c i = f c i := h.2 c i c0 c1
def z0 : Int → Int := fun _ => 0
/-- a book -/
def fX0 (n l0 l1 : Int) (f : ow_M) : ow_M := ow_up (fm (n + 1 + 1) (fun _ => 0) (ow_up (ow_up (ow_up (fm (n + 1) (fun _ => 0) (ow_up (fm n (fun _ => 0) f) l0 1 n)) l0 2 (n + 1)) l0 4 0) l0 0 l1)) l0 3 (n + 1 + 1)
theorem iX0 {l0 l1 : Int} (h : vm n f M) (n0 : 0 ≤ l0 ∧ l0 < n) (n9 : n < 700) (m0 : 0 ≤ l1 ∧ l1 < n) (hl : l1 ≠ l0) (k0 : (EM A L N).2.1 l0 = (0, 5)) (k1 : (EM A L N).2.1 n = (100, 40)) (k2 : (EM A L N).2.1 (n + 1) = (100, 40)) (k3 : (EM A L N).2.1 (n + 1 + 1) = (102, N)) (kw : (EM A L N).2.1 l1 = (10, 5)) (hN : f l1 2 = N) (hN2 : 0 ≤ N ∧ N ≤ 256) (hK : ∀ M', vm (n + 1 + 1 + 1) (fX0 n l0 l1 f) M' → K 0 M') : ow_Sp C (E0 A L N) (d + 1) mX0_init (3, 336) [(3, l0), (3, l1)] M K := by
  refine eX0_init rfl (fun _ _ => rfl) ⟨n0.1, by omega, by rw [h.1]; exact k1, by rw [h.1]; omega, by decide, by decide, fun q1 N1 eq1 e1 => ?_⟩
  rw [h.1] at eq1
  have eq1' := eq1.symm
  subst eq1'
  have v1 := h.mk (by omega) e1
  refine ⟨v1.O n0.1 (by omega) k0, rfl, fun N2 e2 => ?_⟩
  have v2 := v1.up n0.1 e2
  refine ⟨by rw [v2.1]; exact k2, by rw [v2.1]; omega, by decide, by decide, fun q3 N3 eq3 e3 => ?_⟩
  rw [v2.1] at eq3
  subst eq3
  have v3 := v2.mk (by omega) e3
  refine ⟨v3.O n0.1 (by omega) k0, rfl, fun N4 e4 => ?_⟩
  have v4 := v3.up n0.1 e4
  refine ⟨v4.O n0.1 (by omega) k0, rfl, fun N5 e5 => ?_⟩
  have v5 := v4.up n0.1 e5
  refine ⟨v5.O n0.1 (by omega) k0, rfl, fun N6 e6 => ?_⟩
  have v6 := v5.up n0.1 e6
  have g6 : ow_gv (E0 A L N) N6 l1 2 = N := by
    rw [v6.gv m0.1 (by omega), ow_upN (Or.inl hl), ow_upN (Or.inl hl), ow_upN (Or.inl hl)]
    show (if l1 = n + 1 then _ else _) = _
    rw [if_neg (by omega), ow_upN (Or.inl hl)]
    show (if l1 = n then _ else _) = _
    rw [if_neg (by omega)]
    exact hN
  rw [g6]
  refine ⟨v6.O m0.1 (by omega) kw, by rw [v6.1]; exact k3, by rw [v6.1]; omega, hN2.1, hN2.2, fun q7 N7 eq7 e7 => ?_⟩
  rw [v6.1] at eq7
  subst eq7
  have v7 := v6.mk (by omega) e7
  exact ⟨v7.O n0.1 (by omega) k0, rfl, fun N8 e8 => hK N8 (v7.up n0.1 e8)⟩
end MADE
