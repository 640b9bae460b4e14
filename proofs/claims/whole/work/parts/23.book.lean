/-! ===== what stays ===== -/
def ow_off (S : List Int) (M M' : ow_M) : Prop := ∀ c, c ∉ S → ∀ i, M' c i = M c i
theorem ow_off.rf {S : List Int} {M : ow_M} : ow_off S M M := fun _ _ _ => rfl
theorem ow_off.tr {S : List Int} {M M' M'' : ow_M} (h : ow_off S M M') (h2 : ow_off S M' M'') : ow_off S M M'' := fun c hc i => (h2 c hc i).trans (h c hc i)
theorem ow_off.up {S : List Int} {M M' : ow_M} {c i v : Int} (h : ow_off S M M') (hc : c ∈ S) : ow_off S M (ow_up M' c i v) := by
  intro c' hc' i'
  have hne : c' ≠ c := fun e => hc' (by rw [e]; exact hc)
  rw [ow_upN (Or.inl hne)]
  exact h c' hc' i'
theorem ow_off.mono {S S' : List Int} {M M' : ow_M} (h : ow_off S M M') (hs : ∀ c, c ∈ S → c ∈ S') : ow_off S' M M' := fun c hc i => h c (fun q => hc (hs c q)) i
/-! ===== the book ===== -/
def bk_ok (N n : Int) (w p : Int → Int) : Prop := 0 ≤ n ∧ n ≤ 40 ∧ (∀ k, 0 ≤ k → k < n → (0 ≤ w k ∧ w k < N) ∧ 1 ≤ p k ∧ p k ≤ 9) ∧ ∀ j k, 0 ≤ j → j < k → k < n → w j ≠ w k
def bk_C (N : Int) (M : ow_M) (b n : Int) (w p : Int → Int) : Prop := M b 4 = n ∧ (∀ k, 0 ≤ k → k < n → M (b + 1) k = w k ∧ M (b + 2) k = p k) ∧ (∀ k, 0 ≤ k → k < n → M (b + 3) (w k) = 1) ∧ ∀ x, 0 ≤ x → x < N → (∀ k, 0 ≤ k → k < n → w k ≠ x) → M (b + 3) x = 0
def bk_M (M : ow_M) (c n : Int) (w p : Int → Int) : Prop := M c 2 = n ∧ ∀ k, 0 ≤ k → k < n → M c (10 + 2 * k) = w k ∧ M c (11 + 2 * k) = p k
def bk_put (f : Int → Int) (n x : Int) : Int → Int := fun k => if k = n then x else f k
def bk_cut (f : Int → Int) (j : Int) : Int → Int := fun k => if k < j then f k else f (k + 1)
theorem bk_put_s {f : Int → Int} {n x : Int} : bk_put f n x n = x := if_pos rfl
theorem bk_put_n {f : Int → Int} {n x k : Int} (h : k ≠ n) : bk_put f n x k = f k := if_neg h
theorem bk_ok_put {N n x q : Int} {w p : Int → Int} (h : bk_ok N n w p) (hx : 0 ≤ x ∧ x < N) (hq : 1 ≤ q ∧ q ≤ 9) (hn : n ≠ 40) (hnew : ∀ k, 0 ≤ k → k < n → w k ≠ x) : bk_ok N (n + 1) (bk_put w n x) (bk_put p n q) := by
  obtain ⟨h0, h1, h2, h3⟩ := h
  refine ⟨by omega, by omega, fun k k0 k1 => ?_, fun j k j0 jk kn => ?_⟩
  · by_cases e : k = n
    · subst e; rw [bk_put_s, bk_put_s]; exact ⟨hx, hq⟩
    · rw [bk_put_n e, bk_put_n e]; exact h2 k k0 (by omega)
  · rw [bk_put_n (show j ≠ n by omega)]
    by_cases e : k = n
    · subst e; rw [bk_put_s]; exact hnew j j0 (by omega)
    · rw [bk_put_n e]; exact h3 j k j0 jk (by omega)
theorem bk_ok_cut {N n j : Int} {w p : Int → Int} (h : bk_ok N n w p) (hj : 0 ≤ j ∧ j < n) : bk_ok N (n - 1) (bk_cut w j) (bk_cut p j) := by
  obtain ⟨h0, h1, h2, h3⟩ := h
  refine ⟨by omega, by omega, fun k k0 k1 => ?_, fun i k i0 ik kn => ?_⟩
  · unfold bk_cut
    by_cases e : k < j
    · rw [if_pos e, if_pos e]; exact h2 k k0 (by omega)
    · rw [if_neg e, if_neg e]; exact h2 (k + 1) (by omega) (by omega)
  · unfold bk_cut
    by_cases e : i < j <;> by_cases e2 : k < j
    · rw [if_pos e, if_pos e2]; exact h3 i k i0 ik (by omega)
    · rw [if_pos e, if_neg e2]; exact h3 i (k + 1) i0 (by omega) (by omega)
    · omega
    · rw [if_neg e, if_neg e2]; exact h3 (i + 1) (k + 1) (by omega) (by omega) (by omega)
theorem bk_ok_inj {N n : Int} {w p : Int → Int} (h : bk_ok N n w p) {j k : Int} (hj : 0 ≤ j ∧ j < n) (hk : 0 ≤ k ∧ k < n) (e : w j = w k) : j = k := by
  by_cases h1 : j < k
  · exact absurd e (h.2.2.2 j k hj.1 h1 hk.2)
  · by_cases h2 : k < j
    · exact absurd e.symm (h.2.2.2 k j hk.1 h2 hj.2)
    · omega
theorem bk_C.mv {N : Int} {M M' : ow_M} {b n : Int} {w p : Int → Int} (h : bk_C N M b n w p) (h0 : M' b 4 = M b 4) (h1 : ∀ i, M' (b + 1) i = M (b + 1) i) (h2 : ∀ i, M' (b + 2) i = M (b + 2) i) (h3 : ∀ i, M' (b + 3) i = M (b + 3) i) : bk_C N M' b n w p :=
  ⟨h0.trans h.1, fun k k0 k1 => by rw [h1, h2]; exact h.2.1 k k0 k1, fun k k0 k1 => by rw [h3]; exact h.2.2.1 k k0 k1, fun x x0 x1 hx => by rw [h3]; exact h.2.2.2 x x0 x1 hx⟩
theorem bk_C.off {N : Int} {M M' : ow_M} {n : Int} {w p : Int → Int} {S : List Int} (b : Int) (h : bk_C N M b n w p) (ho : ow_off S M M') (h0 : b ∉ S) (h1 : b + 1 ∉ S) (h2 : b + 2 ∉ S) (h3 : b + 3 ∉ S) : bk_C N M' b n w p := h.mv (ho _ h0 _) (ho _ h1) (ho _ h2) (ho _ h3)
theorem bk_M.mv {M M' : ow_M} {c n : Int} {w p : Int → Int} (h : bk_M M c n w p) (h1 : ∀ i, M' c i = M c i) : bk_M M' c n w p := ⟨(h1 _).trans h.1, fun k k0 k1 => by rw [h1, h1]; exact h.2 k k0 k1⟩
section BKS
variable {C : ow_C} {A L N : Int} {d : Nat} {M : ow_M} {K : Int → ow_M → Prop} {n : Int} {w p : Int → Int}
theorem tX0_add (h : em_ok A L N) (hok : bk_ok N n w p) (hB : bk_C N M 6 n w p) {x q : Int} (h1 : ¬ ((0 ≤ x ∧ x < N) ∧ (1 ≤ q ∧ q ≤ 9) ∧ n ≠ 40 ∧ ∀ k, 0 ≤ k → k < n → w k ≠ x) → K 0 M)
    (h2 : (0 ≤ x ∧ x < N) → (1 ≤ q ∧ q ≤ 9) → n ≠ 40 → (∀ k, 0 ≤ k → k < n → w k ≠ x) → ∀ M', ow_off [6, 7, 8, 9] M M' → bk_C N M' 6 (n + 1) (bk_put w n x) (bk_put p n q) → K 1 M') : ow_Sp C (EM A L N) (d + 1) mX0_add (0, 0) [(3, 6), (0, x), (0, q)] M K := by
  obtain ⟨b0, b1, b2, b3⟩ := hB
  obtain ⟨o0, o1, o2, o3⟩ := hok
  refine fX0_add (tX10_isWord (fun hx => ⟨fun _ => h1 (fun z => hx z.1), fun z => absurd rfl z⟩) (fun hx => ⟨fun z => absurd z (by decide), fun _ => ?_⟩))
  refine ⟨fun hq => h1 (fun z => by have := z.2.1.1; omega), fun hq1 => ⟨fun hq2 => ⟨hx, ?_, ?_⟩, fun hq2 => h1 (fun z => by have := z.2.1.2; omega)⟩⟩
  · intro hh
    refine h1 (fun z => hh ?_)
    exact b3 x hx.1 hx.2 z.2.2.2
  · intro hh
    have hnew : ∀ k, 0 ≤ k → k < n → w k ≠ x := fun k k0 k1 e => by
      have := b2 k k0 k1
      rw [e] at this
      rw [show (6 : Int) + 3 = 9 from rfl] at this
      omega
    rw [b0]
    refine ⟨fun hn => ⟨⟨o0, hn⟩, ?_⟩, fun hn => h1 (fun z => by have := z.2.2.1; omega)⟩
    rintro N2 rfl
    have e1 : ow_up M 7 n x 6 4 = n := by rw [ow_upN (Or.inl (by decide))]; exact b0
    rw [e1]
    refine ⟨⟨o0, hn⟩, ?_⟩
    rintro N3 rfl
    refine ?_
    rintro N4 rfl
    have e2 : ow_up (ow_up (ow_up M 7 n x) 8 n q) 9 x 1 6 4 = n := by rw [ow_upN (Or.inl (by decide)), ow_upN (Or.inl (by decide))]; exact e1
    rw [e2]
    refine ⟨⟨by omega, by omega⟩, ?_⟩
    rintro N5 rfl
    refine h2 hx ⟨hq1, hq2⟩ (by omega) hnew _ ((((ow_off.rf.up (by decide)).up (by decide)).up (by decide)).up (by decide)) ⟨ow_upS, fun k k0 k1 => ?_, fun k k0 k1 => ?_, fun y y0 y1 hy => ?_⟩
    · by_cases e : k = n
      · simp [ow_up, bk_put, e]
      · have := b1 k k0 (by omega)
        simpa [ow_up, bk_put, e] using this
    · show ow_up _ 6 4 _ 9 _ = _
      rw [ow_upN (Or.inl (by decide))]
      by_cases e : k = n
      · subst e; rw [bk_put_s, ow_upS]
      · rw [bk_put_n e, ow_upN (Or.inr (hnew k k0 (by omega))), ow_upN (Or.inl (by decide)), ow_upN (Or.inl (by decide))]; exact b2 k k0 (by omega)
    · show ow_up _ 6 4 _ 9 _ = _
      have hyx : y ≠ x := fun e => hy n o0 (by omega) (by rw [bk_put_s]; exact e.symm)
      rw [ow_upN (Or.inl (by decide)), ow_upN (Or.inr hyx), ow_upN (Or.inl (by decide)), ow_upN (Or.inl (by decide))]
      exact b3 y y0 y1 (fun k k0 k1 e => hy k k0 (by omega) (by rw [bk_put_n (by omega)]; exact e))
theorem tX11_put (h : em_ok A L N) (hok : bk_ok N n w p) (hB : bk_C N M 6 n w p) {x q : Int} (h1 : ¬ ((0 ≤ x ∧ x < N) ∧ (1 ≤ q ∧ q ≤ 9) ∧ n ≠ 40 ∧ ∀ k, 0 ≤ k → k < n → w k ≠ x) → K (-1) M)
    (h2 : (0 ≤ x ∧ x < N) → (1 ≤ q ∧ q ≤ 9) → n ≠ 40 → (∀ k, 0 ≤ k → k < n → w k ≠ x) → ∀ M', ow_off [6, 7, 8, 9] M M' → bk_C N M' 6 (n + 1) (bk_put w n x) (bk_put p n q) → K (n + 1) M') : ow_Sp C (EM A L N) (d + 2) mX11_put (0, 0) [(3, 0), (0, x), (0, q)] M K := by
  refine fX11_put (tX0_add h hok hB (fun z => ⟨fun _ => h1 z, fun q => absurd rfl q⟩) (fun z1 z2 z3 z4 M' ho hB' => ⟨fun q => absurd q (by decide), fun _ => ?_⟩))
  rw [hB'.1]
  exact h2 z1 z2 z3 z4 M' ho hB'
theorem tX12_wordOf {k : Int} (h0 : 0 ≤ k) (h1 : k < 100) (hk : K (M 84 (10 + 2 * k)) M) : ow_Sp C (EM A L N) d mX12_wordOf (0, 0) [(3, 83), (0, k)] M K :=
  fX12_wordOf ⟨⟨by omega, by omega⟩, ⟨by omega, by omega⟩, ⟨by omega, by omega⟩, hk⟩
theorem tX12_placeIn (hok : bk_ok N n w p) (hB : bk_M M 84 n w p) {x : Int} (h1 : (∀ k, 0 ≤ k → k < n → w k ≠ x) → K (-1) M) (h2 : ∀ k, 0 ≤ k → k < n → w k = x → K k M) : ow_Sp C (EM A L N) (d + 1) mX12_placeIn (0, 0) [(3, 83), (0, x)] M K := by
  obtain ⟨b0, b1⟩ := hB
  obtain ⟨o0, o1, o2, o3⟩ := hok
  refine fX12_placeIn ?_
  refine ow_upto (P := fun i (_ : Unit) => ow_At C (EM A L N) (d + 1) mX12_placeIn 2 [(0, (3, 83)), (1, (0, x)), (2, (0, i))] [] (0, 0) M K) (I := fun i _ => 0 ≤ i ∧ ∀ k, 0 ≤ k → k < i → w k ≠ x) n (fun _ hi => ?_) (fun i _ hlt hi ih => ?_) 0 () o0 ⟨by omega, fun k k0 k1 => by omega⟩
  · refine cX12_placeIn_2 ?_
    rw [b0]
    exact ⟨fun _ => h1 hi.2, fun q => by omega⟩
  · refine cX12_placeIn_2 ?_
    rw [b0]
    refine ⟨fun q => by omega, fun _ => tX12_wordOf hi.1 (by omega) ?_⟩
    rw [(b1 i hi.1 hlt).1]
    refine ⟨fun hne => ⟨⟨by omega, by omega⟩, ih () ⟨by omega, fun k k0 k1 => ?_⟩⟩, fun he => h2 i hi.1 hlt he⟩
    by_cases e : k = i
    · subst e; exact hne
    · exact hi.2 k k0 (by omega)
theorem tX12_put (h : em_ok A L N) (hok : bk_ok N n w p) (hB : bk_M M 84 n w p) {x q : Int} (h1 : ¬ ((0 ≤ x ∧ x < N) ∧ (1 ≤ q ∧ q ≤ 9) ∧ n ≠ 40 ∧ ∀ k, 0 ≤ k → k < n → w k ≠ x) → K (-1) M)
    (h2 : (0 ≤ x ∧ x < N) → (1 ≤ q ∧ q ≤ 9) → n ≠ 40 → (∀ k, 0 ≤ k → k < n → w k ≠ x) → ∀ M', ow_off [84] M M' → (∀ i, ¬ (i = 2 ∨ (10 ≤ i ∧ i < 90)) → M' 84 i = M 84 i) → bk_M M' 84 (n + 1) (bk_put w n x) (bk_put p n q) → K (n + 1) M') : ow_Sp C (EM A L N) (d + 2) mX12_put (0, 0) [(3, 83), (0, x), (0, q)] M K := by
  have hok' := hok
  obtain ⟨o0, o1, o2, o3⟩ := hok
  refine fX12_put (tX12_isWord0 h (fun hx => ⟨fun _ => h1 (fun z => hx z.1), fun z => absurd rfl z⟩) (fun hx => ⟨fun z => absurd z (by decide), fun _ => ?_⟩))
  refine tX12_isIn (fun hq => ⟨fun _ => h1 (fun z => hq z.2.1), fun z => absurd rfl z⟩) (fun hq => ⟨fun z => absurd z (by decide), fun _ => ?_⟩)
  refine tX12_placeIn hok' hB (fun hnew => ⟨fun z => absurd z (by decide), fun _ => ?_⟩) (fun k k0 k1 e => ⟨fun _ => h1 (fun z => z.2.2.2 k k0 k1 e), fun z => by omega⟩)
  obtain ⟨b0, b1⟩ := hB
  rw [b0]
  refine ⟨fun hn => ⟨⟨by omega, by omega⟩, ⟨by omega, by omega⟩, ⟨by omega, by omega⟩, ?_⟩, fun hn => h1 (fun z => z.2.2.1 hn)⟩
  rintro N4 rfl
  have e1 : ow_up M 84 (10 + 2 * n) x 84 2 = n := by rw [ow_upN (Or.inr (by omega))]; exact b0
  rw [e1]
  refine ⟨⟨by omega, by omega⟩, ⟨by omega, by omega⟩, ⟨by omega, by omega⟩, ⟨by omega, by omega⟩, ?_⟩
  rintro N5 rfl
  have e2 : ow_up (ow_up M 84 (10 + 2 * n) x) 84 (10 + 2 * n + 1) q 84 2 = n := by rw [ow_upN (Or.inr (by omega))]; exact e1
  rw [e2]
  refine ⟨⟨by omega, by omega⟩, ?_⟩
  rintro N6 rfl
  rw [ow_upS]
  refine h2 hx hq hn hnew _ (((ow_off.rf.up (by decide)).up (by decide)).up (by decide)) (fun i hi => ?_) ⟨ow_upS, fun k k0 k1 => ?_⟩
  · rw [ow_upN (Or.inr (by omega)), ow_upN (Or.inr (by omega)), ow_upN (Or.inr (by omega))]
  · rw [ow_upN (Or.inr (by omega)), ow_upN (Or.inr (by omega)), ow_upN (Or.inr (show 11 + 2 * k ≠ 2 by omega))]
    by_cases e : k = n
    · subst e
      rw [ow_upS, show (11 : Int) + 2 * k = 10 + 2 * k + 1 by omega, ow_upS, bk_put_s, bk_put_s]; exact ⟨rfl, rfl⟩
    · rw [ow_upN (Or.inr (by omega)), ow_upN (Or.inr (by omega)), ow_upN (Or.inr (by omega)), bk_put_n e, bk_put_n e]; exact b1 k k0 (by omega)
end BKS
