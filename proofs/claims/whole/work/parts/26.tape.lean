/-! ===== frames ===== -/
def ow_of (S : List Int) (F : List (Int × Int)) (M M' : ow_M) : Prop := ∀ c i, c ∉ S → (c, i) ∉ F → M' c i = M c i
theorem ow_of.rf {S : List Int} {F : List (Int × Int)} {M : ow_M} : ow_of S F M M := fun _ _ _ _ => rfl
theorem ow_of.tr {S : List Int} {F : List (Int × Int)} {M M' M'' : ow_M} (h : ow_of S F M M') (h2 : ow_of S F M' M'') : ow_of S F M M'' := fun c i h3 h4 => (h2 c i h3 h4).trans (h c i h3 h4)
theorem ow_of.up {S : List Int} {F : List (Int × Int)} {M M' : ow_M} {c i v : Int} (h : ow_of S F M M') (hc : c ∈ S) : ow_of S F M (ow_up M' c i v) := by
  intro c' i' h1 h2
  have hne : c' ≠ c := fun e => h1 (by rw [e]; exact hc)
  rw [ow_upN (Or.inl hne)]
  exact h c' i' h1 h2
theorem ow_of.uf {S : List Int} {F : List (Int × Int)} {M M' : ow_M} {c i v : Int} (h : ow_of S F M M') (hc : (c, i) ∈ F) : ow_of S F M (ow_up M' c i v) := by
  intro c' i' h1 h2
  have hne : c' ≠ c ∨ i' ≠ i := by
    by_cases e : c' = c
    · refine Or.inr (fun e2 => h2 ?_)
      rw [e, e2]; exact hc
    · exact Or.inl e
  rw [ow_upN hne]
  exact h c' i' h1 h2
theorem ow_of.mono {S S' : List Int} {F F' : List (Int × Int)} {M M' : ow_M} (h : ow_of S F M M') (hs : ∀ c ∈ S, c ∈ S') (hf : ∀ x ∈ F, x.1 ∈ S' ∨ x ∈ F') : ow_of S' F' M M' := by
  intro c i h1 h2
  refine h c i (fun q => h1 (hs c q)) (fun q => ?_)
  rcases hf _ q with q2 | q2
  · exact h1 q2
  · exact h2 q2
theorem ow_of.at {S : List Int} {F : List (Int × Int)} {M M' : ow_M} (h : ow_of S F M M') {c : Int} (h1 : c ∉ S) (h2 : c ∉ F.map Prod.fst) (i : Int) : M' c i = M c i := h c i h1 (fun q => h2 (List.mem_map.2 ⟨_, q, rfl⟩))
theorem ow_of.off {S : List Int} {M M' : ow_M} (h : ow_off S M M') : ow_of S [] M M' := fun c i h1 _ => h c h1 i
/-! ===== the tape ===== -/
def tp_ok (n : Int) (t : Int → Int) : Prop := 0 ≤ n ∧ n ≤ 300 ∧ ∀ i, 0 ≤ i → i < n → 0 ≤ t i ∧ t i ≤ 255
def tp_C (M : ow_M) (n : Int) (t : Int → Int) : Prop := M 0 6 = n ∧ ∀ i, 0 ≤ i → i < n → M 1 i = t i
def tp_M (M : ow_M) (n : Int) (t : Int → Int) : Prop := M 83 7 = n ∧ ∀ i, 0 ≤ i → i < n → M 87 i = t i
def tp_by (v k : Int) : Int := ow_and (ow_shr v k) 255
def tp_4 (t : Int → Int) (n v : Int) : Int → Int := bk_put (bk_put (bk_put (bk_put t n (tp_by v 24)) (n + 1) (tp_by v 16)) (n + 1 + 1) (tp_by v 8)) (n + 1 + 1 + 1) (tp_by v 0)
theorem tp_by_rg {v k : Int} : 0 ≤ tp_by v k ∧ tp_by v k ≤ 255 := by
  unfold tp_by
  rw [ow_and255]
  omega
theorem tp_ok1 {n v k : Int} {t : Int → Int} (h : tp_ok n t) (h1 : n < 300) : tp_ok (n + 1) (bk_put t n (tp_by v k)) := by
  obtain ⟨h2, h3, h4⟩ := h
  refine ⟨by omega, by omega, fun i i0 i1 => ?_⟩
  by_cases e : i = n
  · subst e; rw [bk_put_s]; exact tp_by_rg
  · rw [bk_put_n e]; exact h4 i i0 (by omega)
theorem tp_ok4 {n v : Int} {t : Int → Int} (h : tp_ok n t) (h1 : n + 4 ≤ 300) : tp_ok (n + 4) (tp_4 t n v) := by
  have := tp_ok1 (v := v) (k := 0) (tp_ok1 (v := v) (k := 8) (tp_ok1 (v := v) (k := 16) (tp_ok1 (v := v) (k := 24) h (by omega)) (by omega)) (by omega)) (by omega)
  rw [show n + 1 + 1 + 1 + 1 = n + 4 by omega] at this
  exact this
section TPS
variable {C : ow_C} {A L N : Int} {d : Nat} {M : ow_M} {K : Int → ow_M → Prop} {n : Int} {t : Int → Int}
theorem tp_C1 (hT : tp_C M n t) {v : Int} : tp_C (ow_up (ow_up M 1 n v) 0 6 (n + 1)) (n + 1) (bk_put t n v) := by
  refine ⟨ow_upS, fun i i0 i1 => ?_⟩
  rw [ow_upN (Or.inl (by decide))]
  by_cases e : i = n
  · subst e; rw [ow_upS, bk_put_s]
  · rw [ow_upN (Or.inr e), bk_put_n e]; exact hT.2 i i0 (by omega)
theorem tp_M1 (hT : tp_M M n t) {v : Int} : tp_M (ow_up (ow_up M 87 n v) 83 7 (n + 1)) (n + 1) (bk_put t n v) := by
  refine ⟨ow_upS, fun i i0 i1 => ?_⟩
  rw [ow_upN (Or.inl (by decide))]
  by_cases e : i = n
  · subst e; rw [ow_upS, bk_put_s]
  · rw [ow_upN (Or.inr e), bk_put_n e]; exact hT.2 i i0 (by omega)
theorem tX11_append1 (hok : tp_ok n t) (hT : tp_C M n t) (hn : n < 300) {v k : Int} (hk : k = 0 ∨ k = 8 ∨ k = 16 ∨ k = 24) (h : ∀ M', ow_of [1] [(0, 6)] M M' → tp_C M' (n + 1) (bk_put t n (tp_by v k)) → ow_At C (EM A L N) d mX11_append 3 [(0, (3, 0)), (1, (0, v)), (2, (0, k + (-8)))] [] (0, 0) M' K) : ow_At C (EM A L N) d mX11_append 3 [(0, (3, 0)), (1, (0, v)), (2, (0, k))] [] (0, 0) M K := by
  have hn0 := hok.1
  have e := hT.1
  refine cX11_append_3 ⟨fun q => by omega, fun _ => ⟨fun q => by omega, fun _ => ⟨fun q => by omega, fun _ => ⟨⟨by omega, by omega⟩, ?_⟩⟩⟩⟩
  intro N1 e1
  have e3 : N1 0 6 = n := by rw [e1, ow_upN (Or.inl (by decide))]; exact e
  refine ⟨⟨by omega, by omega⟩, ?_⟩
  intro N2 e2
  refine ⟨⟨by omega, by omega⟩, h N2 ?_ ?_⟩
  · rw [e2, e1]; exact (ow_of.rf.up (by decide)).uf (by decide)
  · rw [e2, e3, e1, ow_byte hk, e]
    exact tp_C1 hT
theorem tX11_append (hok : tp_ok n t) (hT : tp_C M n t) (hn : n + 4 ≤ 300) {v : Int} (h : ∀ M', ow_of [1] [(0, 6)] M M' → tp_C M' (n + 4) (tp_4 t n v) → K 0 M') : ow_Sp C (EM A L N) d mX11_append (0, 0) [(3, 0), (0, v)] M K := by
  refine fX11_append ?_
  refine tX11_append1 hok hT (by omega) (Or.inr (Or.inr (Or.inr rfl))) (fun M1 o1 T1 => ?_)
  have k1 := tp_ok1 (v := v) (k := 24) hok (by omega)
  refine tX11_append1 k1 T1 (by omega) (Or.inr (Or.inr (Or.inl rfl))) (fun M2 o2 T2 => ?_)
  have k2 := tp_ok1 (v := v) (k := 16) k1 (by omega)
  refine tX11_append1 k2 T2 (by omega) (Or.inr (Or.inl rfl)) (fun M3 o3 T3 => ?_)
  have k3 := tp_ok1 (v := v) (k := 8) k2 (by omega)
  refine tX11_append1 k3 T3 (by omega) (Or.inl rfl) (fun M4 o4 T4 => ?_)
  refine cX11_append_3 ⟨fun _ => h M4 (((o1.tr o2).tr o3).tr o4) ?_, fun q => by omega⟩
  rw [show n + 1 + 1 + 1 + 1 = n + 4 by omega] at T4
  exact T4
theorem tX12_four1 (hok : tp_ok n t) (hT : tp_M M n t) (hn : n < 300) {v k : Int} (hk : 0 ≤ k ∧ k < 32) (h : ∀ M', ow_of [87] [(83, 7)] M M' → tp_M M' (n + 1) (bk_put t n (tp_by v k)) → ow_At C (EM A L N) d mX12_four 3 [(0, (3, 83)), (1, (0, v)), (2, (0, k + (-8)))] [] (0, 0) M' K) : ow_At C (EM A L N) d mX12_four 3 [(0, (3, 83)), (1, (0, v)), (2, (0, k))] [] (0, 0) M K := by
  have hn0 := hok.1
  have e := hT.1
  refine cX12_four_3 ⟨fun q => by omega, fun _ => ⟨⟨by omega, by omega⟩, ?_⟩⟩
  intro N1 e1
  have e3 : N1 83 7 = n := by rw [e1, ow_upN (Or.inl (by decide))]; exact e
  refine ⟨⟨by omega, by omega⟩, ?_⟩
  intro N2 e2
  refine ⟨⟨by omega, by omega⟩, h N2 ?_ ?_⟩
  · rw [e2, e1]; exact (ow_of.rf.up (by decide)).uf (by decide)
  · rw [e2, e3, e1, e]
    exact tp_M1 hT
theorem tX12_four (hok : tp_ok n t) (hT : tp_M M n t) (hn : n + 4 ≤ 300) {v : Int} (h : ∀ M', ow_of [87] [(83, 7)] M M' → tp_M M' (n + 4) (tp_4 t n v) → K 0 M') : ow_Sp C (EM A L N) d mX12_four (0, 0) [(3, 83), (0, v)] M K := by
  refine fX12_four ?_
  refine tX12_four1 hok hT (by omega) (by decide) (fun M1 o1 T1 => ?_)
  have k1 := tp_ok1 (v := v) (k := 24) hok (by omega)
  refine tX12_four1 k1 T1 (by omega) (by decide) (fun M2 o2 T2 => ?_)
  have k2 := tp_ok1 (v := v) (k := 16) k1 (by omega)
  refine tX12_four1 k2 T2 (by omega) (by decide) (fun M3 o3 T3 => ?_)
  have k3 := tp_ok1 (v := v) (k := 8) k2 (by omega)
  refine tX12_four1 k3 T3 (by omega) (by decide) (fun M4 o4 T4 => ?_)
  refine cX12_four_3 ⟨fun _ => h M4 (((o1.tr o2).tr o3).tr o4) ?_, fun q => by omega⟩
  rw [show n + 1 + 1 + 1 + 1 = n + 4 by omega] at T4
  exact T4
def tp_20 (t : Int → Int) (n v1 v2 v3 v4 v5 : Int) : Int → Int := tp_4 (tp_4 (tp_4 (tp_4 (tp_4 t n v1) (n + 4) v2) (n + 4 + 4) v3) (n + 4 + 4 + 4) v4) (n + 4 + 4 + 4 + 4) v5
theorem tp_ok20 {v1 v2 v3 v4 v5 : Int} (h : tp_ok n t) (h1 : n + 20 ≤ 300) : tp_ok (n + 20) (tp_20 t n v1 v2 v3 v4 v5) := by
  have := tp_ok4 (v := v5) (tp_ok4 (v := v4) (tp_ok4 (v := v3) (tp_ok4 (v := v2) (tp_ok4 (v := v1) h (by omega)) (by omega)) (by omega)) (by omega)) (by omega)
  rw [show n + 4 + 4 + 4 + 4 + 4 = n + 20 by omega] at this
  exact this
theorem tX11_feed (hok : tp_ok n t) (hT : tp_C M n t) {v1 v2 v3 v4 v5 : Int} (h1 : 300 < n + 20 → K (-1) M) (h2 : n + 20 ≤ 300 → ∀ M', ow_of [1] [(0, 6)] M M' → tp_C M' (n + 20) (tp_20 t n v1 v2 v3 v4 v5) → K (n + 20) M') : ow_Sp C (EM A L N) (d + 1) mX11_feed (0, 0) [(3, 0), (0, v1), (0, v2), (0, v3), (0, v4), (0, v5)] M K := by
  have hn := hok.2.1
  have hn0 := hok.1
  refine fX11_feed ?_
  rw [hT.1]
  refine ⟨⟨by omega, by omega⟩, fun q => ?_, fun q => h1 q⟩
  refine tX11_append hok hT (by omega) (fun M1 o1 T1 => ?_)
  have k1 := tp_ok4 (v := v1) hok (by omega)
  refine tX11_append k1 T1 (by omega) (fun M2 o2 T2 => ?_)
  have k2 := tp_ok4 (v := v2) k1 (by omega)
  refine tX11_append k2 T2 (by omega) (fun M3 o3 T3 => ?_)
  have k3 := tp_ok4 (v := v3) k2 (by omega)
  refine tX11_append k3 T3 (by omega) (fun M4 o4 T4 => ?_)
  have k4 := tp_ok4 (v := v4) k3 (by omega)
  refine tX11_append k4 T4 (by omega) (fun M5 o5 T5 => ?_)
  rw [show n + 4 + 4 + 4 + 4 + 4 = n + 20 by omega] at T5
  rw [T5.1]
  exact h2 q M5 ((((o1.tr o2).tr o3).tr o4).tr o5) T5
theorem tX12_feed (hok : tp_ok n t) (hT : tp_M M n t) {v1 v2 v3 v4 v5 : Int} (h1 : 300 < n + 20 → K (-1) M) (h2 : n + 20 ≤ 300 → ∀ M', ow_of [87] [(83, 7)] M M' → tp_M M' (n + 20) (tp_20 t n v1 v2 v3 v4 v5) → K (n + 20) M') : ow_Sp C (EM A L N) (d + 1) mX12_feed (0, 0) [(3, 83), (0, v1), (0, v2), (0, v3), (0, v4), (0, v5)] M K := by
  have hn := hok.2.1
  have hn0 := hok.1
  refine fX12_feed ?_
  rw [hT.1]
  refine ⟨⟨by omega, by omega⟩, fun q => ?_, fun q => h1 q⟩
  refine tX12_four hok hT (by omega) (fun M1 o1 T1 => ?_)
  have k1 := tp_ok4 (v := v1) hok (by omega)
  refine tX12_four k1 T1 (by omega) (fun M2 o2 T2 => ?_)
  have k2 := tp_ok4 (v := v2) k1 (by omega)
  refine tX12_four k2 T2 (by omega) (fun M3 o3 T3 => ?_)
  have k3 := tp_ok4 (v := v3) k2 (by omega)
  refine tX12_four k3 T3 (by omega) (fun M4 o4 T4 => ?_)
  have k4 := tp_ok4 (v := v4) k3 (by omega)
  refine tX12_four k4 T4 (by omega) (fun M5 o5 T5 => ?_)
  rw [show n + 4 + 4 + 4 + 4 + 4 = n + 20 by omega] at T5
  rw [T5.1]
  exact h2 q M5 ((((o1.tr o2).tr o3).tr o4).tr o5) T5
theorem tX11_end (hT : tp_C M n t) {x : Int} (h1 : ¬ (0 ≤ x ∧ x ≤ n) → K (-1) M) (h2 : 0 ≤ x → x ≤ n → ∀ M', ow_of [] [(0, 6)] M M' → tp_C M' x t → K x M') : ow_Sp C (EM A L N) d mX11_end (0, 0) [(3, 0), (0, x)] M K := by
  refine fX11_end ?_
  rw [hT.1]
  refine ⟨fun q => h1 (by omega), fun q => ⟨fun q2 => ?_, fun q2 => h1 (by omega)⟩⟩
  intro N1 e1
  refine h2 q q2 N1 (by rw [e1]; exact ow_of.rf.uf (by decide)) ⟨by rw [e1, ow_upS], fun i i0 i1 => ?_⟩
  rw [e1, ow_upN (Or.inl (by decide))]
  exact hT.2 i i0 (by omega)
theorem tX12_end (hT : tp_M M n t) {x : Int} (h1 : ¬ (0 ≤ x ∧ x ≤ n) → K (-1) M) (h2 : 0 ≤ x → x ≤ n → ∀ M', ow_of [] [(83, 7)] M M' → tp_M M' x t → K x M') : ow_Sp C (EM A L N) (d + 1) mX12_end (0, 0) [(3, 83), (0, x)] M K := by
  refine fX12_end ?_
  rw [hT.1]
  refine tX12_isIn (fun q => ⟨fun z => absurd rfl z, fun _ => h1 q⟩) (fun q => ⟨fun _ => ?_, fun z => absurd z (by decide)⟩)
  intro N1 e1
  refine h2 q.1 q.2 N1 (by rw [e1]; exact ow_of.rf.uf (by decide)) ⟨by rw [e1, ow_upS], fun i i0 i1 => ?_⟩
  rw [e1, ow_upN (Or.inl (by decide))]
  exact hT.2 i i0 (by omega)
end TPS
