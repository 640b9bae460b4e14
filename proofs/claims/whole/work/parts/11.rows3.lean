/-! ===== the rows as the printed blocks take them ===== -/
section OWW
variable {C : ow_C} {E : ow_E} {d : Nat} {y z : ow_Y} {pc pc' tg ix n k j t : Nat} {lv lv' : List (Nat × ow_V)} {st stk vs : List ow_V} {b b1 b2 : Nat × Nat} {M : ow_M} {K : Int → ow_M → Prop} {x v i ji : Int}
theorem ow_getf2 (hd : decode y.2.1 pc = .ok (.getfield ix, 3)) (hf : ow_fl y.1.cls ix k j) (ht : ow_pt (ow_tg k j) = t) (hj : (j : Int) = ji) (hp : pc + 3 = pc') (hO : ow_O E M x k) (kk : ow_At C E d y pc' lv ((t, ow_gv E M x ji) :: st) b M K) : ow_At C E d y pc lv ((3, x) :: st) b M K := by
  subst hj
  exact ow_getf hd hf ht hp hO kk
theorem ow_rgz (ht : ow_pt (ow_tg k j) = t) (hz : ow_tg k j = 2 → v = 0 ∨ v = 1) (h : ow_rg (t, v)) : ow_rg (ow_tg k j, v) := by
  subst ht
  by_cases e : ow_tg k j = 2
  · rw [e]; exact hz e
  · have e2 : ow_pt (ow_tg k j) = ow_tg k j := by
      generalize ow_tg k j = q at e ⊢
      unfold ow_pt
      split
      · exact absurd rfl e
      · rfl
    rw [e2] at h
    exact h
theorem ow_putf2 (hd : decode y.2.1 pc = .ok (.putfield ix, 3)) (hf : ow_fl y.1.cls ix k j) (hfi : ow_fin k j = false) (ht : ow_pt (ow_tg k j) = t) (hj : (j : Int) = ji) (hp : pc + 3 = pc') (hO : ow_O E M x k) (hn : E.1 x ji = none) (hz : ow_tg k j = 2 → v = 0 ∨ v = 1) (kk : ∀ N, N = ow_up M x ji v → ow_At C E d y pc' lv st b N K) : ow_At C E d y pc lv ((t, v) :: (3, x) :: st) b M K := by
  subst hj
  exact ow_rng (fun _ hs => ow_putf hd hf hfi ht hp hO hn (ow_rgz ht hz (ow_r1 hs)) (kk _ rfl))
theorem ow_putF2 (hd : decode y.2.1 pc = .ok (.putfield ix, 3)) (hf : ∃ r : vw_C, vwCl[k]? = some r ∧ j < r.2.2 ∧ (r.2.1 j).1 = r.1 ∧ y.1.cls = r.1 ∧ Cond.fieldLink y.1.cls ix r.1 (r.2.1 j).2.1 (r.2.1 j).2.2.1 ∈ ow_gt) (hini : y.1.name = "<init>") (hfi : ow_fin k j = true) (ht : ow_pt (ow_tg k j) = t) (hj : (j : Int) = ji) (hp : pc + 3 = pc') (hO : ow_O E M x k) (hn : E.1 x ji = none) (hz : ow_tg k j = 2 → v = 0 ∨ v = 1) (kk : ∀ N, N = ow_up M x ji v → ow_At C E d y pc' lv st b N K) : ow_At C E d y pc lv ((t, v) :: (3, x) :: st) b M K := by
  subst hj
  exact ow_rng (fun _ hs => ow_putF hd hf hini hfi ht hp hO hn (ow_rgz ht hz (ow_r1 hs)) (kk _ rfl))
theorem ow_iastore2 (hd : decode y.2.1 pc = .ok (.iastore, 1)) (hp : pc + 1 = pc') (hR : ow_R E M x 100 i) (hn : E.1 x i = none) (kk : ∀ N, N = ow_up M x i v → ow_At C E d y pc' lv st b N K) : ow_At C E d y pc lv ((0, v) :: (0, i) :: (3, x) :: st) b M K := ow_iastore hd hp hR hn (kk _ rfl)
theorem ow_lastore2 (hd : decode y.2.1 pc = .ok (.lastore, 1)) (hp : pc + 1 = pc') (hR : ow_R E M x 101 i) (hn : E.1 x i = none) (kk : ∀ N, N = ow_up M x i v → ow_At C E d y pc' lv st b N K) : ow_At C E d y pc lv ((1, v) :: (0, i) :: (3, x) :: st) b M K := ow_lastore hd hp hR hn (kk _ rfl)
theorem ow_bastore2 (hd : decode y.2.1 pc = .ok (.bastore, 1)) (hp : pc + 1 = pc') (hR : ow_R E M x 102 i) (hn : E.1 x i = none) (hg : v = 0 ∨ v = 1) (kk : ∀ N, N = ow_up M x i v → ow_At C E d y pc' lv st b N K) : ow_At C E d y pc lv ((0, v) :: (0, i) :: (3, x) :: st) b M K := ow_bastore hd hp hR hn hg (kk _ rfl)
theorem ow_aastore2 (hd : decode y.2.1 pc = .ok (.aastore, 1)) (hp : pc + 1 = pc') (hR : ow_R E M x 103 i) (hn : E.1 x i = none) (hO : ow_O E M v 7) (kk : ∀ N, N = ow_up M x i v → ow_At C E d y pc' lv st b N K) : ow_At C E d y pc lv ((3, v) :: (0, i) :: (3, x) :: st) b M K := ow_aastore hd hp hR hn hO (kk _ rfl)
theorem ow_copy2 {a0 sp a dp n : Int} (hd : decode y.2.1 pc = .ok (.invokestatic ix, 3)) (hl : Cond.methodLink y.1.cls ix arraycopyName ∈ ow_gt) (h1 : Cond.native arraycopyName ∈ ow_gt) (h2 : Cond.static arraycopyName ∈ ow_gt) (h3 : Cond.initialized "java/lang/System" ∈ ow_gt) (hw : Nat.ble (ow_sw st) 8 = true) (hp : pc + 3 = pc') (hN : E.2.2 ≠ none)
    (ha0 : 0 ≤ a0 ∧ a0 < ow_nb E M ∧ (E.2.1 a0).1 = 100 ∧ 0 ≤ sp ∧ 0 ≤ n ∧ sp + n ≤ (E.2.1 a0).2) (ha : 0 ≤ a ∧ a < ow_nb E M ∧ (E.2.1 a).1 = 100 ∧ 0 ≤ dp ∧ dp + n ≤ (E.2.1 a).2) (hn : ∀ i, E.1 a i = none)
    (kk : ∀ N, N = ow_cp E M a0 sp a dp n → ow_At C E (d + 1) y pc' lv st b N K) : ow_At C E (d + 1) y pc lv ((0, n) :: (0, dp) :: (3, a) :: (0, sp) :: (3, a0) :: st) b M K := ow_copy hd hl h1 h2 h3 hw hp hN ha0 ha hn (kk _ rfl)
theorem ow_new2 (hd : decode y.2.1 pc = .ok (.new ix, 3)) (hr9 : ∃ r : vw_C, vwCl[k]? = some r ∧ Cond.classLink y.1.cls ix r.1 ∈ ow_gt ∧ Cond.instantiable r.1 r.2.2 ∈ ow_gt ∧ Cond.initialized r.1 ∈ ow_gt) (hp : pc + 3 = pc') (hE : E.2.2 = none) (hF : ∀ c i, E.1 c i = none) (hT : E.2.1 (M (-1) 0) = (k, (ow_nf k : Int))) (h8 : M (-1) 0 < 800) (hb : b = (1 + b2.1, ow_nf k + b2.2))
    (kk : ∀ q N, q = M (-1) 0 → N = ow_mk1 M (ow_df k) → ow_At C E d y pc' lv ((3, q) :: st) b2 N K) : ow_At C E d y pc lv st b M K := ow_new hd hr9 hp hE hF hT h8 hb (kk _ _ rfl rfl)
theorem ow_newi2 {nn : Int} {N : Nat} (hd : decode y.2.1 pc = .ok (.newarray .int, 2)) (hw : Cond.arrayClass .int ∈ ow_gt) (hp : pc + 2 = pc') (hE : E.2.2 = none) (hF : ∀ c i, E.1 c i = none) (hT : E.2.1 (M (-1) 0) = (100, nn)) (h8 : M (-1) 0 < 800) (hn0 : 0 ≤ nn) (hnN : nn ≤ N) (hN : Nat.ble N 100000 = true) (hb : b = (1 + b2.1, N + b2.2))
    (kk : ∀ q N, q = M (-1) 0 → N = ow_mk1 M (fun _ => 0) → ow_At C E d y pc' lv ((3, q) :: st) b2 N K) : ow_At C E d y pc lv ((0, nn) :: st) b M K := ow_newi hd hw hp hE hF hT h8 hn0 hnN hN hb (kk _ _ rfl rfl)
theorem ow_newj2 {nn : Int} {N : Nat} (hd : decode y.2.1 pc = .ok (.newarray .long, 2)) (hw : Cond.arrayClass .long ∈ ow_gt) (hp : pc + 2 = pc') (hE : E.2.2 = none) (hF : ∀ c i, E.1 c i = none) (hT : E.2.1 (M (-1) 0) = (101, nn)) (h8 : M (-1) 0 < 800) (hn0 : 0 ≤ nn) (hnN : nn ≤ N) (hN : Nat.ble N 100000 = true) (hb : b = (1 + b2.1, N + b2.2))
    (kk : ∀ q N, q = M (-1) 0 → N = ow_mk1 M (fun _ => 0) → ow_At C E d y pc' lv ((3, q) :: st) b2 N K) : ow_At C E d y pc lv ((0, nn) :: st) b M K := ow_newj hd hw hp hE hF hT h8 hn0 hnN hN hb (kk _ _ rfl rfl)
theorem ow_newz2 {nn : Int} {N : Nat} (hd : decode y.2.1 pc = .ok (.newarray .boolean, 2)) (hw : Cond.arrayClass .boolean ∈ ow_gt) (hp : pc + 2 = pc') (hE : E.2.2 = none) (hF : ∀ c i, E.1 c i = none) (hT : E.2.1 (M (-1) 0) = (102, nn)) (h8 : M (-1) 0 < 800) (hn0 : 0 ≤ nn) (hnN : nn ≤ N) (hN : Nat.ble N 100000 = true) (hb : b = (1 + b2.1, N + b2.2))
    (kk : ∀ q N, q = M (-1) 0 → N = ow_mk1 M (fun _ => 0) → ow_At C E d y pc' lv ((3, q) :: st) b2 N K) : ow_At C E d y pc lv ((0, nn) :: st) b M K := ow_newz hd hw hp hE hF hT h8 hn0 hnN hN hb (kk _ _ rfl rfl)
theorem ow_newt2 {nn : Int} {N : Nat} (hd : decode y.2.1 pc = .ok (.anewarray ix, 3)) (hw : Cond.classLink y.1.cls ix "OneLetterWrong$Text" ∈ ow_gt) (hp : pc + 3 = pc') (hE : E.2.2 = none) (hF : ∀ c i, E.1 c i = none) (hT : E.2.1 (M (-1) 0) = (103, nn)) (h8 : M (-1) 0 < 800) (hn0 : 0 ≤ nn) (hnN : nn ≤ N) (hN : Nat.ble N 100000 = true) (hb : b = (1 + b2.1, N + b2.2))
    (kk : ∀ q N, q = M (-1) 0 → N = ow_mk1 M (fun _ => -1) → ow_At C E d y pc' lv ((3, q) :: st) b2 N K) : ow_At C E d y pc lv ((0, nn) :: st) b M K := ow_newt hd hw hp hE hF hT h8 hn0 hnN hN hb (kk _ _ rfl rfl)
theorem ow_mna2 {n k : Int} {N Ks : Nat} (hd : decode y.2.1 pc = .ok (.multianewarray ix 2, 4)) (hcl : Cond.classLink y.1.cls ix ("[" ++ (FieldType.array .int).toString) ∈ ow_gt) (hw : Cond.arrayClass .int ∈ ow_gt) (hp : pc + 4 = pc') (hE : E.2.2 = none) (hF : ∀ c i, E.1 c i = none) (hn0 : 0 ≤ n) (hnN : n = N) (hN : Nat.ble N 100 = true) (hk0 : 0 ≤ k) (hkK : k ≤ Ks) (hKs : Nat.ble Ks 1000 = true) (hT : E.2.1 (M (-1) 0) = (104, n)) (hT2 : ∀ i, 0 ≤ i → i < n → E.2.1 (M (-1) 0 + 1 + i) = (100, k)) (h8 : M (-1) 0 + n < 800) (hb : b = (1 + N + b2.1, N + N * Ks + b2.2))
    (kk : ∀ q N, q = M (-1) 0 → N = ow_mkN M n → ow_At C E d y pc' lv ((3, q) :: st) b2 N K) : ow_At C E d y pc lv ((0, k) :: (0, n) :: st) b M K := ow_mna hd hcl hw hp hE hF hn0 hnN hN hk0 hkK hKs hT hT2 h8 hb (kk _ _ rfl rfl)
theorem ow_callVp (hd : decode y.2.1 pc = .ok (.invokevirtual ix, 3)) (hl : Cond.methodLink y.1.cls ix z.1 ∈ ow_gt) (hm : ow_mk z n) (hi : ow_mi z k) (hn : vs.length = n) (hst : vs.reverse ++ (3, x) :: st = stk) (hw : Nat.ble (ow_sw st) 8 = true) (hrt : ow_rtg z.2.2.2 = some t) (hp : pc + 3 = pc') (hb : b = (b1.1 + b2.1, b1.2 + b2.2)) (hO : ow_O E M x k)
    (h : ow_Sp C E d z b1 ((3, x) :: vs) M (fun r M' => ow_At C E (d + 1) y pc' lv ((t, r) :: st) b2 M' K)) : ow_At C E (d + 1) y pc lv stk b M K :=
  ow_callV hd hl hm hi hn hst hw hp hb hO (ow_Sp.mono h (fun r M' h => by rw [ow_ps_some hrt]; exact h))
theorem ow_callVv (hd : decode y.2.1 pc = .ok (.invokevirtual ix, 3)) (hl : Cond.methodLink y.1.cls ix z.1 ∈ ow_gt) (hm : ow_mk z n) (hi : ow_mi z k) (hn : vs.length = n) (hst : vs.reverse ++ (3, x) :: st = stk) (hw : Nat.ble (ow_sw st) 8 = true) (hrt : ow_rtg z.2.2.2 = none) (hp : pc + 3 = pc') (hb : b = (b1.1 + b2.1, b1.2 + b2.2)) (hO : ow_O E M x k)
    (h : ow_Sp C E d z b1 ((3, x) :: vs) M (fun r M' => ow_At C E (d + 1) y pc' lv st b2 M' K)) : ow_At C E (d + 1) y pc lv stk b M K :=
  ow_callV hd hl hm hi hn hst hw hp hb hO (ow_Sp.mono h (fun r M' h => by rw [ow_ps_none hrt]; exact h))
theorem ow_callSp (hd : decode y.2.1 pc = .ok (.invokestatic ix, 3)) (hl : Cond.methodLink y.1.cls ix z.1 ∈ ow_gt) (hm : ow_mk z n) (hi : Cond.static z.1 ∈ ow_gt) (hn : vs.length = n) (hst : vs.reverse ++ st = stk) (hw : Nat.ble (ow_sw st) 8 = true) (hrt : ow_rtg z.2.2.2 = some t) (hp : pc + 3 = pc') (hb : b = (b1.1 + b2.1, b1.2 + b2.2))
    (h : ow_Sp C E d z b1 vs M (fun r M' => ow_At C E (d + 1) y pc' lv ((t, r) :: st) b2 M' K)) : ow_At C E (d + 1) y pc lv stk b M K :=
  ow_callS hd hl hm hi hn hst hw hp hb (ow_Sp.mono h (fun r M' h => by rw [ow_ps_some hrt]; exact h))
theorem ow_callSv (hd : decode y.2.1 pc = .ok (.invokestatic ix, 3)) (hl : Cond.methodLink y.1.cls ix z.1 ∈ ow_gt) (hm : ow_mk z n) (hi : Cond.static z.1 ∈ ow_gt) (hn : vs.length = n) (hst : vs.reverse ++ st = stk) (hw : Nat.ble (ow_sw st) 8 = true) (hrt : ow_rtg z.2.2.2 = none) (hp : pc + 3 = pc') (hb : b = (b1.1 + b2.1, b1.2 + b2.2))
    (h : ow_Sp C E d z b1 vs M (fun r M' => ow_At C E (d + 1) y pc' lv st b2 M' K)) : ow_At C E (d + 1) y pc lv stk b M K :=
  ow_callS hd hl hm hi hn hst hw hp hb (ow_Sp.mono h (fun r M' h => by rw [ow_ps_none hrt]; exact h))
theorem ow_callTp (hd : decode y.2.1 pc = .ok (.invokevirtual ix, 3)) (hl : Cond.methodLink y.1.cls ix z.1 ∈ ow_gt) (hm : ow_mk z n) (hi1 : Cond.instanceMethod z.1 ∈ ow_gt) (hi2 : Cond.selects z.1.cls z.1 z.1 ∈ ow_gt) (hzc : z.1.cls = "java/lang/String") (hk : k < 16) (hn : vs.length = n) (hst : vs.reverse ++ (3, 1000 + (k : Int)) :: st = stk) (hw : Nat.ble (ow_sw st) 8 = true) (hrt : ow_rtg z.2.2.2 = some t) (hp : pc + 3 = pc') (hb : b = (b1.1 + b2.1, b1.2 + b2.2))
    (h : ow_Sp C E d z b1 ((3, 1000 + (k : Int)) :: vs) M (fun r M' => ow_At C E (d + 1) y pc' lv ((t, r) :: st) b2 M' K)) : ow_At C E (d + 1) y pc lv stk b M K :=
  ow_callT hd hl hm hi1 hi2 hzc hk hn hst hw hp hb (ow_Sp.mono h (fun r M' h => by rw [ow_ps_some hrt]; exact h))
end OWW
