/-! ===== rows whose value is named ===== -/
section OWZ
variable {C : ow_C} {E : ow_E} {d : Nat} {y : ow_Y} {pc pc' ix k j t : Nat} {lv : List (Nat × ow_V)} {st : List ow_V} {b : Nat × Nat} {M : ow_M} {K : Int → ow_M → Prop} {x i ji val : Int}
theorem ow_getf3 (hd : decode y.2.1 pc = .ok (.getfield ix, 3)) (hf : ow_fl y.1.cls ix k j) (ht : ow_pt (ow_tg k j) = t) (hj : (j : Int) = ji) (hp : pc + 3 = pc') (hO : ow_O E M x k) (hv : ow_gv E M x ji = val) (kk : ow_At C E d y pc' lv ((t, val) :: st) b M K) : ow_At C E d y pc lv ((3, x) :: st) b M K := by
  subst hv
  exact ow_getf2 hd hf ht hj hp hO kk
theorem ow_iaload3 (hd : decode y.2.1 pc = .ok (.iaload, 1)) (hp : pc + 1 = pc') (hR : ow_R E M x 100 i) (hv : ow_gv E M x i = val) (kk : ow_At C E d y pc' lv ((0, val) :: st) b M K) : ow_At C E d y pc lv ((0, i) :: (3, x) :: st) b M K := by
  subst hv
  exact ow_iaload hd hp hR kk
theorem ow_laload3 (hd : decode y.2.1 pc = .ok (.laload, 1)) (hp : pc + 1 = pc') (hR : ow_R E M x 101 i) (hv : ow_gv E M x i = val) (kk : ow_At C E d y pc' lv ((1, val) :: st) b M K) : ow_At C E d y pc lv ((0, i) :: (3, x) :: st) b M K := by
  subst hv
  exact ow_laload hd hp hR kk
theorem ow_baload3 (hd : decode y.2.1 pc = .ok (.baload, 1)) (hp : pc + 1 = pc') (hR : ow_R E M x 102 i) (hv : ow_gv E M x i = val) (kk : ow_At C E d y pc' lv ((0, val) :: st) b M K) : ow_At C E d y pc lv ((0, i) :: (3, x) :: st) b M K := by
  subst hv
  exact ow_baload hd hp hR kk
theorem ow_aaload3 (hd : decode y.2.1 pc = .ok (.aaload, 1)) (ht : (Nat.beq t 103 || Nat.beq t 104) = true) (hp : pc + 1 = pc') (hR : ow_R E M x t i) (hv : ow_gv E M x i = val) (kk : ow_At C E d y pc' lv ((3, val) :: st) b M K) : ow_At C E d y pc lv ((0, i) :: (3, x) :: st) b M K := by
  subst hv
  exact ow_aaload hd ht hp hR kk
theorem ow_alen3 (hd : decode y.2.1 pc = .ok (.arraylength, 1)) (ht : (Nat.ble 100 t && Nat.ble t 104) = true) (hp : pc + 1 = pc') (h0 : 0 ≤ x) (h1 : x < ow_nb E M) (h2 : (E.2.1 x).1 = t) (hv : (E.2.1 x).2 = val) (h3 : 0 ≤ val) (h4 : val ≤ 2147483647) (kk : ow_At C E d y pc' lv ((0, val) :: st) b M K) : ow_At C E d y pc lv ((3, x) :: st) b M K := by
  subst hv
  exact ow_alen hd ht hp h0 h1 h2 h3 h4 kk
end OWZ
