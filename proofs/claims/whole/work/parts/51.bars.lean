/-! ===== leads, and bars by the reference ===== -/
section BRS
variable {C : ow_C} {A L N : Int} {d : Nat} {M T : ow_M} {K : Int → ow_M → Prop}
theorem tX5_leads (h : em_ok A L N) {into least most w : Int} (ht : tc_row A L N T M into least most 0) (hw : 0 ≤ w ∧ w < N) (h1 : td A L T into least most 0 w 0 → K 1 M) (h2 : ¬ td A L T into least most 0 w 0 → K 0 M) : ow_Sp C (EM A L N) d mX5_leads (0, 0) [(3, 64), (0, w)] M K := by
  have hL := h.2.2.1
  obtain ⟨c1, c2, c3, c4⟩ := em_row (A := A) (L := L) (N := N) (M := M) (j := 0) ⟨by decide, by decide⟩
  have e := ht w 0 hw.1 hw.2 (by decide) (by omega)
  have hs := ow_and_shl (x := M (67 + 0) w) (k := 0) ⟨by decide, by decide⟩
  rw [show ow_shl 1 0 = 1 by decide] at hs
  refine fX5_leads ⟨⟨c1.1, c1.2.1, c1.2.2, hw.1, by rw [c2]; exact hw.2⟩, ?_⟩
  rw [c3]
  exact ⟨fun q => h2 (fun z => hs.2 (e.2 z) q), fun q => h1 (e.1 (hs.1 q))⟩
theorem tX12_isFree (h : em_ok A L N) {fr into n : Int} (hq : as_ok N fr into n) (hK : ∀ M', ow_of [89, 90, 91, 92, 93, 94] [(83, 27), (83, 28)] M M' → K (if 0 < bw A L tx_0 into n.toNat 0 fr 0 then 1 else 0) M') : ow_Sp C (EM A L N) (d + 8) mX12_isFree (0, 0) [(3, 83), (0, fr), (0, into), (0, n)] M K := by
  refine fX12_isFree ?_
  intro N1 e1 N2 e2
  have o2 : ow_of [89, 90, 91, 92, 93, 94] [(83, 27), (83, 28)] M N2 := by rw [e2, e1]; exact (ow_of.rf.uf (by decide)).uf (by decide)
  refine ow_upto (S := ow_M) (P := fun i s => ow_At C (EM A L N) (d + 8) mX12_isFree 13 [(0, (3, 83)), (1, (0, fr)), (2, (0, into)), (3, (0, n)), (4, (0, i))] [] (0, 0) s K) (I := fun i s => 0 ≤ i ∧ ow_off [92] N2 s ∧ ∀ x, 0 ≤ x → x < i → s 92 x = -1) 14400 (fun s hI => ?_) (fun i s i1 hI ih => ?_) 0 N2 (by omega) ⟨by omega, ow_off.rf, fun x x0 x1 => by omega⟩
  · obtain ⟨_, i2, i3⟩ := hI
    have os : ow_of [89, 90, 91, 92, 93, 94] [(83, 27), (83, 28)] M s := o2.tr ((ow_of.off i2).mono (fun c hc => by simp at hc; subst hc; decide) (fun x hx => by simp at hx))
    have m : mc_ok s tx_0 := by
      refine ⟨tx_0_fo, ⟨fun _ => ?_, fun q => absurd q (by decide)⟩, ⟨fun _ => ?_, fun q => absurd q (by decide)⟩, fun x x0 x1 => Or.inl (i3 x x0 x1)⟩
      · rw [i2 83 (by decide), e2, ow_upN (Or.inr (by decide)), e1, ow_upS]
      · rw [i2 83 (by decide), e2, ow_upS]
    refine cX12_isFree_13 ⟨fun _ => tX12_waysOf h m hq.1.1 hq.1.2 hq.2 (fun M' o' m' f' => ?_), fun q => by omega⟩
    have := hK M' (os.tr ((ow_of.off o').mono (fun c hc => hc) (fun x hx => by simp at hx)))
    have hlc := ow_lcq (a := bw A L tx_0 into n.toNat 0 fr 0) (b := 0)
    refine ⟨fun q => ?_, fun q => ?_⟩
    · rw [if_neg (by omega)] at this; exact this
    · rw [if_pos (by omega)] at this; exact this
  · obtain ⟨i0, i2, i3⟩ := hI
    refine cX12_isFree_13 ⟨fun q => by omega, fun _ => ⟨⟨i0, by omega⟩, fun N3 e3 => ⟨⟨by omega, by omega⟩, ih N3 ⟨by omega, by rw [e3]; exact i2.up (by decide), fun x x0 x1 => ?_⟩⟩⟩⟩
    by_cases e : x = i
    · rw [e, e3, ow_upS]
    · rw [e3, ow_upN (Or.inr e)]; exact i3 x x0 (by omega)
def br_v (A L : Int) (T : ow_M) (fr into n : Int) : Int := if 0 < bw A L T into n.toNat 0 fr 0 then 0 else if 0 < bw A L tx_0 into n.toNat 0 fr 0 then 2 else 1
theorem tX12_bars (h : em_ok A L N) (hc : cu_M N M T) {fr into n : Int} (h0 : ¬ as_ok N fr into n → K (-1) M) (hK : as_ok N fr into n → ∀ M', ow_of [89, 90, 91, 92, 93, 94] [(83, 27), (83, 28)] M M' → K (br_v A L T fr into n) M') : ow_Sp C (EM A L N) (d + 9) mX12_bars (0, 0) [(3, 83), (0, fr), (0, into), (0, n)] M K := by
  refine fX12_bars (tX12_areAsked h (fun q => ⟨fun z => absurd rfl z, fun _ => h0 q⟩) (fun q => ⟨fun _ => tX12_rule hc (fun M1 o1 m1 => tX12_waysOf h m1 q.1.1 q.1.2 q.2 (fun M2 o2 m2 f2 => ?_)), fun z => absurd z (by decide)⟩))
  have oo : ow_of [89, 90, 91, 92, 93, 94] [(83, 27), (83, 28)] M M2 := (o1.mono (fun c hc => by simp at hc; subst hc; decide) (fun x hx => Or.inr hx)).tr ((ow_of.off o2).mono (fun c hc => hc) (fun x hx => by simp at hx))
  have hlc := ow_lcq (a := bw A L T into n.toNat 0 fr 0) (b := 0)
  refine ⟨fun z => tX12_isFree h q (fun M3 o3 => ?_), fun z => ?_⟩
  · have := hK q M3 (oo.tr o3)
    unfold br_v at this
    rw [if_neg (by omega)] at this
    by_cases e : 0 < bw A L tx_0 into n.toNat 0 fr 0
    · rw [if_pos e] at this ⊢
      exact ⟨fun y => absurd y (by decide), fun _ => this⟩
    · rw [if_neg e] at this ⊢
      exact ⟨fun _ => this, fun y => absurd rfl y⟩
  · have := hK q M2 oo
    unfold br_v at this
    rw [if_pos (by omega)] at this
    exact this
end BRS
