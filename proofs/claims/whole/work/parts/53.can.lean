/-! ===== findCan ===== -/
section CAS
variable {C : ow_C} {A L N : Int} {d : Nat} {M T : ow_M} {K : Int → ow_M → Prop}
def ca_row (A L N : Int) (T M : ow_M) (into n hand : Int) : Prop := ∀ w b, 0 ≤ w → w < N → 0 ≤ b → b ≤ L → (M 95 (2304 * hand + 9 * w + b) ≠ 0 ↔ td A L T into n n hand w b)
theorem tX12_findCan (h : em_ok A L N) (hm : mc_ok M T) {into n : Int} (hi : 0 ≤ into ∧ into < N) (hn : 0 ≤ n ∧ n ≤ 8) (hK : ∀ M', ow_off [89, 90, 91, 92, 95] M M' → mc_ok M' T → (∀ hand, 0 ≤ hand → hand ≤ n → ca_row A L N T M' into n hand) → K 0 M') : ow_Sp C (EM A L N) (d + 7) mX12_findCan (0, 0) [(3, 83), (0, into), (0, n)] M K := by
  have hL := h.2.2.2.1
  have hL3 := h.2.2.1
  have hN := em_Npos h
  have hN2 := h.2.2.2.2.2
  have hands : ∀ s0, ow_off [89, 90, 91, 92, 95] M s0 → mc_ok s0 T → ca_row A L N T s0 into n n → ow_At C (EM A L N) (d + 7) mX12_findCan 44 [(0, (3, 83)), (3, (0, n - 1))] [] (0, 0) s0 K := by
    intro s0 os0 ms0 ts0
    refine ow_dnto (S := ow_M) (P := fun i s => ow_At C (EM A L N) (d + 7) mX12_findCan 44 [(0, (3, 83)), (3, (0, i))] [] (0, 0) s K) (I := fun i s => i < n ∧ ow_off [89, 90, 91, 92, 95] M s ∧ mc_ok s T ∧ ∀ hand, i < hand → 0 ≤ hand → hand ≤ n → ca_row A L N T s into n hand) (fun s hI => ?_) (fun i s i0 hI ih => ?_) (n - 1) s0 (by omega) ⟨by omega, os0, ms0, fun hand h1 h2 h3 => by rw [show hand = n by omega]; exact ts0⟩
    · obtain ⟨_, i2, i3, i4⟩ := hI
      exact cX12_findCan_44 ⟨fun _ => hK s i2 i3 (fun hand h1 h2 => i4 hand (by omega) h1 h2), fun q => by omega⟩
    · obtain ⟨i1, i2, i3, i4⟩ := hI
      refine cX12_findCan_44 ⟨fun q => by omega, fun _ => ?_⟩
      refine ow_upto (S := ow_M) (P := fun w s => ow_At C (EM A L N) (d + 7) mX12_findCan 51 [(0, (3, 83)), (3, (0, i)), (4, (0, w))] [] (0, 0) s K) (I := fun w t => 0 ≤ w ∧ ow_off [89, 90, 91, 92, 95] M t ∧ mc_ok t T ∧ (∀ hand, i < hand → 0 ≤ hand → hand ≤ n → ca_row A L N T t into n hand) ∧ ∀ x b, 0 ≤ x → x < w → 0 ≤ b → b ≤ L → (t 95 (2304 * i + 9 * x + b) ≠ 0 ↔ td A L T into n n i x b)) N (fun t hI => ?_) (fun w t w1 hI ih2 => ?_) 0 s (by omega) ⟨by omega, i2, i3, i4, fun x b x0 x1 => by omega⟩
      · obtain ⟨_, j2, j3, j4, j5⟩ := hI
        refine cX12_findCan_51 ⟨fun _ => ⟨⟨by omega, by omega⟩, ih t ⟨by omega, j2, j3, fun hand h1 h2 h3 => ?_⟩⟩, fun q => by omega⟩
        by_cases e : hand = i
        · rw [e]; exact fun x b x0 x1 b0 b1 => j5 x b x0 x1 b0 b1
        · exact j4 hand (by omega) h2 h3
      · obtain ⟨w0, j2, j3, j4, j5⟩ := hI
        refine cX12_findCan_51 ⟨fun q => by omega, fun _ => ?_⟩
        refine ow_upto (S := ow_M) (P := fun b s => ow_At C (EM A L N) (d + 7) mX12_findCan 63 [(0, (3, 83)), (3, (0, i)), (4, (0, w)), (5, (0, b))] [] (0, 0) s K) (I := fun b t => 0 ≤ b ∧ ow_off [89, 90, 91, 92, 95] M t ∧ mc_ok t T ∧ (∀ hand, i < hand → 0 ≤ hand → hand ≤ n → ca_row A L N T t into n hand) ∧ (∀ x b, 0 ≤ x → x < w → 0 ≤ b → b ≤ L → (t 95 (2304 * i + 9 * x + b) ≠ 0 ↔ td A L T into n n i x b)) ∧ ∀ k, 0 ≤ k → k < b → (t 95 (2304 * i + 9 * w + k) ≠ 0 ↔ td A L T into n n i w k)) (L + 1) (fun t hI => ?_) (fun b t b1 hI ih3 => ?_) 0 t (by omega) ⟨by omega, j2, j3, j4, j5, fun k k0 k1 => by omega⟩
        · obtain ⟨_, l2, l3, l4, l5, l6⟩ := hI
          refine cX12_findCan_63 ⟨fun _ => ⟨⟨by omega, by omega⟩, ih2 t ⟨by omega, l2, l3, l4, fun x b x0 x1 b0 b1 => ?_⟩⟩, fun q => by omega⟩
          by_cases e : x = w
          · rw [e]; exact l6 b b0 (by omega)
          · exact l5 x b x0 (by omega) b0 b1
        · obtain ⟨b0, l2, l3, l4, l5, l6⟩ := hI
          have ts := td_step (T := T) h (into := into) (least := n) (most := n) (hand := i) (w := w) (b := b) (by omega)
          have fin : ∀ v M1, ow_off [89, 90, 91, 92] t M1 → mc_ok M1 T → (v = 0 ∨ v = 1) → (v ≠ 0 ↔ td A L T into n n i w b) → (0 ≤ 2304 * i + 9 * w + b ∧ 2304 * i + 9 * w + b < 20736) ∧ (v = 0 ∨ v = 1) ∧ ∀ N2, N2 = ow_up M1 95 (2304 * i + 9 * w + b) v → ow_I (b + 1) ∧ ow_At C (EM A L N) (d + 7) mX12_findCan 63 [(0, (3, 83)), (3, (0, i)), (4, (0, w)), (5, (0, b + 1))] [] (0, 0) N2 K := by
            intro v M1 o1 m1 v01 hv
            refine ⟨⟨by omega, by omega⟩, v01, fun N2 e2 => ⟨⟨by omega, by omega⟩, ih3 N2 ⟨by omega, ?_, ?_, fun hand h1 h2 h3 x k x0 x1 k0 k1 => ?_, fun x k x0 x1 k0 k1 => ?_, fun k k0 k1 => ?_⟩⟩⟩
            · rw [e2]; exact (l2.tr (o1.mono (fun c hc => by simp at hc; rcases hc with e | e | e | e <;> subst e <;> decide))).up (by decide)
            · have o3 : ow_of [95] [] M1 N2 := by rw [e2]; exact ow_of.rf.up (by decide)
              exact m1.fr o3 (by decide) (by decide) (by decide) (by decide) (by decide) (by decide) (by decide) (by decide) (by decide)
            · rw [e2, ow_upN (Or.inr (by omega)), o1 95 (by decide)]; exact l4 hand h1 h2 h3 x k x0 x1 k0 k1
            · rw [e2, ow_upN (Or.inr (by omega)), o1 95 (by decide)]; exact l5 x k x0 x1 k0 k1
            · by_cases e : k = b
              · rw [e, e2, ow_upS]; exact hv
              · rw [e2, ow_upN (Or.inr (by omega)), o1 95 (by decide)]; exact l6 k k0 (by omega)
          refine cX12_findCan_63 ⟨fun q => by omega, fun _ => ⟨⟨by omega, by omega⟩, ⟨by omega, by omega⟩, ⟨by omega, by omega⟩, ⟨by omega, by omega⟩, tX12_isLed (T := T) (Q := fun x k => td A L T into n n (i + 1) x k) h l3 ⟨i0, by omega⟩ ⟨w0, w1⟩ ⟨b0, by omega⟩ (fun x k x0 x1 k0 k1 => l4 (i + 1) (by omega) (by omega) (by omega) x k x0 x1 (by omega) k1) (fun hex M1 o1 m1 => fin 1 M1 o1 m1 (Or.inr rfl) ⟨fun _ => ts.2 (Or.inr ⟨i1, hex⟩), fun _ => by decide⟩) (fun hno M1 o1 m1 => fin 0 M1 o1 m1 (Or.inl rfl) ⟨fun z => absurd rfl z, fun z => ?_⟩)⟩⟩
          rcases ts.1 z with q | q
          · omega
          · exact absurd q.2 hno
  refine fX12_findCan ?_
  refine ow_upto (S := ow_M) (P := fun k s => ow_At C (EM A L N) (d + 7) mX12_findCan 2 [(0, (3, 83)), (1, (0, into)), (2, (0, n)), (3, (0, k))] [] (0, 0) s K) (I := fun k s => 0 ≤ k ∧ ow_off [95] M s ∧ ∀ x, 0 ≤ x → x < k → (s 95 (2304 * n + x) ≠ 0 ↔ x / 9 = into)) 2304 (fun s hI => ?_) (fun k s k1 hI ih => ?_) 0 M (by omega) ⟨by omega, ow_off.rf, fun x x0 x1 => by omega⟩
  · obtain ⟨_, i2, i3⟩ := hI
    refine cX12_findCan_2 ⟨fun _ => ⟨⟨by omega, by omega⟩, hands s (i2.mono (fun c hc => by simp at hc; subst hc; decide)) (hm.fr (ow_of.off i2) (by decide) (by decide) (by decide) (by decide) (by decide) (by decide) (by decide) (by decide) (by decide)) (fun w b w0 w1 b0 b1 => ?_)⟩, fun q => by omega⟩
    rw [Int.add_assoc, i3 (9 * w + b) (by omega) (by omega), td_step h (Int.le_refl n)]
    refine ⟨fun z => Or.inl ⟨Int.le_refl n, by omega⟩, fun z => ?_⟩
    rcases z with z | z
    · omega
    · omega
  · obtain ⟨k0, i2, i3⟩ := hI
    have nx : ∀ v, (v ≠ 0 ↔ k / 9 = into) → ∀ N1, N1 = ow_up s 95 (2304 * n + k) v → ow_I (k + 1) ∧ ow_At C (EM A L N) (d + 7) mX12_findCan 2 [(0, (3, 83)), (1, (0, into)), (2, (0, n)), (3, (0, k + 1))] [] (0, 0) N1 K := by
      intro v hv N1 e1
      refine ⟨⟨by omega, by omega⟩, ih N1 ⟨by omega, by rw [e1]; exact i2.up (by decide), fun x x0 x1 => ?_⟩⟩
      by_cases e : x = k
      · rw [e, e1, ow_upS]; exact hv
      · rw [e1, ow_upN (Or.inr (by omega))]; exact i3 x x0 (by omega)
    refine cX12_findCan_2 ⟨fun q => by omega, fun _ => ?_⟩
    rw [em_tdiv k0]
    exact ⟨⟨by omega, by omega⟩, ⟨by omega, by omega⟩, by decide, ⟨by omega, by omega⟩, fun q => ⟨⟨by omega, by omega⟩, nx 0 ⟨fun z => absurd rfl z, fun z => absurd z q⟩⟩, fun q => ⟨⟨by omega, by omega⟩, nx 1 ⟨fun _ => q, fun _ => by decide⟩⟩⟩
end CAS
