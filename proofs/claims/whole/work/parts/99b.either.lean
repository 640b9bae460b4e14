/-! ===== what may be done, by the reference ===== -/
section RFW
variable {C : ow_C} {A L N : Int} {d : Nat} {n : Int} {t : Int → Int} {m r : Int}
theorem isOr {i : Int} {s : ow_M} (h : rf n t s i) : (s 83 12 = 2 ∧ ow_lcmp (s 83 14) 28530 = 0) ↔ nx n t i = 11 := by
  have w := rf_w h (k := 11) (by decide)
  rw [wcs2.2.2.2.2.2.1] at w
  rw [ow_lcmp0]
  exact w
theorem tX12_either (hp : tp_ok n t) (hm : te_ok n t m) (hr : 0 ≤ r ∧ r < 4) {M : ow_M} {K : Int → ow_M → Prop} {i f j : Int} {E E' : pm_E} (h : rr n t r M i E) (ho : M 83 21 = 0) (h0 : 0 ≤ E.1) (hE : E.1 ≤ i) (hi : i ≤ m) (ha : mayR n t i E f j E') (hK : ∀ M', qS r M M' → rf n t M' j → (f = 0 → rr n t r M' j E' ∧ M' 83 21 = 0 ∧ j ≤ m) → K f M') : ow_Sp C (EM A L N) (d + 7) mX12_either (0, 0) [(3, 83)] M K := by
  have m3 := hm.1
  have loop : ∀ (k : Nat) (w i f j : Int) (E E' : pm_E) (s : ow_M), (w = 0 ∨ w = 1) → qS r M s → rr n t r s i E → s 83 21 = 0 → 0 ≤ E.1 → E.1 + w ≤ i → i ≤ m → mayL n t k w i E f j E' → (∀ M', qS r M M' → rf n t M' j → (f = 0 → rr n t r M' j E' ∧ M' 83 21 = 0 ∧ j ≤ m) → K f M') → ow_At C (EM A L N) (d + 7) mX12_either 35 [(0, (3, 83)), (2, (0, w))] [] (0, 0) s K := by
    intro k
    induction k with
    | zero =>
      intro w i f j E E' s hw os hs ho h0 hE hi hl hK
      obtain ⟨n11, n12, hf, hj, he⟩ := hl
      -- done
      have fin : ∀ s2, qS r M s2 → rr n t r s2 i (orE w E) → s2 83 21 = 0 → ow_At C (EM A L N) (d + 7) mX12_either 93 [(0, (3, 83)), (1, (0, 0)), (2, (0, 0)), (5, (0, 0))] [] (0, 0) s2 K := by
        intro s2 q2 g2 o2
        refine cX12_either_93 ⟨fun z => absurd rfl z, fun _ => ⟨fun _ => cX12_either_107 ⟨fun _ => cX12_either_6 ⟨fun _ => ?_, fun z => absurd rfl z⟩, fun z => absurd rfl z⟩, fun z => absurd rfl z⟩⟩
        have := hK s2 q2 (by rw [hj]; exact g2.1) (fun _ => by rw [hj, he]; exact ⟨g2, o2, hi⟩)
        rw [hf] at this; exact this
      have at73 : ow_At C (EM A L N) (d + 7) mX12_either 73 [(0, (3, 83)), (1, (0, 0)), (2, (0, w))] [(0, 0)] (0, 0) s K := by
        refine cX12_either_73 ⟨fun z => absurd rfl z, fun _ => ⟨fun z => fin s os (by unfold orE; rw [if_neg (by omega)]; exact hs) ho, fun z => ?_⟩⟩
        exact tX12_emit (v := -22) hr hs h0 (by omega) rfl rfl (fun M2 q2 s83 _ g2 => fin M2 (os.tr q2) (by unfold orE; rw [if_pos (by omega)]; exact g2) (by rw [s83 _ (by decide)]; exact ho))
      refine cX12_either_35 (wk3 (k := 12) wcs2.2.2.2.2.2.2.1 (isW hs.1 (by decide) ?_))
      rw [if_neg (show ¬ nx n t i = ((12 : Nat) : Int) from n12)]
      exact ⟨fun _ => at73, fun z => ⟨fun _ => at73, fun z2 => absurd ((isOr hs.1).1 ⟨z, z2⟩) n11⟩⟩
    | succ k ih =>
      intro w i f j E E' s hw os hs ho h0 hE hi hl hK
      rcases hl with ⟨n12, f1, j1, E1, a1, a2⟩ | ⟨n11, f1, j1, E1, a1, a2⟩
      · -- and
        have il := (nx_lt hm hi (show 0 ≤ nx n t i by omega)).1
        have at73 : ow_At C (EM A L N) (d + 7) mX12_either 73 [(0, (3, 83)), (1, (0, 1)), (2, (0, w))] [(0, 0)] (0, 0) s K := by
          refine cX12_either_73 ⟨fun _ => cX12_either_93 ⟨fun _ => cX12_either_107 ⟨fun z => absurd z (by decide), fun _ => rr_next hp hs (by omega) (fun M2 _ q2 o2 g2 => cX12_either_6 ⟨fun z => absurd z (by decide), fun _ => tX12_asks hp hm hr g2 (by rw [o2]; exact ho) h0 (by omega) (by omega) a1 (fun M3 q3 rf3 g3 => ⟨fun z => ?_, fun z => ?_⟩)⟩)⟩, fun z => absurd z (by decide)⟩, fun z => absurd z (by decide)⟩
          · obtain ⟨g4, o4, jm⟩ := g3 z
            have b1 := askR_b 8 a1 z
            rcases a2 with a2 | ⟨_, a2⟩
            · exact absurd z a2.1
            · refine ⟨fun y => absurd y (by decide), fun _ => tX12_emit (v := -21) hr g4 (by omega) (by omega) rfl rfl (fun M4 q4 s83 _ g5 => ih w j1 f j (pe E1 (-21)) E' M4 hw (os.tr (q2.tr (q3.tr q4))) g5 (by rw [s83 _ (by decide)]; exact o4) (by show 0 ≤ E1.1 + 1; omega) (by show E1.1 + 1 + w ≤ j1; omega) jm a2 hK)⟩
          · rcases a2 with a2 | a2
            · rw [← a2.2.1]; exact hK M3 (os.tr (q2.tr q3)) (by rw [a2.2.2]; exact rf3) (fun y => by omega)
            · exact absurd a2.1 z
        refine cX12_either_35 (wk3 (k := 12) wcs2.2.2.2.2.2.2.1 (isW hs.1 (by decide) ?_))
        rw [if_pos (show nx n t i = ((12 : Nat) : Int) from n12)]
        exact ⟨fun _ => at73, fun z => ⟨fun _ => at73, fun z2 => by have := (isOr hs.1).1 ⟨z, z2⟩; omega⟩⟩
      · -- or
        have il := (nx_lt hm hi (show 0 ≤ nx n t i by omega)).1
        have oE : (orE w E).1 = E.1 + w := by
          unfold orE
          rcases hw with e | e
          · rw [if_neg (by omega)]; omega
          · rw [if_pos e]; show E.1 + 1 = E.1 + w; omega
        have at93 : ∀ s2, qS r M s2 → rr n t r s2 i (orE w E) → s2 83 21 = 0 → ow_At C (EM A L N) (d + 7) mX12_either 93 [(0, (3, 83)), (1, (0, 0)), (2, (0, 1)), (5, (0, 1))] [] (0, 0) s2 K := by
          intro s2 os2 hs2 ho2
          refine cX12_either_93 ⟨fun z => absurd rfl z, fun _ => ⟨fun z => absurd z (by decide), fun _ => cX12_either_107 ⟨fun z => absurd z (by decide), fun _ => rr_next hp hs2 (by omega) (fun M2 _ q2 o2 g2 => cX12_either_6 ⟨fun z => absurd z (by decide), fun _ => tX12_asks hp hm hr g2 (by rw [o2]; exact ho2) (by omega) (by omega) (by omega) a1 (fun M3 q3 rf3 g3 => ⟨fun z => ?_, fun z => ?_⟩)⟩)⟩⟩⟩
          · obtain ⟨g4, o4, jm⟩ := g3 z
            have b1 := askR_b 8 a1 z
            rcases a2 with a2 | ⟨_, a2⟩
            · exact absurd z a2.1
            · exact ⟨fun _ => ih 1 j1 f j E1 E' M3 (Or.inr rfl) (os2.tr (q2.tr q3)) g4 o4 (by omega) (by omega) jm a2 hK, fun y => absurd rfl y⟩
          · rcases a2 with a2 | a2
            · rw [← a2.2.1]; exact hK M3 (os2.tr (q2.tr q3)) (by rw [a2.2.2]; exact rf3) (fun y => by omega)
            · exact absurd a2.1 z
        refine cX12_either_35 (wk3 (k := 12) wcs2.2.2.2.2.2.2.1 (isW hs.1 (by decide) ?_))
        rw [if_neg (show ¬ nx n t i = ((12 : Nat) : Int) from fun z => by omega)]
        have yo := (isOr hs.1).2 n11
        refine ⟨fun z => absurd yo.1 z, fun _ => ⟨fun z => absurd yo.2 z, fun _ => cX12_either_73 ⟨fun z => absurd rfl z, fun _ => ⟨fun z => ?_, fun z => ?_⟩⟩⟩⟩
        · exact at93 s os (by unfold orE; rw [if_neg (by omega)]; exact hs) ho
        · exact tX12_emit (v := -22) hr hs h0 (by omega) rfl rfl (fun M2 q2 s83 _ g2 => at93 M2 (os.tr q2) (by unfold orE; rw [if_pos (by omega)]; exact g2) (by rw [s83 _ (by decide)]; exact ho))
  obtain ⟨f1, j1, E1, a1, a2⟩ := ha
  refine fX12_either (cX12_either_6 ⟨fun z => absurd z (by decide), fun _ => tX12_asks hp hm hr h ho h0 hE hi a1 (fun M3 q3 rf3 g3 => ⟨fun z => ⟨fun _ => ?_, fun y => absurd rfl y⟩, fun z => ?_⟩)⟩)
  · obtain ⟨g4, o4, jm⟩ := g3 z
    have b1 := askR_b 8 a1 z
    rcases a2 with a2 | ⟨_, k, a2⟩
    · exact absurd z a2.1
    · exact loop k 0 j1 f j E1 E' M3 (Or.inl rfl) q3 g4 o4 (by omega) (by omega) jm a2 hK
  · rcases a2 with a2 | a2
    · rw [← a2.2.1]; exact hK M3 q3 (by rw [a2.2.2]; exact rf3) (fun y => by omega)
    · exact absurd a2.1 z
end RFW
