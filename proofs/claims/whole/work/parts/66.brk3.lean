/-! ===== the fewest who broke the vow, by the reference ===== -/
section BM1
variable {C : ow_C} {A L N : Int} {d : Nat} {M T : ow_M} {K : Int → ow_M → Prop}
def rg_x (L N : Int) (f : Int → Int → Int) (x : Int) : Int := if x / 9 < N ∧ x % 9 ≤ L then f (x / 9) (x % 9) else 1048576
def rb_ok (L N : Int) (M : ow_M) (f : Int → Int → Int) : Prop := ∀ x, 0 ≤ x → x < 2304 → M 100 x = ph (rg_x L N f x)
def rk_ok (L N : Int) (M : ow_M) (f : Int → Int → Int) : Prop := (∀ w b, 0 ≤ w → w < N → 0 ≤ b → b ≤ L → M 100 (9 * w + b) = ph (f w b)) ∧ ∀ x, 0 ≤ x → x < 2304 → L < x % 9 → M 100 x = 1000000
def rt_ok (k : Nat) (M : ow_M) (y : Int → Int) : Prop := ∀ x, 0 ≤ x → x < 2304 → M 101 x = ph (y x) ∧ dm k (y x)
def ld_e (A L : Int) (T : ow_M) (hand w b a Z x t : Int) : Prop := ∃ z, (0 ≤ z ∧ z < Z) ∧ 0 < cw A L T hand w b z ∧ 9 * em_ch A L w (z / A) (z % A) + (z / A + 1) = x ∧ a ≤ t
theorem ph_nv : ph 1048576 = 1000000 := if_pos rfl
theorem rg_in {f : Int → Int → Int} {w b : Int} (hL : L ≤ 8) (hw : 0 ≤ w ∧ w < N) (hb : 0 ≤ b ∧ b ≤ L) : rg_x L N f (9 * w + b) = f w b := by
  unfold rg_x
  rw [show (9 * w + b) / 9 = w by omega, show (9 * w + b) % 9 = b by omega, if_pos ⟨hw.2, hb.2⟩]
theorem rg_dm {k : Nat} {f : Int → Int → Int} (hd : ∀ w b, dm k (f w b)) (x : Int) : dm k (rg_x L N f x) := by
  unfold rg_x
  split
  · exact hd _ _
  · exact Or.inr rfl
theorem tX12_least (h : em_ok A L N) {k : Nat} (hk : k ≤ 8) {f : Int → Int → Int} (hd : ∀ w b, dm k (f w b)) (hf : rb_ok L N M f) (hK : K (ph (bs_lt L N f)) M) : ow_Sp C (EM A L N) d mX12_least (0, 0) [(3, 83)] M K := by
  have hL := h.2.2.2.1
  have hN := em_Npos h
  have hN2 := h.2.2.2.2.2
  have e : ow_mn (rg_x L N f) 2304 = bs_lt L N f := by
    refine ow_le_eq (fun t => ?_)
    rw [ow_mn_le (by decide), bs_lt_le h]
    refine ⟨fun q => ?_, fun q => ?_⟩
    · rcases q with q | ⟨i, i0, i1, q⟩
      · exact Or.inl q
      · unfold rg_x at q
        by_cases e : i / 9 < N ∧ i % 9 ≤ L
        · rw [if_pos e] at q
          exact Or.inr ⟨i / 9, i % 9, ⟨by omega, e.1⟩, ⟨by omega, e.2⟩, q⟩
        · rw [if_neg e] at q; exact Or.inl q
    · rcases q with q | ⟨w, b, hw, hb, q⟩
      · exact Or.inl q
      · exact Or.inr ⟨9 * w + b, by omega, by omega, by rw [rg_in hL hw hb]; exact q⟩
  refine fX12_least ?_
  refine ow_upto (S := Int) (P := fun i s => ow_At C (EM A L N) d mX12_least 6 [(0, (3, 83)), (1, (0, s)), (2, (0, i))] [] (0, 0) M K) (I := fun i s => 0 ≤ i ∧ s = ph (ow_mn (rg_x L N f) i)) 2304 (fun s hI => ?_) (fun i s i1 hI ih => ?_) 0 1000000 (by omega) ⟨by omega, by rw [ow_mn0, ph_nv]⟩
  · refine cX12_least_6 ⟨fun _ => ?_, fun q => by omega⟩
    rw [hI.2, e]; exact hK
  · obtain ⟨i0, i2⟩ := hI
    have d1 : dm k (ow_mn (rg_x L N f) i) := ow_mn_P i0 (Or.inr rfl) (fun j _ _ => rg_dm hd j)
    have l := ph_lt hk (rg_dm (L := L) (N := N) hd i) d1
    refine cX12_least_6 ⟨fun q => by omega, fun _ => ⟨⟨i0, i1⟩, ?_⟩⟩
    rw [hf i i0 i1]
    refine ⟨fun q => ⟨⟨by omega, by omega⟩, ih s ⟨by omega, ?_⟩⟩, fun q => ⟨⟨by omega, by omega⟩, ih _ ⟨by omega, ?_⟩⟩⟩
    · have : ¬ rg_x L N f i < ow_mn (rg_x L N f) i := fun z => by have := l.2 z; omega
      rw [ow_mnS i0, show min (ow_mn (rg_x L N f) i) (rg_x L N f i) = ow_mn (rg_x L N f) i by omega]; exact i2
    · have : rg_x L N f i < ow_mn (rg_x L N f) i := l.1 (by omega)
      rw [ow_mnS i0, show min (ow_mn (rg_x L N f) i) (rg_x L N f i) = rg_x L N f i by omega]
theorem tX12_keep (h : em_ok A L N) {kn : Int} {f : Int → Int → Int} (hk : -1 ≤ kn ∧ kn < N) (hf : rk_ok L N M f) (hK : ∀ M', ow_off [100] M M' → rb_ok L N M' (fun w b => if kn = -1 ∨ w = kn then f w b else 1048576) → K 0 M') : ow_Sp C (EM A L N) d mX12_keep (0, 0) [(3, 83), (0, kn)] M K := by
  have hL := h.2.2.2.1
  refine fX12_keep ?_
  refine ow_upto (S := ow_M) (P := fun i s => ow_At C (EM A L N) d mX12_keep 2 [(0, (3, 83)), (1, (0, kn)), (2, (0, i))] [] (0, 0) s K) (I := fun i s => 0 ≤ i ∧ ow_off [100] M s ∧ ∀ x, 0 ≤ x → x < 2304 → s 100 x = if x < i ∧ (N ≤ x / 9 ∨ (kn ≠ -1 ∧ x / 9 ≠ kn)) then 1000000 else M 100 x) 2304 (fun s hI => ?_) (fun i s i1 hI ih => ?_) 0 M (by omega) ⟨by omega, ow_off.rf, fun x x0 x1 => by rw [if_neg (fun z => by omega)]⟩
  · obtain ⟨_, i2, i3⟩ := hI
    refine cX12_keep_2 ⟨fun _ => hK s i2 (fun x x0 x1 => ?_), fun q => by omega⟩
    rw [i3 x x0 x1]
    unfold rg_x
    by_cases e1 : N ≤ x / 9
    · rw [if_pos ⟨x1, Or.inl e1⟩, if_neg (fun z => by omega), ph_nv]
    · by_cases e2 : kn ≠ -1 ∧ x / 9 ≠ kn
      · rw [if_pos ⟨x1, Or.inr e2⟩]
        have e3 : ¬ (kn = -1 ∨ x / 9 = kn) := fun z => by rcases z with z | z; exact e2.1 z; exact e2.2 z
        simp only [if_neg e3]
        split <;> exact ph_nv.symm
      · rw [if_neg (fun z => by rcases z.2 with y | y; exact e1 y; exact e2 y)]
        have e3 : kn = -1 ∨ x / 9 = kn := by
          by_cases e : kn = -1
          · exact Or.inl e
          · by_cases e' : x / 9 = kn
            · exact Or.inr e'
            · exact absurd ⟨e, e'⟩ e2
        simp only [if_pos e3]
        by_cases e4 : x % 9 ≤ L
        · rw [if_pos ⟨by omega, e4⟩]
          have := hf.1 (x / 9) (x % 9) (by omega) (by omega) (by omega) e4
          rw [show 9 * (x / 9) + x % 9 = x by omega] at this
          exact this
        · rw [if_neg (fun z => e4 z.2), ph_nv]
          exact hf.2 x x0 x1 (by omega)
  · obtain ⟨i0, i2, i3⟩ := hI
    have ot : (N ≤ i / 9 ∨ (kn ≠ -1 ∧ i / 9 ≠ kn)) → ow_At C (EM A L N) d mX12_keep 32 [(0, (3, 83)), (1, (0, kn)), (2, (0, i))] [] (0, 0) s K := by
      intro hc
      refine cX12_keep_32 ⟨⟨i0, i1⟩, fun N1 e1 => ⟨⟨by omega, by omega⟩, ih N1 ⟨by omega, by rw [e1]; exact i2.up (by decide), fun x x0 x1 => ?_⟩⟩⟩
      by_cases e : x = i
      · rw [e, e1, ow_upS, if_pos ⟨by omega, hc⟩]
      · rw [e1, ow_upN (Or.inr e), i3 x x0 x1]
        have e2 : (x < i ∧ (N ≤ x / 9 ∨ (kn ≠ -1 ∧ x / 9 ≠ kn))) = (x < i + 1 ∧ (N ≤ x / 9 ∨ (kn ≠ -1 ∧ x / 9 ≠ kn))) := propext ⟨fun z => ⟨by omega, z.2⟩, fun z => ⟨by omega, z.2⟩⟩
        simp only [e2]
    have nt : ¬ (N ≤ i / 9 ∨ (kn ≠ -1 ∧ i / 9 ≠ kn)) → ow_I (i + 1) ∧ ow_At C (EM A L N) d mX12_keep 2 [(0, (3, 83)), (1, (0, kn)), (2, (0, i + 1))] [] (0, 0) s K := by
      intro hc
      refine ⟨⟨by omega, by omega⟩, ih s ⟨by omega, i2, fun x x0 x1 => ?_⟩⟩
      rw [i3 x x0 x1]
      have e2 : (x < i ∧ (N ≤ x / 9 ∨ (kn ≠ -1 ∧ x / 9 ≠ kn))) = (x < i + 1 ∧ (N ≤ x / 9 ∨ (kn ≠ -1 ∧ x / 9 ≠ kn))) := propext ⟨fun z => ⟨by omega, z.2⟩, fun z => ⟨by
        have : x ≠ i := fun y => hc (by rw [← y]; exact z.2)
        omega, z.2⟩⟩
      simp only [e2]
    refine cX12_keep_2 ⟨fun q => by omega, fun _ => ?_⟩
    rw [em_tdiv i0]
    refine ⟨by decide, ⟨by omega, by omega⟩, fun q => ot (Or.inl q), fun q => ⟨fun q2 => nt (fun z => by omega), fun q2 => ⟨by decide, ⟨by omega, by omega⟩, fun q3 => nt (fun z => by omega), fun q3 => ot (Or.inr ⟨by omega, q3⟩)⟩⟩⟩
theorem tX12_lead (h : em_ok A L N) (hm : mc_ok M T) {k : Nat} (hk : k ≤ 8) {hand w b a : Int} {y : Int → Int} (hh : 0 ≤ hand ∧ hand < 8) (hw : 0 ≤ w ∧ w < N) (hb : 0 ≤ b ∧ b ≤ L) (ha : M 100 (9 * w + b) = ph a) (da : dm k a) (hy : rt_ok k M y) (hK : ∀ M' y', ow_off [89, 90, 91, 92, 101] M M' → mc_ok M' T → rt_ok k M' y' → (∀ x, 0 ≤ x → x < 2304 → ∀ t, y' x ≤ t ↔ y x ≤ t ∨ ld_e A L T hand w b a (L * A) x t) → K 0 M') : ow_Sp C (EM A L N) (d + 6) mX12_lead (0, 0) [(3, 83), (0, hand), (0, w), (0, b)] M K := by
  have hL := h.2.2.2.1
  have hL3 := h.2.2.1
  have hA := h.2.1
  have hA1 := h.1
  have hN2 := h.2.2.2.2.2
  refine fX12_lead ⟨⟨by omega, by omega⟩, ⟨by omega, by omega⟩, ⟨by omega, by omega⟩, ?_⟩
  rw [ha]
  refine ow_upto (S := ow_M × (Int → Int)) (P := fun p s => ow_At C (EM A L N) (d + 6) mX12_lead 16 [(0, (3, 83)), (1, (0, hand)), (2, (0, w)), (3, (0, b)), (4, (0, ph a)), (5, (0, p))] [] (0, 0) s.1 K) (I := fun p s => 0 ≤ p ∧ ow_off [89, 90, 91, 92, 101] M s.1 ∧ mc_ok s.1 T ∧ rt_ok k s.1 s.2 ∧ ∀ x, 0 ≤ x → x < 2304 → ∀ t, s.2 x ≤ t ↔ y x ≤ t ∨ ld_e A L T hand w b a (p * A) x t) L (fun s hI => ?_) (fun p s p1 hI ih => ?_) 0 (M, y) (by omega) ⟨by omega, ow_off.rf, hm, hy, fun x x0 x1 t => ⟨fun q => Or.inl q, fun q => by rcases q with q | ⟨z, hz, _⟩; exact q; rw [Int.zero_mul] at hz; omega⟩⟩
  · obtain ⟨_, i2, i3, i4, i5⟩ := hI
    exact cX12_lead_16 ⟨fun _ => hK s.1 s.2 i2 i3 i4 i5, fun q => by omega⟩
  · obtain ⟨p0, i2, i3, i4, i5⟩ := hI
    refine cX12_lead_16 ⟨fun q => by omega, fun _ => ?_⟩
    refine ow_upto (S := ow_M × (Int → Int)) (P := fun c s => ow_At C (EM A L N) (d + 6) mX12_lead 28 [(0, (3, 83)), (1, (0, hand)), (2, (0, w)), (3, (0, b)), (4, (0, ph a)), (5, (0, p)), (6, (0, c))] [] (0, 0) s.1 K) (I := fun c s => 0 ≤ c ∧ ow_off [89, 90, 91, 92, 101] M s.1 ∧ mc_ok s.1 T ∧ rt_ok k s.1 s.2 ∧ ∀ x, 0 ≤ x → x < 2304 → ∀ t, s.2 x ≤ t ↔ y x ≤ t ∨ ld_e A L T hand w b a (p * A + c) x t) A (fun s hI => ?_) (fun c s c1 hI ih2 => ?_) 0 s (by omega) ⟨by omega, i2, i3, i4, by rw [Int.add_zero]; exact i5⟩
    · obtain ⟨_, j2, j3, j4, j5⟩ := hI
      have e : p * A + A = (p + 1) * A := by rw [Int.add_mul, Int.one_mul]
      rw [e] at j5
      exact cX12_lead_28 ⟨fun _ => ⟨⟨by omega, by omega⟩, ih s ⟨by omega, j2, j3, j4, j5⟩⟩, fun q => by omega⟩
    · obtain ⟨c0, j2, j3, j4, j5⟩ := hI
      have hr := em_ch_rg h hw ⟨p0, p1⟩ ⟨c0, c1⟩
      obtain ⟨v2, v3, v4⟩ := (cw_v (T := T) h (hand := hand) (w := w) (bh := b) ⟨p0, p1⟩ ⟨c0, c1⟩).2
      have my := cw_may (T := T) h (hand := hand) (w := w) (b := b) ⟨p0, p1⟩ ⟨c0, c1⟩
      refine cX12_lead_28 ⟨fun q => by omega, fun _ => ⟨⟨by omega, by omega⟩, tX12_may h j3 hh hw ⟨p0, p1⟩ ⟨hb.1, by omega⟩ ⟨c0, c1⟩ (fun M2 o2 m2 => ?_)⟩⟩
      have o3 : ow_off [89, 90, 91, 92, 101] M M2 := j2.tr (o2.mono (fun c hc => by simp at hc; rcases hc with e | e | e | e <;> subst e <;> decide))
      have t2 : rt_ok k M2 s.2 := fun x x0 x1 => by rw [o2 101 (by decide)]; exact j4 x x0 x1
      have nx : ∀ M3 y3, ow_off [89, 90, 91, 92, 101] M M3 → mc_ok M3 T → rt_ok k M3 y3 → (∀ x, 0 ≤ x → x < 2304 → ∀ t, y3 x ≤ t ↔ s.2 x ≤ t ∨ (0 < cw A L T hand w b (p * A + c) ∧ 9 * em_ch A L w p c + (p + 1) = x ∧ a ≤ t)) → ow_I (c + 1) ∧ ow_At C (EM A L N) (d + 6) mX12_lead 28 [(0, (3, 83)), (1, (0, hand)), (2, (0, w)), (3, (0, b)), (4, (0, ph a)), (5, (0, p)), (6, (0, c + 1))] [] (0, 0) M3 K := by
        intro M3 y3 p3 m3 t3 q3
        refine ⟨⟨by omega, by omega⟩, ih2 (M3, y3) ⟨by omega, p3, m3, t3, fun x x0 x1 t => ?_⟩⟩
        show y3 x ≤ t ↔ _
        rw [q3 x x0 x1 t, j5 x x0 x1 t]
        refine ⟨fun q => ?_, fun q => ?_⟩
        · rcases q with (q | ⟨z, z1, z2⟩) | ⟨q1, q2, q3⟩
          · exact Or.inl q
          · exact Or.inr ⟨z, ⟨z1.1, by omega⟩, z2⟩
          · exact Or.inr ⟨p * A + c, ⟨v2.1, by omega⟩, q1, by rw [v3, v4]; exact q2, q3⟩
        · rcases q with q | ⟨z, z1, z2, z3, z4⟩
          · exact Or.inl (Or.inl q)
          · by_cases e : z = p * A + c
            · rw [e] at z2 z3
              rw [v3, v4] at z3
              exact Or.inr ⟨z2, z3, z4⟩
            · exact Or.inl (Or.inr ⟨z, ⟨z1.1, by omega⟩, z2, z3, z4⟩)
      by_cases e : em_dg A L w p ≠ c ∧ 0 < ch_v T hand b p (em_dg A L w p) c
      · rw [if_pos e]
        refine ⟨fun _ => tX12_changed h hw ⟨p0, p1⟩ ⟨c0, c1⟩ ?_, fun z => absurd z (by decide)⟩
        have hx : 0 ≤ 9 * em_ch A L w p c + p + 1 ∧ 9 * em_ch A L w p c + p + 1 < 2304 := by omega
        obtain ⟨g1, g2⟩ := t2 _ hx.1 hx.2
        have lt := ph_lt hk da g2
        rw [g1]
        refine ⟨⟨by omega, by omega⟩, ⟨by omega, by omega⟩, ⟨by omega, by omega⟩, hx, fun q => nx M2 s.2 o3 m2 t2 (fun x x0 x1 t => ⟨fun z => Or.inl z, fun z => ?_⟩), fun q N3 e3 => nx N3 (bk_put s.2 (9 * em_ch A L w p c + p + 1) a) (by rw [e3]; exact o3.up (by decide)) ?_ (fun x x0 x1 => ?_) (fun x x0 x1 t => ?_)⟩
        · rcases z with z | ⟨_, z2, z3⟩
          · exact z
          · have : ¬ a < s.2 (9 * em_ch A L w p c + p + 1) := fun z' => by have := lt.2 z'; omega
            rw [← z2, show 9 * em_ch A L w p c + (p + 1) = 9 * em_ch A L w p c + p + 1 by omega]
            omega
        · have o4 : ow_of [101] [] M2 N3 := by rw [e3]; exact ow_of.rf.up (by decide)
          exact m2.fr o4 (by decide) (by decide) (by decide) (by decide) (by decide) (by decide) (by decide) (by decide) (by decide)
        · by_cases ex : x = 9 * em_ch A L w p c + p + 1
          · rw [ex, e3, ow_upS, bk_put_s]; exact ⟨rfl, da⟩
          · rw [e3, ow_upN (Or.inr ex), bk_put_n ex]; exact t2 x x0 x1
        · have alt := lt.1 q
          by_cases ex : x = 9 * em_ch A L w p c + p + 1
          · rw [ex, bk_put_s]
            exact ⟨fun z => Or.inr ⟨my.2 e, by omega, z⟩, fun z => by rcases z with z | z; omega; exact z.2.2⟩
          · rw [bk_put_n ex]
            exact ⟨fun z => Or.inl z, fun z => by rcases z with z | z; exact z; exact absurd (by omega) ex⟩
      · rw [if_neg e]
        refine ⟨fun z => absurd rfl z, fun _ => nx M2 s.2 o3 m2 t2 (fun x x0 x1 t => ⟨fun z => Or.inl z, fun z => ?_⟩)⟩
        rcases z with z | z
        · exact z
        · exact absurd (my.1 z.1) e
end BM1
