/-! ===== the hands one by one, by the reference ===== -/
section BM2
variable {C : ow_C} {A L N : Int} {d : Nat} {M T : ow_M} {K : Int → ow_M → Prop}
theorem tX12_broke (h : em_ok A L N) (hcu : cu_M N M T) {hs n : Int} {hd wd tm : Int → Int} (hok : lg_ok N hs n hd wd tm) (hL : lg_M M 84 hs n hd wd tm) {time what : Int} (h0 : ¬ ((0 ≤ time ∧ time ≤ 99) ∧ 0 ≤ what ∧ what ≤ 1) → K (-1) M) (hK : (0 ≤ time ∧ time ≤ 99) ∧ 0 ≤ what ∧ what ≤ 1 → ∀ M', ow_of [89, 90, 91, 92, 100, 101] [(83, 27), (83, 28)] M M' → K (bk_v A L N T hs n hd wd tm time what) M') : ow_Sp C (EM A L N) (d + 7) mX12_broke (0, 0) [(3, 83), (0, time), (0, what)] M K := by
  have hLL := h.2.2.2.1
  have hL3 := h.2.2.1
  have hN := em_Npos h
  have hN2 := h.2.2.2.2.2
  have o1 := hok.1
  have o2 := hok.2.1
  have bd := bf_dm (T := T) h (kn := fun i => lg_as hd wd tm i time n.toNat) (fun i => lg_as_rg h hok)
  have lgf : ∀ {s}, ow_of [89, 90, 91, 92, 100, 101] [(83, 27), (83, 28)] M s → lg_M s 84 hs n hd wd tm := fun {s} o => by
    refine ⟨by rw [o.at (by decide) (by decide)]; exact hL.1, by rw [o.at (by decide) (by decide)]; exact hL.2.1, fun k k0 k1 => ?_⟩
    rw [o.at (by decide) (by decide), o.at (by decide) (by decide), o.at (by decide) (by decide)]
    exact hL.2.2 k k0 k1
  have ex : ∀ {S M' M''}, (∀ c ∈ S, c ∈ [(89 : Int), 90, 91, 92, 100, 101]) → ow_of [89, 90, 91, 92, 100, 101] [(83, 27), (83, 28)] M M' → ow_off S M' M'' → ow_of [89, 90, 91, 92, 100, 101] [(83, 27), (83, 28)] M M'' := fun {S M' M''} hS o o' => o.tr ((ow_of.off o').mono hS (fun x hx => by simp at hx))
  have m100 : ∀ {M' M''}, mc_ok M' T → ow_off [100] M' M'' → mc_ok M'' T := fun {M' M''} m o => m.fr (ow_of.off o) (by decide) (by decide) (by decide) (by decide) (by decide) (by decide) (by decide) (by decide) (by decide)
  have m101 : ∀ {M' M''}, mc_ok M' T → ow_off [101] M' M'' → mc_ok M'' T := fun {M' M''} m o => m.fr (ow_of.off o) (by decide) (by decide) (by decide) (by decide) (by decide) (by decide) (by decide) (by decide) (by decide)
  have i100 : ∀ c ∈ [(100 : Int)], c ∈ [(89 : Int), 90, 91, 92, 100, 101] := fun c hc => by simp at hc; subst hc; decide
  have i101 : ∀ c ∈ [(101 : Int)], c ∈ [(89 : Int), 90, 91, 92, 100, 101] := fun c hc => by simp at hc; subst hc; decide
  have iled : ∀ c ∈ [(89 : Int), 90, 91, 92, 101], c ∈ [(89 : Int), 90, 91, 92, 100, 101] := fun c hc => by simp at hc; rcases hc with e | e | e | e | e <;> subst e <;> decide
  refine fX12_broke (tX12_isIn (fun q => ⟨fun _ => h0 (fun z => q z.1), fun z => absurd rfl z⟩) (fun q1 => ⟨fun z => absurd z (by decide), fun _ => tX12_isIn (fun q => ⟨fun z => absurd rfl z, fun _ => h0 (fun z => q z.2)⟩) (fun q2 => ⟨fun _ => tX12_rule hcu (fun M1 p1 m1 => ?_), fun z => absurd z (by decide)⟩)⟩))
  have oo1 : ow_of [89, 90, 91, 92, 100, 101] [(83, 27), (83, 28)] M M1 := p1.mono (fun c hc => by simp at hc; subst hc; decide) (fun x hx => Or.inr hx)
  -- from hand to hand
  have hands : ∀ s0, ow_of [89, 90, 91, 92, 100, 101] [(83, 27), (83, 28)] M s0 → mc_ok s0 T → rb_ok L N s0 (bf A L N T (fun i => lg_as hd wd tm i time n.toNat) 0) → ow_At C (EM A L N) (d + 7) mX12_broke 72 [(0, (3, 83)), (1, (0, time)), (2, (0, what)), (3, (0, 0))] [] (0, 0) s0 K := by
    intro s0 os0 ms0 bs0
    refine ow_upto (S := ow_M) (P := fun j s => ow_At C (EM A L N) (d + 7) mX12_broke 72 [(0, (3, 83)), (1, (0, time)), (2, (0, what)), (3, (0, j))] [] (0, 0) s K) (I := fun j s => 0 ≤ j ∧ ow_of [89, 90, 91, 92, 100, 101] [(83, 27), (83, 28)] M s ∧ mc_ok s T ∧ rb_ok L N s (bf A L N T (fun i => lg_as hd wd tm i time n.toNat) j.toNat)) hs (fun s hI => ?_) (fun j s j1 hI ih => ?_) 0 s0 o1 ⟨by omega, os0, ms0, bs0⟩
    · obtain ⟨_, i2, i3, i4⟩ := hI
      obtain ⟨b1, b2, b3⟩ := bd hs.toNat (by omega)
      have rg := b2.rg (by omega)
      have hk := hK ⟨q1, q2⟩ s i2
      unfold bk_v at hk
      have pv : ph (bs_lt L N (bf A L N T (fun i => lg_as hd wd tm i time n.toNat) hs.toNat)) = bs_lt L N (bf A L N T (fun i => lg_as hd wd tm i time n.toNat) hs.toNat) / 256 * 1024 + bs_lt L N (bf A L N T (fun i => lg_as hd wd tm i time n.toNat) hs.toNat) % 256 := if_neg b3
      refine cX12_broke_72 ⟨fun _ => ⟨fun z => tX12_least h (by omega) b1 i4 ?_, fun z => tX12_least h (by omega) b1 i4 ?_⟩, fun q => by rw [(lgf i2).1] at q; omega⟩
      · rw [if_neg z] at hk
        rw [pv, em_tdiv (by omega), em_tmod (by omega)]
        refine ⟨by decide, ⟨by omega, by omega⟩, ⟨by omega, by omega⟩, ?_⟩
        rw [show (bs_lt L N (bf A L N T (fun i => lg_as hd wd tm i time n.toNat) hs.toNat) / 256 * 1024 + bs_lt L N (bf A L N T (fun i => lg_as hd wd tm i time n.toNat) hs.toNat) % 256) % 1024 = bs_lt L N (bf A L N T (fun i => lg_as hd wd tm i time n.toNat) hs.toNat) % 256 by omega]
        exact hk
      · rw [if_pos z] at hk
        rw [pv, em_tdiv (by omega)]
        refine ⟨by decide, ⟨by omega, by omega⟩, ?_⟩
        rw [show (bs_lt L N (bf A L N T (fun i => lg_as hd wd tm i time n.toNat) hs.toNat) / 256 * 1024 + bs_lt L N (bf A L N T (fun i => lg_as hd wd tm i time n.toNat) hs.toNat) % 256) / 1024 = bs_lt L N (bf A L N T (fun i => lg_as hd wd tm i time n.toNat) hs.toNat) / 256 by omega]
        exact hk
    · obtain ⟨j0, i2, i3, i4⟩ := hI
      have ej : ((j.toNat : Nat) : Int) = j := by omega
      obtain ⟨f, hf⟩ : ∃ f, f = bf A L N T (fun i => lg_as hd wd tm i time n.toNat) j.toNat := ⟨_, rfl⟩
      obtain ⟨b1, b2, b3⟩ := bd j.toNat (by omega)
      rw [← hf] at i4 b1 b2 b3
      have rg := b2.rg (by omega)
      obtain ⟨a1, a2, a3⟩ := b2.add (by omega) b3
      have rga := a1.rg (by omega)
      have p2 := pw2 (k := j.toNat) (by omega)
      have esh : ow_shl 1 j = 2 ^ j.toNat := ow_shl1 ⟨by omega, by omega⟩
      have pa : ph (bs_lt L N f) = bs_lt L N f / 256 * 1024 + bs_lt L N f % 256 := if_neg b3
      refine cX12_broke_72 ⟨fun q => by rw [(lgf i2).1] at q; omega, fun _ => tX12_least h (by omega) b1 i4 ?_⟩
      rw [esh]
      refine ⟨⟨by omega, by omega⟩, ⟨by omega, by omega⟩, ?_⟩
      rw [← a3]
      -- what comes behind the copy
      have done : ∀ s1, ow_of [89, 90, 91, 92, 100, 101] [(83, 27), (83, 28)] M s1 → mc_ok s1 T → rk_ok L N s1 (fun w b => if b = 0 then bs_lt L N f + 256 + 2 ^ j.toNat else bs_st A L N T f j w b) → ow_I (j + 1) ∧ ow_Sp C (EM A L N) (d + 6) mX12_asOf (0, 0) [(3, 83), (0, j + 1), (0, time)] s1 (fun r1 N1 => ow_Sp C (EM A L N) (d + 6) mX12_keep (0, 0) [(3, 83), (0, r1)] N1 (fun r2 N2 => ow_At C (EM A L N) (d + 7) mX12_broke 72 [(0, (3, 83)), (1, (0, time)), (2, (0, what)), (3, (0, j + 1))] [] (0, 0) N2 K)) := by
        intro s1 os1 ms1 ks1
        refine ⟨⟨by omega, by omega⟩, tX12_asOf hok (lgf os1) (tX12_keep h (lg_as_rg h hok) ks1 (fun M3 p3 q3 => ih M3 ⟨by omega, ex i100 os1 p3, m100 ms1 p3, ?_⟩))⟩
        rw [show (j + 1).toNat = j.toNat + 1 by omega]
        intro x x0 x1
        rw [q3 x x0 x1]
        congr 1
        unfold rg_x
        show (if x / 9 < N ∧ x % 9 ≤ L then (if lg_as hd wd tm (j + 1) time n.toNat = -1 ∨ x / 9 = lg_as hd wd tm (j + 1) time n.toNat then (if x % 9 = 0 then bs_lt L N f + 256 + 2 ^ j.toNat else bs_st A L N T f j (x / 9) (x % 9)) else 1048576) else 1048576) = (if x / 9 < N ∧ x % 9 ≤ L then (if lg_as hd wd tm (((j.toNat : Nat) : Int) + 1) time n.toNat = -1 ∨ x / 9 = lg_as hd wd tm (((j.toNat : Nat) : Int) + 1) time n.toNat then (if x % 9 = 0 then bs_lt L N (bf A L N T (fun i => lg_as hd wd tm i time n.toNat) j.toNat) + 256 + 2 ^ j.toNat else bs_st A L N T (bf A L N T (fun i => lg_as hd wd tm i time n.toNat) j.toNat) ((j.toNat : Nat) : Int) (x / 9) (x % 9)) else 1048576) else 1048576)
        rw [ej, ← hf]
      -- the copy
      have copy : ∀ s1 y1, ow_of [89, 90, 91, 92, 100, 101] [(83, 27), (83, 28)] M s1 → mc_ok s1 T → rt_ok (j.toNat + 1) s1 y1 → (∀ x, 0 ≤ x → x < 2304 → ∀ t, y1 x ≤ t ↔ (if x % 9 = 0 then bs_lt L N f + 256 + 2 ^ j.toNat else 1048576) ≤ t ∨ ∃ w b, (0 ≤ w ∧ w < N) ∧ (0 ≤ b ∧ b ≤ L) ∧ ld_e A L T j w b (f w b) (L * A) x t) → ow_At C (EM A L N) (d + 7) mX12_broke 203 [(0, (3, 83)), (1, (0, time)), (2, (0, what)), (3, (0, j)), (5, (0, 0))] [] (0, 0) s1 K := by
        intro s1 y1 os1 ms1 ts1 ys1
        refine ow_upto (S := ow_M) (P := fun i s => ow_At C (EM A L N) (d + 7) mX12_broke 203 [(0, (3, 83)), (1, (0, time)), (2, (0, what)), (3, (0, j)), (5, (0, i))] [] (0, 0) s K) (I := fun i s => 0 ≤ i ∧ ow_off [100] s1 s ∧ ∀ x, 0 ≤ x → x < i → s 100 x = ph (y1 x)) 2304 (fun s hI => ?_) (fun i s i1 hI ih3 => ?_) 0 s1 (by omega) ⟨by omega, ow_off.rf, fun x x0 x1 => by omega⟩
        · obtain ⟨_, k2, k3⟩ := hI
          refine cX12_broke_203 ⟨fun _ => done s (ex i100 os1 k2) (m100 ms1 k2) ⟨fun w b w0 w1 b0 b1 => ?_, fun x x0 x1 hx => ?_⟩, fun q => by omega⟩
          · rw [k3 (9 * w + b) (by omega) (by omega)]
            congr 1
            refine ow_le_eq (fun t => ?_)
            rw [ys1 (9 * w + b) (by omega) (by omega) t, show (9 * w + b) % 9 = b by omega]
            show _ ↔ (if b = 0 then bs_lt L N f + 256 + 2 ^ j.toNat else bs_st A L N T f j w b) ≤ t
            by_cases eb : b = 0
            · rw [if_pos eb, if_pos eb]
              refine ⟨fun z => ?_, fun z => Or.inl z⟩
              rcases z with z | ⟨w', b', _, _, z', z1, _, z3, _⟩
              · exact z
              · have := (ow_zA h z1.1 z1.2).1
                omega
            · rw [if_neg eb, if_neg eb, bs_st_le h]
              refine ⟨fun z => ?_, fun z => ?_⟩
              · rcases z with z | ⟨w', b', g1, g2, z', z1, z2, z3, z4⟩
                · exact Or.inl z
                · have := (ow_zA h z1.1 z1.2).1
                  exact Or.inr ⟨w', b', z', g1, g2, z1, z2, by omega, by omega, z4⟩
              · rcases z with z | ⟨w', b', z', g1, g2, z1, z2, z3, z4, z5⟩
                · exact Or.inl z
                · exact Or.inr ⟨w', b', g1, g2, z', z1, z2, by rw [z3, z4], z5⟩
          · rw [k3 x x0 x1]
            have : y1 x = 1048576 := by
              refine ow_le_eq (fun t => ?_)
              rw [ys1 x x0 x1 t, if_neg (by omega)]
              refine ⟨fun z => ?_, fun z => Or.inl z⟩
              rcases z with z | ⟨w', b', _, _, z', z1, _, z3, _⟩
              · exact z
              · have := (ow_zA h z1.1 z1.2).1
                omega
            rw [this, ph_nv]
        · obtain ⟨i0, k2, k3⟩ := hI
          refine cX12_broke_203 ⟨fun q => by omega, fun _ => ⟨⟨i0, i1⟩, fun N3 e3 => ⟨⟨by omega, by omega⟩, ih3 N3 ⟨by omega, by rw [e3]; exact k2.up (by decide), fun x x0 x1 => ?_⟩⟩⟩⟩
          by_cases e : x = i
          · rw [e, e3, ow_upS, k2 101 (by decide)]; exact (ts1 i i0 i1).1
          · rw [e3, ow_upN (Or.inr e)]; exact k3 x x0 (by omega)
      -- all the words and lasts
      have all : ∀ s1 y1, ow_of [89, 90, 91, 92, 100, 101] [(83, 27), (83, 28)] M s1 → mc_ok s1 T → rb_ok L N s1 f → rt_ok (j.toNat + 1) s1 y1 → (∀ x, 0 ≤ x → x < 2304 → y1 x = if x % 9 = 0 then bs_lt L N f + 256 + 2 ^ j.toNat else 1048576) → ow_At C (EM A L N) (d + 7) mX12_broke 139 [(0, (3, 83)), (1, (0, time)), (2, (0, what)), (3, (0, j)), (5, (0, 0))] [] (0, 0) s1 K := by
        intro s1 y1 os1 ms1 fs1 ts1 ys1
        have ylo : ∀ x, 0 ≤ x → x < 2304 → y1 x ≤ 1048576 := fun x x0 x1 => by
          rw [ys1 x x0 x1]
          split <;> omega
        refine ow_upto (S := ow_M × (Int → Int)) (P := fun w s => ow_At C (EM A L N) (d + 7) mX12_broke 139 [(0, (3, 83)), (1, (0, time)), (2, (0, what)), (3, (0, j)), (5, (0, w))] [] (0, 0) s.1 K) (I := fun w s => 0 ≤ w ∧ ow_off [89, 90, 91, 92, 101] s1 s.1 ∧ mc_ok s.1 T ∧ rt_ok (j.toNat + 1) s.1 s.2 ∧ ∀ x, 0 ≤ x → x < 2304 → ∀ t, s.2 x ≤ t ↔ y1 x ≤ t ∨ ∃ w' b', (0 ≤ w' ∧ w' < N) ∧ (0 ≤ b' ∧ b' ≤ L) ∧ 9 * w' + b' < 9 * w ∧ ld_e A L T j w' b' (f w' b') (L * A) x t) N (fun s hI => ?_) (fun w s w1 hI ih2 => ?_) 0 (s1, y1) (by omega) ⟨by omega, ow_off.rf, ms1, ts1, fun x x0 x1 t => ⟨fun z => Or.inl z, fun z => by rcases z with z | ⟨w', b', _, _, z, _⟩; exact z; omega⟩⟩
        · obtain ⟨_, k2, k3, k4, k5⟩ := hI
          refine cX12_broke_139 ⟨fun _ => copy s.1 s.2 (ex iled os1 k2) k3 k4 (fun x x0 x1 t => ?_), fun q => by omega⟩
          rw [k5 x x0 x1 t, ys1 x x0 x1]
          exact ⟨fun z => by rcases z with z | ⟨w', b', g1, g2, _, z⟩; exact Or.inl z; exact Or.inr ⟨w', b', g1, g2, z⟩, fun z => by rcases z with z | ⟨w', b', g1, g2, z⟩; exact Or.inl z; exact Or.inr ⟨w', b', g1, g2, by omega, z⟩⟩
        · obtain ⟨w0, k2, k3, k4, k5⟩ := hI
          refine cX12_broke_139 ⟨fun q => by omega, fun _ => ?_⟩
          refine ow_upto (S := ow_M × (Int → Int)) (P := fun b s => ow_At C (EM A L N) (d + 7) mX12_broke 151 [(0, (3, 83)), (1, (0, time)), (2, (0, what)), (3, (0, j)), (5, (0, w)), (6, (0, b))] [] (0, 0) s.1 K) (I := fun b s => 0 ≤ b ∧ ow_off [89, 90, 91, 92, 101] s1 s.1 ∧ mc_ok s.1 T ∧ rt_ok (j.toNat + 1) s.1 s.2 ∧ ∀ x, 0 ≤ x → x < 2304 → ∀ t, s.2 x ≤ t ↔ y1 x ≤ t ∨ ∃ w' b', (0 ≤ w' ∧ w' < N) ∧ (0 ≤ b' ∧ b' ≤ L) ∧ 9 * w' + b' < 9 * w + b ∧ ld_e A L T j w' b' (f w' b') (L * A) x t) (L + 1) (fun s hI => ?_) (fun b s b1' hI ih3 => ?_) 0 s (by omega) ⟨by omega, k2, k3, k4, by rw [Int.add_zero]; exact k5⟩
          · obtain ⟨_, l2, l3, l4, l5⟩ := hI
            refine cX12_broke_151 ⟨fun _ => ⟨⟨by omega, by omega⟩, ih2 s ⟨by omega, l2, l3, l4, fun x x0 x1 t => ?_⟩⟩, fun q => by omega⟩
            rw [l5 x x0 x1 t]
            exact ⟨fun z => by rcases z with z | ⟨w', b', g1, g2, g3, z⟩; exact Or.inl z; exact Or.inr ⟨w', b', g1, g2, by omega, z⟩, fun z => by rcases z with z | ⟨w', b', g1, g2, g3, z⟩; exact Or.inl z; exact Or.inr ⟨w', b', g1, g2, by omega, z⟩⟩
          · obtain ⟨b0, l2, l3, l4, l5⟩ := hI
            have e100 : s.1 100 (9 * w + b) = ph (f w b) := by
              rw [l2 100 (by decide), fs1 (9 * w + b) (by omega) (by omega), rg_in hLL ⟨w0, w1⟩ ⟨b0, by omega⟩]
            have dwb := b1 w b
            have rgw := dwb.rg (by omega)
            have nx : ∀ M3 y3, ow_off [89, 90, 91, 92, 101] s1 M3 → mc_ok M3 T → rt_ok (j.toNat + 1) M3 y3 → (∀ x, 0 ≤ x → x < 2304 → ∀ t, y3 x ≤ t ↔ s.2 x ≤ t ∨ ld_e A L T j w b (f w b) (L * A) x t) → ow_I (b + 1) ∧ ow_At C (EM A L N) (d + 7) mX12_broke 151 [(0, (3, 83)), (1, (0, time)), (2, (0, what)), (3, (0, j)), (5, (0, w)), (6, (0, b + 1))] [] (0, 0) M3 K := by
              intro M3 y3 p3 m3 t3 q3
              refine ⟨⟨by omega, by omega⟩, ih3 (M3, y3) ⟨by omega, p3, m3, t3, fun x x0 x1 t => ?_⟩⟩
              show y3 x ≤ t ↔ _
              rw [q3 x x0 x1 t, l5 x x0 x1 t]
              refine ⟨fun z => ?_, fun z => ?_⟩
              · rcases z with (z | ⟨w', b', g1, g2, g3, z⟩) | z
                · exact Or.inl z
                · exact Or.inr ⟨w', b', g1, g2, by omega, z⟩
                · exact Or.inr ⟨w, b, ⟨w0, w1⟩, ⟨b0, by omega⟩, by omega, z⟩
              · rcases z with z | ⟨w', b', g1, g2, g3, z⟩
                · exact Or.inl (Or.inl z)
                · by_cases e : 9 * w' + b' = 9 * w + b
                  · rw [show w' = w by omega, show b' = b by omega] at z
                    exact Or.inr z
                  · exact Or.inl (Or.inr ⟨w', b', g1, g2, by omega, z⟩)
            refine cX12_broke_151 ⟨fun q => by omega, fun _ => ⟨⟨by omega, by omega⟩, ⟨by omega, by omega⟩, ⟨by omega, by omega⟩, ?_⟩⟩
            rw [e100]
            refine ⟨fun q => nx s.1 s.2 l2 l3 l4 (fun x x0 x1 t => ⟨fun z => Or.inl z, fun z => ?_⟩), fun q => ?_⟩
            · rcases z with z | ⟨_, _, _, _, z⟩
              · exact z
              · have fv : f w b = 1048576 := by
                  unfold ph at q
                  by_cases e : f w b = 1048576
                  · exact e
                  · rw [if_neg e] at q; omega
                have := ylo x x0 x1
                exact (l5 x x0 x1 t).2 (Or.inl (by omega))
            · exact tX12_lead (k := j.toNat + 1) h l3 (by omega) ⟨j0, by omega⟩ ⟨w0, w1⟩ ⟨b0, by omega⟩ e100 (dwb.up (by omega)) l4 (fun M3 y3 p3 m3 t3 q3 => nx M3 y3 (l2.tr p3) m3 t3 q3)
      -- the new row
      refine ow_upto (S := ow_M) (P := fun i s => ow_At C (EM A L N) (d + 7) mX12_broke 99 [(0, (3, 83)), (1, (0, time)), (2, (0, what)), (3, (0, j)), (4, (0, ph (bs_lt L N f + 256 + 2 ^ j.toNat))), (5, (0, i))] [] (0, 0) s K) (I := fun i t => 0 ≤ i ∧ ow_off [101] s t ∧ ∀ x, 0 ≤ x → x < i → t 101 x = ph (if x % 9 = 0 then bs_lt L N f + 256 + 2 ^ j.toNat else 1048576)) 2304 (fun t hI => ?_) (fun i t i1 hI ih4 => ?_) 0 s (by omega) ⟨by omega, ow_off.rf, fun x x0 x1 => by omega⟩
      · obtain ⟨_, k2, k3⟩ := hI
        refine cX12_broke_99 ⟨fun _ => all t (fun x => if x % 9 = 0 then bs_lt L N f + 256 + 2 ^ j.toNat else 1048576) (ex i101 i2 k2) (m101 i3 k2) (fun x x0 x1 => by rw [k2 100 (by decide)]; exact i4 x x0 x1) (fun x x0 x1 => ⟨k3 x x0 x1, ?_⟩) (fun x x0 x1 => rfl), fun q => by omega⟩
        show dm (j.toNat + 1) (if x % 9 = 0 then bs_lt L N f + 256 + 2 ^ j.toNat else 1048576)
        split
        · exact a1
        · exact Or.inr rfl
      · obtain ⟨i0, k2, k3⟩ := hI
        have wr : ∀ v, v = ph (if i % 9 = 0 then bs_lt L N f + 256 + 2 ^ j.toNat else 1048576) → ∀ N3, N3 = ow_up t 101 i v → ow_I (i + 1) ∧ ow_At C (EM A L N) (d + 7) mX12_broke 99 [(0, (3, 83)), (1, (0, time)), (2, (0, what)), (3, (0, j)), (4, (0, ph (bs_lt L N f + 256 + 2 ^ j.toNat))), (5, (0, i + 1))] [] (0, 0) N3 K := by
          intro v hv N3 e3
          refine ⟨⟨by omega, by omega⟩, ih4 N3 ⟨by omega, by rw [e3]; exact k2.up (by decide), fun x x0 x1 => ?_⟩⟩
          by_cases e : x = i
          · rw [e, e3, ow_upS]; exact hv
          · rw [e3, ow_upN (Or.inr e)]; exact k3 x x0 (by omega)
        refine cX12_broke_99 ⟨fun q => by omega, fun _ => ?_⟩
        rw [em_tdiv i0, em_tmod i0]
        refine ⟨by decide, ⟨by omega, by omega⟩, ⟨by omega, by omega⟩, fun q => ⟨⟨i0, i1⟩, wr _ ?_⟩, fun q => ⟨⟨i0, i1⟩, wr _ ?_⟩⟩
        · rw [if_neg q, ph_nv]
        · rw [if_pos q]
  refine ow_upto (S := ow_M) (P := fun i s => ow_At C (EM A L N) (d + 7) mX12_broke 27 [(0, (3, 83)), (1, (0, time)), (2, (0, what)), (3, (0, i))] [] (0, 0) s K) (I := fun i s => 0 ≤ i ∧ ow_off [100] M1 s ∧ ∀ x, 0 ≤ x → x < i → s 100 x = if x % 9 = 0 then 0 else 1000000) 2304 (fun s hI => ?_) (fun i s i1 hI ih => ?_) 0 M1 (by omega) ⟨by omega, ow_off.rf, fun x x0 x1 => by omega⟩
  · obtain ⟨_, k2, k3⟩ := hI
    have os := ex i100 oo1 k2
    refine cX12_broke_27 ⟨fun _ => tX12_asOf hok (lgf os) (tX12_keep (f := fun w b => if b = 0 then 0 else 1048576) h (lg_as_rg h hok) ⟨fun w b w0 w1 b0 b1 => ?_, fun x x0 x1 hx => ?_⟩ (fun M3 p3 q3 => hands M3 (ex i100 os p3) (m100 (m100 m1 k2) p3) q3)), fun q => by omega⟩
    · rw [k3 (9 * w + b) (by omega) (by omega), show (9 * w + b) % 9 = b by omega]
      show _ = ph (if b = 0 then 0 else 1048576)
      by_cases e : b = 0
      · rw [if_pos e, if_pos e]; rfl
      · rw [if_neg e, if_neg e, ph_nv]
    · rw [k3 x x0 x1, if_neg (by omega)]
  · obtain ⟨i0, k2, k3⟩ := hI
    have wr : ∀ v, v = (if i % 9 = 0 then 0 else 1000000) → ∀ N3, N3 = ow_up s 100 i v → ow_I (i + 1) ∧ ow_At C (EM A L N) (d + 7) mX12_broke 27 [(0, (3, 83)), (1, (0, time)), (2, (0, what)), (3, (0, i + 1))] [] (0, 0) N3 K := by
      intro v hv N3 e3
      refine ⟨⟨by omega, by omega⟩, ih N3 ⟨by omega, by rw [e3]; exact k2.up (by decide), fun x x0 x1 => ?_⟩⟩
      by_cases e : x = i
      · rw [e, e3, ow_upS]; exact hv
      · rw [e3, ow_upN (Or.inr e)]; exact k3 x x0 (by omega)
    refine cX12_broke_27 ⟨fun q => by omega, fun _ => ?_⟩
    rw [em_tdiv i0, em_tmod i0]
    refine ⟨by decide, ⟨by omega, by omega⟩, ⟨by omega, by omega⟩, fun q => ⟨⟨i0, i1⟩, wr _ ?_⟩, fun q => ⟨⟨i0, i1⟩, wr _ ?_⟩⟩
    · rw [if_neg q]
    · rw [if_pos q]
end BM2
