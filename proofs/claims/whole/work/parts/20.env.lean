/-! ===== the cells behind the constructors ===== -/
def em_pw (a k : Int) : Int := a ^ k.toNat
/-- the letter of a word at a place -/
def em_dg (A L w p : Int) : Int := w / em_pw A (L - 1 - p) % A
def em_o (l : List (Option Int)) (i : Int) : Option Int := if i < 0 then none else l.getD i.toNat none
def em_TL (A L N : Int) : List (Nat × Int) := [(11, 19), (100, 300), (103, 4), (10, 5), (100, L), (100, (N * L)), (0, 5), (100, 40), (100, 40), (102, N), (0, 5), (100, 40), (100, 40), (102, N), (4, 5), (100, 40), (100, 40), (100, 40), (4, 5), (100, 40), (100, 40), (100, 40), (7, 15), (100, 300), (100, 24), (100, 24), (100, 24), (100, 24), (7, 15), (100, 300), (100, 24), (100, 24), (100, 24), (100, 24), (7, 15), (100, 300), (100, 24), (100, 24), (100, 24), (100, 24), (7, 15), (100, 300), (100, 24), (100, 24), (100, 24), (100, 24), (6, 6), (7, 15), (100, 300), (100, 24), (100, 24), (100, 24), (100, 24), (8, 8), (100, 301), (100, 301), (100, 301), (100, 301), (9, 7), (3, 3), (100, 6), (100, 300), (100, (8 * L * A * A)), (100, (8 * L * A * A * (L + 1))), (5, 6), (100, 16), (104, 9), (100, N), (100, N), (100, N), (100, N), (100, N), (100, N), (100, N), (100, N), (100, N), (100, N), (2, 5), (101, (N * (L + 1))), (101, (N * (L + 1))), (1, 5), (100, (N * (L + 1))), (100, (N * (L + 1))), (12, 40), (100, 215), (100, 215), (100, 2720), (100, 300), (100, 160), (100, 6), (101, 330), (102, 330), (100, 14400), (101, 2304), (101, 2304), (102, 20736), (102, 256), (100, 256), (100, 16), (102, 65536), (100, 2304), (100, 2304)]
def em_FL (A L N : Int) : List (Int → Option Int) := [em_o [some 3, some 6, some 10, some 14, some 18, some 1, none, some 2, none, none, none, none, none, none, some 46, some 58, some 64, some 77, some 80], fun _ => none, fun i => some (22 + 6 * i), em_o [some A, some L, some N, some 4, some 5], fun i => some (em_pw A (L - 1 - i)), fun i => some (em_dg A L (i / L) (i % L)), em_o [some 3, some 7, some 8, some 9, none], fun _ => none, fun _ => none, fun _ => none, em_o [some 3, some 11, some 12, some 13, none], fun _ => none, fun _ => none, fun _ => none, em_o [none, none, some 15, some 16, some 17], fun _ => none, fun _ => none, fun _ => none, em_o [none, none, some 19, some 20, some 21], fun _ => none, fun _ => none, fun _ => none, em_o [some 23, none, none, none, none, none, none, none, none, some 24, some 25, none, some 26, some 27, none], fun _ => none, fun _ => none, fun _ => none, fun _ => none, fun _ => none, em_o [some 29, none, none, none, none, none, none, none, none, some 30, some 31, none, some 32, some 33, none], fun _ => none, fun _ => none, fun _ => none, fun _ => none, fun _ => none, em_o [some 35, none, none, none, none, none, none, none, none, some 36, some 37, none, some 38, some 39, none], fun _ => none, fun _ => none, fun _ => none, fun _ => none, fun _ => none, em_o [some 41, none, none, none, none, none, none, none, none, some 42, some 43, none, some 44, some 45, none], fun _ => none, fun _ => none, fun _ => none, fun _ => none, fun _ => none, em_o [some 53, none, none, none, none, none], em_o [some 48, none, none, none, none, none, none, none, none, some 49, some 50, none, some 51, some 52, none], fun _ => none, fun _ => none, fun _ => none, fun _ => none, fun _ => none, em_o [some 3, some 54, some 55, some 56, some 57, none, none, none], fun _ => none, fun _ => none, fun _ => none, fun _ => none, em_o [some 3, some 59, some (L + 1), some 62, some 63, none, none], em_o [some 60, some 61, none], fun _ => none, fun _ => none, fun _ => none, fun _ => none, em_o [some 3, some 58, some (em_pw 2 (L + 1) - 1), some 66, some 76, some 65], fun _ => none, fun i => some (67 + i), fun _ => none, fun _ => none, fun _ => none, fun _ => none, fun _ => none, fun _ => none, fun _ => none, fun _ => none, fun _ => none, fun _ => none, em_o [some 3, some 58, some (L + 1), none, none], fun _ => none, fun _ => none, em_o [some 3, some 58, some (L + 1), none, none], fun _ => none, fun _ => none, em_o [some 84, some 85, some A, some L, some N, some 86, some 87, none, none, none, none, none, none, none, none, none, none, none, none, some 88, none, none, none, none, some 89, some 90, some 91, none, none, some 92, some 93, some 94, some 95, some 96, some 97, some 98, some 99, some 100, some 101, none], fun _ => none, fun _ => none, fun _ => none, fun _ => none, fun _ => none, fun _ => none, fun _ => none, fun _ => none, fun _ => none, fun _ => none, fun _ => none, fun _ => none, fun _ => none, fun _ => none, fun _ => none, fun _ => none, fun _ => none, fun _ => none]
def em_F (A L N : Int) (c i : Int) : Option Int := if c < 0 then none else (em_FL A L N).getD c.toNat (fun _ => none) i
def EM (A L N : Int) : ow_E := (em_F A L N, fun c => (em_TL A L N).getD c.toNat (999, 0), some 102)
section EMS
variable {A L N : Int} {M : ow_M}
theorem em_nb : ow_nb (EM A L N) M = 102 := rfl
theorem em_22 : (EM A L N).2.2 ≠ none := fun h => by cases h
theorem eo0 : ow_O (EM A L N) M 0 11 = True := eq_true ⟨by decide, (show (0 : Int) < 102 by decide), rfl, rfl⟩
theorem eg0_0 : ow_gv (EM A L N) M 0 0 = 3 := rfl
theorem eg0_1 : ow_gv (EM A L N) M 0 1 = 6 := rfl
theorem eg0_2 : ow_gv (EM A L N) M 0 2 = 10 := rfl
theorem eg0_3 : ow_gv (EM A L N) M 0 3 = 14 := rfl
theorem eg0_4 : ow_gv (EM A L N) M 0 4 = 18 := rfl
theorem eg0_5 : ow_gv (EM A L N) M 0 5 = 1 := rfl
theorem eg0_6 : ow_gv (EM A L N) M 0 6 = M 0 6 := rfl
theorem en0_6 : ((EM A L N).1 0 6 = none) = True := eq_true rfl
theorem eg0_7 : ow_gv (EM A L N) M 0 7 = 2 := rfl
theorem eg0_8 : ow_gv (EM A L N) M 0 8 = M 0 8 := rfl
theorem en0_8 : ((EM A L N).1 0 8 = none) = True := eq_true rfl
theorem eg0_9 : ow_gv (EM A L N) M 0 9 = M 0 9 := rfl
theorem en0_9 : ((EM A L N).1 0 9 = none) = True := eq_true rfl
theorem eg0_10 : ow_gv (EM A L N) M 0 10 = M 0 10 := rfl
theorem en0_10 : ((EM A L N).1 0 10 = none) = True := eq_true rfl
theorem eg0_11 : ow_gv (EM A L N) M 0 11 = M 0 11 := rfl
theorem en0_11 : ((EM A L N).1 0 11 = none) = True := eq_true rfl
theorem eg0_12 : ow_gv (EM A L N) M 0 12 = M 0 12 := rfl
theorem en0_12 : ((EM A L N).1 0 12 = none) = True := eq_true rfl
theorem eg0_13 : ow_gv (EM A L N) M 0 13 = M 0 13 := rfl
theorem en0_13 : ((EM A L N).1 0 13 = none) = True := eq_true rfl
theorem eg0_14 : ow_gv (EM A L N) M 0 14 = 46 := rfl
theorem eg0_15 : ow_gv (EM A L N) M 0 15 = 58 := rfl
theorem eg0_16 : ow_gv (EM A L N) M 0 16 = 64 := rfl
theorem eg0_17 : ow_gv (EM A L N) M 0 17 = 77 := rfl
theorem eg0_18 : ow_gv (EM A L N) M 0 18 = 80 := rfl
theorem er1 (i : Int) : ow_R (EM A L N) M 1 100 i = (0 ≤ i ∧ i < 300) := propext ⟨fun h => ⟨h.2.2.2.1, h.2.2.2.2⟩, fun h => ⟨by decide, (show (1 : Int) < 102 by decide), rfl, h.1, h.2⟩⟩
theorem el1 : ((EM A L N).2.1 1).2 = 300 := rfl
theorem ek1 : ((EM A L N).2.1 1).1 = 100 := rfl
theorem ea1 (i : Int) : ow_gv (EM A L N) M 1 i = M 1 i := rfl
theorem en1 (i : Int) : ((EM A L N).1 1 i = none) = True := eq_true rfl
theorem er2 (i : Int) : ow_R (EM A L N) M 2 103 i = (0 ≤ i ∧ i < 4) := propext ⟨fun h => ⟨h.2.2.2.1, h.2.2.2.2⟩, fun h => ⟨by decide, (show (2 : Int) < 102 by decide), rfl, h.1, h.2⟩⟩
theorem el2 : ((EM A L N).2.1 2).2 = 4 := rfl
theorem ek2 : ((EM A L N).2.1 2).1 = 103 := rfl
theorem ea2 (i : Int) : ow_gv (EM A L N) M 2 i = 22 + 6 * i := rfl
theorem eo3 : ow_O (EM A L N) M 3 10 = True := eq_true ⟨by decide, (show (3 : Int) < 102 by decide), rfl, rfl⟩
theorem eg3_0 : ow_gv (EM A L N) M 3 0 = A := rfl
theorem eg3_1 : ow_gv (EM A L N) M 3 1 = L := rfl
theorem eg3_2 : ow_gv (EM A L N) M 3 2 = N := rfl
theorem eg3_3 : ow_gv (EM A L N) M 3 3 = 4 := rfl
theorem eg3_4 : ow_gv (EM A L N) M 3 4 = 5 := rfl
theorem er4 (i : Int) : ow_R (EM A L N) M 4 100 i = (0 ≤ i ∧ i < L) := propext ⟨fun h => ⟨h.2.2.2.1, h.2.2.2.2⟩, fun h => ⟨by decide, (show (4 : Int) < 102 by decide), rfl, h.1, h.2⟩⟩
theorem el4 : ((EM A L N).2.1 4).2 = L := rfl
theorem ek4 : ((EM A L N).2.1 4).1 = 100 := rfl
theorem ea4 (i : Int) : ow_gv (EM A L N) M 4 i = em_pw A (L - 1 - i) := rfl
theorem er5 (i : Int) : ow_R (EM A L N) M 5 100 i = (0 ≤ i ∧ i < (N * L)) := propext ⟨fun h => ⟨h.2.2.2.1, h.2.2.2.2⟩, fun h => ⟨by decide, (show (5 : Int) < 102 by decide), rfl, h.1, h.2⟩⟩
theorem el5 : ((EM A L N).2.1 5).2 = (N * L) := rfl
theorem ek5 : ((EM A L N).2.1 5).1 = 100 := rfl
theorem ea5 (i : Int) : ow_gv (EM A L N) M 5 i = em_dg A L (i / L) (i % L) := rfl
theorem eo6 : ow_O (EM A L N) M 6 0 = True := eq_true ⟨by decide, (show (6 : Int) < 102 by decide), rfl, rfl⟩
theorem eg6_0 : ow_gv (EM A L N) M 6 0 = 3 := rfl
theorem eg6_1 : ow_gv (EM A L N) M 6 1 = 7 := rfl
theorem eg6_2 : ow_gv (EM A L N) M 6 2 = 8 := rfl
theorem eg6_3 : ow_gv (EM A L N) M 6 3 = 9 := rfl
theorem eg6_4 : ow_gv (EM A L N) M 6 4 = M 6 4 := rfl
theorem en6_4 : ((EM A L N).1 6 4 = none) = True := eq_true rfl
theorem er7 (i : Int) : ow_R (EM A L N) M 7 100 i = (0 ≤ i ∧ i < 40) := propext ⟨fun h => ⟨h.2.2.2.1, h.2.2.2.2⟩, fun h => ⟨by decide, (show (7 : Int) < 102 by decide), rfl, h.1, h.2⟩⟩
theorem el7 : ((EM A L N).2.1 7).2 = 40 := rfl
theorem ek7 : ((EM A L N).2.1 7).1 = 100 := rfl
theorem ea7 (i : Int) : ow_gv (EM A L N) M 7 i = M 7 i := rfl
theorem en7 (i : Int) : ((EM A L N).1 7 i = none) = True := eq_true rfl
theorem er8 (i : Int) : ow_R (EM A L N) M 8 100 i = (0 ≤ i ∧ i < 40) := propext ⟨fun h => ⟨h.2.2.2.1, h.2.2.2.2⟩, fun h => ⟨by decide, (show (8 : Int) < 102 by decide), rfl, h.1, h.2⟩⟩
theorem el8 : ((EM A L N).2.1 8).2 = 40 := rfl
theorem ek8 : ((EM A L N).2.1 8).1 = 100 := rfl
theorem ea8 (i : Int) : ow_gv (EM A L N) M 8 i = M 8 i := rfl
theorem en8 (i : Int) : ((EM A L N).1 8 i = none) = True := eq_true rfl
theorem er9 (i : Int) : ow_R (EM A L N) M 9 102 i = (0 ≤ i ∧ i < N) := propext ⟨fun h => ⟨h.2.2.2.1, h.2.2.2.2⟩, fun h => ⟨by decide, (show (9 : Int) < 102 by decide), rfl, h.1, h.2⟩⟩
theorem el9 : ((EM A L N).2.1 9).2 = N := rfl
theorem ek9 : ((EM A L N).2.1 9).1 = 102 := rfl
theorem ea9 (i : Int) : ow_gv (EM A L N) M 9 i = M 9 i := rfl
theorem en9 (i : Int) : ((EM A L N).1 9 i = none) = True := eq_true rfl
theorem eo10 : ow_O (EM A L N) M 10 0 = True := eq_true ⟨by decide, (show (10 : Int) < 102 by decide), rfl, rfl⟩
theorem eg10_0 : ow_gv (EM A L N) M 10 0 = 3 := rfl
theorem eg10_1 : ow_gv (EM A L N) M 10 1 = 11 := rfl
theorem eg10_2 : ow_gv (EM A L N) M 10 2 = 12 := rfl
theorem eg10_3 : ow_gv (EM A L N) M 10 3 = 13 := rfl
theorem eg10_4 : ow_gv (EM A L N) M 10 4 = M 10 4 := rfl
theorem en10_4 : ((EM A L N).1 10 4 = none) = True := eq_true rfl
theorem er11 (i : Int) : ow_R (EM A L N) M 11 100 i = (0 ≤ i ∧ i < 40) := propext ⟨fun h => ⟨h.2.2.2.1, h.2.2.2.2⟩, fun h => ⟨by decide, (show (11 : Int) < 102 by decide), rfl, h.1, h.2⟩⟩
theorem el11 : ((EM A L N).2.1 11).2 = 40 := rfl
theorem ek11 : ((EM A L N).2.1 11).1 = 100 := rfl
theorem ea11 (i : Int) : ow_gv (EM A L N) M 11 i = M 11 i := rfl
theorem en11 (i : Int) : ((EM A L N).1 11 i = none) = True := eq_true rfl
theorem er12 (i : Int) : ow_R (EM A L N) M 12 100 i = (0 ≤ i ∧ i < 40) := propext ⟨fun h => ⟨h.2.2.2.1, h.2.2.2.2⟩, fun h => ⟨by decide, (show (12 : Int) < 102 by decide), rfl, h.1, h.2⟩⟩
theorem el12 : ((EM A L N).2.1 12).2 = 40 := rfl
theorem ek12 : ((EM A L N).2.1 12).1 = 100 := rfl
theorem ea12 (i : Int) : ow_gv (EM A L N) M 12 i = M 12 i := rfl
theorem en12 (i : Int) : ((EM A L N).1 12 i = none) = True := eq_true rfl
theorem er13 (i : Int) : ow_R (EM A L N) M 13 102 i = (0 ≤ i ∧ i < N) := propext ⟨fun h => ⟨h.2.2.2.1, h.2.2.2.2⟩, fun h => ⟨by decide, (show (13 : Int) < 102 by decide), rfl, h.1, h.2⟩⟩
theorem el13 : ((EM A L N).2.1 13).2 = N := rfl
theorem ek13 : ((EM A L N).2.1 13).1 = 102 := rfl
theorem ea13 (i : Int) : ow_gv (EM A L N) M 13 i = M 13 i := rfl
theorem en13 (i : Int) : ((EM A L N).1 13 i = none) = True := eq_true rfl
theorem eo14 : ow_O (EM A L N) M 14 4 = True := eq_true ⟨by decide, (show (14 : Int) < 102 by decide), rfl, rfl⟩
theorem eg14_0 : ow_gv (EM A L N) M 14 0 = M 14 0 := rfl
theorem en14_0 : ((EM A L N).1 14 0 = none) = True := eq_true rfl
theorem eg14_1 : ow_gv (EM A L N) M 14 1 = M 14 1 := rfl
theorem en14_1 : ((EM A L N).1 14 1 = none) = True := eq_true rfl
theorem eg14_2 : ow_gv (EM A L N) M 14 2 = 15 := rfl
theorem eg14_3 : ow_gv (EM A L N) M 14 3 = 16 := rfl
theorem eg14_4 : ow_gv (EM A L N) M 14 4 = 17 := rfl
theorem er15 (i : Int) : ow_R (EM A L N) M 15 100 i = (0 ≤ i ∧ i < 40) := propext ⟨fun h => ⟨h.2.2.2.1, h.2.2.2.2⟩, fun h => ⟨by decide, (show (15 : Int) < 102 by decide), rfl, h.1, h.2⟩⟩
theorem el15 : ((EM A L N).2.1 15).2 = 40 := rfl
theorem ek15 : ((EM A L N).2.1 15).1 = 100 := rfl
theorem ea15 (i : Int) : ow_gv (EM A L N) M 15 i = M 15 i := rfl
theorem en15 (i : Int) : ((EM A L N).1 15 i = none) = True := eq_true rfl
theorem er16 (i : Int) : ow_R (EM A L N) M 16 100 i = (0 ≤ i ∧ i < 40) := propext ⟨fun h => ⟨h.2.2.2.1, h.2.2.2.2⟩, fun h => ⟨by decide, (show (16 : Int) < 102 by decide), rfl, h.1, h.2⟩⟩
theorem el16 : ((EM A L N).2.1 16).2 = 40 := rfl
theorem ek16 : ((EM A L N).2.1 16).1 = 100 := rfl
theorem ea16 (i : Int) : ow_gv (EM A L N) M 16 i = M 16 i := rfl
theorem en16 (i : Int) : ((EM A L N).1 16 i = none) = True := eq_true rfl
theorem er17 (i : Int) : ow_R (EM A L N) M 17 100 i = (0 ≤ i ∧ i < 40) := propext ⟨fun h => ⟨h.2.2.2.1, h.2.2.2.2⟩, fun h => ⟨by decide, (show (17 : Int) < 102 by decide), rfl, h.1, h.2⟩⟩
theorem el17 : ((EM A L N).2.1 17).2 = 40 := rfl
theorem ek17 : ((EM A L N).2.1 17).1 = 100 := rfl
theorem ea17 (i : Int) : ow_gv (EM A L N) M 17 i = M 17 i := rfl
theorem en17 (i : Int) : ((EM A L N).1 17 i = none) = True := eq_true rfl
theorem eo18 : ow_O (EM A L N) M 18 4 = True := eq_true ⟨by decide, (show (18 : Int) < 102 by decide), rfl, rfl⟩
theorem eg18_0 : ow_gv (EM A L N) M 18 0 = M 18 0 := rfl
theorem en18_0 : ((EM A L N).1 18 0 = none) = True := eq_true rfl
theorem eg18_1 : ow_gv (EM A L N) M 18 1 = M 18 1 := rfl
theorem en18_1 : ((EM A L N).1 18 1 = none) = True := eq_true rfl
theorem eg18_2 : ow_gv (EM A L N) M 18 2 = 19 := rfl
theorem eg18_3 : ow_gv (EM A L N) M 18 3 = 20 := rfl
theorem eg18_4 : ow_gv (EM A L N) M 18 4 = 21 := rfl
theorem er19 (i : Int) : ow_R (EM A L N) M 19 100 i = (0 ≤ i ∧ i < 40) := propext ⟨fun h => ⟨h.2.2.2.1, h.2.2.2.2⟩, fun h => ⟨by decide, (show (19 : Int) < 102 by decide), rfl, h.1, h.2⟩⟩
theorem el19 : ((EM A L N).2.1 19).2 = 40 := rfl
theorem ek19 : ((EM A L N).2.1 19).1 = 100 := rfl
theorem ea19 (i : Int) : ow_gv (EM A L N) M 19 i = M 19 i := rfl
theorem en19 (i : Int) : ((EM A L N).1 19 i = none) = True := eq_true rfl
theorem er20 (i : Int) : ow_R (EM A L N) M 20 100 i = (0 ≤ i ∧ i < 40) := propext ⟨fun h => ⟨h.2.2.2.1, h.2.2.2.2⟩, fun h => ⟨by decide, (show (20 : Int) < 102 by decide), rfl, h.1, h.2⟩⟩
theorem el20 : ((EM A L N).2.1 20).2 = 40 := rfl
theorem ek20 : ((EM A L N).2.1 20).1 = 100 := rfl
theorem ea20 (i : Int) : ow_gv (EM A L N) M 20 i = M 20 i := rfl
theorem en20 (i : Int) : ((EM A L N).1 20 i = none) = True := eq_true rfl
theorem er21 (i : Int) : ow_R (EM A L N) M 21 100 i = (0 ≤ i ∧ i < 40) := propext ⟨fun h => ⟨h.2.2.2.1, h.2.2.2.2⟩, fun h => ⟨by decide, (show (21 : Int) < 102 by decide), rfl, h.1, h.2⟩⟩
theorem el21 : ((EM A L N).2.1 21).2 = 40 := rfl
theorem ek21 : ((EM A L N).2.1 21).1 = 100 := rfl
theorem ea21 (i : Int) : ow_gv (EM A L N) M 21 i = M 21 i := rfl
theorem en21 (i : Int) : ((EM A L N).1 21 i = none) = True := eq_true rfl
theorem eo22 : ow_O (EM A L N) M 22 7 = True := eq_true ⟨by decide, (show (22 : Int) < 102 by decide), rfl, rfl⟩
theorem eg22_0 : ow_gv (EM A L N) M 22 0 = 23 := rfl
theorem eg22_1 : ow_gv (EM A L N) M 22 1 = M 22 1 := rfl
theorem en22_1 : ((EM A L N).1 22 1 = none) = True := eq_true rfl
theorem eg22_2 : ow_gv (EM A L N) M 22 2 = M 22 2 := rfl
theorem en22_2 : ((EM A L N).1 22 2 = none) = True := eq_true rfl
theorem eg22_3 : ow_gv (EM A L N) M 22 3 = M 22 3 := rfl
theorem en22_3 : ((EM A L N).1 22 3 = none) = True := eq_true rfl
theorem eg22_4 : ow_gv (EM A L N) M 22 4 = M 22 4 := rfl
theorem en22_4 : ((EM A L N).1 22 4 = none) = True := eq_true rfl
theorem eg22_5 : ow_gv (EM A L N) M 22 5 = M 22 5 := rfl
theorem en22_5 : ((EM A L N).1 22 5 = none) = True := eq_true rfl
theorem eg22_6 : ow_gv (EM A L N) M 22 6 = M 22 6 := rfl
theorem en22_6 : ((EM A L N).1 22 6 = none) = True := eq_true rfl
theorem eg22_7 : ow_gv (EM A L N) M 22 7 = M 22 7 := rfl
theorem en22_7 : ((EM A L N).1 22 7 = none) = True := eq_true rfl
theorem eg22_8 : ow_gv (EM A L N) M 22 8 = M 22 8 := rfl
theorem en22_8 : ((EM A L N).1 22 8 = none) = True := eq_true rfl
theorem eg22_9 : ow_gv (EM A L N) M 22 9 = 24 := rfl
theorem eg22_10 : ow_gv (EM A L N) M 22 10 = 25 := rfl
theorem eg22_11 : ow_gv (EM A L N) M 22 11 = M 22 11 := rfl
theorem en22_11 : ((EM A L N).1 22 11 = none) = True := eq_true rfl
theorem eg22_12 : ow_gv (EM A L N) M 22 12 = 26 := rfl
theorem eg22_13 : ow_gv (EM A L N) M 22 13 = 27 := rfl
theorem eg22_14 : ow_gv (EM A L N) M 22 14 = M 22 14 := rfl
theorem en22_14 : ((EM A L N).1 22 14 = none) = True := eq_true rfl
theorem er23 (i : Int) : ow_R (EM A L N) M 23 100 i = (0 ≤ i ∧ i < 300) := propext ⟨fun h => ⟨h.2.2.2.1, h.2.2.2.2⟩, fun h => ⟨by decide, (show (23 : Int) < 102 by decide), rfl, h.1, h.2⟩⟩
theorem el23 : ((EM A L N).2.1 23).2 = 300 := rfl
theorem ek23 : ((EM A L N).2.1 23).1 = 100 := rfl
theorem ea23 (i : Int) : ow_gv (EM A L N) M 23 i = M 23 i := rfl
theorem en23 (i : Int) : ((EM A L N).1 23 i = none) = True := eq_true rfl
theorem er24 (i : Int) : ow_R (EM A L N) M 24 100 i = (0 ≤ i ∧ i < 24) := propext ⟨fun h => ⟨h.2.2.2.1, h.2.2.2.2⟩, fun h => ⟨by decide, (show (24 : Int) < 102 by decide), rfl, h.1, h.2⟩⟩
theorem el24 : ((EM A L N).2.1 24).2 = 24 := rfl
theorem ek24 : ((EM A L N).2.1 24).1 = 100 := rfl
theorem ea24 (i : Int) : ow_gv (EM A L N) M 24 i = M 24 i := rfl
theorem en24 (i : Int) : ((EM A L N).1 24 i = none) = True := eq_true rfl
theorem er25 (i : Int) : ow_R (EM A L N) M 25 100 i = (0 ≤ i ∧ i < 24) := propext ⟨fun h => ⟨h.2.2.2.1, h.2.2.2.2⟩, fun h => ⟨by decide, (show (25 : Int) < 102 by decide), rfl, h.1, h.2⟩⟩
theorem el25 : ((EM A L N).2.1 25).2 = 24 := rfl
theorem ek25 : ((EM A L N).2.1 25).1 = 100 := rfl
theorem ea25 (i : Int) : ow_gv (EM A L N) M 25 i = M 25 i := rfl
theorem en25 (i : Int) : ((EM A L N).1 25 i = none) = True := eq_true rfl
theorem er26 (i : Int) : ow_R (EM A L N) M 26 100 i = (0 ≤ i ∧ i < 24) := propext ⟨fun h => ⟨h.2.2.2.1, h.2.2.2.2⟩, fun h => ⟨by decide, (show (26 : Int) < 102 by decide), rfl, h.1, h.2⟩⟩
theorem el26 : ((EM A L N).2.1 26).2 = 24 := rfl
theorem ek26 : ((EM A L N).2.1 26).1 = 100 := rfl
theorem ea26 (i : Int) : ow_gv (EM A L N) M 26 i = M 26 i := rfl
theorem en26 (i : Int) : ((EM A L N).1 26 i = none) = True := eq_true rfl
theorem er27 (i : Int) : ow_R (EM A L N) M 27 100 i = (0 ≤ i ∧ i < 24) := propext ⟨fun h => ⟨h.2.2.2.1, h.2.2.2.2⟩, fun h => ⟨by decide, (show (27 : Int) < 102 by decide), rfl, h.1, h.2⟩⟩
theorem el27 : ((EM A L N).2.1 27).2 = 24 := rfl
theorem ek27 : ((EM A L N).2.1 27).1 = 100 := rfl
theorem ea27 (i : Int) : ow_gv (EM A L N) M 27 i = M 27 i := rfl
theorem en27 (i : Int) : ((EM A L N).1 27 i = none) = True := eq_true rfl
theorem eo28 : ow_O (EM A L N) M 28 7 = True := eq_true ⟨by decide, (show (28 : Int) < 102 by decide), rfl, rfl⟩
theorem eg28_0 : ow_gv (EM A L N) M 28 0 = 29 := rfl
theorem eg28_1 : ow_gv (EM A L N) M 28 1 = M 28 1 := rfl
theorem en28_1 : ((EM A L N).1 28 1 = none) = True := eq_true rfl
theorem eg28_2 : ow_gv (EM A L N) M 28 2 = M 28 2 := rfl
theorem en28_2 : ((EM A L N).1 28 2 = none) = True := eq_true rfl
theorem eg28_3 : ow_gv (EM A L N) M 28 3 = M 28 3 := rfl
theorem en28_3 : ((EM A L N).1 28 3 = none) = True := eq_true rfl
theorem eg28_4 : ow_gv (EM A L N) M 28 4 = M 28 4 := rfl
theorem en28_4 : ((EM A L N).1 28 4 = none) = True := eq_true rfl
theorem eg28_5 : ow_gv (EM A L N) M 28 5 = M 28 5 := rfl
theorem en28_5 : ((EM A L N).1 28 5 = none) = True := eq_true rfl
theorem eg28_6 : ow_gv (EM A L N) M 28 6 = M 28 6 := rfl
theorem en28_6 : ((EM A L N).1 28 6 = none) = True := eq_true rfl
theorem eg28_7 : ow_gv (EM A L N) M 28 7 = M 28 7 := rfl
theorem en28_7 : ((EM A L N).1 28 7 = none) = True := eq_true rfl
theorem eg28_8 : ow_gv (EM A L N) M 28 8 = M 28 8 := rfl
theorem en28_8 : ((EM A L N).1 28 8 = none) = True := eq_true rfl
theorem eg28_9 : ow_gv (EM A L N) M 28 9 = 30 := rfl
theorem eg28_10 : ow_gv (EM A L N) M 28 10 = 31 := rfl
theorem eg28_11 : ow_gv (EM A L N) M 28 11 = M 28 11 := rfl
theorem en28_11 : ((EM A L N).1 28 11 = none) = True := eq_true rfl
theorem eg28_12 : ow_gv (EM A L N) M 28 12 = 32 := rfl
theorem eg28_13 : ow_gv (EM A L N) M 28 13 = 33 := rfl
theorem eg28_14 : ow_gv (EM A L N) M 28 14 = M 28 14 := rfl
theorem en28_14 : ((EM A L N).1 28 14 = none) = True := eq_true rfl
theorem er29 (i : Int) : ow_R (EM A L N) M 29 100 i = (0 ≤ i ∧ i < 300) := propext ⟨fun h => ⟨h.2.2.2.1, h.2.2.2.2⟩, fun h => ⟨by decide, (show (29 : Int) < 102 by decide), rfl, h.1, h.2⟩⟩
theorem el29 : ((EM A L N).2.1 29).2 = 300 := rfl
theorem ek29 : ((EM A L N).2.1 29).1 = 100 := rfl
theorem ea29 (i : Int) : ow_gv (EM A L N) M 29 i = M 29 i := rfl
theorem en29 (i : Int) : ((EM A L N).1 29 i = none) = True := eq_true rfl
theorem er30 (i : Int) : ow_R (EM A L N) M 30 100 i = (0 ≤ i ∧ i < 24) := propext ⟨fun h => ⟨h.2.2.2.1, h.2.2.2.2⟩, fun h => ⟨by decide, (show (30 : Int) < 102 by decide), rfl, h.1, h.2⟩⟩
theorem el30 : ((EM A L N).2.1 30).2 = 24 := rfl
theorem ek30 : ((EM A L N).2.1 30).1 = 100 := rfl
theorem ea30 (i : Int) : ow_gv (EM A L N) M 30 i = M 30 i := rfl
theorem en30 (i : Int) : ((EM A L N).1 30 i = none) = True := eq_true rfl
theorem er31 (i : Int) : ow_R (EM A L N) M 31 100 i = (0 ≤ i ∧ i < 24) := propext ⟨fun h => ⟨h.2.2.2.1, h.2.2.2.2⟩, fun h => ⟨by decide, (show (31 : Int) < 102 by decide), rfl, h.1, h.2⟩⟩
theorem el31 : ((EM A L N).2.1 31).2 = 24 := rfl
theorem ek31 : ((EM A L N).2.1 31).1 = 100 := rfl
theorem ea31 (i : Int) : ow_gv (EM A L N) M 31 i = M 31 i := rfl
theorem en31 (i : Int) : ((EM A L N).1 31 i = none) = True := eq_true rfl
theorem er32 (i : Int) : ow_R (EM A L N) M 32 100 i = (0 ≤ i ∧ i < 24) := propext ⟨fun h => ⟨h.2.2.2.1, h.2.2.2.2⟩, fun h => ⟨by decide, (show (32 : Int) < 102 by decide), rfl, h.1, h.2⟩⟩
theorem el32 : ((EM A L N).2.1 32).2 = 24 := rfl
theorem ek32 : ((EM A L N).2.1 32).1 = 100 := rfl
theorem ea32 (i : Int) : ow_gv (EM A L N) M 32 i = M 32 i := rfl
theorem en32 (i : Int) : ((EM A L N).1 32 i = none) = True := eq_true rfl
theorem er33 (i : Int) : ow_R (EM A L N) M 33 100 i = (0 ≤ i ∧ i < 24) := propext ⟨fun h => ⟨h.2.2.2.1, h.2.2.2.2⟩, fun h => ⟨by decide, (show (33 : Int) < 102 by decide), rfl, h.1, h.2⟩⟩
theorem el33 : ((EM A L N).2.1 33).2 = 24 := rfl
theorem ek33 : ((EM A L N).2.1 33).1 = 100 := rfl
theorem ea33 (i : Int) : ow_gv (EM A L N) M 33 i = M 33 i := rfl
theorem en33 (i : Int) : ((EM A L N).1 33 i = none) = True := eq_true rfl
theorem eo34 : ow_O (EM A L N) M 34 7 = True := eq_true ⟨by decide, (show (34 : Int) < 102 by decide), rfl, rfl⟩
theorem eg34_0 : ow_gv (EM A L N) M 34 0 = 35 := rfl
theorem eg34_1 : ow_gv (EM A L N) M 34 1 = M 34 1 := rfl
theorem en34_1 : ((EM A L N).1 34 1 = none) = True := eq_true rfl
theorem eg34_2 : ow_gv (EM A L N) M 34 2 = M 34 2 := rfl
theorem en34_2 : ((EM A L N).1 34 2 = none) = True := eq_true rfl
theorem eg34_3 : ow_gv (EM A L N) M 34 3 = M 34 3 := rfl
theorem en34_3 : ((EM A L N).1 34 3 = none) = True := eq_true rfl
theorem eg34_4 : ow_gv (EM A L N) M 34 4 = M 34 4 := rfl
theorem en34_4 : ((EM A L N).1 34 4 = none) = True := eq_true rfl
theorem eg34_5 : ow_gv (EM A L N) M 34 5 = M 34 5 := rfl
theorem en34_5 : ((EM A L N).1 34 5 = none) = True := eq_true rfl
theorem eg34_6 : ow_gv (EM A L N) M 34 6 = M 34 6 := rfl
theorem en34_6 : ((EM A L N).1 34 6 = none) = True := eq_true rfl
theorem eg34_7 : ow_gv (EM A L N) M 34 7 = M 34 7 := rfl
theorem en34_7 : ((EM A L N).1 34 7 = none) = True := eq_true rfl
theorem eg34_8 : ow_gv (EM A L N) M 34 8 = M 34 8 := rfl
theorem en34_8 : ((EM A L N).1 34 8 = none) = True := eq_true rfl
theorem eg34_9 : ow_gv (EM A L N) M 34 9 = 36 := rfl
theorem eg34_10 : ow_gv (EM A L N) M 34 10 = 37 := rfl
theorem eg34_11 : ow_gv (EM A L N) M 34 11 = M 34 11 := rfl
theorem en34_11 : ((EM A L N).1 34 11 = none) = True := eq_true rfl
theorem eg34_12 : ow_gv (EM A L N) M 34 12 = 38 := rfl
theorem eg34_13 : ow_gv (EM A L N) M 34 13 = 39 := rfl
theorem eg34_14 : ow_gv (EM A L N) M 34 14 = M 34 14 := rfl
theorem en34_14 : ((EM A L N).1 34 14 = none) = True := eq_true rfl
theorem er35 (i : Int) : ow_R (EM A L N) M 35 100 i = (0 ≤ i ∧ i < 300) := propext ⟨fun h => ⟨h.2.2.2.1, h.2.2.2.2⟩, fun h => ⟨by decide, (show (35 : Int) < 102 by decide), rfl, h.1, h.2⟩⟩
theorem el35 : ((EM A L N).2.1 35).2 = 300 := rfl
theorem ek35 : ((EM A L N).2.1 35).1 = 100 := rfl
theorem ea35 (i : Int) : ow_gv (EM A L N) M 35 i = M 35 i := rfl
theorem en35 (i : Int) : ((EM A L N).1 35 i = none) = True := eq_true rfl
theorem er36 (i : Int) : ow_R (EM A L N) M 36 100 i = (0 ≤ i ∧ i < 24) := propext ⟨fun h => ⟨h.2.2.2.1, h.2.2.2.2⟩, fun h => ⟨by decide, (show (36 : Int) < 102 by decide), rfl, h.1, h.2⟩⟩
theorem el36 : ((EM A L N).2.1 36).2 = 24 := rfl
theorem ek36 : ((EM A L N).2.1 36).1 = 100 := rfl
theorem ea36 (i : Int) : ow_gv (EM A L N) M 36 i = M 36 i := rfl
theorem en36 (i : Int) : ((EM A L N).1 36 i = none) = True := eq_true rfl
theorem er37 (i : Int) : ow_R (EM A L N) M 37 100 i = (0 ≤ i ∧ i < 24) := propext ⟨fun h => ⟨h.2.2.2.1, h.2.2.2.2⟩, fun h => ⟨by decide, (show (37 : Int) < 102 by decide), rfl, h.1, h.2⟩⟩
theorem el37 : ((EM A L N).2.1 37).2 = 24 := rfl
theorem ek37 : ((EM A L N).2.1 37).1 = 100 := rfl
theorem ea37 (i : Int) : ow_gv (EM A L N) M 37 i = M 37 i := rfl
theorem en37 (i : Int) : ((EM A L N).1 37 i = none) = True := eq_true rfl
theorem er38 (i : Int) : ow_R (EM A L N) M 38 100 i = (0 ≤ i ∧ i < 24) := propext ⟨fun h => ⟨h.2.2.2.1, h.2.2.2.2⟩, fun h => ⟨by decide, (show (38 : Int) < 102 by decide), rfl, h.1, h.2⟩⟩
theorem el38 : ((EM A L N).2.1 38).2 = 24 := rfl
theorem ek38 : ((EM A L N).2.1 38).1 = 100 := rfl
theorem ea38 (i : Int) : ow_gv (EM A L N) M 38 i = M 38 i := rfl
theorem en38 (i : Int) : ((EM A L N).1 38 i = none) = True := eq_true rfl
theorem er39 (i : Int) : ow_R (EM A L N) M 39 100 i = (0 ≤ i ∧ i < 24) := propext ⟨fun h => ⟨h.2.2.2.1, h.2.2.2.2⟩, fun h => ⟨by decide, (show (39 : Int) < 102 by decide), rfl, h.1, h.2⟩⟩
theorem el39 : ((EM A L N).2.1 39).2 = 24 := rfl
theorem ek39 : ((EM A L N).2.1 39).1 = 100 := rfl
theorem ea39 (i : Int) : ow_gv (EM A L N) M 39 i = M 39 i := rfl
theorem en39 (i : Int) : ((EM A L N).1 39 i = none) = True := eq_true rfl
theorem eo40 : ow_O (EM A L N) M 40 7 = True := eq_true ⟨by decide, (show (40 : Int) < 102 by decide), rfl, rfl⟩
theorem eg40_0 : ow_gv (EM A L N) M 40 0 = 41 := rfl
theorem eg40_1 : ow_gv (EM A L N) M 40 1 = M 40 1 := rfl
theorem en40_1 : ((EM A L N).1 40 1 = none) = True := eq_true rfl
theorem eg40_2 : ow_gv (EM A L N) M 40 2 = M 40 2 := rfl
theorem en40_2 : ((EM A L N).1 40 2 = none) = True := eq_true rfl
theorem eg40_3 : ow_gv (EM A L N) M 40 3 = M 40 3 := rfl
theorem en40_3 : ((EM A L N).1 40 3 = none) = True := eq_true rfl
theorem eg40_4 : ow_gv (EM A L N) M 40 4 = M 40 4 := rfl
theorem en40_4 : ((EM A L N).1 40 4 = none) = True := eq_true rfl
theorem eg40_5 : ow_gv (EM A L N) M 40 5 = M 40 5 := rfl
theorem en40_5 : ((EM A L N).1 40 5 = none) = True := eq_true rfl
theorem eg40_6 : ow_gv (EM A L N) M 40 6 = M 40 6 := rfl
theorem en40_6 : ((EM A L N).1 40 6 = none) = True := eq_true rfl
theorem eg40_7 : ow_gv (EM A L N) M 40 7 = M 40 7 := rfl
theorem en40_7 : ((EM A L N).1 40 7 = none) = True := eq_true rfl
theorem eg40_8 : ow_gv (EM A L N) M 40 8 = M 40 8 := rfl
theorem en40_8 : ((EM A L N).1 40 8 = none) = True := eq_true rfl
theorem eg40_9 : ow_gv (EM A L N) M 40 9 = 42 := rfl
theorem eg40_10 : ow_gv (EM A L N) M 40 10 = 43 := rfl
theorem eg40_11 : ow_gv (EM A L N) M 40 11 = M 40 11 := rfl
theorem en40_11 : ((EM A L N).1 40 11 = none) = True := eq_true rfl
theorem eg40_12 : ow_gv (EM A L N) M 40 12 = 44 := rfl
theorem eg40_13 : ow_gv (EM A L N) M 40 13 = 45 := rfl
theorem eg40_14 : ow_gv (EM A L N) M 40 14 = M 40 14 := rfl
theorem en40_14 : ((EM A L N).1 40 14 = none) = True := eq_true rfl
theorem er41 (i : Int) : ow_R (EM A L N) M 41 100 i = (0 ≤ i ∧ i < 300) := propext ⟨fun h => ⟨h.2.2.2.1, h.2.2.2.2⟩, fun h => ⟨by decide, (show (41 : Int) < 102 by decide), rfl, h.1, h.2⟩⟩
theorem el41 : ((EM A L N).2.1 41).2 = 300 := rfl
theorem ek41 : ((EM A L N).2.1 41).1 = 100 := rfl
theorem ea41 (i : Int) : ow_gv (EM A L N) M 41 i = M 41 i := rfl
theorem en41 (i : Int) : ((EM A L N).1 41 i = none) = True := eq_true rfl
theorem er42 (i : Int) : ow_R (EM A L N) M 42 100 i = (0 ≤ i ∧ i < 24) := propext ⟨fun h => ⟨h.2.2.2.1, h.2.2.2.2⟩, fun h => ⟨by decide, (show (42 : Int) < 102 by decide), rfl, h.1, h.2⟩⟩
theorem el42 : ((EM A L N).2.1 42).2 = 24 := rfl
theorem ek42 : ((EM A L N).2.1 42).1 = 100 := rfl
theorem ea42 (i : Int) : ow_gv (EM A L N) M 42 i = M 42 i := rfl
theorem en42 (i : Int) : ((EM A L N).1 42 i = none) = True := eq_true rfl
theorem er43 (i : Int) : ow_R (EM A L N) M 43 100 i = (0 ≤ i ∧ i < 24) := propext ⟨fun h => ⟨h.2.2.2.1, h.2.2.2.2⟩, fun h => ⟨by decide, (show (43 : Int) < 102 by decide), rfl, h.1, h.2⟩⟩
theorem el43 : ((EM A L N).2.1 43).2 = 24 := rfl
theorem ek43 : ((EM A L N).2.1 43).1 = 100 := rfl
theorem ea43 (i : Int) : ow_gv (EM A L N) M 43 i = M 43 i := rfl
theorem en43 (i : Int) : ((EM A L N).1 43 i = none) = True := eq_true rfl
theorem er44 (i : Int) : ow_R (EM A L N) M 44 100 i = (0 ≤ i ∧ i < 24) := propext ⟨fun h => ⟨h.2.2.2.1, h.2.2.2.2⟩, fun h => ⟨by decide, (show (44 : Int) < 102 by decide), rfl, h.1, h.2⟩⟩
theorem el44 : ((EM A L N).2.1 44).2 = 24 := rfl
theorem ek44 : ((EM A L N).2.1 44).1 = 100 := rfl
theorem ea44 (i : Int) : ow_gv (EM A L N) M 44 i = M 44 i := rfl
theorem en44 (i : Int) : ((EM A L N).1 44 i = none) = True := eq_true rfl
theorem er45 (i : Int) : ow_R (EM A L N) M 45 100 i = (0 ≤ i ∧ i < 24) := propext ⟨fun h => ⟨h.2.2.2.1, h.2.2.2.2⟩, fun h => ⟨by decide, (show (45 : Int) < 102 by decide), rfl, h.1, h.2⟩⟩
theorem el45 : ((EM A L N).2.1 45).2 = 24 := rfl
theorem ek45 : ((EM A L N).2.1 45).1 = 100 := rfl
theorem ea45 (i : Int) : ow_gv (EM A L N) M 45 i = M 45 i := rfl
theorem en45 (i : Int) : ((EM A L N).1 45 i = none) = True := eq_true rfl
theorem eo46 : ow_O (EM A L N) M 46 6 = True := eq_true ⟨by decide, (show (46 : Int) < 102 by decide), rfl, rfl⟩
theorem eg46_0 : ow_gv (EM A L N) M 46 0 = 53 := rfl
theorem eg46_1 : ow_gv (EM A L N) M 46 1 = M 46 1 := rfl
theorem en46_1 : ((EM A L N).1 46 1 = none) = True := eq_true rfl
theorem eg46_2 : ow_gv (EM A L N) M 46 2 = M 46 2 := rfl
theorem en46_2 : ((EM A L N).1 46 2 = none) = True := eq_true rfl
theorem eg46_3 : ow_gv (EM A L N) M 46 3 = M 46 3 := rfl
theorem en46_3 : ((EM A L N).1 46 3 = none) = True := eq_true rfl
theorem eg46_4 : ow_gv (EM A L N) M 46 4 = M 46 4 := rfl
theorem en46_4 : ((EM A L N).1 46 4 = none) = True := eq_true rfl
theorem eg46_5 : ow_gv (EM A L N) M 46 5 = M 46 5 := rfl
theorem en46_5 : ((EM A L N).1 46 5 = none) = True := eq_true rfl
theorem eo47 : ow_O (EM A L N) M 47 7 = True := eq_true ⟨by decide, (show (47 : Int) < 102 by decide), rfl, rfl⟩
theorem eg47_0 : ow_gv (EM A L N) M 47 0 = 48 := rfl
theorem eg47_1 : ow_gv (EM A L N) M 47 1 = M 47 1 := rfl
theorem en47_1 : ((EM A L N).1 47 1 = none) = True := eq_true rfl
theorem eg47_2 : ow_gv (EM A L N) M 47 2 = M 47 2 := rfl
theorem en47_2 : ((EM A L N).1 47 2 = none) = True := eq_true rfl
theorem eg47_3 : ow_gv (EM A L N) M 47 3 = M 47 3 := rfl
theorem en47_3 : ((EM A L N).1 47 3 = none) = True := eq_true rfl
theorem eg47_4 : ow_gv (EM A L N) M 47 4 = M 47 4 := rfl
theorem en47_4 : ((EM A L N).1 47 4 = none) = True := eq_true rfl
theorem eg47_5 : ow_gv (EM A L N) M 47 5 = M 47 5 := rfl
theorem en47_5 : ((EM A L N).1 47 5 = none) = True := eq_true rfl
theorem eg47_6 : ow_gv (EM A L N) M 47 6 = M 47 6 := rfl
theorem en47_6 : ((EM A L N).1 47 6 = none) = True := eq_true rfl
theorem eg47_7 : ow_gv (EM A L N) M 47 7 = M 47 7 := rfl
theorem en47_7 : ((EM A L N).1 47 7 = none) = True := eq_true rfl
theorem eg47_8 : ow_gv (EM A L N) M 47 8 = M 47 8 := rfl
theorem en47_8 : ((EM A L N).1 47 8 = none) = True := eq_true rfl
theorem eg47_9 : ow_gv (EM A L N) M 47 9 = 49 := rfl
theorem eg47_10 : ow_gv (EM A L N) M 47 10 = 50 := rfl
theorem eg47_11 : ow_gv (EM A L N) M 47 11 = M 47 11 := rfl
theorem en47_11 : ((EM A L N).1 47 11 = none) = True := eq_true rfl
theorem eg47_12 : ow_gv (EM A L N) M 47 12 = 51 := rfl
theorem eg47_13 : ow_gv (EM A L N) M 47 13 = 52 := rfl
theorem eg47_14 : ow_gv (EM A L N) M 47 14 = M 47 14 := rfl
theorem en47_14 : ((EM A L N).1 47 14 = none) = True := eq_true rfl
theorem er48 (i : Int) : ow_R (EM A L N) M 48 100 i = (0 ≤ i ∧ i < 300) := propext ⟨fun h => ⟨h.2.2.2.1, h.2.2.2.2⟩, fun h => ⟨by decide, (show (48 : Int) < 102 by decide), rfl, h.1, h.2⟩⟩
theorem el48 : ((EM A L N).2.1 48).2 = 300 := rfl
theorem ek48 : ((EM A L N).2.1 48).1 = 100 := rfl
theorem ea48 (i : Int) : ow_gv (EM A L N) M 48 i = M 48 i := rfl
theorem en48 (i : Int) : ((EM A L N).1 48 i = none) = True := eq_true rfl
theorem er49 (i : Int) : ow_R (EM A L N) M 49 100 i = (0 ≤ i ∧ i < 24) := propext ⟨fun h => ⟨h.2.2.2.1, h.2.2.2.2⟩, fun h => ⟨by decide, (show (49 : Int) < 102 by decide), rfl, h.1, h.2⟩⟩
theorem el49 : ((EM A L N).2.1 49).2 = 24 := rfl
theorem ek49 : ((EM A L N).2.1 49).1 = 100 := rfl
theorem ea49 (i : Int) : ow_gv (EM A L N) M 49 i = M 49 i := rfl
theorem en49 (i : Int) : ((EM A L N).1 49 i = none) = True := eq_true rfl
theorem er50 (i : Int) : ow_R (EM A L N) M 50 100 i = (0 ≤ i ∧ i < 24) := propext ⟨fun h => ⟨h.2.2.2.1, h.2.2.2.2⟩, fun h => ⟨by decide, (show (50 : Int) < 102 by decide), rfl, h.1, h.2⟩⟩
theorem el50 : ((EM A L N).2.1 50).2 = 24 := rfl
theorem ek50 : ((EM A L N).2.1 50).1 = 100 := rfl
theorem ea50 (i : Int) : ow_gv (EM A L N) M 50 i = M 50 i := rfl
theorem en50 (i : Int) : ((EM A L N).1 50 i = none) = True := eq_true rfl
theorem er51 (i : Int) : ow_R (EM A L N) M 51 100 i = (0 ≤ i ∧ i < 24) := propext ⟨fun h => ⟨h.2.2.2.1, h.2.2.2.2⟩, fun h => ⟨by decide, (show (51 : Int) < 102 by decide), rfl, h.1, h.2⟩⟩
theorem el51 : ((EM A L N).2.1 51).2 = 24 := rfl
theorem ek51 : ((EM A L N).2.1 51).1 = 100 := rfl
theorem ea51 (i : Int) : ow_gv (EM A L N) M 51 i = M 51 i := rfl
theorem en51 (i : Int) : ((EM A L N).1 51 i = none) = True := eq_true rfl
theorem er52 (i : Int) : ow_R (EM A L N) M 52 100 i = (0 ≤ i ∧ i < 24) := propext ⟨fun h => ⟨h.2.2.2.1, h.2.2.2.2⟩, fun h => ⟨by decide, (show (52 : Int) < 102 by decide), rfl, h.1, h.2⟩⟩
theorem el52 : ((EM A L N).2.1 52).2 = 24 := rfl
theorem ek52 : ((EM A L N).2.1 52).1 = 100 := rfl
theorem ea52 (i : Int) : ow_gv (EM A L N) M 52 i = M 52 i := rfl
theorem en52 (i : Int) : ((EM A L N).1 52 i = none) = True := eq_true rfl
theorem eo53 : ow_O (EM A L N) M 53 8 = True := eq_true ⟨by decide, (show (53 : Int) < 102 by decide), rfl, rfl⟩
theorem eg53_0 : ow_gv (EM A L N) M 53 0 = 3 := rfl
theorem eg53_1 : ow_gv (EM A L N) M 53 1 = 54 := rfl
theorem eg53_2 : ow_gv (EM A L N) M 53 2 = 55 := rfl
theorem eg53_3 : ow_gv (EM A L N) M 53 3 = 56 := rfl
theorem eg53_4 : ow_gv (EM A L N) M 53 4 = 57 := rfl
theorem eg53_5 : ow_gv (EM A L N) M 53 5 = M 53 5 := rfl
theorem en53_5 : ((EM A L N).1 53 5 = none) = True := eq_true rfl
theorem eg53_6 : ow_gv (EM A L N) M 53 6 = M 53 6 := rfl
theorem en53_6 : ((EM A L N).1 53 6 = none) = True := eq_true rfl
theorem eg53_7 : ow_gv (EM A L N) M 53 7 = M 53 7 := rfl
theorem en53_7 : ((EM A L N).1 53 7 = none) = True := eq_true rfl
theorem er54 (i : Int) : ow_R (EM A L N) M 54 100 i = (0 ≤ i ∧ i < 301) := propext ⟨fun h => ⟨h.2.2.2.1, h.2.2.2.2⟩, fun h => ⟨by decide, (show (54 : Int) < 102 by decide), rfl, h.1, h.2⟩⟩
theorem el54 : ((EM A L N).2.1 54).2 = 301 := rfl
theorem ek54 : ((EM A L N).2.1 54).1 = 100 := rfl
theorem ea54 (i : Int) : ow_gv (EM A L N) M 54 i = M 54 i := rfl
theorem en54 (i : Int) : ((EM A L N).1 54 i = none) = True := eq_true rfl
theorem er55 (i : Int) : ow_R (EM A L N) M 55 100 i = (0 ≤ i ∧ i < 301) := propext ⟨fun h => ⟨h.2.2.2.1, h.2.2.2.2⟩, fun h => ⟨by decide, (show (55 : Int) < 102 by decide), rfl, h.1, h.2⟩⟩
theorem el55 : ((EM A L N).2.1 55).2 = 301 := rfl
theorem ek55 : ((EM A L N).2.1 55).1 = 100 := rfl
theorem ea55 (i : Int) : ow_gv (EM A L N) M 55 i = M 55 i := rfl
theorem en55 (i : Int) : ((EM A L N).1 55 i = none) = True := eq_true rfl
theorem er56 (i : Int) : ow_R (EM A L N) M 56 100 i = (0 ≤ i ∧ i < 301) := propext ⟨fun h => ⟨h.2.2.2.1, h.2.2.2.2⟩, fun h => ⟨by decide, (show (56 : Int) < 102 by decide), rfl, h.1, h.2⟩⟩
theorem el56 : ((EM A L N).2.1 56).2 = 301 := rfl
theorem ek56 : ((EM A L N).2.1 56).1 = 100 := rfl
theorem ea56 (i : Int) : ow_gv (EM A L N) M 56 i = M 56 i := rfl
theorem en56 (i : Int) : ((EM A L N).1 56 i = none) = True := eq_true rfl
theorem er57 (i : Int) : ow_R (EM A L N) M 57 100 i = (0 ≤ i ∧ i < 301) := propext ⟨fun h => ⟨h.2.2.2.1, h.2.2.2.2⟩, fun h => ⟨by decide, (show (57 : Int) < 102 by decide), rfl, h.1, h.2⟩⟩
theorem el57 : ((EM A L N).2.1 57).2 = 301 := rfl
theorem ek57 : ((EM A L N).2.1 57).1 = 100 := rfl
theorem ea57 (i : Int) : ow_gv (EM A L N) M 57 i = M 57 i := rfl
theorem en57 (i : Int) : ((EM A L N).1 57 i = none) = True := eq_true rfl
theorem eo58 : ow_O (EM A L N) M 58 9 = True := eq_true ⟨by decide, (show (58 : Int) < 102 by decide), rfl, rfl⟩
theorem eg58_0 : ow_gv (EM A L N) M 58 0 = 3 := rfl
theorem eg58_1 : ow_gv (EM A L N) M 58 1 = 59 := rfl
theorem eg58_2 : ow_gv (EM A L N) M 58 2 = (L + 1) := rfl
theorem eg58_3 : ow_gv (EM A L N) M 58 3 = 62 := rfl
theorem eg58_4 : ow_gv (EM A L N) M 58 4 = 63 := rfl
theorem eg58_5 : ow_gv (EM A L N) M 58 5 = M 58 5 := rfl
theorem en58_5 : ((EM A L N).1 58 5 = none) = True := eq_true rfl
theorem eg58_6 : ow_gv (EM A L N) M 58 6 = M 58 6 := rfl
theorem en58_6 : ((EM A L N).1 58 6 = none) = True := eq_true rfl
theorem eo59 : ow_O (EM A L N) M 59 3 = True := eq_true ⟨by decide, (show (59 : Int) < 102 by decide), rfl, rfl⟩
theorem eg59_0 : ow_gv (EM A L N) M 59 0 = 60 := rfl
theorem eg59_1 : ow_gv (EM A L N) M 59 1 = 61 := rfl
theorem eg59_2 : ow_gv (EM A L N) M 59 2 = M 59 2 := rfl
theorem en59_2 : ((EM A L N).1 59 2 = none) = True := eq_true rfl
theorem er60 (i : Int) : ow_R (EM A L N) M 60 100 i = (0 ≤ i ∧ i < 6) := propext ⟨fun h => ⟨h.2.2.2.1, h.2.2.2.2⟩, fun h => ⟨by decide, (show (60 : Int) < 102 by decide), rfl, h.1, h.2⟩⟩
theorem el60 : ((EM A L N).2.1 60).2 = 6 := rfl
theorem ek60 : ((EM A L N).2.1 60).1 = 100 := rfl
theorem ea60 (i : Int) : ow_gv (EM A L N) M 60 i = M 60 i := rfl
theorem en60 (i : Int) : ((EM A L N).1 60 i = none) = True := eq_true rfl
theorem er61 (i : Int) : ow_R (EM A L N) M 61 100 i = (0 ≤ i ∧ i < 300) := propext ⟨fun h => ⟨h.2.2.2.1, h.2.2.2.2⟩, fun h => ⟨by decide, (show (61 : Int) < 102 by decide), rfl, h.1, h.2⟩⟩
theorem el61 : ((EM A L N).2.1 61).2 = 300 := rfl
theorem ek61 : ((EM A L N).2.1 61).1 = 100 := rfl
theorem ea61 (i : Int) : ow_gv (EM A L N) M 61 i = M 61 i := rfl
theorem en61 (i : Int) : ((EM A L N).1 61 i = none) = True := eq_true rfl
theorem er62 (i : Int) : ow_R (EM A L N) M 62 100 i = (0 ≤ i ∧ i < (8 * L * A * A)) := propext ⟨fun h => ⟨h.2.2.2.1, h.2.2.2.2⟩, fun h => ⟨by decide, (show (62 : Int) < 102 by decide), rfl, h.1, h.2⟩⟩
theorem el62 : ((EM A L N).2.1 62).2 = (8 * L * A * A) := rfl
theorem ek62 : ((EM A L N).2.1 62).1 = 100 := rfl
theorem ea62 (i : Int) : ow_gv (EM A L N) M 62 i = M 62 i := rfl
theorem en62 (i : Int) : ((EM A L N).1 62 i = none) = True := eq_true rfl
theorem er63 (i : Int) : ow_R (EM A L N) M 63 100 i = (0 ≤ i ∧ i < (8 * L * A * A * (L + 1))) := propext ⟨fun h => ⟨h.2.2.2.1, h.2.2.2.2⟩, fun h => ⟨by decide, (show (63 : Int) < 102 by decide), rfl, h.1, h.2⟩⟩
theorem el63 : ((EM A L N).2.1 63).2 = (8 * L * A * A * (L + 1)) := rfl
theorem ek63 : ((EM A L N).2.1 63).1 = 100 := rfl
theorem ea63 (i : Int) : ow_gv (EM A L N) M 63 i = M 63 i := rfl
theorem en63 (i : Int) : ((EM A L N).1 63 i = none) = True := eq_true rfl
theorem eo64 : ow_O (EM A L N) M 64 5 = True := eq_true ⟨by decide, (show (64 : Int) < 102 by decide), rfl, rfl⟩
theorem eg64_0 : ow_gv (EM A L N) M 64 0 = 3 := rfl
theorem eg64_1 : ow_gv (EM A L N) M 64 1 = 58 := rfl
theorem eg64_2 : ow_gv (EM A L N) M 64 2 = (em_pw 2 (L + 1) - 1) := rfl
theorem eg64_3 : ow_gv (EM A L N) M 64 3 = 66 := rfl
theorem eg64_4 : ow_gv (EM A L N) M 64 4 = 76 := rfl
theorem eg64_5 : ow_gv (EM A L N) M 64 5 = 65 := rfl
theorem er65 (i : Int) : ow_R (EM A L N) M 65 100 i = (0 ≤ i ∧ i < 16) := propext ⟨fun h => ⟨h.2.2.2.1, h.2.2.2.2⟩, fun h => ⟨by decide, (show (65 : Int) < 102 by decide), rfl, h.1, h.2⟩⟩
theorem el65 : ((EM A L N).2.1 65).2 = 16 := rfl
theorem ek65 : ((EM A L N).2.1 65).1 = 100 := rfl
theorem ea65 (i : Int) : ow_gv (EM A L N) M 65 i = M 65 i := rfl
theorem en65 (i : Int) : ((EM A L N).1 65 i = none) = True := eq_true rfl
theorem er66 (i : Int) : ow_R (EM A L N) M 66 104 i = (0 ≤ i ∧ i < 9) := propext ⟨fun h => ⟨h.2.2.2.1, h.2.2.2.2⟩, fun h => ⟨by decide, (show (66 : Int) < 102 by decide), rfl, h.1, h.2⟩⟩
theorem el66 : ((EM A L N).2.1 66).2 = 9 := rfl
theorem ek66 : ((EM A L N).2.1 66).1 = 104 := rfl
theorem ea66 (i : Int) : ow_gv (EM A L N) M 66 i = 67 + i := rfl
theorem er67 (i : Int) : ow_R (EM A L N) M 67 100 i = (0 ≤ i ∧ i < N) := propext ⟨fun h => ⟨h.2.2.2.1, h.2.2.2.2⟩, fun h => ⟨by decide, (show (67 : Int) < 102 by decide), rfl, h.1, h.2⟩⟩
theorem el67 : ((EM A L N).2.1 67).2 = N := rfl
theorem ek67 : ((EM A L N).2.1 67).1 = 100 := rfl
theorem ea67 (i : Int) : ow_gv (EM A L N) M 67 i = M 67 i := rfl
theorem en67 (i : Int) : ((EM A L N).1 67 i = none) = True := eq_true rfl
theorem er68 (i : Int) : ow_R (EM A L N) M 68 100 i = (0 ≤ i ∧ i < N) := propext ⟨fun h => ⟨h.2.2.2.1, h.2.2.2.2⟩, fun h => ⟨by decide, (show (68 : Int) < 102 by decide), rfl, h.1, h.2⟩⟩
theorem el68 : ((EM A L N).2.1 68).2 = N := rfl
theorem ek68 : ((EM A L N).2.1 68).1 = 100 := rfl
theorem ea68 (i : Int) : ow_gv (EM A L N) M 68 i = M 68 i := rfl
theorem en68 (i : Int) : ((EM A L N).1 68 i = none) = True := eq_true rfl
theorem er69 (i : Int) : ow_R (EM A L N) M 69 100 i = (0 ≤ i ∧ i < N) := propext ⟨fun h => ⟨h.2.2.2.1, h.2.2.2.2⟩, fun h => ⟨by decide, (show (69 : Int) < 102 by decide), rfl, h.1, h.2⟩⟩
theorem el69 : ((EM A L N).2.1 69).2 = N := rfl
theorem ek69 : ((EM A L N).2.1 69).1 = 100 := rfl
theorem ea69 (i : Int) : ow_gv (EM A L N) M 69 i = M 69 i := rfl
theorem en69 (i : Int) : ((EM A L N).1 69 i = none) = True := eq_true rfl
theorem er70 (i : Int) : ow_R (EM A L N) M 70 100 i = (0 ≤ i ∧ i < N) := propext ⟨fun h => ⟨h.2.2.2.1, h.2.2.2.2⟩, fun h => ⟨by decide, (show (70 : Int) < 102 by decide), rfl, h.1, h.2⟩⟩
theorem el70 : ((EM A L N).2.1 70).2 = N := rfl
theorem ek70 : ((EM A L N).2.1 70).1 = 100 := rfl
theorem ea70 (i : Int) : ow_gv (EM A L N) M 70 i = M 70 i := rfl
theorem en70 (i : Int) : ((EM A L N).1 70 i = none) = True := eq_true rfl
theorem er71 (i : Int) : ow_R (EM A L N) M 71 100 i = (0 ≤ i ∧ i < N) := propext ⟨fun h => ⟨h.2.2.2.1, h.2.2.2.2⟩, fun h => ⟨by decide, (show (71 : Int) < 102 by decide), rfl, h.1, h.2⟩⟩
theorem el71 : ((EM A L N).2.1 71).2 = N := rfl
theorem ek71 : ((EM A L N).2.1 71).1 = 100 := rfl
theorem ea71 (i : Int) : ow_gv (EM A L N) M 71 i = M 71 i := rfl
theorem en71 (i : Int) : ((EM A L N).1 71 i = none) = True := eq_true rfl
theorem er72 (i : Int) : ow_R (EM A L N) M 72 100 i = (0 ≤ i ∧ i < N) := propext ⟨fun h => ⟨h.2.2.2.1, h.2.2.2.2⟩, fun h => ⟨by decide, (show (72 : Int) < 102 by decide), rfl, h.1, h.2⟩⟩
theorem el72 : ((EM A L N).2.1 72).2 = N := rfl
theorem ek72 : ((EM A L N).2.1 72).1 = 100 := rfl
theorem ea72 (i : Int) : ow_gv (EM A L N) M 72 i = M 72 i := rfl
theorem en72 (i : Int) : ((EM A L N).1 72 i = none) = True := eq_true rfl
theorem er73 (i : Int) : ow_R (EM A L N) M 73 100 i = (0 ≤ i ∧ i < N) := propext ⟨fun h => ⟨h.2.2.2.1, h.2.2.2.2⟩, fun h => ⟨by decide, (show (73 : Int) < 102 by decide), rfl, h.1, h.2⟩⟩
theorem el73 : ((EM A L N).2.1 73).2 = N := rfl
theorem ek73 : ((EM A L N).2.1 73).1 = 100 := rfl
theorem ea73 (i : Int) : ow_gv (EM A L N) M 73 i = M 73 i := rfl
theorem en73 (i : Int) : ((EM A L N).1 73 i = none) = True := eq_true rfl
theorem er74 (i : Int) : ow_R (EM A L N) M 74 100 i = (0 ≤ i ∧ i < N) := propext ⟨fun h => ⟨h.2.2.2.1, h.2.2.2.2⟩, fun h => ⟨by decide, (show (74 : Int) < 102 by decide), rfl, h.1, h.2⟩⟩
theorem el74 : ((EM A L N).2.1 74).2 = N := rfl
theorem ek74 : ((EM A L N).2.1 74).1 = 100 := rfl
theorem ea74 (i : Int) : ow_gv (EM A L N) M 74 i = M 74 i := rfl
theorem en74 (i : Int) : ((EM A L N).1 74 i = none) = True := eq_true rfl
theorem er75 (i : Int) : ow_R (EM A L N) M 75 100 i = (0 ≤ i ∧ i < N) := propext ⟨fun h => ⟨h.2.2.2.1, h.2.2.2.2⟩, fun h => ⟨by decide, (show (75 : Int) < 102 by decide), rfl, h.1, h.2⟩⟩
theorem el75 : ((EM A L N).2.1 75).2 = N := rfl
theorem ek75 : ((EM A L N).2.1 75).1 = 100 := rfl
theorem ea75 (i : Int) : ow_gv (EM A L N) M 75 i = M 75 i := rfl
theorem en75 (i : Int) : ((EM A L N).1 75 i = none) = True := eq_true rfl
theorem er76 (i : Int) : ow_R (EM A L N) M 76 100 i = (0 ≤ i ∧ i < N) := propext ⟨fun h => ⟨h.2.2.2.1, h.2.2.2.2⟩, fun h => ⟨by decide, (show (76 : Int) < 102 by decide), rfl, h.1, h.2⟩⟩
theorem el76 : ((EM A L N).2.1 76).2 = N := rfl
theorem ek76 : ((EM A L N).2.1 76).1 = 100 := rfl
theorem ea76 (i : Int) : ow_gv (EM A L N) M 76 i = M 76 i := rfl
theorem en76 (i : Int) : ((EM A L N).1 76 i = none) = True := eq_true rfl
theorem eo77 : ow_O (EM A L N) M 77 2 = True := eq_true ⟨by decide, (show (77 : Int) < 102 by decide), rfl, rfl⟩
theorem eg77_0 : ow_gv (EM A L N) M 77 0 = 3 := rfl
theorem eg77_1 : ow_gv (EM A L N) M 77 1 = 58 := rfl
theorem eg77_2 : ow_gv (EM A L N) M 77 2 = (L + 1) := rfl
theorem eg77_3 : ow_gv (EM A L N) M 77 3 = M 77 3 := rfl
theorem en77_3 : ((EM A L N).1 77 3 = none) = True := eq_true rfl
theorem eg77_4 : ow_gv (EM A L N) M 77 4 = M 77 4 := rfl
theorem en77_4 : ((EM A L N).1 77 4 = none) = True := eq_true rfl
theorem er78 (i : Int) : ow_R (EM A L N) M 78 101 i = (0 ≤ i ∧ i < (N * (L + 1))) := propext ⟨fun h => ⟨h.2.2.2.1, h.2.2.2.2⟩, fun h => ⟨by decide, (show (78 : Int) < 102 by decide), rfl, h.1, h.2⟩⟩
theorem el78 : ((EM A L N).2.1 78).2 = (N * (L + 1)) := rfl
theorem ek78 : ((EM A L N).2.1 78).1 = 101 := rfl
theorem ea78 (i : Int) : ow_gv (EM A L N) M 78 i = M 78 i := rfl
theorem en78 (i : Int) : ((EM A L N).1 78 i = none) = True := eq_true rfl
theorem er79 (i : Int) : ow_R (EM A L N) M 79 101 i = (0 ≤ i ∧ i < (N * (L + 1))) := propext ⟨fun h => ⟨h.2.2.2.1, h.2.2.2.2⟩, fun h => ⟨by decide, (show (79 : Int) < 102 by decide), rfl, h.1, h.2⟩⟩
theorem el79 : ((EM A L N).2.1 79).2 = (N * (L + 1)) := rfl
theorem ek79 : ((EM A L N).2.1 79).1 = 101 := rfl
theorem ea79 (i : Int) : ow_gv (EM A L N) M 79 i = M 79 i := rfl
theorem en79 (i : Int) : ((EM A L N).1 79 i = none) = True := eq_true rfl
theorem eo80 : ow_O (EM A L N) M 80 1 = True := eq_true ⟨by decide, (show (80 : Int) < 102 by decide), rfl, rfl⟩
theorem eg80_0 : ow_gv (EM A L N) M 80 0 = 3 := rfl
theorem eg80_1 : ow_gv (EM A L N) M 80 1 = 58 := rfl
theorem eg80_2 : ow_gv (EM A L N) M 80 2 = (L + 1) := rfl
theorem eg80_3 : ow_gv (EM A L N) M 80 3 = M 80 3 := rfl
theorem en80_3 : ((EM A L N).1 80 3 = none) = True := eq_true rfl
theorem eg80_4 : ow_gv (EM A L N) M 80 4 = M 80 4 := rfl
theorem en80_4 : ((EM A L N).1 80 4 = none) = True := eq_true rfl
theorem er81 (i : Int) : ow_R (EM A L N) M 81 100 i = (0 ≤ i ∧ i < (N * (L + 1))) := propext ⟨fun h => ⟨h.2.2.2.1, h.2.2.2.2⟩, fun h => ⟨by decide, (show (81 : Int) < 102 by decide), rfl, h.1, h.2⟩⟩
theorem el81 : ((EM A L N).2.1 81).2 = (N * (L + 1)) := rfl
theorem ek81 : ((EM A L N).2.1 81).1 = 100 := rfl
theorem ea81 (i : Int) : ow_gv (EM A L N) M 81 i = M 81 i := rfl
theorem en81 (i : Int) : ((EM A L N).1 81 i = none) = True := eq_true rfl
theorem er82 (i : Int) : ow_R (EM A L N) M 82 100 i = (0 ≤ i ∧ i < (N * (L + 1))) := propext ⟨fun h => ⟨h.2.2.2.1, h.2.2.2.2⟩, fun h => ⟨by decide, (show (82 : Int) < 102 by decide), rfl, h.1, h.2⟩⟩
theorem el82 : ((EM A L N).2.1 82).2 = (N * (L + 1)) := rfl
theorem ek82 : ((EM A L N).2.1 82).1 = 100 := rfl
theorem ea82 (i : Int) : ow_gv (EM A L N) M 82 i = M 82 i := rfl
theorem en82 (i : Int) : ((EM A L N).1 82 i = none) = True := eq_true rfl
theorem eo83 : ow_O (EM A L N) M 83 12 = True := eq_true ⟨by decide, (show (83 : Int) < 102 by decide), rfl, rfl⟩
theorem eg83_0 : ow_gv (EM A L N) M 83 0 = 84 := rfl
theorem eg83_1 : ow_gv (EM A L N) M 83 1 = 85 := rfl
theorem eg83_2 : ow_gv (EM A L N) M 83 2 = A := rfl
theorem eg83_3 : ow_gv (EM A L N) M 83 3 = L := rfl
theorem eg83_4 : ow_gv (EM A L N) M 83 4 = N := rfl
theorem eg83_5 : ow_gv (EM A L N) M 83 5 = 86 := rfl
theorem eg83_6 : ow_gv (EM A L N) M 83 6 = 87 := rfl
theorem eg83_7 : ow_gv (EM A L N) M 83 7 = M 83 7 := rfl
theorem en83_7 : ((EM A L N).1 83 7 = none) = True := eq_true rfl
theorem eg83_8 : ow_gv (EM A L N) M 83 8 = M 83 8 := rfl
theorem en83_8 : ((EM A L N).1 83 8 = none) = True := eq_true rfl
theorem eg83_9 : ow_gv (EM A L N) M 83 9 = M 83 9 := rfl
theorem en83_9 : ((EM A L N).1 83 9 = none) = True := eq_true rfl
theorem eg83_10 : ow_gv (EM A L N) M 83 10 = M 83 10 := rfl
theorem en83_10 : ((EM A L N).1 83 10 = none) = True := eq_true rfl
theorem eg83_11 : ow_gv (EM A L N) M 83 11 = M 83 11 := rfl
theorem en83_11 : ((EM A L N).1 83 11 = none) = True := eq_true rfl
theorem eg83_12 : ow_gv (EM A L N) M 83 12 = M 83 12 := rfl
theorem en83_12 : ((EM A L N).1 83 12 = none) = True := eq_true rfl
theorem eg83_13 : ow_gv (EM A L N) M 83 13 = M 83 13 := rfl
theorem en83_13 : ((EM A L N).1 83 13 = none) = True := eq_true rfl
theorem eg83_14 : ow_gv (EM A L N) M 83 14 = M 83 14 := rfl
theorem en83_14 : ((EM A L N).1 83 14 = none) = True := eq_true rfl
theorem eg83_15 : ow_gv (EM A L N) M 83 15 = M 83 15 := rfl
theorem en83_15 : ((EM A L N).1 83 15 = none) = True := eq_true rfl
theorem eg83_16 : ow_gv (EM A L N) M 83 16 = M 83 16 := rfl
theorem en83_16 : ((EM A L N).1 83 16 = none) = True := eq_true rfl
theorem eg83_17 : ow_gv (EM A L N) M 83 17 = M 83 17 := rfl
theorem en83_17 : ((EM A L N).1 83 17 = none) = True := eq_true rfl
theorem eg83_18 : ow_gv (EM A L N) M 83 18 = M 83 18 := rfl
theorem en83_18 : ((EM A L N).1 83 18 = none) = True := eq_true rfl
theorem eg83_19 : ow_gv (EM A L N) M 83 19 = 88 := rfl
theorem eg83_20 : ow_gv (EM A L N) M 83 20 = M 83 20 := rfl
theorem en83_20 : ((EM A L N).1 83 20 = none) = True := eq_true rfl
theorem eg83_21 : ow_gv (EM A L N) M 83 21 = M 83 21 := rfl
theorem en83_21 : ((EM A L N).1 83 21 = none) = True := eq_true rfl
theorem eg83_22 : ow_gv (EM A L N) M 83 22 = M 83 22 := rfl
theorem en83_22 : ((EM A L N).1 83 22 = none) = True := eq_true rfl
theorem eg83_23 : ow_gv (EM A L N) M 83 23 = M 83 23 := rfl
theorem en83_23 : ((EM A L N).1 83 23 = none) = True := eq_true rfl
theorem eg83_24 : ow_gv (EM A L N) M 83 24 = 89 := rfl
theorem eg83_25 : ow_gv (EM A L N) M 83 25 = 90 := rfl
theorem eg83_26 : ow_gv (EM A L N) M 83 26 = 91 := rfl
theorem eg83_27 : ow_gv (EM A L N) M 83 27 = M 83 27 := rfl
theorem en83_27 : ((EM A L N).1 83 27 = none) = True := eq_true rfl
theorem eg83_28 : ow_gv (EM A L N) M 83 28 = M 83 28 := rfl
theorem en83_28 : ((EM A L N).1 83 28 = none) = True := eq_true rfl
theorem eg83_29 : ow_gv (EM A L N) M 83 29 = 92 := rfl
theorem eg83_30 : ow_gv (EM A L N) M 83 30 = 93 := rfl
theorem eg83_31 : ow_gv (EM A L N) M 83 31 = 94 := rfl
theorem eg83_32 : ow_gv (EM A L N) M 83 32 = 95 := rfl
theorem eg83_33 : ow_gv (EM A L N) M 83 33 = 96 := rfl
theorem eg83_34 : ow_gv (EM A L N) M 83 34 = 97 := rfl
theorem eg83_35 : ow_gv (EM A L N) M 83 35 = 98 := rfl
theorem eg83_36 : ow_gv (EM A L N) M 83 36 = 99 := rfl
theorem eg83_37 : ow_gv (EM A L N) M 83 37 = 100 := rfl
theorem eg83_38 : ow_gv (EM A L N) M 83 38 = 101 := rfl
theorem eg83_39 : ow_gv (EM A L N) M 83 39 = M 83 39 := rfl
theorem en83_39 : ((EM A L N).1 83 39 = none) = True := eq_true rfl
theorem er84 (i : Int) : ow_R (EM A L N) M 84 100 i = (0 ≤ i ∧ i < 215) := propext ⟨fun h => ⟨h.2.2.2.1, h.2.2.2.2⟩, fun h => ⟨by decide, (show (84 : Int) < 102 by decide), rfl, h.1, h.2⟩⟩
theorem el84 : ((EM A L N).2.1 84).2 = 215 := rfl
theorem ek84 : ((EM A L N).2.1 84).1 = 100 := rfl
theorem ea84 (i : Int) : ow_gv (EM A L N) M 84 i = M 84 i := rfl
theorem en84 (i : Int) : ((EM A L N).1 84 i = none) = True := eq_true rfl
theorem er85 (i : Int) : ow_R (EM A L N) M 85 100 i = (0 ≤ i ∧ i < 215) := propext ⟨fun h => ⟨h.2.2.2.1, h.2.2.2.2⟩, fun h => ⟨by decide, (show (85 : Int) < 102 by decide), rfl, h.1, h.2⟩⟩
theorem el85 : ((EM A L N).2.1 85).2 = 215 := rfl
theorem ek85 : ((EM A L N).2.1 85).1 = 100 := rfl
theorem ea85 (i : Int) : ow_gv (EM A L N) M 85 i = M 85 i := rfl
theorem en85 (i : Int) : ((EM A L N).1 85 i = none) = True := eq_true rfl
theorem er86 (i : Int) : ow_R (EM A L N) M 86 100 i = (0 ≤ i ∧ i < 2720) := propext ⟨fun h => ⟨h.2.2.2.1, h.2.2.2.2⟩, fun h => ⟨by decide, (show (86 : Int) < 102 by decide), rfl, h.1, h.2⟩⟩
theorem el86 : ((EM A L N).2.1 86).2 = 2720 := rfl
theorem ek86 : ((EM A L N).2.1 86).1 = 100 := rfl
theorem ea86 (i : Int) : ow_gv (EM A L N) M 86 i = M 86 i := rfl
theorem en86 (i : Int) : ((EM A L N).1 86 i = none) = True := eq_true rfl
theorem er87 (i : Int) : ow_R (EM A L N) M 87 100 i = (0 ≤ i ∧ i < 300) := propext ⟨fun h => ⟨h.2.2.2.1, h.2.2.2.2⟩, fun h => ⟨by decide, (show (87 : Int) < 102 by decide), rfl, h.1, h.2⟩⟩
theorem el87 : ((EM A L N).2.1 87).2 = 300 := rfl
theorem ek87 : ((EM A L N).2.1 87).1 = 100 := rfl
theorem ea87 (i : Int) : ow_gv (EM A L N) M 87 i = M 87 i := rfl
theorem en87 (i : Int) : ((EM A L N).1 87 i = none) = True := eq_true rfl
theorem er88 (i : Int) : ow_R (EM A L N) M 88 100 i = (0 ≤ i ∧ i < 160) := propext ⟨fun h => ⟨h.2.2.2.1, h.2.2.2.2⟩, fun h => ⟨by decide, (show (88 : Int) < 102 by decide), rfl, h.1, h.2⟩⟩
theorem el88 : ((EM A L N).2.1 88).2 = 160 := rfl
theorem ek88 : ((EM A L N).2.1 88).1 = 100 := rfl
theorem ea88 (i : Int) : ow_gv (EM A L N) M 88 i = M 88 i := rfl
theorem en88 (i : Int) : ((EM A L N).1 88 i = none) = True := eq_true rfl
theorem er89 (i : Int) : ow_R (EM A L N) M 89 100 i = (0 ≤ i ∧ i < 6) := propext ⟨fun h => ⟨h.2.2.2.1, h.2.2.2.2⟩, fun h => ⟨by decide, (show (89 : Int) < 102 by decide), rfl, h.1, h.2⟩⟩
theorem el89 : ((EM A L N).2.1 89).2 = 6 := rfl
theorem ek89 : ((EM A L N).2.1 89).1 = 100 := rfl
theorem ea89 (i : Int) : ow_gv (EM A L N) M 89 i = M 89 i := rfl
theorem en89 (i : Int) : ((EM A L N).1 89 i = none) = True := eq_true rfl
theorem er90 (i : Int) : ow_R (EM A L N) M 90 101 i = (0 ≤ i ∧ i < 330) := propext ⟨fun h => ⟨h.2.2.2.1, h.2.2.2.2⟩, fun h => ⟨by decide, (show (90 : Int) < 102 by decide), rfl, h.1, h.2⟩⟩
theorem el90 : ((EM A L N).2.1 90).2 = 330 := rfl
theorem ek90 : ((EM A L N).2.1 90).1 = 101 := rfl
theorem ea90 (i : Int) : ow_gv (EM A L N) M 90 i = M 90 i := rfl
theorem en90 (i : Int) : ((EM A L N).1 90 i = none) = True := eq_true rfl
theorem er91 (i : Int) : ow_R (EM A L N) M 91 102 i = (0 ≤ i ∧ i < 330) := propext ⟨fun h => ⟨h.2.2.2.1, h.2.2.2.2⟩, fun h => ⟨by decide, (show (91 : Int) < 102 by decide), rfl, h.1, h.2⟩⟩
theorem el91 : ((EM A L N).2.1 91).2 = 330 := rfl
theorem ek91 : ((EM A L N).2.1 91).1 = 102 := rfl
theorem ea91 (i : Int) : ow_gv (EM A L N) M 91 i = M 91 i := rfl
theorem en91 (i : Int) : ((EM A L N).1 91 i = none) = True := eq_true rfl
theorem er92 (i : Int) : ow_R (EM A L N) M 92 100 i = (0 ≤ i ∧ i < 14400) := propext ⟨fun h => ⟨h.2.2.2.1, h.2.2.2.2⟩, fun h => ⟨by decide, (show (92 : Int) < 102 by decide), rfl, h.1, h.2⟩⟩
theorem el92 : ((EM A L N).2.1 92).2 = 14400 := rfl
theorem ek92 : ((EM A L N).2.1 92).1 = 100 := rfl
theorem ea92 (i : Int) : ow_gv (EM A L N) M 92 i = M 92 i := rfl
theorem en92 (i : Int) : ((EM A L N).1 92 i = none) = True := eq_true rfl
theorem er93 (i : Int) : ow_R (EM A L N) M 93 101 i = (0 ≤ i ∧ i < 2304) := propext ⟨fun h => ⟨h.2.2.2.1, h.2.2.2.2⟩, fun h => ⟨by decide, (show (93 : Int) < 102 by decide), rfl, h.1, h.2⟩⟩
theorem el93 : ((EM A L N).2.1 93).2 = 2304 := rfl
theorem ek93 : ((EM A L N).2.1 93).1 = 101 := rfl
theorem ea93 (i : Int) : ow_gv (EM A L N) M 93 i = M 93 i := rfl
theorem en93 (i : Int) : ((EM A L N).1 93 i = none) = True := eq_true rfl
theorem er94 (i : Int) : ow_R (EM A L N) M 94 101 i = (0 ≤ i ∧ i < 2304) := propext ⟨fun h => ⟨h.2.2.2.1, h.2.2.2.2⟩, fun h => ⟨by decide, (show (94 : Int) < 102 by decide), rfl, h.1, h.2⟩⟩
theorem el94 : ((EM A L N).2.1 94).2 = 2304 := rfl
theorem ek94 : ((EM A L N).2.1 94).1 = 101 := rfl
theorem ea94 (i : Int) : ow_gv (EM A L N) M 94 i = M 94 i := rfl
theorem en94 (i : Int) : ((EM A L N).1 94 i = none) = True := eq_true rfl
theorem er95 (i : Int) : ow_R (EM A L N) M 95 102 i = (0 ≤ i ∧ i < 20736) := propext ⟨fun h => ⟨h.2.2.2.1, h.2.2.2.2⟩, fun h => ⟨by decide, (show (95 : Int) < 102 by decide), rfl, h.1, h.2⟩⟩
theorem el95 : ((EM A L N).2.1 95).2 = 20736 := rfl
theorem ek95 : ((EM A L N).2.1 95).1 = 102 := rfl
theorem ea95 (i : Int) : ow_gv (EM A L N) M 95 i = M 95 i := rfl
theorem en95 (i : Int) : ((EM A L N).1 95 i = none) = True := eq_true rfl
theorem er96 (i : Int) : ow_R (EM A L N) M 96 102 i = (0 ≤ i ∧ i < 256) := propext ⟨fun h => ⟨h.2.2.2.1, h.2.2.2.2⟩, fun h => ⟨by decide, (show (96 : Int) < 102 by decide), rfl, h.1, h.2⟩⟩
theorem el96 : ((EM A L N).2.1 96).2 = 256 := rfl
theorem ek96 : ((EM A L N).2.1 96).1 = 102 := rfl
theorem ea96 (i : Int) : ow_gv (EM A L N) M 96 i = M 96 i := rfl
theorem en96 (i : Int) : ((EM A L N).1 96 i = none) = True := eq_true rfl
theorem er97 (i : Int) : ow_R (EM A L N) M 97 100 i = (0 ≤ i ∧ i < 256) := propext ⟨fun h => ⟨h.2.2.2.1, h.2.2.2.2⟩, fun h => ⟨by decide, (show (97 : Int) < 102 by decide), rfl, h.1, h.2⟩⟩
theorem el97 : ((EM A L N).2.1 97).2 = 256 := rfl
theorem ek97 : ((EM A L N).2.1 97).1 = 100 := rfl
theorem ea97 (i : Int) : ow_gv (EM A L N) M 97 i = M 97 i := rfl
theorem en97 (i : Int) : ((EM A L N).1 97 i = none) = True := eq_true rfl
theorem er98 (i : Int) : ow_R (EM A L N) M 98 100 i = (0 ≤ i ∧ i < 16) := propext ⟨fun h => ⟨h.2.2.2.1, h.2.2.2.2⟩, fun h => ⟨by decide, (show (98 : Int) < 102 by decide), rfl, h.1, h.2⟩⟩
theorem el98 : ((EM A L N).2.1 98).2 = 16 := rfl
theorem ek98 : ((EM A L N).2.1 98).1 = 100 := rfl
theorem ea98 (i : Int) : ow_gv (EM A L N) M 98 i = M 98 i := rfl
theorem en98 (i : Int) : ((EM A L N).1 98 i = none) = True := eq_true rfl
theorem er99 (i : Int) : ow_R (EM A L N) M 99 102 i = (0 ≤ i ∧ i < 65536) := propext ⟨fun h => ⟨h.2.2.2.1, h.2.2.2.2⟩, fun h => ⟨by decide, (show (99 : Int) < 102 by decide), rfl, h.1, h.2⟩⟩
theorem el99 : ((EM A L N).2.1 99).2 = 65536 := rfl
theorem ek99 : ((EM A L N).2.1 99).1 = 102 := rfl
theorem ea99 (i : Int) : ow_gv (EM A L N) M 99 i = M 99 i := rfl
theorem en99 (i : Int) : ((EM A L N).1 99 i = none) = True := eq_true rfl
theorem er100 (i : Int) : ow_R (EM A L N) M 100 100 i = (0 ≤ i ∧ i < 2304) := propext ⟨fun h => ⟨h.2.2.2.1, h.2.2.2.2⟩, fun h => ⟨by decide, (show (100 : Int) < 102 by decide), rfl, h.1, h.2⟩⟩
theorem el100 : ((EM A L N).2.1 100).2 = 2304 := rfl
theorem ek100 : ((EM A L N).2.1 100).1 = 100 := rfl
theorem ea100 (i : Int) : ow_gv (EM A L N) M 100 i = M 100 i := rfl
theorem en100 (i : Int) : ((EM A L N).1 100 i = none) = True := eq_true rfl
theorem er101 (i : Int) : ow_R (EM A L N) M 101 100 i = (0 ≤ i ∧ i < 2304) := propext ⟨fun h => ⟨h.2.2.2.1, h.2.2.2.2⟩, fun h => ⟨by decide, (show (101 : Int) < 102 by decide), rfl, h.1, h.2⟩⟩
theorem el101 : ((EM A L N).2.1 101).2 = 2304 := rfl
theorem ek101 : ((EM A L N).2.1 101).1 = 100 := rfl
theorem ea101 (i : Int) : ow_gv (EM A L N) M 101 i = M 101 i := rfl
theorem en101 (i : Int) : ((EM A L N).1 101 i = none) = True := eq_true rfl
end EMS
