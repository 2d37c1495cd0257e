section START
theorem gR_app (l l' : List (Nat × Nat × Nat)) (m : Nat → Nat → Option Nat) : gR (l ++ l') m = gR l (gR l' m) := List.foldr_append
theorem gN_app (l l' : List (Nat × Nat × Int)) (m : MT) : gN (l ++ l') m = gN l (gN l' m) := List.foldr_append
theorem mr_all : gR mrW.reverse (fun _ _ => none) = MR0 := by unfold gR MR0; rw [List.foldr_reverse]
theorem mr_ls : mrW.reverse = [(134, 57, 171), (134, 55, 170), (134, 54, 169), (134, 53, 168), (134, 49, 167), (134, 48, 166), (134, 47, 165), (134, 46, 164), (134, 45, 163), (134, 44, 162), (134, 43, 161), (134, 42, 160), (134, 41, 159), (134, 38, 158), (134, 35, 157), (134, 34, 156), (134, 33, 155), (134, 32, 154), (134, 31, 153), (134, 30, 152), (134, 29, 151), (134, 28, 150), (134, 27, 149), (134, 26, 148), (134, 25, 147), (134, 24, 146), (134, 23, 145), (134, 22, 144), (134, 21, 143), (134, 20, 142), (134, 13, 141), (134, 6, 140), (134, 5, 139), (134, 4, 138), (134, 2, 137), (134, 1, 136), (134, 0, 135)] ++ ([(0, 10, 133), (0, 9, 125), (125, 8, 132), (125, 7, 131), (125, 6, 130), (125, 3, 129), (125, 2, 128), (125, 1, 127), (125, 0, 126)] ++ ([(0, 8, 117), (117, 8, 124), (117, 7, 123), (117, 6, 122), (117, 3, 121), (117, 2, 120), (117, 1, 119), (117, 0, 118)] ++ ([(0, 7, 105), (105, 2, 103), (105, 1, 100), (105, 0, 2), (105, 13, 116), (105, 12, 115), (105, 11, 114), (105, 10, 113), (105, 9, 112), (105, 8, 111), (105, 7, 110), (105, 6, 109), (105, 5, 108), (105, 4, 107), (105, 3, 106)] ++ ([(0, 6, 103), (103, 0, 104)] ++ ([(0, 5, 100), (100, 1, 10), (100, 0, 2), (100, 3, 102), (100, 2, 101)] ++ ([(0, 4, 94), (94, 2, 90), (94, 1, 96), (96, 2, 99), (96, 1, 98), (96, 0, 97)] ++ ([(94, 0, 95)] ++ ([(0, 3, 90), (90, 2, 93), (90, 1, 92), (90, 0, 91)] ++ ([(0, 2, 89), (0, 1, 30), (30, 1, 60), (60, 3, 79), (79, 8, 88), (79, 7, 87), (79, 6, 86), (79, 5, 85), (79, 4, 84), (79, 3, 83), (79, 2, 82), (79, 1, 81), (79, 0, 80)] ++ ([(60, 2, 73), (73, 4, 78), (73, 3, 77), (73, 2, 76), (73, 1, 75), (73, 0, 74)] ++ ([(60, 1, 69), (69, 2, 72), (69, 1, 71), (69, 0, 70)] ++ ([(60, 0, 61), (61, 6, 68), (61, 5, 67), (61, 4, 66), (61, 3, 65), (61, 2, 64), (61, 1, 63), (61, 0, 62)] ++ ([] ++ ([(30, 0, 31), (31, 3, 50), (50, 8, 59), (50, 7, 58), (50, 6, 57), (50, 5, 56), (50, 4, 55), (50, 3, 54), (50, 2, 53), (50, 1, 52), (50, 0, 51)] ++ ([(31, 2, 44), (44, 4, 49), (44, 3, 48), (44, 2, 47), (44, 1, 46), (44, 0, 45)] ++ ([(31, 1, 40), (40, 2, 43), (40, 1, 42), (40, 0, 41)] ++ ([(31, 0, 32), (32, 6, 39), (32, 5, 38), (32, 4, 37), (32, 3, 36), (32, 2, 35), (32, 1, 34), (32, 0, 33)] ++ ([] ++ ([(0, 0, 1), (1, 3, 20), (20, 8, 29), (20, 7, 28), (20, 6, 27), (20, 5, 26), (20, 4, 25), (20, 3, 24), (20, 2, 23), (20, 1, 22), (20, 0, 21)] ++ ([(1, 2, 14), (14, 4, 19), (14, 3, 18), (14, 2, 17), (14, 1, 16), (14, 0, 15)] ++ ([(1, 1, 10), (10, 2, 13), (10, 1, 12), (10, 0, 11)] ++ ([(1, 0, 2), (2, 6, 9), (2, 5, 8), (2, 4, 7), (2, 3, 6), (2, 2, 5), (2, 1, 4), (2, 0, 3)] ++ ([] ++ ([])))))))))))))))))))))))) := by decide +kernel
theorem mr_eq : (gR [(134, 57, 171), (134, 55, 170), (134, 54, 169), (134, 53, 168), (134, 49, 167), (134, 48, 166), (134, 47, 165), (134, 46, 164), (134, 45, 163), (134, 44, 162), (134, 43, 161), (134, 42, 160), (134, 41, 159), (134, 38, 158), (134, 35, 157), (134, 34, 156), (134, 33, 155), (134, 32, 154), (134, 31, 153), (134, 30, 152), (134, 29, 151), (134, 28, 150), (134, 27, 149), (134, 26, 148), (134, 25, 147), (134, 24, 146), (134, 23, 145), (134, 22, 144), (134, 21, 143), (134, 20, 142), (134, 13, 141), (134, 6, 140), (134, 5, 139), (134, 4, 138), (134, 2, 137), (134, 1, 136), (134, 0, 135)] (gR [(0, 10, 133), (0, 9, 125), (125, 8, 132), (125, 7, 131), (125, 6, 130), (125, 3, 129), (125, 2, 128), (125, 1, 127), (125, 0, 126)] (gR [(0, 8, 117), (117, 8, 124), (117, 7, 123), (117, 6, 122), (117, 3, 121), (117, 2, 120), (117, 1, 119), (117, 0, 118)] (gR [(0, 7, 105), (105, 2, 103), (105, 1, 100), (105, 0, 2), (105, 13, 116), (105, 12, 115), (105, 11, 114), (105, 10, 113), (105, 9, 112), (105, 8, 111), (105, 7, 110), (105, 6, 109), (105, 5, 108), (105, 4, 107), (105, 3, 106)] (gR [(0, 6, 103), (103, 0, 104)] (gR [(0, 5, 100), (100, 1, 10), (100, 0, 2), (100, 3, 102), (100, 2, 101)] (gR [(0, 4, 94), (94, 2, 90), (94, 1, 96), (96, 2, 99), (96, 1, 98), (96, 0, 97)] (gR [(94, 0, 95)] (gR [(0, 3, 90), (90, 2, 93), (90, 1, 92), (90, 0, 91)] (gR [(0, 2, 89), (0, 1, 30), (30, 1, 60), (60, 3, 79), (79, 8, 88), (79, 7, 87), (79, 6, 86), (79, 5, 85), (79, 4, 84), (79, 3, 83), (79, 2, 82), (79, 1, 81), (79, 0, 80)] (gR [(60, 2, 73), (73, 4, 78), (73, 3, 77), (73, 2, 76), (73, 1, 75), (73, 0, 74)] (gR [(60, 1, 69), (69, 2, 72), (69, 1, 71), (69, 0, 70)] (gR [(60, 0, 61), (61, 6, 68), (61, 5, 67), (61, 4, 66), (61, 3, 65), (61, 2, 64), (61, 1, 63), (61, 0, 62)] (gR [] (gR [(30, 0, 31), (31, 3, 50), (50, 8, 59), (50, 7, 58), (50, 6, 57), (50, 5, 56), (50, 4, 55), (50, 3, 54), (50, 2, 53), (50, 1, 52), (50, 0, 51)] (gR [(31, 2, 44), (44, 4, 49), (44, 3, 48), (44, 2, 47), (44, 1, 46), (44, 0, 45)] (gR [(31, 1, 40), (40, 2, 43), (40, 1, 42), (40, 0, 41)] (gR [(31, 0, 32), (32, 6, 39), (32, 5, 38), (32, 4, 37), (32, 3, 36), (32, 2, 35), (32, 1, 34), (32, 0, 33)] (gR [] (gR [(0, 0, 1), (1, 3, 20), (20, 8, 29), (20, 7, 28), (20, 6, 27), (20, 5, 26), (20, 4, 25), (20, 3, 24), (20, 2, 23), (20, 1, 22), (20, 0, 21)] (gR [(1, 2, 14), (14, 4, 19), (14, 3, 18), (14, 2, 17), (14, 1, 16), (14, 0, 15)] (gR [(1, 1, 10), (10, 2, 13), (10, 1, 12), (10, 0, 11)] (gR [(1, 0, 2), (2, 6, 9), (2, 5, 8), (2, 4, 7), (2, 3, 6), (2, 2, 5), (2, 1, 4), (2, 0, 3)] (gR [] (gR [] (fun _ _ => none)))))))))))))))))))))))))) = MR0 := by
  rw [← mr_all, mr_ls, gR_app, gR_app, gR_app, gR_app, gR_app, gR_app, gR_app, gR_app, gR_app, gR_app, gR_app, gR_app, gR_app, gR_app, gR_app, gR_app, gR_app, gR_app, gR_app, gR_app, gR_app, gR_app, gR_app, gR_app]
def nWs : List (Nat × Nat × Int) := [(135, 15, 1), (135, 11, 1), (135, 14, 1), (135, 10, 1), (135, 13, 1), (135, 9, 1), (135, 12, 1), (135, 8, 1), (135, 6, 50), (135, 5, 50), (135, 4, 1), (135, 3, 5), (134, 50, -1), (134, 11, -1)] ++ ([(0, 12, -1)] ++ ([] ++ ([] ++ ([] ++ ([] ++ ([] ++ ([] ++ ([] ++ ([(87, 2, 1), (87, 1, 1), (87, 0, 1)] ++ ([(74, 1, 50), (74, 0, 50)] ++ ([] ++ ([(61, 10, 1), (61, 9, 5), (66, 3, 1), (66, 2, 1), (66, 1, 1), (66, 0, 1)] ++ ([] ++ ([(58, 2, 1), (58, 1, 1), (58, 0, 1)] ++ ([(45, 1, 50), (45, 0, 50)] ++ ([] ++ ([(32, 10, 1), (32, 9, 5), (37, 3, 1), (37, 2, 1), (37, 1, 1), (37, 0, 1)] ++ ([] ++ ([(28, 2, 1), (28, 1, 1), (28, 0, 1)] ++ ([(15, 1, 50), (15, 0, 50)] ++ ([] ++ ([(2, 10, 1), (2, 9, 5), (7, 3, 1), (7, 2, 1), (7, 1, 1), (7, 0, 1)] ++ ([] ++ ([]))))))))))))))))))))))))
def m0 (L : Nat) (xs : Nat → Int) : MT := gN nWs (mi00 L xs)
theorem mn_eq (L : Nat) (xs : Nat → Int) : (gN [(135, 15, 1), (135, 11, 1), (135, 14, 1), (135, 10, 1), (135, 13, 1), (135, 9, 1), (135, 12, 1), (135, 8, 1), (135, 6, 50), (135, 5, 50), (135, 4, 1), (135, 3, 5), (134, 50, -1), (134, 11, -1)] (gN [(0, 12, -1)] (gN [] (gN [] (gN [] (gN [] (gN [] (gN [] (gN [] (gN [(87, 2, 1), (87, 1, 1), (87, 0, 1)] (gN [(74, 1, 50), (74, 0, 50)] (gN [] (gN [(61, 10, 1), (61, 9, 5), (66, 3, 1), (66, 2, 1), (66, 1, 1), (66, 0, 1)] (gN [] (gN [(58, 2, 1), (58, 1, 1), (58, 0, 1)] (gN [(45, 1, 50), (45, 0, 50)] (gN [] (gN [(32, 10, 1), (32, 9, 5), (37, 3, 1), (37, 2, 1), (37, 1, 1), (37, 0, 1)] (gN [] (gN [(28, 2, 1), (28, 1, 1), (28, 0, 1)] (gN [(15, 1, 50), (15, 0, 50)] (gN [] (gN [(2, 10, 1), (2, 9, 5), (7, 3, 1), (7, 2, 1), (7, 1, 1), (7, 0, 1)] (gN [] (gN [] (mi00 L xs)))))))))))))))))))))))))) = m0 L xs := by
  unfold m0 nWs
  rw [gN_app, gN_app, gN_app, gN_app, gN_app, gN_app, gN_app, gN_app, gN_app, gN_app, gN_app, gN_app, gN_app, gN_app, gN_app, gN_app, gN_app, gN_app, gN_app, gN_app, gN_app, gN_app, gN_app, gN_app]
def gV (l : List (Nat × Nat × Int)) (r : Nat → Int) : Nat → Int := l.foldr (fun w r => sv r w.2.1 w.2.2) r
theorem gN_row (m : MT) (k : Nat) : ∀ l : List (Nat × Nat × Int), gN l m k = gV (l.filter (fun w => w.1 == k)) (m k) := by
  intro l
  induction l with
  | nil => rfl
  | cons w l ih =>
    have e : gN (w :: l) m k = sv (gN l m) w.1 (sv (gN l m w.1) w.2.1 w.2.2) k := rfl
    rw [e]
    by_cases c : w.1 = k
    · subst c
      rw [sv_eq, List.filter_cons_of_pos (by simp), ih]
      rfl
    · rw [sv_ne _ _ (fun q => c q.symm), List.filter_cons_of_neg (by simpa using c), ih]
theorem mi00_z (L : Nat) (xs : Nat → Int) {k : Nat} (hk : k ≠ 1000) : mi00 L xs k = fun _ => 0 := by funext j; unfold mi00; rw [if_neg hk]
theorem m0_row (L : Nat) (xs : Nat → Int) {k : Nat} {l : List (Nat × Nat × Int)} (hl : nWs.filter (fun w => w.1 == k) = l) (hk : k ≠ 1000) : m0 L xs k = gV l (fun _ => 0) := by
  unfold m0; rw [gN_row, hl, mi00_z L xs hk]
theorem m0_z (L : Nat) (xs : Nat → Int) {k : Nat} (hl : nWs.filter (fun w => w.1 == k) = []) (hk : k ≠ 1000) : m0 L xs k = fun _ => 0 := m0_row L xs hl hk
abbrev R_0 : Nat → Int := gV [(0, 12, -1)] (fun _ => 0)
theorem m0_0 (L : Nat) (xs : Nat → Int) : m0 L xs 0 = R_0 := m0_row L xs (by decide +kernel) (by decide)
abbrev R_2 : Nat → Int := gV [(2, 10, 1), (2, 9, 5)] (fun _ => 0)
theorem m0_2 (L : Nat) (xs : Nat → Int) : m0 L xs 2 = R_2 := m0_row L xs (by decide +kernel) (by decide)
abbrev R_7 : Nat → Int := gV [(7, 3, 1), (7, 2, 1), (7, 1, 1), (7, 0, 1)] (fun _ => 0)
theorem m0_7 (L : Nat) (xs : Nat → Int) : m0 L xs 7 = R_7 := m0_row L xs (by decide +kernel) (by decide)
abbrev R_15 : Nat → Int := gV [(15, 1, 50), (15, 0, 50)] (fun _ => 0)
theorem m0_15 (L : Nat) (xs : Nat → Int) : m0 L xs 15 = R_15 := m0_row L xs (by decide +kernel) (by decide)
abbrev R_28 : Nat → Int := gV [(28, 2, 1), (28, 1, 1), (28, 0, 1)] (fun _ => 0)
theorem m0_28 (L : Nat) (xs : Nat → Int) : m0 L xs 28 = R_28 := m0_row L xs (by decide +kernel) (by decide)
abbrev R_134 : Nat → Int := gV [(134, 50, -1), (134, 11, -1)] (fun _ => 0)
theorem m0_134 (L : Nat) (xs : Nat → Int) : m0 L xs 134 = R_134 := m0_row L xs (by decide +kernel) (by decide)
abbrev R_135 : Nat → Int := gV [(135, 15, 1), (135, 11, 1), (135, 14, 1), (135, 10, 1), (135, 13, 1), (135, 9, 1), (135, 12, 1), (135, 8, 1), (135, 6, 50), (135, 5, 50), (135, 4, 1), (135, 3, 5)] (fun _ => 0)
theorem m0_135 (L : Nat) (xs : Nat → Int) : m0 L xs 135 = R_135 := m0_row L xs (by decide +kernel) (by decide)
theorem m0_3 (L : Nat) (xs : Nat → Int) : m0 L xs 3 = fun _ => 0 := m0_z L xs (by decide +kernel) (by decide)
theorem m0_4 (L : Nat) (xs : Nat → Int) : m0 L xs 4 = fun _ => 0 := m0_z L xs (by decide +kernel) (by decide)
theorem m0_5 (L : Nat) (xs : Nat → Int) : m0 L xs 5 = fun _ => 0 := m0_z L xs (by decide +kernel) (by decide)
theorem m0_6 (L : Nat) (xs : Nat → Int) : m0 L xs 6 = fun _ => 0 := m0_z L xs (by decide +kernel) (by decide)
theorem m0_10 (L : Nat) (xs : Nat → Int) : m0 L xs 10 = fun _ => 0 := m0_z L xs (by decide +kernel) (by decide)
theorem m0_11 (L : Nat) (xs : Nat → Int) : m0 L xs 11 = fun _ => 0 := m0_z L xs (by decide +kernel) (by decide)
theorem m0_12 (L : Nat) (xs : Nat → Int) : m0 L xs 12 = fun _ => 0 := m0_z L xs (by decide +kernel) (by decide)
theorem m0_13 (L : Nat) (xs : Nat → Int) : m0 L xs 13 = fun _ => 0 := m0_z L xs (by decide +kernel) (by decide)
theorem m0_14 (L : Nat) (xs : Nat → Int) : m0 L xs 14 = fun _ => 0 := m0_z L xs (by decide +kernel) (by decide)
theorem m0_16 (L : Nat) (xs : Nat → Int) : m0 L xs 16 = fun _ => 0 := m0_z L xs (by decide +kernel) (by decide)
theorem m0_17 (L : Nat) (xs : Nat → Int) : m0 L xs 17 = fun _ => 0 := m0_z L xs (by decide +kernel) (by decide)
theorem m0_18 (L : Nat) (xs : Nat → Int) : m0 L xs 18 = fun _ => 0 := m0_z L xs (by decide +kernel) (by decide)
theorem m0_20 (L : Nat) (xs : Nat → Int) : m0 L xs 20 = fun _ => 0 := m0_z L xs (by decide +kernel) (by decide)
theorem m0_21 (L : Nat) (xs : Nat → Int) : m0 L xs 21 = fun _ => 0 := m0_z L xs (by decide +kernel) (by decide)
theorem m0_22 (L : Nat) (xs : Nat → Int) : m0 L xs 22 = fun _ => 0 := m0_z L xs (by decide +kernel) (by decide)
theorem m0_23 (L : Nat) (xs : Nat → Int) : m0 L xs 23 = fun _ => 0 := m0_z L xs (by decide +kernel) (by decide)
theorem m0_24 (L : Nat) (xs : Nat → Int) : m0 L xs 24 = fun _ => 0 := m0_z L xs (by decide +kernel) (by decide)
theorem m0_25 (L : Nat) (xs : Nat → Int) : m0 L xs 25 = fun _ => 0 := m0_z L xs (by decide +kernel) (by decide)
theorem m0_26 (L : Nat) (xs : Nat → Int) : m0 L xs 26 = fun _ => 0 := m0_z L xs (by decide +kernel) (by decide)
theorem m0_89 (L : Nat) (xs : Nat → Int) : m0 L xs 89 = fun _ => 0 := m0_z L xs (by decide +kernel) (by decide)
theorem m0_90 (L : Nat) (xs : Nat → Int) : m0 L xs 90 = fun _ => 0 := m0_z L xs (by decide +kernel) (by decide)
theorem m0_91 (L : Nat) (xs : Nat → Int) : m0 L xs 91 = fun _ => 0 := m0_z L xs (by decide +kernel) (by decide)
theorem m0_117 (L : Nat) (xs : Nat → Int) : m0 L xs 117 = fun _ => 0 := m0_z L xs (by decide +kernel) (by decide)
theorem m0_137 (L : Nat) (xs : Nat → Int) : m0 L xs 137 = fun _ => 0 := m0_z L xs (by decide +kernel) (by decide)
theorem m0_138 (L : Nat) (xs : Nat → Int) : m0 L xs 138 = fun _ => 0 := m0_z L xs (by decide +kernel) (by decide)
theorem m0_142 (L : Nat) (xs : Nat → Int) : m0 L xs 142 = fun _ => 0 := m0_z L xs (by decide +kernel) (by decide)
theorem m0_143 (L : Nat) (xs : Nat → Int) : m0 L xs 143 = fun _ => 0 := m0_z L xs (by decide +kernel) (by decide)
theorem m0_144 (L : Nat) (xs : Nat → Int) : m0 L xs 144 = fun _ => 0 := m0_z L xs (by decide +kernel) (by decide)
theorem m0_145 (L : Nat) (xs : Nat → Int) : m0 L xs 145 = fun _ => 0 := m0_z L xs (by decide +kernel) (by decide)
theorem m0_146 (L : Nat) (xs : Nat → Int) : m0 L xs 146 = fun _ => 0 := m0_z L xs (by decide +kernel) (by decide)
theorem m0_147 (L : Nat) (xs : Nat → Int) : m0 L xs 147 = fun _ => 0 := m0_z L xs (by decide +kernel) (by decide)
theorem m0_148 (L : Nat) (xs : Nat → Int) : m0 L xs 148 = fun _ => 0 := m0_z L xs (by decide +kernel) (by decide)
theorem m0_149 (L : Nat) (xs : Nat → Int) : m0 L xs 149 = fun _ => 0 := m0_z L xs (by decide +kernel) (by decide)
theorem m0_150 (L : Nat) (xs : Nat → Int) : m0 L xs 150 = fun _ => 0 := m0_z L xs (by decide +kernel) (by decide)
theorem m0_151 (L : Nat) (xs : Nat → Int) : m0 L xs 151 = fun _ => 0 := m0_z L xs (by decide +kernel) (by decide)
theorem m0_153 (L : Nat) (xs : Nat → Int) : m0 L xs 153 = fun _ => 0 := m0_z L xs (by decide +kernel) (by decide)
theorem m0_154 (L : Nat) (xs : Nat → Int) : m0 L xs 154 = fun _ => 0 := m0_z L xs (by decide +kernel) (by decide)
theorem m0_155 (L : Nat) (xs : Nat → Int) : m0 L xs 155 = fun _ => 0 := m0_z L xs (by decide +kernel) (by decide)
theorem m0_156 (L : Nat) (xs : Nat → Int) : m0 L xs 156 = fun _ => 0 := m0_z L xs (by decide +kernel) (by decide)
theorem m0_157 (L : Nat) (xs : Nat → Int) : m0 L xs 157 = fun _ => 0 := m0_z L xs (by decide +kernel) (by decide)
theorem m0_1000 (L : Nat) (xs : Nat → Int) : m0 L xs 1000 0 = L := by unfold m0; rw [gN_row, show nWs.filter (fun w => w.1 == 1000) = [] by decide +kernel]; rfl
theorem R135_z {j : Nat} (h : 15 < j) : R_135 j = 0 := by
  unfold R_135
  simp only [gV, List.foldr, svr]
  repeat rw [if_neg (by omega)]
theorem RSim_0 (r co en acs : Nat → Int) : RSim r 0 0 0 0 co en acs := by
  intro dd m' P' hdd hM h10 h12 h
  refine v_M_readsRules ⟨by omega, ?_⟩
  have e : ∀ j : Nat, (j < 15 ∨ 19 < j) → (wt (wt (wt (wt (wt m' 134 15 0) 134 16 0) 134 17 0) 134 18 0) 134 19 0) 134 j = m' 134 j := fun j hj => by rw [wt_ne _ _ (by omega), wt_ne _ _ (by omega), wt_ne _ _ (by omega), wt_ne _ _ (by omega), wt_ne _ _ (by omega)]
  have er : ∀ k : Nat, k ≠ 134 → (wt (wt (wt (wt (wt m' 134 15 0) 134 16 0) 134 17 0) 134 18 0) 134 19 0) k = m' k := fun k hk => by rw [wt_row _ _ hk, wt_row _ _ hk, wt_row _ _ hk, wt_row _ _ hk, wt_row _ _ hk]
  have e15 : (wt (wt (wt (wt (wt m' 134 15 0) 134 16 0) 134 17 0) 134 18 0) 134 19 0) 134 15 = 0 := by rw [wt_ne _ _ (by decide), wt_ne _ _ (by decide), wt_ne _ _ (by decide), wt_ne _ _ (by decide), wt_same]
  generalize wt (wt (wt (wt (wt m' 134 15 0) 134 16 0) 134 17 0) 134 18 0) 134 19 0 = mm at *
  refine s_M_next (r := r) (n := 0) (q := 0) (by omega) ⟨by rw [e 8 (by omega)]; exact hM.1, by omega, fun k a b => by omega, fun k a b => by omega⟩ (by rw [e 10 (by omega)]; exact h10) ⟨by omega, fun q => by omega⟩ (fun u hu hA => ?_)
  rw [fs_n] at hA
  have e8 : (sv mm 134 u) 134 8 = 0 := hA.1.1
  have e9 : (sv mm 134 u) 134 9 = 0 := hA.2.1
  have eu : ∀ j : Nat, (sv mm 134 u) 134 j = u j := fun j => rfl
  have e12 : (sv mm 134 u) 134 12 = -1 := by rw [eu, hu 12 (by decide) (by decide), e 12 (by omega)]; exact h12
  have FIN : P' (sv mm 134 u) := by
    refine h _ ⟨fun k k1 _ => by rw [sv_ne _ _ k1]; exact er k k1, fun j j1 j2 _ j4 _ _ => by rw [eu, hu j j1 j2]; exact e j j4⟩ e12 ⟨⟨by omega, by omega⟩, fun i a b => by omega, fun i a b => by omega, ⟨?_, by omega⟩, fun q a b => by omega, rfl, rfl⟩
    rw [eu, hu 15 (by decide) (by decide)]; exact e15
  rw [e8, e9]
  refine ⟨fun _ => v_M_readsRules_44 ⟨by omega, ?_⟩, fun w => by omega⟩
  refine s_M_takesSign (r := r) (n := 0) (p := 0) (by omega) ⟨by omega, by decide⟩ e12 hA (fun _ w => by omega) (fun _ => ?_)
  rw [e8, e9]
  exact ⟨fun _ => ⟨fun w => absurd e12 w, fun _ => ⟨fun _ => FIN, fun w => by omega⟩⟩, fun w => (by cases w)⟩
theorem Inv_0 (L : Nat) (xs : Nat → Int) : Inv (m0 L xs) := by
  have z : ∀ {x : Int}, 0 ≤ x → x < (fun _ : Nat => (0 : Int)) 0 → False := fun a b => by have b' : _ < (0 : Int) := b; omega
  refine ⟨⟨?_, ?_, ?_⟩, ?_, ?_, ?_⟩
  · rw [m0_0, m0_134]; exact ⟨rfl, rfl⟩
  · rw [m0_90, m0_91, m0_134, m0_138]; exact ⟨⟨Int.le_refl 0, by show (0 : Int) ≤ 400; omega⟩, rfl, fun k a b => (z a b).elim⟩
  · rw [m0_2, m0_3, m0_4, m0_5, m0_6, m0_7, m0_14, m0_15, m0_16, m0_17, m0_18, m0_20, m0_21, m0_22, m0_23, m0_24, m0_25, m0_26, m0_28, m0_135]
    have c0 : R_135 0 = 0 := by decide
    have c1 : R_135 1 = 0 := by decide
    have c2 : R_135 2 = 0 := by decide
    refine ⟨⟨by decide, by decide, by decide, by decide, by decide, by decide⟩, fun s s0 s1 => ?_, fun k k0 k1 => ?_, fun k k0 k1 => ?_, fun k k0 k1 => ?_, ⟨by decide, by decide, fun i i0 i1 => ?_⟩, fun k k0 k1 => ?_, fun k k0 k1 s s0 s1 r r0 r1 => ?_, ⟨by decide, by decide, fun i i0 i1 => ?_⟩, fun k k0 k1 => ?_⟩
    · rw [c0] at s1; omega
    · rw [R135_z (by omega), R135_z (by omega)]
      exact ⟨rfl, rfl, ⟨Int.le_refl 0, by show (0 : Int) ≤ 20; omega⟩, Int.le_refl 0, by show (0 : Int) ≤ 20; omega⟩
    · have : k = 0 ∨ k = 1 ∨ k = 2 ∨ k = 3 := by omega
      rcases this with rfl | rfl | rfl | rfl <;> decide
    · have : k = 0 ∨ k = 1 := by omega
      rcases this with rfl | rfl <;> decide
    · rw [c1] at i1; omega
    · rw [R135_z (by omega)]
      exact ⟨rfl, ⟨Int.le_refl 0, by show (0 : Int) ≤ 4; omega⟩, fun v v0 v1 => (z v0 v1).elim⟩
    · rw [R135_z (by omega)]
      exact ⟨rfl, Int.le_refl 0, by show (0 : Int) ≤ 9; omega⟩
    · rw [c2] at i1; omega
    · have : k = 0 ∨ k = 1 ∨ k = 2 := by omega
      rcases this with rfl | rfl | rfl <;> decide
  · have t0 : tx (m0 L xs) = fun _ => 0 := by funext k; show m0 L xs 135 (1666 + k) = 0; rw [m0_135]; exact R135_z (by omega)
    unfold Rul
    rw [t0, m0_10, m0_11, m0_12, m0_13, m0_135]
    have c7 : R_135 7 = 0 := by decide
    rw [c7]
    refine ⟨⟨⟨by show (0 : Int) ≤ 0 ∧ (0 : Int) ≤ 400; omega, by show (0 : Int) ≤ 0 ∧ (0 : Int) ≤ 40; omega⟩, fun i a b => (z a b).elim, fun i a b => (z a b).elim, ⟨by rw [m0_134]; decide, by show (0 : Int) ≤ 0 ∧ (0 : Int) ≤ 12; omega⟩, fun q a b => (z a b).elim, rfl, rfl⟩, by omega, fun k a b => by omega, ?_⟩
    exact RSim_0 _ _ _ _
  · unfold Lat
    rw [m0_0, m0_134, m0_117]
    exact ⟨by decide, Or.inl ⟨by decide, rfl, rfl⟩⟩
  · unfold Img
    rw [m0_89, m0_137]
    exact ⟨⟨rfl, rfl⟩, fun q => absurd rfl q, fun q => absurd rfl q⟩
set_option maxRecDepth 100000 in
theorem law_wp (L : Nat) (xs : Nat → Int) (hL : L ≤ 4096) (_hx : ∀ j, ir (xs j)) : WP 0 1000 172 0 [some (vR (some 1000)), none, none, none] [] (mi00 L xs, (fun _ _ => none), 0) (fun r _ => r = some (vI 1)) := by
  refine cn_new (a' := 1) (idx := 7) (ci := 11) (by decide +kernel) (by decide +kernel) (by decide +kernel) rfl (by decide) ?_
  refine so_dup (by decide +kernel) rfl ?_
  refine so_callI (h := 0) (as := []) (S := [vR (some 0)]) (y' := 129) (d' := 999) (b' := 134) (idx := 9) (by decide +kernel) (by decide +kernel) (by decide) (show 0 = m_na 129 by decide +kernel) (Nat.le_of_ble_eq_true rfl) (by decide +kernel) (by decide) (show 1 + m_mc 129 = 134 by decide +kernel) (show 134 ≤ 172 by decide) (show nsu 134 = nsu 1 + m_ms 129 by decide +kernel) ?_
  refine ct_129_0 (by decide) ?_
  show WP 0 1000 172 7 [some (vR (some 1000)), none, none, none] [vR (some 0)] ((gN [(0, 12, -1)] (gN [] (gN [] (gN [] (gN [] (gN [] (gN [] (gN [] (gN [(87, 2, 1), (87, 1, 1), (87, 0, 1)] (gN [(74, 1, 50), (74, 0, 50)] (gN [] (gN [(61, 10, 1), (61, 9, 5), (66, 3, 1), (66, 2, 1), (66, 1, 1), (66, 0, 1)] (gN [] (gN [(58, 2, 1), (58, 1, 1), (58, 0, 1)] (gN [(45, 1, 50), (45, 0, 50)] (gN [] (gN [(32, 10, 1), (32, 9, 5), (37, 3, 1), (37, 2, 1), (37, 1, 1), (37, 0, 1)] (gN [] (gN [(28, 2, 1), (28, 1, 1), (28, 0, 1)] (gN [(15, 1, 50), (15, 0, 50)] (gN [] (gN [(2, 10, 1), (2, 9, 5), (7, 3, 1), (7, 2, 1), (7, 1, 1), (7, 0, 1)] (gN [] (gN [] (mi00 L xs))))))))))))))))))))))))), (gR [(0, 10, 133), (0, 9, 125), (125, 8, 132), (125, 7, 131), (125, 6, 130), (125, 3, 129), (125, 2, 128), (125, 1, 127), (125, 0, 126)] (gR [(0, 8, 117), (117, 8, 124), (117, 7, 123), (117, 6, 122), (117, 3, 121), (117, 2, 120), (117, 1, 119), (117, 0, 118)] (gR [(0, 7, 105), (105, 2, 103), (105, 1, 100), (105, 0, 2), (105, 13, 116), (105, 12, 115), (105, 11, 114), (105, 10, 113), (105, 9, 112), (105, 8, 111), (105, 7, 110), (105, 6, 109), (105, 5, 108), (105, 4, 107), (105, 3, 106)] (gR [(0, 6, 103), (103, 0, 104)] (gR [(0, 5, 100), (100, 1, 10), (100, 0, 2), (100, 3, 102), (100, 2, 101)] (gR [(0, 4, 94), (94, 2, 90), (94, 1, 96), (96, 2, 99), (96, 1, 98), (96, 0, 97)] (gR [(94, 0, 95)] (gR [(0, 3, 90), (90, 2, 93), (90, 1, 92), (90, 0, 91)] (gR [(0, 2, 89), (0, 1, 30), (30, 1, 60), (60, 3, 79), (79, 8, 88), (79, 7, 87), (79, 6, 86), (79, 5, 85), (79, 4, 84), (79, 3, 83), (79, 2, 82), (79, 1, 81), (79, 0, 80)] (gR [(60, 2, 73), (73, 4, 78), (73, 3, 77), (73, 2, 76), (73, 1, 75), (73, 0, 74)] (gR [(60, 1, 69), (69, 2, 72), (69, 1, 71), (69, 0, 70)] (gR [(60, 0, 61), (61, 6, 68), (61, 5, 67), (61, 4, 66), (61, 3, 65), (61, 2, 64), (61, 1, 63), (61, 0, 62)] (gR [] (gR [(30, 0, 31), (31, 3, 50), (50, 8, 59), (50, 7, 58), (50, 6, 57), (50, 5, 56), (50, 4, 55), (50, 3, 54), (50, 2, 53), (50, 1, 52), (50, 0, 51)] (gR [(31, 2, 44), (44, 4, 49), (44, 3, 48), (44, 2, 47), (44, 1, 46), (44, 0, 45)] (gR [(31, 1, 40), (40, 2, 43), (40, 1, 42), (40, 0, 41)] (gR [(31, 0, 32), (32, 6, 39), (32, 5, 38), (32, 4, 37), (32, 3, 36), (32, 2, 35), (32, 1, 34), (32, 0, 33)] (gR [] (gR [(0, 0, 1), (1, 3, 20), (20, 8, 29), (20, 7, 28), (20, 6, 27), (20, 5, 26), (20, 4, 25), (20, 3, 24), (20, 2, 23), (20, 1, 22), (20, 0, 21)] (gR [(1, 2, 14), (14, 4, 19), (14, 3, 18), (14, 2, 17), (14, 1, 16), (14, 0, 15)] (gR [(1, 1, 10), (10, 2, 13), (10, 1, 12), (10, 0, 11)] (gR [(1, 0, 2), (2, 6, 9), (2, 5, 8), (2, 4, 7), (2, 3, 6), (2, 2, 5), (2, 1, 4), (2, 0, 3)] (gR [] (gR [] (fun _ _ => none))))))))))))))))))))))))), 134) _
  refine so_astore_n (k := 1) (by decide +kernel) (by decide +kernel) ?_
  refine cn_new (a' := 135) (idx := 10) (ci := 12) (by decide +kernel) (by decide +kernel) (by decide +kernel) rfl (by decide) ?_
  refine so_dup (by decide +kernel) rfl ?_
  refine so_callI (h := 134) (as := []) (S := [vR (some 134)]) (y' := 175) (d' := 999) (b' := 172) (idx := 12) (by decide +kernel) (by decide +kernel) (by decide) (show 0 = m_na 175 by decide +kernel) (Nat.le_of_ble_eq_true rfl) (by decide +kernel) (by decide) (show 135 + m_mc 175 = 172 by decide +kernel) (show 172 ≤ 172 by decide) (show nsu 172 = nsu 135 + m_ms 175 by decide +kernel) ?_
  refine ct_175_134 (by decide) ?_
  show WP 0 1000 172 15 [some (vR (some 1000)), some (vR (some 0)), none, none] [vR (some 134)] ((gN [(135, 15, 1), (135, 11, 1), (135, 14, 1), (135, 10, 1), (135, 13, 1), (135, 9, 1), (135, 12, 1), (135, 8, 1), (135, 6, 50), (135, 5, 50), (135, 4, 1), (135, 3, 5), (134, 50, -1), (134, 11, -1)] (gN [(0, 12, -1)] (gN [] (gN [] (gN [] (gN [] (gN [] (gN [] (gN [] (gN [(87, 2, 1), (87, 1, 1), (87, 0, 1)] (gN [(74, 1, 50), (74, 0, 50)] (gN [] (gN [(61, 10, 1), (61, 9, 5), (66, 3, 1), (66, 2, 1), (66, 1, 1), (66, 0, 1)] (gN [] (gN [(58, 2, 1), (58, 1, 1), (58, 0, 1)] (gN [(45, 1, 50), (45, 0, 50)] (gN [] (gN [(32, 10, 1), (32, 9, 5), (37, 3, 1), (37, 2, 1), (37, 1, 1), (37, 0, 1)] (gN [] (gN [(28, 2, 1), (28, 1, 1), (28, 0, 1)] (gN [(15, 1, 50), (15, 0, 50)] (gN [] (gN [(2, 10, 1), (2, 9, 5), (7, 3, 1), (7, 2, 1), (7, 1, 1), (7, 0, 1)] (gN [] (gN [] (mi00 L xs)))))))))))))))))))))))))), (gR [(134, 57, 171), (134, 55, 170), (134, 54, 169), (134, 53, 168), (134, 49, 167), (134, 48, 166), (134, 47, 165), (134, 46, 164), (134, 45, 163), (134, 44, 162), (134, 43, 161), (134, 42, 160), (134, 41, 159), (134, 38, 158), (134, 35, 157), (134, 34, 156), (134, 33, 155), (134, 32, 154), (134, 31, 153), (134, 30, 152), (134, 29, 151), (134, 28, 150), (134, 27, 149), (134, 26, 148), (134, 25, 147), (134, 24, 146), (134, 23, 145), (134, 22, 144), (134, 21, 143), (134, 20, 142), (134, 13, 141), (134, 6, 140), (134, 5, 139), (134, 4, 138), (134, 2, 137), (134, 1, 136), (134, 0, 135)] (gR [(0, 10, 133), (0, 9, 125), (125, 8, 132), (125, 7, 131), (125, 6, 130), (125, 3, 129), (125, 2, 128), (125, 1, 127), (125, 0, 126)] (gR [(0, 8, 117), (117, 8, 124), (117, 7, 123), (117, 6, 122), (117, 3, 121), (117, 2, 120), (117, 1, 119), (117, 0, 118)] (gR [(0, 7, 105), (105, 2, 103), (105, 1, 100), (105, 0, 2), (105, 13, 116), (105, 12, 115), (105, 11, 114), (105, 10, 113), (105, 9, 112), (105, 8, 111), (105, 7, 110), (105, 6, 109), (105, 5, 108), (105, 4, 107), (105, 3, 106)] (gR [(0, 6, 103), (103, 0, 104)] (gR [(0, 5, 100), (100, 1, 10), (100, 0, 2), (100, 3, 102), (100, 2, 101)] (gR [(0, 4, 94), (94, 2, 90), (94, 1, 96), (96, 2, 99), (96, 1, 98), (96, 0, 97)] (gR [(94, 0, 95)] (gR [(0, 3, 90), (90, 2, 93), (90, 1, 92), (90, 0, 91)] (gR [(0, 2, 89), (0, 1, 30), (30, 1, 60), (60, 3, 79), (79, 8, 88), (79, 7, 87), (79, 6, 86), (79, 5, 85), (79, 4, 84), (79, 3, 83), (79, 2, 82), (79, 1, 81), (79, 0, 80)] (gR [(60, 2, 73), (73, 4, 78), (73, 3, 77), (73, 2, 76), (73, 1, 75), (73, 0, 74)] (gR [(60, 1, 69), (69, 2, 72), (69, 1, 71), (69, 0, 70)] (gR [(60, 0, 61), (61, 6, 68), (61, 5, 67), (61, 4, 66), (61, 3, 65), (61, 2, 64), (61, 1, 63), (61, 0, 62)] (gR [] (gR [(30, 0, 31), (31, 3, 50), (50, 8, 59), (50, 7, 58), (50, 6, 57), (50, 5, 56), (50, 4, 55), (50, 3, 54), (50, 2, 53), (50, 1, 52), (50, 0, 51)] (gR [(31, 2, 44), (44, 4, 49), (44, 3, 48), (44, 2, 47), (44, 1, 46), (44, 0, 45)] (gR [(31, 1, 40), (40, 2, 43), (40, 1, 42), (40, 0, 41)] (gR [(31, 0, 32), (32, 6, 39), (32, 5, 38), (32, 4, 37), (32, 3, 36), (32, 2, 35), (32, 1, 34), (32, 0, 33)] (gR [] (gR [(0, 0, 1), (1, 3, 20), (20, 8, 29), (20, 7, 28), (20, 6, 27), (20, 5, 26), (20, 4, 25), (20, 3, 24), (20, 2, 23), (20, 1, 22), (20, 0, 21)] (gR [(1, 2, 14), (14, 4, 19), (14, 3, 18), (14, 2, 17), (14, 1, 16), (14, 0, 15)] (gR [(1, 1, 10), (10, 2, 13), (10, 1, 12), (10, 0, 11)] (gR [(1, 0, 2), (2, 6, 9), (2, 5, 8), (2, 4, 7), (2, 3, 6), (2, 2, 5), (2, 1, 4), (2, 0, 3)] (gR [] (gR [] (fun _ _ => none)))))))))))))))))))))))))), 172) _
  rw [mn_eq, mr_eq]
  refine so_astore_n (k := 2) (by decide +kernel) (by decide +kernel) ?_
  refine so_iconst (n := 0) (by decide +kernel) (by unfold ir; omega) ?_
  refine so_istore_n (k := 3) (by decide +kernel) (by decide +kernel) ?_
  have e := m0_1000 L xs
  exact lw_loop 4096 0 (m0 L xs) (by rw [e]; omega) (by omega) (by rw [e]; omega) (by omega) (Inv_0 L xs)
end START
