section CTORB
set_option maxRecDepth 100000 in
theorem ct_129_0 {d : Nat} (hd : 3 < d) {mi : MT} {mr : Nat → Nat → Option Nat} {Q : Option AV → Mem → Prop} (h : Q none ((gN [(0, 12, -1)] (gN [] (gN [] (gN [] (gN [] (gN [] (gN [] (gN [] (gN [(87, 2, 1), (87, 1, 1), (87, 0, 1)] (gN [(74, 1, 50), (74, 0, 50)] (gN [] (gN [(61, 10, 1), (61, 9, 5), (66, 3, 1), (66, 2, 1), (66, 1, 1), (66, 0, 1)] (gN [] (gN [(58, 2, 1), (58, 1, 1), (58, 0, 1)] (gN [(45, 1, 50), (45, 0, 50)] (gN [] (gN [(32, 10, 1), (32, 9, 5), (37, 3, 1), (37, 2, 1), (37, 1, 1), (37, 0, 1)] (gN [] (gN [(28, 2, 1), (28, 1, 1), (28, 0, 1)] (gN [(15, 1, 50), (15, 0, 50)] (gN [] (gN [(2, 10, 1), (2, 9, 5), (7, 3, 1), (7, 2, 1), (7, 1, 1), (7, 0, 1)] (gN [] (gN [] mi)))))))))))))))))))))))), (gR [(0, 10, 133), (0, 9, 125), (125, 8, 132), (125, 7, 131), (125, 6, 130), (125, 3, 129), (125, 2, 128), (125, 1, 127), (125, 0, 126)] (gR [(0, 8, 117), (117, 8, 124), (117, 7, 123), (117, 6, 122), (117, 3, 121), (117, 2, 120), (117, 1, 119), (117, 0, 118)] (gR [(0, 7, 105), (105, 2, 103), (105, 1, 100), (105, 0, 2), (105, 13, 116), (105, 12, 115), (105, 11, 114), (105, 10, 113), (105, 9, 112), (105, 8, 111), (105, 7, 110), (105, 6, 109), (105, 5, 108), (105, 4, 107), (105, 3, 106)] (gR [(0, 6, 103), (103, 0, 104)] (gR [(0, 5, 100), (100, 1, 10), (100, 0, 2), (100, 3, 102), (100, 2, 101)] (gR [(0, 4, 94), (94, 2, 90), (94, 1, 96), (96, 2, 99), (96, 1, 98), (96, 0, 97)] (gR [(94, 0, 95)] (gR [(0, 3, 90), (90, 2, 93), (90, 1, 92), (90, 0, 91)] (gR [(0, 2, 89), (0, 1, 30), (30, 1, 60), (60, 3, 79), (79, 8, 88), (79, 7, 87), (79, 6, 86), (79, 5, 85), (79, 4, 84), (79, 3, 83), (79, 2, 82), (79, 1, 81), (79, 0, 80)] (gR [(60, 2, 73), (73, 4, 78), (73, 3, 77), (73, 2, 76), (73, 1, 75), (73, 0, 74)] (gR [(60, 1, 69), (69, 2, 72), (69, 1, 71), (69, 0, 70)] (gR [(60, 0, 61), (61, 6, 68), (61, 5, 67), (61, 4, 66), (61, 3, 65), (61, 2, 64), (61, 1, 63), (61, 0, 62)] (gR [] (gR [(30, 0, 31), (31, 3, 50), (50, 8, 59), (50, 7, 58), (50, 6, 57), (50, 5, 56), (50, 4, 55), (50, 3, 54), (50, 2, 53), (50, 1, 52), (50, 0, 51)] (gR [(31, 2, 44), (44, 4, 49), (44, 3, 48), (44, 2, 47), (44, 1, 46), (44, 0, 45)] (gR [(31, 1, 40), (40, 2, 43), (40, 1, 42), (40, 0, 41)] (gR [(31, 0, 32), (32, 6, 39), (32, 5, 38), (32, 4, 37), (32, 3, 36), (32, 2, 35), (32, 1, 34), (32, 0, 33)] (gR [] (gR [(0, 0, 1), (1, 3, 20), (20, 8, 29), (20, 7, 28), (20, 6, 27), (20, 5, 26), (20, 4, 25), (20, 3, 24), (20, 2, 23), (20, 1, 22), (20, 0, 21)] (gR [(1, 2, 14), (14, 4, 19), (14, 3, 18), (14, 2, 17), (14, 1, 16), (14, 0, 15)] (gR [(1, 1, 10), (10, 2, 13), (10, 1, 12), (10, 0, 11)] (gR [(1, 0, 2), (2, 6, 9), (2, 5, 8), (2, 4, 7), (2, 3, 6), (2, 2, 5), (2, 1, 4), (2, 0, 3)] (gR [] (gR [] mr)))))))))))))))))))))))), 134)) : WPc 129 d 134 [vR (some 0)] (mi, mr, 1) Q := by
  refine en_129 ?_
  show WP 129 d 134 0 [some (vR (some 0))] [] (gN [] mi, gR [] mr, 1) Q
  refine so_aload_n (k := 0) (by decide +kernel) rfl ?_
  refine so_objInit (idx := 1) (h := 0) (by decide +kernel) (by decide +kernel) (Nat.le_of_ble_eq_true rfl) (by omega) ?_
  refine so_aload_n (k := 0) (by decide +kernel) rfl ?_
  refine cn_new (a' := 2) (idx := 7) (ci := 4) (by decide +kernel) (by decide +kernel) (by decide +kernel) rfl (by decide) ?_
  refine so_dup (by decide +kernel) rfl ?_
  refine so_callIN (h := 1) (as := []) (S := [vR (some 1), vR (some 0)]) (y' := 54) (d' := d - 1) (b' := 30) (idx := 9) (by decide +kernel) (by decide +kernel) (by decide +kernel) (by decide) (show 0 = m_na 54 by decide +kernel) (Nat.le_of_ble_eq_true rfl) (by decide +kernel) (by omega) (show 2 + m_mc 54 = 30 by decide +kernel) (show 30 ≤ 134 by decide) (show nsu 30 = nsu 2 + m_ms 54 by decide +kernel) ?_
  refine ct_54_1 (by omega) ?_
  show WP 129 d 134 12 [some (vR (some 0))] [vR (some 1), vR (some 0)] ((gN [(28, 2, 1), (28, 1, 1), (28, 0, 1)] (gN [(15, 1, 50), (15, 0, 50)] (gN [] (gN [(2, 10, 1), (2, 9, 5), (7, 3, 1), (7, 2, 1), (7, 1, 1), (7, 0, 1)] (gN [] (gN [] mi)))))), (gR [(1, 3, 20), (20, 8, 29), (20, 7, 28), (20, 6, 27), (20, 5, 26), (20, 4, 25), (20, 3, 24), (20, 2, 23), (20, 1, 22), (20, 0, 21)] (gR [(1, 2, 14), (14, 4, 19), (14, 3, 18), (14, 2, 17), (14, 1, 16), (14, 0, 15)] (gR [(1, 1, 10), (10, 2, 13), (10, 1, 12), (10, 0, 11)] (gR [(1, 0, 2), (2, 6, 9), (2, 5, 8), (2, 4, 7), (2, 3, 6), (2, 2, 5), (2, 1, 4), (2, 0, 3)] (gR [] (gR [] mr)))))), 30) Q
  refine cn_pR (idx := 10) (h := 0) (ci := 11) (k := 0) (fin := 1) (v := 1) (by decide +kernel) (by decide +kernel) (by decide +kernel) (by decide +kernel) ?_
  refine so_aload_n (k := 0) (by decide +kernel) rfl ?_
  refine so_iconst (n := 2) (by decide +kernel) (by unfold ir; omega) ?_
  refine cn_anew (a' := 31) (idx := 7) (n := 2) (by decide +kernel) (by decide +kernel) (by decide +kernel) rfl rfl (by decide) ?_
  refine so_dup (by decide +kernel) rfl ?_
  refine so_iconst (n := 0) (by decide +kernel) (by unfold ir; omega) ?_
  refine cn_new (a' := 32) (idx := 7) (ci := 4) (by decide +kernel) (by decide +kernel) (by decide +kernel) rfl (by decide) ?_
  refine so_dup (by decide +kernel) rfl ?_
  refine so_callIN (h := 31) (as := []) (S := [vR (some 31), vI (0), vR (some 30), vR (some 30), vR (some 0)]) (y' := 54) (d' := d - 1) (b' := 60) (idx := 9) (by decide +kernel) (by decide +kernel) (by decide +kernel) (by decide) (show 0 = m_na 54 by decide +kernel) (Nat.le_of_ble_eq_true rfl) (by decide +kernel) (by omega) (show 32 + m_mc 54 = 60 by decide +kernel) (show 60 ≤ 134 by decide) (show nsu 60 = nsu 32 + m_ms 54 by decide +kernel) ?_
  refine ct_54_31 (by omega) ?_
  show WP 129 d 134 29 [some (vR (some 0))] [vR (some 31), vI (0), vR (some 30), vR (some 30), vR (some 0)] ((gN [(58, 2, 1), (58, 1, 1), (58, 0, 1)] (gN [(45, 1, 50), (45, 0, 50)] (gN [] (gN [(32, 10, 1), (32, 9, 5), (37, 3, 1), (37, 2, 1), (37, 1, 1), (37, 0, 1)] (gN [] (gN [(28, 2, 1), (28, 1, 1), (28, 0, 1)] (gN [(15, 1, 50), (15, 0, 50)] (gN [] (gN [(2, 10, 1), (2, 9, 5), (7, 3, 1), (7, 2, 1), (7, 1, 1), (7, 0, 1)] (gN [] (gN [] mi))))))))))), (gR [(31, 3, 50), (50, 8, 59), (50, 7, 58), (50, 6, 57), (50, 5, 56), (50, 4, 55), (50, 3, 54), (50, 2, 53), (50, 1, 52), (50, 0, 51)] (gR [(31, 2, 44), (44, 4, 49), (44, 3, 48), (44, 2, 47), (44, 1, 46), (44, 0, 45)] (gR [(31, 1, 40), (40, 2, 43), (40, 1, 42), (40, 0, 41)] (gR [(31, 0, 32), (32, 6, 39), (32, 5, 38), (32, 4, 37), (32, 3, 36), (32, 2, 35), (32, 1, 34), (32, 0, 33)] (gR [] (gR [(0, 0, 1), (1, 3, 20), (20, 8, 29), (20, 7, 28), (20, 6, 27), (20, 5, 26), (20, 4, 25), (20, 3, 24), (20, 2, 23), (20, 1, 22), (20, 0, 21)] (gR [(1, 2, 14), (14, 4, 19), (14, 3, 18), (14, 2, 17), (14, 1, 16), (14, 0, 15)] (gR [(1, 1, 10), (10, 2, 13), (10, 1, 12), (10, 0, 11)] (gR [(1, 0, 2), (2, 6, 9), (2, 5, 8), (2, 4, 7), (2, 3, 6), (2, 2, 5), (2, 1, 4), (2, 0, 3)] (gR [] (gR [] mr))))))))))), 60) Q
  refine cn_aas (h := 30) (n := 2) (v := 31) (i := 0) (j := 0) (by decide +kernel) (by decide +kernel) (by decide +kernel) (by decide) (by decide) rfl ?_
  refine so_dup (by decide +kernel) rfl ?_
  refine so_iconst (n := 1) (by decide +kernel) (by unfold ir; omega) ?_
  refine cn_new (a' := 61) (idx := 7) (ci := 4) (by decide +kernel) (by decide +kernel) (by decide +kernel) rfl (by decide) ?_
  refine so_dup (by decide +kernel) rfl ?_
  refine so_callIN (h := 60) (as := []) (S := [vR (some 60), vI (1), vR (some 30), vR (some 30), vR (some 0)]) (y' := 54) (d' := d - 1) (b' := 89) (idx := 9) (by decide +kernel) (by decide +kernel) (by decide +kernel) (by decide) (show 0 = m_na 54 by decide +kernel) (Nat.le_of_ble_eq_true rfl) (by decide +kernel) (by omega) (show 61 + m_mc 54 = 89 by decide +kernel) (show 89 ≤ 134 by decide) (show nsu 89 = nsu 61 + m_ms 54 by decide +kernel) ?_
  refine ct_54_60 (by omega) ?_
  show WP 129 d 134 39 [some (vR (some 0))] [vR (some 60), vI (1), vR (some 30), vR (some 30), vR (some 0)] ((gN [(87, 2, 1), (87, 1, 1), (87, 0, 1)] (gN [(74, 1, 50), (74, 0, 50)] (gN [] (gN [(61, 10, 1), (61, 9, 5), (66, 3, 1), (66, 2, 1), (66, 1, 1), (66, 0, 1)] (gN [] (gN [(58, 2, 1), (58, 1, 1), (58, 0, 1)] (gN [(45, 1, 50), (45, 0, 50)] (gN [] (gN [(32, 10, 1), (32, 9, 5), (37, 3, 1), (37, 2, 1), (37, 1, 1), (37, 0, 1)] (gN [] (gN [(28, 2, 1), (28, 1, 1), (28, 0, 1)] (gN [(15, 1, 50), (15, 0, 50)] (gN [] (gN [(2, 10, 1), (2, 9, 5), (7, 3, 1), (7, 2, 1), (7, 1, 1), (7, 0, 1)] (gN [] (gN [] mi)))))))))))))))), (gR [(60, 3, 79), (79, 8, 88), (79, 7, 87), (79, 6, 86), (79, 5, 85), (79, 4, 84), (79, 3, 83), (79, 2, 82), (79, 1, 81), (79, 0, 80)] (gR [(60, 2, 73), (73, 4, 78), (73, 3, 77), (73, 2, 76), (73, 1, 75), (73, 0, 74)] (gR [(60, 1, 69), (69, 2, 72), (69, 1, 71), (69, 0, 70)] (gR [(60, 0, 61), (61, 6, 68), (61, 5, 67), (61, 4, 66), (61, 3, 65), (61, 2, 64), (61, 1, 63), (61, 0, 62)] (gR [] (gR [(30, 0, 31), (31, 3, 50), (50, 8, 59), (50, 7, 58), (50, 6, 57), (50, 5, 56), (50, 4, 55), (50, 3, 54), (50, 2, 53), (50, 1, 52), (50, 0, 51)] (gR [(31, 2, 44), (44, 4, 49), (44, 3, 48), (44, 2, 47), (44, 1, 46), (44, 0, 45)] (gR [(31, 1, 40), (40, 2, 43), (40, 1, 42), (40, 0, 41)] (gR [(31, 0, 32), (32, 6, 39), (32, 5, 38), (32, 4, 37), (32, 3, 36), (32, 2, 35), (32, 1, 34), (32, 0, 33)] (gR [] (gR [(0, 0, 1), (1, 3, 20), (20, 8, 29), (20, 7, 28), (20, 6, 27), (20, 5, 26), (20, 4, 25), (20, 3, 24), (20, 2, 23), (20, 1, 22), (20, 0, 21)] (gR [(1, 2, 14), (14, 4, 19), (14, 3, 18), (14, 2, 17), (14, 1, 16), (14, 0, 15)] (gR [(1, 1, 10), (10, 2, 13), (10, 1, 12), (10, 0, 11)] (gR [(1, 0, 2), (2, 6, 9), (2, 5, 8), (2, 4, 7), (2, 3, 6), (2, 2, 5), (2, 1, 4), (2, 0, 3)] (gR [] (gR [] mr)))))))))))))))), 89) Q
  refine cn_aas (h := 30) (n := 2) (v := 60) (i := 1) (j := 1) (by decide +kernel) (by decide +kernel) (by decide +kernel) (by decide) (by decide) rfl ?_
  refine cn_pR (idx := 16) (h := 0) (ci := 11) (k := 1) (fin := 1) (v := 30) (by decide +kernel) (by decide +kernel) (by decide +kernel) (by decide +kernel) ?_
  refine so_aload_n (k := 0) (by decide +kernel) rfl ?_
  refine so_iconst (n := 2) (by decide +kernel) (by unfold ir; omega) ?_
  refine cn_boolean (a' := 90) (n := 2) (by decide +kernel) (by decide +kernel) rfl rfl (by decide) ?_
  refine cn_pR (idx := 20) (h := 0) (ci := 11) (k := 2) (fin := 1) (v := 89) (by decide +kernel) (by decide +kernel) (by decide +kernel) (by decide +kernel) ?_
  refine so_aload_n (k := 0) (by decide +kernel) rfl ?_
  refine cn_new (a' := 91) (idx := 24) (ci := 9) (by decide +kernel) (by decide +kernel) (by decide +kernel) rfl (by decide) ?_
  refine so_dup (by decide +kernel) rfl ?_
  refine so_callIN (h := 90) (as := []) (S := [vR (some 90), vR (some 0)]) (y' := 110) (d' := d - 1) (b' := 94) (idx := 26) (by decide +kernel) (by decide +kernel) (by decide +kernel) (by decide) (show 0 = m_na 110 by decide +kernel) (Nat.le_of_ble_eq_true rfl) (by decide +kernel) (by omega) (show 91 + m_mc 110 = 94 by decide +kernel) (show 94 ≤ 134 by decide) (show nsu 94 = nsu 91 + m_ms 110 by decide +kernel) ?_
  refine ct_110_90 (by omega) ?_
  show WP 129 d 134 58 [some (vR (some 0))] [vR (some 90), vR (some 0)] ((gN [] (gN [(87, 2, 1), (87, 1, 1), (87, 0, 1)] (gN [(74, 1, 50), (74, 0, 50)] (gN [] (gN [(61, 10, 1), (61, 9, 5), (66, 3, 1), (66, 2, 1), (66, 1, 1), (66, 0, 1)] (gN [] (gN [(58, 2, 1), (58, 1, 1), (58, 0, 1)] (gN [(45, 1, 50), (45, 0, 50)] (gN [] (gN [(32, 10, 1), (32, 9, 5), (37, 3, 1), (37, 2, 1), (37, 1, 1), (37, 0, 1)] (gN [] (gN [(28, 2, 1), (28, 1, 1), (28, 0, 1)] (gN [(15, 1, 50), (15, 0, 50)] (gN [] (gN [(2, 10, 1), (2, 9, 5), (7, 3, 1), (7, 2, 1), (7, 1, 1), (7, 0, 1)] (gN [] (gN [] mi))))))))))))))))), (gR [(90, 2, 93), (90, 1, 92), (90, 0, 91)] (gR [(0, 2, 89), (0, 1, 30), (30, 1, 60), (60, 3, 79), (79, 8, 88), (79, 7, 87), (79, 6, 86), (79, 5, 85), (79, 4, 84), (79, 3, 83), (79, 2, 82), (79, 1, 81), (79, 0, 80)] (gR [(60, 2, 73), (73, 4, 78), (73, 3, 77), (73, 2, 76), (73, 1, 75), (73, 0, 74)] (gR [(60, 1, 69), (69, 2, 72), (69, 1, 71), (69, 0, 70)] (gR [(60, 0, 61), (61, 6, 68), (61, 5, 67), (61, 4, 66), (61, 3, 65), (61, 2, 64), (61, 1, 63), (61, 0, 62)] (gR [] (gR [(30, 0, 31), (31, 3, 50), (50, 8, 59), (50, 7, 58), (50, 6, 57), (50, 5, 56), (50, 4, 55), (50, 3, 54), (50, 2, 53), (50, 1, 52), (50, 0, 51)] (gR [(31, 2, 44), (44, 4, 49), (44, 3, 48), (44, 2, 47), (44, 1, 46), (44, 0, 45)] (gR [(31, 1, 40), (40, 2, 43), (40, 1, 42), (40, 0, 41)] (gR [(31, 0, 32), (32, 6, 39), (32, 5, 38), (32, 4, 37), (32, 3, 36), (32, 2, 35), (32, 1, 34), (32, 0, 33)] (gR [] (gR [(0, 0, 1), (1, 3, 20), (20, 8, 29), (20, 7, 28), (20, 6, 27), (20, 5, 26), (20, 4, 25), (20, 3, 24), (20, 2, 23), (20, 1, 22), (20, 0, 21)] (gR [(1, 2, 14), (14, 4, 19), (14, 3, 18), (14, 2, 17), (14, 1, 16), (14, 0, 15)] (gR [(1, 1, 10), (10, 2, 13), (10, 1, 12), (10, 0, 11)] (gR [(1, 0, 2), (2, 6, 9), (2, 5, 8), (2, 4, 7), (2, 3, 6), (2, 2, 5), (2, 1, 4), (2, 0, 3)] (gR [] (gR [] mr))))))))))))))))), 94) Q
  refine cn_pR (idx := 27) (h := 0) (ci := 11) (k := 3) (fin := 1) (v := 90) (by decide +kernel) (by decide +kernel) (by decide +kernel) (by decide +kernel) ?_
  refine so_aload_n (k := 0) (by decide +kernel) rfl ?_
  refine cn_new (a' := 95) (idx := 31) (ci := 3) (by decide +kernel) (by decide +kernel) (by decide +kernel) rfl (by decide) ?_
  refine so_dup (by decide +kernel) rfl ?_
  refine so_aload_n (k := 0) (by decide +kernel) rfl ?_
  refine cn_gf (idx := 27) (h := 0) (ci := 11) (k := 3) (fin := 1) (v := 90) (by decide +kernel) (by decide +kernel) (by decide +kernel) rfl ?_
  refine so_callI (h := 94) (as := [vR (some 90)]) (S := [vR (some 94), vR (some 0)]) (y' := 40) (d' := d - 1) (b' := 100) (idx := 33) (by decide +kernel) (by decide +kernel) (by decide) (show 1 = m_na 40 by decide +kernel) (Nat.le_of_ble_eq_true rfl) (by decide +kernel) (by omega) (show 95 + m_mc 40 = 100 by decide +kernel) (show 100 ≤ 134 by decide) (show nsu 100 = nsu 95 + m_ms 40 by decide +kernel) ?_
  refine ct_40_94 (by omega) ?_
  show WP 129 d 134 73 [some (vR (some 0))] [vR (some 94), vR (some 0)] ((gN [] (gN [] (gN [] (gN [(87, 2, 1), (87, 1, 1), (87, 0, 1)] (gN [(74, 1, 50), (74, 0, 50)] (gN [] (gN [(61, 10, 1), (61, 9, 5), (66, 3, 1), (66, 2, 1), (66, 1, 1), (66, 0, 1)] (gN [] (gN [(58, 2, 1), (58, 1, 1), (58, 0, 1)] (gN [(45, 1, 50), (45, 0, 50)] (gN [] (gN [(32, 10, 1), (32, 9, 5), (37, 3, 1), (37, 2, 1), (37, 1, 1), (37, 0, 1)] (gN [] (gN [(28, 2, 1), (28, 1, 1), (28, 0, 1)] (gN [(15, 1, 50), (15, 0, 50)] (gN [] (gN [(2, 10, 1), (2, 9, 5), (7, 3, 1), (7, 2, 1), (7, 1, 1), (7, 0, 1)] (gN [] (gN [] mi))))))))))))))))))), (gR [(94, 2, 90), (94, 1, 96), (96, 2, 99), (96, 1, 98), (96, 0, 97)] (gR [(94, 0, 95)] (gR [(0, 3, 90), (90, 2, 93), (90, 1, 92), (90, 0, 91)] (gR [(0, 2, 89), (0, 1, 30), (30, 1, 60), (60, 3, 79), (79, 8, 88), (79, 7, 87), (79, 6, 86), (79, 5, 85), (79, 4, 84), (79, 3, 83), (79, 2, 82), (79, 1, 81), (79, 0, 80)] (gR [(60, 2, 73), (73, 4, 78), (73, 3, 77), (73, 2, 76), (73, 1, 75), (73, 0, 74)] (gR [(60, 1, 69), (69, 2, 72), (69, 1, 71), (69, 0, 70)] (gR [(60, 0, 61), (61, 6, 68), (61, 5, 67), (61, 4, 66), (61, 3, 65), (61, 2, 64), (61, 1, 63), (61, 0, 62)] (gR [] (gR [(30, 0, 31), (31, 3, 50), (50, 8, 59), (50, 7, 58), (50, 6, 57), (50, 5, 56), (50, 4, 55), (50, 3, 54), (50, 2, 53), (50, 1, 52), (50, 0, 51)] (gR [(31, 2, 44), (44, 4, 49), (44, 3, 48), (44, 2, 47), (44, 1, 46), (44, 0, 45)] (gR [(31, 1, 40), (40, 2, 43), (40, 1, 42), (40, 0, 41)] (gR [(31, 0, 32), (32, 6, 39), (32, 5, 38), (32, 4, 37), (32, 3, 36), (32, 2, 35), (32, 1, 34), (32, 0, 33)] (gR [] (gR [(0, 0, 1), (1, 3, 20), (20, 8, 29), (20, 7, 28), (20, 6, 27), (20, 5, 26), (20, 4, 25), (20, 3, 24), (20, 2, 23), (20, 1, 22), (20, 0, 21)] (gR [(1, 2, 14), (14, 4, 19), (14, 3, 18), (14, 2, 17), (14, 1, 16), (14, 0, 15)] (gR [(1, 1, 10), (10, 2, 13), (10, 1, 12), (10, 0, 11)] (gR [(1, 0, 2), (2, 6, 9), (2, 5, 8), (2, 4, 7), (2, 3, 6), (2, 2, 5), (2, 1, 4), (2, 0, 3)] (gR [] (gR [] mr))))))))))))))))))), 100) Q
  refine cn_pR (idx := 36) (h := 0) (ci := 11) (k := 4) (fin := 1) (v := 94) (by decide +kernel) (by decide +kernel) (by decide +kernel) (by decide +kernel) ?_
  refine so_aload_n (k := 0) (by decide +kernel) rfl ?_
  refine cn_new (a' := 101) (idx := 40) (ci := 8) (by decide +kernel) (by decide +kernel) (by decide +kernel) rfl (by decide) ?_
  refine so_dup (by decide +kernel) rfl ?_
  refine so_aload_n (k := 0) (by decide +kernel) rfl ?_
  refine cn_gf (idx := 10) (h := 0) (ci := 11) (k := 0) (fin := 1) (v := 1) (by decide +kernel) (by decide +kernel) (by decide +kernel) rfl ?_
  refine cn_gf (idx := 42) (h := 1) (ci := 4) (k := 0) (fin := 1) (v := 2) (by decide +kernel) (by decide +kernel) (by decide +kernel) rfl ?_
  refine so_aload_n (k := 0) (by decide +kernel) rfl ?_
  refine cn_gf (idx := 10) (h := 0) (ci := 11) (k := 0) (fin := 1) (v := 1) (by decide +kernel) (by decide +kernel) (by decide +kernel) rfl ?_
  refine cn_gf (idx := 46) (h := 1) (ci := 4) (k := 1) (fin := 1) (v := 10) (by decide +kernel) (by decide +kernel) (by decide +kernel) rfl ?_
  refine so_callI (h := 100) (as := [vR (some 2), vR (some 10)]) (S := [vR (some 100), vR (some 0)]) (y' := 102) (d' := d - 1) (b' := 103) (idx := 50) (by decide +kernel) (by decide +kernel) (by decide) (show 2 = m_na 102 by decide +kernel) (Nat.le_of_ble_eq_true rfl) (by decide +kernel) (by omega) (show 101 + m_mc 102 = 103 by decide +kernel) (show 103 ≤ 134 by decide) (show nsu 103 = nsu 101 + m_ms 102 by decide +kernel) ?_
  refine ct_102_100 (by omega) ?_
  show WP 129 d 134 98 [some (vR (some 0))] [vR (some 100), vR (some 0)] ((gN [] (gN [] (gN [] (gN [] (gN [(87, 2, 1), (87, 1, 1), (87, 0, 1)] (gN [(74, 1, 50), (74, 0, 50)] (gN [] (gN [(61, 10, 1), (61, 9, 5), (66, 3, 1), (66, 2, 1), (66, 1, 1), (66, 0, 1)] (gN [] (gN [(58, 2, 1), (58, 1, 1), (58, 0, 1)] (gN [(45, 1, 50), (45, 0, 50)] (gN [] (gN [(32, 10, 1), (32, 9, 5), (37, 3, 1), (37, 2, 1), (37, 1, 1), (37, 0, 1)] (gN [] (gN [(28, 2, 1), (28, 1, 1), (28, 0, 1)] (gN [(15, 1, 50), (15, 0, 50)] (gN [] (gN [(2, 10, 1), (2, 9, 5), (7, 3, 1), (7, 2, 1), (7, 1, 1), (7, 0, 1)] (gN [] (gN [] mi)))))))))))))))))))), (gR [(100, 1, 10), (100, 0, 2), (100, 3, 102), (100, 2, 101)] (gR [(0, 4, 94), (94, 2, 90), (94, 1, 96), (96, 2, 99), (96, 1, 98), (96, 0, 97)] (gR [(94, 0, 95)] (gR [(0, 3, 90), (90, 2, 93), (90, 1, 92), (90, 0, 91)] (gR [(0, 2, 89), (0, 1, 30), (30, 1, 60), (60, 3, 79), (79, 8, 88), (79, 7, 87), (79, 6, 86), (79, 5, 85), (79, 4, 84), (79, 3, 83), (79, 2, 82), (79, 1, 81), (79, 0, 80)] (gR [(60, 2, 73), (73, 4, 78), (73, 3, 77), (73, 2, 76), (73, 1, 75), (73, 0, 74)] (gR [(60, 1, 69), (69, 2, 72), (69, 1, 71), (69, 0, 70)] (gR [(60, 0, 61), (61, 6, 68), (61, 5, 67), (61, 4, 66), (61, 3, 65), (61, 2, 64), (61, 1, 63), (61, 0, 62)] (gR [] (gR [(30, 0, 31), (31, 3, 50), (50, 8, 59), (50, 7, 58), (50, 6, 57), (50, 5, 56), (50, 4, 55), (50, 3, 54), (50, 2, 53), (50, 1, 52), (50, 0, 51)] (gR [(31, 2, 44), (44, 4, 49), (44, 3, 48), (44, 2, 47), (44, 1, 46), (44, 0, 45)] (gR [(31, 1, 40), (40, 2, 43), (40, 1, 42), (40, 0, 41)] (gR [(31, 0, 32), (32, 6, 39), (32, 5, 38), (32, 4, 37), (32, 3, 36), (32, 2, 35), (32, 1, 34), (32, 0, 33)] (gR [] (gR [(0, 0, 1), (1, 3, 20), (20, 8, 29), (20, 7, 28), (20, 6, 27), (20, 5, 26), (20, 4, 25), (20, 3, 24), (20, 2, 23), (20, 1, 22), (20, 0, 21)] (gR [(1, 2, 14), (14, 4, 19), (14, 3, 18), (14, 2, 17), (14, 1, 16), (14, 0, 15)] (gR [(1, 1, 10), (10, 2, 13), (10, 1, 12), (10, 0, 11)] (gR [(1, 0, 2), (2, 6, 9), (2, 5, 8), (2, 4, 7), (2, 3, 6), (2, 2, 5), (2, 1, 4), (2, 0, 3)] (gR [] (gR [] mr)))))))))))))))))))), 103) Q
  refine cn_pR (idx := 53) (h := 0) (ci := 11) (k := 5) (fin := 1) (v := 100) (by decide +kernel) (by decide +kernel) (by decide +kernel) (by decide +kernel) ?_
  refine so_aload_n (k := 0) (by decide +kernel) rfl ?_
  refine cn_new (a' := 104) (idx := 57) (ci := 2) (by decide +kernel) (by decide +kernel) (by decide +kernel) rfl (by decide) ?_
  refine so_dup (by decide +kernel) rfl ?_
  refine so_callIN (h := 103) (as := []) (S := [vR (some 103), vR (some 0)]) (y' := 35) (d' := d - 1) (b' := 105) (idx := 59) (by decide +kernel) (by decide +kernel) (by decide +kernel) (by decide) (show 0 = m_na 35 by decide +kernel) (Nat.le_of_ble_eq_true rfl) (by decide +kernel) (by omega) (show 104 + m_mc 35 = 105 by decide +kernel) (show 105 ≤ 134 by decide) (show nsu 105 = nsu 104 + m_ms 35 by decide +kernel) ?_
  refine ct_35_103 (by omega) ?_
  show WP 129 d 134 109 [some (vR (some 0))] [vR (some 103), vR (some 0)] ((gN [] (gN [] (gN [] (gN [] (gN [] (gN [(87, 2, 1), (87, 1, 1), (87, 0, 1)] (gN [(74, 1, 50), (74, 0, 50)] (gN [] (gN [(61, 10, 1), (61, 9, 5), (66, 3, 1), (66, 2, 1), (66, 1, 1), (66, 0, 1)] (gN [] (gN [(58, 2, 1), (58, 1, 1), (58, 0, 1)] (gN [(45, 1, 50), (45, 0, 50)] (gN [] (gN [(32, 10, 1), (32, 9, 5), (37, 3, 1), (37, 2, 1), (37, 1, 1), (37, 0, 1)] (gN [] (gN [(28, 2, 1), (28, 1, 1), (28, 0, 1)] (gN [(15, 1, 50), (15, 0, 50)] (gN [] (gN [(2, 10, 1), (2, 9, 5), (7, 3, 1), (7, 2, 1), (7, 1, 1), (7, 0, 1)] (gN [] (gN [] mi))))))))))))))))))))), (gR [(103, 0, 104)] (gR [(0, 5, 100), (100, 1, 10), (100, 0, 2), (100, 3, 102), (100, 2, 101)] (gR [(0, 4, 94), (94, 2, 90), (94, 1, 96), (96, 2, 99), (96, 1, 98), (96, 0, 97)] (gR [(94, 0, 95)] (gR [(0, 3, 90), (90, 2, 93), (90, 1, 92), (90, 0, 91)] (gR [(0, 2, 89), (0, 1, 30), (30, 1, 60), (60, 3, 79), (79, 8, 88), (79, 7, 87), (79, 6, 86), (79, 5, 85), (79, 4, 84), (79, 3, 83), (79, 2, 82), (79, 1, 81), (79, 0, 80)] (gR [(60, 2, 73), (73, 4, 78), (73, 3, 77), (73, 2, 76), (73, 1, 75), (73, 0, 74)] (gR [(60, 1, 69), (69, 2, 72), (69, 1, 71), (69, 0, 70)] (gR [(60, 0, 61), (61, 6, 68), (61, 5, 67), (61, 4, 66), (61, 3, 65), (61, 2, 64), (61, 1, 63), (61, 0, 62)] (gR [] (gR [(30, 0, 31), (31, 3, 50), (50, 8, 59), (50, 7, 58), (50, 6, 57), (50, 5, 56), (50, 4, 55), (50, 3, 54), (50, 2, 53), (50, 1, 52), (50, 0, 51)] (gR [(31, 2, 44), (44, 4, 49), (44, 3, 48), (44, 2, 47), (44, 1, 46), (44, 0, 45)] (gR [(31, 1, 40), (40, 2, 43), (40, 1, 42), (40, 0, 41)] (gR [(31, 0, 32), (32, 6, 39), (32, 5, 38), (32, 4, 37), (32, 3, 36), (32, 2, 35), (32, 1, 34), (32, 0, 33)] (gR [] (gR [(0, 0, 1), (1, 3, 20), (20, 8, 29), (20, 7, 28), (20, 6, 27), (20, 5, 26), (20, 4, 25), (20, 3, 24), (20, 2, 23), (20, 1, 22), (20, 0, 21)] (gR [(1, 2, 14), (14, 4, 19), (14, 3, 18), (14, 2, 17), (14, 1, 16), (14, 0, 15)] (gR [(1, 1, 10), (10, 2, 13), (10, 1, 12), (10, 0, 11)] (gR [(1, 0, 2), (2, 6, 9), (2, 5, 8), (2, 4, 7), (2, 3, 6), (2, 2, 5), (2, 1, 4), (2, 0, 3)] (gR [] (gR [] mr))))))))))))))))))))), 105) Q
  refine cn_pR (idx := 60) (h := 0) (ci := 11) (k := 6) (fin := 1) (v := 103) (by decide +kernel) (by decide +kernel) (by decide +kernel) (by decide +kernel) ?_
  refine so_aload_n (k := 0) (by decide +kernel) rfl ?_
  refine cn_new (a' := 106) (idx := 64) (ci := 6) (by decide +kernel) (by decide +kernel) (by decide +kernel) rfl (by decide) ?_
  refine so_dup (by decide +kernel) rfl ?_
  refine so_aload_n (k := 0) (by decide +kernel) rfl ?_
  refine cn_gf (idx := 10) (h := 0) (ci := 11) (k := 0) (fin := 1) (v := 1) (by decide +kernel) (by decide +kernel) (by decide +kernel) rfl ?_
  refine cn_gf (idx := 42) (h := 1) (ci := 4) (k := 0) (fin := 1) (v := 2) (by decide +kernel) (by decide +kernel) (by decide +kernel) rfl ?_
  refine so_aload_n (k := 0) (by decide +kernel) rfl ?_
  refine cn_gf (idx := 53) (h := 0) (ci := 11) (k := 5) (fin := 1) (v := 100) (by decide +kernel) (by decide +kernel) (by decide +kernel) rfl ?_
  refine so_aload_n (k := 0) (by decide +kernel) rfl ?_
  refine cn_gf (idx := 60) (h := 0) (ci := 11) (k := 6) (fin := 1) (v := 103) (by decide +kernel) (by decide +kernel) (by decide +kernel) rfl ?_
  refine so_callI (h := 105) (as := [vR (some 2), vR (some 100), vR (some 103)]) (S := [vR (some 105), vR (some 0)]) (y' := 65) (d' := d - 1) (b' := 117) (idx := 66) (by decide +kernel) (by decide +kernel) (by decide) (show 3 = m_na 65 by decide +kernel) (Nat.le_of_ble_eq_true rfl) (by decide +kernel) (by omega) (show 106 + m_mc 65 = 117 by decide +kernel) (show 117 ≤ 134 by decide) (show nsu 117 = nsu 106 + m_ms 65 by decide +kernel) ?_
  refine ct_65_105 (by omega) ?_
  show WP 129 d 134 135 [some (vR (some 0))] [vR (some 105), vR (some 0)] ((gN [] (gN [] (gN [] (gN [] (gN [] (gN [] (gN [(87, 2, 1), (87, 1, 1), (87, 0, 1)] (gN [(74, 1, 50), (74, 0, 50)] (gN [] (gN [(61, 10, 1), (61, 9, 5), (66, 3, 1), (66, 2, 1), (66, 1, 1), (66, 0, 1)] (gN [] (gN [(58, 2, 1), (58, 1, 1), (58, 0, 1)] (gN [(45, 1, 50), (45, 0, 50)] (gN [] (gN [(32, 10, 1), (32, 9, 5), (37, 3, 1), (37, 2, 1), (37, 1, 1), (37, 0, 1)] (gN [] (gN [(28, 2, 1), (28, 1, 1), (28, 0, 1)] (gN [(15, 1, 50), (15, 0, 50)] (gN [] (gN [(2, 10, 1), (2, 9, 5), (7, 3, 1), (7, 2, 1), (7, 1, 1), (7, 0, 1)] (gN [] (gN [] mi)))))))))))))))))))))), (gR [(105, 2, 103), (105, 1, 100), (105, 0, 2), (105, 13, 116), (105, 12, 115), (105, 11, 114), (105, 10, 113), (105, 9, 112), (105, 8, 111), (105, 7, 110), (105, 6, 109), (105, 5, 108), (105, 4, 107), (105, 3, 106)] (gR [(0, 6, 103), (103, 0, 104)] (gR [(0, 5, 100), (100, 1, 10), (100, 0, 2), (100, 3, 102), (100, 2, 101)] (gR [(0, 4, 94), (94, 2, 90), (94, 1, 96), (96, 2, 99), (96, 1, 98), (96, 0, 97)] (gR [(94, 0, 95)] (gR [(0, 3, 90), (90, 2, 93), (90, 1, 92), (90, 0, 91)] (gR [(0, 2, 89), (0, 1, 30), (30, 1, 60), (60, 3, 79), (79, 8, 88), (79, 7, 87), (79, 6, 86), (79, 5, 85), (79, 4, 84), (79, 3, 83), (79, 2, 82), (79, 1, 81), (79, 0, 80)] (gR [(60, 2, 73), (73, 4, 78), (73, 3, 77), (73, 2, 76), (73, 1, 75), (73, 0, 74)] (gR [(60, 1, 69), (69, 2, 72), (69, 1, 71), (69, 0, 70)] (gR [(60, 0, 61), (61, 6, 68), (61, 5, 67), (61, 4, 66), (61, 3, 65), (61, 2, 64), (61, 1, 63), (61, 0, 62)] (gR [] (gR [(30, 0, 31), (31, 3, 50), (50, 8, 59), (50, 7, 58), (50, 6, 57), (50, 5, 56), (50, 4, 55), (50, 3, 54), (50, 2, 53), (50, 1, 52), (50, 0, 51)] (gR [(31, 2, 44), (44, 4, 49), (44, 3, 48), (44, 2, 47), (44, 1, 46), (44, 0, 45)] (gR [(31, 1, 40), (40, 2, 43), (40, 1, 42), (40, 0, 41)] (gR [(31, 0, 32), (32, 6, 39), (32, 5, 38), (32, 4, 37), (32, 3, 36), (32, 2, 35), (32, 1, 34), (32, 0, 33)] (gR [] (gR [(0, 0, 1), (1, 3, 20), (20, 8, 29), (20, 7, 28), (20, 6, 27), (20, 5, 26), (20, 4, 25), (20, 3, 24), (20, 2, 23), (20, 1, 22), (20, 0, 21)] (gR [(1, 2, 14), (14, 4, 19), (14, 3, 18), (14, 2, 17), (14, 1, 16), (14, 0, 15)] (gR [(1, 1, 10), (10, 2, 13), (10, 1, 12), (10, 0, 11)] (gR [(1, 0, 2), (2, 6, 9), (2, 5, 8), (2, 4, 7), (2, 3, 6), (2, 2, 5), (2, 1, 4), (2, 0, 3)] (gR [] (gR [] mr)))))))))))))))))))))), 117) Q
  refine cn_pR (idx := 69) (h := 0) (ci := 11) (k := 7) (fin := 1) (v := 105) (by decide +kernel) (by decide +kernel) (by decide +kernel) (by decide +kernel) ?_
  refine so_aload_n (k := 0) (by decide +kernel) rfl ?_
  refine cn_new (a' := 118) (idx := 73) (ci := 5) (by decide +kernel) (by decide +kernel) (by decide +kernel) rfl (by decide) ?_
  refine so_dup (by decide +kernel) rfl ?_
  refine so_callIN (h := 117) (as := []) (S := [vR (some 117), vR (some 0)]) (y' := 56) (d' := d - 1) (b' := 125) (idx := 75) (by decide +kernel) (by decide +kernel) (by decide +kernel) (by decide) (show 0 = m_na 56 by decide +kernel) (Nat.le_of_ble_eq_true rfl) (by decide +kernel) (by omega) (show 118 + m_mc 56 = 125 by decide +kernel) (show 125 ≤ 134 by decide) (show nsu 125 = nsu 118 + m_ms 56 by decide +kernel) ?_
  refine ct_56_117 (by omega) ?_
  show WP 129 d 134 146 [some (vR (some 0))] [vR (some 117), vR (some 0)] ((gN [] (gN [] (gN [] (gN [] (gN [] (gN [] (gN [] (gN [(87, 2, 1), (87, 1, 1), (87, 0, 1)] (gN [(74, 1, 50), (74, 0, 50)] (gN [] (gN [(61, 10, 1), (61, 9, 5), (66, 3, 1), (66, 2, 1), (66, 1, 1), (66, 0, 1)] (gN [] (gN [(58, 2, 1), (58, 1, 1), (58, 0, 1)] (gN [(45, 1, 50), (45, 0, 50)] (gN [] (gN [(32, 10, 1), (32, 9, 5), (37, 3, 1), (37, 2, 1), (37, 1, 1), (37, 0, 1)] (gN [] (gN [(28, 2, 1), (28, 1, 1), (28, 0, 1)] (gN [(15, 1, 50), (15, 0, 50)] (gN [] (gN [(2, 10, 1), (2, 9, 5), (7, 3, 1), (7, 2, 1), (7, 1, 1), (7, 0, 1)] (gN [] (gN [] mi))))))))))))))))))))))), (gR [(117, 8, 124), (117, 7, 123), (117, 6, 122), (117, 3, 121), (117, 2, 120), (117, 1, 119), (117, 0, 118)] (gR [(0, 7, 105), (105, 2, 103), (105, 1, 100), (105, 0, 2), (105, 13, 116), (105, 12, 115), (105, 11, 114), (105, 10, 113), (105, 9, 112), (105, 8, 111), (105, 7, 110), (105, 6, 109), (105, 5, 108), (105, 4, 107), (105, 3, 106)] (gR [(0, 6, 103), (103, 0, 104)] (gR [(0, 5, 100), (100, 1, 10), (100, 0, 2), (100, 3, 102), (100, 2, 101)] (gR [(0, 4, 94), (94, 2, 90), (94, 1, 96), (96, 2, 99), (96, 1, 98), (96, 0, 97)] (gR [(94, 0, 95)] (gR [(0, 3, 90), (90, 2, 93), (90, 1, 92), (90, 0, 91)] (gR [(0, 2, 89), (0, 1, 30), (30, 1, 60), (60, 3, 79), (79, 8, 88), (79, 7, 87), (79, 6, 86), (79, 5, 85), (79, 4, 84), (79, 3, 83), (79, 2, 82), (79, 1, 81), (79, 0, 80)] (gR [(60, 2, 73), (73, 4, 78), (73, 3, 77), (73, 2, 76), (73, 1, 75), (73, 0, 74)] (gR [(60, 1, 69), (69, 2, 72), (69, 1, 71), (69, 0, 70)] (gR [(60, 0, 61), (61, 6, 68), (61, 5, 67), (61, 4, 66), (61, 3, 65), (61, 2, 64), (61, 1, 63), (61, 0, 62)] (gR [] (gR [(30, 0, 31), (31, 3, 50), (50, 8, 59), (50, 7, 58), (50, 6, 57), (50, 5, 56), (50, 4, 55), (50, 3, 54), (50, 2, 53), (50, 1, 52), (50, 0, 51)] (gR [(31, 2, 44), (44, 4, 49), (44, 3, 48), (44, 2, 47), (44, 1, 46), (44, 0, 45)] (gR [(31, 1, 40), (40, 2, 43), (40, 1, 42), (40, 0, 41)] (gR [(31, 0, 32), (32, 6, 39), (32, 5, 38), (32, 4, 37), (32, 3, 36), (32, 2, 35), (32, 1, 34), (32, 0, 33)] (gR [] (gR [(0, 0, 1), (1, 3, 20), (20, 8, 29), (20, 7, 28), (20, 6, 27), (20, 5, 26), (20, 4, 25), (20, 3, 24), (20, 2, 23), (20, 1, 22), (20, 0, 21)] (gR [(1, 2, 14), (14, 4, 19), (14, 3, 18), (14, 2, 17), (14, 1, 16), (14, 0, 15)] (gR [(1, 1, 10), (10, 2, 13), (10, 1, 12), (10, 0, 11)] (gR [(1, 0, 2), (2, 6, 9), (2, 5, 8), (2, 4, 7), (2, 3, 6), (2, 2, 5), (2, 1, 4), (2, 0, 3)] (gR [] (gR [] mr))))))))))))))))))))))), 125) Q
  refine cn_pR (idx := 76) (h := 0) (ci := 11) (k := 8) (fin := 1) (v := 117) (by decide +kernel) (by decide +kernel) (by decide +kernel) (by decide +kernel) ?_
  refine so_aload_n (k := 0) (by decide +kernel) rfl ?_
  refine cn_new (a' := 126) (idx := 73) (ci := 5) (by decide +kernel) (by decide +kernel) (by decide +kernel) rfl (by decide) ?_
  refine so_dup (by decide +kernel) rfl ?_
  refine so_callIN (h := 125) (as := []) (S := [vR (some 125), vR (some 0)]) (y' := 56) (d' := d - 1) (b' := 133) (idx := 75) (by decide +kernel) (by decide +kernel) (by decide +kernel) (by decide) (show 0 = m_na 56 by decide +kernel) (Nat.le_of_ble_eq_true rfl) (by decide +kernel) (by omega) (show 126 + m_mc 56 = 133 by decide +kernel) (show 133 ≤ 134 by decide) (show nsu 133 = nsu 126 + m_ms 56 by decide +kernel) ?_
  refine ct_56_125 (by omega) ?_
  show WP 129 d 134 157 [some (vR (some 0))] [vR (some 125), vR (some 0)] ((gN [] (gN [] (gN [] (gN [] (gN [] (gN [] (gN [] (gN [] (gN [(87, 2, 1), (87, 1, 1), (87, 0, 1)] (gN [(74, 1, 50), (74, 0, 50)] (gN [] (gN [(61, 10, 1), (61, 9, 5), (66, 3, 1), (66, 2, 1), (66, 1, 1), (66, 0, 1)] (gN [] (gN [(58, 2, 1), (58, 1, 1), (58, 0, 1)] (gN [(45, 1, 50), (45, 0, 50)] (gN [] (gN [(32, 10, 1), (32, 9, 5), (37, 3, 1), (37, 2, 1), (37, 1, 1), (37, 0, 1)] (gN [] (gN [(28, 2, 1), (28, 1, 1), (28, 0, 1)] (gN [(15, 1, 50), (15, 0, 50)] (gN [] (gN [(2, 10, 1), (2, 9, 5), (7, 3, 1), (7, 2, 1), (7, 1, 1), (7, 0, 1)] (gN [] (gN [] mi)))))))))))))))))))))))), (gR [(125, 8, 132), (125, 7, 131), (125, 6, 130), (125, 3, 129), (125, 2, 128), (125, 1, 127), (125, 0, 126)] (gR [(0, 8, 117), (117, 8, 124), (117, 7, 123), (117, 6, 122), (117, 3, 121), (117, 2, 120), (117, 1, 119), (117, 0, 118)] (gR [(0, 7, 105), (105, 2, 103), (105, 1, 100), (105, 0, 2), (105, 13, 116), (105, 12, 115), (105, 11, 114), (105, 10, 113), (105, 9, 112), (105, 8, 111), (105, 7, 110), (105, 6, 109), (105, 5, 108), (105, 4, 107), (105, 3, 106)] (gR [(0, 6, 103), (103, 0, 104)] (gR [(0, 5, 100), (100, 1, 10), (100, 0, 2), (100, 3, 102), (100, 2, 101)] (gR [(0, 4, 94), (94, 2, 90), (94, 1, 96), (96, 2, 99), (96, 1, 98), (96, 0, 97)] (gR [(94, 0, 95)] (gR [(0, 3, 90), (90, 2, 93), (90, 1, 92), (90, 0, 91)] (gR [(0, 2, 89), (0, 1, 30), (30, 1, 60), (60, 3, 79), (79, 8, 88), (79, 7, 87), (79, 6, 86), (79, 5, 85), (79, 4, 84), (79, 3, 83), (79, 2, 82), (79, 1, 81), (79, 0, 80)] (gR [(60, 2, 73), (73, 4, 78), (73, 3, 77), (73, 2, 76), (73, 1, 75), (73, 0, 74)] (gR [(60, 1, 69), (69, 2, 72), (69, 1, 71), (69, 0, 70)] (gR [(60, 0, 61), (61, 6, 68), (61, 5, 67), (61, 4, 66), (61, 3, 65), (61, 2, 64), (61, 1, 63), (61, 0, 62)] (gR [] (gR [(30, 0, 31), (31, 3, 50), (50, 8, 59), (50, 7, 58), (50, 6, 57), (50, 5, 56), (50, 4, 55), (50, 3, 54), (50, 2, 53), (50, 1, 52), (50, 0, 51)] (gR [(31, 2, 44), (44, 4, 49), (44, 3, 48), (44, 2, 47), (44, 1, 46), (44, 0, 45)] (gR [(31, 1, 40), (40, 2, 43), (40, 1, 42), (40, 0, 41)] (gR [(31, 0, 32), (32, 6, 39), (32, 5, 38), (32, 4, 37), (32, 3, 36), (32, 2, 35), (32, 1, 34), (32, 0, 33)] (gR [] (gR [(0, 0, 1), (1, 3, 20), (20, 8, 29), (20, 7, 28), (20, 6, 27), (20, 5, 26), (20, 4, 25), (20, 3, 24), (20, 2, 23), (20, 1, 22), (20, 0, 21)] (gR [(1, 2, 14), (14, 4, 19), (14, 3, 18), (14, 2, 17), (14, 1, 16), (14, 0, 15)] (gR [(1, 1, 10), (10, 2, 13), (10, 1, 12), (10, 0, 11)] (gR [(1, 0, 2), (2, 6, 9), (2, 5, 8), (2, 4, 7), (2, 3, 6), (2, 2, 5), (2, 1, 4), (2, 0, 3)] (gR [] (gR [] mr)))))))))))))))))))))))), 133) Q
  refine cn_pR (idx := 80) (h := 0) (ci := 11) (k := 9) (fin := 1) (v := 125) (by decide +kernel) (by decide +kernel) (by decide +kernel) (by decide +kernel) ?_
  refine so_aload_n (k := 0) (by decide +kernel) rfl ?_
  refine so_iconst (n := 3) (by decide +kernel) (by unfold ir; omega) ?_
  refine cn_int (a' := 134) (n := 3) (by decide +kernel) (by decide +kernel) rfl rfl (by decide) ?_
  refine cn_pR (idx := 83) (h := 0) (ci := 11) (k := 10) (fin := 1) (v := 133) (by decide +kernel) (by decide +kernel) (by decide +kernel) (by decide +kernel) ?_
  refine so_aload_n (k := 0) (by decide +kernel) rfl ?_
  refine so_iconst (n := -1) (by decide +kernel) (by unfold ir; omega) ?_
  refine cn_pI (idx := 87) (h := 0) (ci := 11) (k := 12) (fin := 0) (z := -1) (by decide +kernel) (by decide +kernel) (by decide +kernel) (by decide +kernel) ?_
  exact so_return (by decide +kernel) (by decide +kernel) rfl h
set_option maxRecDepth 100000 in
theorem ct_175_134 {d : Nat} (hd : 1 < d) {mi : MT} {mr : Nat → Nat → Option Nat} {Q : Option AV → Mem → Prop} (h : Q none ((gN [(135, 15, 1), (135, 11, 1), (135, 14, 1), (135, 10, 1), (135, 13, 1), (135, 9, 1), (135, 12, 1), (135, 8, 1), (135, 6, 50), (135, 5, 50), (135, 4, 1), (135, 3, 5), (134, 50, -1), (134, 11, -1)] mi), (gR [(134, 57, 171), (134, 55, 170), (134, 54, 169), (134, 53, 168), (134, 49, 167), (134, 48, 166), (134, 47, 165), (134, 46, 164), (134, 45, 163), (134, 44, 162), (134, 43, 161), (134, 42, 160), (134, 41, 159), (134, 38, 158), (134, 35, 157), (134, 34, 156), (134, 33, 155), (134, 32, 154), (134, 31, 153), (134, 30, 152), (134, 29, 151), (134, 28, 150), (134, 27, 149), (134, 26, 148), (134, 25, 147), (134, 24, 146), (134, 23, 145), (134, 22, 144), (134, 21, 143), (134, 20, 142), (134, 13, 141), (134, 6, 140), (134, 5, 139), (134, 4, 138), (134, 2, 137), (134, 1, 136), (134, 0, 135)] mr), 172)) : WPc 175 d 172 [vR (some 134)] (mi, mr, 135) Q := by
  refine en_175 ?_
  show WP 175 d 172 0 [some (vR (some 134)), none] [] (gN [] mi, gR [] mr, 135) Q
  refine so_aload_n (k := 0) (by decide +kernel) rfl ?_
  refine so_objInit (idx := 3) (h := 134) (by decide +kernel) (by decide +kernel) (Nat.le_of_ble_eq_true rfl) (by omega) ?_
  refine so_aload_n (k := 0) (by decide +kernel) rfl ?_
  refine so_sipush (n := 2066) (by decide +kernel) (by unfold ir; omega) rfl ?_
  refine cn_int (a' := 136) (n := 2066) (by decide +kernel) (by decide +kernel) rfl rfl (by decide) ?_
  refine cn_pR (idx := 9) (h := 134) (ci := 12) (k := 0) (fin := 1) (v := 135) (by decide +kernel) (by decide +kernel) (by decide +kernel) (by decide +kernel) ?_
  refine so_aload_n (k := 0) (by decide +kernel) rfl ?_
  refine so_sipush (n := 4132) (by decide +kernel) (by unfold ir; omega) rfl ?_
  refine cn_int (a' := 137) (n := 4132) (by decide +kernel) (by decide +kernel) rfl rfl (by decide) ?_
  refine cn_pR (idx := 13) (h := 134) (ci := 12) (k := 1) (fin := 1) (v := 136) (by decide +kernel) (by decide +kernel) (by decide +kernel) (by decide +kernel) ?_
  refine so_aload_n (k := 0) (by decide +kernel) rfl ?_
  refine so_iconst (n := 2) (by decide +kernel) (by unfold ir; omega) ?_
  refine cn_boolean (a' := 138) (n := 2) (by decide +kernel) (by decide +kernel) rfl rfl (by decide) ?_
  refine cn_pR (idx := 16) (h := 134) (ci := 12) (k := 2) (fin := 1) (v := 137) (by decide +kernel) (by decide +kernel) (by decide +kernel) (by decide +kernel) ?_
  refine so_aload_n (k := 0) (by decide +kernel) rfl ?_
  refine so_sipush (n := 400) (by decide +kernel) (by unfold ir; omega) rfl ?_
  refine cn_byte (a' := 139) (n := 400) (by decide +kernel) (by decide +kernel) rfl rfl (by decide) ?_
  refine cn_pR (idx := 20) (h := 134) (ci := 12) (k := 4) (fin := 1) (v := 138) (by decide +kernel) (by decide +kernel) (by decide +kernel) (by decide +kernel) ?_
  refine so_aload_n (k := 0) (by decide +kernel) rfl ?_
  refine so_sipush (n := 400) (by decide +kernel) (by unfold ir; omega) rfl ?_
  refine cn_byte (a' := 140) (n := 400) (by decide +kernel) (by decide +kernel) rfl rfl (by decide) ?_
  refine cn_pR (idx := 24) (h := 134) (ci := 12) (k := 5) (fin := 1) (v := 139) (by decide +kernel) (by decide +kernel) (by decide +kernel) (by decide +kernel) ?_
  refine so_aload_n (k := 0) (by decide +kernel) rfl ?_
  refine so_iconst (n := 5) (by decide +kernel) (by unfold ir; omega) ?_
  refine cn_int (a' := 141) (n := 5) (by decide +kernel) (by decide +kernel) rfl rfl (by decide) ?_
  refine cn_pR (idx := 27) (h := 134) (ci := 12) (k := 6) (fin := 1) (v := 140) (by decide +kernel) (by decide +kernel) (by decide +kernel) (by decide +kernel) ?_
  refine so_aload_n (k := 0) (by decide +kernel) rfl ?_
  refine so_iconst (n := -1) (by decide +kernel) (by unfold ir; omega) ?_
  refine cn_pI (idx := 30) (h := 134) (ci := 12) (k := 11) (fin := 0) (z := -1) (by decide +kernel) (by decide +kernel) (by decide +kernel) (by decide +kernel) ?_
  refine so_aload_n (k := 0) (by decide +kernel) rfl ?_
  refine so_bipush (n := 16) (by decide +kernel) (by unfold ir; omega) rfl ?_
  refine cn_int (a' := 142) (n := 16) (by decide +kernel) (by decide +kernel) rfl rfl (by decide) ?_
  refine cn_pR (idx := 34) (h := 134) (ci := 12) (k := 13) (fin := 1) (v := 141) (by decide +kernel) (by decide +kernel) (by decide +kernel) (by decide +kernel) ?_
  refine so_aload_n (k := 0) (by decide +kernel) rfl ?_
  refine so_bipush (n := 13) (by decide +kernel) (by unfold ir; omega) rfl ?_
  refine cn_int (a' := 143) (n := 13) (by decide +kernel) (by decide +kernel) rfl rfl (by decide) ?_
  refine cn_pR (idx := 37) (h := 134) (ci := 12) (k := 20) (fin := 1) (v := 142) (by decide +kernel) (by decide +kernel) (by decide +kernel) (by decide +kernel) ?_
  refine so_aload_n (k := 0) (by decide +kernel) rfl ?_
  refine so_bipush (n := 13) (by decide +kernel) (by unfold ir; omega) rfl ?_
  refine cn_int (a' := 144) (n := 13) (by decide +kernel) (by decide +kernel) rfl rfl (by decide) ?_
  refine cn_pR (idx := 40) (h := 134) (ci := 12) (k := 21) (fin := 1) (v := 143) (by decide +kernel) (by decide +kernel) (by decide +kernel) (by decide +kernel) ?_
  refine so_aload_n (k := 0) (by decide +kernel) rfl ?_
  refine so_bipush (n := 13) (by decide +kernel) (by unfold ir; omega) rfl ?_
  refine cn_int (a' := 145) (n := 13) (by decide +kernel) (by decide +kernel) rfl rfl (by decide) ?_
  refine cn_pR (idx := 43) (h := 134) (ci := 12) (k := 22) (fin := 1) (v := 144) (by decide +kernel) (by decide +kernel) (by decide +kernel) (by decide +kernel) ?_
  refine so_aload_n (k := 0) (by decide +kernel) rfl ?_
  refine so_bipush (n := 13) (by decide +kernel) (by unfold ir; omega) rfl ?_
  refine cn_int (a' := 146) (n := 13) (by decide +kernel) (by decide +kernel) rfl rfl (by decide) ?_
  refine cn_pR (idx := 46) (h := 134) (ci := 12) (k := 23) (fin := 1) (v := 145) (by decide +kernel) (by decide +kernel) (by decide +kernel) (by decide +kernel) ?_
  refine so_aload_n (k := 0) (by decide +kernel) rfl ?_
  refine so_bipush (n := 41) (by decide +kernel) (by unfold ir; omega) rfl ?_
  refine cn_int (a' := 147) (n := 41) (by decide +kernel) (by decide +kernel) rfl rfl (by decide) ?_
  refine cn_pR (idx := 49) (h := 134) (ci := 12) (k := 24) (fin := 1) (v := 146) (by decide +kernel) (by decide +kernel) (by decide +kernel) (by decide +kernel) ?_
  refine so_aload_n (k := 0) (by decide +kernel) rfl ?_
  refine so_bipush (n := 41) (by decide +kernel) (by unfold ir; omega) rfl ?_
  refine cn_int (a' := 148) (n := 41) (by decide +kernel) (by decide +kernel) rfl rfl (by decide) ?_
  refine cn_pR (idx := 52) (h := 134) (ci := 12) (k := 25) (fin := 1) (v := 147) (by decide +kernel) (by decide +kernel) (by decide +kernel) (by decide +kernel) ?_
  refine so_aload_n (k := 0) (by decide +kernel) rfl ?_
  refine so_bipush (n := 41) (by decide +kernel) (by unfold ir; omega) rfl ?_
  refine cn_int (a' := 149) (n := 41) (by decide +kernel) (by decide +kernel) rfl rfl (by decide) ?_
  refine cn_pR (idx := 55) (h := 134) (ci := 12) (k := 26) (fin := 1) (v := 148) (by decide +kernel) (by decide +kernel) (by decide +kernel) (by decide +kernel) ?_
  refine so_aload_n (k := 0) (by decide +kernel) rfl ?_
  refine so_bipush (n := 41) (by decide +kernel) (by unfold ir; omega) rfl ?_
  refine cn_int (a' := 150) (n := 41) (by decide +kernel) (by decide +kernel) rfl rfl (by decide) ?_
  refine cn_pR (idx := 58) (h := 134) (ci := 12) (k := 27) (fin := 1) (v := 149) (by decide +kernel) (by decide +kernel) (by decide +kernel) (by decide +kernel) ?_
  refine so_aload_n (k := 0) (by decide +kernel) rfl ?_
  refine so_bipush (n := 41) (by decide +kernel) (by unfold ir; omega) rfl ?_
  refine cn_int (a' := 151) (n := 41) (by decide +kernel) (by decide +kernel) rfl rfl (by decide) ?_
  refine cn_pR (idx := 61) (h := 134) (ci := 12) (k := 28) (fin := 1) (v := 150) (by decide +kernel) (by decide +kernel) (by decide +kernel) (by decide +kernel) ?_
  refine so_aload_n (k := 0) (by decide +kernel) rfl ?_
  refine so_sipush (n := 400) (by decide +kernel) (by unfold ir; omega) rfl ?_
  refine cn_int (a' := 152) (n := 400) (by decide +kernel) (by decide +kernel) rfl rfl (by decide) ?_
  refine cn_pR (idx := 64) (h := 134) (ci := 12) (k := 29) (fin := 1) (v := 151) (by decide +kernel) (by decide +kernel) (by decide +kernel) (by decide +kernel) ?_
  refine so_aload_n (k := 0) (by decide +kernel) rfl ?_
  refine so_sipush (n := 400) (by decide +kernel) (by unfold ir; omega) rfl ?_
  refine cn_boolean (a' := 153) (n := 400) (by decide +kernel) (by decide +kernel) rfl rfl (by decide) ?_
  refine cn_pR (idx := 67) (h := 134) (ci := 12) (k := 30) (fin := 1) (v := 152) (by decide +kernel) (by decide +kernel) (by decide +kernel) (by decide +kernel) ?_
  refine so_aload_n (k := 0) (by decide +kernel) rfl ?_
  refine so_bipush (n := 41) (by decide +kernel) (by unfold ir; omega) rfl ?_
  refine cn_boolean (a' := 154) (n := 41) (by decide +kernel) (by decide +kernel) rfl rfl (by decide) ?_
  refine cn_pR (idx := 70) (h := 134) (ci := 12) (k := 31) (fin := 1) (v := 153) (by decide +kernel) (by decide +kernel) (by decide +kernel) (by decide +kernel) ?_
  refine so_aload_n (k := 0) (by decide +kernel) rfl ?_
  refine so_bipush (n := 41) (by decide +kernel) (by unfold ir; omega) rfl ?_
  refine cn_int (a' := 155) (n := 41) (by decide +kernel) (by decide +kernel) rfl rfl (by decide) ?_
  refine cn_pR (idx := 73) (h := 134) (ci := 12) (k := 32) (fin := 1) (v := 154) (by decide +kernel) (by decide +kernel) (by decide +kernel) (by decide +kernel) ?_
  refine so_aload_n (k := 0) (by decide +kernel) rfl ?_
  refine so_bipush (n := 41) (by decide +kernel) (by unfold ir; omega) rfl ?_
  refine cn_int (a' := 156) (n := 41) (by decide +kernel) (by decide +kernel) rfl rfl (by decide) ?_
  refine cn_pR (idx := 76) (h := 134) (ci := 12) (k := 33) (fin := 1) (v := 155) (by decide +kernel) (by decide +kernel) (by decide +kernel) (by decide +kernel) ?_
  refine so_aload_n (k := 0) (by decide +kernel) rfl ?_
  refine so_bipush (n := 41) (by decide +kernel) (by unfold ir; omega) rfl ?_
  refine cn_int (a' := 157) (n := 41) (by decide +kernel) (by decide +kernel) rfl rfl (by decide) ?_
  refine cn_pR (idx := 79) (h := 134) (ci := 12) (k := 34) (fin := 1) (v := 156) (by decide +kernel) (by decide +kernel) (by decide +kernel) (by decide +kernel) ?_
  refine so_aload_n (k := 0) (by decide +kernel) rfl ?_
  refine so_bipush (n := 41) (by decide +kernel) (by unfold ir; omega) rfl ?_
  refine cn_int (a' := 158) (n := 41) (by decide +kernel) (by decide +kernel) rfl rfl (by decide) ?_
  refine cn_pR (idx := 82) (h := 134) (ci := 12) (k := 35) (fin := 1) (v := 157) (by decide +kernel) (by decide +kernel) (by decide +kernel) (by decide +kernel) ?_
  refine so_aload_n (k := 0) (by decide +kernel) rfl ?_
  refine so_bipush (n := 16) (by decide +kernel) (by unfold ir; omega) rfl ?_
  refine cn_int (a' := 159) (n := 16) (by decide +kernel) (by decide +kernel) rfl rfl (by decide) ?_
  refine cn_pR (idx := 85) (h := 134) (ci := 12) (k := 38) (fin := 1) (v := 158) (by decide +kernel) (by decide +kernel) (by decide +kernel) (by decide +kernel) ?_
  refine so_aload_n (k := 0) (by decide +kernel) rfl ?_
  refine so_bipush (n := 80) (by decide +kernel) (by unfold ir; omega) rfl ?_
  refine cn_int (a' := 160) (n := 80) (by decide +kernel) (by decide +kernel) rfl rfl (by decide) ?_
  refine cn_pR (idx := 88) (h := 134) (ci := 12) (k := 41) (fin := 1) (v := 159) (by decide +kernel) (by decide +kernel) (by decide +kernel) (by decide +kernel) ?_
  refine so_aload_n (k := 0) (by decide +kernel) rfl ?_
  refine so_bipush (n := 21) (by decide +kernel) (by unfold ir; omega) rfl ?_
  refine cn_int (a' := 161) (n := 21) (by decide +kernel) (by decide +kernel) rfl rfl (by decide) ?_
  refine cn_pR (idx := 91) (h := 134) (ci := 12) (k := 42) (fin := 1) (v := 160) (by decide +kernel) (by decide +kernel) (by decide +kernel) (by decide +kernel) ?_
  refine so_aload_n (k := 0) (by decide +kernel) rfl ?_
  refine so_iconst (n := 4) (by decide +kernel) (by unfold ir; omega) ?_
  refine cn_int (a' := 162) (n := 4) (by decide +kernel) (by decide +kernel) rfl rfl (by decide) ?_
  refine cn_pR (idx := 94) (h := 134) (ci := 12) (k := 43) (fin := 1) (v := 161) (by decide +kernel) (by decide +kernel) (by decide +kernel) (by decide +kernel) ?_
  refine so_aload_n (k := 0) (by decide +kernel) rfl ?_
  refine so_sipush (n := 2310) (by decide +kernel) (by unfold ir; omega) rfl ?_
  refine cn_int (a' := 163) (n := 2310) (by decide +kernel) (by decide +kernel) rfl rfl (by decide) ?_
  refine cn_pR (idx := 97) (h := 134) (ci := 12) (k := 44) (fin := 1) (v := 162) (by decide +kernel) (by decide +kernel) (by decide +kernel) (by decide +kernel) ?_
  refine so_aload_n (k := 0) (by decide +kernel) rfl ?_
  refine so_ldc (idx := 100) (z := 508200) (by decide +kernel) (by decide +kernel) (by unfold ir; omega) ?_
  refine cn_int (a' := 164) (n := 508200) (by decide +kernel) (by decide +kernel) rfl rfl (by decide) ?_
  refine cn_pR (idx := 101) (h := 134) (ci := 12) (k := 45) (fin := 1) (v := 163) (by decide +kernel) (by decide +kernel) (by decide +kernel) (by decide +kernel) ?_
  refine so_aload_n (k := 0) (by decide +kernel) rfl ?_
  refine so_sipush (n := 462) (by decide +kernel) (by unfold ir; omega) rfl ?_
  refine cn_int (a' := 165) (n := 462) (by decide +kernel) (by decide +kernel) rfl rfl (by decide) ?_
  refine cn_pR (idx := 104) (h := 134) (ci := 12) (k := 46) (fin := 1) (v := 164) (by decide +kernel) (by decide +kernel) (by decide +kernel) (by decide +kernel) ?_
  refine so_aload_n (k := 0) (by decide +kernel) rfl ?_
  refine so_bipush (n := 20) (by decide +kernel) (by unfold ir; omega) rfl ?_
  refine cn_int (a' := 166) (n := 20) (by decide +kernel) (by decide +kernel) rfl rfl (by decide) ?_
  refine cn_pR (idx := 107) (h := 134) (ci := 12) (k := 47) (fin := 1) (v := 165) (by decide +kernel) (by decide +kernel) (by decide +kernel) (by decide +kernel) ?_
  refine so_aload_n (k := 0) (by decide +kernel) rfl ?_
  refine so_bipush (n := 20) (by decide +kernel) (by unfold ir; omega) rfl ?_
  refine cn_int (a' := 167) (n := 20) (by decide +kernel) (by decide +kernel) rfl rfl (by decide) ?_
  refine cn_pR (idx := 110) (h := 134) (ci := 12) (k := 48) (fin := 1) (v := 166) (by decide +kernel) (by decide +kernel) (by decide +kernel) (by decide +kernel) ?_
  refine so_aload_n (k := 0) (by decide +kernel) rfl ?_
  refine so_bipush (n := 20) (by decide +kernel) (by unfold ir; omega) rfl ?_
  refine cn_int (a' := 168) (n := 20) (by decide +kernel) (by decide +kernel) rfl rfl (by decide) ?_
  refine cn_pR (idx := 113) (h := 134) (ci := 12) (k := 49) (fin := 1) (v := 167) (by decide +kernel) (by decide +kernel) (by decide +kernel) (by decide +kernel) ?_
  refine so_aload_n (k := 0) (by decide +kernel) rfl ?_
  refine so_iconst (n := -1) (by decide +kernel) (by unfold ir; omega) ?_
  refine cn_pI (idx := 116) (h := 134) (ci := 12) (k := 50) (fin := 0) (z := -1) (by decide +kernel) (by decide +kernel) (by decide +kernel) (by decide +kernel) ?_
  refine so_aload_n (k := 0) (by decide +kernel) rfl ?_
  refine so_sipush (n := 320) (by decide +kernel) (by unfold ir; omega) rfl ?_
  refine cn_int (a' := 169) (n := 320) (by decide +kernel) (by decide +kernel) rfl rfl (by decide) ?_
  refine cn_pR (idx := 119) (h := 134) (ci := 12) (k := 53) (fin := 1) (v := 168) (by decide +kernel) (by decide +kernel) (by decide +kernel) (by decide +kernel) ?_
  refine so_aload_n (k := 0) (by decide +kernel) rfl ?_
  refine so_bipush (n := 20) (by decide +kernel) (by unfold ir; omega) rfl ?_
  refine cn_int (a' := 170) (n := 20) (by decide +kernel) (by decide +kernel) rfl rfl (by decide) ?_
  refine cn_pR (idx := 122) (h := 134) (ci := 12) (k := 54) (fin := 1) (v := 169) (by decide +kernel) (by decide +kernel) (by decide +kernel) (by decide +kernel) ?_
  refine so_aload_n (k := 0) (by decide +kernel) rfl ?_
  refine so_sipush (n := 2800) (by decide +kernel) (by unfold ir; omega) rfl ?_
  refine cn_int (a' := 171) (n := 2800) (by decide +kernel) (by decide +kernel) rfl rfl (by decide) ?_
  refine cn_pR (idx := 125) (h := 134) (ci := 12) (k := 55) (fin := 1) (v := 170) (by decide +kernel) (by decide +kernel) (by decide +kernel) (by decide +kernel) ?_
  refine so_aload_n (k := 0) (by decide +kernel) rfl ?_
  refine so_bipush (n := 16) (by decide +kernel) (by unfold ir; omega) rfl ?_
  refine cn_int (a' := 172) (n := 16) (by decide +kernel) (by decide +kernel) rfl rfl (by decide) ?_
  refine cn_pR (idx := 128) (h := 134) (ci := 12) (k := 57) (fin := 1) (v := 171) (by decide +kernel) (by decide +kernel) (by decide +kernel) (by decide +kernel) ?_
  refine so_aload_n (k := 0) (by decide +kernel) rfl ?_
  refine cn_gf (idx := 9) (h := 134) (ci := 12) (k := 0) (fin := 1) (v := 135) (by decide +kernel) (by decide +kernel) (by decide +kernel) rfl ?_
  refine so_iconst (n := 3) (by decide +kernel) (by unfold ir; omega) ?_
  refine so_iconst (n := 5) (by decide +kernel) (by unfold ir; omega) ?_
  refine cn_ias (h := 135) (n := 2066) (i := 3) (z := 5) (j := 3) (by decide +kernel) (by decide +kernel) (by decide) (by decide) rfl ?_
  refine so_aload_n (k := 0) (by decide +kernel) rfl ?_
  refine cn_gf (idx := 9) (h := 134) (ci := 12) (k := 0) (fin := 1) (v := 135) (by decide +kernel) (by decide +kernel) (by decide +kernel) rfl ?_
  refine so_iconst (n := 4) (by decide +kernel) (by unfold ir; omega) ?_
  refine so_iconst (n := 1) (by decide +kernel) (by unfold ir; omega) ?_
  refine cn_ias (h := 135) (n := 2066) (i := 4) (z := 1) (j := 4) (by decide +kernel) (by decide +kernel) (by decide) (by decide) rfl ?_
  refine so_aload_n (k := 0) (by decide +kernel) rfl ?_
  refine cn_gf (idx := 9) (h := 134) (ci := 12) (k := 0) (fin := 1) (v := 135) (by decide +kernel) (by decide +kernel) (by decide +kernel) rfl ?_
  refine so_iconst (n := 5) (by decide +kernel) (by unfold ir; omega) ?_
  refine so_bipush (n := 50) (by decide +kernel) (by unfold ir; omega) rfl ?_
  refine cn_ias (h := 135) (n := 2066) (i := 5) (z := 50) (j := 5) (by decide +kernel) (by decide +kernel) (by decide) (by decide) rfl ?_
  refine so_aload_n (k := 0) (by decide +kernel) rfl ?_
  refine cn_gf (idx := 9) (h := 134) (ci := 12) (k := 0) (fin := 1) (v := 135) (by decide +kernel) (by decide +kernel) (by decide +kernel) rfl ?_
  refine so_bipush (n := 6) (by decide +kernel) (by unfold ir; omega) rfl ?_
  refine so_bipush (n := 50) (by decide +kernel) (by unfold ir; omega) rfl ?_
  refine cn_ias (h := 135) (n := 2066) (i := 6) (z := 50) (j := 6) (by decide +kernel) (by decide +kernel) (by decide) (by decide) rfl ?_
  refine so_iconst (n := 0) (by decide +kernel) (by unfold ir; omega) ?_
  refine so_istore_n (k := 1) (by decide +kernel) (by decide +kernel) ?_
  refine so_iload_n (k := 1) (by decide +kernel) rfl ?_
  refine so_iconst (n := 4) (by decide +kernel) (by unfold ir; omega) ?_
  refine so_icmp (tgt := 381) (x := 0) (z := 4) (show decode (m_bt 175) 352 = .ok (.if_icmp .ge 29, 3) by decide +kernel) rfl (fun w => absurd (show (4 : Int) ≤ 0 from w) (by decide)) (fun _ => ?_)
  refine so_aload_n (k := 0) (by decide +kernel) rfl ?_
  refine cn_gf (idx := 9) (h := 134) (ci := 12) (k := 0) (fin := 1) (v := 135) (by decide +kernel) (by decide +kernel) (by decide +kernel) rfl ?_
  refine so_bipush (n := 8) (by decide +kernel) (by unfold ir; omega) rfl ?_
  refine so_iload_n (k := 1) (by decide +kernel) rfl ?_
  refine cn_add (x := 8) (z := 0) (w := 8) (by decide +kernel) (by decide) ?_
  refine so_iconst (n := 1) (by decide +kernel) (by unfold ir; omega) ?_
  refine cn_ias (h := 135) (n := 2066) (i := 8) (z := 1) (j := 8) (by decide +kernel) (by decide +kernel) (by decide) (by decide) rfl ?_
  refine so_aload_n (k := 0) (by decide +kernel) rfl ?_
  refine cn_gf (idx := 9) (h := 134) (ci := 12) (k := 0) (fin := 1) (v := 135) (by decide +kernel) (by decide +kernel) (by decide +kernel) rfl ?_
  refine so_bipush (n := 12) (by decide +kernel) (by unfold ir; omega) rfl ?_
  refine so_iload_n (k := 1) (by decide +kernel) rfl ?_
  refine cn_add (x := 12) (z := 0) (w := 12) (by decide +kernel) (by decide) ?_
  refine so_iconst (n := 1) (by decide +kernel) (by unfold ir; omega) ?_
  refine cn_ias (h := 135) (n := 2066) (i := 12) (z := 1) (j := 12) (by decide +kernel) (by decide +kernel) (by decide) (by decide) rfl ?_
  refine cn_inc (k := 1) (n := 1) (x := 0) (w := 1) (by decide +kernel) rfl (by decide) ?_
  refine so_goto (tgt := 350) (show decode (m_bt 175) 378 = .ok (.goto (-28), 3) by decide +kernel) rfl ?_
  refine so_iload_n (k := 1) (by decide +kernel) rfl ?_
  refine so_iconst (n := 4) (by decide +kernel) (by unfold ir; omega) ?_
  refine so_icmp (tgt := 381) (x := 1) (z := 4) (show decode (m_bt 175) 352 = .ok (.if_icmp .ge 29, 3) by decide +kernel) rfl (fun w => absurd (show (4 : Int) ≤ 1 from w) (by decide)) (fun _ => ?_)
  refine so_aload_n (k := 0) (by decide +kernel) rfl ?_
  refine cn_gf (idx := 9) (h := 134) (ci := 12) (k := 0) (fin := 1) (v := 135) (by decide +kernel) (by decide +kernel) (by decide +kernel) rfl ?_
  refine so_bipush (n := 8) (by decide +kernel) (by unfold ir; omega) rfl ?_
  refine so_iload_n (k := 1) (by decide +kernel) rfl ?_
  refine cn_add (x := 8) (z := 1) (w := 9) (by decide +kernel) (by decide) ?_
  refine so_iconst (n := 1) (by decide +kernel) (by unfold ir; omega) ?_
  refine cn_ias (h := 135) (n := 2066) (i := 9) (z := 1) (j := 9) (by decide +kernel) (by decide +kernel) (by decide) (by decide) rfl ?_
  refine so_aload_n (k := 0) (by decide +kernel) rfl ?_
  refine cn_gf (idx := 9) (h := 134) (ci := 12) (k := 0) (fin := 1) (v := 135) (by decide +kernel) (by decide +kernel) (by decide +kernel) rfl ?_
  refine so_bipush (n := 12) (by decide +kernel) (by unfold ir; omega) rfl ?_
  refine so_iload_n (k := 1) (by decide +kernel) rfl ?_
  refine cn_add (x := 12) (z := 1) (w := 13) (by decide +kernel) (by decide) ?_
  refine so_iconst (n := 1) (by decide +kernel) (by unfold ir; omega) ?_
  refine cn_ias (h := 135) (n := 2066) (i := 13) (z := 1) (j := 13) (by decide +kernel) (by decide +kernel) (by decide) (by decide) rfl ?_
  refine cn_inc (k := 1) (n := 1) (x := 1) (w := 2) (by decide +kernel) rfl (by decide) ?_
  refine so_goto (tgt := 350) (show decode (m_bt 175) 378 = .ok (.goto (-28), 3) by decide +kernel) rfl ?_
  refine so_iload_n (k := 1) (by decide +kernel) rfl ?_
  refine so_iconst (n := 4) (by decide +kernel) (by unfold ir; omega) ?_
  refine so_icmp (tgt := 381) (x := 2) (z := 4) (show decode (m_bt 175) 352 = .ok (.if_icmp .ge 29, 3) by decide +kernel) rfl (fun w => absurd (show (4 : Int) ≤ 2 from w) (by decide)) (fun _ => ?_)
  refine so_aload_n (k := 0) (by decide +kernel) rfl ?_
  refine cn_gf (idx := 9) (h := 134) (ci := 12) (k := 0) (fin := 1) (v := 135) (by decide +kernel) (by decide +kernel) (by decide +kernel) rfl ?_
  refine so_bipush (n := 8) (by decide +kernel) (by unfold ir; omega) rfl ?_
  refine so_iload_n (k := 1) (by decide +kernel) rfl ?_
  refine cn_add (x := 8) (z := 2) (w := 10) (by decide +kernel) (by decide) ?_
  refine so_iconst (n := 1) (by decide +kernel) (by unfold ir; omega) ?_
  refine cn_ias (h := 135) (n := 2066) (i := 10) (z := 1) (j := 10) (by decide +kernel) (by decide +kernel) (by decide) (by decide) rfl ?_
  refine so_aload_n (k := 0) (by decide +kernel) rfl ?_
  refine cn_gf (idx := 9) (h := 134) (ci := 12) (k := 0) (fin := 1) (v := 135) (by decide +kernel) (by decide +kernel) (by decide +kernel) rfl ?_
  refine so_bipush (n := 12) (by decide +kernel) (by unfold ir; omega) rfl ?_
  refine so_iload_n (k := 1) (by decide +kernel) rfl ?_
  refine cn_add (x := 12) (z := 2) (w := 14) (by decide +kernel) (by decide) ?_
  refine so_iconst (n := 1) (by decide +kernel) (by unfold ir; omega) ?_
  refine cn_ias (h := 135) (n := 2066) (i := 14) (z := 1) (j := 14) (by decide +kernel) (by decide +kernel) (by decide) (by decide) rfl ?_
  refine cn_inc (k := 1) (n := 1) (x := 2) (w := 3) (by decide +kernel) rfl (by decide) ?_
  refine so_goto (tgt := 350) (show decode (m_bt 175) 378 = .ok (.goto (-28), 3) by decide +kernel) rfl ?_
  refine so_iload_n (k := 1) (by decide +kernel) rfl ?_
  refine so_iconst (n := 4) (by decide +kernel) (by unfold ir; omega) ?_
  refine so_icmp (tgt := 381) (x := 3) (z := 4) (show decode (m_bt 175) 352 = .ok (.if_icmp .ge 29, 3) by decide +kernel) rfl (fun w => absurd (show (4 : Int) ≤ 3 from w) (by decide)) (fun _ => ?_)
  refine so_aload_n (k := 0) (by decide +kernel) rfl ?_
  refine cn_gf (idx := 9) (h := 134) (ci := 12) (k := 0) (fin := 1) (v := 135) (by decide +kernel) (by decide +kernel) (by decide +kernel) rfl ?_
  refine so_bipush (n := 8) (by decide +kernel) (by unfold ir; omega) rfl ?_
  refine so_iload_n (k := 1) (by decide +kernel) rfl ?_
  refine cn_add (x := 8) (z := 3) (w := 11) (by decide +kernel) (by decide) ?_
  refine so_iconst (n := 1) (by decide +kernel) (by unfold ir; omega) ?_
  refine cn_ias (h := 135) (n := 2066) (i := 11) (z := 1) (j := 11) (by decide +kernel) (by decide +kernel) (by decide) (by decide) rfl ?_
  refine so_aload_n (k := 0) (by decide +kernel) rfl ?_
  refine cn_gf (idx := 9) (h := 134) (ci := 12) (k := 0) (fin := 1) (v := 135) (by decide +kernel) (by decide +kernel) (by decide +kernel) rfl ?_
  refine so_bipush (n := 12) (by decide +kernel) (by unfold ir; omega) rfl ?_
  refine so_iload_n (k := 1) (by decide +kernel) rfl ?_
  refine cn_add (x := 12) (z := 3) (w := 15) (by decide +kernel) (by decide) ?_
  refine so_iconst (n := 1) (by decide +kernel) (by unfold ir; omega) ?_
  refine cn_ias (h := 135) (n := 2066) (i := 15) (z := 1) (j := 15) (by decide +kernel) (by decide +kernel) (by decide) (by decide) rfl ?_
  refine cn_inc (k := 1) (n := 1) (x := 3) (w := 4) (by decide +kernel) rfl (by decide) ?_
  refine so_goto (tgt := 350) (show decode (m_bt 175) 378 = .ok (.goto (-28), 3) by decide +kernel) rfl ?_
  refine so_iload_n (k := 1) (by decide +kernel) rfl ?_
  refine so_iconst (n := 4) (by decide +kernel) (by unfold ir; omega) ?_
  refine so_icmp (tgt := 381) (x := 4) (z := 4) (show decode (m_bt 175) 352 = .ok (.if_icmp .ge 29, 3) by decide +kernel) rfl (fun _ => ?_) (fun w => absurd (show (4 : Int) ≤ 4 by decide) w)
  exact so_return (by decide +kernel) (by decide +kernel) rfl h
end CTORB
