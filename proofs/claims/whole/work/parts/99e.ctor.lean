section CTOR
def gN (l : List (Nat × Nat × Int)) (mi : MT) : MT := l.foldr (fun w m => sv m w.1 (sv (m w.1) w.2.1 w.2.2)) mi
def gR (l : List (Nat × Nat × Nat)) (mr : Nat → Nat → Option Nat) : Nat → Nat → Option Nat := l.foldr (fun w m => sv m w.1 (sv (m w.1) w.2.1 (some w.2.2))) mr
section CR
variable {y d b pc : Nat} {L : List (Option AV)} {S : List AV} {A : MT} {B : Nat → Nat → Option Nat} {a a' : Nat} {Q : Option AV → Mem → Prop} {ns : List (Nat × Nat × Int)} {rs : List (Nat × Nat × Nat)}
theorem cn_int {n : Nat} {z : Int} (hd : decode (m_bt y) pc = .ok (.newarray .int, 2)) (hk : kd a = (0, n)) (hz : z = n) (ha : a + 1 = a') (hb : a < b) (hh : WP y d b (pc + 2) L (vR (some a) :: S) (A, B, a') Q) : WP y d b pc L (vI z :: S) (A, B, a) Q := by subst ha; exact so_newa_int (M := (A, B, a)) hd hk hz hb hh
theorem cn_long {n : Nat} {z : Int} (hd : decode (m_bt y) pc = .ok (.newarray .long, 2)) (hk : kd a = (1, n)) (hz : z = n) (ha : a + 1 = a') (hb : a < b) (hh : WP y d b (pc + 2) L (vR (some a) :: S) (A, B, a') Q) : WP y d b pc L (vI z :: S) (A, B, a) Q := by subst ha; exact so_newa_long (M := (A, B, a)) hd hk hz hb hh
theorem cn_byte {n : Nat} {z : Int} (hd : decode (m_bt y) pc = .ok (.newarray .byte, 2)) (hk : kd a = (2, n)) (hz : z = n) (ha : a + 1 = a') (hb : a < b) (hh : WP y d b (pc + 2) L (vR (some a) :: S) (A, B, a') Q) : WP y d b pc L (vI z :: S) (A, B, a) Q := by subst ha; exact so_newa_byte (M := (A, B, a)) hd hk hz hb hh
theorem cn_boolean {n : Nat} {z : Int} (hd : decode (m_bt y) pc = .ok (.newarray .boolean, 2)) (hk : kd a = (3, n)) (hz : z = n) (ha : a + 1 = a') (hb : a < b) (hh : WP y d b (pc + 2) L (vR (some a) :: S) (A, B, a') Q) : WP y d b pc L (vI z :: S) (A, B, a) Q := by subst ha; exact so_newa_boolean (M := (A, B, a)) hd hk hz hb hh
theorem cn_anew {idx n : Nat} {z : Int} (hd : decode (m_bt y) pc = .ok (.anewarray idx, 3)) (hl : (m_ow y, idx, 4) ∈ lkT) (hk : kd a = (4, n)) (hz : z = n) (ha : a + 1 = a') (hb : a < b) (hh : WP y d b (pc + 3) L (vR (some a) :: S) (A, B, a') Q) : WP y d b pc L (vI z :: S) (A, B, a) Q := by subst ha; exact so_anew (M := (A, B, a)) hd hl hk hz hb hh
theorem cn_new {idx ci : Nat} (hd : decode (m_bt y) pc = .ok (.new idx, 3)) (hl : (m_ow y, idx, ci) ∈ lkT) (hk : kd a = (5, ci)) (ha : a + 1 = a') (hb : a < b) (hh : WP y d b (pc + 3) L (vR (some a) :: S) (A, B, a') Q) : WP y d b pc L S (A, B, a) Q := by subst ha; exact so_new (M := (A, B, a)) hd hl hk hb hh
theorem cn_pR {idx h ci k fin v : Nat} (hd : decode (m_bt y) pc = .ok (.putfield idx, 3)) (hf : (m_ow y, idx, ci, k, 4, fin) ∈ flT) (hk : kd h = (5, ci)) (hin : fin = 0 ∨ ((m_nm y).name = "<init>" ∧ clN (m_ow y) = (cT ci).1)) (hh : WP y d b (pc + 3) L S (A, gR ((h, k, v) :: rs) B, a) Q) : WP y d b pc L (vR (some v) :: vR (some h) :: S) (A, gR rs B, a) Q := so_putR (M := (A, gR rs B, a)) hd hf hk hin hh
theorem cn_pI {idx h ci k fin : Nat} {z : Int} (hd : decode (m_bt y) pc = .ok (.putfield idx, 3)) (hf : (m_ow y, idx, ci, k, 0, fin) ∈ flT) (hk : kd h = (5, ci)) (hin : fin = 0 ∨ ((m_nm y).name = "<init>" ∧ clN (m_ow y) = (cT ci).1)) (hh : WP y d b (pc + 3) L S (gN ((h, k, z) :: ns) A, B, a) Q) : WP y d b pc L (vI z :: vR (some h) :: S) (gN ns A, B, a) Q := so_putI (M := (gN ns A, B, a)) hd hf hk hin hh
theorem cn_gf {idx h ci k fin v : Nat} (hd : decode (m_bt y) pc = .ok (.getfield idx, 3)) (hf : (m_ow y, idx, ci, k, 4, fin) ∈ flT) (hk : kd h = (5, ci)) (hv : B h k = some v) (hh : WP y d b (pc + 3) L (vR (some v) :: S) (A, B, a) Q) : WP y d b pc L (vR (some h) :: S) (A, B, a) Q := so_getfield (M := (A, B, a)) hd hf hk (by show WP y d b (pc + 3) L (vR (B h k) :: S) (A, B, a) Q; rw [hv]; exact hh)
theorem cn_ias {h n j : Nat} {i z : Int} (hd : decode (m_bt y) pc = .ok (.iastore, 1)) (hk : kd h = (0, n)) (h0 : 0 ≤ i) (h1 : i < n) (hj : i.toNat = j) (hh : WP y d b (pc + 1) L S (gN ((h, j, z) :: ns) A, B, a) Q) : WP y d b pc L (vI z :: vI i :: vR (some h) :: S) (gN ns A, B, a) Q := by subst hj; exact so_iastore (M := (gN ns A, B, a)) hd hk h0 h1 hh
theorem cn_aas {h n v j : Nat} {i : Int} (hd : decode (m_bt y) pc = .ok (.aastore, 1)) (hk : kd h = (4, n)) (hkv : kd v = (5, 4)) (h0 : 0 ≤ i) (h1 : i < n) (hj : i.toNat = j) (hh : WP y d b (pc + 1) L S (A, gR ((h, j, v) :: rs) B, a) Q) : WP y d b pc L (vR (some v) :: vI i :: vR (some h) :: S) (A, gR rs B, a) Q := by subst hj; exact so_aastore (M := (A, gR rs B, a)) hd hk hkv h0 h1 hh
theorem cn_add {M : Mem} {x z w : Int} (hd : decode (m_bt y) pc = .ok (.iadd, 1)) (hw : wr (x + z) = w) (h : WP y d b (pc + 1) L (vI w :: S) M Q) : WP y d b pc L (vI z :: vI x :: S) M Q := so_iadd hd (by rw [hw]; exact h)
theorem cn_inc {M : Mem} {k : Nat} {n x w : Int} (hd : decode (m_bt y) pc = .ok (.iinc k n, 3)) (hg : gL L k = some (vI x)) (hw : wr (x + n) = w) (h : WP y d b (pc + 3) (setL L k (vI w)) S M Q) : WP y d b pc L S M Q := so_iinc hd hg (by rw [hw]; exact h)
end CR
theorem ct_1_2 {d : Nat} (hd : 1 < d) {mi : MT} {mr : Nat → Nat → Option Nat} {Q : Option AV → Mem → Prop} (h : Q none ((gN [(2, 10, 1), (2, 9, 5), (7, 3, 1), (7, 2, 1), (7, 1, 1), (7, 0, 1)] mi), (gR [(2, 6, 9), (2, 5, 8), (2, 4, 7), (2, 3, 6), (2, 2, 5), (2, 1, 4), (2, 0, 3)] mr), 10)) : WPc 1 d 10 [vR (some 2)] (mi, mr, 3) Q := by
  refine en_1 ?_
  show WP 1 d 10 0 [some (vR (some 2))] [] (gN [] mi, gR [] mr, 3) Q
  refine so_aload_n (k := 0) (by decide +kernel) rfl ?_
  refine so_objInit (idx := 3) (h := 2) (by decide +kernel) (by decide +kernel) (Nat.le_of_ble_eq_true rfl) (by omega) ?_
  refine so_aload_n (k := 0) (by decide +kernel) rfl ?_
  refine so_bipush (n := 40) (by decide +kernel) (by unfold ir; omega) rfl ?_
  refine cn_int (a' := 4) (n := 40) (by decide +kernel) (by decide +kernel) rfl rfl (by decide) ?_
  refine cn_pR (idx := 9) (h := 2) (ci := 0) (k := 0) (fin := 1) (v := 3) (by decide +kernel) (by decide +kernel) (by decide +kernel) (by decide +kernel) ?_
  refine so_aload_n (k := 0) (by decide +kernel) rfl ?_
  refine so_bipush (n := 10) (by decide +kernel) (by unfold ir; omega) rfl ?_
  refine cn_int (a' := 5) (n := 10) (by decide +kernel) (by decide +kernel) rfl rfl (by decide) ?_
  refine cn_pR (idx := 15) (h := 2) (ci := 0) (k := 1) (fin := 1) (v := 4) (by decide +kernel) (by decide +kernel) (by decide +kernel) (by decide +kernel) ?_
  refine so_aload_n (k := 0) (by decide +kernel) rfl ?_
  refine so_bipush (n := 20) (by decide +kernel) (by unfold ir; omega) rfl ?_
  refine cn_int (a' := 6) (n := 20) (by decide +kernel) (by decide +kernel) rfl rfl (by decide) ?_
  refine cn_pR (idx := 18) (h := 2) (ci := 0) (k := 2) (fin := 1) (v := 5) (by decide +kernel) (by decide +kernel) (by decide +kernel) (by decide +kernel) ?_
  refine so_aload_n (k := 0) (by decide +kernel) rfl ?_
  refine so_bipush (n := 20) (by decide +kernel) (by unfold ir; omega) rfl ?_
  refine cn_int (a' := 7) (n := 20) (by decide +kernel) (by decide +kernel) rfl rfl (by decide) ?_
  refine cn_pR (idx := 21) (h := 2) (ci := 0) (k := 3) (fin := 1) (v := 6) (by decide +kernel) (by decide +kernel) (by decide +kernel) (by decide +kernel) ?_
  refine so_aload_n (k := 0) (by decide +kernel) rfl ?_
  refine so_iconst (n := 4) (by decide +kernel) (by unfold ir; omega) ?_
  refine cn_int (a' := 8) (n := 4) (by decide +kernel) (by decide +kernel) rfl rfl (by decide) ?_
  refine so_dup (by decide +kernel) rfl ?_
  refine so_iconst (n := 0) (by decide +kernel) (by unfold ir; omega) ?_
  refine so_iconst (n := 1) (by decide +kernel) (by unfold ir; omega) ?_
  refine cn_ias (h := 7) (n := 4) (i := 0) (z := 1) (j := 0) (by decide +kernel) (by decide +kernel) (by decide) (by decide) rfl ?_
  refine so_dup (by decide +kernel) rfl ?_
  refine so_iconst (n := 1) (by decide +kernel) (by unfold ir; omega) ?_
  refine so_iconst (n := 1) (by decide +kernel) (by unfold ir; omega) ?_
  refine cn_ias (h := 7) (n := 4) (i := 1) (z := 1) (j := 1) (by decide +kernel) (by decide +kernel) (by decide) (by decide) rfl ?_
  refine so_dup (by decide +kernel) rfl ?_
  refine so_iconst (n := 2) (by decide +kernel) (by unfold ir; omega) ?_
  refine so_iconst (n := 1) (by decide +kernel) (by unfold ir; omega) ?_
  refine cn_ias (h := 7) (n := 4) (i := 2) (z := 1) (j := 2) (by decide +kernel) (by decide +kernel) (by decide) (by decide) rfl ?_
  refine so_dup (by decide +kernel) rfl ?_
  refine so_iconst (n := 3) (by decide +kernel) (by unfold ir; omega) ?_
  refine so_iconst (n := 1) (by decide +kernel) (by unfold ir; omega) ?_
  refine cn_ias (h := 7) (n := 4) (i := 3) (z := 1) (j := 3) (by decide +kernel) (by decide +kernel) (by decide) (by decide) rfl ?_
  refine cn_pR (idx := 24) (h := 2) (ci := 0) (k := 4) (fin := 1) (v := 7) (by decide +kernel) (by decide +kernel) (by decide +kernel) (by decide +kernel) ?_
  refine so_aload_n (k := 0) (by decide +kernel) rfl ?_
  refine so_iconst (n := 4) (by decide +kernel) (by unfold ir; omega) ?_
  refine cn_int (a' := 9) (n := 4) (by decide +kernel) (by decide +kernel) rfl rfl (by decide) ?_
  refine cn_pR (idx := 27) (h := 2) (ci := 0) (k := 5) (fin := 1) (v := 8) (by decide +kernel) (by decide +kernel) (by decide +kernel) (by decide +kernel) ?_
  refine so_aload_n (k := 0) (by decide +kernel) rfl ?_
  refine so_bipush (n := 100) (by decide +kernel) (by unfold ir; omega) rfl ?_
  refine cn_int (a' := 10) (n := 100) (by decide +kernel) (by decide +kernel) rfl rfl (by decide) ?_
  refine cn_pR (idx := 30) (h := 2) (ci := 0) (k := 6) (fin := 1) (v := 9) (by decide +kernel) (by decide +kernel) (by decide +kernel) (by decide +kernel) ?_
  refine so_aload_n (k := 0) (by decide +kernel) rfl ?_
  refine so_iconst (n := 5) (by decide +kernel) (by unfold ir; omega) ?_
  refine cn_pI (idx := 33) (h := 2) (ci := 0) (k := 9) (fin := 0) (z := 5) (by decide +kernel) (by decide +kernel) (by decide +kernel) (by decide +kernel) ?_
  refine so_aload_n (k := 0) (by decide +kernel) rfl ?_
  refine so_iconst (n := 1) (by decide +kernel) (by unfold ir; omega) ?_
  refine cn_pI (idx := 37) (h := 2) (ci := 0) (k := 10) (fin := 0) (z := 1) (by decide +kernel) (by decide +kernel) (by decide +kernel) (by decide +kernel) ?_
  exact so_return (by decide +kernel) (by decide +kernel) rfl h
theorem ct_87_10 {d : Nat} (hd : 1 < d) {mi : MT} {mr : Nat → Nat → Option Nat} {Q : Option AV → Mem → Prop} (h : Q none ((gN [] mi), (gR [(10, 2, 13), (10, 1, 12), (10, 0, 11)] mr), 14)) : WPc 87 d 14 [vR (some 10)] (mi, mr, 11) Q := by
  refine en_87 ?_
  show WP 87 d 14 0 [some (vR (some 10))] [] (gN [] mi, gR [] mr, 11) Q
  refine so_aload_n (k := 0) (by decide +kernel) rfl ?_
  refine so_objInit (idx := 1) (h := 10) (by decide +kernel) (by decide +kernel) (Nat.le_of_ble_eq_true rfl) (by omega) ?_
  refine so_aload_n (k := 0) (by decide +kernel) rfl ?_
  refine so_sipush (n := 400) (by decide +kernel) (by unfold ir; omega) rfl ?_
  refine cn_int (a' := 12) (n := 400) (by decide +kernel) (by decide +kernel) rfl rfl (by decide) ?_
  refine cn_pR (idx := 9) (h := 10) (ci := 7) (k := 0) (fin := 1) (v := 11) (by decide +kernel) (by decide +kernel) (by decide +kernel) (by decide +kernel) ?_
  refine so_aload_n (k := 0) (by decide +kernel) rfl ?_
  refine so_bipush (n := 12) (by decide +kernel) (by unfold ir; omega) rfl ?_
  refine cn_int (a' := 13) (n := 12) (by decide +kernel) (by decide +kernel) rfl rfl (by decide) ?_
  refine cn_pR (idx := 13) (h := 10) (ci := 7) (k := 1) (fin := 1) (v := 12) (by decide +kernel) (by decide +kernel) (by decide +kernel) (by decide +kernel) ?_
  refine so_aload_n (k := 0) (by decide +kernel) rfl ?_
  refine so_bipush (n := 40) (by decide +kernel) (by unfold ir; omega) rfl ?_
  refine cn_int (a' := 14) (n := 40) (by decide +kernel) (by decide +kernel) rfl rfl (by decide) ?_
  refine cn_pR (idx := 16) (h := 10) (ci := 7) (k := 2) (fin := 1) (v := 13) (by decide +kernel) (by decide +kernel) (by decide +kernel) (by decide +kernel) ?_
  exact so_return (by decide +kernel) (by decide +kernel) rfl h
theorem ct_121_14 {d : Nat} (hd : 1 < d) {mi : MT} {mr : Nat → Nat → Option Nat} {Q : Option AV → Mem → Prop} (h : Q none ((gN [(15, 1, 50), (15, 0, 50)] mi), (gR [(14, 4, 19), (14, 3, 18), (14, 2, 17), (14, 1, 16), (14, 0, 15)] mr), 20)) : WPc 121 d 20 [vR (some 14)] (mi, mr, 15) Q := by
  refine en_121 ?_
  show WP 121 d 20 0 [some (vR (some 14))] [] (gN [] mi, gR [] mr, 15) Q
  refine so_aload_n (k := 0) (by decide +kernel) rfl ?_
  refine so_objInit (idx := 3) (h := 14) (by decide +kernel) (by decide +kernel) (Nat.le_of_ble_eq_true rfl) (by omega) ?_
  refine so_aload_n (k := 0) (by decide +kernel) rfl ?_
  refine so_iconst (n := 2) (by decide +kernel) (by unfold ir; omega) ?_
  refine cn_int (a' := 16) (n := 2) (by decide +kernel) (by decide +kernel) rfl rfl (by decide) ?_
  refine so_dup (by decide +kernel) rfl ?_
  refine so_iconst (n := 0) (by decide +kernel) (by unfold ir; omega) ?_
  refine so_bipush (n := 50) (by decide +kernel) (by unfold ir; omega) rfl ?_
  refine cn_ias (h := 15) (n := 2) (i := 0) (z := 50) (j := 0) (by decide +kernel) (by decide +kernel) (by decide) (by decide) rfl ?_
  refine so_dup (by decide +kernel) rfl ?_
  refine so_iconst (n := 1) (by decide +kernel) (by unfold ir; omega) ?_
  refine so_bipush (n := 50) (by decide +kernel) (by unfold ir; omega) rfl ?_
  refine cn_ias (h := 15) (n := 2) (i := 1) (z := 50) (j := 1) (by decide +kernel) (by decide +kernel) (by decide) (by decide) rfl ?_
  refine cn_pR (idx := 9) (h := 14) (ci := 10) (k := 0) (fin := 1) (v := 15) (by decide +kernel) (by decide +kernel) (by decide +kernel) (by decide +kernel) ?_
  refine so_aload_n (k := 0) (by decide +kernel) rfl ?_
  refine so_bipush (n := 120) (by decide +kernel) (by unfold ir; omega) rfl ?_
  refine cn_int (a' := 17) (n := 120) (by decide +kernel) (by decide +kernel) rfl rfl (by decide) ?_
  refine cn_pR (idx := 15) (h := 14) (ci := 10) (k := 1) (fin := 1) (v := 16) (by decide +kernel) (by decide +kernel) (by decide +kernel) (by decide +kernel) ?_
  refine so_aload_n (k := 0) (by decide +kernel) rfl ?_
  refine so_bipush (n := 120) (by decide +kernel) (by unfold ir; omega) rfl ?_
  refine cn_int (a' := 18) (n := 120) (by decide +kernel) (by decide +kernel) rfl rfl (by decide) ?_
  refine cn_pR (idx := 18) (h := 14) (ci := 10) (k := 2) (fin := 1) (v := 17) (by decide +kernel) (by decide +kernel) (by decide +kernel) (by decide +kernel) ?_
  refine so_aload_n (k := 0) (by decide +kernel) rfl ?_
  refine so_sipush (n := 480) (by decide +kernel) (by unfold ir; omega) rfl ?_
  refine cn_int (a' := 19) (n := 480) (by decide +kernel) (by decide +kernel) rfl rfl (by decide) ?_
  refine cn_pR (idx := 21) (h := 14) (ci := 10) (k := 3) (fin := 1) (v := 18) (by decide +kernel) (by decide +kernel) (by decide +kernel) (by decide +kernel) ?_
  refine so_aload_n (k := 0) (by decide +kernel) rfl ?_
  refine so_bipush (n := 40) (by decide +kernel) (by unfold ir; omega) rfl ?_
  refine cn_int (a' := 20) (n := 40) (by decide +kernel) (by decide +kernel) rfl rfl (by decide) ?_
  refine cn_pR (idx := 24) (h := 14) (ci := 10) (k := 4) (fin := 1) (v := 19) (by decide +kernel) (by decide +kernel) (by decide +kernel) (by decide +kernel) ?_
  exact so_return (by decide +kernel) (by decide +kernel) rfl h
theorem ct_21_20 {d : Nat} (hd : 1 < d) {mi : MT} {mr : Nat → Nat → Option Nat} {Q : Option AV → Mem → Prop} (h : Q none ((gN [(28, 2, 1), (28, 1, 1), (28, 0, 1)] mi), (gR [(20, 8, 29), (20, 7, 28), (20, 6, 27), (20, 5, 26), (20, 4, 25), (20, 3, 24), (20, 2, 23), (20, 1, 22), (20, 0, 21)] mr), 30)) : WPc 21 d 30 [vR (some 20)] (mi, mr, 21) Q := by
  refine en_21 ?_
  show WP 21 d 30 0 [some (vR (some 20))] [] (gN [] mi, gR [] mr, 21) Q
  refine so_aload_n (k := 0) (by decide +kernel) rfl ?_
  refine so_objInit (idx := 3) (h := 20) (by decide +kernel) (by decide +kernel) (Nat.le_of_ble_eq_true rfl) (by omega) ?_
  refine so_aload_n (k := 0) (by decide +kernel) rfl ?_
  refine so_bipush (n := 16) (by decide +kernel) (by unfold ir; omega) rfl ?_
  refine cn_int (a' := 22) (n := 16) (by decide +kernel) (by decide +kernel) rfl rfl (by decide) ?_
  refine cn_pR (idx := 11) (h := 20) (ci := 1) (k := 0) (fin := 1) (v := 21) (by decide +kernel) (by decide +kernel) (by decide +kernel) (by decide +kernel) ?_
  refine so_aload_n (k := 0) (by decide +kernel) rfl ?_
  refine so_iconst (n := 4) (by decide +kernel) (by unfold ir; omega) ?_
  refine cn_int (a' := 23) (n := 4) (by decide +kernel) (by decide +kernel) rfl rfl (by decide) ?_
  refine cn_pR (idx := 15) (h := 20) (ci := 1) (k := 1) (fin := 1) (v := 22) (by decide +kernel) (by decide +kernel) (by decide +kernel) (by decide +kernel) ?_
  refine so_aload_n (k := 0) (by decide +kernel) rfl ?_
  refine so_bipush (n := 120) (by decide +kernel) (by unfold ir; omega) rfl ?_
  refine cn_int (a' := 24) (n := 120) (by decide +kernel) (by decide +kernel) rfl rfl (by decide) ?_
  refine cn_pR (idx := 18) (h := 20) (ci := 1) (k := 2) (fin := 1) (v := 23) (by decide +kernel) (by decide +kernel) (by decide +kernel) (by decide +kernel) ?_
  refine so_aload_n (k := 0) (by decide +kernel) rfl ?_
  refine so_bipush (n := 60) (by decide +kernel) (by unfold ir; omega) rfl ?_
  refine cn_int (a' := 25) (n := 60) (by decide +kernel) (by decide +kernel) rfl rfl (by decide) ?_
  refine cn_pR (idx := 21) (h := 20) (ci := 1) (k := 3) (fin := 1) (v := 24) (by decide +kernel) (by decide +kernel) (by decide +kernel) (by decide +kernel) ?_
  refine so_aload_n (k := 0) (by decide +kernel) rfl ?_
  refine so_bipush (n := 60) (by decide +kernel) (by unfold ir; omega) rfl ?_
  refine cn_int (a' := 26) (n := 60) (by decide +kernel) (by decide +kernel) rfl rfl (by decide) ?_
  refine cn_pR (idx := 24) (h := 20) (ci := 1) (k := 4) (fin := 1) (v := 25) (by decide +kernel) (by decide +kernel) (by decide +kernel) (by decide +kernel) ?_
  refine so_aload_n (k := 0) (by decide +kernel) rfl ?_
  refine so_bipush (n := 60) (by decide +kernel) (by unfold ir; omega) rfl ?_
  refine cn_int (a' := 27) (n := 60) (by decide +kernel) (by decide +kernel) rfl rfl (by decide) ?_
  refine cn_pR (idx := 27) (h := 20) (ci := 1) (k := 5) (fin := 1) (v := 26) (by decide +kernel) (by decide +kernel) (by decide +kernel) (by decide +kernel) ?_
  refine so_aload_n (k := 0) (by decide +kernel) rfl ?_
  refine so_iconst (n := 3) (by decide +kernel) (by unfold ir; omega) ?_
  refine cn_int (a' := 28) (n := 3) (by decide +kernel) (by decide +kernel) rfl rfl (by decide) ?_
  refine cn_pR (idx := 30) (h := 20) (ci := 1) (k := 6) (fin := 1) (v := 27) (by decide +kernel) (by decide +kernel) (by decide +kernel) (by decide +kernel) ?_
  refine so_aload_n (k := 0) (by decide +kernel) rfl ?_
  refine so_iconst (n := 3) (by decide +kernel) (by unfold ir; omega) ?_
  refine cn_int (a' := 29) (n := 3) (by decide +kernel) (by decide +kernel) rfl rfl (by decide) ?_
  refine so_dup (by decide +kernel) rfl ?_
  refine so_iconst (n := 0) (by decide +kernel) (by unfold ir; omega) ?_
  refine so_iconst (n := 1) (by decide +kernel) (by unfold ir; omega) ?_
  refine cn_ias (h := 28) (n := 3) (i := 0) (z := 1) (j := 0) (by decide +kernel) (by decide +kernel) (by decide) (by decide) rfl ?_
  refine so_dup (by decide +kernel) rfl ?_
  refine so_iconst (n := 1) (by decide +kernel) (by unfold ir; omega) ?_
  refine so_iconst (n := 1) (by decide +kernel) (by unfold ir; omega) ?_
  refine cn_ias (h := 28) (n := 3) (i := 1) (z := 1) (j := 1) (by decide +kernel) (by decide +kernel) (by decide) (by decide) rfl ?_
  refine so_dup (by decide +kernel) rfl ?_
  refine so_iconst (n := 2) (by decide +kernel) (by unfold ir; omega) ?_
  refine so_iconst (n := 1) (by decide +kernel) (by unfold ir; omega) ?_
  refine cn_ias (h := 28) (n := 3) (i := 2) (z := 1) (j := 2) (by decide +kernel) (by decide +kernel) (by decide) (by decide) rfl ?_
  refine cn_pR (idx := 33) (h := 20) (ci := 1) (k := 7) (fin := 1) (v := 28) (by decide +kernel) (by decide +kernel) (by decide +kernel) (by decide +kernel) ?_
  refine so_aload_n (k := 0) (by decide +kernel) rfl ?_
  refine so_iconst (n := 3) (by decide +kernel) (by unfold ir; omega) ?_
  refine cn_long (a' := 30) (n := 3) (by decide +kernel) (by decide +kernel) rfl rfl (by decide) ?_
  refine cn_pR (idx := 36) (h := 20) (ci := 1) (k := 8) (fin := 1) (v := 29) (by decide +kernel) (by decide +kernel) (by decide +kernel) (by decide +kernel) ?_
  exact so_return (by decide +kernel) (by decide +kernel) rfl h
theorem ct_54_1 {d : Nat} (hd : 2 < d) {mi : MT} {mr : Nat → Nat → Option Nat} {Q : Option AV → Mem → Prop} (h : Q none ((gN [(28, 2, 1), (28, 1, 1), (28, 0, 1)] (gN [(15, 1, 50), (15, 0, 50)] (gN [] (gN [(2, 10, 1), (2, 9, 5), (7, 3, 1), (7, 2, 1), (7, 1, 1), (7, 0, 1)] (gN [] mi))))), (gR [(1, 3, 20), (20, 8, 29), (20, 7, 28), (20, 6, 27), (20, 5, 26), (20, 4, 25), (20, 3, 24), (20, 2, 23), (20, 1, 22), (20, 0, 21)] (gR [(1, 2, 14), (14, 4, 19), (14, 3, 18), (14, 2, 17), (14, 1, 16), (14, 0, 15)] (gR [(1, 1, 10), (10, 2, 13), (10, 1, 12), (10, 0, 11)] (gR [(1, 0, 2), (2, 6, 9), (2, 5, 8), (2, 4, 7), (2, 3, 6), (2, 2, 5), (2, 1, 4), (2, 0, 3)] (gR [] mr))))), 30)) : WPc 54 d 30 [vR (some 1)] (mi, mr, 2) Q := by
  refine en_54 ?_
  show WP 54 d 30 0 [some (vR (some 1))] [] (gN [] mi, gR [] mr, 2) Q
  refine so_aload_n (k := 0) (by decide +kernel) rfl ?_
  refine so_objInit (idx := 1) (h := 1) (by decide +kernel) (by decide +kernel) (Nat.le_of_ble_eq_true rfl) (by omega) ?_
  refine so_aload_n (k := 0) (by decide +kernel) rfl ?_
  refine cn_new (a' := 3) (idx := 7) (ci := 0) (by decide +kernel) (by decide +kernel) (by decide +kernel) rfl (by decide) ?_
  refine so_dup (by decide +kernel) rfl ?_
  refine so_callIN (h := 2) (as := []) (S := [vR (some 2), vR (some 1)]) (y' := 1) (d' := d - 1) (b' := 10) (idx := 9) (by decide +kernel) (by decide +kernel) (by decide +kernel) (by decide) (show 0 = m_na 1 by decide +kernel) (Nat.le_of_ble_eq_true rfl) (by decide +kernel) (by omega) (show 3 + m_mc 1 = 10 by decide +kernel) (show 10 ≤ 30 by decide) (show nsu 10 = nsu 3 + m_ms 1 by decide +kernel) ?_
  refine ct_1_2 (by omega) ?_
  show WP 54 d 30 12 [some (vR (some 1))] [vR (some 2), vR (some 1)] ((gN [(2, 10, 1), (2, 9, 5), (7, 3, 1), (7, 2, 1), (7, 1, 1), (7, 0, 1)] (gN [] mi)), (gR [(2, 6, 9), (2, 5, 8), (2, 4, 7), (2, 3, 6), (2, 2, 5), (2, 1, 4), (2, 0, 3)] (gR [] mr)), 10) Q
  refine cn_pR (idx := 10) (h := 1) (ci := 4) (k := 0) (fin := 1) (v := 2) (by decide +kernel) (by decide +kernel) (by decide +kernel) (by decide +kernel) ?_
  refine so_aload_n (k := 0) (by decide +kernel) rfl ?_
  refine cn_new (a' := 11) (idx := 16) (ci := 7) (by decide +kernel) (by decide +kernel) (by decide +kernel) rfl (by decide) ?_
  refine so_dup (by decide +kernel) rfl ?_
  refine so_callIN (h := 10) (as := []) (S := [vR (some 10), vR (some 1)]) (y' := 87) (d' := d - 1) (b' := 14) (idx := 18) (by decide +kernel) (by decide +kernel) (by decide +kernel) (by decide) (show 0 = m_na 87 by decide +kernel) (Nat.le_of_ble_eq_true rfl) (by decide +kernel) (by omega) (show 11 + m_mc 87 = 14 by decide +kernel) (show 14 ≤ 30 by decide) (show nsu 14 = nsu 11 + m_ms 87 by decide +kernel) ?_
  refine ct_87_10 (by omega) ?_
  show WP 54 d 30 23 [some (vR (some 1))] [vR (some 10), vR (some 1)] ((gN [] (gN [(2, 10, 1), (2, 9, 5), (7, 3, 1), (7, 2, 1), (7, 1, 1), (7, 0, 1)] (gN [] mi))), (gR [(10, 2, 13), (10, 1, 12), (10, 0, 11)] (gR [(1, 0, 2), (2, 6, 9), (2, 5, 8), (2, 4, 7), (2, 3, 6), (2, 2, 5), (2, 1, 4), (2, 0, 3)] (gR [] mr))), 14) Q
  refine cn_pR (idx := 19) (h := 1) (ci := 4) (k := 1) (fin := 1) (v := 10) (by decide +kernel) (by decide +kernel) (by decide +kernel) (by decide +kernel) ?_
  refine so_aload_n (k := 0) (by decide +kernel) rfl ?_
  refine cn_new (a' := 15) (idx := 23) (ci := 10) (by decide +kernel) (by decide +kernel) (by decide +kernel) rfl (by decide) ?_
  refine so_dup (by decide +kernel) rfl ?_
  refine so_callIN (h := 14) (as := []) (S := [vR (some 14), vR (some 1)]) (y' := 121) (d' := d - 1) (b' := 20) (idx := 25) (by decide +kernel) (by decide +kernel) (by decide +kernel) (by decide) (show 0 = m_na 121 by decide +kernel) (Nat.le_of_ble_eq_true rfl) (by decide +kernel) (by omega) (show 15 + m_mc 121 = 20 by decide +kernel) (show 20 ≤ 30 by decide) (show nsu 20 = nsu 15 + m_ms 121 by decide +kernel) ?_
  refine ct_121_14 (by omega) ?_
  show WP 54 d 30 34 [some (vR (some 1))] [vR (some 14), vR (some 1)] ((gN [(15, 1, 50), (15, 0, 50)] (gN [] (gN [(2, 10, 1), (2, 9, 5), (7, 3, 1), (7, 2, 1), (7, 1, 1), (7, 0, 1)] (gN [] mi)))), (gR [(14, 4, 19), (14, 3, 18), (14, 2, 17), (14, 1, 16), (14, 0, 15)] (gR [(1, 1, 10), (10, 2, 13), (10, 1, 12), (10, 0, 11)] (gR [(1, 0, 2), (2, 6, 9), (2, 5, 8), (2, 4, 7), (2, 3, 6), (2, 2, 5), (2, 1, 4), (2, 0, 3)] (gR [] mr)))), 20) Q
  refine cn_pR (idx := 26) (h := 1) (ci := 4) (k := 2) (fin := 1) (v := 14) (by decide +kernel) (by decide +kernel) (by decide +kernel) (by decide +kernel) ?_
  refine so_aload_n (k := 0) (by decide +kernel) rfl ?_
  refine cn_new (a' := 21) (idx := 30) (ci := 1) (by decide +kernel) (by decide +kernel) (by decide +kernel) rfl (by decide) ?_
  refine so_dup (by decide +kernel) rfl ?_
  refine so_callIN (h := 20) (as := []) (S := [vR (some 20), vR (some 1)]) (y' := 21) (d' := d - 1) (b' := 30) (idx := 32) (by decide +kernel) (by decide +kernel) (by decide +kernel) (by decide) (show 0 = m_na 21 by decide +kernel) (Nat.le_of_ble_eq_true rfl) (by decide +kernel) (by omega) (show 21 + m_mc 21 = 30 by decide +kernel) (show 30 ≤ 30 by decide) (show nsu 30 = nsu 21 + m_ms 21 by decide +kernel) ?_
  refine ct_21_20 (by omega) ?_
  show WP 54 d 30 45 [some (vR (some 1))] [vR (some 20), vR (some 1)] ((gN [(28, 2, 1), (28, 1, 1), (28, 0, 1)] (gN [(15, 1, 50), (15, 0, 50)] (gN [] (gN [(2, 10, 1), (2, 9, 5), (7, 3, 1), (7, 2, 1), (7, 1, 1), (7, 0, 1)] (gN [] mi))))), (gR [(20, 8, 29), (20, 7, 28), (20, 6, 27), (20, 5, 26), (20, 4, 25), (20, 3, 24), (20, 2, 23), (20, 1, 22), (20, 0, 21)] (gR [(1, 2, 14), (14, 4, 19), (14, 3, 18), (14, 2, 17), (14, 1, 16), (14, 0, 15)] (gR [(1, 1, 10), (10, 2, 13), (10, 1, 12), (10, 0, 11)] (gR [(1, 0, 2), (2, 6, 9), (2, 5, 8), (2, 4, 7), (2, 3, 6), (2, 2, 5), (2, 1, 4), (2, 0, 3)] (gR [] mr))))), 30) Q
  refine cn_pR (idx := 33) (h := 1) (ci := 4) (k := 3) (fin := 1) (v := 20) (by decide +kernel) (by decide +kernel) (by decide +kernel) (by decide +kernel) ?_
  exact so_return (by decide +kernel) (by decide +kernel) rfl h
theorem ct_1_32 {d : Nat} (hd : 1 < d) {mi : MT} {mr : Nat → Nat → Option Nat} {Q : Option AV → Mem → Prop} (h : Q none ((gN [(32, 10, 1), (32, 9, 5), (37, 3, 1), (37, 2, 1), (37, 1, 1), (37, 0, 1)] mi), (gR [(32, 6, 39), (32, 5, 38), (32, 4, 37), (32, 3, 36), (32, 2, 35), (32, 1, 34), (32, 0, 33)] mr), 40)) : WPc 1 d 40 [vR (some 32)] (mi, mr, 33) Q := by
  refine en_1 ?_
  show WP 1 d 40 0 [some (vR (some 32))] [] (gN [] mi, gR [] mr, 33) Q
  refine so_aload_n (k := 0) (by decide +kernel) rfl ?_
  refine so_objInit (idx := 3) (h := 32) (by decide +kernel) (by decide +kernel) (Nat.le_of_ble_eq_true rfl) (by omega) ?_
  refine so_aload_n (k := 0) (by decide +kernel) rfl ?_
  refine so_bipush (n := 40) (by decide +kernel) (by unfold ir; omega) rfl ?_
  refine cn_int (a' := 34) (n := 40) (by decide +kernel) (by decide +kernel) rfl rfl (by decide) ?_
  refine cn_pR (idx := 9) (h := 32) (ci := 0) (k := 0) (fin := 1) (v := 33) (by decide +kernel) (by decide +kernel) (by decide +kernel) (by decide +kernel) ?_
  refine so_aload_n (k := 0) (by decide +kernel) rfl ?_
  refine so_bipush (n := 10) (by decide +kernel) (by unfold ir; omega) rfl ?_
  refine cn_int (a' := 35) (n := 10) (by decide +kernel) (by decide +kernel) rfl rfl (by decide) ?_
  refine cn_pR (idx := 15) (h := 32) (ci := 0) (k := 1) (fin := 1) (v := 34) (by decide +kernel) (by decide +kernel) (by decide +kernel) (by decide +kernel) ?_
  refine so_aload_n (k := 0) (by decide +kernel) rfl ?_
  refine so_bipush (n := 20) (by decide +kernel) (by unfold ir; omega) rfl ?_
  refine cn_int (a' := 36) (n := 20) (by decide +kernel) (by decide +kernel) rfl rfl (by decide) ?_
  refine cn_pR (idx := 18) (h := 32) (ci := 0) (k := 2) (fin := 1) (v := 35) (by decide +kernel) (by decide +kernel) (by decide +kernel) (by decide +kernel) ?_
  refine so_aload_n (k := 0) (by decide +kernel) rfl ?_
  refine so_bipush (n := 20) (by decide +kernel) (by unfold ir; omega) rfl ?_
  refine cn_int (a' := 37) (n := 20) (by decide +kernel) (by decide +kernel) rfl rfl (by decide) ?_
  refine cn_pR (idx := 21) (h := 32) (ci := 0) (k := 3) (fin := 1) (v := 36) (by decide +kernel) (by decide +kernel) (by decide +kernel) (by decide +kernel) ?_
  refine so_aload_n (k := 0) (by decide +kernel) rfl ?_
  refine so_iconst (n := 4) (by decide +kernel) (by unfold ir; omega) ?_
  refine cn_int (a' := 38) (n := 4) (by decide +kernel) (by decide +kernel) rfl rfl (by decide) ?_
  refine so_dup (by decide +kernel) rfl ?_
  refine so_iconst (n := 0) (by decide +kernel) (by unfold ir; omega) ?_
  refine so_iconst (n := 1) (by decide +kernel) (by unfold ir; omega) ?_
  refine cn_ias (h := 37) (n := 4) (i := 0) (z := 1) (j := 0) (by decide +kernel) (by decide +kernel) (by decide) (by decide) rfl ?_
  refine so_dup (by decide +kernel) rfl ?_
  refine so_iconst (n := 1) (by decide +kernel) (by unfold ir; omega) ?_
  refine so_iconst (n := 1) (by decide +kernel) (by unfold ir; omega) ?_
  refine cn_ias (h := 37) (n := 4) (i := 1) (z := 1) (j := 1) (by decide +kernel) (by decide +kernel) (by decide) (by decide) rfl ?_
  refine so_dup (by decide +kernel) rfl ?_
  refine so_iconst (n := 2) (by decide +kernel) (by unfold ir; omega) ?_
  refine so_iconst (n := 1) (by decide +kernel) (by unfold ir; omega) ?_
  refine cn_ias (h := 37) (n := 4) (i := 2) (z := 1) (j := 2) (by decide +kernel) (by decide +kernel) (by decide) (by decide) rfl ?_
  refine so_dup (by decide +kernel) rfl ?_
  refine so_iconst (n := 3) (by decide +kernel) (by unfold ir; omega) ?_
  refine so_iconst (n := 1) (by decide +kernel) (by unfold ir; omega) ?_
  refine cn_ias (h := 37) (n := 4) (i := 3) (z := 1) (j := 3) (by decide +kernel) (by decide +kernel) (by decide) (by decide) rfl ?_
  refine cn_pR (idx := 24) (h := 32) (ci := 0) (k := 4) (fin := 1) (v := 37) (by decide +kernel) (by decide +kernel) (by decide +kernel) (by decide +kernel) ?_
  refine so_aload_n (k := 0) (by decide +kernel) rfl ?_
  refine so_iconst (n := 4) (by decide +kernel) (by unfold ir; omega) ?_
  refine cn_int (a' := 39) (n := 4) (by decide +kernel) (by decide +kernel) rfl rfl (by decide) ?_
  refine cn_pR (idx := 27) (h := 32) (ci := 0) (k := 5) (fin := 1) (v := 38) (by decide +kernel) (by decide +kernel) (by decide +kernel) (by decide +kernel) ?_
  refine so_aload_n (k := 0) (by decide +kernel) rfl ?_
  refine so_bipush (n := 100) (by decide +kernel) (by unfold ir; omega) rfl ?_
  refine cn_int (a' := 40) (n := 100) (by decide +kernel) (by decide +kernel) rfl rfl (by decide) ?_
  refine cn_pR (idx := 30) (h := 32) (ci := 0) (k := 6) (fin := 1) (v := 39) (by decide +kernel) (by decide +kernel) (by decide +kernel) (by decide +kernel) ?_
  refine so_aload_n (k := 0) (by decide +kernel) rfl ?_
  refine so_iconst (n := 5) (by decide +kernel) (by unfold ir; omega) ?_
  refine cn_pI (idx := 33) (h := 32) (ci := 0) (k := 9) (fin := 0) (z := 5) (by decide +kernel) (by decide +kernel) (by decide +kernel) (by decide +kernel) ?_
  refine so_aload_n (k := 0) (by decide +kernel) rfl ?_
  refine so_iconst (n := 1) (by decide +kernel) (by unfold ir; omega) ?_
  refine cn_pI (idx := 37) (h := 32) (ci := 0) (k := 10) (fin := 0) (z := 1) (by decide +kernel) (by decide +kernel) (by decide +kernel) (by decide +kernel) ?_
  exact so_return (by decide +kernel) (by decide +kernel) rfl h
theorem ct_87_40 {d : Nat} (hd : 1 < d) {mi : MT} {mr : Nat → Nat → Option Nat} {Q : Option AV → Mem → Prop} (h : Q none ((gN [] mi), (gR [(40, 2, 43), (40, 1, 42), (40, 0, 41)] mr), 44)) : WPc 87 d 44 [vR (some 40)] (mi, mr, 41) Q := by
  refine en_87 ?_
  show WP 87 d 44 0 [some (vR (some 40))] [] (gN [] mi, gR [] mr, 41) Q
  refine so_aload_n (k := 0) (by decide +kernel) rfl ?_
  refine so_objInit (idx := 1) (h := 40) (by decide +kernel) (by decide +kernel) (Nat.le_of_ble_eq_true rfl) (by omega) ?_
  refine so_aload_n (k := 0) (by decide +kernel) rfl ?_
  refine so_sipush (n := 400) (by decide +kernel) (by unfold ir; omega) rfl ?_
  refine cn_int (a' := 42) (n := 400) (by decide +kernel) (by decide +kernel) rfl rfl (by decide) ?_
  refine cn_pR (idx := 9) (h := 40) (ci := 7) (k := 0) (fin := 1) (v := 41) (by decide +kernel) (by decide +kernel) (by decide +kernel) (by decide +kernel) ?_
  refine so_aload_n (k := 0) (by decide +kernel) rfl ?_
  refine so_bipush (n := 12) (by decide +kernel) (by unfold ir; omega) rfl ?_
  refine cn_int (a' := 43) (n := 12) (by decide +kernel) (by decide +kernel) rfl rfl (by decide) ?_
  refine cn_pR (idx := 13) (h := 40) (ci := 7) (k := 1) (fin := 1) (v := 42) (by decide +kernel) (by decide +kernel) (by decide +kernel) (by decide +kernel) ?_
  refine so_aload_n (k := 0) (by decide +kernel) rfl ?_
  refine so_bipush (n := 40) (by decide +kernel) (by unfold ir; omega) rfl ?_
  refine cn_int (a' := 44) (n := 40) (by decide +kernel) (by decide +kernel) rfl rfl (by decide) ?_
  refine cn_pR (idx := 16) (h := 40) (ci := 7) (k := 2) (fin := 1) (v := 43) (by decide +kernel) (by decide +kernel) (by decide +kernel) (by decide +kernel) ?_
  exact so_return (by decide +kernel) (by decide +kernel) rfl h
theorem ct_121_44 {d : Nat} (hd : 1 < d) {mi : MT} {mr : Nat → Nat → Option Nat} {Q : Option AV → Mem → Prop} (h : Q none ((gN [(45, 1, 50), (45, 0, 50)] mi), (gR [(44, 4, 49), (44, 3, 48), (44, 2, 47), (44, 1, 46), (44, 0, 45)] mr), 50)) : WPc 121 d 50 [vR (some 44)] (mi, mr, 45) Q := by
  refine en_121 ?_
  show WP 121 d 50 0 [some (vR (some 44))] [] (gN [] mi, gR [] mr, 45) Q
  refine so_aload_n (k := 0) (by decide +kernel) rfl ?_
  refine so_objInit (idx := 3) (h := 44) (by decide +kernel) (by decide +kernel) (Nat.le_of_ble_eq_true rfl) (by omega) ?_
  refine so_aload_n (k := 0) (by decide +kernel) rfl ?_
  refine so_iconst (n := 2) (by decide +kernel) (by unfold ir; omega) ?_
  refine cn_int (a' := 46) (n := 2) (by decide +kernel) (by decide +kernel) rfl rfl (by decide) ?_
  refine so_dup (by decide +kernel) rfl ?_
  refine so_iconst (n := 0) (by decide +kernel) (by unfold ir; omega) ?_
  refine so_bipush (n := 50) (by decide +kernel) (by unfold ir; omega) rfl ?_
  refine cn_ias (h := 45) (n := 2) (i := 0) (z := 50) (j := 0) (by decide +kernel) (by decide +kernel) (by decide) (by decide) rfl ?_
  refine so_dup (by decide +kernel) rfl ?_
  refine so_iconst (n := 1) (by decide +kernel) (by unfold ir; omega) ?_
  refine so_bipush (n := 50) (by decide +kernel) (by unfold ir; omega) rfl ?_
  refine cn_ias (h := 45) (n := 2) (i := 1) (z := 50) (j := 1) (by decide +kernel) (by decide +kernel) (by decide) (by decide) rfl ?_
  refine cn_pR (idx := 9) (h := 44) (ci := 10) (k := 0) (fin := 1) (v := 45) (by decide +kernel) (by decide +kernel) (by decide +kernel) (by decide +kernel) ?_
  refine so_aload_n (k := 0) (by decide +kernel) rfl ?_
  refine so_bipush (n := 120) (by decide +kernel) (by unfold ir; omega) rfl ?_
  refine cn_int (a' := 47) (n := 120) (by decide +kernel) (by decide +kernel) rfl rfl (by decide) ?_
  refine cn_pR (idx := 15) (h := 44) (ci := 10) (k := 1) (fin := 1) (v := 46) (by decide +kernel) (by decide +kernel) (by decide +kernel) (by decide +kernel) ?_
  refine so_aload_n (k := 0) (by decide +kernel) rfl ?_
  refine so_bipush (n := 120) (by decide +kernel) (by unfold ir; omega) rfl ?_
  refine cn_int (a' := 48) (n := 120) (by decide +kernel) (by decide +kernel) rfl rfl (by decide) ?_
  refine cn_pR (idx := 18) (h := 44) (ci := 10) (k := 2) (fin := 1) (v := 47) (by decide +kernel) (by decide +kernel) (by decide +kernel) (by decide +kernel) ?_
  refine so_aload_n (k := 0) (by decide +kernel) rfl ?_
  refine so_sipush (n := 480) (by decide +kernel) (by unfold ir; omega) rfl ?_
  refine cn_int (a' := 49) (n := 480) (by decide +kernel) (by decide +kernel) rfl rfl (by decide) ?_
  refine cn_pR (idx := 21) (h := 44) (ci := 10) (k := 3) (fin := 1) (v := 48) (by decide +kernel) (by decide +kernel) (by decide +kernel) (by decide +kernel) ?_
  refine so_aload_n (k := 0) (by decide +kernel) rfl ?_
  refine so_bipush (n := 40) (by decide +kernel) (by unfold ir; omega) rfl ?_
  refine cn_int (a' := 50) (n := 40) (by decide +kernel) (by decide +kernel) rfl rfl (by decide) ?_
  refine cn_pR (idx := 24) (h := 44) (ci := 10) (k := 4) (fin := 1) (v := 49) (by decide +kernel) (by decide +kernel) (by decide +kernel) (by decide +kernel) ?_
  exact so_return (by decide +kernel) (by decide +kernel) rfl h
theorem ct_21_50 {d : Nat} (hd : 1 < d) {mi : MT} {mr : Nat → Nat → Option Nat} {Q : Option AV → Mem → Prop} (h : Q none ((gN [(58, 2, 1), (58, 1, 1), (58, 0, 1)] mi), (gR [(50, 8, 59), (50, 7, 58), (50, 6, 57), (50, 5, 56), (50, 4, 55), (50, 3, 54), (50, 2, 53), (50, 1, 52), (50, 0, 51)] mr), 60)) : WPc 21 d 60 [vR (some 50)] (mi, mr, 51) Q := by
  refine en_21 ?_
  show WP 21 d 60 0 [some (vR (some 50))] [] (gN [] mi, gR [] mr, 51) Q
  refine so_aload_n (k := 0) (by decide +kernel) rfl ?_
  refine so_objInit (idx := 3) (h := 50) (by decide +kernel) (by decide +kernel) (Nat.le_of_ble_eq_true rfl) (by omega) ?_
  refine so_aload_n (k := 0) (by decide +kernel) rfl ?_
  refine so_bipush (n := 16) (by decide +kernel) (by unfold ir; omega) rfl ?_
  refine cn_int (a' := 52) (n := 16) (by decide +kernel) (by decide +kernel) rfl rfl (by decide) ?_
  refine cn_pR (idx := 11) (h := 50) (ci := 1) (k := 0) (fin := 1) (v := 51) (by decide +kernel) (by decide +kernel) (by decide +kernel) (by decide +kernel) ?_
  refine so_aload_n (k := 0) (by decide +kernel) rfl ?_
  refine so_iconst (n := 4) (by decide +kernel) (by unfold ir; omega) ?_
  refine cn_int (a' := 53) (n := 4) (by decide +kernel) (by decide +kernel) rfl rfl (by decide) ?_
  refine cn_pR (idx := 15) (h := 50) (ci := 1) (k := 1) (fin := 1) (v := 52) (by decide +kernel) (by decide +kernel) (by decide +kernel) (by decide +kernel) ?_
  refine so_aload_n (k := 0) (by decide +kernel) rfl ?_
  refine so_bipush (n := 120) (by decide +kernel) (by unfold ir; omega) rfl ?_
  refine cn_int (a' := 54) (n := 120) (by decide +kernel) (by decide +kernel) rfl rfl (by decide) ?_
  refine cn_pR (idx := 18) (h := 50) (ci := 1) (k := 2) (fin := 1) (v := 53) (by decide +kernel) (by decide +kernel) (by decide +kernel) (by decide +kernel) ?_
  refine so_aload_n (k := 0) (by decide +kernel) rfl ?_
  refine so_bipush (n := 60) (by decide +kernel) (by unfold ir; omega) rfl ?_
  refine cn_int (a' := 55) (n := 60) (by decide +kernel) (by decide +kernel) rfl rfl (by decide) ?_
  refine cn_pR (idx := 21) (h := 50) (ci := 1) (k := 3) (fin := 1) (v := 54) (by decide +kernel) (by decide +kernel) (by decide +kernel) (by decide +kernel) ?_
  refine so_aload_n (k := 0) (by decide +kernel) rfl ?_
  refine so_bipush (n := 60) (by decide +kernel) (by unfold ir; omega) rfl ?_
  refine cn_int (a' := 56) (n := 60) (by decide +kernel) (by decide +kernel) rfl rfl (by decide) ?_
  refine cn_pR (idx := 24) (h := 50) (ci := 1) (k := 4) (fin := 1) (v := 55) (by decide +kernel) (by decide +kernel) (by decide +kernel) (by decide +kernel) ?_
  refine so_aload_n (k := 0) (by decide +kernel) rfl ?_
  refine so_bipush (n := 60) (by decide +kernel) (by unfold ir; omega) rfl ?_
  refine cn_int (a' := 57) (n := 60) (by decide +kernel) (by decide +kernel) rfl rfl (by decide) ?_
  refine cn_pR (idx := 27) (h := 50) (ci := 1) (k := 5) (fin := 1) (v := 56) (by decide +kernel) (by decide +kernel) (by decide +kernel) (by decide +kernel) ?_
  refine so_aload_n (k := 0) (by decide +kernel) rfl ?_
  refine so_iconst (n := 3) (by decide +kernel) (by unfold ir; omega) ?_
  refine cn_int (a' := 58) (n := 3) (by decide +kernel) (by decide +kernel) rfl rfl (by decide) ?_
  refine cn_pR (idx := 30) (h := 50) (ci := 1) (k := 6) (fin := 1) (v := 57) (by decide +kernel) (by decide +kernel) (by decide +kernel) (by decide +kernel) ?_
  refine so_aload_n (k := 0) (by decide +kernel) rfl ?_
  refine so_iconst (n := 3) (by decide +kernel) (by unfold ir; omega) ?_
  refine cn_int (a' := 59) (n := 3) (by decide +kernel) (by decide +kernel) rfl rfl (by decide) ?_
  refine so_dup (by decide +kernel) rfl ?_
  refine so_iconst (n := 0) (by decide +kernel) (by unfold ir; omega) ?_
  refine so_iconst (n := 1) (by decide +kernel) (by unfold ir; omega) ?_
  refine cn_ias (h := 58) (n := 3) (i := 0) (z := 1) (j := 0) (by decide +kernel) (by decide +kernel) (by decide) (by decide) rfl ?_
  refine so_dup (by decide +kernel) rfl ?_
  refine so_iconst (n := 1) (by decide +kernel) (by unfold ir; omega) ?_
  refine so_iconst (n := 1) (by decide +kernel) (by unfold ir; omega) ?_
  refine cn_ias (h := 58) (n := 3) (i := 1) (z := 1) (j := 1) (by decide +kernel) (by decide +kernel) (by decide) (by decide) rfl ?_
  refine so_dup (by decide +kernel) rfl ?_
  refine so_iconst (n := 2) (by decide +kernel) (by unfold ir; omega) ?_
  refine so_iconst (n := 1) (by decide +kernel) (by unfold ir; omega) ?_
  refine cn_ias (h := 58) (n := 3) (i := 2) (z := 1) (j := 2) (by decide +kernel) (by decide +kernel) (by decide) (by decide) rfl ?_
  refine cn_pR (idx := 33) (h := 50) (ci := 1) (k := 7) (fin := 1) (v := 58) (by decide +kernel) (by decide +kernel) (by decide +kernel) (by decide +kernel) ?_
  refine so_aload_n (k := 0) (by decide +kernel) rfl ?_
  refine so_iconst (n := 3) (by decide +kernel) (by unfold ir; omega) ?_
  refine cn_long (a' := 60) (n := 3) (by decide +kernel) (by decide +kernel) rfl rfl (by decide) ?_
  refine cn_pR (idx := 36) (h := 50) (ci := 1) (k := 8) (fin := 1) (v := 59) (by decide +kernel) (by decide +kernel) (by decide +kernel) (by decide +kernel) ?_
  exact so_return (by decide +kernel) (by decide +kernel) rfl h
theorem ct_54_31 {d : Nat} (hd : 2 < d) {mi : MT} {mr : Nat → Nat → Option Nat} {Q : Option AV → Mem → Prop} (h : Q none ((gN [(58, 2, 1), (58, 1, 1), (58, 0, 1)] (gN [(45, 1, 50), (45, 0, 50)] (gN [] (gN [(32, 10, 1), (32, 9, 5), (37, 3, 1), (37, 2, 1), (37, 1, 1), (37, 0, 1)] (gN [] mi))))), (gR [(31, 3, 50), (50, 8, 59), (50, 7, 58), (50, 6, 57), (50, 5, 56), (50, 4, 55), (50, 3, 54), (50, 2, 53), (50, 1, 52), (50, 0, 51)] (gR [(31, 2, 44), (44, 4, 49), (44, 3, 48), (44, 2, 47), (44, 1, 46), (44, 0, 45)] (gR [(31, 1, 40), (40, 2, 43), (40, 1, 42), (40, 0, 41)] (gR [(31, 0, 32), (32, 6, 39), (32, 5, 38), (32, 4, 37), (32, 3, 36), (32, 2, 35), (32, 1, 34), (32, 0, 33)] (gR [] mr))))), 60)) : WPc 54 d 60 [vR (some 31)] (mi, mr, 32) Q := by
  refine en_54 ?_
  show WP 54 d 60 0 [some (vR (some 31))] [] (gN [] mi, gR [] mr, 32) Q
  refine so_aload_n (k := 0) (by decide +kernel) rfl ?_
  refine so_objInit (idx := 1) (h := 31) (by decide +kernel) (by decide +kernel) (Nat.le_of_ble_eq_true rfl) (by omega) ?_
  refine so_aload_n (k := 0) (by decide +kernel) rfl ?_
  refine cn_new (a' := 33) (idx := 7) (ci := 0) (by decide +kernel) (by decide +kernel) (by decide +kernel) rfl (by decide) ?_
  refine so_dup (by decide +kernel) rfl ?_
  refine so_callIN (h := 32) (as := []) (S := [vR (some 32), vR (some 31)]) (y' := 1) (d' := d - 1) (b' := 40) (idx := 9) (by decide +kernel) (by decide +kernel) (by decide +kernel) (by decide) (show 0 = m_na 1 by decide +kernel) (Nat.le_of_ble_eq_true rfl) (by decide +kernel) (by omega) (show 33 + m_mc 1 = 40 by decide +kernel) (show 40 ≤ 60 by decide) (show nsu 40 = nsu 33 + m_ms 1 by decide +kernel) ?_
  refine ct_1_32 (by omega) ?_
  show WP 54 d 60 12 [some (vR (some 31))] [vR (some 32), vR (some 31)] ((gN [(32, 10, 1), (32, 9, 5), (37, 3, 1), (37, 2, 1), (37, 1, 1), (37, 0, 1)] (gN [] mi)), (gR [(32, 6, 39), (32, 5, 38), (32, 4, 37), (32, 3, 36), (32, 2, 35), (32, 1, 34), (32, 0, 33)] (gR [] mr)), 40) Q
  refine cn_pR (idx := 10) (h := 31) (ci := 4) (k := 0) (fin := 1) (v := 32) (by decide +kernel) (by decide +kernel) (by decide +kernel) (by decide +kernel) ?_
  refine so_aload_n (k := 0) (by decide +kernel) rfl ?_
  refine cn_new (a' := 41) (idx := 16) (ci := 7) (by decide +kernel) (by decide +kernel) (by decide +kernel) rfl (by decide) ?_
  refine so_dup (by decide +kernel) rfl ?_
  refine so_callIN (h := 40) (as := []) (S := [vR (some 40), vR (some 31)]) (y' := 87) (d' := d - 1) (b' := 44) (idx := 18) (by decide +kernel) (by decide +kernel) (by decide +kernel) (by decide) (show 0 = m_na 87 by decide +kernel) (Nat.le_of_ble_eq_true rfl) (by decide +kernel) (by omega) (show 41 + m_mc 87 = 44 by decide +kernel) (show 44 ≤ 60 by decide) (show nsu 44 = nsu 41 + m_ms 87 by decide +kernel) ?_
  refine ct_87_40 (by omega) ?_
  show WP 54 d 60 23 [some (vR (some 31))] [vR (some 40), vR (some 31)] ((gN [] (gN [(32, 10, 1), (32, 9, 5), (37, 3, 1), (37, 2, 1), (37, 1, 1), (37, 0, 1)] (gN [] mi))), (gR [(40, 2, 43), (40, 1, 42), (40, 0, 41)] (gR [(31, 0, 32), (32, 6, 39), (32, 5, 38), (32, 4, 37), (32, 3, 36), (32, 2, 35), (32, 1, 34), (32, 0, 33)] (gR [] mr))), 44) Q
  refine cn_pR (idx := 19) (h := 31) (ci := 4) (k := 1) (fin := 1) (v := 40) (by decide +kernel) (by decide +kernel) (by decide +kernel) (by decide +kernel) ?_
  refine so_aload_n (k := 0) (by decide +kernel) rfl ?_
  refine cn_new (a' := 45) (idx := 23) (ci := 10) (by decide +kernel) (by decide +kernel) (by decide +kernel) rfl (by decide) ?_
  refine so_dup (by decide +kernel) rfl ?_
  refine so_callIN (h := 44) (as := []) (S := [vR (some 44), vR (some 31)]) (y' := 121) (d' := d - 1) (b' := 50) (idx := 25) (by decide +kernel) (by decide +kernel) (by decide +kernel) (by decide) (show 0 = m_na 121 by decide +kernel) (Nat.le_of_ble_eq_true rfl) (by decide +kernel) (by omega) (show 45 + m_mc 121 = 50 by decide +kernel) (show 50 ≤ 60 by decide) (show nsu 50 = nsu 45 + m_ms 121 by decide +kernel) ?_
  refine ct_121_44 (by omega) ?_
  show WP 54 d 60 34 [some (vR (some 31))] [vR (some 44), vR (some 31)] ((gN [(45, 1, 50), (45, 0, 50)] (gN [] (gN [(32, 10, 1), (32, 9, 5), (37, 3, 1), (37, 2, 1), (37, 1, 1), (37, 0, 1)] (gN [] mi)))), (gR [(44, 4, 49), (44, 3, 48), (44, 2, 47), (44, 1, 46), (44, 0, 45)] (gR [(31, 1, 40), (40, 2, 43), (40, 1, 42), (40, 0, 41)] (gR [(31, 0, 32), (32, 6, 39), (32, 5, 38), (32, 4, 37), (32, 3, 36), (32, 2, 35), (32, 1, 34), (32, 0, 33)] (gR [] mr)))), 50) Q
  refine cn_pR (idx := 26) (h := 31) (ci := 4) (k := 2) (fin := 1) (v := 44) (by decide +kernel) (by decide +kernel) (by decide +kernel) (by decide +kernel) ?_
  refine so_aload_n (k := 0) (by decide +kernel) rfl ?_
  refine cn_new (a' := 51) (idx := 30) (ci := 1) (by decide +kernel) (by decide +kernel) (by decide +kernel) rfl (by decide) ?_
  refine so_dup (by decide +kernel) rfl ?_
  refine so_callIN (h := 50) (as := []) (S := [vR (some 50), vR (some 31)]) (y' := 21) (d' := d - 1) (b' := 60) (idx := 32) (by decide +kernel) (by decide +kernel) (by decide +kernel) (by decide) (show 0 = m_na 21 by decide +kernel) (Nat.le_of_ble_eq_true rfl) (by decide +kernel) (by omega) (show 51 + m_mc 21 = 60 by decide +kernel) (show 60 ≤ 60 by decide) (show nsu 60 = nsu 51 + m_ms 21 by decide +kernel) ?_
  refine ct_21_50 (by omega) ?_
  show WP 54 d 60 45 [some (vR (some 31))] [vR (some 50), vR (some 31)] ((gN [(58, 2, 1), (58, 1, 1), (58, 0, 1)] (gN [(45, 1, 50), (45, 0, 50)] (gN [] (gN [(32, 10, 1), (32, 9, 5), (37, 3, 1), (37, 2, 1), (37, 1, 1), (37, 0, 1)] (gN [] mi))))), (gR [(50, 8, 59), (50, 7, 58), (50, 6, 57), (50, 5, 56), (50, 4, 55), (50, 3, 54), (50, 2, 53), (50, 1, 52), (50, 0, 51)] (gR [(31, 2, 44), (44, 4, 49), (44, 3, 48), (44, 2, 47), (44, 1, 46), (44, 0, 45)] (gR [(31, 1, 40), (40, 2, 43), (40, 1, 42), (40, 0, 41)] (gR [(31, 0, 32), (32, 6, 39), (32, 5, 38), (32, 4, 37), (32, 3, 36), (32, 2, 35), (32, 1, 34), (32, 0, 33)] (gR [] mr))))), 60) Q
  refine cn_pR (idx := 33) (h := 31) (ci := 4) (k := 3) (fin := 1) (v := 50) (by decide +kernel) (by decide +kernel) (by decide +kernel) (by decide +kernel) ?_
  exact so_return (by decide +kernel) (by decide +kernel) rfl h
theorem ct_1_61 {d : Nat} (hd : 1 < d) {mi : MT} {mr : Nat → Nat → Option Nat} {Q : Option AV → Mem → Prop} (h : Q none ((gN [(61, 10, 1), (61, 9, 5), (66, 3, 1), (66, 2, 1), (66, 1, 1), (66, 0, 1)] mi), (gR [(61, 6, 68), (61, 5, 67), (61, 4, 66), (61, 3, 65), (61, 2, 64), (61, 1, 63), (61, 0, 62)] mr), 69)) : WPc 1 d 69 [vR (some 61)] (mi, mr, 62) Q := by
  refine en_1 ?_
  show WP 1 d 69 0 [some (vR (some 61))] [] (gN [] mi, gR [] mr, 62) Q
  refine so_aload_n (k := 0) (by decide +kernel) rfl ?_
  refine so_objInit (idx := 3) (h := 61) (by decide +kernel) (by decide +kernel) (Nat.le_of_ble_eq_true rfl) (by omega) ?_
  refine so_aload_n (k := 0) (by decide +kernel) rfl ?_
  refine so_bipush (n := 40) (by decide +kernel) (by unfold ir; omega) rfl ?_
  refine cn_int (a' := 63) (n := 40) (by decide +kernel) (by decide +kernel) rfl rfl (by decide) ?_
  refine cn_pR (idx := 9) (h := 61) (ci := 0) (k := 0) (fin := 1) (v := 62) (by decide +kernel) (by decide +kernel) (by decide +kernel) (by decide +kernel) ?_
  refine so_aload_n (k := 0) (by decide +kernel) rfl ?_
  refine so_bipush (n := 10) (by decide +kernel) (by unfold ir; omega) rfl ?_
  refine cn_int (a' := 64) (n := 10) (by decide +kernel) (by decide +kernel) rfl rfl (by decide) ?_
  refine cn_pR (idx := 15) (h := 61) (ci := 0) (k := 1) (fin := 1) (v := 63) (by decide +kernel) (by decide +kernel) (by decide +kernel) (by decide +kernel) ?_
  refine so_aload_n (k := 0) (by decide +kernel) rfl ?_
  refine so_bipush (n := 20) (by decide +kernel) (by unfold ir; omega) rfl ?_
  refine cn_int (a' := 65) (n := 20) (by decide +kernel) (by decide +kernel) rfl rfl (by decide) ?_
  refine cn_pR (idx := 18) (h := 61) (ci := 0) (k := 2) (fin := 1) (v := 64) (by decide +kernel) (by decide +kernel) (by decide +kernel) (by decide +kernel) ?_
  refine so_aload_n (k := 0) (by decide +kernel) rfl ?_
  refine so_bipush (n := 20) (by decide +kernel) (by unfold ir; omega) rfl ?_
  refine cn_int (a' := 66) (n := 20) (by decide +kernel) (by decide +kernel) rfl rfl (by decide) ?_
  refine cn_pR (idx := 21) (h := 61) (ci := 0) (k := 3) (fin := 1) (v := 65) (by decide +kernel) (by decide +kernel) (by decide +kernel) (by decide +kernel) ?_
  refine so_aload_n (k := 0) (by decide +kernel) rfl ?_
  refine so_iconst (n := 4) (by decide +kernel) (by unfold ir; omega) ?_
  refine cn_int (a' := 67) (n := 4) (by decide +kernel) (by decide +kernel) rfl rfl (by decide) ?_
  refine so_dup (by decide +kernel) rfl ?_
  refine so_iconst (n := 0) (by decide +kernel) (by unfold ir; omega) ?_
  refine so_iconst (n := 1) (by decide +kernel) (by unfold ir; omega) ?_
  refine cn_ias (h := 66) (n := 4) (i := 0) (z := 1) (j := 0) (by decide +kernel) (by decide +kernel) (by decide) (by decide) rfl ?_
  refine so_dup (by decide +kernel) rfl ?_
  refine so_iconst (n := 1) (by decide +kernel) (by unfold ir; omega) ?_
  refine so_iconst (n := 1) (by decide +kernel) (by unfold ir; omega) ?_
  refine cn_ias (h := 66) (n := 4) (i := 1) (z := 1) (j := 1) (by decide +kernel) (by decide +kernel) (by decide) (by decide) rfl ?_
  refine so_dup (by decide +kernel) rfl ?_
  refine so_iconst (n := 2) (by decide +kernel) (by unfold ir; omega) ?_
  refine so_iconst (n := 1) (by decide +kernel) (by unfold ir; omega) ?_
  refine cn_ias (h := 66) (n := 4) (i := 2) (z := 1) (j := 2) (by decide +kernel) (by decide +kernel) (by decide) (by decide) rfl ?_
  refine so_dup (by decide +kernel) rfl ?_
  refine so_iconst (n := 3) (by decide +kernel) (by unfold ir; omega) ?_
  refine so_iconst (n := 1) (by decide +kernel) (by unfold ir; omega) ?_
  refine cn_ias (h := 66) (n := 4) (i := 3) (z := 1) (j := 3) (by decide +kernel) (by decide +kernel) (by decide) (by decide) rfl ?_
  refine cn_pR (idx := 24) (h := 61) (ci := 0) (k := 4) (fin := 1) (v := 66) (by decide +kernel) (by decide +kernel) (by decide +kernel) (by decide +kernel) ?_
  refine so_aload_n (k := 0) (by decide +kernel) rfl ?_
  refine so_iconst (n := 4) (by decide +kernel) (by unfold ir; omega) ?_
  refine cn_int (a' := 68) (n := 4) (by decide +kernel) (by decide +kernel) rfl rfl (by decide) ?_
  refine cn_pR (idx := 27) (h := 61) (ci := 0) (k := 5) (fin := 1) (v := 67) (by decide +kernel) (by decide +kernel) (by decide +kernel) (by decide +kernel) ?_
  refine so_aload_n (k := 0) (by decide +kernel) rfl ?_
  refine so_bipush (n := 100) (by decide +kernel) (by unfold ir; omega) rfl ?_
  refine cn_int (a' := 69) (n := 100) (by decide +kernel) (by decide +kernel) rfl rfl (by decide) ?_
  refine cn_pR (idx := 30) (h := 61) (ci := 0) (k := 6) (fin := 1) (v := 68) (by decide +kernel) (by decide +kernel) (by decide +kernel) (by decide +kernel) ?_
  refine so_aload_n (k := 0) (by decide +kernel) rfl ?_
  refine so_iconst (n := 5) (by decide +kernel) (by unfold ir; omega) ?_
  refine cn_pI (idx := 33) (h := 61) (ci := 0) (k := 9) (fin := 0) (z := 5) (by decide +kernel) (by decide +kernel) (by decide +kernel) (by decide +kernel) ?_
  refine so_aload_n (k := 0) (by decide +kernel) rfl ?_
  refine so_iconst (n := 1) (by decide +kernel) (by unfold ir; omega) ?_
  refine cn_pI (idx := 37) (h := 61) (ci := 0) (k := 10) (fin := 0) (z := 1) (by decide +kernel) (by decide +kernel) (by decide +kernel) (by decide +kernel) ?_
  exact so_return (by decide +kernel) (by decide +kernel) rfl h
theorem ct_87_69 {d : Nat} (hd : 1 < d) {mi : MT} {mr : Nat → Nat → Option Nat} {Q : Option AV → Mem → Prop} (h : Q none ((gN [] mi), (gR [(69, 2, 72), (69, 1, 71), (69, 0, 70)] mr), 73)) : WPc 87 d 73 [vR (some 69)] (mi, mr, 70) Q := by
  refine en_87 ?_
  show WP 87 d 73 0 [some (vR (some 69))] [] (gN [] mi, gR [] mr, 70) Q
  refine so_aload_n (k := 0) (by decide +kernel) rfl ?_
  refine so_objInit (idx := 1) (h := 69) (by decide +kernel) (by decide +kernel) (Nat.le_of_ble_eq_true rfl) (by omega) ?_
  refine so_aload_n (k := 0) (by decide +kernel) rfl ?_
  refine so_sipush (n := 400) (by decide +kernel) (by unfold ir; omega) rfl ?_
  refine cn_int (a' := 71) (n := 400) (by decide +kernel) (by decide +kernel) rfl rfl (by decide) ?_
  refine cn_pR (idx := 9) (h := 69) (ci := 7) (k := 0) (fin := 1) (v := 70) (by decide +kernel) (by decide +kernel) (by decide +kernel) (by decide +kernel) ?_
  refine so_aload_n (k := 0) (by decide +kernel) rfl ?_
  refine so_bipush (n := 12) (by decide +kernel) (by unfold ir; omega) rfl ?_
  refine cn_int (a' := 72) (n := 12) (by decide +kernel) (by decide +kernel) rfl rfl (by decide) ?_
  refine cn_pR (idx := 13) (h := 69) (ci := 7) (k := 1) (fin := 1) (v := 71) (by decide +kernel) (by decide +kernel) (by decide +kernel) (by decide +kernel) ?_
  refine so_aload_n (k := 0) (by decide +kernel) rfl ?_
  refine so_bipush (n := 40) (by decide +kernel) (by unfold ir; omega) rfl ?_
  refine cn_int (a' := 73) (n := 40) (by decide +kernel) (by decide +kernel) rfl rfl (by decide) ?_
  refine cn_pR (idx := 16) (h := 69) (ci := 7) (k := 2) (fin := 1) (v := 72) (by decide +kernel) (by decide +kernel) (by decide +kernel) (by decide +kernel) ?_
  exact so_return (by decide +kernel) (by decide +kernel) rfl h
theorem ct_121_73 {d : Nat} (hd : 1 < d) {mi : MT} {mr : Nat → Nat → Option Nat} {Q : Option AV → Mem → Prop} (h : Q none ((gN [(74, 1, 50), (74, 0, 50)] mi), (gR [(73, 4, 78), (73, 3, 77), (73, 2, 76), (73, 1, 75), (73, 0, 74)] mr), 79)) : WPc 121 d 79 [vR (some 73)] (mi, mr, 74) Q := by
  refine en_121 ?_
  show WP 121 d 79 0 [some (vR (some 73))] [] (gN [] mi, gR [] mr, 74) Q
  refine so_aload_n (k := 0) (by decide +kernel) rfl ?_
  refine so_objInit (idx := 3) (h := 73) (by decide +kernel) (by decide +kernel) (Nat.le_of_ble_eq_true rfl) (by omega) ?_
  refine so_aload_n (k := 0) (by decide +kernel) rfl ?_
  refine so_iconst (n := 2) (by decide +kernel) (by unfold ir; omega) ?_
  refine cn_int (a' := 75) (n := 2) (by decide +kernel) (by decide +kernel) rfl rfl (by decide) ?_
  refine so_dup (by decide +kernel) rfl ?_
  refine so_iconst (n := 0) (by decide +kernel) (by unfold ir; omega) ?_
  refine so_bipush (n := 50) (by decide +kernel) (by unfold ir; omega) rfl ?_
  refine cn_ias (h := 74) (n := 2) (i := 0) (z := 50) (j := 0) (by decide +kernel) (by decide +kernel) (by decide) (by decide) rfl ?_
  refine so_dup (by decide +kernel) rfl ?_
  refine so_iconst (n := 1) (by decide +kernel) (by unfold ir; omega) ?_
  refine so_bipush (n := 50) (by decide +kernel) (by unfold ir; omega) rfl ?_
  refine cn_ias (h := 74) (n := 2) (i := 1) (z := 50) (j := 1) (by decide +kernel) (by decide +kernel) (by decide) (by decide) rfl ?_
  refine cn_pR (idx := 9) (h := 73) (ci := 10) (k := 0) (fin := 1) (v := 74) (by decide +kernel) (by decide +kernel) (by decide +kernel) (by decide +kernel) ?_
  refine so_aload_n (k := 0) (by decide +kernel) rfl ?_
  refine so_bipush (n := 120) (by decide +kernel) (by unfold ir; omega) rfl ?_
  refine cn_int (a' := 76) (n := 120) (by decide +kernel) (by decide +kernel) rfl rfl (by decide) ?_
  refine cn_pR (idx := 15) (h := 73) (ci := 10) (k := 1) (fin := 1) (v := 75) (by decide +kernel) (by decide +kernel) (by decide +kernel) (by decide +kernel) ?_
  refine so_aload_n (k := 0) (by decide +kernel) rfl ?_
  refine so_bipush (n := 120) (by decide +kernel) (by unfold ir; omega) rfl ?_
  refine cn_int (a' := 77) (n := 120) (by decide +kernel) (by decide +kernel) rfl rfl (by decide) ?_
  refine cn_pR (idx := 18) (h := 73) (ci := 10) (k := 2) (fin := 1) (v := 76) (by decide +kernel) (by decide +kernel) (by decide +kernel) (by decide +kernel) ?_
  refine so_aload_n (k := 0) (by decide +kernel) rfl ?_
  refine so_sipush (n := 480) (by decide +kernel) (by unfold ir; omega) rfl ?_
  refine cn_int (a' := 78) (n := 480) (by decide +kernel) (by decide +kernel) rfl rfl (by decide) ?_
  refine cn_pR (idx := 21) (h := 73) (ci := 10) (k := 3) (fin := 1) (v := 77) (by decide +kernel) (by decide +kernel) (by decide +kernel) (by decide +kernel) ?_
  refine so_aload_n (k := 0) (by decide +kernel) rfl ?_
  refine so_bipush (n := 40) (by decide +kernel) (by unfold ir; omega) rfl ?_
  refine cn_int (a' := 79) (n := 40) (by decide +kernel) (by decide +kernel) rfl rfl (by decide) ?_
  refine cn_pR (idx := 24) (h := 73) (ci := 10) (k := 4) (fin := 1) (v := 78) (by decide +kernel) (by decide +kernel) (by decide +kernel) (by decide +kernel) ?_
  exact so_return (by decide +kernel) (by decide +kernel) rfl h
theorem ct_21_79 {d : Nat} (hd : 1 < d) {mi : MT} {mr : Nat → Nat → Option Nat} {Q : Option AV → Mem → Prop} (h : Q none ((gN [(87, 2, 1), (87, 1, 1), (87, 0, 1)] mi), (gR [(79, 8, 88), (79, 7, 87), (79, 6, 86), (79, 5, 85), (79, 4, 84), (79, 3, 83), (79, 2, 82), (79, 1, 81), (79, 0, 80)] mr), 89)) : WPc 21 d 89 [vR (some 79)] (mi, mr, 80) Q := by
  refine en_21 ?_
  show WP 21 d 89 0 [some (vR (some 79))] [] (gN [] mi, gR [] mr, 80) Q
  refine so_aload_n (k := 0) (by decide +kernel) rfl ?_
  refine so_objInit (idx := 3) (h := 79) (by decide +kernel) (by decide +kernel) (Nat.le_of_ble_eq_true rfl) (by omega) ?_
  refine so_aload_n (k := 0) (by decide +kernel) rfl ?_
  refine so_bipush (n := 16) (by decide +kernel) (by unfold ir; omega) rfl ?_
  refine cn_int (a' := 81) (n := 16) (by decide +kernel) (by decide +kernel) rfl rfl (by decide) ?_
  refine cn_pR (idx := 11) (h := 79) (ci := 1) (k := 0) (fin := 1) (v := 80) (by decide +kernel) (by decide +kernel) (by decide +kernel) (by decide +kernel) ?_
  refine so_aload_n (k := 0) (by decide +kernel) rfl ?_
  refine so_iconst (n := 4) (by decide +kernel) (by unfold ir; omega) ?_
  refine cn_int (a' := 82) (n := 4) (by decide +kernel) (by decide +kernel) rfl rfl (by decide) ?_
  refine cn_pR (idx := 15) (h := 79) (ci := 1) (k := 1) (fin := 1) (v := 81) (by decide +kernel) (by decide +kernel) (by decide +kernel) (by decide +kernel) ?_
  refine so_aload_n (k := 0) (by decide +kernel) rfl ?_
  refine so_bipush (n := 120) (by decide +kernel) (by unfold ir; omega) rfl ?_
  refine cn_int (a' := 83) (n := 120) (by decide +kernel) (by decide +kernel) rfl rfl (by decide) ?_
  refine cn_pR (idx := 18) (h := 79) (ci := 1) (k := 2) (fin := 1) (v := 82) (by decide +kernel) (by decide +kernel) (by decide +kernel) (by decide +kernel) ?_
  refine so_aload_n (k := 0) (by decide +kernel) rfl ?_
  refine so_bipush (n := 60) (by decide +kernel) (by unfold ir; omega) rfl ?_
  refine cn_int (a' := 84) (n := 60) (by decide +kernel) (by decide +kernel) rfl rfl (by decide) ?_
  refine cn_pR (idx := 21) (h := 79) (ci := 1) (k := 3) (fin := 1) (v := 83) (by decide +kernel) (by decide +kernel) (by decide +kernel) (by decide +kernel) ?_
  refine so_aload_n (k := 0) (by decide +kernel) rfl ?_
  refine so_bipush (n := 60) (by decide +kernel) (by unfold ir; omega) rfl ?_
  refine cn_int (a' := 85) (n := 60) (by decide +kernel) (by decide +kernel) rfl rfl (by decide) ?_
  refine cn_pR (idx := 24) (h := 79) (ci := 1) (k := 4) (fin := 1) (v := 84) (by decide +kernel) (by decide +kernel) (by decide +kernel) (by decide +kernel) ?_
  refine so_aload_n (k := 0) (by decide +kernel) rfl ?_
  refine so_bipush (n := 60) (by decide +kernel) (by unfold ir; omega) rfl ?_
  refine cn_int (a' := 86) (n := 60) (by decide +kernel) (by decide +kernel) rfl rfl (by decide) ?_
  refine cn_pR (idx := 27) (h := 79) (ci := 1) (k := 5) (fin := 1) (v := 85) (by decide +kernel) (by decide +kernel) (by decide +kernel) (by decide +kernel) ?_
  refine so_aload_n (k := 0) (by decide +kernel) rfl ?_
  refine so_iconst (n := 3) (by decide +kernel) (by unfold ir; omega) ?_
  refine cn_int (a' := 87) (n := 3) (by decide +kernel) (by decide +kernel) rfl rfl (by decide) ?_
  refine cn_pR (idx := 30) (h := 79) (ci := 1) (k := 6) (fin := 1) (v := 86) (by decide +kernel) (by decide +kernel) (by decide +kernel) (by decide +kernel) ?_
  refine so_aload_n (k := 0) (by decide +kernel) rfl ?_
  refine so_iconst (n := 3) (by decide +kernel) (by unfold ir; omega) ?_
  refine cn_int (a' := 88) (n := 3) (by decide +kernel) (by decide +kernel) rfl rfl (by decide) ?_
  refine so_dup (by decide +kernel) rfl ?_
  refine so_iconst (n := 0) (by decide +kernel) (by unfold ir; omega) ?_
  refine so_iconst (n := 1) (by decide +kernel) (by unfold ir; omega) ?_
  refine cn_ias (h := 87) (n := 3) (i := 0) (z := 1) (j := 0) (by decide +kernel) (by decide +kernel) (by decide) (by decide) rfl ?_
  refine so_dup (by decide +kernel) rfl ?_
  refine so_iconst (n := 1) (by decide +kernel) (by unfold ir; omega) ?_
  refine so_iconst (n := 1) (by decide +kernel) (by unfold ir; omega) ?_
  refine cn_ias (h := 87) (n := 3) (i := 1) (z := 1) (j := 1) (by decide +kernel) (by decide +kernel) (by decide) (by decide) rfl ?_
  refine so_dup (by decide +kernel) rfl ?_
  refine so_iconst (n := 2) (by decide +kernel) (by unfold ir; omega) ?_
  refine so_iconst (n := 1) (by decide +kernel) (by unfold ir; omega) ?_
  refine cn_ias (h := 87) (n := 3) (i := 2) (z := 1) (j := 2) (by decide +kernel) (by decide +kernel) (by decide) (by decide) rfl ?_
  refine cn_pR (idx := 33) (h := 79) (ci := 1) (k := 7) (fin := 1) (v := 87) (by decide +kernel) (by decide +kernel) (by decide +kernel) (by decide +kernel) ?_
  refine so_aload_n (k := 0) (by decide +kernel) rfl ?_
  refine so_iconst (n := 3) (by decide +kernel) (by unfold ir; omega) ?_
  refine cn_long (a' := 89) (n := 3) (by decide +kernel) (by decide +kernel) rfl rfl (by decide) ?_
  refine cn_pR (idx := 36) (h := 79) (ci := 1) (k := 8) (fin := 1) (v := 88) (by decide +kernel) (by decide +kernel) (by decide +kernel) (by decide +kernel) ?_
  exact so_return (by decide +kernel) (by decide +kernel) rfl h
theorem ct_54_60 {d : Nat} (hd : 2 < d) {mi : MT} {mr : Nat → Nat → Option Nat} {Q : Option AV → Mem → Prop} (h : Q none ((gN [(87, 2, 1), (87, 1, 1), (87, 0, 1)] (gN [(74, 1, 50), (74, 0, 50)] (gN [] (gN [(61, 10, 1), (61, 9, 5), (66, 3, 1), (66, 2, 1), (66, 1, 1), (66, 0, 1)] (gN [] mi))))), (gR [(60, 3, 79), (79, 8, 88), (79, 7, 87), (79, 6, 86), (79, 5, 85), (79, 4, 84), (79, 3, 83), (79, 2, 82), (79, 1, 81), (79, 0, 80)] (gR [(60, 2, 73), (73, 4, 78), (73, 3, 77), (73, 2, 76), (73, 1, 75), (73, 0, 74)] (gR [(60, 1, 69), (69, 2, 72), (69, 1, 71), (69, 0, 70)] (gR [(60, 0, 61), (61, 6, 68), (61, 5, 67), (61, 4, 66), (61, 3, 65), (61, 2, 64), (61, 1, 63), (61, 0, 62)] (gR [] mr))))), 89)) : WPc 54 d 89 [vR (some 60)] (mi, mr, 61) Q := by
  refine en_54 ?_
  show WP 54 d 89 0 [some (vR (some 60))] [] (gN [] mi, gR [] mr, 61) Q
  refine so_aload_n (k := 0) (by decide +kernel) rfl ?_
  refine so_objInit (idx := 1) (h := 60) (by decide +kernel) (by decide +kernel) (Nat.le_of_ble_eq_true rfl) (by omega) ?_
  refine so_aload_n (k := 0) (by decide +kernel) rfl ?_
  refine cn_new (a' := 62) (idx := 7) (ci := 0) (by decide +kernel) (by decide +kernel) (by decide +kernel) rfl (by decide) ?_
  refine so_dup (by decide +kernel) rfl ?_
  refine so_callIN (h := 61) (as := []) (S := [vR (some 61), vR (some 60)]) (y' := 1) (d' := d - 1) (b' := 69) (idx := 9) (by decide +kernel) (by decide +kernel) (by decide +kernel) (by decide) (show 0 = m_na 1 by decide +kernel) (Nat.le_of_ble_eq_true rfl) (by decide +kernel) (by omega) (show 62 + m_mc 1 = 69 by decide +kernel) (show 69 ≤ 89 by decide) (show nsu 69 = nsu 62 + m_ms 1 by decide +kernel) ?_
  refine ct_1_61 (by omega) ?_
  show WP 54 d 89 12 [some (vR (some 60))] [vR (some 61), vR (some 60)] ((gN [(61, 10, 1), (61, 9, 5), (66, 3, 1), (66, 2, 1), (66, 1, 1), (66, 0, 1)] (gN [] mi)), (gR [(61, 6, 68), (61, 5, 67), (61, 4, 66), (61, 3, 65), (61, 2, 64), (61, 1, 63), (61, 0, 62)] (gR [] mr)), 69) Q
  refine cn_pR (idx := 10) (h := 60) (ci := 4) (k := 0) (fin := 1) (v := 61) (by decide +kernel) (by decide +kernel) (by decide +kernel) (by decide +kernel) ?_
  refine so_aload_n (k := 0) (by decide +kernel) rfl ?_
  refine cn_new (a' := 70) (idx := 16) (ci := 7) (by decide +kernel) (by decide +kernel) (by decide +kernel) rfl (by decide) ?_
  refine so_dup (by decide +kernel) rfl ?_
  refine so_callIN (h := 69) (as := []) (S := [vR (some 69), vR (some 60)]) (y' := 87) (d' := d - 1) (b' := 73) (idx := 18) (by decide +kernel) (by decide +kernel) (by decide +kernel) (by decide) (show 0 = m_na 87 by decide +kernel) (Nat.le_of_ble_eq_true rfl) (by decide +kernel) (by omega) (show 70 + m_mc 87 = 73 by decide +kernel) (show 73 ≤ 89 by decide) (show nsu 73 = nsu 70 + m_ms 87 by decide +kernel) ?_
  refine ct_87_69 (by omega) ?_
  show WP 54 d 89 23 [some (vR (some 60))] [vR (some 69), vR (some 60)] ((gN [] (gN [(61, 10, 1), (61, 9, 5), (66, 3, 1), (66, 2, 1), (66, 1, 1), (66, 0, 1)] (gN [] mi))), (gR [(69, 2, 72), (69, 1, 71), (69, 0, 70)] (gR [(60, 0, 61), (61, 6, 68), (61, 5, 67), (61, 4, 66), (61, 3, 65), (61, 2, 64), (61, 1, 63), (61, 0, 62)] (gR [] mr))), 73) Q
  refine cn_pR (idx := 19) (h := 60) (ci := 4) (k := 1) (fin := 1) (v := 69) (by decide +kernel) (by decide +kernel) (by decide +kernel) (by decide +kernel) ?_
  refine so_aload_n (k := 0) (by decide +kernel) rfl ?_
  refine cn_new (a' := 74) (idx := 23) (ci := 10) (by decide +kernel) (by decide +kernel) (by decide +kernel) rfl (by decide) ?_
  refine so_dup (by decide +kernel) rfl ?_
  refine so_callIN (h := 73) (as := []) (S := [vR (some 73), vR (some 60)]) (y' := 121) (d' := d - 1) (b' := 79) (idx := 25) (by decide +kernel) (by decide +kernel) (by decide +kernel) (by decide) (show 0 = m_na 121 by decide +kernel) (Nat.le_of_ble_eq_true rfl) (by decide +kernel) (by omega) (show 74 + m_mc 121 = 79 by decide +kernel) (show 79 ≤ 89 by decide) (show nsu 79 = nsu 74 + m_ms 121 by decide +kernel) ?_
  refine ct_121_73 (by omega) ?_
  show WP 54 d 89 34 [some (vR (some 60))] [vR (some 73), vR (some 60)] ((gN [(74, 1, 50), (74, 0, 50)] (gN [] (gN [(61, 10, 1), (61, 9, 5), (66, 3, 1), (66, 2, 1), (66, 1, 1), (66, 0, 1)] (gN [] mi)))), (gR [(73, 4, 78), (73, 3, 77), (73, 2, 76), (73, 1, 75), (73, 0, 74)] (gR [(60, 1, 69), (69, 2, 72), (69, 1, 71), (69, 0, 70)] (gR [(60, 0, 61), (61, 6, 68), (61, 5, 67), (61, 4, 66), (61, 3, 65), (61, 2, 64), (61, 1, 63), (61, 0, 62)] (gR [] mr)))), 79) Q
  refine cn_pR (idx := 26) (h := 60) (ci := 4) (k := 2) (fin := 1) (v := 73) (by decide +kernel) (by decide +kernel) (by decide +kernel) (by decide +kernel) ?_
  refine so_aload_n (k := 0) (by decide +kernel) rfl ?_
  refine cn_new (a' := 80) (idx := 30) (ci := 1) (by decide +kernel) (by decide +kernel) (by decide +kernel) rfl (by decide) ?_
  refine so_dup (by decide +kernel) rfl ?_
  refine so_callIN (h := 79) (as := []) (S := [vR (some 79), vR (some 60)]) (y' := 21) (d' := d - 1) (b' := 89) (idx := 32) (by decide +kernel) (by decide +kernel) (by decide +kernel) (by decide) (show 0 = m_na 21 by decide +kernel) (Nat.le_of_ble_eq_true rfl) (by decide +kernel) (by omega) (show 80 + m_mc 21 = 89 by decide +kernel) (show 89 ≤ 89 by decide) (show nsu 89 = nsu 80 + m_ms 21 by decide +kernel) ?_
  refine ct_21_79 (by omega) ?_
  show WP 54 d 89 45 [some (vR (some 60))] [vR (some 79), vR (some 60)] ((gN [(87, 2, 1), (87, 1, 1), (87, 0, 1)] (gN [(74, 1, 50), (74, 0, 50)] (gN [] (gN [(61, 10, 1), (61, 9, 5), (66, 3, 1), (66, 2, 1), (66, 1, 1), (66, 0, 1)] (gN [] mi))))), (gR [(79, 8, 88), (79, 7, 87), (79, 6, 86), (79, 5, 85), (79, 4, 84), (79, 3, 83), (79, 2, 82), (79, 1, 81), (79, 0, 80)] (gR [(60, 2, 73), (73, 4, 78), (73, 3, 77), (73, 2, 76), (73, 1, 75), (73, 0, 74)] (gR [(60, 1, 69), (69, 2, 72), (69, 1, 71), (69, 0, 70)] (gR [(60, 0, 61), (61, 6, 68), (61, 5, 67), (61, 4, 66), (61, 3, 65), (61, 2, 64), (61, 1, 63), (61, 0, 62)] (gR [] mr))))), 89) Q
  refine cn_pR (idx := 33) (h := 60) (ci := 4) (k := 3) (fin := 1) (v := 79) (by decide +kernel) (by decide +kernel) (by decide +kernel) (by decide +kernel) ?_
  exact so_return (by decide +kernel) (by decide +kernel) rfl h
theorem ct_110_90 {d : Nat} (hd : 1 < d) {mi : MT} {mr : Nat → Nat → Option Nat} {Q : Option AV → Mem → Prop} (h : Q none ((gN [] mi), (gR [(90, 2, 93), (90, 1, 92), (90, 0, 91)] mr), 94)) : WPc 110 d 94 [vR (some 90)] (mi, mr, 91) Q := by
  refine en_110 ?_
  show WP 110 d 94 0 [some (vR (some 90))] [] (gN [] mi, gR [] mr, 91) Q
  refine so_aload_n (k := 0) (by decide +kernel) rfl ?_
  refine so_objInit (idx := 3) (h := 90) (by decide +kernel) (by decide +kernel) (Nat.le_of_ble_eq_true rfl) (by omega) ?_
  refine so_aload_n (k := 0) (by decide +kernel) rfl ?_
  refine so_sipush (n := 400) (by decide +kernel) (by unfold ir; omega) rfl ?_
  refine cn_int (a' := 92) (n := 400) (by decide +kernel) (by decide +kernel) rfl rfl (by decide) ?_
  refine cn_pR (idx := 11) (h := 90) (ci := 9) (k := 0) (fin := 1) (v := 91) (by decide +kernel) (by decide +kernel) (by decide +kernel) (by decide +kernel) ?_
  refine so_aload_n (k := 0) (by decide +kernel) rfl ?_
  refine so_sipush (n := 401) (by decide +kernel) (by unfold ir; omega) rfl ?_
  refine cn_int (a' := 93) (n := 401) (by decide +kernel) (by decide +kernel) rfl rfl (by decide) ?_
  refine cn_pR (idx := 15) (h := 90) (ci := 9) (k := 1) (fin := 1) (v := 92) (by decide +kernel) (by decide +kernel) (by decide +kernel) (by decide +kernel) ?_
  refine so_aload_n (k := 0) (by decide +kernel) rfl ?_
  refine so_sipush (n := 401) (by decide +kernel) (by unfold ir; omega) rfl ?_
  refine cn_int (a' := 94) (n := 401) (by decide +kernel) (by decide +kernel) rfl rfl (by decide) ?_
  refine cn_pR (idx := 18) (h := 90) (ci := 9) (k := 2) (fin := 1) (v := 93) (by decide +kernel) (by decide +kernel) (by decide +kernel) (by decide +kernel) ?_
  exact so_return (by decide +kernel) (by decide +kernel) rfl h
theorem ct_87_96 {d : Nat} (hd : 1 < d) {mi : MT} {mr : Nat → Nat → Option Nat} {Q : Option AV → Mem → Prop} (h : Q none ((gN [] mi), (gR [(96, 2, 99), (96, 1, 98), (96, 0, 97)] mr), 100)) : WPc 87 d 100 [vR (some 96)] (mi, mr, 97) Q := by
  refine en_87 ?_
  show WP 87 d 100 0 [some (vR (some 96))] [] (gN [] mi, gR [] mr, 97) Q
  refine so_aload_n (k := 0) (by decide +kernel) rfl ?_
  refine so_objInit (idx := 1) (h := 96) (by decide +kernel) (by decide +kernel) (Nat.le_of_ble_eq_true rfl) (by omega) ?_
  refine so_aload_n (k := 0) (by decide +kernel) rfl ?_
  refine so_sipush (n := 400) (by decide +kernel) (by unfold ir; omega) rfl ?_
  refine cn_int (a' := 98) (n := 400) (by decide +kernel) (by decide +kernel) rfl rfl (by decide) ?_
  refine cn_pR (idx := 9) (h := 96) (ci := 7) (k := 0) (fin := 1) (v := 97) (by decide +kernel) (by decide +kernel) (by decide +kernel) (by decide +kernel) ?_
  refine so_aload_n (k := 0) (by decide +kernel) rfl ?_
  refine so_bipush (n := 12) (by decide +kernel) (by unfold ir; omega) rfl ?_
  refine cn_int (a' := 99) (n := 12) (by decide +kernel) (by decide +kernel) rfl rfl (by decide) ?_
  refine cn_pR (idx := 13) (h := 96) (ci := 7) (k := 1) (fin := 1) (v := 98) (by decide +kernel) (by decide +kernel) (by decide +kernel) (by decide +kernel) ?_
  refine so_aload_n (k := 0) (by decide +kernel) rfl ?_
  refine so_bipush (n := 40) (by decide +kernel) (by unfold ir; omega) rfl ?_
  refine cn_int (a' := 100) (n := 40) (by decide +kernel) (by decide +kernel) rfl rfl (by decide) ?_
  refine cn_pR (idx := 16) (h := 96) (ci := 7) (k := 2) (fin := 1) (v := 99) (by decide +kernel) (by decide +kernel) (by decide +kernel) (by decide +kernel) ?_
  exact so_return (by decide +kernel) (by decide +kernel) rfl h
theorem ct_40_94 {d : Nat} (hd : 2 < d) {mi : MT} {mr : Nat → Nat → Option Nat} {Q : Option AV → Mem → Prop} (h : Q none ((gN [] (gN [] mi)), (gR [(94, 2, 90), (94, 1, 96), (96, 2, 99), (96, 1, 98), (96, 0, 97)] (gR [(94, 0, 95)] mr)), 100)) : WPc 40 d 100 [vR (some 94), vR (some 90)] (mi, mr, 95) Q := by
  refine en_40 ?_
  show WP 40 d 100 0 [some (vR (some 94)), some (vR (some 90))] [] (gN [] mi, gR [] mr, 95) Q
  refine so_aload_n (k := 0) (by decide +kernel) rfl ?_
  refine so_objInit (idx := 3) (h := 94) (by decide +kernel) (by decide +kernel) (Nat.le_of_ble_eq_true rfl) (by omega) ?_
  refine so_aload_n (k := 0) (by decide +kernel) rfl ?_
  refine so_iconst (n := 4) (by decide +kernel) (by unfold ir; omega) ?_
  refine cn_int (a' := 96) (n := 4) (by decide +kernel) (by decide +kernel) rfl rfl (by decide) ?_
  refine cn_pR (idx := 9) (h := 94) (ci := 3) (k := 0) (fin := 1) (v := 95) (by decide +kernel) (by decide +kernel) (by decide +kernel) (by decide +kernel) ?_
  refine so_aload_n (k := 0) (by decide +kernel) rfl ?_
  refine cn_new (a' := 97) (idx := 15) (ci := 7) (by decide +kernel) (by decide +kernel) (by decide +kernel) rfl (by decide) ?_
  refine so_dup (by decide +kernel) rfl ?_
  refine so_callIN (h := 96) (as := []) (S := [vR (some 96), vR (some 94)]) (y' := 87) (d' := d - 1) (b' := 100) (idx := 17) (by decide +kernel) (by decide +kernel) (by decide +kernel) (by decide) (show 0 = m_na 87 by decide +kernel) (Nat.le_of_ble_eq_true rfl) (by decide +kernel) (by omega) (show 97 + m_mc 87 = 100 by decide +kernel) (show 100 ≤ 100 by decide) (show nsu 100 = nsu 97 + m_ms 87 by decide +kernel) ?_
  refine ct_87_96 (by omega) ?_
  show WP 40 d 100 19 [some (vR (some 94)), some (vR (some 90))] [vR (some 96), vR (some 94)] ((gN [] (gN [] mi)), (gR [(96, 2, 99), (96, 1, 98), (96, 0, 97)] (gR [(94, 0, 95)] mr)), 100) Q
  refine cn_pR (idx := 18) (h := 94) (ci := 3) (k := 1) (fin := 1) (v := 96) (by decide +kernel) (by decide +kernel) (by decide +kernel) (by decide +kernel) ?_
  refine so_aload_n (k := 0) (by decide +kernel) rfl ?_
  refine so_aload_n (k := 1) (by decide +kernel) rfl ?_
  refine cn_pR (idx := 22) (h := 94) (ci := 3) (k := 2) (fin := 1) (v := 90) (by decide +kernel) (by decide +kernel) (by decide +kernel) (by decide +kernel) ?_
  exact so_return (by decide +kernel) (by decide +kernel) rfl h
theorem ct_102_100 {d : Nat} (hd : 1 < d) {mi : MT} {mr : Nat → Nat → Option Nat} {Q : Option AV → Mem → Prop} (h : Q none ((gN [] mi), (gR [(100, 1, 10), (100, 0, 2), (100, 3, 102), (100, 2, 101)] mr), 103)) : WPc 102 d 103 [vR (some 100), vR (some 2), vR (some 10)] (mi, mr, 101) Q := by
  refine en_102 ?_
  show WP 102 d 103 0 [some (vR (some 100)), some (vR (some 2)), some (vR (some 10))] [] (gN [] mi, gR [] mr, 101) Q
  refine so_aload_n (k := 0) (by decide +kernel) rfl ?_
  refine so_objInit (idx := 3) (h := 100) (by decide +kernel) (by decide +kernel) (Nat.le_of_ble_eq_true rfl) (by omega) ?_
  refine so_aload_n (k := 0) (by decide +kernel) rfl ?_
  refine so_bipush (n := 10) (by decide +kernel) (by unfold ir; omega) rfl ?_
  refine cn_int (a' := 102) (n := 10) (by decide +kernel) (by decide +kernel) rfl rfl (by decide) ?_
  refine cn_pR (idx := 11) (h := 100) (ci := 8) (k := 2) (fin := 1) (v := 101) (by decide +kernel) (by decide +kernel) (by decide +kernel) (by decide +kernel) ?_
  refine so_aload_n (k := 0) (by decide +kernel) rfl ?_
  refine so_iconst (n := 4) (by decide +kernel) (by unfold ir; omega) ?_
  refine cn_int (a' := 103) (n := 4) (by decide +kernel) (by decide +kernel) rfl rfl (by decide) ?_
  refine cn_pR (idx := 17) (h := 100) (ci := 8) (k := 3) (fin := 1) (v := 102) (by decide +kernel) (by decide +kernel) (by decide +kernel) (by decide +kernel) ?_
  refine so_aload_n (k := 0) (by decide +kernel) rfl ?_
  refine so_aload_n (k := 1) (by decide +kernel) rfl ?_
  refine cn_pR (idx := 20) (h := 100) (ci := 8) (k := 0) (fin := 1) (v := 2) (by decide +kernel) (by decide +kernel) (by decide +kernel) (by decide +kernel) ?_
  refine so_aload_n (k := 0) (by decide +kernel) rfl ?_
  refine so_aload_n (k := 2) (by decide +kernel) rfl ?_
  refine cn_pR (idx := 24) (h := 100) (ci := 8) (k := 1) (fin := 1) (v := 10) (by decide +kernel) (by decide +kernel) (by decide +kernel) (by decide +kernel) ?_
  exact so_return (by decide +kernel) (by decide +kernel) rfl h
theorem ct_35_103 {d : Nat} (hd : 1 < d) {mi : MT} {mr : Nat → Nat → Option Nat} {Q : Option AV → Mem → Prop} (h : Q none ((gN [] mi), (gR [(103, 0, 104)] mr), 105)) : WPc 35 d 105 [vR (some 103)] (mi, mr, 104) Q := by
  refine en_35 ?_
  show WP 35 d 105 0 [some (vR (some 103))] [] (gN [] mi, gR [] mr, 104) Q
  refine so_aload_n (k := 0) (by decide +kernel) rfl ?_
  refine so_objInit (idx := 3) (h := 103) (by decide +kernel) (by decide +kernel) (Nat.le_of_ble_eq_true rfl) (by omega) ?_
  refine so_aload_n (k := 0) (by decide +kernel) rfl ?_
  refine so_sipush (n := 6240) (by decide +kernel) (by unfold ir; omega) rfl ?_
  refine cn_int (a' := 105) (n := 6240) (by decide +kernel) (by decide +kernel) rfl rfl (by decide) ?_
  refine cn_pR (idx := 11) (h := 103) (ci := 2) (k := 0) (fin := 1) (v := 104) (by decide +kernel) (by decide +kernel) (by decide +kernel) (by decide +kernel) ?_
  exact so_return (by decide +kernel) (by decide +kernel) rfl h
theorem ct_65_105 {d : Nat} (hd : 1 < d) {mi : MT} {mr : Nat → Nat → Option Nat} {Q : Option AV → Mem → Prop} (h : Q none ((gN [] mi), (gR [(105, 2, 103), (105, 1, 100), (105, 0, 2), (105, 13, 116), (105, 12, 115), (105, 11, 114), (105, 10, 113), (105, 9, 112), (105, 8, 111), (105, 7, 110), (105, 6, 109), (105, 5, 108), (105, 4, 107), (105, 3, 106)] mr), 117)) : WPc 65 d 117 [vR (some 105), vR (some 2), vR (some 100), vR (some 103)] (mi, mr, 106) Q := by
  refine en_65 ?_
  show WP 65 d 117 0 [some (vR (some 105)), some (vR (some 2)), some (vR (some 100)), some (vR (some 103))] [] (gN [] mi, gR [] mr, 106) Q
  refine so_aload_n (k := 0) (by decide +kernel) rfl ?_
  refine so_objInit (idx := 5) (h := 105) (by decide +kernel) (by decide +kernel) (Nat.le_of_ble_eq_true rfl) (by omega) ?_
  refine so_aload_n (k := 0) (by decide +kernel) rfl ?_
  refine so_bipush (n := 110) (by decide +kernel) (by unfold ir; omega) rfl ?_
  refine cn_int (a' := 107) (n := 110) (by decide +kernel) (by decide +kernel) rfl rfl (by decide) ?_
  refine cn_pR (idx := 11) (h := 105) (ci := 6) (k := 3) (fin := 1) (v := 106) (by decide +kernel) (by decide +kernel) (by decide +kernel) (by decide +kernel) ?_
  refine so_aload_n (k := 0) (by decide +kernel) rfl ?_
  refine so_sipush (n := 440) (by decide +kernel) (by unfold ir; omega) rfl ?_
  refine cn_int (a' := 108) (n := 440) (by decide +kernel) (by decide +kernel) rfl rfl (by decide) ?_
  refine cn_pR (idx := 15) (h := 105) (ci := 6) (k := 4) (fin := 1) (v := 107) (by decide +kernel) (by decide +kernel) (by decide +kernel) (by decide +kernel) ?_
  refine so_aload_n (k := 0) (by decide +kernel) rfl ?_
  refine so_bipush (n := 110) (by decide +kernel) (by unfold ir; omega) rfl ?_
  refine cn_int (a' := 109) (n := 110) (by decide +kernel) (by decide +kernel) rfl rfl (by decide) ?_
  refine cn_pR (idx := 18) (h := 105) (ci := 6) (k := 5) (fin := 1) (v := 108) (by decide +kernel) (by decide +kernel) (by decide +kernel) (by decide +kernel) ?_
  refine so_aload_n (k := 0) (by decide +kernel) rfl ?_
  refine so_sipush (n := 4840) (by decide +kernel) (by unfold ir; omega) rfl ?_
  refine cn_int (a' := 110) (n := 4840) (by decide +kernel) (by decide +kernel) rfl rfl (by decide) ?_
  refine cn_pR (idx := 21) (h := 105) (ci := 6) (k := 6) (fin := 1) (v := 109) (by decide +kernel) (by decide +kernel) (by decide +kernel) (by decide +kernel) ?_
  refine so_aload_n (k := 0) (by decide +kernel) rfl ?_
  refine so_sipush (n := 1210) (by decide +kernel) (by unfold ir; omega) rfl ?_
  refine cn_int (a' := 111) (n := 1210) (by decide +kernel) (by decide +kernel) rfl rfl (by decide) ?_
  refine cn_pR (idx := 24) (h := 105) (ci := 6) (k := 7) (fin := 1) (v := 110) (by decide +kernel) (by decide +kernel) (by decide +kernel) (by decide +kernel) ?_
  refine so_aload_n (k := 0) (by decide +kernel) rfl ?_
  refine so_sipush (n := 4840) (by decide +kernel) (by unfold ir; omega) rfl ?_
  refine cn_int (a' := 112) (n := 4840) (by decide +kernel) (by decide +kernel) rfl rfl (by decide) ?_
  refine cn_pR (idx := 27) (h := 105) (ci := 6) (k := 8) (fin := 1) (v := 111) (by decide +kernel) (by decide +kernel) (by decide +kernel) (by decide +kernel) ?_
  refine so_aload_n (k := 0) (by decide +kernel) rfl ?_
  refine so_sipush (n := 24200) (by decide +kernel) (by unfold ir; omega) rfl ?_
  refine cn_int (a' := 113) (n := 24200) (by decide +kernel) (by decide +kernel) rfl rfl (by decide) ?_
  refine cn_pR (idx := 30) (h := 105) (ci := 6) (k := 9) (fin := 1) (v := 112) (by decide +kernel) (by decide +kernel) (by decide +kernel) (by decide +kernel) ?_
  refine so_aload_n (k := 0) (by decide +kernel) rfl ?_
  refine so_sipush (n := 2200) (by decide +kernel) (by unfold ir; omega) rfl ?_
  refine cn_int (a' := 114) (n := 2200) (by decide +kernel) (by decide +kernel) rfl rfl (by decide) ?_
  refine cn_pR (idx := 33) (h := 105) (ci := 6) (k := 10) (fin := 1) (v := 113) (by decide +kernel) (by decide +kernel) (by decide +kernel) (by decide +kernel) ?_
  refine so_aload_n (k := 0) (by decide +kernel) rfl ?_
  refine so_sipush (n := 420) (by decide +kernel) (by unfold ir; omega) rfl ?_
  refine cn_int (a' := 115) (n := 420) (by decide +kernel) (by decide +kernel) rfl rfl (by decide) ?_
  refine cn_pR (idx := 36) (h := 105) (ci := 6) (k := 11) (fin := 1) (v := 114) (by decide +kernel) (by decide +kernel) (by decide +kernel) (by decide +kernel) ?_
  refine so_aload_n (k := 0) (by decide +kernel) rfl ?_
  refine so_iconst (n := 4) (by decide +kernel) (by unfold ir; omega) ?_
  refine cn_int (a' := 116) (n := 4) (by decide +kernel) (by decide +kernel) rfl rfl (by decide) ?_
  refine cn_pR (idx := 39) (h := 105) (ci := 6) (k := 12) (fin := 1) (v := 115) (by decide +kernel) (by decide +kernel) (by decide +kernel) (by decide +kernel) ?_
  refine so_aload_n (k := 0) (by decide +kernel) rfl ?_
  refine so_bipush (n := 20) (by decide +kernel) (by unfold ir; omega) rfl ?_
  refine cn_int (a' := 117) (n := 20) (by decide +kernel) (by decide +kernel) rfl rfl (by decide) ?_
  refine cn_pR (idx := 42) (h := 105) (ci := 6) (k := 13) (fin := 1) (v := 116) (by decide +kernel) (by decide +kernel) (by decide +kernel) (by decide +kernel) ?_
  refine so_aload_n (k := 0) (by decide +kernel) rfl ?_
  refine so_aload_n (k := 1) (by decide +kernel) rfl ?_
  refine cn_pR (idx := 45) (h := 105) (ci := 6) (k := 0) (fin := 1) (v := 2) (by decide +kernel) (by decide +kernel) (by decide +kernel) (by decide +kernel) ?_
  refine so_aload_n (k := 0) (by decide +kernel) rfl ?_
  refine so_aload_n (k := 2) (by decide +kernel) rfl ?_
  refine cn_pR (idx := 49) (h := 105) (ci := 6) (k := 1) (fin := 1) (v := 100) (by decide +kernel) (by decide +kernel) (by decide +kernel) (by decide +kernel) ?_
  refine so_aload_n (k := 0) (by decide +kernel) rfl ?_
  refine so_aload_n (k := 3) (by decide +kernel) rfl ?_
  refine cn_pR (idx := 53) (h := 105) (ci := 6) (k := 2) (fin := 1) (v := 103) (by decide +kernel) (by decide +kernel) (by decide +kernel) (by decide +kernel) ?_
  exact so_return (by decide +kernel) (by decide +kernel) rfl h
theorem ct_56_117 {d : Nat} (hd : 1 < d) {mi : MT} {mr : Nat → Nat → Option Nat} {Q : Option AV → Mem → Prop} (h : Q none ((gN [] mi), (gR [(117, 8, 124), (117, 7, 123), (117, 6, 122), (117, 3, 121), (117, 2, 120), (117, 1, 119), (117, 0, 118)] mr), 125)) : WPc 56 d 125 [vR (some 117)] (mi, mr, 118) Q := by
  refine en_56 ?_
  show WP 56 d 125 0 [some (vR (some 117))] [] (gN [] mi, gR [] mr, 118) Q
  refine so_aload_n (k := 0) (by decide +kernel) rfl ?_
  refine so_objInit (idx := 3) (h := 117) (by decide +kernel) (by decide +kernel) (Nat.le_of_ble_eq_true rfl) (by omega) ?_
  refine so_aload_n (k := 0) (by decide +kernel) rfl ?_
  refine so_bipush (n := 20) (by decide +kernel) (by unfold ir; omega) rfl ?_
  refine cn_int (a' := 119) (n := 20) (by decide +kernel) (by decide +kernel) rfl rfl (by decide) ?_
  refine cn_pR (idx := 9) (h := 117) (ci := 5) (k := 0) (fin := 1) (v := 118) (by decide +kernel) (by decide +kernel) (by decide +kernel) (by decide +kernel) ?_
  refine so_aload_n (k := 0) (by decide +kernel) rfl ?_
  refine so_bipush (n := 20) (by decide +kernel) (by unfold ir; omega) rfl ?_
  refine cn_int (a' := 120) (n := 20) (by decide +kernel) (by decide +kernel) rfl rfl (by decide) ?_
  refine cn_pR (idx := 15) (h := 117) (ci := 5) (k := 1) (fin := 1) (v := 119) (by decide +kernel) (by decide +kernel) (by decide +kernel) (by decide +kernel) ?_
  refine so_aload_n (k := 0) (by decide +kernel) rfl ?_
  refine so_bipush (n := 20) (by decide +kernel) (by unfold ir; omega) rfl ?_
  refine cn_int (a' := 121) (n := 20) (by decide +kernel) (by decide +kernel) rfl rfl (by decide) ?_
  refine cn_pR (idx := 18) (h := 117) (ci := 5) (k := 2) (fin := 1) (v := 120) (by decide +kernel) (by decide +kernel) (by decide +kernel) (by decide +kernel) ?_
  refine so_aload_n (k := 0) (by decide +kernel) rfl ?_
  refine so_sipush (n := 400) (by decide +kernel) (by unfold ir; omega) rfl ?_
  refine cn_int (a' := 122) (n := 400) (by decide +kernel) (by decide +kernel) rfl rfl (by decide) ?_
  refine cn_pR (idx := 21) (h := 117) (ci := 5) (k := 3) (fin := 1) (v := 121) (by decide +kernel) (by decide +kernel) (by decide +kernel) (by decide +kernel) ?_
  refine so_aload_n (k := 0) (by decide +kernel) rfl ?_
  refine so_bipush (n := 20) (by decide +kernel) (by unfold ir; omega) rfl ?_
  refine cn_int (a' := 123) (n := 20) (by decide +kernel) (by decide +kernel) rfl rfl (by decide) ?_
  refine cn_pR (idx := 24) (h := 117) (ci := 5) (k := 6) (fin := 1) (v := 122) (by decide +kernel) (by decide +kernel) (by decide +kernel) (by decide +kernel) ?_
  refine so_aload_n (k := 0) (by decide +kernel) rfl ?_
  refine so_bipush (n := 20) (by decide +kernel) (by unfold ir; omega) rfl ?_
  refine cn_int (a' := 124) (n := 20) (by decide +kernel) (by decide +kernel) rfl rfl (by decide) ?_
  refine cn_pR (idx := 27) (h := 117) (ci := 5) (k := 7) (fin := 1) (v := 123) (by decide +kernel) (by decide +kernel) (by decide +kernel) (by decide +kernel) ?_
  refine so_aload_n (k := 0) (by decide +kernel) rfl ?_
  refine so_bipush (n := 20) (by decide +kernel) (by unfold ir; omega) rfl ?_
  refine cn_int (a' := 125) (n := 20) (by decide +kernel) (by decide +kernel) rfl rfl (by decide) ?_
  refine cn_pR (idx := 30) (h := 117) (ci := 5) (k := 8) (fin := 1) (v := 124) (by decide +kernel) (by decide +kernel) (by decide +kernel) (by decide +kernel) ?_
  exact so_return (by decide +kernel) (by decide +kernel) rfl h
theorem ct_56_125 {d : Nat} (hd : 1 < d) {mi : MT} {mr : Nat → Nat → Option Nat} {Q : Option AV → Mem → Prop} (h : Q none ((gN [] mi), (gR [(125, 8, 132), (125, 7, 131), (125, 6, 130), (125, 3, 129), (125, 2, 128), (125, 1, 127), (125, 0, 126)] mr), 133)) : WPc 56 d 133 [vR (some 125)] (mi, mr, 126) Q := by
  refine en_56 ?_
  show WP 56 d 133 0 [some (vR (some 125))] [] (gN [] mi, gR [] mr, 126) Q
  refine so_aload_n (k := 0) (by decide +kernel) rfl ?_
  refine so_objInit (idx := 3) (h := 125) (by decide +kernel) (by decide +kernel) (Nat.le_of_ble_eq_true rfl) (by omega) ?_
  refine so_aload_n (k := 0) (by decide +kernel) rfl ?_
  refine so_bipush (n := 20) (by decide +kernel) (by unfold ir; omega) rfl ?_
  refine cn_int (a' := 127) (n := 20) (by decide +kernel) (by decide +kernel) rfl rfl (by decide) ?_
  refine cn_pR (idx := 9) (h := 125) (ci := 5) (k := 0) (fin := 1) (v := 126) (by decide +kernel) (by decide +kernel) (by decide +kernel) (by decide +kernel) ?_
  refine so_aload_n (k := 0) (by decide +kernel) rfl ?_
  refine so_bipush (n := 20) (by decide +kernel) (by unfold ir; omega) rfl ?_
  refine cn_int (a' := 128) (n := 20) (by decide +kernel) (by decide +kernel) rfl rfl (by decide) ?_
  refine cn_pR (idx := 15) (h := 125) (ci := 5) (k := 1) (fin := 1) (v := 127) (by decide +kernel) (by decide +kernel) (by decide +kernel) (by decide +kernel) ?_
  refine so_aload_n (k := 0) (by decide +kernel) rfl ?_
  refine so_bipush (n := 20) (by decide +kernel) (by unfold ir; omega) rfl ?_
  refine cn_int (a' := 129) (n := 20) (by decide +kernel) (by decide +kernel) rfl rfl (by decide) ?_
  refine cn_pR (idx := 18) (h := 125) (ci := 5) (k := 2) (fin := 1) (v := 128) (by decide +kernel) (by decide +kernel) (by decide +kernel) (by decide +kernel) ?_
  refine so_aload_n (k := 0) (by decide +kernel) rfl ?_
  refine so_sipush (n := 400) (by decide +kernel) (by unfold ir; omega) rfl ?_
  refine cn_int (a' := 130) (n := 400) (by decide +kernel) (by decide +kernel) rfl rfl (by decide) ?_
  refine cn_pR (idx := 21) (h := 125) (ci := 5) (k := 3) (fin := 1) (v := 129) (by decide +kernel) (by decide +kernel) (by decide +kernel) (by decide +kernel) ?_
  refine so_aload_n (k := 0) (by decide +kernel) rfl ?_
  refine so_bipush (n := 20) (by decide +kernel) (by unfold ir; omega) rfl ?_
  refine cn_int (a' := 131) (n := 20) (by decide +kernel) (by decide +kernel) rfl rfl (by decide) ?_
  refine cn_pR (idx := 24) (h := 125) (ci := 5) (k := 6) (fin := 1) (v := 130) (by decide +kernel) (by decide +kernel) (by decide +kernel) (by decide +kernel) ?_
  refine so_aload_n (k := 0) (by decide +kernel) rfl ?_
  refine so_bipush (n := 20) (by decide +kernel) (by unfold ir; omega) rfl ?_
  refine cn_int (a' := 132) (n := 20) (by decide +kernel) (by decide +kernel) rfl rfl (by decide) ?_
  refine cn_pR (idx := 27) (h := 125) (ci := 5) (k := 7) (fin := 1) (v := 131) (by decide +kernel) (by decide +kernel) (by decide +kernel) (by decide +kernel) ?_
  refine so_aload_n (k := 0) (by decide +kernel) rfl ?_
  refine so_bipush (n := 20) (by decide +kernel) (by unfold ir; omega) rfl ?_
  refine cn_int (a' := 133) (n := 20) (by decide +kernel) (by decide +kernel) rfl rfl (by decide) ?_
  refine cn_pR (idx := 30) (h := 125) (ci := 5) (k := 8) (fin := 1) (v := 132) (by decide +kernel) (by decide +kernel) (by decide +kernel) (by decide +kernel) ?_
  exact so_return (by decide +kernel) (by decide +kernel) rfl h
end CTOR
