/-! steps over the lasting memory, an instruction each, for terms that a program writes -/
abbrev MT : Type := Nat → Nat → Int
abbrev aR (n : Nat) : AV := vR (some n)
abbrev lR (n : Nat) : Option AV := some (vR (some n))
abbrev lI (z : Int) : Option AV := some (vI z)
abbrev lL (z : Int) : Option AV := some (vL z)
/-- a judgement that no tactic looks into -/
def Jd (p : Prop) : Prop := ∃ _ : Unit, p
theorem Jd.mk {p : Prop} (h : p) : Jd p := ⟨(), h⟩
theorem Jd.get {p : Prop} (h : Jd p) : p := h.elim fun _ w => w
def wt (mi : MT) (c i : Nat) (z : Int) : MT := sv mi c (sv (mi c) i z)
theorem wt_same (mi : MT) (c i : Nat) (z : Int) : wt mi c i z c i = z := by simp [wt, sv]
theorem wt_at (mi : MT) (c i : Nat) (z : Int) (j : Nat) : wt mi c i z c j = if j = i then z else mi c j := by simp [wt, sv]
theorem wt_ne (mi : MT) {c i : Nat} (z : Int) {j : Nat} (h : j ≠ i) : wt mi c i z c j = mi c j := by simp [wt, sv, h]
theorem wt_row (mi : MT) {c i : Nat} (z : Int) {k : Nat} (h : k ≠ c) : wt mi c i z k = mi k := by simp [wt, sv, h]
def cpm (mi : MT) (h0 h1 sp dp n : Nat) : MT := sv mi h1 (cpy (mi h0) (mi h1) sp dp n)
theorem cpm_row (mi : MT) {h0 h1 sp dp n k : Nat} (h : k ≠ h1) : cpm mi h0 h1 sp dp n k = mi k := by simp [cpm, sv, h]
theorem cpm_at (mi : MT) (h0 h1 sp dp n j : Nat) : cpm mi h0 h1 sp dp n h1 j = if dp ≤ j ∧ j < dp + n then mi h0 (sp + (j - dp)) else mi h1 j := by simp [cpm, sv, cpy]
def ab (x : Int) : Int := if x < 0 then -x else x
def RI (P : Int → MT → Prop) (r : Option AV) (M : Mem) : Prop := ∃ z mi, r = some (vI z) ∧ M = G mi ∧ P z mi
def RL (P : Int → MT → Prop) (r : Option AV) (M : Mem) : Prop := ∃ z mi, r = some (vL z) ∧ M = G mi ∧ P z mi
def RB (P : Bool → MT → Prop) (r : Option AV) (M : Mem) : Prop := ∃ (b : Bool) (mi : MT), r = some (vI (bI (b = true))) ∧ M = G mi ∧ P b mi
def RV (P : MT → Prop) (r : Option AV) (M : Mem) : Prop := ∃ mi, r = none ∧ M = G mi ∧ P mi
theorem RI_i {P : Int → MT → Prop} {z : Int} {mi : MT} (h : P z mi) : RI P (some (vI z)) (G mi) := ⟨z, mi, rfl, rfl, h⟩
theorem RL_i {P : Int → MT → Prop} {z : Int} {mi : MT} (h : P z mi) : RL P (some (vL z)) (G mi) := ⟨z, mi, rfl, rfl, h⟩
theorem RV_i {P : MT → Prop} {mi : MT} (h : P mi) : RV P none (G mi) := ⟨mi, rfl, rfl, h⟩
theorem RB_b {P : Bool → MT → Prop} {b : Bool} {mi : MT} (h : P b mi) : RB P (some (vI (bI (b = true)))) (G mi) := ⟨b, mi, rfl, rfl, h⟩
theorem RB_t {P : Bool → MT → Prop} {mi : MT} (h : P true mi) : RB P (some (vI 1)) (G mi) := ⟨true, mi, rfl, rfl, h⟩
theorem RB_f {P : Bool → MT → Prop} {mi : MT} (h : P false mi) : RB P (some (vI 0)) (G mi) := ⟨false, mi, rfl, rfl, h⟩
theorem RB_p {P : Bool → MT → Prop} {p : Prop} [Decidable p] {mi : MT} (h : P (decide p) mi) : RB P (some (vI (bI p))) (G mi) := by
  by_cases hp : p
  · rw [decide_eq_true hp] at h; exact ⟨true, mi, by simp [bI, hp], rfl, h⟩
  · rw [decide_eq_false hp] at h; exact ⟨false, mi, by simp [bI, hp], rfl, h⟩
theorem RB_z {P : Bool → MT → Prop} {z : Int} {mi : MT} (hz : z = 0 ∨ z = 1) (h : P (decide (z = 1)) mi) : RB P (some (vI z)) (G mi) := by
  rcases hz with rfl | rfl
  · exact RB_f h
  · exact RB_t h
/-- locals of which less is known -/
def dropOk : Lc → Lc → Bool
  | [], [] => true
  | none :: s, _ :: t => dropOk s t
  | some _ :: s, some _ :: t => dropOk s t
  | _, _ => false
def dropR : Lc → Lc → Prop
  | [], [] => True
  | none :: s, _ :: t => dropR s t
  | some a :: s, b :: t => b = some a ∧ dropR s t
  | _, _ => False
theorem dropR_get : ∀ (L L' : Lc), dropR L L' → L.length = L'.length ∧ ∀ (i : Nat) (v : AV), L[i]? = some (some v) → L'[i]? = some (some v)
  | [], [], _ => ⟨rfl, fun i v h => h⟩
  | none :: s, b :: t, h => by
    obtain ⟨h1, h2⟩ := dropR_get s t h
    refine ⟨by simp [h1], fun i v hi => ?_⟩
    rcases i with _ | i
    · simp at hi
    · simpa using h2 i v (by simpa using hi)
  | some a :: s, b :: t, h => by
    obtain ⟨rfl, h0⟩ := h
    obtain ⟨h1, h2⟩ := dropR_get s t h0
    refine ⟨by simp [h1], fun i v hi => ?_⟩
    rcases i with _ | i
    · simpa using hi
    · simpa using h2 i v (by simpa using hi)
  | [], _ :: _, h => h.elim
  | none :: _, [], h => h.elim
  | some _ :: _, [], h => h.elim
theorem wp_drop {y d b pc : Nat} {L L' : Lc} {S : List AV} {M : Mem} {Q : Option AV → Mem → Prop} (h : WP y d b pc L S M Q) (hd : dropR L L') : WP y d b pc L' S M Q := by
  obtain ⟨h1, h2⟩ := dropR_get L L' hd
  intro X p l e R s m args below meth c H locs Qf ls na0 hC hM hS hL hW hl hn hR
  refine h X p l e R s m args below meth c H locs Qf ls na0 hC hM hS ?_ hW hl hn hR
  obtain ⟨g1, g2, lv, g3, g4⟩ := hL
  exact ⟨by rw [h1]; exact g1, fun i v hi => g2 i v (h2 i v hi), lv, g3, fun i v hi => g4 i v (h2 i v hi)⟩
section QS
variable {y d pc : Nat} {L : Lc} {S : List AV} {its : List It} {mi : MT} {Q : Option AV → Mem → Prop} {K : Nat → Lc → List AV → Mem → Prop}
theorem q_iconst {n : Int} {l : Nat} {r : Nat × Nat × Nat × Nat} (h : wpI y d 172 K Q its (pc + l) L (vI n :: S) (G mi)) : wpI y d 172 K Q ((.iconst n, l, r) :: its) pc L S (G mi) := h
theorem q_bipush {n : Int} {l : Nat} {r : Nat × Nat × Nat × Nat} (h : wpI y d 172 K Q its (pc + l) L (vI n :: S) (G mi)) : wpI y d 172 K Q ((.bipush n, l, r) :: its) pc L S (G mi) := h
theorem q_sipush {n : Int} {l : Nat} {r : Nat × Nat × Nat × Nat} (h : wpI y d 172 K Q its (pc + l) L (vI n :: S) (G mi)) : wpI y d 172 K Q ((.sipush n, l, r) :: its) pc L S (G mi) := h
theorem q_lconst {i : Fin 2} {l a : Nat} {z : Int} {r : Nat × Nat × Nat} (hz : (a : Int) = z) (h : wpI y d 172 K Q its (pc + l) L (vL z :: S) (G mi)) : wpI y d 172 K Q ((.lconst i, l, a, r) :: its) pc L S (G mi) := by subst hz; exact h
theorem q_ldc {i l a : Nat} {z : Int} {r : Nat × Nat} (hz : (a : Int) = z) (h : wpI y d 172 K Q its (pc + l) L (vI z :: S) (G mi)) : wpI y d 172 K Q ((.ldc i, l, a, 0, r) :: its) pc L S (G mi) := by subst hz; exact h
theorem q_ldcS {i l a : Nat} {r : Nat × Nat} (h : wpI y d 172 K Q its (pc + l) L (aR a :: S) (G mi)) : wpI y d 172 K Q ((.ldc i, l, a, 1, r) :: its) pc L S (G mi) := h
theorem q_ldc_w {i l a : Nat} {z : Int} {r : Nat × Nat × Nat} (hz : (a : Int) = z) (h : wpI y d 172 K Q its (pc + l) L (vI z :: S) (G mi)) : wpI y d 172 K Q ((.ldc_w i, l, a, r) :: its) pc L S (G mi) := by subst hz; exact h
theorem q_ldc2 {i l a o : Nat} {z : Int} {r : Nat × Nat} (hz : lcv a o = z) (h : wpI y d 172 K Q its (pc + l) L (vL z :: S) (G mi)) : wpI y d 172 K Q ((.ldc2_w i, l, a, o, r) :: its) pc L S (G mi) := by subst hz; exact h
theorem q_iload_n {i : Fin 4} {l a : Nat} {z : Int} {r : Nat × Nat × Nat} (hg : gL L a = some (vI z)) (h : wpI y d 172 K Q its (pc + l) L (vI z :: S) (G mi)) : wpI y d 172 K Q ((.iload_n i, l, a, r) :: its) pc L S (G mi) := by
  show oI _ (gL L a); rw [hg]; exact h
theorem q_iload {i l a : Nat} {z : Int} {r : Nat × Nat × Nat} (hg : gL L a = some (vI z)) (h : wpI y d 172 K Q its (pc + l) L (vI z :: S) (G mi)) : wpI y d 172 K Q ((.iload i, l, a, r) :: its) pc L S (G mi) := by
  show oI _ (gL L a); rw [hg]; exact h
theorem q_lload_n {i : Fin 4} {l a : Nat} {z : Int} {r : Nat × Nat × Nat} (hg : gL L a = some (vL z)) (h : wpI y d 172 K Q its (pc + l) L (vL z :: S) (G mi)) : wpI y d 172 K Q ((.lload_n i, l, a, r) :: its) pc L S (G mi) := by
  show oJ _ (gL L a); rw [hg]; exact h
theorem q_lload {i l a : Nat} {z : Int} {r : Nat × Nat × Nat} (hg : gL L a = some (vL z)) (h : wpI y d 172 K Q its (pc + l) L (vL z :: S) (G mi)) : wpI y d 172 K Q ((.lload i, l, a, r) :: its) pc L S (G mi) := by
  show oJ _ (gL L a); rw [hg]; exact h
theorem q_aload_n {i : Fin 4} {l a z : Nat} {r : Nat × Nat × Nat} (hg : gL L a = some (aR z)) (h : wpI y d 172 K Q its (pc + l) L (aR z :: S) (G mi)) : wpI y d 172 K Q ((.aload_n i, l, a, r) :: its) pc L S (G mi) := by
  show oR _ (gL L a); rw [hg]; exact h
theorem q_aload {i l a z : Nat} {r : Nat × Nat × Nat} (hg : gL L a = some (aR z)) (h : wpI y d 172 K Q its (pc + l) L (aR z :: S) (G mi)) : wpI y d 172 K Q ((.aload i, l, a, r) :: its) pc L S (G mi) := by
  show oR _ (gL L a); rw [hg]; exact h
theorem q_istore_n {i : Fin 4} {l a : Nat} {z : Int} {r : Nat × Nat × Nat} {L' : Lc} (hL : setL L a (vI z) = L') (h : wpI y d 172 K Q its (pc + l) L' S (G mi)) : wpI y d 172 K Q ((.istore_n i, l, a, r) :: its) pc L (vI z :: S) (G mi) := by subst hL; exact h
theorem q_istore {i l a : Nat} {z : Int} {r : Nat × Nat × Nat} {L' : Lc} (hL : setL L a (vI z) = L') (h : wpI y d 172 K Q its (pc + l) L' S (G mi)) : wpI y d 172 K Q ((.istore i, l, a, r) :: its) pc L (vI z :: S) (G mi) := by subst hL; exact h
theorem q_lstore_n {i : Fin 4} {l a : Nat} {z : Int} {r : Nat × Nat × Nat} {L' : Lc} (hL : setL2 L a (vL z) = L') (h : wpI y d 172 K Q its (pc + l) L' S (G mi)) : wpI y d 172 K Q ((.lstore_n i, l, a, r) :: its) pc L (vL z :: S) (G mi) := by subst hL; exact h
theorem q_lstore {i l a : Nat} {z : Int} {r : Nat × Nat × Nat} {L' : Lc} (hL : setL2 L a (vL z) = L') (h : wpI y d 172 K Q its (pc + l) L' S (G mi)) : wpI y d 172 K Q ((.lstore i, l, a, r) :: its) pc L (vL z :: S) (G mi) := by subst hL; exact h
theorem q_astore_n {i : Fin 4} {l a z : Nat} {r : Nat × Nat × Nat} {L' : Lc} (hL : setL L a (aR z) = L') (h : wpI y d 172 K Q its (pc + l) L' S (G mi)) : wpI y d 172 K Q ((.astore_n i, l, a, r) :: its) pc L (aR z :: S) (G mi) := by subst hL; exact h
theorem q_astore {i l a z : Nat} {r : Nat × Nat × Nat} {L' : Lc} (hL : setL L a (aR z) = L') (h : wpI y d 172 K Q its (pc + l) L' S (G mi)) : wpI y d 172 K Q ((.astore i, l, a, r) :: its) pc L (aR z :: S) (G mi) := by subst hL; exact h
theorem q_iinc {i l a : Nat} {n z v : Int} {r : Nat × Nat × Nat} {L' : Lc} (hg : gL L a = some (vI z)) (hv : z + n = v) (hr : -2147483648 ≤ v ∧ v < 2147483648) (hL : setL L a (vI v) = L') (h : wpI y d 172 K Q its (pc + l) L' S (G mi)) : wpI y d 172 K Q ((.iinc i n, l, a, r) :: its) pc L S (G mi) := by
  subst hv; subst hL
  show oI _ (gL L a); rw [hg]
  show wpI y d 172 K Q its (pc + l) (setL L a (vI (wr (z + n)))) S (G mi)
  rw [wr_id hr]; exact h
theorem q_iadd {l : Nat} {x z v : Int} {r : Nat × Nat × Nat × Nat} (hr : -2147483648 ≤ v ∧ v < 2147483648) (hv : x + z = v) (h : wpI y d 172 K Q its (pc + l) L (vI v :: S) (G mi)) : wpI y d 172 K Q ((.iadd, l, r) :: its) pc L (vI z :: vI x :: S) (G mi) := by
  subst hv
  show wpI y d 172 K Q its (pc + l) L (vI (wr (x + z)) :: S) (G mi)
  rw [wr_id hr]; exact h
theorem q_isub {l : Nat} {x z v : Int} {r : Nat × Nat × Nat × Nat} (hr : -2147483648 ≤ v ∧ v < 2147483648) (hv : x - z = v) (h : wpI y d 172 K Q its (pc + l) L (vI v :: S) (G mi)) : wpI y d 172 K Q ((.isub, l, r) :: its) pc L (vI z :: vI x :: S) (G mi) := by
  subst hv
  show wpI y d 172 K Q its (pc + l) L (vI (wr (x - z)) :: S) (G mi)
  rw [wr_id hr]; exact h
theorem q_imul {l : Nat} {x z v : Int} {r : Nat × Nat × Nat × Nat} (hr : -2147483648 ≤ v ∧ v < 2147483648) (hv : x * z = v) (h : wpI y d 172 K Q its (pc + l) L (vI v :: S) (G mi)) : wpI y d 172 K Q ((.imul, l, r) :: its) pc L (vI z :: vI x :: S) (G mi) := by
  subst hv
  show wpI y d 172 K Q its (pc + l) L (vI (wr (x * z)) :: S) (G mi)
  rw [wr_id hr]; exact h
theorem q_idiv {l : Nat} {x z : Int} {r : Nat × Nat × Nat × Nat} (hr : 0 ≤ x ∧ x < 2147483648) (hz : 0 < z) (h : wpI y d 172 K Q its (pc + l) L (vI (x / z) :: S) (G mi)) : wpI y d 172 K Q ((.idiv, l, r) :: its) pc L (vI z :: vI x :: S) (G mi) := by
  refine And.intro (by omega) ?_
  show wpI y d 172 K Q its (pc + l) L (vI (wr (x.tdiv z)) :: S) (G mi)
  have h1 : x.tdiv z = x / z := Int.tdiv_eq_ediv_of_nonneg hr.1
  have h2 : 0 ≤ x / z := Int.ediv_nonneg hr.1 (by omega)
  have h3 : x / z ≤ x := Int.ediv_le_self z hr.1
  rw [h1, wr_id (by omega)]; exact h
theorem q_irem {l : Nat} {x z : Int} {r : Nat × Nat × Nat × Nat} (hr : 0 ≤ x ∧ x < 2147483648) (hz : 0 < z) (h : wpI y d 172 K Q its (pc + l) L (vI (x % z) :: S) (G mi)) : wpI y d 172 K Q ((.irem, l, r) :: its) pc L (vI z :: vI x :: S) (G mi) := by
  refine And.intro (by omega) ?_
  show wpI y d 172 K Q its (pc + l) L (vI (wr (x.tmod z)) :: S) (G mi)
  have h1 : x.tmod z = x % z := Int.tmod_eq_emod_of_nonneg hr.1
  have h2 : 0 ≤ x % z := Int.emod_nonneg x (by omega)
  have h3 : x % z ≤ x := by
    have := Int.mul_ediv_add_emod x z
    have h4 : 0 ≤ z * (x / z) := Int.mul_nonneg (by omega) (Int.ediv_nonneg hr.1 (by omega))
    omega
  rw [h1, wr_id (by omega)]; exact h
theorem q_ineg {l : Nat} {x : Int} {r : Nat × Nat × Nat × Nat} (hr : -2147483648 ≤ -x ∧ -x < 2147483648) (h : wpI y d 172 K Q its (pc + l) L (vI (-x) :: S) (G mi)) : wpI y d 172 K Q ((.ineg, l, r) :: its) pc L (vI x :: S) (G mi) := by
  show wpI y d 172 K Q its (pc + l) L (vI (wr (-x)) :: S) (G mi)
  rw [wr_id hr]; exact h
theorem iShl_mul {x : Int} (n : Nat) (hn : n < 32) (hr : -2147483648 ≤ x * 2 ^ n ∧ x * 2 ^ n < 2147483648) : iShl x n = x * 2 ^ n := by
  unfold iShl
  have hc : ∀ n : Fin 32, ∀ x : Int, (i3 x <<< (i3 (n.val : Int) &&& 31)) = i3 (x * 2 ^ n.val) := by
    intro n x
    have e : (i3 (n.val : Int) &&& 31) = i3 (n.val : Int) := by revert n; decide
    rw [e]
    apply Int32.toBitVec_inj.mp
    have e2 : ((i3 (n.val : Int)).toBitVec.smod 32) = BitVec.ofNat 32 n.val := by revert n; decide
    rw [Int32.toBitVec_shiftLeft, e2]
    show BitVec.ofInt 32 x <<< BitVec.ofNat 32 n.val = BitVec.ofInt 32 (x * 2 ^ n.val)
    have e3 : (BitVec.ofNat 32 n.val).toNat = n.val := by have := n.isLt; simp; omega
    rw [BitVec.shiftLeft_eq', e3, BitVec.shiftLeft_eq_mul_twoPow, BitVec.ofInt_mul]
    congr 1
    apply BitVec.eq_of_toInt_eq
    revert n; decide
  rw [hc ⟨n, hn⟩ x, i3_val hr]
theorem iShr_div {x : Int} (n : Nat) (hn : n < 32) (hr : -2147483648 ≤ x ∧ x < 2147483648) : iShr x n = x / 2 ^ n := by
  unfold iShr
  have hc : ∀ n : Fin 32, ((i3 (n.val : Int) &&& 31).toBitVec.smod 32).toNat = n.val := by decide
  show (i3 x >>> (i3 (n : Int) &&& 31)).toBitVec.toInt = _
  rw [Int32.toBitVec_shiftRight, BitVec.sshiftRight_eq', BitVec.toInt_sshiftRight, hc ⟨n, hn⟩, Int.shiftRight_eq_div_pow]
  show (i3 x).toInt / _ = _
  rw [i3_val hr]
  simp
theorem bAnd_mask (x : Int) (n : Nat) (hn : n < 32) : bAnd x (2 ^ n - 1) = x % 2 ^ n := by
  unfold bAnd
  have h1 : (i3 x &&& i3 (2 ^ n - 1)).toBitVec = BitVec.ofNat 32 ((x % 2 ^ n).toNat) := by
    rw [Int32.toBitVec_and]
    apply BitVec.eq_of_toNat_eq
    have hm : ∀ n : Fin 32, (i3 (2 ^ n.val - 1)).toBitVec.toNat = 2 ^ n.val - 1 := by decide
    rw [BitVec.toNat_and, hm ⟨n, hn⟩, Nat.and_two_pow_sub_one_eq_mod]
    show (BitVec.ofInt 32 x).toNat % 2 ^ n = _
    rw [BitVec.toNat_ofInt, BitVec.toNat_ofNat]
    have e0 : (2:Int) ^ n = ((2 ^ n : Nat) : Int) := by push_cast; rfl
    have p0 : 0 < 2 ^ n := Nat.two_pow_pos n
    have p1 : 2 ^ n ≤ 2 ^ 31 := Nat.pow_le_pow_right (by decide) (by omega)
    have e1 : x % ((2 ^ 32 : Nat) : Int) % ((2 ^ n : Nat) : Int) = x % ((2 ^ n : Nat) : Int) := Int.emod_emod_of_dvd x (by exact_mod_cast Nat.pow_dvd_pow 2 (by omega))
    have e2 : 0 ≤ x % ((2 ^ 32 : Nat) : Int) := Int.emod_nonneg _ (by omega)
    have e3 : 0 ≤ x % ((2 ^ n : Nat) : Int) := Int.emod_nonneg _ (by omega)
    have e4 : x % ((2 ^ n : Nat) : Int) < ((2 ^ n : Nat) : Int) := Int.emod_lt_of_pos _ (by omega)
    rw [e0]
    rw [Nat.mod_eq_of_lt (a := (x % ((2 ^ n : Nat) : Int)).toNat) (by omega)]
    apply Int.ofNat.inj
    show (((x % ((2 ^ 32 : Nat) : Int)).toNat % 2 ^ n : Nat) : Int) = ((x % ((2 ^ n : Nat) : Int)).toNat : Int)
    rw [Int.natCast_emod, Int.toNat_of_nonneg e2, Int.toNat_of_nonneg e3]
    exact e1
  show (i3 x &&& i3 (2 ^ n - 1)).toBitVec.toInt = _
  rw [h1]
  have e0 : (2:Int) ^ n = ((2 ^ n : Nat) : Int) := by push_cast; rfl
  have p0 : 0 < 2 ^ n := Nat.two_pow_pos n
  have p1 : 2 ^ n ≤ 2 ^ 31 := Nat.pow_le_pow_right (by decide) (by omega)
  have e3 : 0 ≤ x % ((2 ^ n : Nat) : Int) := Int.emod_nonneg _ (by omega)
  have e4 : x % ((2 ^ n : Nat) : Int) < ((2 ^ n : Nat) : Int) := Int.emod_lt_of_pos _ (by omega)
  rw [e0, BitVec.toInt_ofNat', Int.bmod_def]
  split <;> omega
theorem q_ishl {l : Nat} {x z v : Int} {n : Nat} {r : Nat × Nat × Nat × Nat} (hr : -2147483648 ≤ v ∧ v < 2147483648) (hn : n < 32) (hz : z = (n : Int)) (hv : x * 2 ^ n = v) (h : wpI y d 172 K Q its (pc + l) L (vI v :: S) (G mi)) : wpI y d 172 K Q ((.ishl, l, r) :: its) pc L (vI z :: vI x :: S) (G mi) := by
  subst hv; subst hz
  show wpI y d 172 K Q its (pc + l) L (vI (iShl x n) :: S) (G mi)
  rw [iShl_mul n hn hr]; exact h
theorem q_ishr {l : Nat} {x z v : Int} {n : Nat} {r : Nat × Nat × Nat × Nat} (hr : -2147483648 ≤ x ∧ x < 2147483648) (hn : n < 32) (hz : z = (n : Int)) (hv : x / 2 ^ n = v) (h : wpI y d 172 K Q its (pc + l) L (vI v :: S) (G mi)) : wpI y d 172 K Q ((.ishr, l, r) :: its) pc L (vI z :: vI x :: S) (G mi) := by
  subst hv; subst hz
  show wpI y d 172 K Q its (pc + l) L (vI (iShr x n) :: S) (G mi)
  rw [iShr_div n hn hr]; exact h
theorem q_iandm {l : Nat} {x z v : Int} {n : Nat} {r : Nat × Nat × Nat × Nat} (hn : n < 32) (hz : z = 2 ^ n - 1) (hv : x % 2 ^ n = v) (h : wpI y d 172 K Q its (pc + l) L (vI v :: S) (G mi)) : wpI y d 172 K Q ((.iand, l, r) :: its) pc L (vI z :: vI x :: S) (G mi) := by
  subst hv; subst hz
  show wpI y d 172 K Q its (pc + l) L (vI (bAnd x (2 ^ n - 1)) :: S) (G mi)
  rw [bAnd_mask x n hn]; exact h
theorem q_ishlx {l : Nat} {x z : Int} {r : Nat × Nat × Nat × Nat} (h : wpI y d 172 K Q its (pc + l) L (vI (iShl x z) :: S) (G mi)) : wpI y d 172 K Q ((.ishl, l, r) :: its) pc L (vI z :: vI x :: S) (G mi) := h
theorem q_ishrx {l : Nat} {x z : Int} {r : Nat × Nat × Nat × Nat} (h : wpI y d 172 K Q its (pc + l) L (vI (iShr x z) :: S) (G mi)) : wpI y d 172 K Q ((.ishr, l, r) :: its) pc L (vI z :: vI x :: S) (G mi) := h
theorem q_iushr {l : Nat} {x z : Int} {r : Nat × Nat × Nat × Nat} (h : wpI y d 172 K Q its (pc + l) L (vI (bUshr x z) :: S) (G mi)) : wpI y d 172 K Q ((.iushr, l, r) :: its) pc L (vI z :: vI x :: S) (G mi) := h
theorem q_iand {l : Nat} {x z : Int} {r : Nat × Nat × Nat × Nat} (h : wpI y d 172 K Q its (pc + l) L (vI (bAnd x z) :: S) (G mi)) : wpI y d 172 K Q ((.iand, l, r) :: its) pc L (vI z :: vI x :: S) (G mi) := h
theorem q_ior {l : Nat} {x z : Int} {r : Nat × Nat × Nat × Nat} (h : wpI y d 172 K Q its (pc + l) L (vI (bOr x z) :: S) (G mi)) : wpI y d 172 K Q ((.ior, l, r) :: its) pc L (vI z :: vI x :: S) (G mi) := h
theorem q_ixor {l : Nat} {x z : Int} {r : Nat × Nat × Nat × Nat} (h : wpI y d 172 K Q its (pc + l) L (vI (bXor x z) :: S) (G mi)) : wpI y d 172 K Q ((.ixor, l, r) :: its) pc L (vI z :: vI x :: S) (G mi) := h
theorem q_i2b {l : Nat} {x : Int} {r : Nat × Nat × Nat × Nat} (h : wpI y d 172 K Q its (pc + l) L (vI (b2b x) :: S) (G mi)) : wpI y d 172 K Q ((.i2b, l, r) :: its) pc L (vI x :: S) (G mi) := h
theorem q_i2l {l : Nat} {x : Int} {r : Nat × Nat × Nat × Nat} (h : wpI y d 172 K Q its (pc + l) L (vL x :: S) (G mi)) : wpI y d 172 K Q ((.i2l, l, r) :: its) pc L (vI x :: S) (G mi) := h
theorem q_ladd {l : Nat} {x z v : Int} {r : Nat × Nat × Nat × Nat} (hr : -9223372036854775808 ≤ v ∧ v < 9223372036854775808) (hv : x + z = v) (h : wpI y d 172 K Q its (pc + l) L (vL v :: S) (G mi)) : wpI y d 172 K Q ((.ladd, l, r) :: its) pc L (vL z :: vL x :: S) (G mi) := by
  subst hv
  show wpI y d 172 K Q its (pc + l) L (vL (wl (x + z)) :: S) (G mi)
  rw [wl_id hr]; exact h
theorem q_lmul {l : Nat} {x z v : Int} {r : Nat × Nat × Nat × Nat} (hr : -9223372036854775808 ≤ v ∧ v < 9223372036854775808) (hv : x * z = v) (h : wpI y d 172 K Q its (pc + l) L (vL v :: S) (G mi)) : wpI y d 172 K Q ((.lmul, l, r) :: its) pc L (vL z :: vL x :: S) (G mi) := by
  subst hv
  show wpI y d 172 K Q its (pc + l) L (vL (wl (x * z)) :: S) (G mi)
  rw [wl_id hr]; exact h
theorem q_ldiv {l : Nat} {x z : Int} {r : Nat × Nat × Nat × Nat} (hr : (0 ≤ x ∧ x < 9223372036854775808) ∧ 0 < z) (h : wpI y d 172 K Q its (pc + l) L (vL (x / z) :: S) (G mi)) : wpI y d 172 K Q ((.ldiv, l, r) :: its) pc L (vL z :: vL x :: S) (G mi) := by
  refine And.intro (by omega) ?_
  show wpI y d 172 K Q its (pc + l) L (vL (wl (x.tdiv z)) :: S) (G mi)
  have h1 : x.tdiv z = x / z := Int.tdiv_eq_ediv_of_nonneg hr.1.1
  have h2 : 0 ≤ x / z := Int.ediv_nonneg hr.1.1 (by omega)
  have h3 : x / z ≤ x := Int.ediv_le_self z hr.1.1
  rw [h1, wl_id (by omega)]; exact h
theorem q_lrem {l : Nat} {x z : Int} {r : Nat × Nat × Nat × Nat} (hr : (0 ≤ x ∧ x < 9223372036854775808) ∧ 0 < z) (h : wpI y d 172 K Q its (pc + l) L (vL (x % z) :: S) (G mi)) : wpI y d 172 K Q ((.lrem, l, r) :: its) pc L (vL z :: vL x :: S) (G mi) := by
  refine And.intro (by omega) ?_
  show wpI y d 172 K Q its (pc + l) L (vL (wl (x.tmod z)) :: S) (G mi)
  have h1 : x.tmod z = x % z := Int.tmod_eq_emod_of_nonneg hr.1.1
  have h2 : 0 ≤ x % z := Int.emod_nonneg x (by omega)
  have h3 : x % z ≤ x := by
    have := Int.mul_ediv_add_emod x z
    have h4 : 0 ≤ z * (x / z) := Int.mul_nonneg (by omega) (Int.ediv_nonneg hr.1.1 (by omega))
    omega
  rw [h1, wl_id (by omega)]; exact h
theorem q_lcmp {l : Nat} {x z : Int} {r : Nat × Nat × Nat × Nat} (h : wpI y d 172 K Q its (pc + l) L (vI (lCmp x z) :: S) (G mi)) : wpI y d 172 K Q ((.lcmp, l, r) :: its) pc L (vL z :: vL x :: S) (G mi) := h
theorem q_dup {l : Nat} {v : AV} {r : Nat × Nat × Nat × Nat} (hv : cg v = 1) (h : wpI y d 172 K Q its (pc + l) L (v :: v :: S) (G mi)) : wpI y d 172 K Q ((.dup, l, r) :: its) pc L (v :: S) (G mi) := ⟨hv, h⟩
theorem q_pop {l : Nat} {v : AV} {r : Nat × Nat × Nat × Nat} (hv : cg v = 1) (h : wpI y d 172 K Q its (pc + l) L S (G mi)) : wpI y d 172 K Q ((.pop, l, r) :: its) pc L (v :: S) (G mi) := ⟨hv, h⟩
theorem q_dup2 {l : Nat} {v w : AV} {r : Nat × Nat × Nat × Nat} (hv : cg v = 1) (hw : cg w = 1) (h : wpI y d 172 K Q its (pc + l) L (v :: w :: v :: w :: S) (G mi)) : wpI y d 172 K Q ((.dup2, l, r) :: its) pc L (v :: w :: S) (G mi) := ⟨⟨hv, hw⟩, h⟩
theorem q_cmp_eq {l a : Nat} {of x z : Int} {r : Nat × Nat × Nat} (h1 : x = z → K a L S (G mi)) (h2 : ¬ x = z → wpI y d 172 K Q its (pc + l) L S (G mi)) : wpI y d 172 K Q ((.if_icmp .eq of, l, a, r) :: its) pc L (vI z :: vI x :: S) (G mi) := ⟨h1, fun q0 => h2 ((fun q => q) q0)⟩
theorem q_if_eq {l a : Nat} {of x : Int} {r : Nat × Nat × Nat} (h1 : x = 0 → K a L S (G mi)) (h2 : ¬ x = 0 → wpI y d 172 K Q its (pc + l) L S (G mi)) : wpI y d 172 K Q ((.ifCond .eq of, l, a, r) :: its) pc L (vI x :: S) (G mi) := ⟨h1, fun q0 => h2 ((fun q => q) q0)⟩
theorem q_ifl_eq {l a : Nat} {of x z : Int} {r : Nat × Nat × Nat} (h1 : x = z → K a L S (G mi)) (h2 : ¬ x = z → wpI y d 172 K Q its (pc + l) L S (G mi)) : wpI y d 172 K Q ((.ifCond .eq of, l, a, r) :: its) pc L (vI (lCmp x z) :: S) (G mi) := by
  refine q_if_eq (fun q => h1 ?_) (fun q => h2 ?_) <;> (unfold lCmp at q; (repeat' split at q) <;> omega)
theorem q_cmp_ne {l a : Nat} {of x z : Int} {r : Nat × Nat × Nat} (h1 : ¬ x = z → K a L S (G mi)) (h2 : x = z → wpI y d 172 K Q its (pc + l) L S (G mi)) : wpI y d 172 K Q ((.if_icmp .ne of, l, a, r) :: its) pc L (vI z :: vI x :: S) (G mi) := ⟨h1, fun q0 => h2 ((fun q => Classical.not_not.mp q) q0)⟩
theorem q_if_ne {l a : Nat} {of x : Int} {r : Nat × Nat × Nat} (h1 : ¬ x = 0 → K a L S (G mi)) (h2 : x = 0 → wpI y d 172 K Q its (pc + l) L S (G mi)) : wpI y d 172 K Q ((.ifCond .ne of, l, a, r) :: its) pc L (vI x :: S) (G mi) := ⟨h1, fun q0 => h2 ((fun q => Classical.not_not.mp q) q0)⟩
theorem q_ifl_ne {l a : Nat} {of x z : Int} {r : Nat × Nat × Nat} (h1 : ¬ x = z → K a L S (G mi)) (h2 : x = z → wpI y d 172 K Q its (pc + l) L S (G mi)) : wpI y d 172 K Q ((.ifCond .ne of, l, a, r) :: its) pc L (vI (lCmp x z) :: S) (G mi) := by
  refine q_if_ne (fun q => h1 ?_) (fun q => h2 ?_) <;> (unfold lCmp at q; (repeat' split at q) <;> omega)
theorem q_cmp_lt {l a : Nat} {of x z : Int} {r : Nat × Nat × Nat} (h1 : x < z → K a L S (G mi)) (h2 : z ≤ x → wpI y d 172 K Q its (pc + l) L S (G mi)) : wpI y d 172 K Q ((.if_icmp .lt of, l, a, r) :: its) pc L (vI z :: vI x :: S) (G mi) := ⟨h1, fun q0 => h2 ((fun q => Int.not_lt.mp q) q0)⟩
theorem q_if_lt {l a : Nat} {of x : Int} {r : Nat × Nat × Nat} (h1 : x < 0 → K a L S (G mi)) (h2 : 0 ≤ x → wpI y d 172 K Q its (pc + l) L S (G mi)) : wpI y d 172 K Q ((.ifCond .lt of, l, a, r) :: its) pc L (vI x :: S) (G mi) := ⟨h1, fun q0 => h2 ((fun q => Int.not_lt.mp q) q0)⟩
theorem q_ifl_lt {l a : Nat} {of x z : Int} {r : Nat × Nat × Nat} (h1 : x < z → K a L S (G mi)) (h2 : z ≤ x → wpI y d 172 K Q its (pc + l) L S (G mi)) : wpI y d 172 K Q ((.ifCond .lt of, l, a, r) :: its) pc L (vI (lCmp x z) :: S) (G mi) := by
  refine q_if_lt (fun q => h1 ?_) (fun q => h2 ?_) <;> (unfold lCmp at q; (repeat' split at q) <;> omega)
theorem q_cmp_ge {l a : Nat} {of x z : Int} {r : Nat × Nat × Nat} (h1 : z ≤ x → K a L S (G mi)) (h2 : x < z → wpI y d 172 K Q its (pc + l) L S (G mi)) : wpI y d 172 K Q ((.if_icmp .ge of, l, a, r) :: its) pc L (vI z :: vI x :: S) (G mi) := ⟨h1, fun q0 => h2 ((fun q => Int.not_le.mp q) q0)⟩
theorem q_if_ge {l a : Nat} {of x : Int} {r : Nat × Nat × Nat} (h1 : 0 ≤ x → K a L S (G mi)) (h2 : x < 0 → wpI y d 172 K Q its (pc + l) L S (G mi)) : wpI y d 172 K Q ((.ifCond .ge of, l, a, r) :: its) pc L (vI x :: S) (G mi) := ⟨h1, fun q0 => h2 ((fun q => Int.not_le.mp q) q0)⟩
theorem q_ifl_ge {l a : Nat} {of x z : Int} {r : Nat × Nat × Nat} (h1 : z ≤ x → K a L S (G mi)) (h2 : x < z → wpI y d 172 K Q its (pc + l) L S (G mi)) : wpI y d 172 K Q ((.ifCond .ge of, l, a, r) :: its) pc L (vI (lCmp x z) :: S) (G mi) := by
  refine q_if_ge (fun q => h1 ?_) (fun q => h2 ?_) <;> (unfold lCmp at q; (repeat' split at q) <;> omega)
theorem q_cmp_gt {l a : Nat} {of x z : Int} {r : Nat × Nat × Nat} (h1 : z < x → K a L S (G mi)) (h2 : x ≤ z → wpI y d 172 K Q its (pc + l) L S (G mi)) : wpI y d 172 K Q ((.if_icmp .gt of, l, a, r) :: its) pc L (vI z :: vI x :: S) (G mi) := ⟨h1, fun q0 => h2 ((fun q => Int.not_lt.mp q) q0)⟩
theorem q_if_gt {l a : Nat} {of x : Int} {r : Nat × Nat × Nat} (h1 : 0 < x → K a L S (G mi)) (h2 : x ≤ 0 → wpI y d 172 K Q its (pc + l) L S (G mi)) : wpI y d 172 K Q ((.ifCond .gt of, l, a, r) :: its) pc L (vI x :: S) (G mi) := ⟨h1, fun q0 => h2 ((fun q => Int.not_lt.mp q) q0)⟩
theorem q_ifl_gt {l a : Nat} {of x z : Int} {r : Nat × Nat × Nat} (h1 : z < x → K a L S (G mi)) (h2 : x ≤ z → wpI y d 172 K Q its (pc + l) L S (G mi)) : wpI y d 172 K Q ((.ifCond .gt of, l, a, r) :: its) pc L (vI (lCmp x z) :: S) (G mi) := by
  refine q_if_gt (fun q => h1 ?_) (fun q => h2 ?_) <;> (unfold lCmp at q; (repeat' split at q) <;> omega)
theorem q_cmp_le {l a : Nat} {of x z : Int} {r : Nat × Nat × Nat} (h1 : x ≤ z → K a L S (G mi)) (h2 : z < x → wpI y d 172 K Q its (pc + l) L S (G mi)) : wpI y d 172 K Q ((.if_icmp .le of, l, a, r) :: its) pc L (vI z :: vI x :: S) (G mi) := ⟨h1, fun q0 => h2 ((fun q => Int.not_le.mp q) q0)⟩
theorem q_if_le {l a : Nat} {of x : Int} {r : Nat × Nat × Nat} (h1 : x ≤ 0 → K a L S (G mi)) (h2 : 0 < x → wpI y d 172 K Q its (pc + l) L S (G mi)) : wpI y d 172 K Q ((.ifCond .le of, l, a, r) :: its) pc L (vI x :: S) (G mi) := ⟨h1, fun q0 => h2 ((fun q => Int.not_le.mp q) q0)⟩
theorem q_ifl_le {l a : Nat} {of x z : Int} {r : Nat × Nat × Nat} (h1 : x ≤ z → K a L S (G mi)) (h2 : z < x → wpI y d 172 K Q its (pc + l) L S (G mi)) : wpI y d 172 K Q ((.ifCond .le of, l, a, r) :: its) pc L (vI (lCmp x z) :: S) (G mi) := by
  refine q_if_le (fun q => h1 ?_) (fun q => h2 ?_) <;> (unfold lCmp at q; (repeat' split at q) <;> omega)
theorem q_ifeqb {l a : Nat} {of : Int} {p : Prop} [Decidable p] {r : Nat × Nat × Nat} (h1 : ¬ p → K a L S (G mi)) (h2 : p → wpI y d 172 K Q its (pc + l) L S (G mi)) : wpI y d 172 K Q ((.ifCond .eq of, l, a, r) :: its) pc L (vI (bI p) :: S) (G mi) := ⟨fun q => h1 ((bI_eq0 p).mp q), fun q => h2 ((bI_ne0 p).mp q)⟩
theorem q_ifneb {l a : Nat} {of : Int} {p : Prop} [Decidable p] {r : Nat × Nat × Nat} (h1 : p → K a L S (G mi)) (h2 : ¬ p → wpI y d 172 K Q its (pc + l) L S (G mi)) : wpI y d 172 K Q ((.ifCond .ne of, l, a, r) :: its) pc L (vI (bI p) :: S) (G mi) := ⟨fun q => h1 ((bI_ne0 p).mp q), fun q => h2 (fun hp => q (fun e => (bI_eq0 p).mp e hp))⟩
theorem q_ifeqB {l a : Nat} {of : Int} {b : Bool} {r : Nat × Nat × Nat} (h1 : b = false → K a L S (G mi)) (h2 : b = true → wpI y d 172 K Q its (pc + l) L S (G mi)) : wpI y d 172 K Q ((.ifCond .eq of, l, a, r) :: its) pc L (vI (bI (b = true)) :: S) (G mi) := q_ifeqb (fun q => h1 (Bool.eq_false_iff.mpr q)) h2
theorem q_ifneB {l a : Nat} {of : Int} {b : Bool} {r : Nat × Nat × Nat} (h1 : b = true → K a L S (G mi)) (h2 : b = false → wpI y d 172 K Q its (pc + l) L S (G mi)) : wpI y d 172 K Q ((.ifCond .ne of, l, a, r) :: its) pc L (vI (bI (b = true)) :: S) (G mi) := q_ifneb h1 (fun q => h2 (Bool.eq_false_iff.mpr q))
theorem q_goto {l a : Nat} {of : Int} {r : Nat × Nat × Nat} (h : K a L S (G mi)) : wpI y d 172 K Q ((.goto of, l, a, r) :: its) pc L S (G mi) := h
theorem q_table {l : Nat} {df lo hi z : Int} {os : Array Int} {r : Nat × Nat × Nat × Nat} (h1 : swT z (fun o => K ((pc : Int) + o).toNat L S (G mi)) lo os.toList) (h2 : (z < lo ∨ hi < z) → K ((pc : Int) + df).toNat L S (G mi)) : wpI y d 172 K Q ((.tableswitch df lo hi os, l, r) :: its) pc L (vI z :: S) (G mi) := ⟨h1, h2⟩
theorem q_lookup {l : Nat} {df z : Int} {ps : Array (Int × Int)} {r : Nat × Nat × Nat × Nat} (h : swL z (fun o => K ((pc : Int) + o).toNat L S (G mi)) df ps.toList) : wpI y d 172 K Q ((.lookupswitch df ps, l, r) :: its) pc L (vI z :: S) (G mi) := h
theorem q_getI {i l a o e h : Nat} {z : Int} (hk : kd h = (5, a)) (hz : mi h o = z) (g : wpI y d 172 K Q its (pc + l) L (vI z :: S) (G mi)) : wpI y d 172 K Q ((.getfield i, l, a, o, 0, e) :: its) pc L (aR h :: S) (G mi) := by subst hz; exact ⟨hk, g⟩
theorem q_getZ {i l a o e h : Nat} {z : Int} (hk : kd h = (5, a)) (hz : mi h o = z) (g : wpI y d 172 K Q its (pc + l) L (vI z :: S) (G mi)) : wpI y d 172 K Q ((.getfield i, l, a, o, 3, e) :: its) pc L (aR h :: S) (G mi) := by subst hz; exact ⟨hk, g⟩
theorem q_getR {i l a o e h w : Nat} (hk : kd h = (5, a)) (hz : MR0 h o = some w) (g : wpI y d 172 K Q its (pc + l) L (aR w :: S) (G mi)) : wpI y d 172 K Q ((.getfield i, l, a, o, 4, e) :: its) pc L (aR h :: S) (G mi) := by
  refine ⟨hk, ?_⟩
  show wpI y d 172 K Q its (pc + l) L (vR (MR0 h o) :: S) (G mi)
  rw [hz]; exact g
theorem q_putI {i l a o e h : Nat} {z : Int} (hk : kd h = (5, a)) (g : wpI y d 172 K Q its (pc + l) L S (G (wt mi h o z))) : wpI y d 172 K Q ((.putfield i, l, a, o, 0, e) :: its) pc L (vI z :: aR h :: S) (G mi) := ⟨hk, Or.inl rfl, g⟩
theorem q_putZ {i l a o e h : Nat} {z : Int} (hk : kd h = (5, a)) (hz : z = 0 ∨ z = 1) (g : wpI y d 172 K Q its (pc + l) L S (G (wt mi h o z))) : wpI y d 172 K Q ((.putfield i, l, a, o, 3, e) :: its) pc L (vI z :: aR h :: S) (G mi) := ⟨hk, Or.inr hz, g⟩
theorem q_getstatic {i l a : Nat} {r : Nat × Nat × Nat} (h : wpI y d 172 K Q its (pc + l) L (aR a :: S) (G mi)) : wpI y d 172 K Q ((.getstatic i, l, a, r) :: its) pc L S (G mi) := h
theorem q_ald1000 {l : Nat} {i : Int} {r : Nat × Nat × Nat × Nat} (hb : 0 ≤ i ∧ i < mi 1000 0) (h : wpI y d 172 K Q its (pc + l) L (vI (mi 1000 (i.toNat + 1)) :: S) (G mi)) : wpI y d 172 K Q ((.iaload, l, r) :: its) pc L (vI i :: aR 1000 :: S) (G mi) := ⟨hb, h⟩
theorem q_aldS {l h : Nat} {i z : Int} {r : Nat × Nat × Nat × Nat} (hh : h = 1001 ∨ h = 1002 ∨ h = 1003) (hb : 0 ≤ i ∧ i < 4) (hz : stv h i.toNat = z) (g : wpI y d 172 K Q its (pc + l) L (vI z :: S) (G mi)) : wpI y d 172 K Q ((.iaload, l, r) :: its) pc L (vI i :: aR h :: S) (G mi) := by
  subst hz
  show lds (G mi) h i (fun z => wpI y d 172 K Q its (pc + l) L (vI z :: S) (G mi))
  rw [lds_eq]; unfold ldc ldv
  rw [if_neg (by omega), if_pos (by omega), if_neg (by omega), if_pos (by omega)]
  exact ⟨⟨hh, hb⟩, g⟩
theorem q_iald {l h n : Nat} {i z : Int} {r : Nat × Nat × Nat × Nat} (hk : kd h = (0, n)) (hh : h < 1000) (hb : 0 ≤ i ∧ i < (n : Int)) (hz : mi h i.toNat = z) (g : wpI y d 172 K Q its (pc + l) L (vI z :: S) (G mi)) : wpI y d 172 K Q ((.iaload, l, r) :: its) pc L (vI i :: aR h :: S) (G mi) := by
  subst hz
  show lds (G mi) h i (fun z => wpI y d 172 K Q its (pc + l) L (vI z :: S) (G mi))
  rw [lds_eq]; unfold ldc ldv
  rw [if_neg (by omega), if_neg (by omega), if_neg (by omega), if_neg (by omega), hk]
  exact ⟨⟨rfl, hb⟩, g⟩
theorem q_lald {l h n : Nat} {i z : Int} {r : Nat × Nat × Nat × Nat} (hk : kd h = (1, n)) (hh : h < 1000) (hb : 0 ≤ i ∧ i < (n : Int)) (hz : mi h i.toNat = z) (g : wpI y d 172 K Q its (pc + l) L (vL z :: S) (G mi)) : wpI y d 172 K Q ((.laload, l, r) :: its) pc L (vI i :: aR h :: S) (G mi) := by
  subst hz
  exact ⟨⟨by rw [hk], by rw [hk]; exact hb⟩, g⟩
theorem q_bald {l h n : Nat} {i z : Int} {r : Nat × Nat × Nat × Nat} (hk : kd h = (2, n)) (hh : h < 1000) (hb : 0 ≤ i ∧ i < (n : Int)) (hz : mi h i.toNat = z) (g : wpI y d 172 K Q its (pc + l) L (vI z :: S) (G mi)) : wpI y d 172 K Q ((.baload, l, r) :: its) pc L (vI i :: aR h :: S) (G mi) := by
  subst hz
  exact ⟨⟨Or.inl (by rw [hk]), by rw [hk]; exact hb⟩, g⟩
theorem q_zald {l h n : Nat} {i z : Int} {r : Nat × Nat × Nat × Nat} (hk : kd h = (3, n)) (hh : h < 1000) (hb : 0 ≤ i ∧ i < (n : Int)) (hz : mi h i.toNat = z) (g : wpI y d 172 K Q its (pc + l) L (vI z :: S) (G mi)) : wpI y d 172 K Q ((.baload, l, r) :: its) pc L (vI i :: aR h :: S) (G mi) := by
  subst hz
  exact ⟨⟨Or.inr (by rw [hk]), by rw [hk]; exact hb⟩, g⟩
theorem q_iast {l h n j : Nat} {i z : Int} {r : Nat × Nat × Nat × Nat} (hk : kd h = (0, n)) (hb : 0 ≤ i ∧ i < (n : Int)) (hj : i.toNat = j) (g : wpI y d 172 K Q its (pc + l) L S (G (wt mi h j z))) : wpI y d 172 K Q ((.iastore, l, r) :: its) pc L (vI z :: vI i :: aR h :: S) (G mi) := by
  subst hj
  exact ⟨⟨by rw [hk], by rw [hk]; exact hb⟩, g⟩
theorem q_last {l h n j : Nat} {i z : Int} {r : Nat × Nat × Nat × Nat} (hk : kd h = (1, n)) (hb : 0 ≤ i ∧ i < (n : Int)) (hj : i.toNat = j) (g : wpI y d 172 K Q its (pc + l) L S (G (wt mi h j z))) : wpI y d 172 K Q ((.lastore, l, r) :: its) pc L (vL z :: vI i :: aR h :: S) (G mi) := by
  subst hj
  exact ⟨⟨by rw [hk], by rw [hk]; exact hb⟩, g⟩
theorem q_bast {l h n j : Nat} {i z : Int} {r : Nat × Nat × Nat × Nat} (hk : kd h = (2, n)) (hb : 0 ≤ i ∧ i < (n : Int)) (hz : -128 ≤ z ∧ z < 128) (hj : i.toNat = j) (g : wpI y d 172 K Q its (pc + l) L S (G (wt mi h j z))) : wpI y d 172 K Q ((.bastore, l, r) :: its) pc L (vI z :: vI i :: aR h :: S) (G mi) := by
  subst hj
  exact ⟨⟨Or.inl ⟨by rw [hk], hz⟩, by rw [hk]; exact hb⟩, g⟩
theorem q_zast {l h n j : Nat} {i z : Int} {r : Nat × Nat × Nat × Nat} (hk : kd h = (3, n)) (hb : 0 ≤ i ∧ i < (n : Int)) (hz : z = 0 ∨ z = 1) (hj : i.toNat = j) (g : wpI y d 172 K Q its (pc + l) L S (G (wt mi h j z))) : wpI y d 172 K Q ((.bastore, l, r) :: its) pc L (vI z :: vI i :: aR h :: S) (G mi) := by
  subst hj
  exact ⟨⟨Or.inr ⟨by rw [hk], hz⟩, by rw [hk]; exact hb⟩, g⟩
theorem q_aald {l h n j w : Nat} {i : Int} {r : Nat × Nat × Nat × Nat} (hk : kd h = (4, n)) (hb : 0 ≤ i ∧ i < (n : Int)) (hj : i.toNat = j) (hz : MR0 h j = some w) (g : wpI y d 172 K Q its (pc + l) L (aR w :: S) (G mi)) : wpI y d 172 K Q ((.aaload, l, r) :: its) pc L (vI i :: aR h :: S) (G mi) := by
  subst hj
  refine ⟨⟨by rw [hk], by rw [hk]; exact hb⟩, ?_⟩
  show wpI y d 172 K Q its (pc + l) L (vR (MR0 h i.toNat) :: S) (G mi)
  rw [hz]; exact g
theorem q_aald2 {l : Nat} {i : Int} {r : Nat × Nat × Nat × Nat} (hb : 0 ≤ i ∧ i < 2) (h0 : i = 0 → wpI y d 172 K Q its (pc + l) L (aR 31 :: S) (G mi)) (h1 : i = 1 → wpI y d 172 K Q its (pc + l) L (aR 60 :: S) (G mi)) : wpI y d 172 K Q ((.aaload, l, r) :: its) pc L (vI i :: aR 30 :: S) (G mi) := by
  rcases (show i = 0 ∨ i = 1 by omega) with e | e
  · have hn := h0 e; subst e
    exact q_aald (h := 30) (n := 2) (by decide +kernel) hb (j := 0) rfl (by decide +kernel) hn
  · have hn := h1 e; subst e
    exact q_aald (h := 30) (n := 2) (by decide +kernel) hb (j := 1) rfl (by decide +kernel) hn
theorem q_alen {l h t n : Nat} {z : Int} {r : Nat × Nat × Nat × Nat} (hk : kd h = (t, n)) (ht : t < 5) (hh : h < 1000) (hz : (n : Int) = z) (g : wpI y d 172 K Q its (pc + l) L (vI z :: S) (G mi)) : wpI y d 172 K Q ((.arraylength, l, r) :: its) pc L (aR h :: S) (G mi) := by
  subst hz
  show (if h = 1000 then _ else _)
  rw [if_neg (by omega), hk]
  exact ⟨ht, g⟩
theorem q_alen1000 {l : Nat} {r : Nat × Nat × Nat × Nat} (g : wpI y d 172 K Q its (pc + l) L (vI (mi 1000 0) :: S) (G mi)) : wpI y d 172 K Q ((.arraylength, l, r) :: its) pc L (aR 1000 :: S) (G mi) := g
theorem q_iret {l : Nat} {z : Int} {r : Nat × Nat × Nat} (h : Q (some (vI z)) (G mi)) : wpI y d 172 K Q ((.ireturn, l, 0, r) :: its) pc L [vI z] (G mi) := ⟨⟨fun e => absurd e (by decide), rfl, rfl⟩, h⟩
theorem q_iretZ {l : Nat} {z : Int} {r : Nat × Nat × Nat} (hz : z = 0 ∨ z = 1) (h : Q (some (vI z)) (G mi)) : wpI y d 172 K Q ((.ireturn, l, 1, r) :: its) pc L [vI z] (G mi) := ⟨⟨fun _ => hz, rfl, rfl⟩, h⟩
theorem q_lret {l : Nat} {z : Int} {r : Nat × Nat × Nat × Nat} (h : Q (some (vL z)) (G mi)) : wpI y d 172 K Q ((.lreturn, l, r) :: its) pc L [vL z] (G mi) := ⟨⟨rfl, rfl⟩, h⟩
theorem q_retV {l : Nat} {r : Nat × Nat × Nat × Nat} (h : Q none (G mi)) : wpI y d 172 K Q ((.return_, l, r) :: its) pc L [] (G mi) := ⟨rfl, h⟩
theorem q_min {i l o c e : Nat} {x z : Int} (hc : ctS S ≤ 8) (hd : 0 < d) (h : wpI y d 172 K Q its (pc + l) L (vI (min x z) :: S) (G mi)) : wpI y d 172 K Q ((.invokestatic i, l, 5, o, c, e) :: its) pc L (vI z :: vI x :: S) (G mi) := by
  refine And.intro hc (And.intro hd ?_)
  show wpI y d 172 K Q its (pc + l) L (vI (if z < x then z else x) :: S) (G mi)
  rw [show (if z < x then z else x) = min x z by omega]; exact h
theorem q_abs {i l o c e : Nat} {x : Int} (hc : ctS S ≤ 8) (hd : 0 < d) (hx : -2147483648 < x) (h : wpI y d 172 K Q its (pc + l) L (vI (ab x) :: S) (G mi)) : wpI y d 172 K Q ((.invokestatic i, l, 6, o, c, e) :: its) pc L (vI x :: S) (G mi) := by
  refine And.intro hc (And.intro hd ?_)
  show wpI y d 172 K Q its (pc + l) L (vI (if 0 ≤ x then x else wr (-x)) :: S) (G mi)
  have e : (if 0 ≤ x then x else wr (-x)) = ab x := by
    unfold ab wr
    split <;> split <;> omega
  rw [e]; exact h
theorem q_copy {i l o c e h0 h1 n0 n1 i0 i1 i2 : Nat} {sp dp n : Int} (k0 : kd h0 = (0, n0)) (k1 : kd h1 = (0, n1)) (g0 : h0 < 1000) (g1 : h1 < 1000) (hb : (0 ≤ sp ∧ 0 ≤ dp ∧ 0 ≤ n) ∧ sp + n ≤ (n0 : Int) ∧ dp + n ≤ (n1 : Int)) (hc : ctS S ≤ 8) (hd : 0 < d) (e0 : sp.toNat = i0) (e1 : dp.toNat = i1) (e2 : n.toNat = i2) (h : wpI y d 172 K Q its (pc + l) L S (G (cpm mi h0 h1 i0 i1 i2))) : wpI y d 172 K Q ((.invokestatic i, l, 7, o, c, e) :: its) pc L (vI n :: vI dp :: aR h1 :: vI sp :: aR h0 :: S) (G mi) := by
  subst e0; subst e1; subst e2
  exact ⟨⟨⟨by rw [k0], by rw [k1]⟩, hb.1, ⟨by rw [k0]; exact hb.2.1, by rw [k1]; exact hb.2.2⟩, hc, hd⟩, h⟩
theorem WPc_mono' {y d b : Nat} {as : List AV} {M : Mem} {Q Q' : Option AV → Mem → Prop} (h : WPc y d b as M Q) (hq : ∀ r M, Q r M → Q' r M) : WPc y d b as M Q' := h.mono hq
section CALLS
variable {i l a o c e h0 : Nat} {as t : List AV} {mi' : MT}
theorem q_inIV {v : Int} (ht : ∀ f : List AV → List AV → Prop, tk (c + 1) [] S f = f as t) (hk : rc (fun h => kd h = (5, e)) as) (hc : ctS t ≤ 8) (hd : 0 < d) (hw : ∀ Q' : Option AV → Mem → Prop, Q' (some (vI v)) (G mi') → WPc o (d - 1) 172 as (G mi) Q') (h : wpI y d 172 K Q its (pc + l) L (vI v :: t) (G mi')) : wpI y d 172 K Q ((.invokevirtual i, l, a, o, c, e) :: its) pc L S (G mi) := by
  show tk (c + 1) [] S _
  rw [ht]
  exact ⟨hk, hc, hd, hw _ h⟩
theorem q_inLV {v : Int} (ht : ∀ f : List AV → List AV → Prop, tk (c + 1) [] S f = f as t) (hk : rc (fun h => kd h = (5, e)) as) (hc : ctS t ≤ 8) (hd : 0 < d) (hw : ∀ Q' : Option AV → Mem → Prop, Q' (some (vL v)) (G mi') → WPc o (d - 1) 172 as (G mi) Q') (h : wpI y d 172 K Q its (pc + l) L (vL v :: t) (G mi')) : wpI y d 172 K Q ((.invokevirtual i, l, a, o, c, e) :: its) pc L S (G mi) := by
  show tk (c + 1) [] S _
  rw [ht]
  exact ⟨hk, hc, hd, hw _ h⟩
theorem q_in0V (ht : ∀ f : List AV → List AV → Prop, tk (c + 1) [] S f = f as t) (hk : rc (fun h => kd h = (5, e)) as) (hc : ctS t ≤ 8) (hd : 0 < d) (hw : ∀ Q' : Option AV → Mem → Prop, Q' none (G mi') → WPc o (d - 1) 172 as (G mi) Q') (h : wpI y d 172 K Q its (pc + l) L t (G mi')) : wpI y d 172 K Q ((.invokevirtual i, l, a, o, c, e) :: its) pc L S (G mi) := by
  show tk (c + 1) [] S _
  rw [ht]
  exact ⟨hk, hc, hd, hw _ h⟩
theorem q_cIV {P : Int → MT → Prop} (ht : ∀ f : List AV → List AV → Prop, tk (c + 1) [] S f = f as t) (hk : rc (fun h => kd h = (5, e)) as) (hc : ctS t ≤ 8) (hd : 0 < d) (hw : WPc o (d - 1) 172 as (G mi) (RI P)) (h : ∀ z mi', P z mi' → wpI y d 172 K Q its (pc + l) L (vI z :: t) (G mi')) : wpI y d 172 K Q ((.invokevirtual i, l, a, o, c, e) :: its) pc L S (G mi) := by
  show tk (c + 1) [] S _
  rw [ht]
  refine ⟨hk, hc, hd, WPc_mono' hw ?_⟩
  rintro r M ⟨z, mi', rfl, rfl, hP⟩
  exact h z mi' hP
theorem q_cLV {P : Int → MT → Prop} (ht : ∀ f : List AV → List AV → Prop, tk (c + 1) [] S f = f as t) (hk : rc (fun h => kd h = (5, e)) as) (hc : ctS t ≤ 8) (hd : 0 < d) (hw : WPc o (d - 1) 172 as (G mi) (RL P)) (h : ∀ z mi', P z mi' → wpI y d 172 K Q its (pc + l) L (vL z :: t) (G mi')) : wpI y d 172 K Q ((.invokevirtual i, l, a, o, c, e) :: its) pc L S (G mi) := by
  show tk (c + 1) [] S _
  rw [ht]
  refine ⟨hk, hc, hd, WPc_mono' hw ?_⟩
  rintro r M ⟨z, mi', rfl, rfl, hP⟩
  exact h z mi' hP
theorem q_cBV {P : Bool → MT → Prop} (ht : ∀ f : List AV → List AV → Prop, tk (c + 1) [] S f = f as t) (hk : rc (fun h => kd h = (5, e)) as) (hc : ctS t ≤ 8) (hd : 0 < d) (hw : WPc o (d - 1) 172 as (G mi) (RB P)) (h : ∀ (b : Bool) mi', P b mi' → wpI y d 172 K Q its (pc + l) L (vI (bI (b = true)) :: t) (G mi')) : wpI y d 172 K Q ((.invokevirtual i, l, a, o, c, e) :: its) pc L S (G mi) := by
  show tk (c + 1) [] S _
  rw [ht]
  refine ⟨hk, hc, hd, WPc_mono' hw ?_⟩
  rintro r M ⟨z, mi', rfl, rfl, hP⟩
  exact h z mi' hP
theorem q_cVV {P : MT → Prop} (ht : ∀ f : List AV → List AV → Prop, tk (c + 1) [] S f = f as t) (hk : rc (fun h => kd h = (5, e)) as) (hc : ctS t ≤ 8) (hd : 0 < d) (hw : WPc o (d - 1) 172 as (G mi) (RV P)) (h : ∀ mi', P mi' → wpI y d 172 K Q its (pc + l) L t (G mi')) : wpI y d 172 K Q ((.invokevirtual i, l, a, o, c, e) :: its) pc L S (G mi) := by
  show tk (c + 1) [] S _
  rw [ht]
  refine ⟨hk, hc, hd, WPc_mono' hw ?_⟩
  rintro r M ⟨mi', rfl, rfl, hP⟩
  exact h mi' hP
theorem isS {a : Nat} {x1 x2 x3 x4 : Prop} (ha : a = 1 ∨ a = 4) (h : x4) : (if a = 5 then x1 else if a = 6 then x2 else if a = 7 then x3 else x4) := by
  rw [if_neg (by omega), if_neg (by omega), if_neg (by omega)]; exact h
theorem q_inIS {v : Int} (ht : ∀ f : List AV → List AV → Prop, tk c [] S f = f as t) (hc : ctS t ≤ 8) (hd : 0 < d) (hw : ∀ Q' : Option AV → Mem → Prop, Q' (some (vI v)) (G mi') → WPc o (d - 1) 172 as (G mi) Q') (h : wpI y d 172 K Q its (pc + l) L (vI v :: t) (G mi')) (ha : a = 1 ∨ a = 4 := by decide) : wpI y d 172 K Q ((.invokestatic i, l, a, o, c, e) :: its) pc L S (G mi) := by
  refine isS ha ?_
  rw [ht]
  exact ⟨hc, hd, hw _ h⟩
theorem q_inLS {v : Int} (ht : ∀ f : List AV → List AV → Prop, tk c [] S f = f as t) (hc : ctS t ≤ 8) (hd : 0 < d) (hw : ∀ Q' : Option AV → Mem → Prop, Q' (some (vL v)) (G mi') → WPc o (d - 1) 172 as (G mi) Q') (h : wpI y d 172 K Q its (pc + l) L (vL v :: t) (G mi')) (ha : a = 1 ∨ a = 4 := by decide) : wpI y d 172 K Q ((.invokestatic i, l, a, o, c, e) :: its) pc L S (G mi) := by
  refine isS ha ?_
  rw [ht]
  exact ⟨hc, hd, hw _ h⟩
theorem q_in0S (ht : ∀ f : List AV → List AV → Prop, tk c [] S f = f as t) (hc : ctS t ≤ 8) (hd : 0 < d) (hw : ∀ Q' : Option AV → Mem → Prop, Q' none (G mi') → WPc o (d - 1) 172 as (G mi) Q') (h : wpI y d 172 K Q its (pc + l) L t (G mi')) (ha : a = 1 ∨ a = 4 := by decide) : wpI y d 172 K Q ((.invokestatic i, l, a, o, c, e) :: its) pc L S (G mi) := by
  refine isS ha ?_
  rw [ht]
  exact ⟨hc, hd, hw _ h⟩
theorem q_cIS {P : Int → MT → Prop} (ht : ∀ f : List AV → List AV → Prop, tk c [] S f = f as t) (hc : ctS t ≤ 8) (hd : 0 < d) (hw : WPc o (d - 1) 172 as (G mi) (RI P)) (h : ∀ z mi', P z mi' → wpI y d 172 K Q its (pc + l) L (vI z :: t) (G mi')) (ha : a = 1 ∨ a = 4 := by decide) : wpI y d 172 K Q ((.invokestatic i, l, a, o, c, e) :: its) pc L S (G mi) := by
  refine isS ha ?_
  rw [ht]
  refine ⟨hc, hd, WPc_mono' hw ?_⟩
  rintro r M ⟨z, mi', rfl, rfl, hP⟩
  exact h z mi' hP
theorem q_cLS {P : Int → MT → Prop} (ht : ∀ f : List AV → List AV → Prop, tk c [] S f = f as t) (hc : ctS t ≤ 8) (hd : 0 < d) (hw : WPc o (d - 1) 172 as (G mi) (RL P)) (h : ∀ z mi', P z mi' → wpI y d 172 K Q its (pc + l) L (vL z :: t) (G mi')) (ha : a = 1 ∨ a = 4 := by decide) : wpI y d 172 K Q ((.invokestatic i, l, a, o, c, e) :: its) pc L S (G mi) := by
  refine isS ha ?_
  rw [ht]
  refine ⟨hc, hd, WPc_mono' hw ?_⟩
  rintro r M ⟨z, mi', rfl, rfl, hP⟩
  exact h z mi' hP
theorem q_cBS {P : Bool → MT → Prop} (ht : ∀ f : List AV → List AV → Prop, tk c [] S f = f as t) (hc : ctS t ≤ 8) (hd : 0 < d) (hw : WPc o (d - 1) 172 as (G mi) (RB P)) (h : ∀ (b : Bool) mi', P b mi' → wpI y d 172 K Q its (pc + l) L (vI (bI (b = true)) :: t) (G mi')) (ha : a = 1 ∨ a = 4 := by decide) : wpI y d 172 K Q ((.invokestatic i, l, a, o, c, e) :: its) pc L S (G mi) := by
  refine isS ha ?_
  rw [ht]
  refine ⟨hc, hd, WPc_mono' hw ?_⟩
  rintro r M ⟨z, mi', rfl, rfl, hP⟩
  exact h z mi' hP
theorem q_cVS {P : MT → Prop} (ht : ∀ f : List AV → List AV → Prop, tk c [] S f = f as t) (hc : ctS t ≤ 8) (hd : 0 < d) (hw : WPc o (d - 1) 172 as (G mi) (RV P)) (h : ∀ mi', P mi' → wpI y d 172 K Q its (pc + l) L t (G mi')) (ha : a = 1 ∨ a = 4 := by decide) : wpI y d 172 K Q ((.invokestatic i, l, a, o, c, e) :: its) pc L S (G mi) := by
  refine isS ha ?_
  rw [ht]
  refine ⟨hc, hd, WPc_mono' hw ?_⟩
  rintro r M ⟨mi', rfl, rfl, hP⟩
  exact h mi' hP
end CALLS
end QS

theorem pu_B {y d : Nat} {as : List AV} {mi mi' : MT} {p : Prop} [Decidable p] (h : ∀ P : Bool → MT → Prop, P (decide p) mi' → Jd (WPc y d 172 as (G mi) (RB P))) (Q' : Option AV → Mem → Prop) (hq : Q' (some (vI (bI p))) (G mi')) : WPc y d 172 as (G mi) Q' := by
  refine WPc_mono' (h (fun b m => Q' (some (vI (bI (b = true)))) (G m)) ?_).get ?_
  · have e : bI (decide p = true) = bI p := by unfold bI; simp
    show Q' (some (vI (bI (decide p = true)))) (G mi')
    rw [e]; exact hq
  · rintro r M ⟨b, m, rfl, rfl, hP⟩
    exact hP
theorem pu_I {y d : Nat} {as : List AV} {mi mi' : MT} {z : Int} (h : ∀ P : Int → MT → Prop, P z mi' → Jd (WPc y d 172 as (G mi) (RI P))) (Q' : Option AV → Mem → Prop) (hq : Q' (some (vI z)) (G mi')) : WPc y d 172 as (G mi) Q' := by
  refine WPc_mono' (h (fun z m => Q' (some (vI z)) (G m)) hq).get ?_
  rintro r M ⟨b, m, rfl, rfl, hP⟩
  exact hP
theorem pu_V {y d : Nat} {as : List AV} {mi mi' : MT} (h : ∀ P : MT → Prop, P mi' → Jd (WPc y d 172 as (G mi) (RV P))) (Q' : Option AV → Mem → Prop) (hq : Q' none (G mi')) : WPc y d 172 as (G mi) Q' := by
  refine WPc_mono' (h (fun m => Q' none (G m)) hq).get ?_
  rintro r M ⟨m, rfl, rfl, hP⟩
  exact hP
theorem dT {p : Prop} [Decidable p] {P : Bool → MT → Prop} {mi : MT} (h : P (decide p) mi) (hp : p) : P true mi := by rwa [decide_eq_true hp] at h
theorem dF {p : Prop} [Decidable p] {P : Bool → MT → Prop} {mi : MT} (h : P (decide p) mi) (hp : ¬ p) : P false mi := by rwa [decide_eq_false hp] at h
