/-! bits -/
theorem i3_bvn (a : Nat) : (i3 (a : Int)).toBitVec = BitVec.ofNat 32 a := by
  show BitVec.ofInt 32 (a : Int) = _
  exact BitVec.ofInt_natCast ..
theorem bv_split (x y z : BitVec 32) (hz : z &&& y = z) : (x &&& ~~~y) ||| z = x - (x &&& y) + z := by
  have h1 : (x &&& ~~~y) + z = (x &&& ~~~y) ||| z := BitVec.add_eq_or_of_and_eq_zero _ _ (by
    rw [← hz]
    ext i hi
    simp only [BitVec.getElem_and, BitVec.getElem_not, BitVec.getElem_zero]
    cases x[i] <;> cases y[i] <;> cases z[i] <;> rfl)
  have h2 : (x &&& ~~~y) + (x &&& y) = x := by
    rw [BitVec.add_eq_or_of_and_eq_zero _ _ (by
      ext i hi
      simp only [BitVec.getElem_and, BitVec.getElem_not, BitVec.getElem_zero]
      cases x[i] <;> cases y[i] <;> rfl)]
    ext i hi
    simp only [BitVec.getElem_and, BitVec.getElem_not, BitVec.getElem_or]
    cases x[i] <;> cases y[i] <;> rfl
  rw [← h1]
  congr 1
  have h3 : x - (x &&& y) = (x &&& ~~~y) + (x &&& y) - (x &&& y) := by rw [h2]
  rw [h3, BitVec.add_sub_cancel]
theorem nat_and_mask (a sh w : Nat) : a &&& ((2 ^ w - 1) * 2 ^ sh) = (a / 2 ^ sh % 2 ^ w) * 2 ^ sh := by
  apply Nat.eq_of_testBit_eq
  intro i
  rw [← Nat.shiftLeft_eq, ← Nat.shiftLeft_eq, Nat.testBit_and, Nat.testBit_shiftLeft, Nat.testBit_shiftLeft, Nat.testBit_two_pow_sub_one, Nat.testBit_mod_two_pow, Nat.testBit_div_two_pow]
  by_cases h : sh ≤ i
  · rw [show i - sh + sh = i by omega]
    simp [h, Bool.and_comm]
  · simp [h]
theorem bAnd_nat {a b : Nat} (ha : a < 2147483648) (hb : b < 2147483648) : bAnd a b = ((a &&& b : Nat) : Int) := by
  unfold bAnd
  show (i3 (a : Int) &&& i3 (b : Int)).toBitVec.toInt = _
  have hl : a &&& b ≤ a := Nat.and_le_left
  rw [Int32.toBitVec_and, i3_bvn, i3_bvn, BitVec.toInt_eq_toNat_of_lt, BitVec.toNat_and, BitVec.toNat_ofNat, BitVec.toNat_ofNat, Nat.mod_eq_of_lt (by omega), Nat.mod_eq_of_lt (by omega)]
  rw [BitVec.toNat_and, BitVec.toNat_ofNat, BitVec.toNat_ofNat, Nat.mod_eq_of_lt (by omega), Nat.mod_eq_of_lt (by omega)]
  omega
theorem bOr_nat {a b : Nat} (ha : a < 2147483648) (hb : b < 2147483648) : bOr a b = ((a ||| b : Nat) : Int) := by
  unfold bOr
  show (i3 (a : Int) ||| i3 (b : Int)).toBitVec.toInt = _
  have hl : a ||| b < 2 ^ 31 := Nat.or_lt_two_pow (by omega) (by omega)
  rw [Int32.toBitVec_or, i3_bvn, i3_bvn, BitVec.toInt_eq_toNat_of_lt, BitVec.toNat_or, BitVec.toNat_ofNat, BitVec.toNat_ofNat, Nat.mod_eq_of_lt (by omega), Nat.mod_eq_of_lt (by omega)]
  rw [BitVec.toNat_or, BitVec.toNat_ofNat, BitVec.toNat_ofNat, Nat.mod_eq_of_lt (by omega), Nat.mod_eq_of_lt (by omega)]
  omega
theorem bXor_nat {a b : Nat} (ha : a < 2147483648) (hb : b < 2147483648) : bXor a b = ((a ^^^ b : Nat) : Int) := by
  unfold bXor
  show (i3 (a : Int) ^^^ i3 (b : Int)).toBitVec.toInt = _
  have hl : a ^^^ b < 2 ^ 31 := Nat.xor_lt_two_pow (by omega) (by omega)
  rw [Int32.toBitVec_xor, i3_bvn, i3_bvn, BitVec.toInt_eq_toNat_of_lt, BitVec.toNat_xor, BitVec.toNat_ofNat, BitVec.toNat_ofNat, Nat.mod_eq_of_lt (by omega), Nat.mod_eq_of_lt (by omega)]
  rw [BitVec.toNat_xor, BitVec.toNat_ofNat, BitVec.toNat_ofNat, Nat.mod_eq_of_lt (by omega), Nat.mod_eq_of_lt (by omega)]
  omega
/-- bits laid into a number -/
theorem ins_bits {s v : Nat} (sh w : Nat) (hw : sh + w ≤ 30) (hs : s < 1073741824) (hv : v < 2 ^ w) : bOr (bAnd s (bXor (((2 ^ w - 1) * 2 ^ sh : Nat) : Int) (-1))) ((v * 2 ^ sh : Nat) : Int) = (s : Int) - ((s / 2 ^ sh % 2 ^ w * 2 ^ sh : Nat) : Int) + ((v * 2 ^ sh : Nat) : Int) := by
  unfold bOr bAnd bXor
  have p0 : 0 < 2 ^ w := Nat.two_pow_pos w
  have p1 : 0 < 2 ^ sh := Nat.two_pow_pos sh
  have p2 : 2 ^ w * 2 ^ sh ≤ 2 ^ 30 := by rw [← Nat.pow_add]; exact Nat.pow_le_pow_right (by decide) (by omega)
  have p3 : v * 2 ^ sh < 2 ^ 30 := Nat.lt_of_lt_of_le (Nat.mul_lt_mul_of_pos_right hv p1) p2
  have p4 : (2 ^ w - 1) * 2 ^ sh < 2 ^ 30 := Nat.lt_of_lt_of_le (Nat.mul_lt_mul_of_pos_right (by omega) p1) p2
  have p5 : s / 2 ^ sh % 2 ^ w * 2 ^ sh ≤ s := by
    have h1 : s / 2 ^ sh % 2 ^ w ≤ s / 2 ^ sh := Nat.mod_le _ _
    exact Nat.le_trans (Nat.mul_le_mul_right _ h1) (Nat.div_mul_le_self s _)
  rw [← i3_of, ← i3_of]
  show (i3 (s : Int) &&& (i3 (((2 ^ w - 1) * 2 ^ sh : Nat) : Int) ^^^ i3 (-1)) ||| i3 ((v * 2 ^ sh : Nat) : Int)).toBitVec.toInt = _
  rw [Int32.toBitVec_or, Int32.toBitVec_and, Int32.toBitVec_xor, i3_bvn, i3_bvn, i3_bvn]
  have e1 : BitVec.ofNat 32 ((2 ^ w - 1) * 2 ^ sh) ^^^ (i3 (-1)).toBitVec = ~~~ (BitVec.ofNat 32 ((2 ^ w - 1) * 2 ^ sh)) := by
    rw [show (i3 (-1)).toBitVec = BitVec.allOnes 32 by decide, BitVec.xor_allOnes]
  rw [e1, bv_split]
  · rw [BitVec.toInt_eq_toNat_of_lt]
    · rw [BitVec.toNat_add, BitVec.toNat_sub, BitVec.toNat_and, BitVec.toNat_ofNat, BitVec.toNat_ofNat, BitVec.toNat_ofNat, Nat.mod_eq_of_lt (a := s) (by omega), Nat.mod_eq_of_lt (a := (2 ^ w - 1) * 2 ^ sh) (by omega), Nat.mod_eq_of_lt (a := v * 2 ^ sh) (by omega), nat_and_mask]
      omega
    · rw [BitVec.toNat_add, BitVec.toNat_sub, BitVec.toNat_and, BitVec.toNat_ofNat, BitVec.toNat_ofNat, BitVec.toNat_ofNat, Nat.mod_eq_of_lt (a := s) (by omega), Nat.mod_eq_of_lt (a := (2 ^ w - 1) * 2 ^ sh) (by omega), Nat.mod_eq_of_lt (a := v * 2 ^ sh) (by omega), nat_and_mask]
      omega
  · apply BitVec.eq_of_toNat_eq
    rw [BitVec.toNat_and, BitVec.toNat_ofNat, BitVec.toNat_ofNat, Nat.mod_eq_of_lt (a := (2 ^ w - 1) * 2 ^ sh) (by omega), Nat.mod_eq_of_lt (a := v * 2 ^ sh) (by omega), nat_and_mask, Nat.mul_div_cancel _ p1, Nat.mod_eq_of_lt hv]
/-- a mark of a state, a state with a mark laid anew -/
def mkv (s m : Int) : Int := if m = 0 then s % 256 else if m = 1 then s / 256 % 32 else if m = 2 then s / 8192 % 8 else s / 65536 % 16
def shf (m : Int) : Int := if m = 0 then 1 else if m = 1 then 256 else if m = 2 then 8192 else 65536
def wmk (s m v : Int) : Int := s - mkv s m * shf m + v * shf m
theorem mk_eq {s m : Int} (hm : 0 ≤ m ∧ m < 4) (hs : 0 ≤ s ∧ s < 1048576) : bAnd (iShr s (stv 1002 m.toNat)) (stv 1001 m.toNat) = mkv s m := by
  have : m = 0 ∨ m = 1 ∨ m = 2 ∨ m = 3 := by omega
  rcases this with rfl | rfl | rfl | rfl
  · have e1 : stv 1002 (0 : Int).toNat = ((0 : Nat) : Int) := by decide
    have e2 : stv 1001 (0 : Int).toNat = 2 ^ 8 - 1 := by decide
    have e3 : mkv s 0 = s % 256 := rfl
    rw [e1, e2, e3, iShr_div 0 (by decide) (by omega), bAnd_mask _ 8 (by decide)]; omega
  · have e1 : stv 1002 (1 : Int).toNat = ((8 : Nat) : Int) := by decide
    have e2 : stv 1001 (1 : Int).toNat = 2 ^ 5 - 1 := by decide
    have e3 : mkv s 1 = s / 256 % 32 := rfl
    rw [e1, e2, e3, iShr_div 8 (by decide) (by omega), bAnd_mask _ 5 (by decide)]; omega
  · have e1 : stv 1002 (2 : Int).toNat = ((13 : Nat) : Int) := by decide
    have e2 : stv 1001 (2 : Int).toNat = 2 ^ 3 - 1 := by decide
    have e3 : mkv s 2 = s / 8192 % 8 := rfl
    rw [e1, e2, e3, iShr_div 13 (by decide) (by omega), bAnd_mask _ 3 (by decide)]; omega
  · have e1 : stv 1002 (3 : Int).toNat = ((16 : Nat) : Int) := by decide
    have e2 : stv 1001 (3 : Int).toNat = 2 ^ 4 - 1 := by decide
    have e3 : mkv s 3 = s / 65536 % 16 := rfl
    rw [e1, e2, e3, iShr_div 16 (by decide) (by omega), bAnd_mask _ 4 (by decide)]; omega
theorem wm_one {s v : Int} (sh w : Nat) (hw : sh + w ≤ 30) (hs : 0 ≤ s ∧ s < 1048576) (hv : 0 ≤ v ∧ v < 2 ^ w) : bOr (bAnd s (bXor (iShl (2 ^ w - 1) sh) (-1))) (iShl v sh) = s - s / 2 ^ sh % 2 ^ w * 2 ^ sh + v * 2 ^ sh := by
  obtain ⟨s', rfl⟩ : ∃ s' : Nat, s = s' := ⟨s.toNat, by omega⟩
  obtain ⟨v', rfl⟩ : ∃ v' : Nat, v = v' := ⟨v.toNat, by omega⟩
  have hv2 : v' < 2 ^ w := by exact_mod_cast hv.2
  have p0 : 0 < 2 ^ w := Nat.two_pow_pos w
  have p1 : 0 < 2 ^ sh := Nat.two_pow_pos sh
  have p2 : 2 ^ w * 2 ^ sh ≤ 2 ^ 30 := by rw [← Nat.pow_add]; exact Nat.pow_le_pow_right (by decide) (by omega)
  have p3 : v' * 2 ^ sh < 2 ^ 30 := Nat.lt_of_lt_of_le (Nat.mul_lt_mul_of_pos_right hv2 p1) p2
  have p4 : (2 ^ w - 1) * 2 ^ sh < 2 ^ 30 := Nat.lt_of_lt_of_le (Nat.mul_lt_mul_of_pos_right (by omega) p1) p2
  have c1 : ((2 : Int) ^ w - 1) * 2 ^ sh = (((2 ^ w - 1) * 2 ^ sh : Nat) : Int) := by rw [Int.natCast_mul, Int.natCast_sub p0]; push_cast; rfl
  have c2 : (v' : Int) * 2 ^ sh = ((v' * 2 ^ sh : Nat) : Int) := by push_cast; rfl
  rw [iShl_mul sh (by omega) (by rw [c1]; omega), iShl_mul sh (by omega) (by rw [c2]; omega), c1, c2, ins_bits sh w hw (by omega) hv2]
  push_cast
  rfl
theorem wm_eq {s m v : Int} (hm : 0 ≤ m ∧ m < 4) (hs : 0 ≤ s ∧ s < 1048576) (hv : 0 ≤ v ∧ v < mxv m) : bOr (bAnd s (bXor (iShl (stv 1001 m.toNat) (stv 1002 m.toNat)) (-1))) (iShl v (stv 1002 m.toNat)) = wmk s m v := by
  have : m = 0 ∨ m = 1 ∨ m = 2 ∨ m = 3 := by omega
  rcases this with rfl | rfl | rfl | rfl
  · have hv : 0 ≤ v ∧ v < 243 := hv
    have e1 : stv 1002 (0 : Int).toNat = ((0 : Nat) : Int) := by decide
    have e2 : stv 1001 (0 : Int).toNat = 2 ^ 8 - 1 := by decide
    have e3 : wmk s 0 v = s - s % 256 * 1 + v * 1 := rfl
    rw [e1, e2, e3, wm_one 0 8 (by decide) hs (by omega)]; omega
  · have hv : 0 ≤ v ∧ v < 20 := hv
    have e1 : stv 1002 (1 : Int).toNat = ((8 : Nat) : Int) := by decide
    have e2 : stv 1001 (1 : Int).toNat = 2 ^ 5 - 1 := by decide
    have e3 : wmk s 1 v = s - s / 256 % 32 * 256 + v * 256 := rfl
    rw [e1, e2, e3, wm_one 8 5 (by decide) hs (by omega)]; omega
  · have hv : 0 ≤ v ∧ v < 8 := hv
    have e1 : stv 1002 (2 : Int).toNat = ((13 : Nat) : Int) := by decide
    have e2 : stv 1001 (2 : Int).toNat = 2 ^ 3 - 1 := by decide
    have e3 : wmk s 2 v = s - s / 8192 % 8 * 8192 + v * 8192 := rfl
    rw [e1, e2, e3, wm_one 13 3 (by decide) hs (by omega)]; omega
  · have hv : 0 ≤ v ∧ v < 10 := hv
    have e1 : stv 1002 (3 : Int).toNat = ((16 : Nat) : Int) := by decide
    have e2 : stv 1001 (3 : Int).toNat = 2 ^ 4 - 1 := by decide
    have e3 : wmk s 3 v = s - s / 65536 % 16 * 65536 + v * 65536 := rfl
    rw [e1, e2, e3, wm_one 16 4 (by decide) hs (by omega)]; omega
theorem p_B_markOf {d : Nat} {mi : MT} {s m : Int} (hm : (0 ≤ m ∧ m < 4) ∧ 0 ≤ s ∧ s < 1048576) : ∀ Q', Q' (some (vI (mkv s m))) (G mi) → WPc 3 d 172 [vI s, vI m] (G mi) Q' := pu_I fun _ h => v_B_markOf ⟨hm.1, by rw [mk_eq hm.1 hm.2]; exact h⟩
theorem p_B_withMark {d : Nat} {mi : MT} {s m v : Int} (hm : ((0 ≤ m ∧ m < 4) ∧ 0 ≤ s ∧ s < 1048576) ∧ 0 ≤ v ∧ v < mxv m) : ∀ Q', Q' (some (vI (wmk s m v))) (G mi) → WPc 4 d 172 [vI s, vI m, vI v] (G mi) Q' := pu_I fun _ h => v_B_withMark ⟨hm.1.1, by rw [wm_eq hm.1.1 hm.1.2 hm.2]; exact h⟩
theorem s_B_agrees {d : Nat} {mi : MT} {P : Bool → MT → Prop} {s m v : Int} (hd : 0 < d) (hm : (0 ≤ m ∧ m < 4) ∧ 0 ≤ s ∧ s < 1048576) (h : P (decide (v = -1 ∨ mkv s m = v)) mi) : c_B_agrees d s m v mi P := by
  refine v_B_agrees ?_
  rw [mk_eq hm.1 hm.2]
  repeat' (first | (refine And.intro (by omega) ?_) | apply And.intro | intro _ | omega)
  all_goals first | exact dF h (by omega) | exact dT h (by omega)
theorem p_B_agrees {d : Nat} {mi : MT} {s m v : Int} (hd : 0 < d) (hm : (0 ≤ m ∧ m < 4) ∧ 0 ≤ s ∧ s < 1048576) : ∀ Q', Q' (some (vI (bI (v = -1 ∨ mkv s m = v)))) (G mi) → WPc 19 d 172 [vI s, vI m, vI v] (G mi) Q' := pu_B fun _ h => s_B_agrees hd hm h
/-- a number of the codes: itself, or what was heard -/
def amtv (t : Nat → Int) (v : Int) : Int := if 1000 ≤ v ∧ v < 1010 then t (v - 1000).toNat else v
theorem p_U_amount {d : Nat} {mi : MT} {v : Int} (hv : -1000000 ≤ v ∧ v ≤ 1000000) : ∀ Q', Q' (some (vI (amtv (mi 101) v))) (G mi) → WPc 100 d 172 [vI v, aR 101] (G mi) Q' := pu_I fun P h => by
  unfold amtv at h
  refine v_U_amount ⟨by omega, fun q => ?_, fun q => ⟨fun w => ⟨by omega, ?_⟩, fun w => ?_⟩⟩
  · rw [if_neg (by omega)] at h; exact h
  · rw [if_pos (by omega)] at h; exact h
  · rw [if_neg (by omega)] at h; exact h
theorem p_U_isFired {d : Nat} {mi : MT} {x f : Int} (hx : -2147483648 ≤ x ∧ x < 2147483648) : ∀ Q', Q' (some (vI (bI (iShr f (x / 16384) % 2 = 1)))) (G mi) → WPc 96 d 172 [vI x, vI f] (G mi) Q' := pu_B fun _ h => v_U_isFired ⟨hx, fun q => dF h q, fun q => dT h q⟩
theorem lAnd31 (x : Int) : lAnd x 31 = x % 32 := by
  unfold lAnd
  have h1 : (i6 x &&& i6 31).toBitVec = BitVec.ofNat 64 ((x % 32).toNat) := by
    rw [Int64.toBitVec_and]
    apply BitVec.eq_of_toNat_eq
    have hm : (i6 31).toBitVec.toNat = 2 ^ 5 - 1 := by decide
    rw [BitVec.toNat_and, hm, Nat.and_two_pow_sub_one_eq_mod]
    show (BitVec.ofInt 64 x).toNat % 2 ^ 5 = _
    rw [BitVec.toNat_ofInt, BitVec.toNat_ofNat]
    omega
  show (i6 x &&& i6 31).toBitVec.toInt = _
  rw [h1, BitVec.toInt_ofNat', Int.bmod_def]
  split <;> omega
theorem lShr5 {x : Int} (hr : -9223372036854775808 ≤ x ∧ x < 9223372036854775808) : lShr x 5 = x / 32 := by
  unfold lShr
  have hc : (((i3 5).toInt64 &&& 63).toBitVec.smod 64).toNat = 5 := by decide
  show (i6 x >>> ((i3 5).toInt64 &&& 63)).toBitVec.toInt = _
  rw [Int64.toBitVec_shiftRight, BitVec.sshiftRight_eq', BitVec.toInt_sshiftRight, hc, Int.shiftRight_eq_div_pow]
  show (i6 x).toInt / _ = _
  rw [i6_val hr]
  simp
section QL
variable {y d pc : Nat} {L : Lc} {S : List AV} {its : List It} {mi : MT} {Q : Option AV → Mem → Prop} {K : Nat → Lc → List AV → Mem → Prop}
theorem q_landm {l : Nat} {x : Int} {r : Nat × Nat × Nat × Nat} (h : wpI y d 172 K Q its (pc + l) L (vL (x % 32) :: S) (G mi)) : wpI y d 172 K Q ((.land, l, r) :: its) pc L (vL 31 :: vL x :: S) (G mi) := by
  show wpI y d 172 K Q its (pc + l) L (vL (lAnd x 31) :: S) (G mi)
  rw [lAnd31]; exact h
theorem q_lshr5 {l : Nat} {x : Int} {r : Nat × Nat × Nat × Nat} (hr : -9223372036854775808 ≤ x ∧ x < 9223372036854775808) (h : wpI y d 172 K Q its (pc + l) L (vL (x / 32) :: S) (G mi)) : wpI y d 172 K Q ((.lshr, l, r) :: its) pc L (vI 5 :: vL x :: S) (G mi) := by
  show wpI y d 172 K Q its (pc + l) L (vL (lShr x 5) :: S) (G mi)
  rw [lShr5 hr]; exact h
end QL
