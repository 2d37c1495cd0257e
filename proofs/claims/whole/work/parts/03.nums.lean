/-! numbers: ints and longs of the machine as whole numbers in their range -/
def wr (z : Int) : Int := (z + 2147483648) % 4294967296 - 2147483648
def wl (z : Int) : Int := (z + 9223372036854775808) % 18446744073709551616 - 9223372036854775808
def ir (z : Int) : Prop := -2147483648 ≤ z ∧ z < 2147483648
def il (z : Int) : Prop := -9223372036854775808 ≤ z ∧ z < 9223372036854775808
theorem ir_wr (z : Int) : ir (wr z) := by unfold ir wr; omega
theorem il_wl (z : Int) : il (wl z) := by unfold il wl; omega
theorem wr_id {z : Int} (h : -2147483648 ≤ z ∧ z < 2147483648) : wr z = z := by unfold wr; omega
theorem wl_id {z : Int} (h : -9223372036854775808 ≤ z ∧ z < 9223372036854775808) : wl z = z := by unfold wl; omega
theorem wr_bmod (z : Int) : z.bmod 4294967296 = wr z := by
  unfold wr
  rw [Int.bmod_def]
  split <;> omega
theorem wl_bmod (z : Int) : z.bmod 18446744073709551616 = wl z := by
  unfold wl
  rw [Int.bmod_def]
  split <;> omega
abbrev i3 (z : Int) : Int32 := Int32.ofInt z
abbrev i6 (z : Int) : Int64 := Int64.ofInt z
theorem i3_toInt (z : Int) : (i3 z).toInt = wr z := by
  rw [← wr_bmod]; exact Int32.toInt_ofInt
theorem i6_toInt (z : Int) : (i6 z).toInt = wl z := by
  rw [← wl_bmod]; exact Int64.toInt_ofInt
theorem i3_val {z : Int} (h : ir z) : (i3 z).toInt = z := by rw [i3_toInt, wr_id h]
theorem i6_val {z : Int} (h : il z) : (i6 z).toInt = z := by rw [i6_toInt, wl_id h]
theorem i3_wr (z : Int) : i3 (wr z) = i3 z := Int32.toInt_inj.mp (by rw [i3_val (ir_wr z), i3_toInt])
theorem i6_wl (z : Int) : i6 (wl z) = i6 z := Int64.toInt_inj.mp (by rw [i6_val (il_wl z), i6_toInt])
theorem i3_of (x : Int32) : x = i3 x.toInt := (Int32.ofInt_toInt x).symm
theorem i6_of (x : Int64) : x = i6 x.toInt := (Int64.ofInt_toInt x).symm
theorem ir_toInt (x : Int32) : ir x.toInt := by
  have := ir_wr x.toInt
  rwa [← i3_toInt, ← i3_of] at this
theorem il_toInt (x : Int64) : il x.toInt := by
  have := il_wl x.toInt
  rwa [← i6_toInt, ← i6_of] at this
theorem i3_eq {x : Int32} {z : Int} (h : x.toInt = wr z) : x = i3 (wr z) := Int32.toInt_inj.mp (by rw [h, i3_val (ir_wr z)])
theorem i6_eq {x : Int64} {z : Int} (h : x.toInt = wl z) : x = i6 (wl z) := Int64.toInt_inj.mp (by rw [h, i6_val (il_wl z)])
theorem i3_add (a b : Int) : i3 a + i3 b = i3 (wr (a + b)) := by rw [i3_wr]; exact (Int32.ofInt_add ..).symm
theorem i3_sub (a b : Int) : i3 a - i3 b = i3 (wr (a - b)) := by rw [i3_wr]; exact (Int32.ofInt_sub ..).symm
theorem i3_mul (a b : Int) : i3 a * i3 b = i3 (wr (a * b)) := by rw [i3_wr]; exact (Int32.ofInt_mul ..).symm
theorem i3_neg (a : Int) : - i3 a = i3 (wr (-a)) := by rw [i3_wr]; exact (Int32.ofInt_neg ..).symm
theorem i6_add (a b : Int) : i6 a + i6 b = i6 (wl (a + b)) := by rw [i6_wl]; exact (Int64.ofInt_add ..).symm
theorem i6_sub (a b : Int) : i6 a - i6 b = i6 (wl (a - b)) := by rw [i6_wl]; exact (Int64.ofInt_sub ..).symm
theorem i6_mul (a b : Int) : i6 a * i6 b = i6 (wl (a * b)) := by rw [i6_wl]; exact (Int64.ofInt_mul ..).symm
theorem i3_div {a b : Int} (ha : ir a) (hb : ir b) : i3 a / i3 b = i3 (wr (a.tdiv b)) := i3_eq (by rw [Int32.toInt_div, i3_val ha, i3_val hb]; exact wr_bmod _)
theorem i3_mod {a b : Int} (ha : ir a) (hb : ir b) : i3 a % i3 b = i3 (wr (a.tmod b)) := i3_eq (by
  rw [Int32.toInt_mod, i3_val ha, i3_val hb]
  refine (wr_id ?_).symm
  have h1 := Int.natAbs_tmod a b
  have h2 : (a.tmod b).natAbs ≤ a.natAbs := by rw [h1]; exact Nat.mod_le _ _
  have h3 : (0 ≤ a → 0 ≤ a.tmod b) := fun h => Int.tmod_nonneg _ h
  have h4 : (a ≤ 0 → a.tmod b ≤ 0) := fun h => by
    have := Int.tmod_nonneg b (show 0 ≤ -a by omega)
    rw [Int.neg_tmod] at this
    omega
  unfold ir at ha hb
  omega)
theorem i6_div {a b : Int} (ha : il a) (hb : il b) : i6 a / i6 b = i6 (wl (a.tdiv b)) := i6_eq (by rw [Int64.toInt_div, i6_val ha, i6_val hb]; exact wl_bmod _)
theorem i6_mod {a b : Int} (ha : il a) (hb : il b) : i6 a % i6 b = i6 (wl (a.tmod b)) := i6_eq (by
  rw [Int64.toInt_mod, i6_val ha, i6_val hb]
  refine (wl_id ?_).symm
  have h1 := Int.natAbs_tmod a b
  have h2 : (a.tmod b).natAbs ≤ a.natAbs := by rw [h1]; exact Nat.mod_le _ _
  have h3 : (0 ≤ a → 0 ≤ a.tmod b) := fun h => Int.tmod_nonneg _ h
  have h4 : (a ≤ 0 → a.tmod b ≤ 0) := fun h => by
    have := Int.tmod_nonneg b (show 0 ≤ -a by omega)
    rw [Int.neg_tmod] at this
    omega
  unfold il at ha hb
  omega)
/-! bits: by way of the machine's own -/
def bAnd (a b : Int) : Int := (i3 a &&& i3 b).toInt
def bOr (a b : Int) : Int := (i3 a ||| i3 b).toInt
def bXor (a b : Int) : Int := (i3 a ^^^ i3 b).toInt
def bShl (a b : Int) : Int := (i3 a <<< i3 b).toInt
def bShr (a b : Int) : Int := (i3 a >>> i3 b).toInt
def bUshr (a b : Int) : Int := ((i3 a).toUInt32 >>> ((i3 b).toUInt32 &&& Int32.toUInt32 31)).toInt32.toInt
def lAnd (a b : Int) : Int := (i6 a &&& i6 b).toInt
def lShr (a b : Int) : Int := (i6 a >>> ((i3 b).toInt64 &&& 63)).toInt
def b2b (a : Int) : Int := (i3 a).toInt8.toInt32.toInt
theorem i3_eqi {a b : Int} (ha : ir a) (hb : ir b) : i3 a = i3 b ↔ a = b := ⟨fun h => by rw [← i3_val ha, ← i3_val hb, h], fun h => by rw [h]⟩
theorem i3_lti {a b : Int} (ha : ir a) (hb : ir b) : i3 a < i3 b ↔ a < b := by rw [Int32.lt_iff_toInt_lt, i3_val ha, i3_val hb]
theorem i3_lei {a b : Int} (ha : ir a) (hb : ir b) : i3 a ≤ i3 b ↔ a ≤ b := by rw [Int32.le_iff_toInt_le, i3_val ha, i3_val hb]
theorem ir0 : ir 0 := by unfold ir; omega
theorem i3_0 : i3 0 = 0 := rfl
theorem i3_clamp {z : Int} (h : ir z) : (i3 z).toNatClampNeg = z.toNat := by
  show (i3 z).toInt.toNat = _
  rw [i3_val h]
theorem i3_in {z : Int} {n : Nat} (h : ir z) (h0 : 0 ≤ z) (h1 : z < n) : ¬ (i3 z < 0 ∨ n ≤ (i3 z).toNatClampNeg) := by
  rw [i3_clamp h, ← i3_0, i3_lti h ir0]
  omega
