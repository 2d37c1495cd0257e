/-! how many bits a number has -/
def pc (n : Nat) : Nat := if h : n = 0 then 0 else n % 2 + pc (n / 2)
termination_by n
decreasing_by omega
theorem pc_eq (n : Nat) : pc n = n % 2 + pc (n / 2) := by
  by_cases h : n = 0
  · subst h
    have e : pc 0 = 0 := by rw [pc]; simp
    simp [e]
  · rw [pc]; simp [h]
theorem pc_0 : pc 0 = 0 := by rw [pc]; simp
theorem pc_2 (n : Nat) : pc (2 * n) = pc n := by rw [pc_eq]; rw [show 2 * n % 2 = 0 by omega, show 2 * n / 2 = n by omega]; omega
theorem pc_21 (n : Nat) : pc (2 * n + 1) = pc n + 1 := by rw [pc_eq]; rw [show (2 * n + 1) % 2 = 1 by omega, show (2 * n + 1) / 2 = n by omega]; omega
theorem pc_1 : pc 1 = 1 := by have := pc_21 0; rw [pc_0] at this; exact this
theorem pc_add : ∀ (j h r : Nat), r < 2 ^ j → pc (h * 2 ^ j + r) = pc h + pc r := by
  intro j
  induction j with
  | zero => intro h r hr; rw [Nat.pow_zero] at hr ⊢; rw [show r = 0 by omega, pc_0]; simp
  | succ j ih =>
    intro h r hr
    rw [Nat.pow_succ] at hr
    rw [pc_eq (h * 2 ^ (j + 1) + r), pc_eq r]
    have e : h * 2 ^ (j + 1) + r = 2 * (h * 2 ^ j + r / 2) + r % 2 := by
      rw [Nat.pow_succ, show h * (2 ^ j * 2) = 2 * (h * 2 ^ j) by rw [← Nat.mul_assoc, Nat.mul_comm]]
      omega
    rw [e, show (2 * (h * 2 ^ j + r / 2) + r % 2) % 2 = r % 2 by omega, show (2 * (h * 2 ^ j + r / 2) + r % 2) / 2 = h * 2 ^ j + r / 2 by omega, ih h (r / 2) (by omega)]
    omega
theorem pc_pos : ∀ (j n : Nat), n < 2 ^ j → 0 < n → 0 < pc n := by
  intro j
  induction j with
  | zero => intro n h1 h2; rw [Nat.pow_zero] at h1; omega
  | succ j ih =>
    intro n h1 h2
    rw [Nat.pow_succ] at h1
    rw [pc_eq]
    by_cases c : n % 2 = 1
    · omega
    · have := ih (n / 2) (by omega) (by omega); omega
theorem pc_lt : ∀ (j n : Nat), n + 1 < 2 ^ j → pc n < j := by
  intro j
  induction j with
  | zero => intro n h; rw [Nat.pow_zero] at h; omega
  | succ j ih =>
    intro n h
    rw [Nat.pow_succ] at h
    rw [pc_eq]
    by_cases c : n / 2 + 1 < 2 ^ j
    · have := ih (n / 2) c; omega
    · have e : n / 2 + 1 = 2 ^ j := by omega
      have e0 : n % 2 = 0 := by omega
      have : pc (n / 2) ≤ j := by
        have hh : ∀ (j m : Nat), m < 2 ^ j → pc m ≤ j := by
          intro j
          induction j with
          | zero => intro m hm; rw [Nat.pow_zero] at hm; rw [show m = 0 by omega, pc_0]; omega
          | succ j ih => intro m hm; rw [Nat.pow_succ] at hm; rw [pc_eq]; have := ih (m / 2) (by omega); omega
        exact hh j (n / 2) (by omega)
      omega
theorem pc_le : ∀ (j m : Nat), m < 2 ^ j → pc m ≤ j := by
  intro j
  induction j with
  | zero => intro m hm; rw [Nat.pow_zero] at hm; rw [show m = 0 by omega, pc_0]; omega
  | succ j ih => intro m hm; rw [Nat.pow_succ] at hm; rw [pc_eq]; have := ih (m / 2) (by omega); omega
theorem pc_ones : ∀ j : Nat, pc (2 ^ j - 1) = j := by
  intro j
  induction j with
  | zero => rw [show 2 ^ 0 - 1 = 0 by decide, pc_0]
  | succ j ih =>
    have p := Nat.two_pow_pos j
    rw [show 2 ^ (j + 1) - 1 = 2 * (2 ^ j - 1) + 1 by rw [Nat.pow_succ]; omega, pc_21, ih]
theorem pc_pow (j : Nat) : pc (2 ^ j) = 1 := by
  have := pc_add j 1 0 (Nat.two_pow_pos j)
  rw [pc_0, pc_1, Nat.add_zero, Nat.one_mul] at this
  exact this
/-- the bits of a number, as a sum -/
def sbF (n : Nat) : Nat → Nat
  | 0 => 0
  | k + 1 => sbF n k + n / 2 ^ k % 2
theorem sbF_pc (n : Nat) : ∀ k : Nat, sbF n k + pc (n / 2 ^ k) = pc n := by
  intro k
  induction k with
  | zero => simp [sbF]
  | succ k ih =>
    simp only [sbF]
    rw [pc_eq (n / 2 ^ k)] at ih
    rw [Nat.pow_succ, ← Nat.div_div_eq_div_mul]
    omega
/-- a number parts into h, a 0, k 1's, z 0's -/
theorem odd_parts : ∀ n : Nat, ∃ k h : Nat, 1 ≤ k ∧ 2 * n + 1 = h * 2 ^ (k + 1) + (2 ^ k - 1) := by
  intro n
  induction n using Nat.strongRecOn with
  | ind n ih =>
    by_cases c : n % 2 = 0
    · exact ⟨1, n / 2, by omega, by rw [show 2 ^ (1 + 1) = 4 by decide, show 2 ^ 1 - 1 = 1 by decide]; omega⟩
    · obtain ⟨k, h, k1, e⟩ := ih (n / 2) (by omega)
      refine ⟨k + 1, h, by omega, ?_⟩
      have p := Nat.two_pow_pos k
      have e1 : h * 2 ^ (k + 1 + 1) = 2 * (h * 2 ^ (k + 1)) := by rw [Nat.pow_succ 2 (k + 1), ← Nat.mul_assoc, Nat.mul_comm]
      have e2 : 2 ^ (k + 1) = 2 * 2 ^ k := by rw [Nat.pow_succ, Nat.mul_comm]
      omega
theorem z_parts : ∀ n : Nat, 0 < n → ∃ z q : Nat, n = (2 * q + 1) * 2 ^ z := by
  intro n
  induction n using Nat.strongRecOn with
  | ind n ih =>
    intro hn
    by_cases c : n % 2 = 1
    · exact ⟨0, n / 2, by rw [Nat.pow_zero]; omega⟩
    · obtain ⟨z, q, e⟩ := ih (n / 2) (by omega) (by omega)
      refine ⟨z + 1, q, ?_⟩
      rw [Nat.pow_succ, ← Nat.mul_assoc, ← e]
      omega
theorem parts_of (n : Nat) (hn : 0 < n) : ∃ z k h : Nat, 1 ≤ k ∧ n = h * 2 ^ (z + k + 1) + (2 ^ k - 1) * 2 ^ z := by
  obtain ⟨z, q, e⟩ := z_parts n hn
  obtain ⟨k, h, k1, e2⟩ := odd_parts q
  refine ⟨z, k, h, k1, ?_⟩
  rw [e, e2, Nat.add_mul, Nat.mul_assoc, ← Nat.pow_add, show k + 1 + z = z + k + 1 by omega]
/-- the next greater number of as many bits -/
theorem next_min {z k h m : Nat} (hk : 1 ≤ k) (h1 : h * 2 ^ (z + k + 1) + (2 ^ k - 1) * 2 ^ z < m) (h2 : m < h * 2 ^ (z + k + 1) + 2 ^ (z + k) + (2 ^ (k - 1) - 1)) : pc m ≠ pc (h * 2 ^ (z + k + 1) + (2 ^ k - 1) * 2 ^ z) := by
  have pz := Nat.two_pow_pos z
  have pk := Nat.two_pow_pos k
  have pk1 := Nat.two_pow_pos (k - 1)
  have eB : 2 ^ (z + k) = 2 ^ k * 2 ^ z := by rw [Nat.pow_add, Nat.mul_comm]
  have eM : (2 ^ k - 1) * 2 ^ z = 2 ^ (z + k) - 2 ^ z := by rw [eB, Nat.sub_mul, Nat.one_mul]
  have eS : 2 ^ (z + k + 1) = 2 * 2 ^ (z + k) := by rw [Nat.pow_succ, Nat.mul_comm]
  have lz : 2 ^ z ≤ 2 ^ (z + k) := Nat.pow_le_pow_right (by decide) (by omega)
  have lk : 2 ^ (k - 1) ≤ 2 ^ (z + k) := Nat.pow_le_pow_right (by decide) (by omega)
  have pn : pc (h * 2 ^ (z + k + 1) + (2 ^ k - 1) * 2 ^ z) = pc h + k := by
    rw [pc_add (z + k + 1) h _ (by omega)]
    have := pc_add z (2 ^ k - 1) 0 pz
    rw [Nat.add_zero, pc_0, Nat.add_zero, pc_ones] at this
    rw [this]
  rw [pn]
  by_cases c : m < h * 2 ^ (z + k + 1) + 2 ^ (z + k)
  · obtain ⟨s, hs, e⟩ : ∃ s : Nat, (0 < s ∧ s < 2 ^ z) ∧ m = h * 2 ^ (z + k + 1) + ((2 ^ k - 1) * 2 ^ z + s) := ⟨m - (h * 2 ^ (z + k + 1) + (2 ^ k - 1) * 2 ^ z), by omega, by omega⟩
    rw [e, pc_add (z + k + 1) h _ (by omega), pc_add z (2 ^ k - 1) s hs.2, pc_ones]
    have := pc_pos z s hs.2 hs.1
    omega
  · obtain ⟨s, hs, e⟩ : ∃ s : Nat, s + 1 < 2 ^ (k - 1) ∧ m = h * 2 ^ (z + k + 1) + (1 * 2 ^ (z + k) + s) := ⟨m - (h * 2 ^ (z + k + 1) + 2 ^ (z + k)), by omega, by omega⟩
    rw [e, pc_add (z + k + 1) h _ (by omega), pc_add (z + k) 1 s (by omega), pc_1]
    have := pc_lt (k - 1) s hs
    omega
theorem next_pc {z k h : Nat} (hk : 1 ≤ k) : pc (h * 2 ^ (z + k + 1) + 2 ^ (z + k) + (2 ^ (k - 1) - 1)) = pc (h * 2 ^ (z + k + 1) + (2 ^ k - 1) * 2 ^ z) := by
  have pz := Nat.two_pow_pos z
  have pk := Nat.two_pow_pos k
  have pk1 := Nat.two_pow_pos (k - 1)
  have eB : 2 ^ (z + k) = 2 ^ k * 2 ^ z := by rw [Nat.pow_add, Nat.mul_comm]
  have eM : (2 ^ k - 1) * 2 ^ z = 2 ^ (z + k) - 2 ^ z := by rw [eB, Nat.sub_mul, Nat.one_mul]
  have eS : 2 ^ (z + k + 1) = 2 * 2 ^ (z + k) := by rw [Nat.pow_succ, Nat.mul_comm]
  have lz : 2 ^ z ≤ 2 ^ (z + k) := Nat.pow_le_pow_right (by decide) (by omega)
  have lk : 2 ^ (k - 1) ≤ 2 ^ (z + k) := Nat.pow_le_pow_right (by decide) (by omega)
  have pn : pc (h * 2 ^ (z + k + 1) + (2 ^ k - 1) * 2 ^ z) = pc h + k := by
    rw [pc_add (z + k + 1) h _ (by omega)]
    have := pc_add z (2 ^ k - 1) 0 pz
    rw [Nat.add_zero, pc_0, Nat.add_zero, pc_ones] at this
    rw [this]
  rw [pn, Nat.add_assoc, pc_add (z + k + 1) h _ (by omega)]
  have := pc_add (z + k) 1 (2 ^ (k - 1) - 1) (by omega)
  rw [Nat.one_mul, pc_1, pc_ones] at this
  rw [this]
  omega
theorem and_split (z a r b s : Nat) (hr : r < 2 ^ z) (hs : s < 2 ^ z) : (a * 2 ^ z + r) &&& (b * 2 ^ z + s) = (a &&& b) * 2 ^ z + (r &&& s) := by
  have e := Nat.div_add_mod ((a * 2 ^ z + r) &&& (b * 2 ^ z + s)) (2 ^ z)
  have p := Nat.two_pow_pos z
  rw [Nat.and_div_two_pow, Nat.and_mod_two_pow, Nat.mul_comm a, Nat.mul_comm b, Nat.mul_add_div p, Nat.mul_add_div p, Nat.mul_add_mod, Nat.mul_add_mod, Nat.div_eq_of_lt hr, Nat.div_eq_of_lt hs, Nat.mod_eq_of_lt hr, Nat.mod_eq_of_lt hs, Nat.add_zero, Nat.add_zero] at e
  rw [Nat.mul_comm a, Nat.mul_comm b, ← e, Nat.mul_comm]
theorem xor_split (z a r b s : Nat) (hr : r < 2 ^ z) (hs : s < 2 ^ z) : (a * 2 ^ z + r) ^^^ (b * 2 ^ z + s) = (a ^^^ b) * 2 ^ z + (r ^^^ s) := by
  have e := Nat.div_add_mod ((a * 2 ^ z + r) ^^^ (b * 2 ^ z + s)) (2 ^ z)
  have p := Nat.two_pow_pos z
  rw [Nat.xor_div_two_pow, Nat.xor_mod_two_pow, Nat.mul_comm a, Nat.mul_comm b, Nat.mul_add_div p, Nat.mul_add_div p, Nat.mul_add_mod, Nat.mul_add_mod, Nat.div_eq_of_lt hr, Nat.div_eq_of_lt hs, Nat.mod_eq_of_lt hr, Nat.mod_eq_of_lt hs, Nat.add_zero, Nat.add_zero] at e
  rw [Nat.mul_comm a, Nat.mul_comm b, ← e, Nat.mul_comm]
theorem or_split (z a r b s : Nat) (hr : r < 2 ^ z) (hs : s < 2 ^ z) : (a * 2 ^ z + r) ||| (b * 2 ^ z + s) = (a ||| b) * 2 ^ z + (r ||| s) := by
  have e := Nat.div_add_mod ((a * 2 ^ z + r) ||| (b * 2 ^ z + s)) (2 ^ z)
  have p := Nat.two_pow_pos z
  rw [Nat.or_div_two_pow, Nat.or_mod_two_pow, Nat.mul_comm a, Nat.mul_comm b, Nat.mul_add_div p, Nat.mul_add_div p, Nat.mul_add_mod, Nat.mul_add_mod, Nat.div_eq_of_lt hr, Nat.div_eq_of_lt hs, Nat.mod_eq_of_lt hr, Nat.mod_eq_of_lt hs, Nat.add_zero, Nat.add_zero] at e
  rw [Nat.mul_comm a, Nat.mul_comm b, ← e, Nat.mul_comm]
/-- the lowest bit -/
theorem low_eq {n : Nat} (h1 : 0 < n) (h2 : n < 2147483648) : bAnd n (-(n : Int)) = ((n - (n &&& (n - 1)) : Nat) : Int) := by
  unfold bAnd
  have e : i3 (-(n : Int)) = i3 (((n - 1 : Nat) : Int)) ^^^ i3 (-1) := by
    apply Int32.toBitVec_inj.mp
    rw [Int32.toBitVec_xor, i3_bvn, show (i3 (-1)).toBitVec = BitVec.allOnes 32 by decide, BitVec.xor_allOnes]
    show BitVec.ofInt 32 (-(n : Int)) = _
    rw [BitVec.ofInt_neg, BitVec.ofInt_natCast]
    apply BitVec.eq_of_toNat_eq
    rw [BitVec.toNat_neg, BitVec.toNat_not, BitVec.toNat_ofNat, BitVec.toNat_ofNat]
    omega
  rw [e]
  show (i3 (n : Int) &&& (i3 ((n - 1 : Nat) : Int) ^^^ i3 (-1))).toBitVec.toInt = _
  rw [Int32.toBitVec_and, Int32.toBitVec_xor, i3_bvn, i3_bvn, show (i3 (-1)).toBitVec = BitVec.allOnes 32 by decide, BitVec.xor_allOnes]
  have sp := bv_split (BitVec.ofNat 32 n) (BitVec.ofNat 32 (n - 1)) 0#32 (by simp)
  rw [BitVec.or_zero, BitVec.add_zero] at sp
  have hl : n &&& (n - 1) ≤ n := Nat.and_le_left
  rw [sp, BitVec.toInt_eq_toNat_of_lt]
  · rw [BitVec.toNat_sub, BitVec.toNat_and, BitVec.toNat_ofNat, BitVec.toNat_ofNat, Nat.mod_eq_of_lt (a := n) (by omega), Nat.mod_eq_of_lt (a := n - 1) (by omega)]
    omega
  · rw [BitVec.toNat_sub, BitVec.toNat_and, BitVec.toNat_ofNat, BitVec.toNat_ofNat, Nat.mod_eq_of_lt (a := n) (by omega), Nat.mod_eq_of_lt (a := n - 1) (by omega)]
    omega
theorem and_21 (q : Nat) : (2 * q + 1) &&& (2 * q) = 2 * q := by
  have := and_split 1 q 1 q 0 (by decide) (by decide)
  rw [Nat.and_self, show 1 &&& 0 = 0 by decide, show (2 : Nat) ^ 1 = 2 by decide] at this
  rw [Nat.mul_comm 2 q]
  exact this
theorem low_z (z q : Nat) : (2 * q + 1) * 2 ^ z - ((2 * q + 1) * 2 ^ z &&& ((2 * q + 1) * 2 ^ z - 1)) = 2 ^ z := by
  have p := Nat.two_pow_pos z
  have e : (2 * q + 1) * 2 ^ z - 1 = (2 * q) * 2 ^ z + (2 ^ z - 1) := by rw [Nat.add_mul, Nat.one_mul]; omega
  have := and_split z (2 * q + 1) 0 (2 * q) (2 ^ z - 1) p (by omega)
  rw [Nat.zero_and, Nat.add_zero, Nat.add_zero, and_21] at this
  rw [e, this, Nat.add_mul, Nat.one_mul]
  omega
theorem bUshr_nat {a : Nat} (k : Nat) (hk : k < 32) (ha : a < 2147483648) : bUshr a (k : Int) = ((a / 2 ^ k : Nat) : Int) := by
  unfold bUshr
  have hc : ∀ k : Fin 32, (((i3 (k.val : Int)).toUInt32 &&& Int32.toUInt32 31).toBitVec % 32).toNat = k.val := by decide
  have e := pk_ushr (i3 (a : Int)) (i3 (k : Int)) k (hc ⟨k, hk⟩)
  rw [i3_bvn, BitVec.toNat_ofNat, Nat.mod_eq_of_lt (by omega)] at e
  have hl : a / 2 ^ k ≤ a := Nat.div_le_self _ _
  show (((i3 (a : Int)).toUInt32 >>> ((i3 (k : Int)).toUInt32 &&& Int32.toUInt32 31)).toInt32.toBitVec).toInt = _
  rw [BitVec.toInt_eq_toNat_of_lt (by omega), e]
theorem bAnd_natL {a : Nat} (b : Nat) {z : Int} (hz : z = (b : Int)) (ha : a < 2147483648) (hb : b < 2147483648) : bAnd a z = ((a &&& b : Nat) : Int) := by subst hz; exact bAnd_nat ha hb
/-- the machine's count of bits -/
def bcN (n : Nat) : Nat :=
  let a := n - (n / 2 &&& 1431655765)
  let b := (a &&& 858993459) + (a / 4 &&& 858993459)
  let c := (b + b / 16) &&& 252645135
  let e := c + c / 256
  let f := e + e / 65536
  f &&& 63
def frc (n : Nat) (f : Nat → Bool) : Bool := Nat.rec (f 0) (fun m _ => f (m + 1)) n
theorem frc_eq (n : Nat) (f : Nat → Bool) : frc n f = f n := by cases n <;> rfl
def bcK (n : Nat) (k : Nat → Bool) : Bool := frc (n - (n / 2 &&& 1431655765)) fun a => frc ((a &&& 858993459) + (a / 4 &&& 858993459)) fun b => frc ((b + b / 16) &&& 252645135) fun c => frc (c + c / 256) fun e => frc (e + e / 65536) fun f => frc (f &&& 63) k
theorem bcK_eq (n : Nat) (k : Nat → Bool) : bcK n k = k (bcN n) := by simp only [bcK, frc_eq, bcN]
def bcC (n : Nat) : Bool := bcK n fun x => bcK (2 * n) fun y => bcK (2 * n + 1) fun w => Nat.beq y x && Nat.beq w (x + 1)
def bcR : Nat → Nat → Bool
  | 0, lo => frc lo bcC
  | j + 1, lo => bcR j lo && bcR j (lo + 2 ^ j)
theorem bcR_of : ∀ (j lo : Nat), bcR j lo = true → ∀ n : Nat, lo ≤ n → n < lo + 2 ^ j → bcC n = true := by
  intro j
  induction j with
  | zero => intro lo h n h1 h2; rw [Nat.pow_zero] at h2; rw [show n = lo by omega]; simp only [bcR, frc_eq] at h; exact h
  | succ j ih =>
    intro lo h n h1 h2
    simp only [bcR, Bool.and_eq_true] at h
    rw [Nat.pow_succ] at h2
    by_cases c : n < lo + 2 ^ j
    · exact ih lo h.1 n h1 c
    · exact ih (lo + 2 ^ j) h.2 n (by omega) (by omega)
set_option maxRecDepth 100000 in
theorem bcR_0 : bcR 12 0 = true := by decide +kernel
set_option maxRecDepth 100000 in
theorem bcR_1 : bcR 12 4096 = true := by decide +kernel
set_option maxRecDepth 100000 in
theorem bcR_2 : bcR 12 8192 = true := by decide +kernel
set_option maxRecDepth 100000 in
theorem bcR_3 : bcR 12 12288 = true := by decide +kernel
set_option maxRecDepth 100000 in
theorem bcR_4 : bcR 12 16384 = true := by decide +kernel
set_option maxRecDepth 100000 in
theorem bcR_5 : bcR 12 20480 = true := by decide +kernel
set_option maxRecDepth 100000 in
theorem bcR_6 : bcR 12 24576 = true := by decide +kernel
set_option maxRecDepth 100000 in
theorem bcR_7 : bcR 12 28672 = true := by decide +kernel
theorem bcC_all (n : Nat) (hn : n < 32768) : bcN (2 * n) = bcN n ∧ bcN (2 * n + 1) = bcN n + 1 := by
  have h : bcC n = true := by
    have : n < 4096 ∨ (4096 ≤ n ∧ n < 8192) ∨ (8192 ≤ n ∧ n < 12288) ∨ (12288 ≤ n ∧ n < 16384) ∨ (16384 ≤ n ∧ n < 20480) ∨ (20480 ≤ n ∧ n < 24576) ∨ (24576 ≤ n ∧ n < 28672) ∨ (28672 ≤ n ∧ n < 32768) := by omega
    rcases this with q | q | q | q | q | q | q | q
    · exact bcR_of 12 _ bcR_0 n (by omega) (by omega)
    · exact bcR_of 12 _ bcR_1 n (by omega) (by omega)
    · exact bcR_of 12 _ bcR_2 n (by omega) (by omega)
    · exact bcR_of 12 _ bcR_3 n (by omega) (by omega)
    · exact bcR_of 12 _ bcR_4 n (by omega) (by omega)
    · exact bcR_of 12 _ bcR_5 n (by omega) (by omega)
    · exact bcR_of 12 _ bcR_6 n (by omega) (by omega)
    · exact bcR_of 12 _ bcR_7 n (by omega) (by omega)
  simp only [bcC, bcK_eq, Bool.and_eq_true] at h
  exact ⟨Nat.eq_of_beq_eq_true h.1, Nat.eq_of_beq_eq_true h.2⟩
theorem bcN_pc : ∀ n : Nat, n < 65536 → bcN n = pc n := by
  intro n
  induction n using Nat.strongRecOn with
  | ind n ih =>
    intro hn
    by_cases h0 : n = 0
    · subst h0; rw [pc_0]; decide
    · have a := bcC_all (n / 2) (by omega)
      have b := ih (n / 2) (by omega) (by omega)
      rw [pc_eq]
      by_cases c : n % 2 = 0
      · have e : n = 2 * (n / 2) := by omega
        rw [c, ← b, ← a.1, ← e]; omega
      · have e : n = 2 * (n / 2) + 1 := by omega
        rw [show n % 2 = 1 by omega, ← b]
        rw [← e] at a
        omega
