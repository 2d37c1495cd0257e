section PART
variable {d : Nat} {mi : MT}
theorem s_I_ntz {P : Int → MT → Prop} {z : Nat} (hz : z < 16) (h : P (z : Int) mi) : c_I_numberOfTrailingZeros d ((2 ^ z : Nat) : Int) mi P := by
  have : z = 0 ∨ z = 1 ∨ z = 2 ∨ z = 3 ∨ z = 4 ∨ z = 5 ∨ z = 6 ∨ z = 7 ∨ z = 8 ∨ z = 9 ∨ z = 10 ∨ z = 11 ∨ z = 12 ∨ z = 13 ∨ z = 14 ∨ z = 15 := by omega
  rcases this with rfl | rfl | rfl | rfl | rfl | rfl | rfl | rfl | rfl | rfl | rfl | rfl | rfl | rfl | rfl | rfl
  · have h : P 0 mi := h
    show c_I_numberOfTrailingZeros d 1 mi P
    refine v_I_numberOfTrailingZeros ?_
    simp only [show bAnd (bXor 1 (-1)) (1 - 1) = 0 by decide, show bAnd 0 32 = 0 by decide]
    repeat' (first | (refine And.intro (by omega) ?_) | apply And.intro | intro _ | omega)
    all_goals exact h
  · have h : P 1 mi := h
    show c_I_numberOfTrailingZeros d 2 mi P
    refine v_I_numberOfTrailingZeros ?_
    simp only [show bAnd (bXor 2 (-1)) (2 - 1) = 1 by decide, show bUshr 1 1 = 0 by decide]
    repeat' (first | (refine And.intro (by omega) ?_) | apply And.intro | intro _ | omega)
    all_goals exact h
  · have h : P 2 mi := h
    show c_I_numberOfTrailingZeros d 4 mi P
    refine v_I_numberOfTrailingZeros ?_
    simp only [show bAnd (bXor 4 (-1)) (4 - 1) = 3 by decide, show bUshr 3 1 = 1 by decide]
    repeat' (first | (refine And.intro (by omega) ?_) | apply And.intro | intro _ | omega)
    all_goals exact h
  · have h : P 3 mi := h
    show c_I_numberOfTrailingZeros d 8 mi P
    refine v_I_numberOfTrailingZeros ?_
    simp only [show bAnd (bXor 8 (-1)) (8 - 1) = 7 by decide, show bUshr 7 2 = 1 by decide, show bUshr 1 1 = 0 by decide]
    repeat' (first | (refine And.intro (by omega) ?_) | apply And.intro | intro _ | omega)
    all_goals exact h
  · have h : P 4 mi := h
    show c_I_numberOfTrailingZeros d 16 mi P
    refine v_I_numberOfTrailingZeros ?_
    simp only [show bAnd (bXor 16 (-1)) (16 - 1) = 15 by decide, show bUshr 15 2 = 3 by decide, show bUshr 3 1 = 1 by decide]
    repeat' (first | (refine And.intro (by omega) ?_) | apply And.intro | intro _ | omega)
    all_goals exact h
  · have h : P 5 mi := h
    show c_I_numberOfTrailingZeros d 32 mi P
    refine v_I_numberOfTrailingZeros ?_
    simp only [show bAnd (bXor 32 (-1)) (32 - 1) = 31 by decide, show bUshr 31 4 = 1 by decide, show bUshr 1 1 = 0 by decide]
    repeat' (first | (refine And.intro (by omega) ?_) | apply And.intro | intro _ | omega)
    all_goals exact h
  · have h : P 6 mi := h
    show c_I_numberOfTrailingZeros d 64 mi P
    refine v_I_numberOfTrailingZeros ?_
    simp only [show bAnd (bXor 64 (-1)) (64 - 1) = 63 by decide, show bUshr 63 4 = 3 by decide, show bUshr 3 1 = 1 by decide]
    repeat' (first | (refine And.intro (by omega) ?_) | apply And.intro | intro _ | omega)
    all_goals exact h
  · have h : P 7 mi := h
    show c_I_numberOfTrailingZeros d 128 mi P
    refine v_I_numberOfTrailingZeros ?_
    simp only [show bAnd (bXor 128 (-1)) (128 - 1) = 127 by decide, show bUshr 127 4 = 7 by decide, show bUshr 7 2 = 1 by decide, show bUshr 1 1 = 0 by decide]
    repeat' (first | (refine And.intro (by omega) ?_) | apply And.intro | intro _ | omega)
    all_goals exact h
  · have h : P 8 mi := h
    show c_I_numberOfTrailingZeros d 256 mi P
    refine v_I_numberOfTrailingZeros ?_
    simp only [show bAnd (bXor 256 (-1)) (256 - 1) = 255 by decide, show bUshr 255 4 = 15 by decide, show bUshr 15 2 = 3 by decide, show bUshr 3 1 = 1 by decide]
    repeat' (first | (refine And.intro (by omega) ?_) | apply And.intro | intro _ | omega)
    all_goals exact h
  · have h : P 9 mi := h
    show c_I_numberOfTrailingZeros d 512 mi P
    refine v_I_numberOfTrailingZeros ?_
    simp only [show bAnd (bXor 512 (-1)) (512 - 1) = 511 by decide, show bUshr 511 8 = 1 by decide, show bUshr 1 1 = 0 by decide]
    repeat' (first | (refine And.intro (by omega) ?_) | apply And.intro | intro _ | omega)
    all_goals exact h
  · have h : P 10 mi := h
    show c_I_numberOfTrailingZeros d 1024 mi P
    refine v_I_numberOfTrailingZeros ?_
    simp only [show bAnd (bXor 1024 (-1)) (1024 - 1) = 1023 by decide, show bUshr 1023 8 = 3 by decide, show bUshr 3 1 = 1 by decide]
    repeat' (first | (refine And.intro (by omega) ?_) | apply And.intro | intro _ | omega)
    all_goals exact h
  · have h : P 11 mi := h
    show c_I_numberOfTrailingZeros d 2048 mi P
    refine v_I_numberOfTrailingZeros ?_
    simp only [show bAnd (bXor 2048 (-1)) (2048 - 1) = 2047 by decide, show bUshr 2047 8 = 7 by decide, show bUshr 7 2 = 1 by decide, show bUshr 1 1 = 0 by decide]
    repeat' (first | (refine And.intro (by omega) ?_) | apply And.intro | intro _ | omega)
    all_goals exact h
  · have h : P 12 mi := h
    show c_I_numberOfTrailingZeros d 4096 mi P
    refine v_I_numberOfTrailingZeros ?_
    simp only [show bAnd (bXor 4096 (-1)) (4096 - 1) = 4095 by decide, show bUshr 4095 8 = 15 by decide, show bUshr 15 2 = 3 by decide, show bUshr 3 1 = 1 by decide]
    repeat' (first | (refine And.intro (by omega) ?_) | apply And.intro | intro _ | omega)
    all_goals exact h
  · have h : P 13 mi := h
    show c_I_numberOfTrailingZeros d 8192 mi P
    refine v_I_numberOfTrailingZeros ?_
    simp only [show bAnd (bXor 8192 (-1)) (8192 - 1) = 8191 by decide, show bUshr 8191 8 = 31 by decide, show bUshr 31 4 = 1 by decide, show bUshr 1 1 = 0 by decide]
    repeat' (first | (refine And.intro (by omega) ?_) | apply And.intro | intro _ | omega)
    all_goals exact h
  · have h : P 14 mi := h
    show c_I_numberOfTrailingZeros d 16384 mi P
    refine v_I_numberOfTrailingZeros ?_
    simp only [show bAnd (bXor 16384 (-1)) (16384 - 1) = 16383 by decide, show bUshr 16383 8 = 63 by decide, show bUshr 63 4 = 3 by decide, show bUshr 3 1 = 1 by decide]
    repeat' (first | (refine And.intro (by omega) ?_) | apply And.intro | intro _ | omega)
    all_goals exact h
  · have h : P 15 mi := h
    show c_I_numberOfTrailingZeros d 32768 mi P
    refine v_I_numberOfTrailingZeros ?_
    simp only [show bAnd (bXor 32768 (-1)) (32768 - 1) = 32767 by decide, show bUshr 32767 8 = 127 by decide, show bUshr 127 4 = 7 by decide, show bUshr 7 2 = 1 by decide, show bUshr 1 1 = 0 by decide]
    repeat' (first | (refine And.intro (by omega) ?_) | apply And.intro | intro _ | omega)
    all_goals exact h
theorem bUshr_L {a : Nat} (k : Nat) {z : Int} {m : Nat} (hz : z = (k : Int)) (hm : a / 2 ^ k = m) (hk : k < 32) (ha : a < 2147483648) : bUshr a z = (m : Int) := by subst hz; subst hm; exact bUshr_nat k hk ha
theorem s_I_bitCount {P : Int → MT → Prop} {n : Nat} (hn : n < 65536) (h : P (pc n : Int) mi) : c_I_bitCount d (n : Int) mi P := by
  rw [← bcN_pc n hn] at h
  unfold bcN at h
  simp only at h
  refine v_I_bitCount ?_
  have l1 : n / 2 &&& 1431655765 ≤ n / 2 := Nat.and_le_left
  rw [bUshr_L 1 (z := 1) rfl (m := n / 2) rfl (by decide) (by omega), bAnd_natL 1431655765 (z := 1431655765) rfl (by omega) (by decide)]
  rw [show (n : Int) - ((n / 2 &&& 1431655765 : Nat) : Int) = ((n - (n / 2 &&& 1431655765) : Nat) : Int) by omega]
  generalize hA : n - (n / 2 &&& 1431655765) = A at h ⊢
  have lA : A ≤ n := by omega
  have l2 : A &&& 858993459 ≤ A := Nat.and_le_left
  have l3 : A / 4 &&& 858993459 ≤ A / 4 := Nat.and_le_left
  rw [bUshr_L 2 (z := 2) rfl (m := A / 4) rfl (by decide) (by omega), bAnd_natL 858993459 (z := 858993459) rfl (by omega) (by decide), bAnd_natL 858993459 (z := 858993459) rfl (by omega) (by decide), ← Int.natCast_add]
  generalize hB : (A &&& 858993459) + (A / 4 &&& 858993459) = B at h ⊢
  rw [bUshr_L 4 (z := 4) rfl (m := B / 16) rfl (by decide) (by omega), ← Int.natCast_add, bAnd_natL 252645135 (z := 252645135) rfl (by omega) (by decide)]
  have l4 : (B + B / 16) &&& 252645135 ≤ 252645135 := Nat.and_le_right
  generalize hC : (B + B / 16) &&& 252645135 = C at h l4 ⊢
  rw [bUshr_L 8 (z := 8) rfl (m := C / 256) rfl (by decide) (by omega), ← Int.natCast_add]
  generalize hE : C + C / 256 = E at h ⊢
  rw [bUshr_L 16 (z := 16) rfl (m := E / 65536) rfl (by decide) (by omega), ← Int.natCast_add]
  rw [show (63 : Nat) = 2 ^ 6 - 1 by decide, Nat.and_two_pow_sub_one_eq_mod] at h
  refine ⟨by omega, ?_⟩
  rw [show ((E + E / 65536 : Nat) : Int) % 64 = (((E + E / 65536) % 2 ^ 6 : Nat) : Int) by omega]
  exact h
/-- bits where something is so -/
def dbF (D : Nat → Bool) : Nat → Nat
  | 0 => 0
  | n + 1 => if D n then 2 ^ n + dbF D n else dbF D n
theorem dbF_lt (D : Nat → Bool) : ∀ n : Nat, dbF D n < 2 ^ n := by
  intro n
  induction n with
  | zero => simp [dbF]
  | succ n ih => simp only [dbF]; rw [Nat.pow_succ]; split <;> omega
theorem orK {x k : Nat} (hx : x < 2 ^ k) (hk : k < 30) : bOr x (iShl 1 (k : Int)) = ((2 ^ k + x : Nat) : Int) := by
  have p : 2 ^ k ≤ 2 ^ 30 := Nat.pow_le_pow_right (by decide) (by omega)
  have e : (1 : Int) * 2 ^ k = ((2 ^ k : Nat) : Int) := by rw [Int.one_mul]; push_cast; rfl
  rw [iShl_mul k (by omega) (by rw [e]; omega), e, bOr_nat (by omega) (by omega), Nat.or_comm]
  have := Nat.two_pow_add_eq_or_of_lt hx 1
  rw [Nat.mul_one] at this
  rw [this]
def difD (c : Nat → Int) (a b : Int) (j : Nat) : Bool := decide (c (16 + 17 * a + 1 + (j : Int)).toNat ≠ c (16 + 17 * b + 1 + (j : Int)).toNat)
def dif (c : Nat → Int) (a b : Int) : Nat := dbF (difD c a b) 16
theorem dif_lt (c : Nat → Int) (a b : Int) : dif c a b < 65536 := dbF_lt _ 16
theorem s_B_differences {P : Int → MT → Prop} {a b : Int} (hd : 1 < d) (h2 : P_sgn (mi 3) (mi 4) (mi 135)) (hn : mi 135 0 ≤ 10) (ha : 0 ≤ a ∧ a < mi 135 0) (hb : 0 ≤ b ∧ b < mi 135 0) (h : P (dif (mi 135) a b : Int) mi) : c_B_differences d a b mi P := by
  obtain ⟨a1, a2, a3, a4⟩ := h2 a ha.1 ha.2 (by omega)
  obtain ⟨b1, b2, b3, b4⟩ := h2 b hb.1 hb.2 (by omega)
  have I : ∀ k : Int, 0 ≤ k → k < 4 → ∀ f g : Int, (f = if k < mi 4 a.toNat then 1 else 0) → (g = if k < mi 4 b.toNat then 1 else 0) → h_B_differences_5 d a b (dbF (difD (mi 135) a b) (4 * k + 4).toNat : Int) (k + 1) mi P → ∀ m : Int, m ≤ 4 → 0 ≤ m → h_B_differences_50 d a b (dbF (difD (mi 135) a b) (4 * k + m).toNat : Int) k f g m mi P := by
    intro k k0 k4 f g hf hg hc
    refine upto _ (fun m hm ih m0 => ?_)
    have ih := fun q => ih q (by omega)
    have es : (4 * k + (m + 1)).toNat = (4 * k + m).toNat + 1 := by omega
    have lt := dbF_lt (difD (mi 135) a b) (4 * k + m).toNat
    have ej : (((4 * k + m).toNat : Nat) : Int) = 4 * k + m := by omega
    rw [es] at ih
    simp only [dbF] at ih
    have eD : difD (mi 135) a b (4 * k + m).toNat = decide (mi 135 (16 + 17 * a + 1 + 4 * k + m).toNat ≠ mi 135 (16 + 17 * b + 1 + 4 * k + m).toNat) := by
      unfold difD; rw [ej, show 16 + 17 * a + 1 + (4 * k + m) = 16 + 17 * a + 1 + 4 * k + m by omega, show 16 + 17 * b + 1 + (4 * k + m) = 16 + 17 * b + 1 + 4 * k + m by omega]
    rw [eD] at ih
    have Yes : m < 4 → mi 135 (16 + 17 * a + 1 + 4 * k + m).toNat ≠ mi 135 (16 + 17 * b + 1 + 4 * k + m).toNat → h_B_differences_50 d a b (bOr (dbF (difD (mi 135) a b) (4 * k + m).toNat : Int) (iShl 1 (k * 4 + m))) k f g (m + 1) mi P := by
      intro q w
      have := ih q
      rw [decide_eq_true w, if_pos rfl] at this
      rw [show k * 4 + m = (((4 * k + m).toNat : Nat) : Int) by omega, orK lt (by omega)]
      exact this
    have No : m < 4 → mi 135 (16 + 17 * a + 1 + 4 * k + m).toNat = mi 135 (16 + 17 * b + 1 + 4 * k + m).toNat → h_B_differences_50 d a b (dbF (difD (mi 135) a b) (4 * k + m).toNat : Int) k f g (m + 1) mi P := by
      intro q w
      have := ih q
      rw [decide_eq_false (fun z => z w), if_neg (by decide)] at this
      exact this
    refine v_B_differences_50 ⟨fun q => ⟨by omega, by rw [show m = 4 by omega]; exact hc⟩, fun q => ⟨fun z => ⟨fun z2 => ⟨by omega, No q ?_⟩, fun z2 => ⟨by omega, Yes q ?_⟩⟩, fun z => ⟨fun z2 => ⟨fun z3 => by omega, fun z3 => ⟨by omega, Yes q ?_⟩⟩, fun z2 => ?_⟩⟩⟩
    · have c1 : mi 4 a.toNat ≤ k := by split at hf <;> omega
      have c2 : mi 4 b.toNat ≤ k := by split at hg <;> omega
      rw [a4 k c1 k4 m m0 q, b4 k c2 k4 m m0 q]
    · have c1 : mi 4 a.toNat ≤ k := by split at hf <;> omega
      have c2 : k < mi 4 b.toNat := by split at hg <;> omega
      have := ((b3 k k0 c2).2 m m0 q).2
      rw [a4 k c1 k4 m m0 q]; omega
    · have c1 : k < mi 4 a.toNat := by split at hf <;> omega
      have c2 : mi 4 b.toNat ≤ k := by split at hg <;> omega
      have := ((a3 k k0 c1).2 m m0 q).2
      rw [b4 k c2 k4 m m0 q]; omega
    · have c1 : k < mi 4 a.toNat := by split at hf <;> omega
      have c2 : k < mi 4 b.toNat := by split at hg <;> omega
      have A := a3 k k0 c1
      have B := b3 k k0 c2
      refine ⟨by omega, ?_⟩
      rw [(A.2 m m0 q).1, (B.2 m m0 q).1]
      exact ⟨fun w => ⟨by omega, No q w⟩, fun w => ⟨by omega, Yes q w⟩⟩
  have O : ∀ k : Int, k ≤ 4 → 0 ≤ k → h_B_differences_5 d a b (dbF (difD (mi 135) a b) (4 * k).toNat : Int) k mi P := by
    refine upto _ (fun k hk ih k0 => ?_)
    have ih := fun q => ih q (by omega)
    rw [show (4 * (k + 1)) = 4 * k + 4 by omega] at ih
    have st := fun (f g : Int) hf hg q => I k k0 q f g hf hg (ih q) 0 (by omega) (by omega)
    rw [show 4 * k + 0 = 4 * k by omega] at st
    refine v_B_differences_5 ⟨fun q => by rw [show k = 4 by omega]; exact h, fun q => ⟨by omega, fun z => ⟨by omega, fun z2 => ?_, fun z2 => ?_⟩, fun z => ⟨by omega, fun z2 => ?_, fun z2 => ?_⟩⟩⟩
    · exact st 0 0 (by rw [if_neg (by omega)]) (by rw [if_neg (by omega)]) q
    · exact st 0 1 (by rw [if_neg (by omega)]) (by rw [if_pos (by omega)]) q
    · exact st 1 0 (by rw [if_pos (by omega)]) (by rw [if_neg (by omega)]) q
    · exact st 1 1 (by rw [if_pos (by omega)]) (by rw [if_pos (by omega)]) q
  exact v_B_differences (O 0 (by omega) (by omega))
theorem s_M_unlike {P : Int → MT → Prop} {a b : Int} (ha : 0 ≤ a ∧ a < 10) (hb : 0 ≤ b ∧ b < 10) (h : P (dif (mi 135) a b : Int) mi) : c_M_unlike d a b mi P := by
  have L : ∀ j : Int, j ≤ 16 → 0 ≤ j → h_M_unlike_5 d a b (dbF (difD (mi 135) a b) j.toNat : Int) j mi P := by
    refine upto _ (fun j hj ih j0 => ?_)
    have ih := fun q => ih q (by omega)
    have lt := dbF_lt (difD (mi 135) a b) j.toNat
    rw [show (j + 1).toNat = j.toNat + 1 by omega] at ih
    simp only [dbF] at ih
    have ej : ((j.toNat : Nat) : Int) = j := by omega
    have eD : difD (mi 135) a b j.toNat = decide (mi 135 (16 + 17 * a + 1 + j).toNat ≠ mi 135 (16 + 17 * b + 1 + j).toNat) := by unfold difD; rw [ej]
    rw [eD] at ih
    refine v_M_unlike_5 ⟨fun q => by rw [show j = 16 by omega]; exact h, fun q => ⟨by omega, fun w => ⟨by omega, ?_⟩, fun w => ⟨by omega, ?_⟩⟩⟩
    · have := ih q
      rw [decide_eq_true w, if_pos rfl] at this
      have e := orK lt (by omega)
      rw [ej] at e
      rw [e]; exact this
    · have := ih q
      rw [decide_eq_false (fun z => z w), if_neg (by decide)] at this
      have e : bOr (dbF (difD (mi 135) a b) j.toNat : Int) 0 = (dbF (difD (mi 135) a b) j.toNat : Int) := by
        have p : 2 ^ j.toNat ≤ 2 ^ 16 := Nat.pow_le_pow_right (by decide) (by omega)
        have := bOr_nat (a := dbF (difD (mi 135) a b) j.toNat) (b := 0) (by omega) (by decide)
        rw [Nat.or_zero] at this
        exact this
      rw [e]; exact this
  exact v_M_unlike (L 0 (by omega) (by omega))
def cD (D : Nat → Bool) : Nat → Nat
  | 0 => 0
  | n + 1 => cD D n + (if D n then 1 else 0)
def fD (D : Nat → Bool) : Nat → Int
  | 0 => -1
  | n + 1 => if D n then (n : Int) else fD D n
theorem cD_pc (D : Nat → Bool) : ∀ n : Nat, pc (dbF D n) = cD D n := by
  intro n
  induction n with
  | zero => exact pc_0
  | succ n ih =>
    simp only [dbF, cD]
    split
    · have := pc_add n 1 (dbF D n) (dbF_lt D n)
      rw [Nat.one_mul, pc_1] at this
      omega
    · omega
theorem cD_01 (D : Nat → Bool) : ∀ n : Nat, (cD D n = 0 → dbF D n = 0) ∧ (cD D n = 1 → ∃ k : Nat, k < n ∧ fD D n = k ∧ dbF D n = 2 ^ k) := by
  intro n
  induction n with
  | zero => exact ⟨fun _ => rfl, fun h => by simp [cD] at h⟩
  | succ n ih =>
    simp only [cD, dbF, fD]
    split
    · refine ⟨fun h => by omega, fun h => ⟨n, by omega, rfl, ?_⟩⟩
      rw [ih.1 (by omega)]; omega
    · refine ⟨fun h => ih.1 (by omega), fun h => ?_⟩
      obtain ⟨k, k1, k2, k3⟩ := ih.2 (by omega)
      exact ⟨k, by omega, k2, k3⟩
theorem cD_rest (D : Nat → Bool) (m : Nat) (h : ∀ k, m ≤ k → k < 16 → D k = false) : ∀ n : Nat, m ≤ n → n ≤ 16 → cD D n = cD D m ∧ fD D n = fD D m := by
  intro n
  induction n with
  | zero => intro h1 _; rw [show m = 0 by omega]; exact ⟨rfl, rfl⟩
  | succ n ih =>
    intro h1 h2
    by_cases c : m ≤ n
    · have := ih c (by omega)
      simp only [cD, fD]
      rw [h n c (by omega)]
      exact this
    · rw [show n + 1 = m by omega]; exact ⟨rfl, rfl⟩
theorem ca_near {a b : Int} (hI : Base mi) (hd : 20 ≤ d) : c_C_near d a b mi (fun z m1 => c_M_near d a b m1 (fun z' m2 => Bth z z' mi m2)) := by
  obtain ⟨hs, ht, h1, h2, h3, h4, h5, h6, h7, h8, h9, h10⟩ := id hI
  have hn := h1
  unfold P_num at hn
  refine v_C_near ?_
  repeat' (first | (refine And.intro (by omega) ?_) | apply And.intro | intro _ | omega)
  all_goals (try (refine v_M_near ?_))
  all_goals repeat' (first | (refine And.intro (by omega) ?_) | apply And.intro | intro _ | omega)
  all_goals (try exact Bth.mk rfl hI (Kp.rfl' _))
  have ha : 0 ≤ a ∧ a < mi 135 0 := by omega
  have hb : 0 ≤ b ∧ b < mi 135 0 := by omega
  obtain ⟨a1, a2, a3, a4⟩ := h2 a ha.1 ha.2 (by omega)
  obtain ⟨b1, b2, b3, b4⟩ := h2 b hb.1 hb.2 (by omega)
  -- the reference
  have R : ∀ z : Int, (mi 135 (16 + 17 * a).toNat ≠ mi 135 (16 + 17 * b).toNat → z = -1) → (mi 135 (16 + 17 * a).toNat = mi 135 (16 + 17 * b).toNat → z = if cD (difD (mi 135) a b) 16 = 1 then fD (difD (mi 135) a b) 16 else -1) → c_M_near d a b mi (fun z' m2 => Bth z z' mi m2) := by
    intro z z0 z1
    refine v_M_near ?_
    repeat' (first | (refine And.intro (by omega) ?_) | apply And.intro | intro _ | omega)
    · have es : mi 135 (16 + 17 * a).toNat = mi 135 (16 + 17 * b).toNat := by omega
      have rest := cD_rest (difD (mi 135) a b) (4 * mi 135 (16 + 17 * a).toNat).toNat (fun k k1 k2 => by
        unfold difD
        refine decide_eq_false (fun w => w ?_)
        have e1 := a4 ((k : Int) / 4) (by omega) (by omega) ((k : Int) % 4) (by omega) (by omega)
        have e2 := b4 ((k : Int) / 4) (by omega) (by omega) ((k : Int) % 4) (by omega) (by omega)
        rw [show 16 + 17 * a + 1 + 4 * ((k : Int) / 4) + (k : Int) % 4 = 16 + 17 * a + 1 + (k : Int) by omega] at e1
        rw [show 16 + 17 * b + 1 + 4 * ((k : Int) / 4) + (k : Int) % 4 = 16 + 17 * b + 1 + (k : Int) by omega] at e2
        rw [e1, e2]) 16 (by omega) (by omega)
      have z1 := z1 es
      rw [rest.1, rest.2] at z1
      have L : ∀ k : Int, k ≤ 4 * mi 135 (16 + 17 * a).toNat → 0 ≤ k → h_M_near_39 d a b (fD (difD (mi 135) a b) k.toNat) (cD (difD (mi 135) a b) k.toNat : Int) k mi (fun z' m2 => Bth z z' mi m2) := by
        refine upto _ (fun k hk ih k0 => ?_)
        have cl : ∀ n : Nat, cD (difD (mi 135) a b) n ≤ n := by
          intro n
          induction n with
          | zero => exact Nat.le_refl 0
          | succ n ih => simp only [cD]; split <;> omega
        have cl := cl k.toNat
        have ih := fun q => ih q (by omega)
        rw [show (k + 1).toNat = k.toNat + 1 by omega] at ih
        simp only [cD, fD] at ih
        have ek : ((k.toNat : Nat) : Int) = k := by omega
        have eD : difD (mi 135) a b k.toNat = decide (mi 135 (16 + 17 * a + 1 + k).toNat ≠ mi 135 (16 + 17 * b + 1 + k).toNat) := by unfold difD; rw [ek]
        rw [eD, ek] at ih
        refine v_M_near_39 ⟨by omega, fun q => ?_, fun q => ⟨by omega, fun w => ⟨by omega, ?_⟩, fun w => ⟨by omega, ?_⟩⟩⟩
        · rw [show k = 4 * mi 135 (16 + 17 * a).toNat by omega]
          refine ⟨fun w => Bth.mk (by rw [z1, if_neg (by omega)]) hI (Kp.rfl' _), fun w => Bth.mk (by rw [z1, if_pos (by omega)]) hI (Kp.rfl' _)⟩
        · have := ih q
          rw [decide_eq_true w, if_pos rfl, if_pos rfl, Int.natCast_add] at this
          exact this
        · have := ih q
          rw [decide_eq_false (fun y => y w), if_neg (by decide), if_neg (by decide), Nat.add_zero] at this
          exact this
      exact L 0 (by omega) (by omega)
    · exact Bth.mk (z0 (by omega)) hI (Kp.rfl' _)
  refine v_B_onlyDifference ⟨by omega, s_B_differences (by omega) h2 (by omega) ha hb ⟨by omega, fun q => ?_, fun q => ?_⟩⟩
  · exact R _ (fun _ => rfl) (fun w => by omega)
  · refine s_I_bitCount (dif_lt _ _ _) ?_
    have cp := cD_pc (difD (mi 135) a b) 16
    rw [show pc (dif (mi 135) a b) = cD (difD (mi 135) a b) 16 from cp]
    refine ⟨fun w => R _ (fun w2 => by omega) (fun _ => by rw [if_neg (by omega)]), fun w => ?_⟩
    obtain ⟨k, k1, k2, k3⟩ := (cD_01 (difD (mi 135) a b) 16).2 (by omega)
    rw [show dif (mi 135) a b = 2 ^ k from k3]
    refine s_I_ntz k1 (R _ (fun w2 => by omega) (fun _ => by rw [if_pos (by omega), k2]))
theorem s_M_bits {P : Int → MT → Prop} {n : Nat} (hn : n < 65536) (h : P (pc n : Int) mi) : c_M_bits d (n : Int) mi P := by
  have e := sbF_pc n 16
  rw [show n / 2 ^ 16 = 0 by omega, pc_0, Nat.add_zero] at e
  rw [← e] at h
  have bd : ∀ k : Nat, sbF n k ≤ k := by
    intro k
    induction k with
    | zero => exact Nat.le_refl 0
    | succ k ih => simp only [sbF]; omega
  have L : ∀ k : Int, k ≤ 16 → 0 ≤ k → h_M_bits_4 d n (sbF n k.toNat : Int) k mi P := by
    refine upto _ (fun k hk ih k0 => ?_)
    have b := bd k.toNat
    refine v_M_bits_4 ⟨fun q => by rw [show k = 16 by omega]; exact h, fun q => ?_⟩
    have ih := ih q (by omega)
    rw [show (k + 1).toNat = k.toNat + 1 by omega] at ih
    simp only [sbF] at ih
    have es : iShr (n : Int) k = ((n / 2 ^ k.toNat : Nat) : Int) := by
      have := iShr_div (x := (n : Int)) k.toNat (by omega) (by omega)
      rw [show ((k.toNat : Nat) : Int) = k by omega] at this
      rw [this]; push_cast; rfl
    rw [es, show ((n / 2 ^ k.toNat : Nat) : Int) % 2 = ((n / 2 ^ k.toNat % 2 : Nat) : Int) by omega, ← Int.natCast_add]
    have : n / 2 ^ k.toNat % 2 < 2 := Nat.mod_lt _ (by decide)
    exact ⟨by omega, ih⟩
  exact v_M_bits (L 0 (by omega) (by omega))
/-- a set of marks parts all signs that are unlike -/
def PA (c : Nat → Int) (x : Nat) : Prop := ∀ a b : Int, 0 ≤ a → a < b → b < c 0 → dif c a b ≠ 0 → dif c a b &&& x ≠ 0
theorem PA_all (c : Nat → Int) : PA c 65535 := by
  intro a b _ _ _ h
  have := Nat.and_two_pow_sub_one_eq_mod (dif c a b) 16
  rw [show (2 : Nat) ^ 16 - 1 = 65535 by decide, Nat.mod_eq_of_lt (dif_lt c a b)] at this
  rw [this]; exact h
theorem s_M_parts {P : Bool → MT → Prop} {x : Nat} (hd : 2 < d) (hx : x < 65536) (hn : 0 ≤ mi 135 0 ∧ mi 135 0 ≤ 10) (h1 : PA (mi 135) x → P true mi) (h0 : ¬ PA (mi 135) x → P false mi) : c_M_parts d (x : Int) mi P := by
  have I : ∀ a : Int, 0 ≤ a → a < mi 135 0 → ((∀ b : Int, a < b → b < mi 135 0 → dif (mi 135) a b ≠ 0 → dif (mi 135) a b &&& x ≠ 0) → h_M_parts_2 d x (a + 1) mi P) → ∀ b : Int, b ≤ mi 135 0 → a < b → (∀ b' : Int, a < b' → b' < b → dif (mi 135) a b' ≠ 0 → dif (mi 135) a b' &&& x ≠ 0) → h_M_parts_16 d x a b mi P := by
    intro a a0 a1 hc
    refine upto _ (fun b hb ih ab hp => ?_)
    have lt := dif_lt (mi 135) a b
    refine v_M_parts_16 ⟨fun q => ⟨by omega, hc (fun b' p p2 => hp b' p (by omega))⟩, fun q => ⟨by omega, s_M_unlike (by omega) (by omega) ⟨fun w => ⟨by omega, ih q (by omega) (fun b' p p2 => ?_)⟩, fun w => s_M_unlike (by omega) (by omega) ?_⟩⟩⟩
    · by_cases e : b' = b
      · subst e; intro w2; omega
      · exact hp b' p (by omega)
    · rw [bAnd_nat (by omega) (by omega)]
      refine ⟨fun w2 => ⟨by omega, ih q (by omega) (fun b' p p2 => ?_)⟩, fun w2 => h0 (fun pa => pa a b a0 ab q (by omega) (by omega))⟩
      by_cases e : b' = b
      · subst e; intro _; omega
      · exact hp b' p (by omega)
  have O : ∀ a : Int, a ≤ mi 135 0 → 0 ≤ a → (∀ a' b : Int, 0 ≤ a' → a' < a → a' < b → b < mi 135 0 → dif (mi 135) a' b ≠ 0 → dif (mi 135) a' b &&& x ≠ 0) → h_M_parts_2 d x a mi P := by
    refine upto _ (fun a ha ih a0 hp => ?_)
    refine v_M_parts_2 ⟨fun q => h1 (fun a' b p p2 p3 => hp a' b p (by omega) p2 p3), fun q => ⟨by omega, I a a0 q (fun hq => ih q (by omega) (fun a' b p p2 p3 p4 => ?_)) (a + 1) (by omega) (by omega) (fun b' p p2 => by omega)⟩⟩
    by_cases e : a' = a
    · subst e; exact hq b p3 p4
    · exact hp a' b p (by omega) p3 p4
  exact v_M_parts (O 0 (by omega) (by omega) (fun a' b p p2 => by omega))
/-- the least parting -/
def isLP (c : Nat → Int) (r : Nat) : Prop := (r < 65536 ∧ PA c r) ∧ ∀ m : Nat, m < 65536 → PA c m → pc r < pc m ∨ (pc r = pc m ∧ r ≤ m)
theorem isLP_one {c : Nat → Int} {r s : Nat} (h1 : isLP c r) (h2 : isLP c s) : r = s := by
  have a := h1.2 s h2.1.1 h2.1.2
  have b := h2.2 r h1.1.1 h1.1.2
  omega
theorem s_M_parting {P : Int → MT → Prop} (hd : 5 < d) (hn : 0 ≤ mi 135 0 ∧ mi 135 0 ≤ 10) (h : ∀ r : Nat, isLP (mi 135) r → P (r : Int) mi) : c_M_parting d mi P := by
  have L : ∀ i : Int, -1 ≤ i → i ≤ 65534 → ∀ r : Nat, (r < 65536 ∧ PA (mi 135) r) → i < (r : Int) → (∀ m : Nat, m < 65536 → i < (m : Int) → PA (mi 135) m → pc r < pc m ∨ (pc r = pc m ∧ r ≤ m)) → h_M_parting_8 d (r : Int) i mi P := by
    refine dnto _ (fun i hi ih hi2 r hr hir hm => ?_)
    refine v_M_parting_8 ⟨fun q => h r ⟨hr, fun m m1 m2 => hm m m1 (by omega) m2⟩, fun q => ⟨by omega, ?_⟩⟩
    obtain ⟨n, rfl⟩ : ∃ n : Nat, i = n := ⟨i.toNat, by omega⟩
    have nx : (PA (mi 135) n → pc r < pc n ∨ (pc r = pc n ∧ r ≤ n)) → h_M_parting_8 d (r : Int) ((n : Int) + (-1)) mi P := fun w => ih (by omega) (by omega) r hr (by omega) (fun m m1 m2 m3 => by
      by_cases e : m = n
      · subst e; exact w m3
      · exact hm m m1 (by omega) m3)
    refine s_M_bits (by omega) (s_M_bits hr.1 ⟨fun w => ⟨by omega, nx (fun _ => by omega)⟩, fun w => s_M_parts (by omega) (by omega) hn (fun p => ⟨fun e => absurd e (by decide), fun _ => ⟨by omega, ?_⟩⟩) (fun p => ⟨fun _ => ⟨by omega, nx (fun p2 => absurd p2 p)⟩, fun e => absurd e (by decide)⟩)⟩)
    refine ih (by omega) (by omega) n ⟨by omega, p⟩ (by omega) (fun m m1 m2 m3 => ?_)
    by_cases e : m = n
    · subst e; omega
    · have := hm m m1 (by omega) m3
      omega
  exact v_M_parting (L 65534 (by omega) (by omega) 65535 ⟨by omega, PA_all _⟩ (by omega) (fun m m1 m2 m3 => by
    have : m = 65535 := by omega
    subst this; omega))
/-- the class: what was gathered of the unlike pairs -/
def GPn (n : Nat) (t : Nat → Int) (R : Nat → Prop) : Prop := (∀ i : Nat, i < n → ∃ v : Nat, (v ≠ 0 ∧ v < 65536) ∧ t i = v) ∧ ∀ x : Nat, (∀ i : Nat, i < n → ∀ v : Nat, t i = v → v &&& x ≠ 0) ↔ R x
theorem GPn_skip {n : Nat} {t : Nat → Int} {R R' : Nat → Prop} (h : GPn n t R) (he : ∀ x, R x ↔ R' x) : GPn n t R' := ⟨h.1, fun x => (h.2 x).trans (he x)⟩
theorem GPn_add {n : Nat} {t : Nat → Int} {R : Nat → Prop} {w : Nat} (h : GPn n t R) (hw : w ≠ 0 ∧ w < 65536) : GPn (n + 1) (sv t n w) (fun x => R x ∧ w &&& x ≠ 0) := by
  refine ⟨fun i hi => ?_, fun x => ⟨fun H => ⟨(h.2 x).mp (fun i hi v hv => H i (by omega) v (by rw [svn _ _ (by omega)]; exact hv)), H n (by omega) w (sv_eq _ _ _)⟩, fun H i hi v hv => ?_⟩⟩
  · by_cases e : i = n
    · subst e; exact ⟨w, hw, sv_eq _ _ _⟩
    · rw [svn _ _ e]; exact h.1 i (by omega)
  · by_cases e : i = n
    · subst e; rw [sv_eq] at hv; rw [show v = w by omega]; exact H.2
    · rw [svn _ _ e] at hv; exact (h.2 x).mpr H.1 i (by omega) v hv
theorem s_B_gatherPartings {P : MT → Prop} (hd : 3 < d) (hI : Base mi) (h : ∀ (n : Nat) (t u : Nat → Int), n < 100 → (∀ j : Nat, j ≠ 7 → u j = mi 2 j) → u 7 = n → GPn n t (PA (mi 135)) → P (sv (sv mi 9 t) 2 u)) : c_B_gatherPartings d mi P := by
  obtain ⟨hs, ht, h1, h2, h3, h4, h5, h6, h7, h8, h9, h10⟩ := id hI
  have hn := h1
  unfold P_num at hn
  have I : ∀ a : Int, 0 ≤ a → a < mi 135 0 → (∀ (n : Nat) (t u : Nat → Int), (n : Int) ≤ 9 * (a + 1) → (∀ j : Nat, j ≠ 7 → u j = mi 2 j) → u 7 = n → GPn n t (fun x => ∀ a' b' : Int, 0 ≤ a' → a' < a + 1 → a' < b' → b' < mi 135 0 → dif (mi 135) a' b' ≠ 0 → dif (mi 135) a' b' &&& x ≠ 0) → h_B_gatherPartings_7 d (a + 1) (sv (sv mi 9 t) 2 u) P) → ∀ b : Int, b ≤ mi 135 0 → a < b → ∀ (n : Nat) (t u : Nat → Int), (n : Int) ≤ 9 * a + (b - a - 1) → (∀ j : Nat, j ≠ 7 → u j = mi 2 j) → u 7 = n → GPn n t (fun x => ∀ a' b' : Int, 0 ≤ a' → (a' < a ∨ (a' = a ∧ b' < b)) → a' < b' → b' < mi 135 0 → dif (mi 135) a' b' ≠ 0 → dif (mi 135) a' b' &&& x ≠ 0) → h_B_gatherPartings_19 d a b (sv (sv mi 9 t) 2 u) P := by
    intro a a0 a1 hc
    refine upto _ (fun b hb ih ab n t u nl hu h7' hG => ?_)
    refine v_B_gatherPartings_19 ?_
    simp only [svc, Nat.reduceEqDiff, reduceIte]
    rw [hu 8 (by decide)]
    have lt := dif_lt (mi 135) a b
    refine ⟨fun q => ⟨by omega, hc n t u (by omega) hu h7' (GPn_skip hG (fun x => ⟨fun H a' b' p p2 p3 p4 => H a' b' p (by omega) p3 p4, fun H a' b' p p2 p3 p4 => H a' b' p (by omega) p3 p4⟩))⟩, fun q => ⟨by omega, s_B_differences (mi := sv (sv mi 9 t) 2 u) (by omega) h2 (show mi 135 0 ≤ 10 by omega) (show 0 ≤ a ∧ a < mi 135 0 by omega) (show 0 ≤ b ∧ b < mi 135 0 by omega) ?_⟩⟩
    simp only [svc, Nat.reduceEqDiff, reduceIte]
    rw [h7']
    refine ⟨fun w => ⟨by omega, ih (by omega) (by omega) n t u (by omega) hu h7' (GPn_skip hG (fun x => ⟨fun H a' b' p p2 p3 p4 => ?_, fun H a' b' p p2 p3 p4 => H a' b' p (by omega) p3 p4⟩))⟩, fun w => ⟨by omega, ?_⟩⟩
    · by_cases e : a' = a ∧ b' = b
      · rw [e.1, e.2]; intro w2; omega
      · exact H a' b' p (by omega) p3 p4
    · have e : wt (wt (sv (sv mi 9 t) 2 u) 9 ((n : Int)).toNat (dif (mi 135) a b : Int)) 2 7 ((n : Int) + 1) = sv (sv mi 9 (sv t n (dif (mi 135) a b : Int))) 2 (sv u 7 ((n : Int) + 1)) := by
        rw [sv_comm mi (show 9 ≠ 2 by decide) t u, wt_sv, sv_comm mi (show 2 ≠ 9 by decide), wt_sv, Int.toNat_natCast]
      rw [e]
      refine ih (by omega) (by omega) (n + 1) _ _ (by omega) (fun j hj => by rw [svn _ _ hj]; exact hu j hj) (by rw [sv_eq]; omega) (GPn_skip (GPn_add hG ⟨by omega, lt⟩) (fun x => ⟨fun H a' b' p p2 p3 p4 => ?_, fun H => ⟨fun a' b' p p2 p3 p4 => H a' b' p (by omega) p3 p4, H a b a0 (by omega) ab (by omega) (by omega)⟩⟩))
      by_cases e2 : a' = a ∧ b' = b
      · rw [e2.1, e2.2]; exact fun _ => H.2
      · exact H.1 a' b' p (by omega) p3 p4
  have O : ∀ a : Int, a ≤ mi 135 0 → 0 ≤ a → ∀ (n : Nat) (t u : Nat → Int), (n : Int) ≤ 9 * a → (∀ j : Nat, j ≠ 7 → u j = mi 2 j) → u 7 = n → GPn n t (fun x => ∀ a' b' : Int, 0 ≤ a' → a' < a → a' < b' → b' < mi 135 0 → dif (mi 135) a' b' ≠ 0 → dif (mi 135) a' b' &&& x ≠ 0) → h_B_gatherPartings_7 d a (sv (sv mi 9 t) 2 u) P := by
    refine upto _ (fun a ha ih a0 n t u nl hu h7' hG => ?_)
    refine v_B_gatherPartings_7 ?_
    simp only [svc, Nat.reduceEqDiff, reduceIte]
    rw [hu 8 (by decide)]
    refine ⟨fun q => ?_, fun q => ⟨by omega, I a a0 (by omega) (fun n t u x1 x2 x3 x4 => ih (by omega) (by omega) n t u x1 x2 x3 x4) (a + 1) (by omega) (by omega) n t u (by omega) hu h7' (GPn_skip hG (fun x => ⟨fun H a' b' p p2 p3 p4 => H a' b' p (by omega) p3 p4, fun H a' b' p p2 p3 p4 => H a' b' p (by omega) p3 p4⟩))⟩⟩
    exact h n t u (by omega) hu h7' (GPn_skip hG (fun x => ⟨fun H a' b' p p2 p3 => H a' b' p (by omega) p2 p3, fun H a' b' p p2 p3 p4 => H a' b' p p3 p4⟩))
  have e : wt mi 2 7 0 = sv (sv mi 9 (mi 9)) 2 (sv (mi 2) 7 0) := by rw [sv_self mi 9]; rfl
  refine v_B_gatherPartings ?_
  rw [e]
  exact O 0 (by omega) (by omega) 0 (mi 9) _ (by omega) (fun j hj => svn _ _ hj) (sv_eq _ _ _) ⟨fun i hi => by omega, fun x => ⟨fun _ a' b' p p2 => by omega, fun _ i hi => by omega⟩⟩
theorem s_B_partsAll {P : Bool → MT → Prop} {n x : Nat} {R : Nat → Prop} (hn : n < 100) (hx : x < 65536) (h7 : mi 2 7 = n) (hG : GPn n (mi 9) R) (h1 : R x → P true mi) (h0 : ¬ R x → P false mi) : c_B_partsAll d (x : Int) mi P := by
  have L : ∀ i : Int, i ≤ n → 0 ≤ i → (∀ j : Nat, (j : Int) < i → ∀ v : Nat, mi 9 j = v → v &&& x ≠ 0) → h_B_partsAll_2 d (x : Int) i mi P := by
    refine upto _ (fun i hi ih i0 hp => ?_)
    refine v_B_partsAll_2 ?_
    rw [h7]
    refine ⟨fun q => h1 ((hG.2 x).mp (fun j hj v hv => hp j (by omega) v hv)), fun q => ?_⟩
    obtain ⟨v, hv, e⟩ := hG.1 i.toNat (by omega)
    rw [e, bAnd_nat (by omega) (by omega)]
    refine ⟨by omega, fun w => ⟨by omega, ih q (by omega) (fun j hj v' hv' => ?_)⟩, fun w => h0 (fun r => (hG.2 x).mpr r i.toNat (by omega) v e (by omega))⟩
    by_cases ej : (j : Int) = i
    · rw [show j = i.toNat by omega, e] at hv'; rw [show v' = v by omega]; omega
    · exact hp j (by omega) v' hv'
  exact v_B_partsAll (L 0 (by omega) (by omega) (fun j hj => by omega))
theorem xor_pow {x j : Nat} (hx : x < 2 ^ j) : x ^^^ 2 ^ j = 2 ^ j + x := by
  have := xor_split j 0 x 1 0 hx (Nat.two_pow_pos j)
  rw [Nat.zero_mul, Nat.zero_add, Nat.one_mul, Nat.add_zero, Nat.zero_xor, Nat.xor_zero, Nat.one_mul] at this
  exact this
theorem s_B_nextOfSize {P : Int → MT → Prop} {n : Nat} (hd : 1 < d) (h0 : 0 < n) (hn : n < 65536) (h : ∀ g : Nat, n < g → pc g = pc n → (∀ m : Nat, n < m → m < g → pc m ≠ pc n) → P (g : Int) mi) : c_B_nextOfSize d (n : Int) mi P := by
  obtain ⟨z, k, hh, k1, e⟩ := parts_of n h0
  have pz := Nat.two_pow_pos z
  have pk1 := Nat.two_pow_pos (k - 1)
  have ek : 2 ^ k = 2 * 2 ^ (k - 1) := by rw [← Nat.pow_succ', show (k - 1).succ = k by omega]
  have eB : 2 ^ (z + k) = 2 ^ k * 2 ^ z := by rw [Nat.pow_add, Nat.mul_comm]
  have eM : (2 ^ k - 1) * 2 ^ z = 2 ^ (z + k) - 2 ^ z := by rw [eB, Nat.sub_mul, Nat.one_mul]
  have eS : 2 ^ (z + k + 1) = 2 * 2 ^ (z + k) := by rw [Nat.pow_succ, Nat.mul_comm]
  have lz : 2 * 2 ^ z ≤ 2 ^ (z + k) := by rw [← Nat.pow_succ']; exact Nat.pow_le_pow_right (by decide) (by omega)
  have lk : 2 * 2 ^ (k - 1) ≤ 2 ^ (z + k) := by rw [← Nat.pow_succ']; exact Nat.pow_le_pow_right (by decide) (by omega)
  have z16 : z < 16 := by
    have : 2 ^ z < 2 ^ 16 := by omega
    exact (Nat.pow_lt_pow_iff_right (by decide)).mp this
  have zk : z + k < 17 := by
    have : 2 ^ (z + k) < 2 ^ 17 := by omega
    exact (Nat.pow_lt_pow_iff_right (by decide)).mp this
  have el : bAnd (n : Int) (-(n : Int)) = ((2 ^ z : Nat) : Int) := by
    rw [low_eq h0 (by omega)]
    have e2 : n = (2 * (hh * 2 ^ k + (2 ^ (k - 1) - 1)) + 1) * 2 ^ z := by
      rw [e, show 2 * (hh * 2 ^ k + (2 ^ (k - 1) - 1)) + 1 = hh * 2 ^ (k + 1) + (2 ^ k - 1) by rw [Nat.pow_succ 2 k, ← Nat.mul_assoc]; omega, Nat.add_mul, Nat.mul_assoc, ← Nat.pow_add, show k + 1 + z = z + k + 1 by omega]
    have := low_z z (hh * 2 ^ k + (2 ^ (k - 1) - 1))
    rw [← e2] at this
    rw [this]
  have ec : n + 2 ^ z = hh * 2 ^ (z + k + 1) + 2 ^ (z + k) := by omega
  have ex : n ^^^ (n + 2 ^ z) = 2 ^ (z + k) + (2 ^ k - 1) * 2 ^ z := by
    rw [ec, e, xor_split (z + k + 1) hh _ hh _ (by omega) (by omega), Nat.xor_self, Nat.zero_mul, Nat.zero_add, xor_pow (by omega)]
  have ed : (2 ^ (z + k) + (2 ^ k - 1) * 2 ^ z) / 2 ^ (2 + z) = 2 ^ (k - 1) - 1 := by
    rw [Nat.pow_add 2 2 z, Nat.mul_comm (2 ^ 2), ← Nat.div_div_eq_div_mul]
    have : 2 ^ (z + k) + (2 ^ k - 1) * 2 ^ z = (2 ^ k + (2 ^ k - 1)) * 2 ^ z := by rw [Nat.add_mul, eB]
    rw [this, Nat.mul_div_cancel _ pz]
    omega
  have eo : (n + 2 ^ z) ||| (2 ^ (k - 1) - 1) = hh * 2 ^ (z + k + 1) + 2 ^ (z + k) + (2 ^ (k - 1) - 1) := by
    have := or_split (z + k) (2 * hh + 1) 0 0 (2 ^ (k - 1) - 1) (Nat.two_pow_pos _) (by omega)
    rw [Nat.or_zero, Nat.zero_or, Nat.zero_mul, Nat.zero_add, Nat.add_zero] at this
    have e3 : (2 * hh + 1) * 2 ^ (z + k) = hh * 2 ^ (z + k + 1) + 2 ^ (z + k) := by rw [eS, Nat.add_mul, Nat.one_mul, Nat.mul_comm 2 hh, Nat.mul_assoc]
    rw [e3] at this
    rw [ec]; exact this
  refine v_B_nextOfSize ?_
  rw [el, ← Int.natCast_add, bXor_nat (by omega) (by omega), ex]
  refine ⟨by omega, s_I_ntz z16 ⟨by omega, ?_⟩⟩
  have es : iShr ((2 ^ (z + k) + (2 ^ k - 1) * 2 ^ z : Nat) : Int) (2 + (z : Int)) = ((2 ^ (k - 1) - 1 : Nat) : Int) := by
    have := iShr_div (x := ((2 ^ (z + k) + (2 ^ k - 1) * 2 ^ z : Nat) : Int)) (2 + z) (by omega) (by omega)
    rw [show (((2 + z : Nat)) : Int) = 2 + (z : Int) by omega] at this
    rw [this, ← ed]
    push_cast
    rfl
  rw [es, bOr_nat (by omega) (by omega), eo]
  refine h _ (by omega) ?_ (fun m m1 m2 => ?_)
  · rw [e]; exact next_pc k1
  · rw [e]; rw [e] at m1; exact next_min k1 m1 m2
theorem ca_parting (hI : Base mi) (hd : 20 ≤ d) : c_C_parting d mi (fun z m1 => c_M_parting d m1 (fun z' m2 => Bth z z' mi m2)) := by
  obtain ⟨hs, ht, h1, h2, h3, h4, h5, h6, h7, h8, h9, h10⟩ := id hI
  have hn := h1
  unfold P_num at hn
  refine v_C_parting ⟨by omega, v_B_leastParting ⟨by omega, s_B_gatherPartings (by omega) hI (fun n t u n100 hu u7 hG => ?_)⟩⟩
  simp only [svc, Nat.reduceEqDiff, reduceIte]
  rw [u7]
  have hB : Base (sv (sv mi 9 t) 2 u) := by
    unfold Base Hs
    simp only [svc, Nat.reduceEqDiff, reduceIte]
    refine ⟨hs, ht, ?_, h2, h3, h4, h5, h6, h7, h8, h9, h10⟩
    unfold P_num; rw [hu 8 (by decide), hu 9 (by decide), hu 10 (by decide)]; exact h1
  have hK : Kp mi (sv (sv mi 9 t) 2 u) := by (repeat' (first | exact Kp.rfl' _ | refine Kp.w0 ?_ (by decide) | refine Kp.w134 ?_ (by decide) | refine Kp.w135 ?_ (by omega) | refine Kp.wo ?_ (by decide) | refine Kp.cp ?_ (by decide) | refine Kp.o ?_ (by decide)))
  have M : ∀ r : Nat, isLP (mi 135) r → c_M_parting d (sv (sv mi 9 t) 2 u) (fun z' m2 => Bth (r : Int) z' mi m2) := fun r hr => s_M_parting (mi := sv (sv mi 9 t) 2 u) (by omega) (show 0 ≤ mi 135 0 ∧ mi 135 0 ≤ 10 by omega) (fun r' hr' => Bth.mk (by rw [isLP_one hr hr']) hB hK)
  have z0 : n = 0 → PA (mi 135) 0 := fun e => by subst e; exact (hG.2 0).mp (fun i hi => by omega)
  have zN : n ≠ 0 → ¬ PA (mi 135) 0 := fun e p => by
    obtain ⟨v, hv, ev⟩ := hG.1 0 (by omega)
    exact (hG.2 0).mpr p 0 (by omega) v ev (Nat.and_zero v)
  refine ⟨fun q => ?_, fun q => ?_⟩
  · -- sizes one by one
    have nz := zN (by omega)
    have I : ∀ s : Nat, 1 ≤ s → s ≤ 16 → (∀ m : Nat, m < 65536 → pc m < s → ¬ PA (mi 135) m) → ((∀ m : Nat, m < 65536 → pc m < s + 1 → ¬ PA (mi 135) m) → h_B_leastParting_15 (d - 1) ((s : Int) + 1) (sv (sv mi 9 t) 2 u) (fun z1 m1 => c_M_parting d m1 (fun z' m2 => Bth z1 z' mi m2))) → ∀ (j : Nat) (x i : Nat), 65536 - x ≤ j → pc x = s → i + 1 ≤ x → (∀ m : Nat, m < 65536 → pc m = s → m < x → ¬ PA (mi 135) m) → h_B_leastParting_29 (d - 1) (s : Int) (x : Int) (i : Int) (sv (sv mi 9 t) 2 u) (fun z1 m1 => c_M_parting d m1 (fun z' m2 => Bth z1 z' mi m2)) := by
      intro s s1 s16 hlow hc j
      induction j with
      | zero =>
        intro x i hj hx hix hm
        have nx : h_B_leastParting_15 (d - 1) ((s : Int) + 1) (sv (sv mi 9 t) 2 u) (fun z1 m1 => c_M_parting d m1 (fun z' m2 => Bth z1 z' mi m2)) := hc (fun m m1 m2 => by
          by_cases e : pc m = s
          · exact hm m m1 e (by omega)
          · exact hlow m m1 (by omega))
        exact v_B_leastParting_29 ⟨fun _ => ⟨by omega, nx⟩, fun _ => ⟨fun _ => ⟨by omega, nx⟩, fun w => by omega⟩⟩
      | succ j ih =>
        intro x i hj hx hix hm
        have nx : 65536 ≤ x → h_B_leastParting_15 (d - 1) ((s : Int) + 1) (sv (sv mi 9 t) 2 u) (fun z1 m1 => c_M_parting d m1 (fun z' m2 => Bth z1 z' mi m2)) := fun w => hc (fun m m1 m2 => by
          by_cases e : pc m = s
          · exact hm m m1 e (by omega)
          · exact hlow m m1 (by omega))
        refine v_B_leastParting_29 ⟨fun w => ⟨by omega, nx (by omega)⟩, fun w => ⟨fun w2 => ⟨by omega, nx (by omega)⟩, fun w2 => ⟨by omega, ?_⟩⟩⟩
        refine s_B_partsAll (mi := sv (sv mi 9 t) 2 u) n100 (by omega) u7 hG (fun p => ⟨fun e => absurd e (by decide), fun _ => M x ⟨⟨by omega, p⟩, fun m m1 m2 => ?_⟩⟩) (fun p => ⟨fun _ => s_B_nextOfSize (by omega) (by omega) (by omega) (fun g g1 g2 g3 => ⟨by omega, ?_⟩), fun e => absurd e (by decide)⟩)
        · by_cases e : pc m < s
          · exact absurd m2 (hlow m m1 e)
          · by_cases e2 : pc m = s
            · right; refine ⟨by omega, ?_⟩
              by_cases e3 : m < x
              · exact absurd m2 (hm m m1 e2 e3)
              · omega
            · left; omega
        · have := ih g (i + 1) (by omega) (by omega) (by omega) (fun m m1 m2 m3 => by
            by_cases e : m < x
            · exact hm m m1 m2 e
            · by_cases e2 : m = x
              · subst e2; exact p
              · exact absurd (by omega) (g3 m (by omega) m3))
          rw [Int.natCast_add] at this
          exact this
    have O : ∀ s : Int, s ≤ 17 → 1 ≤ s → (∀ m : Nat, m < 65536 → (pc m : Int) < s → ¬ PA (mi 135) m) → h_B_leastParting_15 (d - 1) s (sv (sv mi 9 t) 2 u) (fun z1 m1 => c_M_parting d m1 (fun z' m2 => Bth z1 z' mi m2)) := by
      refine upto _ (fun s hs2 ih s1 hlow => ?_)
      refine v_B_leastParting_15 ⟨fun w => ?_, fun w => ?_⟩
      · exact absurd (PA_all (mi 135)) (hlow 65535 (by omega) (by have := pc_le 16 65535 (by decide); omega))
      · obtain ⟨k, rfl⟩ : ∃ k : Nat, s = k := ⟨s.toNat, by omega⟩
        have p : 2 ^ k ≤ 2 ^ 16 := Nat.pow_le_pow_right (by decide) (by omega)
        have p2 : 2 ^ 1 ≤ 2 ^ k := Nat.pow_le_pow_right (by decide) (by omega)
        have e1 : iShl 1 (k : Int) = ((2 ^ k : Nat) : Int) := by
          have e : (1 : Int) * 2 ^ k = ((2 ^ k : Nat) : Int) := by rw [Int.one_mul]; push_cast; rfl
          rw [iShl_mul k (by omega) (by rw [e]; omega), e]
        rw [e1, show ((2 ^ k : Nat) : Int) - 1 = ((2 ^ k - 1 : Nat) : Int) by omega]
        refine ⟨by omega, I k (by omega) (by omega) (fun m m1 m2 => hlow m m1 (by omega)) (fun H => ih (by omega) (by omega) (fun m m1 m2 => H m m1 (by omega))) 65536 (2 ^ k - 1) 0 (by omega) (pc_ones k) (by omega) (fun m m1 m2 m3 => ?_)⟩
        have := pc_lt k m (by omega)
        omega
    exact O 1 (by omega) (by omega) (fun m m1 m2 => by
      by_cases e : m = 0
      · subst e; exact nz
      · have := pc_pos 16 m (by omega) (by omega); omega)
  · exact M 0 ⟨⟨by omega, z0 (by omega)⟩, fun m m1 m2 => by
      by_cases e : m = 0
      · subst e; right; exact ⟨rfl, Nat.le_refl 0⟩
      · left; rw [pc_0]; exact pc_pos 16 m (by omega) (by omega)⟩
end PART
