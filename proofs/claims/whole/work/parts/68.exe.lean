section EXE
variable {d : Nat} {mi : MT}
theorem nx_1 (v : Nat) : v ^^^ 1 = 2 * (v / 2) + (1 - v % 2) := by
  have h1 : (v ^^^ 1) / 2 = v / 2 := by rw [Nat.xor_div_two]; simp
  have h2 : (v ^^^ 1) % 2 ^ 1 = (v % 2 ^ 1) ^^^ (1 % 2 ^ 1) := Nat.xor_mod_two_pow
  have hv : v % 2 ^ 1 = 0 ∨ v % 2 ^ 1 = 1 := by omega
  have h3 : (v ^^^ 1) % 2 ^ 1 = 1 - v % 2 ^ 1 := by
    rcases hv with q | q <;> rw [h2, q] <;> decide
  omega
theorem bXor_1 {v : Int} (h : 0 ≤ v ∧ v < 1000000) : bXor v 1 = 2 * (v / 2) + (1 - v % 2) := by
  obtain ⟨x, rfl⟩ : ∃ x : Nat, v = x := ⟨v.toNat, by omega⟩
  have := bXor_nat (a := x) (b := 1) (by omega) (by omega)
  rw [show ((1 : Nat) : Int) = 1 from rfl] at this
  rw [this, nx_1]
  omega
theorem bOr_2 {a b : Int} (ha : 0 ≤ a ∧ a < 1000000) (hb : 0 ≤ b ∧ b < 2) : bOr (a * 2) b = a * 2 + b := by
  obtain ⟨x, rfl⟩ : ∃ x : Nat, a = x := ⟨a.toNat, by omega⟩
  obtain ⟨y, rfl⟩ : ∃ y : Nat, b = y := ⟨b.toNat, by omega⟩
  have e := Nat.two_pow_add_eq_or_of_lt (i := 1) (b := y) (by omega) x
  rw [show (x : Int) * 2 = ((2 ^ 1 * x : Nat) : Int) by omega, bOr_nat (by omega) (by omega), ← e]
  omega
theorem bOr_lo {v b : Int} (h : 0 ≤ v ∧ v < 1000000) (hb : 0 ≤ b ∧ b < 2) : bOr v b = 2 * (v / 2) + (if v % 2 = 1 ∨ b = 1 then 1 else 0) := by
  have hv : v % 2 = 0 ∨ v % 2 = 1 := by omega
  rcases hv with hv | hv
  · have := bOr_2 (a := v / 2) (b := b) (by omega) hb
    rw [show v / 2 * 2 = v by omega] at this
    rw [this]
    split <;> omega
  · rw [if_pos (Or.inl hv)]
    obtain ⟨x, rfl⟩ : ∃ x : Nat, v = x := ⟨v.toNat, by omega⟩
    obtain ⟨y, rfl⟩ : ∃ y : Nat, b = y := ⟨b.toNat, by omega⟩
    rw [bOr_nat (by omega) (by omega)]
    have e := Nat.two_pow_add_eq_or_of_lt (i := 1) (b := 1) (by omega) (x / 2)
    have y2 : y = 0 ∨ y = 1 := by omega
    rcases y2 with rfl | rfl
    · rw [Nat.or_zero]; omega
    · have : x ||| 1 = x := by
        conv => lhs; rw [show x = 2 ^ 1 * (x / 2) + 1 by omega, e]
        rw [Nat.or_assoc, Nat.or_self, ← e]; omega
      rw [this]; omega
theorem bAnd_m1 {v : Int} (h : 0 ≤ v ∧ v < 1000000) : bAnd v (-1) = v := by
  unfold bAnd
  rw [show i3 (-1) = (-1 : Int32) from rfl, Int32.and_neg_one]
  exact i3_val (by unfold ir; omega)
theorem bOr_z (y : Int32) : bOr y.toInt 0 = y.toInt := by
  unfold bOr
  rw [show i3 0 = (0 : Int32) from rfl, Int32.or_zero]
  show (Int32.ofInt y.toInt).toInt = _
  rw [Int32.ofInt_toInt]
theorem bAnd_m2 {v : Int} (h : 0 ≤ v ∧ v < 1000000) : bAnd v (-2) = 2 * (v / 2) := by
  obtain ⟨x, rfl⟩ : ∃ x : Nat, v = x := ⟨v.toNat, by omega⟩
  have e := ins_bits (s := x) (v := 0) 0 1 (by omega) (by omega) (by omega)
  have e2 : bXor (((2 ^ 1 - 1) * 2 ^ 0 : Nat) : Int) (-1) = -2 := by decide
  rw [e2] at e
  have e3 : bOr (bAnd x (-2)) ((0 * 2 ^ 0 : Nat) : Int) = bAnd x (-2) := bOr_z _
  rw [e3] at e
  rw [e]
  simp only [Nat.pow_zero, Nat.div_one, Nat.pow_one]
  omega
def bi (b : Bool) : Int := if b then 1 else 0
def enc : List Bool → Int
  | [] => 1
  | b :: s => 2 * enc s + bi b
theorem bi_in (b : Bool) : bi b = 0 ∨ bi b = 1 := by cases b <;> simp [bi]
theorem enc_in : ∀ s : List Bool, 1 ≤ enc s ∧ enc s < 2 * 2 ^ s.length
  | [] => by decide
  | b :: s => by
    have h := enc_in s
    have := bi_in b
    simp only [enc, List.length_cons]
    rw [Int.pow_succ]
    omega
theorem enc_15 {s : List Bool} (h : s.length ≤ 15) : 1 ≤ enc s ∧ enc s < 65536 := by
  have a := enc_in s
  have b : (2 : Int) ^ s.length ≤ 2 ^ 15 := by
    have := Nat.pow_le_pow_right (n := 2) (by decide) h
    exact_mod_cast this
  omega
def top : List Bool → Bool
  | [] => true
  | b :: _ => b
theorem enc_top (s : List Bool) : enc s % 2 = 1 ↔ top s = true := by
  cases s with
  | nil => decide
  | cons b s =>
    simp only [enc, top]
    cases b <;> simp [bi] <;> omega
def cmpB (t : Nat → Int) (z : Int) : Bool := if z / 1048576 = 0 then decide (amtv t (z / 1024 % 1024) < amtv t (z % 1024)) else if z / 1048576 = 1 then decide (amtv t (z % 1024) < amtv t (z / 1024 % 1024)) else decide (amtv t (z / 1024 % 1024) = amtv t (z % 1024))
def s3 : List Bool → List Bool
  | x :: s => (!x) :: s
  | [] => []
def s4 : List Bool → List Bool
  | x :: y :: s => (y && x) :: s
  | s => s
def s5 : List Bool → List Bool
  | x :: y :: s => (y || x) :: s
  | s => s
def st1 (t : Nat → Int) (z : Int) (s : List Bool) : List Bool := if z / 1048576 < 3 then cmpB t z :: s else if z / 1048576 = 3 then s3 s else if z / 1048576 = 4 then s4 s else s5 s
def exe (t co : Nat → Int) : Nat → Int → List Bool → List Bool
  | 0, _, s => s
  | k + 1, i, s => exe t co k (i + 1) (st1 t (co i.toNat) s)
theorem s_U_compares {P : Bool → MT → Prop} {z : Int} (hd : 0 < d) (hz : 0 ≤ z ∧ z < 6291456) (h : P (cmpB (mi 101) z) mi) : c_U_compares d z mi P := by
  refine v_U_compares ⟨by omega, fun q => ⟨fun w => ?_, fun w => ?_⟩, fun q => ⟨fun w => ?_, fun w => ?_⟩, fun q => ⟨fun w => ?_, fun w => ?_⟩⟩
  · rw [cmpB, if_pos q, decide_eq_false (by omega)] at h; exact h
  · rw [cmpB, if_pos q, decide_eq_true w] at h; exact h
  · rw [cmpB, if_neg (by omega), if_pos q, decide_eq_false (by omega)] at h; exact h
  · rw [cmpB, if_neg (by omega), if_pos q, decide_eq_true w] at h; exact h
  · rw [cmpB, if_neg q.1, if_neg q.2, decide_eq_false w] at h; exact h
  · rw [cmpB, if_neg q.1, if_neg q.2, decide_eq_true w] at h; exact h
theorem l_U_holds {P : Bool → MT → Prop} {l1 j : Int} (hd : 1 < d) (hj : j ≤ 400) : ∀ (k : Nat) (i h' : Int) (s : List Bool), j = i + k → 0 ≤ i → (∀ x : Int, i ≤ x → x < j → 0 ≤ mi 11 x.toNat ∧ mi 11 x.toNat < 6291456) → Bal (mi 11) k i s.length h' → s.length ≤ 15 → P (top (exe (mi 101) (mi 11) k i s)) mi → h_U_holds_6 d l1 j (enc s) i mi P := by
  intro k
  induction k with
  | zero =>
    intro i h' s hi i0 hc hb hs h
    refine v_U_holds_6 ⟨fun _ => ⟨fun w => ?_, fun w => ?_⟩, fun q => by omega⟩
    · have : top s = false := by
        cases e : top s with
        | false => rfl
        | true => exact absurd ((enc_top s).mpr e) w
      rw [exe, this] at h; exact h
    · rw [exe, (enc_top s).mp w] at h; exact h
  | succ k ih =>
    intro i h' s hi i0 hc hb hs h
    have z := hc i (by omega) (by omega)
    have e15 := enc_15 hs
    have hc' : ∀ x : Int, i + 1 ≤ x → x < j → 0 ≤ mi 11 x.toNat ∧ mi 11 x.toNat < 6291456 := fun x a b => hc x (by omega) b
    rw [exe] at h
    refine v_U_holds_6 ⟨fun q => by omega, fun _ => ⟨by omega, fun q => ⟨by omega, ?_⟩, fun q => ⟨by omega, by omega, ?_⟩, fun q => ⟨by omega, by omega, ?_⟩, fun q => ⟨by omega, ?_⟩⟩⟩
    · rw [st1, if_neg (by omega), if_pos q] at h
      rcases hb with b | ⟨b1, b2, b3⟩ | b
      · omega
      · cases s with
        | nil => simp at b2
        | cons x s =>
          rw [bXor_1 (by omega)]
          have bx := bi_in x
          have e : 2 * (enc (x :: s) / 2) + (1 - enc (x :: s) % 2) = enc ((!x) :: s) := by
            simp only [enc]
            cases x <;> simp [bi] <;> omega
          rw [e]
          exact ih (i + 1) h' ((!x) :: s) (by omega) (by omega) hc' b3 hs h
      · omega
    · rw [st1, if_neg (by omega), if_neg (by omega), if_pos q] at h
      rcases hb with b | b | ⟨b1, b2, b3⟩
      · omega
      · omega
      · match s, h, b2, b3, hs, e15 with
        | [], _, b2, _, _, _ => simp at b2
        | [x], _, b2, _, _, _ => simp at b2
        | x :: y :: s, h, b2, b3, hs, e15 =>
          have bx := bi_in x
          have by' := bi_in y
          have e : bAnd (enc (x :: y :: s) / 2) (bOr (enc (x :: y :: s) % 2) (-2)) = enc ((y && x) :: s) := by
            have d2 : enc (x :: y :: s) / 2 = enc (y :: s) := by simp only [enc] at *; omega
            have m2 : enc (x :: y :: s) % 2 = bi x := by simp only [enc] at *; omega
            rw [d2, m2]
            have ey : 0 ≤ enc (y :: s) ∧ enc (y :: s) < 1000000 := by simp only [enc] at *; omega
            cases x with
            | true =>
              rw [show bOr (bi true) (-2) = -1 by decide, bAnd_m1 ey, Bool.and_true]
            | false =>
              rw [show bOr (bi false) (-2) = -2 by decide, bAnd_m2 ey, Bool.and_false]
              simp only [enc]
              have : bi false = 0 := rfl
              omega
          rw [e]
          refine ih (i + 1) h' ((y && x) :: s) (by omega) (by omega) hc' ?_ (by simp only [List.length_cons] at *; omega) h
          rw [show (((x :: y :: s).length : Nat) : Int) - 1 = (((y && x) :: s).length : Nat) by simp only [List.length_cons]; omega] at b3
          exact b3
    · rw [st1, if_neg (by omega), if_neg (by omega), if_neg (by omega)] at h
      rcases hb with b | b | ⟨b1, b2, b3⟩
      · omega
      · omega
      · match s, h, b2, b3, hs, e15 with
        | [], _, b2, _, _, _ => simp at b2
        | [x], _, b2, _, _, _ => simp at b2
        | x :: y :: s, h, b2, b3, hs, e15 =>
          have bx := bi_in x
          have by' := bi_in y
          have e : bOr (enc (x :: y :: s) / 2) (enc (x :: y :: s) % 2) = enc ((y || x) :: s) := by
            have d2 : enc (x :: y :: s) / 2 = enc (y :: s) := by simp only [enc] at *; omega
            have m2 : enc (x :: y :: s) % 2 = bi x := by simp only [enc] at *; omega
            rw [d2, m2]
            have ey : 0 ≤ enc (y :: s) ∧ enc (y :: s) < 1000000 := by simp only [enc] at *; omega
            rw [bOr_lo ey (by omega)]
            simp only [enc]
            cases x <;> cases y <;> simp [bi] <;> omega
          rw [e]
          refine ih (i + 1) h' ((y || x) :: s) (by omega) (by omega) hc' ?_ (by simp only [List.length_cons] at *; omega) h
          rw [show (((x :: y :: s).length : Nat) : Int) - 1 = (((y || x) :: s).length : Nat) by simp only [List.length_cons]; omega] at b3
          exact b3
    · have q3 : mi 11 i.toNat / 1048576 < 3 := by omega
      rw [st1, if_pos q3] at h
      rcases hb with ⟨b1, b2, b3⟩ | b | b
      · refine s_U_compares (by omega) z ?_
        have K : ∀ c : Bool, cmpB (mi 101) (mi 11 i.toNat) = c → h_U_holds_6 d l1 j (bOr (enc s * 2) (bi c)) (i + 1) mi P := by
          intro c hcv
          rw [hcv] at h
          have bc := bi_in c
          have e : bOr (enc s * 2) (bi c) = enc (c :: s) := by
            rw [bOr_2 (by omega) (by omega)]; simp only [enc]; omega
          rw [e]
          refine ih (i + 1) h' (c :: s) (by omega) (by omega) hc' ?_ (by simp only [List.length_cons]; omega) h
          rw [show ((s.length : Nat) : Int) + 1 = ((c :: s).length : Nat) by simp only [List.length_cons]; omega] at b3
          exact b3
        exact ⟨fun e => ⟨by omega, K false e⟩, fun e => ⟨by omega, K true e⟩⟩
      · omega
      · omega
end EXE
