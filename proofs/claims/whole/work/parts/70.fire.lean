section FIRE
variable {d : Nat} {mi : MT}
def fires (t co en : Nat → Int) (q : Int) : Bool := top (exe t co (en q.toNat - lo en q).toNat (lo en q) [])
def msk (t co en : Nat → Int) : Nat → Int
  | 0 => 0
  | k + 1 => msk t co en k + bi (fires t co en k) * (2 ^ k : Nat)
theorem msk_in (t co en : Nat → Int) : ∀ k : Nat, 0 ≤ msk t co en k ∧ msk t co en k < (2 ^ k : Nat)
  | 0 => by simp [msk]
  | k + 1 => by
    have h := msk_in t co en k
    have b := bi_in (fires t co en k)
    simp only [msk]
    have e : ((2 ^ (k + 1) : Nat) : Int) = 2 * ((2 ^ k : Nat) : Int) := by rw [Nat.pow_succ]; omega
    rw [e]
    rcases b with b | b <;> rw [b] <;> omega
theorem shl_1 {k : Int} (h : 0 ≤ k ∧ k < 12) : iShl 1 k = (2 ^ k.toNat : Nat) := by
  have : k = 0 ∨ k = 1 ∨ k = 2 ∨ k = 3 ∨ k = 4 ∨ k = 5 ∨ k = 6 ∨ k = 7 ∨ k = 8 ∨ k = 9 ∨ k = 10 ∨ k = 11 := by omega
  rcases this with rfl | rfl | rfl | rfl | rfl | rfl | rfl | rfl | rfl | rfl | rfl | rfl <;> decide
theorem bOr_top {x : Int} {k : Nat} (hk : k < 12) (h : 0 ≤ x ∧ x < (2 ^ k : Nat)) : bOr x (2 ^ k : Nat) = x + (2 ^ k : Nat) := by
  obtain ⟨y, rfl⟩ : ∃ y : Nat, x = y := ⟨x.toNat, by omega⟩
  have p : 2 ^ k ≤ 2 ^ 12 := Nat.pow_le_pow_right (by decide) (by omega)
  have e := Nat.two_pow_add_eq_or_of_lt (i := k) (b := y) (by omega) 1
  rw [bOr_nat (by omega) (by omega), Nat.or_comm]
  rw [Nat.mul_one] at e
  rw [← e]
  omega
theorem s_U_firing {P : Int → MT → Prop} {cc hh : Int} (hd : 4 < d) (hh0 : mi 10 5 = hh) (hr : 0 ≤ hh ∧ hh ≤ 12) (hcc : cc ≤ 400) (hc : ∀ x : Int, 0 ≤ x → x < cc → 0 ≤ mi 11 x.toNat ∧ mi 11 x.toNat < 6291456)
    (hq : ∀ q : Int, 0 ≤ q → q < hh → (0 ≤ lo (mi 12) q ∧ lo (mi 12) q ≤ mi 12 q.toNat ∧ mi 12 q.toNat ≤ cc) ∧ (lo (mi 12) q = mi 12 q.toNat ∨ BL (mi 11) (lo (mi 12) q) (mi 12 q.toNat) 0 1))
    (h : P (msk (mi 101) (mi 11) (mi 12) hh.toNat) mi) : c_U_firing d mi P := by
  refine v_U_firing ?_
  have L : ∀ q : Int, q ≤ hh → 0 ≤ q → h_U_firing_7 d (msk (mi 101) (mi 11) (mi 12) q.toNat) (lo (mi 12) q) q mi P := by
    refine upto _ (fun q hq1 ih q0 => ?_)
    refine v_U_firing_7 ?_
    rw [hh0]
    refine ⟨fun w => ?_, fun w => ⟨by omega, ?_⟩⟩
    · rw [show q = hh by omega]; exact h
    · obtain ⟨⟨x1, x2, x3⟩, x4⟩ := hq q q0 w
      have ih := ih w (by omega)
      have mi1 := msk_in (mi 101) (mi 11) (mi 12) q.toNat
      have ln : lo (mi 12) (q + 1) = mi 12 q.toNat := by unfold lo; rw [if_neg (by omega), show (q + 1 - 1).toNat = q.toNat by omega]
      rw [ln, show (q + 1).toNat = q.toNat + 1 by omega] at ih
      simp only [msk] at ih
      rw [show ((q.toNat : Nat) : Int) = q by omega] at ih
      refine v_U_holds (l_U_holds (mi := mi) (j := mi 12 q.toNat) (by omega) (by omega) (mi 12 q.toNat - lo (mi 12) q).toNat (lo (mi 12) q) (if lo (mi 12) q = mi 12 q.toNat then 0 else 1) [] (by omega) x1 (fun x a b => hc x (by omega) (by omega)) ?_ (by simp) ?_)
      · split
        · rename_i w2
          rw [show (mi 12 q.toNat - lo (mi 12) q).toNat = 0 by omega]; rfl
        · rcases x4 with w2 | w2
          · omega
          · exact w2.2
      · show (fires (mi 101) (mi 11) (mi 12) q = false → _) ∧ (fires (mi 101) (mi 11) (mi 12) q = true → _)
        refine ⟨fun e => ⟨by omega, ?_⟩, fun e => ⟨by omega, ?_⟩⟩
        · rw [e, show bi false = 0 from rfl, Int.zero_mul, Int.add_zero] at ih
          exact ih
        · rw [e, show bi true = 1 from rfl, Int.one_mul] at ih
          rw [shl_1 (by omega), bOr_top (by omega) mi1]
          exact ih
  exact L 0 (by omega) (by omega)
theorem msk_bit (t co en : Nat → Int) : ∀ (k q : Nat), q < k → msk t co en k / (2 ^ q : Nat) % 2 = bi (fires t co en q) := by
  intro k
  induction k with
  | zero => intro q hq; omega
  | succ k ih =>
    intro q hq
    have mk := msk_in t co en k
    have b := bi_in (fires t co en k)
    simp only [msk]
    by_cases c : q = k
    · subst c
      have pp : (0 : Int) < (2 ^ q : Nat) := by have := Nat.two_pow_pos q; omega
      rw [Int.add_mul_ediv_right _ _ (by omega), Int.ediv_eq_zero_of_lt mk.1 mk.2]
      omega
    · have ih := ih q (by omega)
      have pp : (0 : Int) < (2 ^ q : Nat) := by have := Nat.two_pow_pos q; omega
      have e : ((2 ^ k : Nat) : Int) = (2 * (2 ^ (k - 1 - q) : Nat) : Int) * (2 ^ q : Nat) := by
        have : 2 ^ k = 2 * 2 ^ (k - 1 - q) * 2 ^ q := by
          rw [Nat.mul_assoc, ← Nat.pow_add, ← Nat.pow_succ']
          congr 1; omega
        rw [this]; simp only [Int.natCast_mul]; rfl
      rw [e, ← Int.mul_assoc, Int.add_mul_ediv_right _ _ (by omega)]
      rcases b with b | b <;> rw [b] <;> omega
end FIRE
