section BEST
variable {d : Nat} {mi : MT}
/-- the latest reading -/
def Lat (m : MT) : Prop := (0 ≤ m 0 11 ∧ m 0 11 ≤ 20) ∧ ((m 134 50 = -1 ∧ m 117 9 = 0 ∧ m 117 10 = 0) ∨ ((1 ≤ m 134 50 ∧ m 134 50 ≤ 20) ∧ m 117 9 = m 134 50 ∧ m 117 10 = m 134 52 ∧ m 0 11 = m 134 51 ∧ (1 ≤ m 134 52 ∧ m 134 51 + m 134 52 ≤ 20) ∧ (∀ k : Int, 0 ≤ k → k < m 134 50 → m 122 k.toNat = m 165 k.toNat) ∧ ∀ k : Int, 0 ≤ k → k < m 134 52 → m 123 k.toNat = m 166 k.toNat ∧ m 124 k.toNat = m 167 k.toNat))
theorem Lat_kp {m m2 : MT} (h : Lat m) (k : Kp m m2) : Lat m2 := by
  unfold Lat
  rw [k.2.2.1, k.2.2.2 50 (by omega), k.2.2.2 51 (by omega), k.2.2.2 52 (by omega), k.1 117 rfl, k.1 122 rfl, k.1 123 rfl, k.1 124 rfl, k.1 165 rfl, k.1 166 rfl, k.1 167 rfl]
  exact h
theorem ca_best {a : Int} (hI : Base mi) (hL : Lat mi) (hd : 20 ≤ d) : c_C_best d a mi (fun z m1 => c_M_best d a m1 (fun z' m2 => Bth z z' mi m2)) := by
  have G : ∀ z z' : Int, z = z' → Bth z z' mi mi := fun z z' e => Bth.mk e hI (Kp.rfl' _)
  obtain ⟨l0, ⟨l1, l2, l3⟩ | ⟨l1, l2, l3, l4, l5, l6, l7⟩⟩ := hL
  · have R : c_M_best d a mi (fun z' m2 => Bth (-1) z' mi m2) := v_M_best ⟨fun _ => G _ _ rfl, fun w => absurd l1 w⟩
    exact v_C_best ⟨fun n => ⟨by omega, fun _ => R, fun w => by omega⟩, fun e => ⟨fun _ => ⟨by omega, fun _ => R, fun w => by omega⟩, fun w => by omega⟩⟩
  · have R : ∀ z : Int, (-1 ≤ a → a ≤ mi 134 50 - 1 → (a = -1 → z = mi 134 50) ∧ (¬ a = -1 → z = mi 165 a.toNat)) → (¬ (-1 ≤ a ∧ a ≤ mi 134 50 - 1) → z = -1) → c_M_best d a mi (fun z' m2 => Bth z z' mi m2) := fun z h1 h2 => v_M_best ⟨fun w => by omega, fun _ => ⟨by omega, fun w => ⟨fun n => ⟨by omega, G _ _ ((h1 w.1 w.2).2 n)⟩, fun e => G _ _ ((h1 w.1 w.2).1 e)⟩, fun w => G _ _ (h2 w)⟩⟩
    refine v_C_best ⟨fun n => ⟨by omega, fun w => R _ (fun q1 q2 => by omega) (fun _ => rfl), fun w => ⟨by omega, R _ (fun q1 q2 => ⟨fun e => absurd e n, fun _ => l6 a (by omega) (by omega)⟩) (fun q => by omega)⟩⟩, fun e => ⟨fun w => by omega, fun w => R _ (fun q1 q2 => ⟨fun _ => l2, fun n => absurd e n⟩) (fun q => by omega)⟩⟩
theorem ca_led {a b : Int} (hI : Base mi) (hL : Lat mi) (hd : 20 ≤ d) : c_C_led d a b mi (fun z m1 => c_M_led d a b m1 (fun z' m2 => Bth z z' mi m2)) := by
  have G : ∀ z z' : Int, z = z' → Bth z z' mi mi := fun z z' e => Bth.mk e hI (Kp.rfl' _)
  obtain ⟨l0, ⟨l1, l2, l3⟩ | ⟨l1, l2, l3, l4, l5, l6, l7⟩⟩ := hL
  · have R : c_M_led d a b mi (fun z' m2 => Bth (-1) z' mi m2) := v_M_led ⟨fun _ => G _ _ rfl, fun w => absurd l1 w⟩
    exact v_C_led ⟨by omega, fun _ => R, fun w => ⟨fun _ => R, fun w2 => ⟨by omega, fun w3 => by omega, fun _ => R⟩⟩⟩
  · have R : ∀ z : Int, (mi 134 51 ≤ a ∧ a ≤ mi 134 51 + mi 134 52 - 1 → (0 ≤ b ∧ b ≤ 1) → (b = 0 → z = mi 166 (a - mi 134 51).toNat) ∧ (¬ b = 0 → z = mi 167 (a - mi 134 51).toNat)) → (¬ (mi 134 51 ≤ a ∧ a ≤ mi 134 51 + mi 134 52 - 1) ∨ ¬ (0 ≤ b ∧ b ≤ 1) → z = -1) → c_M_led d a b mi (fun z' m2 => Bth z z' mi m2) := fun z h1 h2 => v_M_led ⟨fun w => by omega, fun _ => ⟨by omega, fun w => G _ _ (h2 (Or.inl w)), fun w => ⟨fun w2 => ⟨fun n => ⟨by omega, G _ _ ((h1 w w2).2 n)⟩, fun e => ⟨by omega, G _ _ ((h1 w w2).1 e)⟩⟩, fun w2 => G _ _ (h2 (Or.inr w2))⟩⟩⟩
    rw [← l4] at R
    refine v_C_led ⟨by omega, fun w => R _ (fun q1 q2 => by omega) (fun _ => rfl), fun w => ⟨fun w2 => R _ (fun q1 q2 => by omega) (fun _ => rfl), fun w2 => ⟨by omega, fun w3 => ⟨fun n => ⟨by omega, R _ (fun q1 q2 => ⟨fun e => absurd e n, fun _ => (l7 _ (by omega) (by omega)).2⟩) (fun q => by omega)⟩, fun e => ⟨by omega, R _ (fun q1 q2 => ⟨fun _ => (l7 _ (by omega) (by omega)).1, fun n => absurd e n⟩) (fun q => by omega)⟩⟩, fun w3 => R _ (fun q1 q2 => by omega) (fun _ => rfl)⟩⟩⟩
end BEST
