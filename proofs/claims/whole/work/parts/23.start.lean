theorem Cx_arr {args : Array Value} {s : State} {ty : FieldType} (h : (Cond.arrayClass ty).before args s = true) (hty : va_RA s = va_RA s) : ∃ cA, ArrOfT s cA ty ∧ s.vm.findClass ("[" ++ ty.toString) = some cA := by
  obtain ⟨cA, kA, comp, hfind, hk, hkind⟩ := Cond.arrayClass_spec h
  exact ⟨cA, fun n z => ⟨fun k h => (by cases h), kA, hk, comp, hkind⟩, hfind⟩
theorem strL14 : strL.length = 14 := rfl
def tmS (i : Nat) : Term := .string "HandTongue$Tape" (stA i).1
set_option maxRecDepth 100000 in
theorem str_facts {b : Nat} {s : State} (hgv : (Jvm.Cond.and given_1 narrow_1).before #[Value.ref b] s = true) (hA : ∀ a : Nat, a < s.heap.size → ¬ (fun q => s.heap.size ≤ q) a) :
    ∃ adK adV : Nat → Nat, vk_S 14 (strL.map fun q => q.2.2.length) (strL.map fun q => q.2.2.map i3) adK adV (fun q => s.heap.size ≤ q) s s.heap ∧ ∀ i : Nat, i < 14 → (tmS i).eval #[Value.ref b] s none [] s = some (.ref (adK i)) := by
  have hs := flat_of_before _ hgv
  refine vk_Sof (tm := tmS) (by decide) ?_ ?_ ?_ ?_ ?_ ?_ hA
  · intro i hi
    match i, hi with
    | 0, _ => exact hs _ (by decide +kernel)
    | 1, _ => exact hs _ (by decide +kernel)
    | 2, _ => exact hs _ (by decide +kernel)
    | 3, _ => exact hs _ (by decide +kernel)
    | 4, _ => exact hs _ (by decide +kernel)
    | 5, _ => exact hs _ (by decide +kernel)
    | 6, _ => exact hs _ (by decide +kernel)
    | 7, _ => exact hs _ (by decide +kernel)
    | 8, _ => exact hs _ (by decide +kernel)
    | 9, _ => exact hs _ (by decide +kernel)
    | 10, _ => exact hs _ (by decide +kernel)
    | 11, _ => exact hs _ (by decide +kernel)
    | 12, _ => exact hs _ (by decide +kernel)
    | 13, _ => exact hs _ (by decide +kernel)
  · intro i hi
    match i, hi with
    | 0, _ => exact hs _ (by decide +kernel)
    | 1, _ => exact hs _ (by decide +kernel)
    | 2, _ => exact hs _ (by decide +kernel)
    | 3, _ => exact hs _ (by decide +kernel)
    | 4, _ => exact hs _ (by decide +kernel)
    | 5, _ => exact hs _ (by decide +kernel)
    | 6, _ => exact hs _ (by decide +kernel)
    | 7, _ => exact hs _ (by decide +kernel)
    | 8, _ => exact hs _ (by decide +kernel)
    | 9, _ => exact hs _ (by decide +kernel)
    | 10, _ => exact hs _ (by decide +kernel)
    | 11, _ => exact hs _ (by decide +kernel)
    | 12, _ => exact hs _ (by decide +kernel)
    | 13, _ => exact hs _ (by decide +kernel)
  · intro i hi
    match i, hi with
    | 0, _ => exact hs _ (by decide +kernel)
    | 1, _ => exact hs _ (by decide +kernel)
    | 2, _ => exact hs _ (by decide +kernel)
    | 3, _ => exact hs _ (by decide +kernel)
    | 4, _ => exact hs _ (by decide +kernel)
    | 5, _ => exact hs _ (by decide +kernel)
    | 6, _ => exact hs _ (by decide +kernel)
    | 7, _ => exact hs _ (by decide +kernel)
    | 8, _ => exact hs _ (by decide +kernel)
    | 9, _ => exact hs _ (by decide +kernel)
    | 10, _ => exact hs _ (by decide +kernel)
    | 11, _ => exact hs _ (by decide +kernel)
    | 12, _ => exact hs _ (by decide +kernel)
    | 13, _ => exact hs _ (by decide +kernel)
  · intro i hi
    match i, hi with
    | 0, _ => exact hs _ (by decide +kernel)
    | 1, _ => exact hs _ (by decide +kernel)
    | 2, _ => exact hs _ (by decide +kernel)
    | 3, _ => exact hs _ (by decide +kernel)
    | 4, _ => exact hs _ (by decide +kernel)
    | 5, _ => exact hs _ (by decide +kernel)
    | 6, _ => exact hs _ (by decide +kernel)
    | 7, _ => exact hs _ (by decide +kernel)
    | 8, _ => exact hs _ (by decide +kernel)
    | 9, _ => exact hs _ (by decide +kernel)
    | 10, _ => exact hs _ (by decide +kernel)
    | 11, _ => exact hs _ (by decide +kernel)
    | 12, _ => exact hs _ (by decide +kernel)
    | 13, _ => exact hs _ (by decide +kernel)
  · intro i hi j hj
    match i, hi with
    | 0, _ =>
      match j, hj with
      | 0, _ => exact hs _ (by decide +kernel)
      | 1, _ => exact hs _ (by decide +kernel)
      | j + 2, h => exact absurd h (by simp [strL])
    | 1, _ =>
      match j, hj with
      | 0, _ => exact hs _ (by decide +kernel)
      | 1, _ => exact hs _ (by decide +kernel)
      | j + 2, h => exact absurd h (by simp [strL])
    | 2, _ =>
      match j, hj with
      | 0, _ => exact hs _ (by decide +kernel)
      | 1, _ => exact hs _ (by decide +kernel)
      | j + 2, h => exact absurd h (by simp [strL])
    | 3, _ =>
      match j, hj with
      | 0, _ => exact hs _ (by decide +kernel)
      | 1, _ => exact hs _ (by decide +kernel)
      | 2, _ => exact hs _ (by decide +kernel)
      | j + 3, h => exact absurd h (by simp [strL])
    | 4, _ =>
      match j, hj with
      | 0, _ => exact hs _ (by decide +kernel)
      | 1, _ => exact hs _ (by decide +kernel)
      | 2, _ => exact hs _ (by decide +kernel)
      | j + 3, h => exact absurd h (by simp [strL])
    | 5, _ =>
      match j, hj with
      | 0, _ => exact hs _ (by decide +kernel)
      | 1, _ => exact hs _ (by decide +kernel)
      | 2, _ => exact hs _ (by decide +kernel)
      | j + 3, h => exact absurd h (by simp [strL])
    | 6, _ =>
      match j, hj with
      | 0, _ => exact hs _ (by decide +kernel)
      | 1, _ => exact hs _ (by decide +kernel)
      | 2, _ => exact hs _ (by decide +kernel)
      | j + 3, h => exact absurd h (by simp [strL])
    | 7, _ =>
      match j, hj with
      | 0, _ => exact hs _ (by decide +kernel)
      | 1, _ => exact hs _ (by decide +kernel)
      | 2, _ => exact hs _ (by decide +kernel)
      | 3, _ => exact hs _ (by decide +kernel)
      | j + 4, h => exact absurd h (by simp [strL])
    | 8, _ =>
      match j, hj with
      | 0, _ => exact hs _ (by decide +kernel)
      | 1, _ => exact hs _ (by decide +kernel)
      | 2, _ => exact hs _ (by decide +kernel)
      | 3, _ => exact hs _ (by decide +kernel)
      | j + 4, h => exact absurd h (by simp [strL])
    | 9, _ =>
      match j, hj with
      | 0, _ => exact hs _ (by decide +kernel)
      | 1, _ => exact hs _ (by decide +kernel)
      | 2, _ => exact hs _ (by decide +kernel)
      | 3, _ => exact hs _ (by decide +kernel)
      | 4, _ => exact hs _ (by decide +kernel)
      | j + 5, h => exact absurd h (by simp [strL])
    | 10, _ =>
      match j, hj with
      | 0, _ => exact hs _ (by decide +kernel)
      | 1, _ => exact hs _ (by decide +kernel)
      | 2, _ => exact hs _ (by decide +kernel)
      | 3, _ => exact hs _ (by decide +kernel)
      | 4, _ => exact hs _ (by decide +kernel)
      | j + 5, h => exact absurd h (by simp [strL])
    | 11, _ =>
      match j, hj with
      | 0, _ => exact hs _ (by decide +kernel)
      | 1, _ => exact hs _ (by decide +kernel)
      | 2, _ => exact hs _ (by decide +kernel)
      | 3, _ => exact hs _ (by decide +kernel)
      | 4, _ => exact hs _ (by decide +kernel)
      | j + 5, h => exact absurd h (by simp [strL])
    | 12, _ =>
      match j, hj with
      | 0, _ => exact hs _ (by decide +kernel)
      | 1, _ => exact hs _ (by decide +kernel)
      | 2, _ => exact hs _ (by decide +kernel)
      | 3, _ => exact hs _ (by decide +kernel)
      | 4, _ => exact hs _ (by decide +kernel)
      | j + 5, h => exact absurd h (by simp [strL])
    | 13, _ =>
      match j, hj with
      | 0, _ => exact hs _ (by decide +kernel)
      | 1, _ => exact hs _ (by decide +kernel)
      | 2, _ => exact hs _ (by decide +kernel)
      | 3, _ => exact hs _ (by decide +kernel)
      | 4, _ => exact hs _ (by decide +kernel)
      | 5, _ => exact hs _ (by decide +kernel)
      | j + 6, h => exact absurd h (by simp [strL])
  · intro i j hi hj hne
    match i, j, hi, hj, hne with
    | 0, 0, _, _, h => exact absurd rfl h
    | 0, 1, _, _, _ => exact Or.inl (hs _ (by decide +kernel))
    | 0, 2, _, _, _ => exact Or.inl (hs _ (by decide +kernel))
    | 0, 3, _, _, _ => exact Or.inl (hs _ (by decide +kernel))
    | 0, 4, _, _, _ => exact Or.inl (hs _ (by decide +kernel))
    | 0, 5, _, _, _ => exact Or.inl (hs _ (by decide +kernel))
    | 0, 6, _, _, _ => exact Or.inl (hs _ (by decide +kernel))
    | 0, 7, _, _, _ => exact Or.inl (hs _ (by decide +kernel))
    | 0, 8, _, _, _ => exact Or.inl (hs _ (by decide +kernel))
    | 0, 9, _, _, _ => exact Or.inl (hs _ (by decide +kernel))
    | 0, 10, _, _, _ => exact Or.inl (hs _ (by decide +kernel))
    | 0, 11, _, _, _ => exact Or.inl (hs _ (by decide +kernel))
    | 0, 12, _, _, _ => exact Or.inl (hs _ (by decide +kernel))
    | 0, 13, _, _, _ => exact Or.inl (hs _ (by decide +kernel))
    | 1, 0, _, _, _ => exact Or.inr (hs _ (by decide +kernel))
    | 1, 1, _, _, h => exact absurd rfl h
    | 1, 2, _, _, _ => exact Or.inl (hs _ (by decide +kernel))
    | 1, 3, _, _, _ => exact Or.inl (hs _ (by decide +kernel))
    | 1, 4, _, _, _ => exact Or.inl (hs _ (by decide +kernel))
    | 1, 5, _, _, _ => exact Or.inl (hs _ (by decide +kernel))
    | 1, 6, _, _, _ => exact Or.inl (hs _ (by decide +kernel))
    | 1, 7, _, _, _ => exact Or.inl (hs _ (by decide +kernel))
    | 1, 8, _, _, _ => exact Or.inl (hs _ (by decide +kernel))
    | 1, 9, _, _, _ => exact Or.inl (hs _ (by decide +kernel))
    | 1, 10, _, _, _ => exact Or.inl (hs _ (by decide +kernel))
    | 1, 11, _, _, _ => exact Or.inl (hs _ (by decide +kernel))
    | 1, 12, _, _, _ => exact Or.inl (hs _ (by decide +kernel))
    | 1, 13, _, _, _ => exact Or.inl (hs _ (by decide +kernel))
    | 2, 0, _, _, _ => exact Or.inr (hs _ (by decide +kernel))
    | 2, 1, _, _, _ => exact Or.inr (hs _ (by decide +kernel))
    | 2, 2, _, _, h => exact absurd rfl h
    | 2, 3, _, _, _ => exact Or.inl (hs _ (by decide +kernel))
    | 2, 4, _, _, _ => exact Or.inl (hs _ (by decide +kernel))
    | 2, 5, _, _, _ => exact Or.inl (hs _ (by decide +kernel))
    | 2, 6, _, _, _ => exact Or.inl (hs _ (by decide +kernel))
    | 2, 7, _, _, _ => exact Or.inl (hs _ (by decide +kernel))
    | 2, 8, _, _, _ => exact Or.inl (hs _ (by decide +kernel))
    | 2, 9, _, _, _ => exact Or.inl (hs _ (by decide +kernel))
    | 2, 10, _, _, _ => exact Or.inl (hs _ (by decide +kernel))
    | 2, 11, _, _, _ => exact Or.inl (hs _ (by decide +kernel))
    | 2, 12, _, _, _ => exact Or.inl (hs _ (by decide +kernel))
    | 2, 13, _, _, _ => exact Or.inl (hs _ (by decide +kernel))
    | 3, 0, _, _, _ => exact Or.inr (hs _ (by decide +kernel))
    | 3, 1, _, _, _ => exact Or.inr (hs _ (by decide +kernel))
    | 3, 2, _, _, _ => exact Or.inr (hs _ (by decide +kernel))
    | 3, 3, _, _, h => exact absurd rfl h
    | 3, 4, _, _, _ => exact Or.inl (hs _ (by decide +kernel))
    | 3, 5, _, _, _ => exact Or.inl (hs _ (by decide +kernel))
    | 3, 6, _, _, _ => exact Or.inl (hs _ (by decide +kernel))
    | 3, 7, _, _, _ => exact Or.inl (hs _ (by decide +kernel))
    | 3, 8, _, _, _ => exact Or.inl (hs _ (by decide +kernel))
    | 3, 9, _, _, _ => exact Or.inl (hs _ (by decide +kernel))
    | 3, 10, _, _, _ => exact Or.inl (hs _ (by decide +kernel))
    | 3, 11, _, _, _ => exact Or.inl (hs _ (by decide +kernel))
    | 3, 12, _, _, _ => exact Or.inl (hs _ (by decide +kernel))
    | 3, 13, _, _, _ => exact Or.inl (hs _ (by decide +kernel))
    | 4, 0, _, _, _ => exact Or.inr (hs _ (by decide +kernel))
    | 4, 1, _, _, _ => exact Or.inr (hs _ (by decide +kernel))
    | 4, 2, _, _, _ => exact Or.inr (hs _ (by decide +kernel))
    | 4, 3, _, _, _ => exact Or.inr (hs _ (by decide +kernel))
    | 4, 4, _, _, h => exact absurd rfl h
    | 4, 5, _, _, _ => exact Or.inl (hs _ (by decide +kernel))
    | 4, 6, _, _, _ => exact Or.inl (hs _ (by decide +kernel))
    | 4, 7, _, _, _ => exact Or.inl (hs _ (by decide +kernel))
    | 4, 8, _, _, _ => exact Or.inl (hs _ (by decide +kernel))
    | 4, 9, _, _, _ => exact Or.inl (hs _ (by decide +kernel))
    | 4, 10, _, _, _ => exact Or.inl (hs _ (by decide +kernel))
    | 4, 11, _, _, _ => exact Or.inl (hs _ (by decide +kernel))
    | 4, 12, _, _, _ => exact Or.inl (hs _ (by decide +kernel))
    | 4, 13, _, _, _ => exact Or.inl (hs _ (by decide +kernel))
    | 5, 0, _, _, _ => exact Or.inr (hs _ (by decide +kernel))
    | 5, 1, _, _, _ => exact Or.inr (hs _ (by decide +kernel))
    | 5, 2, _, _, _ => exact Or.inr (hs _ (by decide +kernel))
    | 5, 3, _, _, _ => exact Or.inr (hs _ (by decide +kernel))
    | 5, 4, _, _, _ => exact Or.inr (hs _ (by decide +kernel))
    | 5, 5, _, _, h => exact absurd rfl h
    | 5, 6, _, _, _ => exact Or.inl (hs _ (by decide +kernel))
    | 5, 7, _, _, _ => exact Or.inl (hs _ (by decide +kernel))
    | 5, 8, _, _, _ => exact Or.inl (hs _ (by decide +kernel))
    | 5, 9, _, _, _ => exact Or.inl (hs _ (by decide +kernel))
    | 5, 10, _, _, _ => exact Or.inl (hs _ (by decide +kernel))
    | 5, 11, _, _, _ => exact Or.inl (hs _ (by decide +kernel))
    | 5, 12, _, _, _ => exact Or.inl (hs _ (by decide +kernel))
    | 5, 13, _, _, _ => exact Or.inl (hs _ (by decide +kernel))
    | 6, 0, _, _, _ => exact Or.inr (hs _ (by decide +kernel))
    | 6, 1, _, _, _ => exact Or.inr (hs _ (by decide +kernel))
    | 6, 2, _, _, _ => exact Or.inr (hs _ (by decide +kernel))
    | 6, 3, _, _, _ => exact Or.inr (hs _ (by decide +kernel))
    | 6, 4, _, _, _ => exact Or.inr (hs _ (by decide +kernel))
    | 6, 5, _, _, _ => exact Or.inr (hs _ (by decide +kernel))
    | 6, 6, _, _, h => exact absurd rfl h
    | 6, 7, _, _, _ => exact Or.inl (hs _ (by decide +kernel))
    | 6, 8, _, _, _ => exact Or.inl (hs _ (by decide +kernel))
    | 6, 9, _, _, _ => exact Or.inl (hs _ (by decide +kernel))
    | 6, 10, _, _, _ => exact Or.inl (hs _ (by decide +kernel))
    | 6, 11, _, _, _ => exact Or.inl (hs _ (by decide +kernel))
    | 6, 12, _, _, _ => exact Or.inl (hs _ (by decide +kernel))
    | 6, 13, _, _, _ => exact Or.inl (hs _ (by decide +kernel))
    | 7, 0, _, _, _ => exact Or.inr (hs _ (by decide +kernel))
    | 7, 1, _, _, _ => exact Or.inr (hs _ (by decide +kernel))
    | 7, 2, _, _, _ => exact Or.inr (hs _ (by decide +kernel))
    | 7, 3, _, _, _ => exact Or.inr (hs _ (by decide +kernel))
    | 7, 4, _, _, _ => exact Or.inr (hs _ (by decide +kernel))
    | 7, 5, _, _, _ => exact Or.inr (hs _ (by decide +kernel))
    | 7, 6, _, _, _ => exact Or.inr (hs _ (by decide +kernel))
    | 7, 7, _, _, h => exact absurd rfl h
    | 7, 8, _, _, _ => exact Or.inl (hs _ (by decide +kernel))
    | 7, 9, _, _, _ => exact Or.inl (hs _ (by decide +kernel))
    | 7, 10, _, _, _ => exact Or.inl (hs _ (by decide +kernel))
    | 7, 11, _, _, _ => exact Or.inl (hs _ (by decide +kernel))
    | 7, 12, _, _, _ => exact Or.inl (hs _ (by decide +kernel))
    | 7, 13, _, _, _ => exact Or.inl (hs _ (by decide +kernel))
    | 8, 0, _, _, _ => exact Or.inr (hs _ (by decide +kernel))
    | 8, 1, _, _, _ => exact Or.inr (hs _ (by decide +kernel))
    | 8, 2, _, _, _ => exact Or.inr (hs _ (by decide +kernel))
    | 8, 3, _, _, _ => exact Or.inr (hs _ (by decide +kernel))
    | 8, 4, _, _, _ => exact Or.inr (hs _ (by decide +kernel))
    | 8, 5, _, _, _ => exact Or.inr (hs _ (by decide +kernel))
    | 8, 6, _, _, _ => exact Or.inr (hs _ (by decide +kernel))
    | 8, 7, _, _, _ => exact Or.inr (hs _ (by decide +kernel))
    | 8, 8, _, _, h => exact absurd rfl h
    | 8, 9, _, _, _ => exact Or.inl (hs _ (by decide +kernel))
    | 8, 10, _, _, _ => exact Or.inl (hs _ (by decide +kernel))
    | 8, 11, _, _, _ => exact Or.inl (hs _ (by decide +kernel))
    | 8, 12, _, _, _ => exact Or.inl (hs _ (by decide +kernel))
    | 8, 13, _, _, _ => exact Or.inl (hs _ (by decide +kernel))
    | 9, 0, _, _, _ => exact Or.inr (hs _ (by decide +kernel))
    | 9, 1, _, _, _ => exact Or.inr (hs _ (by decide +kernel))
    | 9, 2, _, _, _ => exact Or.inr (hs _ (by decide +kernel))
    | 9, 3, _, _, _ => exact Or.inr (hs _ (by decide +kernel))
    | 9, 4, _, _, _ => exact Or.inr (hs _ (by decide +kernel))
    | 9, 5, _, _, _ => exact Or.inr (hs _ (by decide +kernel))
    | 9, 6, _, _, _ => exact Or.inr (hs _ (by decide +kernel))
    | 9, 7, _, _, _ => exact Or.inr (hs _ (by decide +kernel))
    | 9, 8, _, _, _ => exact Or.inr (hs _ (by decide +kernel))
    | 9, 9, _, _, h => exact absurd rfl h
    | 9, 10, _, _, _ => exact Or.inl (hs _ (by decide +kernel))
    | 9, 11, _, _, _ => exact Or.inl (hs _ (by decide +kernel))
    | 9, 12, _, _, _ => exact Or.inl (hs _ (by decide +kernel))
    | 9, 13, _, _, _ => exact Or.inl (hs _ (by decide +kernel))
    | 10, 0, _, _, _ => exact Or.inr (hs _ (by decide +kernel))
    | 10, 1, _, _, _ => exact Or.inr (hs _ (by decide +kernel))
    | 10, 2, _, _, _ => exact Or.inr (hs _ (by decide +kernel))
    | 10, 3, _, _, _ => exact Or.inr (hs _ (by decide +kernel))
    | 10, 4, _, _, _ => exact Or.inr (hs _ (by decide +kernel))
    | 10, 5, _, _, _ => exact Or.inr (hs _ (by decide +kernel))
    | 10, 6, _, _, _ => exact Or.inr (hs _ (by decide +kernel))
    | 10, 7, _, _, _ => exact Or.inr (hs _ (by decide +kernel))
    | 10, 8, _, _, _ => exact Or.inr (hs _ (by decide +kernel))
    | 10, 9, _, _, _ => exact Or.inr (hs _ (by decide +kernel))
    | 10, 10, _, _, h => exact absurd rfl h
    | 10, 11, _, _, _ => exact Or.inl (hs _ (by decide +kernel))
    | 10, 12, _, _, _ => exact Or.inl (hs _ (by decide +kernel))
    | 10, 13, _, _, _ => exact Or.inl (hs _ (by decide +kernel))
    | 11, 0, _, _, _ => exact Or.inr (hs _ (by decide +kernel))
    | 11, 1, _, _, _ => exact Or.inr (hs _ (by decide +kernel))
    | 11, 2, _, _, _ => exact Or.inr (hs _ (by decide +kernel))
    | 11, 3, _, _, _ => exact Or.inr (hs _ (by decide +kernel))
    | 11, 4, _, _, _ => exact Or.inr (hs _ (by decide +kernel))
    | 11, 5, _, _, _ => exact Or.inr (hs _ (by decide +kernel))
    | 11, 6, _, _, _ => exact Or.inr (hs _ (by decide +kernel))
    | 11, 7, _, _, _ => exact Or.inr (hs _ (by decide +kernel))
    | 11, 8, _, _, _ => exact Or.inr (hs _ (by decide +kernel))
    | 11, 9, _, _, _ => exact Or.inr (hs _ (by decide +kernel))
    | 11, 10, _, _, _ => exact Or.inr (hs _ (by decide +kernel))
    | 11, 11, _, _, h => exact absurd rfl h
    | 11, 12, _, _, _ => exact Or.inl (hs _ (by decide +kernel))
    | 11, 13, _, _, _ => exact Or.inl (hs _ (by decide +kernel))
    | 12, 0, _, _, _ => exact Or.inr (hs _ (by decide +kernel))
    | 12, 1, _, _, _ => exact Or.inr (hs _ (by decide +kernel))
    | 12, 2, _, _, _ => exact Or.inr (hs _ (by decide +kernel))
    | 12, 3, _, _, _ => exact Or.inr (hs _ (by decide +kernel))
    | 12, 4, _, _, _ => exact Or.inr (hs _ (by decide +kernel))
    | 12, 5, _, _, _ => exact Or.inr (hs _ (by decide +kernel))
    | 12, 6, _, _, _ => exact Or.inr (hs _ (by decide +kernel))
    | 12, 7, _, _, _ => exact Or.inr (hs _ (by decide +kernel))
    | 12, 8, _, _, _ => exact Or.inr (hs _ (by decide +kernel))
    | 12, 9, _, _, _ => exact Or.inr (hs _ (by decide +kernel))
    | 12, 10, _, _, _ => exact Or.inr (hs _ (by decide +kernel))
    | 12, 11, _, _, _ => exact Or.inr (hs _ (by decide +kernel))
    | 12, 12, _, _, h => exact absurd rfl h
    | 12, 13, _, _, _ => exact Or.inl (hs _ (by decide +kernel))
    | 13, 0, _, _, _ => exact Or.inr (hs _ (by decide +kernel))
    | 13, 1, _, _, _ => exact Or.inr (hs _ (by decide +kernel))
    | 13, 2, _, _, _ => exact Or.inr (hs _ (by decide +kernel))
    | 13, 3, _, _, _ => exact Or.inr (hs _ (by decide +kernel))
    | 13, 4, _, _, _ => exact Or.inr (hs _ (by decide +kernel))
    | 13, 5, _, _, _ => exact Or.inr (hs _ (by decide +kernel))
    | 13, 6, _, _, _ => exact Or.inr (hs _ (by decide +kernel))
    | 13, 7, _, _, _ => exact Or.inr (hs _ (by decide +kernel))
    | 13, 8, _, _, _ => exact Or.inr (hs _ (by decide +kernel))
    | 13, 9, _, _, _ => exact Or.inr (hs _ (by decide +kernel))
    | 13, 10, _, _, _ => exact Or.inr (hs _ (by decide +kernel))
    | 13, 11, _, _, _ => exact Or.inr (hs _ (by decide +kernel))
    | 13, 12, _, _, _ => exact Or.inr (hs _ (by decide +kernel))
    | 13, 13, _, _, h => exact absurd rfl h
set_option maxHeartbeats 2000000 in
set_option maxRecDepth 100000 in
theorem ev_start {b L : Nat} {xs : Nat → Int32} {s : State} (hts : ∀ w ∈ lw_tbl, w.before #[Value.ref b] s = true) (hX : va_X b L xs s s.heap) (hbl : b < s.heap.size) (hL : L ≤ 4096) (hgv : (Jvm.Cond.and given_1 narrow_1).before #[Value.ref b] s = true) :
    ∃ X : Cx, X.1 = s.heap ∧ X.2.2.2.2.1 1000 = b ∧ X.2.2.2.2.2.1 = L ∧ (∀ j, X.2.2.2.2.2.2 j = (xs j).toInt) ∧ Ev X s := by
  have hs := flat_of_before _ hgv
  have hA : ∀ a : Nat, a < s.heap.size → ¬ (fun q => s.heap.size ≤ q) a := fun a h => Nat.not_le.mpr h
  have htw : ∀ w ∈ Wds, w.before #[Value.ref b] s = true := fun w hw => hts w (List.mem_filter.mp hw).1
  have hib : (Cond.initialized "HandTongue$Book").before #[Value.ref b] s = true := hts _ (mt_1 3 (by decide +kernel))
  have hcl : ∀ ci : Nat, ∃ q : ClassId × (Nat → Nat), ci < 13 → u_Kn s (cT ci).1 (cT ci).2.1 (cT ci).2.2 q.1 q.2 := by
    intro ci
    by_cases h : ci < 13
    · have CL := CLok_all ci h
      obtain ⟨c, iS, hk⟩ := u_known htw CL.1 (htw _ CL.2.2.2.1)
      exact ⟨(c, iS), fun _ => hk⟩
    · exact ⟨(0, fun _ => 0), fun q => absurd q h⟩
  obtain ⟨dq, hdq⟩ := Classical.axiomOfChoice hcl
  obtain ⟨cA0, a0, f0⟩ := Cx_arr (htw _ arc_int) rfl
  obtain ⟨cA1, a1, f1⟩ := Cx_arr (htw _ arc_long) rfl
  obtain ⟨cA2, a2, f2⟩ := Cx_arr (htw _ arc_byte) rfl
  obtain ⟨cA3, a3, f3⟩ := Cx_arr (htw _ arc_boolean) rfl
  have hao := hts _ aro_house
  obtain ⟨comp4, cA4, k4, g1, -, g3, g4, g5⟩ := Cond.arrayOver_spec hao
  obtain ⟨t1001, et1001, hT1001⟩ := va_Tof (s := s) (args := #[Value.ref b]) (tm := .static "HandTongue$Book" "MASKS" "[I") (ty := .int) (N := 4) (f := fun j => .int (i3 (stv 1001 j))) (A := fun q => s.heap.size ≤ q) (by decide) (hs _ (by decide +kernel)) (va_eqt (hs _ (by decide +kernel))) (fun j hj => by
    match j, hj with
    | 0, _ => exact va_eqt (hs _ (by decide +kernel))
    | 1, _ => exact va_eqt (hs _ (by decide +kernel))
    | 2, _ => exact va_eqt (hs _ (by decide +kernel))
    | 3, _ => exact va_eqt (hs _ (by decide +kernel))) hA
  have hZ1001 : va_Z "HandTongue$Book" "MASKS" "[I" (.ref t1001) (fun q => s.heap.size ≤ q) s s.heap := va_Zof (hts _ (mt_3 109 (by decide +kernel))) hib et1001 hA
  obtain ⟨t1002, et1002, hT1002⟩ := va_Tof (s := s) (args := #[Value.ref b]) (tm := .static "HandTongue$Book" "SHIFTS" "[I") (ty := .int) (N := 4) (f := fun j => .int (i3 (stv 1002 j))) (A := fun q => s.heap.size ≤ q) (by decide) (hs _ (by decide +kernel)) (va_eqt (hs _ (by decide +kernel))) (fun j hj => by
    match j, hj with
    | 0, _ => exact va_eqt (hs _ (by decide +kernel))
    | 1, _ => exact va_eqt (hs _ (by decide +kernel))
    | 2, _ => exact va_eqt (hs _ (by decide +kernel))
    | 3, _ => exact va_eqt (hs _ (by decide +kernel))) hA
  have hZ1002 : va_Z "HandTongue$Book" "SHIFTS" "[I" (.ref t1002) (fun q => s.heap.size ≤ q) s s.heap := va_Zof (hts _ (mt_3 111 (by decide +kernel))) hib et1002 hA
  obtain ⟨t1003, et1003, hT1003⟩ := va_Tof (s := s) (args := #[Value.ref b]) (tm := .static "HandTongue$Book" "VALUES" "[I") (ty := .int) (N := 4) (f := fun j => .int (i3 (stv 1003 j))) (A := fun q => s.heap.size ≤ q) (by decide) (hs _ (by decide +kernel)) (va_eqt (hs _ (by decide +kernel))) (fun j hj => by
    match j, hj with
    | 0, _ => exact va_eqt (hs _ (by decide +kernel))
    | 1, _ => exact va_eqt (hs _ (by decide +kernel))
    | 2, _ => exact va_eqt (hs _ (by decide +kernel))
    | 3, _ => exact va_eqt (hs _ (by decide +kernel))) hA
  have hZ1003 : va_Z "HandTongue$Book" "VALUES" "[I" (.ref t1003) (fun q => s.heap.size ≤ q) s s.heap := va_Zof (hts _ (mt_3 132 (by decide +kernel))) hib et1003 hA
  obtain ⟨adK, adV, hvS, hvE⟩ := str_facts hgv hA
  have hZc : va_Z "java/lang/String" "COMPACT_STRINGS" "Z" (.int 1) (fun q => s.heap.size ≤ q) s s.heap := va_Zof (hts _ (mt_3 45 (by decide +kernel))) (hts _ (mt_1 15 (by decide +kernel))) (va_eqi (hs _ (by decide +kernel))) hA
  obtain ⟨vf, hvf, hZf⟩ : ∃ v : Value, (v = .null ∨ ∃ a, v = .ref a) ∧ va_Z "jdk/internal/util/Preconditions" "SIOOBE_FORMATTER" "Ljava/util/function/BiFunction;" v (fun q => s.heap.size ≤ q) s s.heap := by
    rcases va_Zqof (C := "jdk/internal/util/Preconditions") (n := "SIOOBE_FORMATTER") (d := "Ljava/util/function/BiFunction;") (A := fun q => s.heap.size ≤ q) (hts _ (mt_3 61 (by decide +kernel))) (hts _ (mt_1 17 (by decide +kernel))) (hs _ (by decide +kernel)) hA with h | ⟨t, h⟩
    · exact ⟨_, Or.inl rfl, h⟩
    · exact ⟨_, Or.inr ⟨t, rfl⟩, h⟩
  refine ⟨(s.heap, fun k => (dq k).1, fun k => (dq k).2, fun k => if k = 0 then cA0 else if k = 1 then cA1 else if k = 2 then cA2 else if k = 3 then cA3 else cA4, fun k => if k = 1000 then b else if k = 1001 then t1001 else if k = 1002 then t1002 else if k = 1003 then t1003 else if k < 1040 then adK (k - 1010) else adV (k - 1040), L, fun j => (xs j).toInt), rfl, rfl, rfl, fun _ => rfl, ?_⟩
  refine ⟨⟨fun c q hq => ?_, fun k q hq => ?_⟩, fun w hw => ?_, va_AO.of hao, fun k hk => ?_, ⟨?_, hbl, hL, fun j => ir_toInt _⟩, ⟨?_, fun i hi => ?_⟩, hZc, vf, hvf, hZf⟩
  · have hc : c < 13 := (List.getElem?_eq_some_iff.mp hq).1
    have hq2 := (CLok_all c hc).2.2.2.2.2
    cases hq2.symm.trans hq
    exact hdq c hc
  · match k, hq with
    | 0, hq => cases hq; exact ⟨a0, f0⟩
    | 1, hq => cases hq; exact ⟨a1, f1⟩
    | 2, hq => cases hq; exact ⟨a2, f2⟩
    | 3, hq => cases hq; exact ⟨a3, f3⟩
    | 4, hq => cases hq; exact ⟨fun n z => ⟨fun k h => (by cases h), k4, g3, comp4, g4⟩, k4, comp4, g3, g4, g1, g5⟩
    | k + 5, hq => simp [tysX] at hq
  · simp only [nstL, List.mem_cons, List.not_mem_nil, or_false] at hw
    rcases hw with rfl | rfl | rfl | rfl | rfl | rfl | rfl | rfl | rfl | rfl | rfl | rfl
    · exact va_Nw.of rfl (hts _ (mt_1 32 (by decide +kernel)))
    · exact va_Nw.of rfl (hts _ (mt_1 38 (by decide +kernel)))
    · exact va_Nw.of rfl (hts _ (mt_1 93 (by decide +kernel)))
    · exact va_Nw.of rfl (hts _ (mt_1 121 (by decide +kernel)))
    · exact va_Nw.of rfl (hts _ (mt_1 148 (by decide +kernel)))
    · exact va_Nw.of rfl (hts _ (mt_1 209 (by decide +kernel)))
    · exact va_Nw.of rfl (hts _ (mt_1 237 (by decide +kernel)))
    · exact va_Nw.of rfl (hts _ (mt_2 50 (by decide +kernel)))
    · exact va_Nw.of rfl (hts _ (mt_2 131 (by decide +kernel)))
    · exact va_Nw.of rfl (hts _ (mt_3 128 (by decide +kernel)))
    · exact va_Nw.of rfl (hts _ (mt_3 177 (by decide +kernel)))
    · exact va_Nw.of rfl (hts _ (mt_4 158 (by decide +kernel)))
  · rcases hk with rfl | rfl | rfl
    · exact ⟨hZ1001, hT1001⟩
    · exact ⟨hZ1002, hT1002⟩
    · exact ⟨hZ1003, hT1003⟩
  · have e : (fun j => i3 (xs j).toInt) = xs := funext fun j => (i3_of _).symm
    show va_X b L (fun j => i3 (xs j).toInt) s s.heap
    rw [e]; exact hX
  · have e1 : ∀ i, i < 14 → (if 1010 + i = 1000 then b else if 1010 + i = 1001 then t1001 else if 1010 + i = 1002 then t1002 else if 1010 + i = 1003 then t1003 else if 1010 + i < 1040 then adK (1010 + i - 1010) else adV (1010 + i - 1040)) = adK i := fun i hi => by
      rw [if_neg (by omega), if_neg (by omega), if_neg (by omega), if_neg (by omega), if_pos (by omega), Nat.add_sub_cancel_left]
    have e2 : ∀ i, i < 14 → (if 1040 + i = 1000 then b else if 1040 + i = 1001 then t1001 else if 1040 + i = 1002 then t1002 else if 1040 + i = 1003 then t1003 else if 1040 + i < 1040 then adK (1040 + i - 1010) else adV (1040 + i - 1040)) = adV i := fun i hi => by
      rw [if_neg (by omega), if_neg (by omega), if_neg (by omega), if_neg (by omega), if_neg (by omega), Nat.add_sub_cancel_left]
    refine ⟨fun i hi => ?_, fun i j hi hj hij => ?_⟩
    · have := hvS.1 i hi
      simp only [e1 i hi, e2 i hi]
      exact this
    · simp only [e1 i hi, e1 j hj] at hij
      exact hvS.2 i j hi hj hij
  · have e1 : (if 1010 + i = 1000 then b else if 1010 + i = 1001 then t1001 else if 1010 + i = 1002 then t1002 else if 1010 + i = 1003 then t1003 else if 1010 + i < 1040 then adK (1010 + i - 1010) else adV (1010 + i - 1040)) = adK i := by
      rw [if_neg (by omega), if_neg (by omega), if_neg (by omega), if_neg (by omega), if_pos (by omega), Nat.add_sub_cancel_left]
    simp only [e1]
    have he := hvE i hi
    match i, hi, he with
    | 0, _, he => exact vk_R.of (hts _ (mt_3 31 (by decide +kernel))) he
    | 1, _, he => exact vk_R.of (hts _ (mt_3 84 (by decide +kernel))) he
    | 2, _, he => exact vk_R.of (hts _ (mt_3 85 (by decide +kernel))) he
    | 3, _, he => exact vk_R.of (hts _ (mt_3 86 (by decide +kernel))) he
    | 4, _, he => exact vk_R.of (hts _ (mt_3 87 (by decide +kernel))) he
    | 5, _, he => exact vk_R.of (hts _ (mt_3 88 (by decide +kernel))) he
    | 6, _, he => exact vk_R.of (hts _ (mt_3 89 (by decide +kernel))) he
    | 7, _, he => exact vk_R.of (hts _ (mt_3 90 (by decide +kernel))) he
    | 8, _, he => exact vk_R.of (hts _ (mt_3 91 (by decide +kernel))) he
    | 9, _, he => exact vk_R.of (hts _ (mt_3 92 (by decide +kernel))) he
    | 10, _, he => exact vk_R.of (hts _ (mt_3 93 (by decide +kernel))) he
    | 11, _, he => exact vk_R.of (hts _ (mt_3 94 (by decide +kernel))) he
    | 12, _, he => exact vk_R.of (hts _ (mt_3 95 (by decide +kernel))) he
    | 13, _, he => exact vk_R.of (hts _ (mt_3 96 (by decide +kernel))) he
