section BAL
variable {r : Nat → Int} {n T : Int}
/-- a stretch of codes, as its heap of answers grows and falls -/
def Bal (c : Nat → Int) : Nat → Int → Int → Int → Prop
  | 0, _, h, h' => h = h'
  | k + 1, i, h, h' => (c i.toNat / 1048576 < 3 ∧ h + 1 ≤ 15 ∧ Bal c k (i + 1) (h + 1) h') ∨ (c i.toNat / 1048576 = 3 ∧ 1 ≤ h ∧ Bal c k (i + 1) h h') ∨ ((c i.toNat / 1048576 = 4 ∨ c i.toNat / 1048576 = 5) ∧ 2 ≤ h ∧ Bal c k (i + 1) (h - 1) h')
theorem Bal_trans {c : Nat → Int} : ∀ (k k2 : Nat) (i h h1 h2 : Int), Bal c k i h h1 → Bal c k2 (i + k) h1 h2 → Bal c (k + k2) i h h2 := by
  intro k
  induction k with
  | zero =>
    intro k2 i h h1 h2 a b
    have : h = h1 := a
    subst this
    rw [Nat.zero_add]
    rw [show i + ((0 : Nat) : Int) = i by omega] at b
    exact b
  | succ k ih =>
    intro k2 i h h1 h2 a b
    rw [show k + 1 + k2 = (k + k2) + 1 by omega]
    rw [show i + ((k + 1 : Nat) : Int) = i + 1 + (k : Int) by omega] at b
    rcases a with ⟨a1, a2, a3⟩ | ⟨a1, a2, a3⟩ | ⟨a1, a2, a3⟩
    · exact Or.inl ⟨a1, a2, ih k2 _ _ _ _ a3 b⟩
    · exact Or.inr (Or.inl ⟨a1, a2, ih k2 _ _ _ _ a3 b⟩)
    · exact Or.inr (Or.inr ⟨a1, a2, ih k2 _ _ _ _ a3 b⟩)
theorem Bal_cg {c c' : Nat → Int} : ∀ (k : Nat) (i h h' : Int), (∀ x : Int, i ≤ x → x < i + k → c' x.toNat = c x.toNat) → Bal c k i h h' → Bal c' k i h h' := by
  intro k
  induction k with
  | zero => intro i h h' _ a; exact a
  | succ k ih =>
    intro i h h' e a
    have e0 := e i (by omega) (by omega)
    have e1 : ∀ x : Int, i + 1 ≤ x → x < i + 1 + k → c' x.toNat = c x.toNat := fun x a b => e x (by omega) (by omega)
    rcases a with ⟨a1, a2, a3⟩ | ⟨a1, a2, a3⟩ | ⟨a1, a2, a3⟩
    · exact Or.inl ⟨by rw [e0]; exact a1, a2, ih _ _ _ e1 a3⟩
    · exact Or.inr (Or.inl ⟨by rw [e0]; exact a1, a2, ih _ _ _ e1 a3⟩)
    · exact Or.inr (Or.inr ⟨by rw [e0]; exact a1, a2, ih _ _ _ e1 a3⟩)
def BL (c : Nat → Int) (i j h h' : Int) : Prop := i ≤ j ∧ Bal c (j - i).toNat i h h'
theorem BL.tr {c : Nat → Int} {i j k h h1 h2 : Int} (a : BL c i j h h1) (b : BL c j k h1 h2) : BL c i k h h2 := by
  obtain ⟨a1, a2⟩ := a
  obtain ⟨b1, b2⟩ := b
  refine ⟨by omega, ?_⟩
  rw [show (k - i).toNat = (j - i).toNat + (k - j).toNat by omega]
  refine Bal_trans _ _ _ _ _ _ a2 ?_
  rw [show i + ((j - i).toNat : Int) = j by omega]
  exact b2
theorem BL.cg {c c' : Nat → Int} {i j h h' : Int} (a : BL c i j h h') (e : ∀ x : Int, i ≤ x → x < j → c' x.toNat = c x.toNat) : BL c' i j h h' := by
  obtain ⟨a1, a2⟩ := a
  exact ⟨a1, Bal_cg _ _ _ _ (fun x x1 x2 => e x x1 (by omega)) a2⟩
theorem BL.one {c : Nat → Int} {i h h' : Int} (g : (c i.toNat / 1048576 < 3 ∧ h + 1 ≤ 15 ∧ h' = h + 1) ∨ (c i.toNat / 1048576 = 3 ∧ 1 ≤ h ∧ h' = h) ∨ ((c i.toNat / 1048576 = 4 ∨ c i.toNat / 1048576 = 5) ∧ 2 ≤ h ∧ h' = h - 1)) : BL c i (i + 1) h h' := by
  refine ⟨by omega, ?_⟩
  rw [show (i + 1 - i).toNat = 0 + 1 by omega]
  rcases g with ⟨a, b, e⟩ | ⟨a, b, e⟩ | ⟨a, b, e⟩
  · exact Or.inl ⟨a, b, e.symm⟩
  · exact Or.inr (Or.inl ⟨a, b, e.symm⟩)
  · exact Or.inr (Or.inr ⟨a, b, e.symm⟩)
/-- a code of the class and a step of the reference -/
def cRel (z : Int) (m : MT) (s : Int) : Prop := (s = 100 ∧ z = 3145728) ∨ (s = 101 ∧ z = 4194304) ∨ (s = 102 ∧ z = 5242880) ∨ ((0 ≤ s ∧ s < m 134 16 ∧ s < 40) ∧ ∃ a b : Int, vRel a (m 146 s.toNat) (m 147 s.toNat) ∧ vRel b (m 148 s.toNat) (m 149 s.toNat) ∧ (0 ≤ m 150 s.toNat ∧ m 150 s.toNat ≤ 2) ∧ z = m 150 s.toNat * 1048576 + a * 1024 + b)
theorem cRel_cg {z s : Int} {m m' : MT} (h : cRel z m s) (h16 : m 134 16 ≤ m' 134 16) (e : ∀ k : Nat, 146 ≤ k → k ≤ 150 → ∀ j : Nat, (j : Int) < m 134 16 → m' k j = m k j) : cRel z m' s := by
  rcases h with h | h | h | ⟨h1, a, b, h2, h3, h4, h5⟩
  · exact Or.inl h
  · exact Or.inr (Or.inl h)
  · exact Or.inr (Or.inr (Or.inl h))
  · refine Or.inr (Or.inr (Or.inr ⟨by omega, a, b, ?_⟩))
    rw [e 146 (by omega) (by omega) _ (by omega), e 147 (by omega) (by omega) _ (by omega), e 148 (by omega) (by omega) _ (by omega), e 149 (by omega) (by omega) _ (by omega), e 150 (by omega) (by omega) _ (by omega)]
    exact ⟨h2, h3, h4, h5⟩
def PRc (m1 m2 : MT) : Prop := (m2 134 18 = m1 96 3 ∧ m2 134 16 = m1 94 5) ∧ ∀ i : Int, 0 ≤ i → i < m1 96 3 → cRel (m1 97 i.toNat) m2 (m2 151 i.toNat)
/-- PRc speaks only of a few cells -/
theorem PRc_cg {m1 m1' m2 m2' : MT} (h : PRc m1 m2) (a1 : m1' 96 3 = m1 96 3) (a2 : m1' 94 5 = m1 94 5) (a3 : m1' 97 = m1 97) (b1 : m2' 134 18 = m2 134 18) (b2 : m2' 134 16 = m2 134 16) (b3 : ∀ k : Nat, 146 ≤ k → k ≤ 151 → m2' k = m2 k) : PRc m1' m2' := by
  refine ⟨⟨by rw [a1, b1]; exact h.1.1, by rw [a2, b2]; exact h.1.2⟩, fun i i0 i1 => ?_⟩
  rw [a3, b3 151 (by omega) (by omega)]
  rw [a1] at i1
  exact cRel_cg (h.2 i i0 i1) (by omega) (fun k k1 k2 j _ => by rw [b3 k k1 (by omega)])
theorem PRc_emit {m1 m2 : MT} {op c : Int} (h : PRc m1 m2) (h3 : 0 ≤ m1 96 3) (ho : (op = 3 ∧ c = 100) ∨ (op = 4 ∧ c = 101) ∨ (op = 5 ∧ c = 102)) : PRc (wt (wt m1 97 (m1 96 3).toNat (op * 1048576 + 0 * 1024 + 0)) 96 3 (m1 96 3 + 1)) (wt (wt m2 151 (m2 134 18).toNat c) 134 18 (m2 134 18 + 1)) := by
  have e16 : (wt (wt m2 151 (m2 134 18).toNat c) 134 18 (m2 134 18 + 1)) 134 16 = m2 134 16 := wt_ne _ _ (by decide)
  refine ⟨⟨by rw [wt_same, wt_same]; have := h.1.1; omega, by rw [e16]; exact h.1.2⟩, fun i i0 i1 => ?_⟩
  rw [wt_same] at i1
  show cRel (sv (m1 97) (m1 96 3).toNat (op * 1048576 + 0 * 1024 + 0) i.toNat) _ (sv (m2 151) (m2 134 18).toNat c i.toNat)
  rw [h.1.1]
  by_cases q : i = m1 96 3
  · rw [q, sv_eq, sv_eq]
    rcases ho with ho | ho | ho
    · exact Or.inl (by omega)
    · exact Or.inr (Or.inl (by omega))
    · exact Or.inr (Or.inr (Or.inl (by omega)))
  · rw [svn _ _ (by omega), svn _ _ (by omega)]
    exact cRel_cg (h.2 i i0 (by omega)) (by rw [wt_ne _ _ (by decide)]; exact Int.le_refl _) (fun k k1 k2 j _ => by rw [wt_row _ _ (by omega), wt_row _ _ (by omega)])
end BAL
