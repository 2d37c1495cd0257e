section CHANGE
variable {d : Nat} {mi : MT}
theorem s_S_hear {P : MT → Prop} {side x n : Int} (hd : 0 < d) (hs : side = 0 ∨ side = 1) (hx : 0 ≤ x ∧ x < 1048576) (h : ∀ t : Nat → Int, (∀ j : Int, 0 ≤ j → j < 4 → t (side * 5 + j).toNat = mkv x j) → t (side * 5 + 4).toNat = n → (∀ j : Nat, (j : Int) < side * 5 ∨ side * 5 + 5 ≤ j → t j = mi 101 j) → P (sv mi 101 t)) : c_S_hear d side x n mi P := by
  refine v_S_hear ⟨by omega, ?_⟩
  have L : ∀ i : Int, i ≤ 4 → 0 ≤ i → ∀ t : Nat → Int, (∀ j : Int, 0 ≤ j → j < i → t (side * 5 + j).toNat = mkv x j) → (∀ j : Nat, (j : Int) < side * 5 ∨ side * 5 + 5 ≤ j → t j = mi 101 j) → h_S_hear_8 d side x n (side * 5) i (sv mi 101 t) P := by
    refine upto _ (fun i hi ih i0 t t1 t2 => ?_)
    refine v_S_hear_8 ⟨fun q => ⟨by omega, ?_⟩, fun q => ⟨by omega, ?_⟩⟩
    · rw [wt_sv]
      refine h _ (fun j j0 j1 => by rw [svn _ _ (by omega)]; exact t1 j j0 (by omega)) (sv_eq _ _ _) (fun j hj => by rw [svn _ _ (by omega)]; exact t2 j hj)
    · rw [wt_sv]
      refine ih q (by omega) _ (fun j j0 j1 => ?_) (fun j hj => by rw [svn _ _ (by omega)]; exact t2 j hj)
      by_cases c : j = i
      · subst c; exact sv_eq _ _ _
      · rw [svn _ _ (by omega)]; exact t1 j j0 (by omega)
  have := L 0 (by omega) (by omega) (mi 101) (fun j a b => by omega) (fun _ _ => rfl)
  rw [sv_self] at this
  exact this
theorem act_rule {cc ac hh : Int} {co en acs : Nat → Int} {m : MT} (h : RulR cc ac hh co en acs m) : ∀ q : Nat, (q : Int) ≤ hh → ∀ i : Int, 0 ≤ i → i < lo (m 145) q → 0 ≤ acs i.toNat / 16384 ∧ acs i.toNat / 16384 < q := by
  intro q
  induction q with
  | zero =>
    intro _ i i0 i1
    have : lo (m 145) ((0 : Nat) : Int) = 0 := rfl
    omega
  | succ q ih =>
    intro hq i i0 i1
    have ln : lo (m 145) ((q + 1 : Nat) : Int) = m 145 q := by unfold lo; rw [if_neg (by omega), show (((q + 1 : Nat) : Int) - 1).toNat = q by omega]
    by_cases c : i < lo (m 145) q
    · have := ih (by omega) i i0 c
      omega
    · have := (h.2.2.2.2.1 (q : Int) (by omega) (by omega)).2.1.2.2.2.2 i (by omega) (by rw [show ((q : Int)).toNat = q by omega]; omega)
      omega
def FC (m m1 : MT) : Prop := (∀ k : Nat, k ≠ 100 → k ≠ 101 → k ≠ 102 → m1 k = m k) ∧ ∀ j : Nat, j ≠ 4 → m1 100 j = m 100 j
theorem FC.rfl' (m : MT) : FC m m := ⟨fun _ _ _ _ => rfl, fun _ _ => rfl⟩
theorem FC.trans {a b c : MT} (h1 : FC a b) (h2 : FC b c) : FC a c := ⟨fun k x y z => (h2.1 k x y z).trans (h1.1 k x y z), fun j x => (h2.2 j x).trans (h1.2 j x)⟩
/-- the class: the changes at one seam -/
theorem s_S_change {P : MT → Prop} {a b side : Int} (hd : 12 < d) (hs : side = 0 ∨ side = 1) (h2 : P_sgn (mi 3) (mi 4) (mi 135)) (h10 : mi 135 0 ≤ 10) (hU : RulR (mi 10 3) (mi 10 4) (mi 10 5) (mi 11) (mi 12) (mi 13) mi) (ha : 0 ≤ a ∧ a < mi 135 0) (hb : 0 ≤ b ∧ b < mi 135 0) (hS : SOK (sur mi)) (h : ∀ m1 : MT, FC mi m1 → SOK (sur m1) → sur m1 = fo (td (mi 135) a b) side (mi 13) (fires (td (mi 135) a b) (mi 11) (mi 12)) (mi 10 4).toNat 0 (sur mi) → P m1) : c_S_change d a b side mi P := by
  obtain ⟨g1, g2, g3, g4⟩ := h2 a ha.1 ha.2 (by omega)
  obtain ⟨f1, f2, f3, f4⟩ := h2 b hb.1 hb.2 (by omega)
  obtain ⟨⟨hcc, hac⟩, hco, hacs, ⟨h15, hhh⟩, hQ, hlc, hla⟩ := id hU
  have ga := g3 (mi 4 a.toNat - 1) (by omega) (by omega)
  have gb := f3 0 (by omega) (by omega)
  refine v_S_change ⟨by omega, s_S_hear (by omega) (by omega) ga.1 (fun t t1 t2 t3 => ⟨by omega, ?_⟩)⟩
  show c_S_hear (d - 1) 1 (mi 3 (b * 4 + 0).toNat) (mi 4 b.toNat) (sv mi 101 t) _
  refine s_S_hear (by omega) (by omega) gb.1 (fun u u1 u2 u3 => ?_)
  rw [svv]
  have T : ∀ j : Nat, j < 10 → u j = td (mi 135) a b j := by
    intro j hj
    unfold td
    have u3' : ∀ j : Nat, (j : Int) < 5 → u j = t j := fun j hj => u3 j (by omega)
    have c : j < 4 ∨ j = 4 ∨ (5 ≤ j ∧ j < 9) ∨ j = 9 := by omega
    rcases c with c | c | c | c
    · rw [if_pos c, u3' j (by omega)]
      have := t1 (j : Int) (by omega) (by omega)
      rw [show (0 * 5 + (j : Int)).toNat = j by omega] at this
      rw [this, (ga.2 (j : Int) (by omega) (by omega)).1, ← g1]
    · subst c
      rw [if_neg (by omega), if_pos rfl, u3' 4 (by omega)]
      have : t 4 = mi 4 a.toNat := t2
      rw [this, g1]
    · rw [if_neg (by omega), if_neg (by omega), if_pos c.2]
      have := u1 ((j : Int) - 5) (by omega) (by omega)
      rw [show (1 * 5 + ((j : Int) - 5)).toNat = j by omega] at this
      rw [this, (gb.2 ((j : Int) - 5) (by omega) (by omega)).1]
      congr 1; omega
    · subst c
      rw [if_neg (by omega), if_neg (by omega), if_neg (by omega)]
      have : u 9 = mi 4 b.toNat := u2
      rw [this, f1]
  refine s_U_firing (mi := sv mi 101 u) (cc := mi 10 3) (hh := mi 10 5) (by omega) rfl hhh hcc.2 (fun x x0 x1 => cRl_z (hco x x0 x1)) (fun q q0 q1 => ?_) ?_
  · obtain ⟨⟨x1, x2, x3, x4, x5⟩, _, zz⟩ := hQ q q0 q1
    exact ⟨⟨x3, x4, x5⟩, zz⟩
  · show h_S_change_72 d a b side (msk u (mi 11) (mi 12) (mi 10 5).toNat) 0 (sv mi 101 u) P
    refine l_S_change (ac := mi 10 4) (F := fires u (mi 11) (mi 12)) (t := u) (acs := mi 13) (by omega) hs hac (fun i i0 i1 => ⟨(aRel_z (hacs i i0 i1)).1, (aRel_z (hacs i i0 i1)).2.1⟩) (fun i i0 i1 => ?_) (mi 10 4).toNat 0 (sv mi 101 u) (by omega) (by omega) rfl rfl rfl hS (fun m1 F1 S1 e1 => h m1 ⟨fun k a b c => (F1.1 k a c).trans (sv_ne _ _ b), fun j a => F1.2 j a⟩ S1 ?_)
    · -- which rule an act is of
      have RN : 0 ≤ mi 13 i.toNat / 16384 ∧ mi 13 i.toNat / 16384 < mi 10 5 := by
        have := act_rule hU (mi 10 5).toNat (by omega) i i0 (by rw [show (((mi 10 5).toNat : Nat) : Int) = mi 10 5 by omega, hla]; exact i1)
        omega
      have mk := msk_in u (mi 11) (mi 12) (mi 10 5).toNat
      have bt := msk_bit u (mi 11) (mi 12) (mi 10 5).toNat (mi 13 i.toNat / 16384).toNat (by omega)
      rw [show (((mi 13 i.toNat / 16384).toNat : Nat) : Int) = mi 13 i.toNat / 16384 by omega] at bt
      have p12 : 2 ^ (mi 10 5).toNat ≤ 2 ^ 12 := Nat.pow_le_pow_right (by decide) (by omega)
      have e := iShr_div (x := msk u (mi 11) (mi 12) (mi 10 5).toNat) (mi 13 i.toNat / 16384).toNat (by omega) (by omega)
      rw [show (((mi 13 i.toNat / 16384).toNat : Nat) : Int) = mi 13 i.toNat / 16384 by omega] at e
      rw [e]
      have e2 : (2 : Int) ^ (mi 13 i.toNat / 16384).toNat = ((2 ^ (mi 13 i.toNat / 16384).toNat : Nat) : Int) := by simp
      rw [e2, bt]
      cases fires u (mi 11) (mi 12) (mi 13 i.toNat / 16384) <;> simp [bi]
    · rw [e1]
      exact fo_cg T (fires_cg T) _ _ _
end CHANGE
