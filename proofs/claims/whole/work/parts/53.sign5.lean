/-! rows of the reference's house that agree -/
section CG
variable {c c' : Nat → Int}
theorem P_sgn_g {st sz : Nat → Int} (h : P_sgn st sz c) (e0 : c' 0 = c 0) (e : ∀ j : Nat, 16 ≤ j → j < 186 → c' j = c j) : P_sgn st sz c' := by
  intro s hs0 hs hs10
  rw [e0] at hs
  obtain ⟨g1, g2, g3, g4⟩ := h s hs0 hs hs10
  refine ⟨by rw [e _ (by omega) (by omega)]; exact g1, g2, fun k hk hk2 => ?_, fun k hk hk2 m hm hm2 => ?_⟩
  · obtain ⟨e1, e2⟩ := g3 k hk hk2
    exact ⟨e1, fun m hm hm2 => by rw [e _ (by omega) (by omega)]; exact e2 m hm hm2⟩
  · rw [e _ (by omega) (by omega)]; exact g4 k hk hk2 m hm hm2
theorem P_xy_g {xs ys : Nat → Int} (h : P_xy xs ys c) (e : ∀ j : Nat, 186 ≤ j → j < 226 → c' j = c j) : P_xy xs ys c' := by
  intro k hk hk2
  rw [e _ (by omega) (by omega), e _ (by omega) (by omega)]; exact h k hk hk2
theorem P_w_g {w : Nat → Int} (h : P_w w c) (e : ∀ j : Nat, 8 ≤ j → j < 12 → c' j = c j) : P_w w c' := by
  intro k hk hk2
  rw [e _ (by omega) (by omega)]; exact h k hk hk2
theorem P_tr_g {w : Nat → Int} (h : P_tr w c) (e : ∀ j : Nat, 5 ≤ j → j < 7 → c' j = c j) : P_tr w c' := by
  intro k hk hk2
  rw [e _ (by omega) (by omega)]; exact h k hk hk2
theorem P_pr_g {w : Nat → Int} (h : P_pr w c) (e : ∀ j : Nat, 12 ≤ j → j < 15 → c' j = c j) : P_pr w c' := by
  intro k hk hk2
  rw [e _ (by omega) (by omega)]; exact h k hk hk2
theorem P_si_g {wo sl da ma : Nat → Int} (h : P_si wo sl da ma c) (e0 : c' 1 = c 1) (e : ∀ j : Nat, 226 ≤ j → j < 1066 → c' j = c j) : P_si wo sl da ma c' := by
  obtain ⟨h1, h2, h3⟩ := h
  refine ⟨by rw [e0]; exact h1, by rw [e0]; exact h2, fun k hk hk2 => ?_⟩
  rw [e0] at hk2
  rw [e _ (by omega) (by omega), e _ (by omega) (by omega), e _ (by omega) (by omega)]
  obtain ⟨g1, g2, g3, g4, g5, g6⟩ := h3 k hk hk2
  exact ⟨g1, g2, g3, g4, g5, fun m hm hm2 => by rw [e _ (by omega) (by omega)]; exact g6 m hm hm2⟩
theorem P_va_g {vs vc : Nat → Int} (h : P_va vs vc c) (e : ∀ j : Nat, 1066 ≤ j → j < 1086 → c' j = c j) : P_va vs vc c' := by
  intro k hk hk2
  obtain ⟨g1, g2, g3⟩ := h k hk hk2
  exact ⟨by rw [e _ (by omega) (by omega)]; exact g1, g2, fun w hw hw2 => by rw [e _ (by omega) (by omega)]; exact g3 w hw hw2⟩
theorem P_us_g {pa : Nat → Int} (h : P_us pa c) (e : ∀ j : Nat, 1106 ≤ j → j < 1426 → c' j = c j) : P_us pa c' := by
  intro k hk hk2 s hs hs2 r hr hr2
  rw [e _ (by omega) (by omega)]; exact h k hk hk2 s hs hs2 r hr hr2
theorem P_ud_g {fo us si da : Nat → Int} (h : P_ud fo us si da c) (e0 : c' 2 = c 2) (e : ∀ j : Nat, 1426 ≤ j → j < 1666 → c' j = c j) : P_ud fo us si da c' := by
  obtain ⟨h1, h2, h3⟩ := h
  refine ⟨by rw [e0]; exact h1, by rw [e0]; exact h2, fun k hk hk2 => ?_⟩
  rw [e0] at hk2
  rw [e _ (by omega) (by omega), e _ (by omega) (by omega), e _ (by omega) (by omega), e _ (by omega) (by omega)]
  exact h3 k hk hk2
theorem P_num_g {bo bo' : Nat → Int} (h : P_num bo c) (e : ∀ j : Nat, j < 5 → c' j = c j) (e2 : bo' 8 = bo 8 ∧ bo' 9 = bo 9 ∧ bo' 10 = bo 10) : P_num bo' c' := by
  unfold P_num
  rw [e2.1, e2.2.1, e2.2.2, e 0 (by decide), e 3 (by decide), e 4 (by decide)]; exact h
theorem P_stat_g {h mo h' mo' : Nat → Int} (e1 : h' 13 = mo' 3) (e2 : h' 12 = mo' 11) : P_stat h' mo' := ⟨e1, e2⟩
theorem P_tape_0 {o t mo s : Nat → Int} (h : o 3 = 0) (h2 : mo 7 = 0) : P_tape o t mo s := ⟨by omega, by omega, fun k h0 h1 => by omega⟩
end CG
section SIGN5
variable {d : Nat} {mi : MT}
/-- the reference's sign, laid into its house -/
theorem s_M_sign_120 {P : Int → MT → Prop} {l N : Int} (hd : 0 < d) (hl : 0 ≤ l ∧ l < 10) (hN : mi 134 14 = N) (hN4 : 1 ≤ N ∧ N ≤ 4) (h0 : mi 135 0 = l) (h : ∀ t : Nat → Int, (∀ i : Int, 0 ≤ i → i < 16 → t (16 + 17 * l + 1 + i).toNat = if i < 4 * N then mi 141 i.toNat else -1) → (∀ j : Nat, (j : Int) ≤ 16 + 17 * l ∨ 16 + 17 * l + 17 ≤ j → t j = mi 135 j) → P l (wt (wt (sv mi 135 t) 135 0 (l + 1)) 134 3 (min l 0))) : h_M_sign_120 d l 0 mi P := by
  have L : ∀ i : Int, i ≤ 16 → 0 ≤ i → ∀ t : Nat → Int, (∀ j : Int, 0 ≤ j → j < i → t (16 + 17 * l + 1 + j).toNat = if j < 4 * N then mi 141 j.toNat else -1) → (∀ j : Nat, (j : Int) ≤ 16 + 17 * l ∨ 16 + 17 * l + 17 ≤ j → t j = mi 135 j) → h_M_sign_120 d l i (sv mi 135 t) P := by
    refine upto _ (fun i hi ih i0 t t1 t2 => ?_)
    have e0 : (sv mi 135 t) 135 0 = l := by show t 0 = l; rw [t2 0 (by omega)]; exact h0
    have eN : (sv mi 135 t) 134 14 = N := hN
    refine v_M_sign_120 ?_
    rw [e0, eN]
    have W : i < 16 → ∀ v : Int, v = (if i < 4 * N then mi 141 i.toNat else -1) → h_M_sign_120 d l (i + 1) (wt (sv mi 135 t) 135 (16 + 17 * l + 1 + i).toNat v) P := by
      intro q v hv
      rw [wt_sv]
      refine ih q (by omega) _ (fun j j0 j1 => ?_) (fun j hj => by rw [svn _ _ (by omega)]; exact t2 j hj)
      by_cases c : j = i
      · subst c; rw [sv_eq]; exact hv
      · rw [svn _ _ (by omega)]; exact t1 j j0 (by omega)
    refine ⟨fun q => ⟨by omega, h t (fun j j0 j1 => t1 j j0 (by omega)) t2⟩, fun q => ⟨by omega, fun q2 => ⟨by omega, W q _ (by rw [if_neg (by omega)])⟩, fun q2 => ⟨by omega, by omega, W q _ (by rw [if_pos q2]; rfl)⟩⟩⟩
  have := L 0 (by omega) (by omega) (mi 135) (fun j j0 j1 => by omega) (fun j _ => rfl)
  rw [sv_self] at this
  exact this
end SIGN5
