section SIGN3
variable {r : Nat → Int} {n T : Int}
theorem bI_1 {p : Prop} [Decidable p] (h : p) : bI p = 1 := if_pos h
theorem bI_0 {p : Prop} [Decidable p] (h : ¬ p) : bI p = 0 := if_neg h
/-- the reference, a state's first word -/
theorem ref_state {dd : Nat} {m' : MT} {P' : MT → Prop} {p l2 x : Int} (hd : 14 ≤ dd) (hg : m' 134 12 = -1) (hM : MAT m' r n p) (h14 : m' 134 14 = l2) (hl : 0 ≤ l2 ∧ l2 < 4) (hx : okSt x) (hx0 : l2 = 0 → x = 0) (hxR : 0 < l2 → RS1 x (m' 141) (4 * l2 - 4))
    (h1 : is5 r n p → ∀ m2 : MT, FS m' m2 → m2 134 12 = -1 → m2 134 14 = l2 + 1 → MAT m2 r n (nx r n p) → RS1 (wmk x 0 (shF r p 5)) (m2 141) (4 * l2) → (∀ j : Nat, (j : Int) < 4 * l2 → m2 141 j = m' 141 j) → h_M_state_189 dd 1 (4 * l2) (shF r p 5) 1 m2 P')
    (h0 : ¬ is5 r n p → P' (wt m' 134 12 p)) : c_M_state dd m' P' := by
  obtain ⟨⟨hM8, hn, hR, h139⟩, hM9, hp, hM10, hsb⟩ := id hM
  have FLT : ¬ is5 r n p → c_M_faults (dd - 1) m' (fun m3 => P' m3) := fun w => s_M_faults (by omega) hg (by rw [hM9]; exact h0 w)
  have X : is5 r n p → h_M_state_89 dd 1 (4 * l2) 0 p m' P' := by
    intro w
    obtain ⟨pn, te5, dg⟩ := id w
    rw [if_pos pn] at hM10
    have tin := te_in (r := r) pn
    have Y : h_M_state_129 dd 1 (4 * l2) (shF r p 5) 1 (wt m' 141 (4 * l2).toNat (shF r p 5)) P' := by
      have Z : ∀ i : Int, i ≤ 4 → 1 ≤ i → ∀ t : Nat → Int, (∀ j : Nat, (j : Int) < 4 * l2 → t j = m' 141 j) → t (4 * l2).toNat = shF r p 5 → (∀ k : Int, 1 ≤ k → k < i → t (4 * l2 + k).toNat = mkv x k) → h_M_state_129 dd 1 (4 * l2) (shF r p 5) i (sv m' 141 t) P' := by
        refine upto _ (fun i hi ih i1 t t0 t1 t2 => ?_)
        refine v_M_state_129 ⟨fun q => ?_, fun q => ?_⟩
        · have e14 : (sv m' 141 t) 134 14 = l2 := h14
          refine ⟨by omega, ?_⟩
          rw [e14]
          refine s_M_next (r := r) (n := n) (q := te r n p) (by omega) ⟨hM8, hn, hR, h139⟩ hM10 (BD_te hp.1 pn) (fun u hu hM2 => ?_)
          have s5 := shF_in w 5 (by omega)
          have o := wmk_ok hx (m := 0) (v := shF r p 5) (by omega) (show 0 ≤ shF r p 5 ∧ shF r p 5 < 243 from s5)
          have F1 : FS m' (wt (sv m' 141 t) 134 14 (l2 + 1)) := FS.trans (b := sv m' 141 t) ⟨fun k _ q => sv_ne _ _ q, fun j _ _ _ _ => rfl⟩ (FS.w _ (by omega))
          refine h1 w _ (F1.trans (FS.u hu)) (by show u 12 = -1; rw [hu 12 (by decide) (by decide)]; exact hg) (by show u 14 = l2 + 1; rw [hu 14 (by decide) (by decide)]; exact wt_same _ _ _ _) hM2 (fun k k0 k4 => ?_) (fun j hj => t0 j hj)
          by_cases c : k = 0
          · subst c; rw [o.2.1]; show t _ = _; rw [← t1]; congr 1; omega
          · rw [o.2.2 k k0 k4 c]; exact t2 k (by omega) (by omega)
        · have e14 : (sv m' 141 t) 134 14 = l2 := h14
          rw [e14]
          have W : ∀ v : Int, v = mkv x i → h_M_state_129 dd 1 (4 * l2) (shF r p 5) (i + 1) (wt (sv m' 141 t) 141 (4 * l2 + i).toNat v) P' := by
            intro v hv
            rw [wt_sv]
            refine ih q (by omega) _ (fun j hj => by rw [svn _ _ (by omega)]; exact t0 j hj) (by rw [svn _ _ (by omega)]; exact t1) (fun k k1 k2 => ?_)
            by_cases c : k = i
            · subst c; rw [sv_eq]; exact hv
            · rw [svn _ _ (by omega)]; exact t2 k k1 (by omega)
          refine ⟨by omega, fun q2 => ⟨by omega, W _ ?_⟩, fun q2 => ⟨by omega, W _ ?_⟩⟩
          · show t _ = _
            rw [t0 _ (by omega)]
            exact hxR (by omega) i (by omega) (by omega)
          · rw [hx0 q2]
            have : i = 1 ∨ i = 2 ∨ i = 3 := by omega
            rcases this with rfl | rfl | rfl <;> rfl
      rw [wt_s]
      exact Z 1 (by omega) (by omega) _ (fun j hj => svn _ _ (by omega)) (sv_eq _ _ _) (fun k k1 k2 => by omega)
    have L : ∀ i : Int, i ≤ te r n p → p ≤ i → h_M_state_89 dd 1 (4 * l2) (shF r p (i - p).toNat) i m' P' := by
      refine upto _ (fun i hi ih i0 => ?_)
      refine v_M_state_89 ?_
      rw [hM10]
      refine ⟨fun q => ⟨by omega, ?_⟩, fun q => ?_⟩
      · rw [show (i - p).toNat = 5 by omega]; exact Y
      · have g := dg i i0 (by omega)
        have s := shF_in w (i - p).toNat (by omega)
        have s2 : (3 : Int) ^ (i - p).toNat ≤ 81 := by
          have : (i - p).toNat = 0 ∨ (i - p).toNat = 1 ∨ (i - p).toNat = 2 ∨ (i - p).toNat = 3 ∨ (i - p).toNat = 4 := by omega
          rcases this with e | e | e | e | e <;> rw [e] <;> decide
        rw [h139 i (by omega) (by omega)]
        have ih := ih q (by omega)
        rw [show (i + 1 - p).toNat = (i - p).toNat + 1 by omega] at ih
        simp only [shF] at ih
        rw [show p + (((i - p).toNat : Nat) : Int) = i by omega] at ih
        exact ⟨by omega, ih⟩
    have := L p (by omega) (by omega)
    rw [show (p - p).toNat = 0 by omega] at this
    exact this
  have te1 : p < n → p < te r n p ∧ te r n p ≤ n := fun q => te_in q
  generalize he : (if p < n then te r n p else n) = e at hM10
  have hpe : p ≤ e ∧ e ≤ n := by
    rw [← he]; split
    · rename_i q; have := te1 q; omega
    · omega
  have L : ∀ i : Int, i ≤ e → p ≤ i → ∀ l1 : Int, ((l1 = 1 ∧ e - p = 5 ∧ ∀ j : Int, p ≤ j → j < i → 48 ≤ r j.toNat ∧ r j.toNat ≤ 50) ∨ (l1 = 0 ∧ ¬ is5 r n p)) → h_M_state_37 dd l1 i m' P' := by
    refine upto _ (fun i hi ih i0 l1 hl1 => ?_)
    refine v_M_state_37 ?_
    rw [hM10, h14, hM9, hM8]
    refine ⟨fun q => ⟨fun q2 => ⟨by omega, ?_⟩, fun q2 => ⟨by omega, FLT ?_⟩⟩, fun q => ⟨fun q2 => ⟨fun q3 => absurd q2 q3, fun _ => ⟨by omega, FLT ?_⟩⟩, fun q2 => ⟨by omega, ?_⟩⟩⟩
    · rcases hl1 with w | w
      · rw [w.1]
        have pn : p < n := by omega
        rw [if_pos pn] at he
        exact X ⟨pn, by omega, fun j j1 j2 => w.2.2 j j1 (by omega)⟩
      · omega
    · rcases hl1 with w | w
      · omega
      · exact w.2
    · rcases hl1 with w | w
      · omega
      · exact w.2
    · rcases hl1 with w | w
      · rw [h139 i (by omega) (by omega)]
        by_cases c : i < n ∧ 48 ≤ r i.toNat ∧ r i.toNat ≤ 50
        · rw [bI_1 c]
          refine ih q (by omega) 1 (Or.inl ⟨rfl, w.2.1, fun j j1 j2 => ?_⟩)
          by_cases c2 : j = i
          · rw [c2]; exact c.2
          · exact w.2.2 j j1 (by omega)
        · rw [bI_0 c]
          refine ih q (by omega) 0 (Or.inr ⟨rfl, fun w2 => c ?_⟩)
          have := w2.2.2 i (by omega) (by omega)
          exact ⟨by omega, this⟩
      · omega
  refine v_M_state ?_
  rw [h14, hM10, hM9]
  refine ⟨fun _ => ⟨by omega, fun q => L p (by omega) (by omega) 0 (Or.inr ⟨rfl, fun w => ?_⟩), fun q => L p (by omega) (by omega) 1 (Or.inl ⟨rfl, q, fun j j1 j2 => by omega⟩)⟩, fun q => by omega⟩
  have := w.2.1
  rw [if_pos w.1] at he
  omega
theorem ref_state4 {dd : Nat} {m' : MT} {P' : MT → Prop} {p : Int} (hd : 14 ≤ dd) (hg : m' 134 12 = -1) (hM : MAT m' r n p) (h14 : m' 134 14 = 4) (h : P' (wt m' 134 12 p)) : c_M_state dd m' P' := v_M_state ⟨fun q => absurd h14 q, fun _ => ⟨by omega, s_M_faults (by omega) hg (by rw [hM.2.1]; exact h)⟩⟩
end SIGN3
