section ISSO
variable {d : Nat} {mi : MT}
/-- what a rule may ask of two signs -/
def td (c : Nat → Int) (a b : Int) (j : Nat) : Int := if j < 4 then c (16 + 17 * a + 1 + 4 * (c (16 + 17 * a).toNat - 1) + j).toNat else if j = 4 then c (16 + 17 * a).toNat else if j < 9 then c (16 + 17 * b + 1 + (j - 5)).toNat else c (16 + 17 * b).toNat
theorem s_M_valueOf {P : Int → MT → Prop} {v c k a b : Int} (hd : 0 < d) (hv : vRel v c k) (ha : 0 ≤ a ∧ a < 10) (hb : 0 ≤ b ∧ b < 10) (hn : 1 ≤ mi 135 (16 + 17 * a).toNat ∧ mi 135 (16 + 17 * a).toNat ≤ 4) (h : P (amtv (td (mi 135) a b) v) mi) : c_M_valueOf d c k a b mi P := by
  unfold amtv at h
  rcases hv with ⟨v1, v2, v3, v4⟩ | ⟨v1, v2, v3⟩
  · rw [if_neg (by omega)] at h
    refine v_M_valueOf ⟨fun q => absurd v3 q, fun _ => ?_⟩
    rw [v4]; exact h
  · rw [if_pos (by omega)] at h
    obtain ⟨j, hj⟩ : ∃ j : Nat, v = 1000 + j := ⟨(v - 1000).toNat, by omega⟩
    subst hj
    rw [show ((1000 : Int) + j - 1000).toNat = j by omega] at h
    have jl : j < 10 := by omega
    have ec : c = j + 1 := by omega
    subst ec
    refine v_M_valueOf ⟨fun _ => ⟨fun q6 => ⟨by omega, fun q4 => ⟨fun _ => ⟨by omega, ?_⟩, fun w => by omega⟩, fun q4 => ⟨by omega, ?_⟩⟩, fun q6 => ⟨by omega, fun q4 => ⟨fun w => by omega, fun _ => ⟨by omega, by omega, ?_⟩⟩, fun q4 => ⟨by omega, ?_⟩⟩⟩, fun q => by omega⟩
    · unfold td at h
      rw [if_neg (by omega), if_neg (by omega), if_pos (by omega)] at h
      rw [show (16 + 17 * b + 1 + 0 + ((j : Int) + 1 - 1) % 5).toNat = (16 + 17 * b + 1 + ((j : Int) - 5)).toNat by omega]
      exact h
    · unfold td at h
      rw [if_neg (by omega), if_neg (by omega), if_neg (by omega)] at h
      exact h
    · unfold td at h
      rw [if_pos (by omega)] at h
      rw [show (16 + 17 * a + 1 + 4 * (mi 135 (16 + 17 * a).toNat - 1) + ((j : Int) + 1 - 1) % 5).toNat = (16 + 17 * a + 1 + 4 * (mi 135 (16 + 17 * a).toNat - 1) + (j : Int)).toNat by omega]
      exact h
    · unfold td at h
      rw [if_neg (by omega), if_pos (by omega)] at h
      exact h
/-- the reference's pile -/
def PL (f : Nat → Int) : List Bool → Prop
  | [] => True
  | b :: s => f s.length = bi b ∧ PL f s
theorem PL_cg {f g : Nat → Int} : ∀ s : List Bool, PL f s → (∀ j : Nat, j < s.length → g j = f j) → PL g s
  | [], _, _ => trivial
  | b :: s, h, e => ⟨by rw [e _ (by simp)]; exact h.1, PL_cg s h.2 (fun j hj => e j (by simp only [List.length_cons]; omega))⟩
theorem l_M_isSo {P : Bool → MT → Prop} {q a b j : Int} {co : Nat → Int} (hd : 1 < d) (hq : 0 ≤ q ∧ q < 13) (hj : j ≤ 400) (h143 : mi 143 q.toNat = j) (ha : 0 ≤ a ∧ a < 10) (hb : 0 ≤ b ∧ b < 10) (hn : 1 ≤ mi 135 (16 + 17 * a).toNat ∧ mi 135 (16 + 17 * a).toNat ≤ 4) : ∀ (k : Nat) (i : Int) (s : List Bool) (f : Nat → Int), j = i + k → 0 ≤ i → (∀ x : Int, i ≤ x → x < j → cRl (co x.toNat) mi (mi 151 x.toNat)) → Bal co k i s.length 1 → s.length ≤ 15 → PL f s → (∀ g : Nat → Int, P (top (exe (td (mi 135) a b) co k i s)) (sv mi 152 g)) → h_M_isSo_28 d q a b s.length i (sv mi 152 f) P := by
  intro k
  induction k with
  | zero =>
    intro i s f hi i0 hc hB hs hp h
    have e143 : (sv mi 152 f) 143 q.toNat = j := h143
    refine v_M_isSo_28 ?_
    rw [e143]
    have l1 : (s.length : Int) = 1 := hB
    refine ⟨hq, fun _ => ?_, fun w => by omega⟩
    match s, l1, hp, h with
    | [], l1, _, _ => simp at l1
    | [x], _, hp, h =>
      have e0 : (sv mi 152 f) 152 0 = bi x := hp.1
      rw [e0]
      have g := h f
      simp only [exe, top] at g
      refine ⟨bi_in x, ?_⟩
      cases x with
      | true => exact g
      | false => exact g
    | x :: y :: s, l1, _, _ => simp only [List.length_cons] at l1; omega
  | succ k ih =>
    intro i s f hi i0 hc hB hs hp h
    have e143 : (sv mi 152 f) 143 q.toNat = j := h143
    have c0 := hc i (by omega) (by omega)
    have hc' : ∀ x : Int, i + 1 ≤ x → x < j → cRl (co x.toNat) mi (mi 151 x.toNat) := fun x a b => hc x (by omega) b
    have e151 : (sv mi 152 f) 151 i.toNat = mi 151 i.toNat := rfl
    refine v_M_isSo_28 ?_
    rw [e143, e151]
    refine ⟨hq, fun w => by omega, fun _ => ⟨by omega, ?_⟩⟩
    simp only [exe] at h
    rcases c0 with ⟨c1, c2⟩ | ⟨c1, c2⟩ | ⟨c1, c2⟩ | ⟨c1, va, vb, r1, r2, r3, c2⟩
    · -- not
      rw [c1]
      refine ⟨fun w => absurd rfl w, fun _ => ?_⟩
      rw [c2] at h
      have hs1 : st1 (td (mi 135) a b) 3145728 s = s3 s := by unfold st1; rw [if_neg (by decide), if_pos (by decide)]
      rw [hs1] at h
      rcases hB with w | ⟨w1, w2, w3⟩ | w
      · rw [c2] at w; omega
      · match s, w2, w3, hs, hp, h with
        | [], w2, _, _, _, _ => simp at w2
        | x :: s, w2, w3, hs, hp, h =>
          have ln : (((x :: s).length : Nat) : Int) - 1 = s.length := by simp only [List.length_cons]; omega
          have e0 : (sv mi 152 f) 152 (((x :: s).length : Nat) - 1 : Int).toNat = bi x := by
            show f _ = _
            rw [ln, show ((s.length : Nat) : Int).toNat = s.length by omega]; exact hp.1
          rw [e0, wt_sv, wt_sv, ln]
          simp only [List.length_cons] at hs
          have K : ∀ c : Int, c = bi (!x) → h_M_isSo_28 d q a b (((x :: s).length : Nat) : Int) (i + 1) (sv mi 152 (sv f ((s.length : Nat) : Int).toNat c)) P := by
            intro c hcv
            have := ih (i + 1) ((!x) :: s) (sv f ((s.length : Nat) : Int).toNat c) (by omega) (by omega) hc' w3 (by simp only [List.length_cons]; omega) ⟨by rw [show ((s.length : Nat) : Int).toNat = s.length by omega, sv_eq]; exact hcv, PL_cg s hp.2 (fun j hj => svn _ _ (by omega))⟩ h
            exact this
          refine ⟨by simp only [List.length_cons] at *; omega, fun w => ⟨by omega, K 0 ?_⟩, fun w => ⟨by omega, K 1 ?_⟩⟩
          · cases x with
            | true => rfl
            | false => exact absurd rfl w
          · cases x with
            | true => exact absurd w (by decide)
            | false => rfl
      · rw [c2] at w; omega
    · sorry
    · sorry
    · sorry
end ISSO
