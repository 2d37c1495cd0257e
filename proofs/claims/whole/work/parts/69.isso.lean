section ISSO
variable {d : Nat} {mi : MT}
/-- what a rule may ask of two signs -/
def td (c : Nat → Int) (a b : Int) (j : Nat) : Int := if j < 4 then c (16 + 17 * a + 1 + 4 * (c (16 + 17 * a).toNat - 1) + j).toNat else if j = 4 then c (16 + 17 * a).toNat else if j < 9 then c (16 + 17 * b + 1 + (j - 5)).toNat else c (16 + 17 * b).toNat
theorem s_M_valueOf {P : Int → MT → Prop} {v c k a b : Int} (hd : 0 < d) (hv : vRel v c k) (ha : 0 ≤ a ∧ a < 10) (hb : 0 ≤ b ∧ b < 10) (hn : 1 ≤ mi 135 (16 + 17 * a).toNat ∧ mi 135 (16 + 17 * a).toNat ≤ 4) (h : P (amtv (td (mi 135) a b) v) mi) : c_M_valueOf d c k a b mi P := by
  unfold amtv at h
  rcases hv with ⟨v1, v2, v3, v4⟩ | ⟨v1, v2, v3⟩
  · rw [if_neg (by omega)] at h
    refine v_M_valueOf ⟨fun q => absurd v3 q, fun _ => ?_⟩
    rw [v4]; exact h
  · rw [if_pos (by omega)] at h
    obtain ⟨j, hj⟩ : ∃ j : Nat, v = 1000 + j := ⟨(v - 1000).toNat, by omega⟩
    subst hj
    rw [show ((1000 : Int) + j - 1000).toNat = j by omega] at h
    have jl : j < 10 := by omega
    have ec : c = j + 1 := by omega
    subst ec
    refine v_M_valueOf ⟨fun _ => ⟨fun q6 => ⟨by omega, fun q4 => ⟨fun _ => ⟨by omega, ?_⟩, fun w => by omega⟩, fun q4 => ⟨by omega, ?_⟩⟩, fun q6 => ⟨by omega, fun q4 => ⟨fun w => by omega, fun _ => ⟨by omega, by omega, ?_⟩⟩, fun q4 => ⟨by omega, ?_⟩⟩⟩, fun q => by omega⟩
    · unfold td at h
      rw [if_neg (by omega), if_neg (by omega), if_pos (by omega)] at h
      rw [show (16 + 17 * b + 1 + 0 + ((j : Int) + 1 - 1) % 5).toNat = (16 + 17 * b + 1 + ((j : Int) - 5)).toNat by omega]
      exact h
    · unfold td at h
      rw [if_neg (by omega), if_neg (by omega), if_neg (by omega)] at h
      exact h
    · unfold td at h
      rw [if_pos (by omega)] at h
      rw [show (16 + 17 * a + 1 + 4 * (mi 135 (16 + 17 * a).toNat - 1) + ((j : Int) + 1 - 1) % 5).toNat = (16 + 17 * a + 1 + 4 * (mi 135 (16 + 17 * a).toNat - 1) + (j : Int)).toNat by omega]
      exact h
    · unfold td at h
      rw [if_neg (by omega), if_pos (by omega)] at h
      exact h
/-- the reference's pile -/
def PL (f : Nat → Int) : List Bool → Prop
  | [] => True
  | b :: s => f s.length = bi b ∧ PL f s
theorem PL_cg {f g : Nat → Int} : ∀ s : List Bool, PL f s → (∀ j : Nat, j < s.length → g j = f j) → PL g s
  | [], _, _ => trivial
  | b :: s, h, e => ⟨by rw [e _ (by simp)]; exact h.1, PL_cg s h.2 (fun j hj => e j (by simp only [List.length_cons]; omega))⟩
theorem l_M_isSo {P : Bool → MT → Prop} {q a b j : Int} {co : Nat → Int} (hd : 1 < d) (hq : 0 ≤ q ∧ q < 13) (hj : j ≤ 400) (h143 : mi 143 q.toNat = j) (ha : 0 ≤ a ∧ a < 10) (hb : 0 ≤ b ∧ b < 10) (hn : 1 ≤ mi 135 (16 + 17 * a).toNat ∧ mi 135 (16 + 17 * a).toNat ≤ 4) : ∀ (k : Nat) (i : Int) (s : List Bool) (f : Nat → Int), j = i + k → 0 ≤ i → (∀ x : Int, i ≤ x → x < j → cRl (co x.toNat) mi (mi 151 x.toNat)) → Bal co k i s.length 1 → s.length ≤ 15 → PL f s → (∀ g : Nat → Int, P (top (exe (td (mi 135) a b) co k i s)) (sv mi 152 g)) → h_M_isSo_28 d q a b s.length i (sv mi 152 f) P := by
  intro k
  induction k with
  | zero =>
    intro i s f hi i0 hc hB hs hp h
    have e143 : (sv mi 152 f) 143 q.toNat = j := h143
    refine v_M_isSo_28 ?_
    rw [e143]
    have l1 : (s.length : Int) = 1 := hB
    refine ⟨hq, fun _ => ?_, fun w => by omega⟩
    match s, l1, hp, h with
    | [], l1, _, _ => simp at l1
    | [x], _, hp, h =>
      have e0 : (sv mi 152 f) 152 0 = bi x := hp.1
      rw [e0]
      have g := h f
      simp only [exe, top] at g
      refine ⟨bi_in x, ?_⟩
      cases x with
      | true => exact g
      | false => exact g
    | x :: y :: s, l1, _, _ => simp only [List.length_cons] at l1; omega
  | succ k ih =>
    intro i s f hi i0 hc hB hs hp h
    have e143 : (sv mi 152 f) 143 q.toNat = j := h143
    have c0 := hc i (by omega) (by omega)
    have hc' : ∀ x : Int, i + 1 ≤ x → x < j → cRl (co x.toNat) mi (mi 151 x.toNat) := fun x a b => hc x (by omega) b
    have e151 : (sv mi 152 f) 151 i.toNat = mi 151 i.toNat := rfl
    refine v_M_isSo_28 ?_
    rw [e143, e151]
    refine ⟨hq, fun w => by omega, fun _ => ⟨by omega, ?_⟩⟩
    simp only [exe] at h
    rcases c0 with ⟨c1, c2⟩ | ⟨c1, c2⟩ | ⟨c1, c2⟩ | ⟨c1, va, vb, r1, r2, r3, c2⟩
    · -- not
      rw [c1]
      refine ⟨fun w => absurd rfl w, fun _ => ?_⟩
      rw [c2] at h
      have hs1 : st1 (td (mi 135) a b) 3145728 s = s3 s := by unfold st1; rw [if_neg (by decide), if_pos (by decide)]
      rw [hs1] at h
      rcases hB with w | ⟨w1, w2, w3⟩ | w
      · rw [c2] at w; omega
      · match s, w2, w3, hs, hp, h with
        | [], w2, _, _, _, _ => simp at w2
        | x :: s, w2, w3, hs, hp, h =>
          have ln : (((x :: s).length : Nat) : Int) - 1 = s.length := by simp only [List.length_cons]; omega
          have e0 : (sv mi 152 f) 152 (((x :: s).length : Nat) - 1 : Int).toNat = bi x := by
            show f _ = _
            rw [ln, show ((s.length : Nat) : Int).toNat = s.length by omega]; exact hp.1
          rw [e0, wt_sv, wt_sv, ln]
          simp only [List.length_cons] at hs
          have K : ∀ c : Int, c = bi (!x) → h_M_isSo_28 d q a b (((x :: s).length : Nat) : Int) (i + 1) (sv mi 152 (sv f ((s.length : Nat) : Int).toNat c)) P := by
            intro c hcv
            have := ih (i + 1) ((!x) :: s) (sv f ((s.length : Nat) : Int).toNat c) (by omega) (by omega) hc' w3 (by simp only [List.length_cons]; omega) ⟨by rw [show ((s.length : Nat) : Int).toNat = s.length by omega, sv_eq]; exact hcv, PL_cg s hp.2 (fun j hj => svn _ _ (by omega))⟩ h
            exact this
          refine ⟨by simp only [List.length_cons] at *; omega, fun w => ⟨by omega, K 0 ?_⟩, fun w => ⟨by omega, K 1 ?_⟩⟩
          · cases x with
            | true => rfl
            | false => exact absurd rfl w
          · cases x with
            | true => exact absurd w (by decide)
            | false => rfl
      · rw [c2] at w; omega
    · rw [c1]
      refine ⟨fun _ => ⟨fun w => by omega, fun _ => ⟨by omega, ?_⟩⟩, fun w => by omega⟩
      rw [c2] at h
      have hs1 : st1 (td (mi 135) a b) 4194304 s = s4 s := by unfold st1; rw [if_neg (by decide), if_neg (by decide), if_pos (by decide)]
      rw [hs1] at h
      rcases hB with w | w | ⟨w1, w2, w3⟩
      · rw [c2] at w; omega
      · rw [c2] at w; omega
      · match s, w2, w3, hs, hp, h with
        | [], w2, _, _, _, _ => simp at w2
        | [x], w2, _, _, _, _ => simp at w2
        | x :: y :: s, w2, w3, hs, hp, h =>
          simp only [List.length_cons] at hs
          have l1 : (((x :: y :: s).length : Nat) : Int) + (-1) = (((y && x) :: s).length : Nat) := by simp only [List.length_cons]; omega
          have l2 : (((((y && x) :: s).length : Nat) : Int) - 1) = s.length := by simp only [List.length_cons]; omega
          have lt : ((s.length : Nat) : Int).toNat = s.length := by omega
          have lt2 : ((((y && x) :: s).length : Nat) : Int).toNat = s.length + 1 := by simp only [List.length_cons]; omega
          have hx : f (s.length + 1) = bi x := hp.1
          have hy : f s.length = bi y := hp.2.1
          have hl : (((y && x) :: s).length : Int) - 1 = ((x :: y :: s).length : Int) - 1 - 1 := by simp only [List.length_cons]; omega
          rw [l1, l2, lt]
          have ey : (sv mi 152 f) 152 s.length = bi y := hy
          have ex : (sv mi 152 f) 152 ((((y && x) :: s).length : Nat) : Int).toNat = bi x := by rw [lt2]; exact hx
          rw [ey, ex]
          have K : ∀ c : Int, c = bi (y && x) → h_M_isSo_28 d q a b ((((y && x) :: s).length : Nat) : Int) (i + 1) (wt (sv mi 152 f) 152 s.length c) P := by
            intro c hcv
            rw [wt_sv]
            refine ih (i + 1) ((y && x) :: s) (sv f s.length c) (by omega) (by omega) hc' ?_ (by simp only [List.length_cons]; omega) ⟨by rw [sv_eq]; exact hcv, PL_cg s hp.2.2 (fun j hj => svn _ _ (by omega))⟩ h
            rw [show (((x :: y :: s).length : Nat) : Int) - 1 = (((y && x) :: s).length : Nat) by simp only [List.length_cons]; omega] at w3
            exact w3
          have ll : 0 ≤ ((((y && x) :: s).length : Nat) : Int) ∧ ((((y && x) :: s).length : Nat) : Int) < 400 := by simp only [List.length_cons]; omega
          have b1 := bi_in x
          have b2 := bi_in y
          refine ⟨fun w => absurd rfl w, fun _ => ⟨by omega, fun w => ⟨by omega, K 0 ?_⟩, fun w => ⟨by omega, fun w5 => ⟨by omega, K 0 ?_⟩, fun w5 => ⟨by omega, K 1 ?_⟩⟩⟩⟩
          all_goals (cases x <;> cases y <;> simp_all [bi])
    · rw [c1]
      refine ⟨fun _ => ⟨fun w => by omega, fun _ => ⟨by omega, ?_⟩⟩, fun w => by omega⟩
      rw [c2] at h
      have hs1 : st1 (td (mi 135) a b) 5242880 s = s5 s := by unfold st1; rw [if_neg (by decide), if_neg (by decide), if_neg (by decide)]
      rw [hs1] at h
      rcases hB with w | w | ⟨w1, w2, w3⟩
      · rw [c2] at w; omega
      · rw [c2] at w; omega
      · match s, w2, w3, hs, hp, h with
        | [], w2, _, _, _, _ => simp at w2
        | [x], w2, _, _, _, _ => simp at w2
        | x :: y :: s, w2, w3, hs, hp, h =>
          simp only [List.length_cons] at hs
          have l1 : (((x :: y :: s).length : Nat) : Int) + (-1) = (((y || x) :: s).length : Nat) := by simp only [List.length_cons]; omega
          have l2 : (((((y || x) :: s).length : Nat) : Int) - 1) = s.length := by simp only [List.length_cons]; omega
          have lt : ((s.length : Nat) : Int).toNat = s.length := by omega
          have lt2 : ((((y || x) :: s).length : Nat) : Int).toNat = s.length + 1 := by simp only [List.length_cons]; omega
          have hx : f (s.length + 1) = bi x := hp.1
          have hy : f s.length = bi y := hp.2.1
          have hl : (((y || x) :: s).length : Int) - 1 = ((x :: y :: s).length : Int) - 1 - 1 := by simp only [List.length_cons]; omega
          rw [l1, l2, lt]
          have ey : (sv mi 152 f) 152 s.length = bi y := hy
          have ex : (sv mi 152 f) 152 ((((y || x) :: s).length : Nat) : Int).toNat = bi x := by rw [lt2]; exact hx
          rw [ey, ex]
          have K : ∀ c : Int, c = bi (y || x) → h_M_isSo_28 d q a b ((((y || x) :: s).length : Nat) : Int) (i + 1) (wt (sv mi 152 f) 152 s.length c) P := by
            intro c hcv
            rw [wt_sv]
            refine ih (i + 1) ((y || x) :: s) (sv f s.length c) (by omega) (by omega) hc' ?_ (by simp only [List.length_cons]; omega) ⟨by rw [sv_eq]; exact hcv, PL_cg s hp.2.2 (fun j hj => svn _ _ (by omega))⟩ h
            rw [show (((x :: y :: s).length : Nat) : Int) - 1 = (((y || x) :: s).length : Nat) by simp only [List.length_cons]; omega] at w3
            exact w3
          have ll : 0 ≤ ((((y || x) :: s).length : Nat) : Int) ∧ ((((y || x) :: s).length : Nat) : Int) < 400 := by simp only [List.length_cons]; omega
          have b1 := bi_in x
          have b2 := bi_in y
          refine ⟨fun _ => ⟨by omega, fun w => ⟨by omega, K 1 ?_⟩, fun w => ⟨by omega, fun w5 => ⟨by omega, K 0 ?_⟩, fun w5 => ⟨by omega, K 1 ?_⟩⟩⟩, fun w => by omega⟩
          all_goals (cases x <;> cases y <;> simp_all [bi])
    · have q3 : co i.toNat / 1048576 = mi 150 (mi 151 i.toNat).toNat ∧ co i.toNat / 1024 % 1024 = va ∧ co i.toNat % 1024 = vb := by
        unfold vRel at r1 r2
        omega
      refine ⟨fun _ => ⟨fun _ => ⟨by omega, ?_⟩, fun w => by omega⟩, fun w => by omega⟩
      have hs1 : st1 (td (mi 135) a b) (co i.toNat) s = cmpB (td (mi 135) a b) (co i.toNat) :: s := by unfold st1; rw [if_pos (by omega)]
      rw [hs1] at h
      rcases hB with ⟨w1, w2, w3⟩ | w | w
      · refine s_M_valueOf (mi := sv mi 152 f) (v := va) (by omega) r1 ha hb hn ?_
        refine s_M_valueOf (mi := sv mi 152 f) (v := vb) (by omega) r2 ha hb hn ?_
        have e150 : (sv mi 152 f) 150 (mi 151 i.toNat).toNat = mi 150 (mi 151 i.toNat).toNat := rfl
        rw [e150]
        have K : ∀ c : Bool, cmpB (td (mi 135) a b) (co i.toNat) = c → h_M_isSo_28 d q a b ((s.length : Nat) + 1 : Int) (i + 1) (wt (sv mi 152 f) 152 ((s.length : Nat) : Int).toNat (bi c)) P := by
          intro c hcv
          rw [hcv] at h
          rw [wt_sv, show ((s.length : Nat) : Int).toNat = s.length by omega]
          refine ih (i + 1) (c :: s) (sv f s.length (bi c)) (by omega) (by omega) hc' ?_ (by simp only [List.length_cons]; omega) ⟨sv_eq _ _ _, PL_cg s hp (fun j hj => svn _ _ (by omega))⟩ h
          rw [show ((s.length : Nat) : Int) + 1 = ((c :: s).length : Nat) by simp only [List.length_cons]; omega] at w3
          exact w3
        have cv : cmpB (td (mi 135) a b) (co i.toNat) = if mi 150 (mi 151 i.toNat).toNat = 0 then decide (amtv (td (mi 135) a b) va < amtv (td (mi 135) a b) vb) else if mi 150 (mi 151 i.toNat).toNat = 1 then decide (amtv (td (mi 135) a b) vb < amtv (td (mi 135) a b) va) else decide (amtv (td (mi 135) a b) va = amtv (td (mi 135) a b) vb) := by
          unfold cmpB; rw [q3.1, q3.2.1, q3.2.2]
        have t5 : (td ((sv mi 152 f) 135) a b) = td (mi 135) a b := rfl
        rw [t5]
        refine ⟨fun n0 => ⟨fun n1 => ⟨fun w => ⟨by omega, K false ?_⟩, fun w => ⟨by omega, K true ?_⟩⟩, fun n1 => ⟨fun w => ⟨by omega, K false ?_⟩, fun w => ⟨by omega, K true ?_⟩⟩⟩, fun n0 => ⟨fun w => ⟨by omega, K false ?_⟩, fun w => ⟨by omega, K true ?_⟩⟩⟩
        · rw [cv, if_neg n0, if_neg n1]; exact decide_eq_false w
        · rw [cv, if_neg n0, if_neg n1]; exact decide_eq_true w
        · rw [cv, if_neg n0, if_pos n1]; exact decide_eq_false (by omega)
        · rw [cv, if_neg n0, if_pos n1]; exact decide_eq_true w
        · rw [cv, if_pos n0]; exact decide_eq_false (by omega)
        · rw [cv, if_pos n0]; exact decide_eq_true w
      · omega
      · omega
end ISSO
