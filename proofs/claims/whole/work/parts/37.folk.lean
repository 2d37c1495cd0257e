/-! loops that count -/
theorem upto {Q : Int → Prop} (m : Int) (h : ∀ i, i ≤ m → (i < m → Q (i + 1)) → Q i) : ∀ i, i ≤ m → Q i := by
  have key : ∀ (n : Nat) (i : Int), i ≤ m → (m - i).toNat = n → Q i := by
    intro n
    induction n with
    | zero => intro i hi hn; exact h i hi (fun q => by omega)
    | succ n ih => intro i hi hn; exact h i hi (fun q => ih (i + 1) (by omega) (by omega))
  exact fun i hi => key _ i hi rfl
theorem dnto {Q : Int → Prop} (m : Int) (h : ∀ i, m ≤ i → (m < i → Q (i + (-1))) → Q i) : ∀ i, m ≤ i → Q i := by
  have key : ∀ (n : Nat) (i : Int), m ≤ i → (i - m).toNat = n → Q i := by
    intro n
    induction n with
    | zero => intro i hi hn; exact h i hi (fun q => by omega)
    | succ n ih => intro i hi hn; exact h i hi (fun q => ih (i + (-1)) (by omega) (by omega))
  exact fun i hi => key _ i hi rfl
theorem sv_self {α : Type} (f : Nat → α) (k : Nat) : sv f k (f k) = f := by funext j; unfold sv; split <;> simp_all
theorem wt_sv (mi : MT) (c i : Nat) (z : Int) (t : Nat → Int) : wt (sv mi c t) c i z = sv mi c (sv t i z) := by unfold wt; rw [svv, sv_eq]
theorem wt_s (mi : MT) (c i : Nat) (z : Int) : wt mi c i z = sv mi c (sv (mi c) i z) := rfl
theorem mulb {x u B b : Int} (h1 : 0 ≤ x ∧ x ≤ B) (h2 : 0 ≤ u ∧ u ≤ b) : 0 ≤ x * u ∧ x * u ≤ B * b := ⟨Int.mul_nonneg h1.1 h2.1, Int.mul_le_mul h1.2 h2.2 h2.1 (by omega)⟩
section FOLK
variable {d : Nat} {mi : MT}
/-- a sign is a variant of a concept -/
def isV (c : Nat → Int) (k sg : Int) : Prop := ∃ v : Int, 0 ≤ v ∧ v < c (1066 + 5 * k).toNat ∧ c (1066 + 5 * k + 1 + v).toNat = sg
theorem s_F_isVariant {P : Bool → MT → Prop} {k sg : Int} (hk : 0 ≤ k ∧ k < 4) (hv : P_va (mi 21) (mi 22) (mi 135)) (h1 : isV (mi 135) k sg → P true mi) (h0 : ¬ isV (mi 135) k sg → P false mi) : c_F_isVariant d k sg mi P := by
  obtain ⟨g1, g2, g3⟩ := hv k hk.1 hk.2
  have L : ∀ i : Int, i ≤ mi 22 k.toNat → (0 ≤ i ∧ ∀ v : Int, 0 ≤ v → v < i → mi 135 (1066 + 5 * k + 1 + v).toNat ≠ sg) → h_F_isVariant_2 d k sg i mi P := by
    refine upto _ (fun i hi ih hb => ?_)
    have g := g3 i hb.1
    refine v_F_isVariant_2 ?_
    repeat' (first | (refine And.intro (by omega) ?_) | apply And.intro | intro _ | omega)
    · exact h0 (fun ⟨v, a, b, e⟩ => hb.2 v a (by omega) e)
    · exact ih (by omega) ⟨by omega, fun v a b => if e : v = i then by subst e; have := g (by omega); omega else hb.2 v a (by omega)⟩
    · exact h1 ⟨i, by omega, by omega, by have := g (by omega); omega⟩
  exact v_F_isVariant (L 0 (by omega) ⟨by omega, fun v a b => by omega⟩)
theorem s_M_variantOf {P : Int → MT → Prop} {k sg : Int} (hk : 0 ≤ k ∧ k < 4) (hc : 0 ≤ mi 135 (1066 + 5 * k).toNat ∧ mi 135 (1066 + 5 * k).toNat ≤ 4) (h1 : isV (mi 135) k sg → ∀ v : Int, 0 ≤ v → P v mi) (h0 : ¬ isV (mi 135) k sg → P (-1) mi) : c_M_variantOf d k sg mi P := by
  have L : ∀ i : Int, i ≤ mi 135 (1066 + 5 * k).toNat → (0 ≤ i ∧ ∀ v : Int, 0 ≤ v → v < i → mi 135 (1066 + 5 * k + 1 + v).toNat ≠ sg) → h_M_variantOf_2 d k sg i mi P := by
    refine upto _ (fun i hi ih hb => ?_)
    refine v_M_variantOf_2 ?_
    repeat' (first | (refine And.intro (by omega) ?_) | apply And.intro | intro _ | omega)
    · exact h0 (fun ⟨v, a, b, e⟩ => hb.2 v a (by omega) e)
    · exact ih (by omega) ⟨by omega, fun v a b => if e : v = i then by subst e; omega else hb.2 v a (by omega)⟩
    · exact h1 ⟨i, by omega, by omega, by omega⟩ i (by omega)
  exact v_M_variantOf (L 0 (by omega) ⟨by omega, fun v a b => by omega⟩)
theorem ca_variant {k sg : Int} (hI : Base mi) (hd : 20 ≤ d) : c_C_variant d k sg mi (fun z m1 => c_M_variant d k sg m1 (fun z' m2 => Bth z z' mi m2)) := by
  obtain ⟨hs, ht, h1, h2, h3, h4, h5, h6, h7, h8, h9, h10⟩ := id hI
  have hn := h1
  unfold P_num at hn
  refine v_C_variant ?_
  repeat' (first | (refine And.intro (by omega) ?_) | apply And.intro | intro _ | omega)
  · obtain ⟨g1, g2, g3⟩ := h7 k (by omega) (by omega)
    refine v_F_addVariant ⟨by omega, s_F_isVariant (by omega) h7 (fun hv => ?_) (fun hv => ?_)⟩
    · (try simp only [wt_r, svr, Nat.reduceEqDiff, reduceIte, reduceCtorEq, false_implies, true_implies, true_and, and_true, eq_self, not_true_eq_false, not_false_eq_true])
      refine v_M_variant ?_
      (try simp only [wt_r, svr, Nat.reduceEqDiff, reduceIte, reduceCtorEq, false_implies, true_implies, true_and, and_true, eq_self, not_true_eq_false, not_false_eq_true])
      repeat' (first | (refine And.intro (by omega) ?_) | apply And.intro | intro _ | omega)
      refine s_M_variantOf (by omega) (by (try simp only [wt_r, svr, Nat.reduceEqDiff, reduceIte, reduceCtorEq, false_implies, true_implies, true_and, and_true, eq_self, not_true_eq_false, not_false_eq_true]); omega) (fun _ v hv2 => ?_) (fun q => absurd hv q)
      repeat' (first | (refine And.intro (by omega) ?_) | apply And.intro | intro _ | omega)
      exact Bth.ref (PK_ref hI _)
    · (try simp only [wt_r, svr, Nat.reduceEqDiff, reduceIte, reduceCtorEq, false_implies, true_implies, true_and, and_true, eq_self, not_true_eq_false, not_false_eq_true])
      repeat' (first | (refine And.intro (by omega) ?_) | apply And.intro | intro _ | omega)
      · refine v_M_variant ?_
        (try simp only [wt_r, svr, Nat.reduceEqDiff, reduceIte, reduceCtorEq, false_implies, true_implies, true_and, and_true, eq_self, not_true_eq_false, not_false_eq_true])
        repeat' (first | (refine And.intro (by omega) ?_) | apply And.intro | intro _ | omega)
        refine s_M_variantOf (by omega) (by (try simp only [wt_r, svr, Nat.reduceEqDiff, reduceIte, reduceCtorEq, false_implies, true_implies, true_and, and_true, eq_self, not_true_eq_false, not_false_eq_true]); omega) (fun q => absurd q hv) (fun _ => ?_)
        (try simp only [wt_r, svr, Nat.reduceEqDiff, reduceIte, reduceCtorEq, false_implies, true_implies, true_and, and_true, eq_self, not_true_eq_false, not_false_eq_true])
        repeat' (first | (refine And.intro (by omega) ?_) | apply And.intro | intro _ | omega)
        all_goals (try (split; exact absurd ‹(1066 + 5 * k).toNat = _› (by omega)))
        all_goals (try omega)
        rw [← g1]
        refine Bth.mk rfl ?_ (by (repeat' (first | exact Kp.rfl' _ | refine Kp.w0 ?_ (by decide) | refine Kp.w134 ?_ (by decide) | refine Kp.w135 ?_ (by omega) | refine Kp.wo ?_ (by decide) | refine Kp.cp ?_ (by decide) | refine Kp.o ?_ (by decide))))
        (unfold Base Hs; simp only [wt_r, cpm_r, svc, Nat.reduceEqDiff, reduceIte]; refine ⟨?_, ?_, ?_, ?_, ?_, ?_, ?_, ?_, ?_, ?_, ?_, ?_⟩ <;> (repeat (first | assumption | exact P_stat_c ‹_› | refine P_stat_m ?_ (by decide) | refine P_stat_h ?_ (by decide) | refine P_tape_m ?_ (by decide) | refine P_num_c ?_ (by omega) | refine P_num_b ?_ (by decide) | refine P_sgn_c ?_ (by omega) | refine P_xy_c ?_ (by omega) | refine P_w_c ?_ (by omega) | refine P_tr_c ?_ (by omega) | refine P_pr_c ?_ (by omega) | refine P_si_c ?_ (by omega) | refine P_va_c ?_ (by omega) | refine P_us_c ?_ (by omega) | refine P_ud_c ?_ (by omega))))
        intro j hj hj2
        obtain ⟨j1, j2, j3⟩ := h7 j hj hj2
        simp only [svr]
        by_cases e : j = k
        · subst e
          rw [if_pos rfl, if_pos rfl]
          refine ⟨rfl, by omega, fun v hv hv2 => ?_⟩
          by_cases e2 : v = mi 22 j.toNat
          · subst e2; rw [if_pos rfl, if_neg (by omega), if_pos rfl]; omega
          · have := j3 v hv (by omega)
            rw [if_neg (by omega), if_neg (by omega), if_neg (by omega)]; omega
        · rw [if_neg (by omega), if_neg (by omega), if_neg (by omega)]
          refine ⟨j1, j2, fun v hv hv2 => ?_⟩
          have := j3 v hv hv2
          rw [if_neg (by omega), if_neg (by omega), if_neg (by omega)]; omega
      · refine v_M_variant ?_
        (try simp only [wt_r, svr, Nat.reduceEqDiff, reduceIte, reduceCtorEq, false_implies, true_implies, true_and, and_true, eq_self, not_true_eq_false, not_false_eq_true])
        repeat' (first | (refine And.intro (by omega) ?_) | apply And.intro | intro _ | omega)
        refine s_M_variantOf (by omega) (by (try simp only [wt_r, svr, Nat.reduceEqDiff, reduceIte, reduceCtorEq, false_implies, true_implies, true_and, and_true, eq_self, not_true_eq_false, not_false_eq_true]); omega) (fun q => absurd q hv) (fun _ => ?_)
        (try simp only [wt_r, svr, Nat.reduceEqDiff, reduceIte, reduceCtorEq, false_implies, true_implies, true_and, and_true, eq_self, not_true_eq_false, not_false_eq_true])
        repeat' (first | (refine And.intro (by omega) ?_) | apply And.intro | intro _ | omega)
        exact Bth.ref (PK_ref hI _)
  · refine v_M_variant ?_
    (try simp only [wt_r, svr, Nat.reduceEqDiff, reduceIte, reduceCtorEq, false_implies, true_implies, true_and, and_true, eq_self, not_true_eq_false, not_false_eq_true])
    repeat' (first | (refine And.intro (by omega) ?_) | apply And.intro | intro _ | omega)
    exact Bth.ref (PK_ref hI _)
  · refine v_M_variant ?_
    (try simp only [wt_r, svr, Nat.reduceEqDiff, reduceIte, reduceCtorEq, false_implies, true_implies, true_and, and_true, eq_self, not_true_eq_false, not_false_eq_true])
    repeat' (first | (refine And.intro (by omega) ?_) | apply And.intro | intro _ | omega)
    exact Bth.ref (PK_ref hI _)
theorem ca_use {k sg r x : Int} (hI : Base mi) (hd : 20 ≤ d) : c_C_use d k sg r x mi (fun z m1 => c_M_use d k sg r x m1 (fun z' m2 => Bth z z' mi m2)) := by
  obtain ⟨hs, ht, h1, h2, h3, h4, h5, h6, h7, h8, h9, h10⟩ := id hI
  have hn := h1
  unfold P_num at hn
  refine v_C_use ?_
  repeat' (first | (refine And.intro (by omega) ?_) | apply And.intro | intro _ | omega)
  all_goals (try (refine v_M_use ?_))
  all_goals (try simp only [wt_r, svr, Nat.reduceEqDiff, reduceIte, reduceCtorEq, false_implies, true_implies, true_and, and_true, eq_self, not_true_eq_false, not_false_eq_true])
  all_goals repeat' (first | (refine And.intro (by omega) ?_) | apply And.intro | intro _ | omega)
  all_goals (try exact Bth.ref (PK_ref hI _))
  obtain ⟨g1, g2, g3⟩ := h7 k (by omega) (by omega)
  refine s_F_isVariant (by omega) h7 (fun hv => ?_) (fun hv => ?_)
  · (try simp only [wt_r, svr, Nat.reduceEqDiff, reduceIte, reduceCtorEq, false_implies, true_implies, true_and, and_true, eq_self, not_true_eq_false, not_false_eq_true])
    repeat' (first | (refine And.intro (by omega) ?_) | apply And.intro | intro _ | omega)
    refine v_M_use ?_
    (try simp only [wt_r, svr, Nat.reduceEqDiff, reduceIte, reduceCtorEq, false_implies, true_implies, true_and, and_true, eq_self, not_true_eq_false, not_false_eq_true])
    repeat' (first | (refine And.intro (by omega) ?_) | apply And.intro | intro _ | omega)
    refine s_M_variantOf (by omega) (by (try simp only [wt_r, svr, Nat.reduceEqDiff, reduceIte, reduceCtorEq, false_implies, true_implies, true_and, and_true, eq_self, not_true_eq_false, not_false_eq_true]); omega) (fun _ v hv2 => ?_) (fun q => absurd hv q)
    repeat' (first | (refine And.intro (by omega) ?_) | apply And.intro | intro _ | omega)
    refine Bth.mk rfl ?_ (by (repeat' (first | exact Kp.rfl' _ | refine Kp.w0 ?_ (by decide) | refine Kp.w134 ?_ (by decide) | refine Kp.w135 ?_ (by omega) | refine Kp.wo ?_ (by decide) | refine Kp.cp ?_ (by decide) | refine Kp.o ?_ (by decide))))
    (unfold Base Hs; simp only [wt_r, cpm_r, svc, Nat.reduceEqDiff, reduceIte]; refine ⟨?_, ?_, ?_, ?_, ?_, ?_, ?_, ?_, ?_, ?_, ?_, ?_⟩ <;> (repeat (first | assumption | exact P_stat_c ‹_› | refine P_stat_m ?_ (by decide) | refine P_stat_h ?_ (by decide) | refine P_tape_m ?_ (by decide) | refine P_num_c ?_ (by omega) | refine P_num_b ?_ (by decide) | refine P_sgn_c ?_ (by omega) | refine P_xy_c ?_ (by omega) | refine P_w_c ?_ (by omega) | refine P_tr_c ?_ (by omega) | refine P_pr_c ?_ (by omega) | refine P_si_c ?_ (by omega) | refine P_va_c ?_ (by omega) | refine P_us_c ?_ (by omega) | refine P_ud_c ?_ (by omega))))
    intro k2 hk hk2 s hs hs2 r2 hr hr2
    have := h8 k2 hk hk2 s hs hs2 r2 hr hr2
    simp only [svr]
    omega
  · (try simp only [wt_r, svr, Nat.reduceEqDiff, reduceIte, reduceCtorEq, false_implies, true_implies, true_and, and_true, eq_self, not_true_eq_false, not_false_eq_true])
    refine v_M_use ?_
    (try simp only [wt_r, svr, Nat.reduceEqDiff, reduceIte, reduceCtorEq, false_implies, true_implies, true_and, and_true, eq_self, not_true_eq_false, not_false_eq_true])
    repeat' (first | (refine And.intro (by omega) ?_) | apply And.intro | intro _ | omega)
    refine s_M_variantOf (by omega) (by (try simp only [wt_r, svr, Nat.reduceEqDiff, reduceIte, reduceCtorEq, false_implies, true_implies, true_and, and_true, eq_self, not_true_eq_false, not_false_eq_true]); omega) (fun q => absurd q hv) (fun _ => ?_)
    (try simp only [wt_r, svr, Nat.reduceEqDiff, reduceIte, reduceCtorEq, false_implies, true_implies, true_and, and_true, eq_self, not_true_eq_false, not_false_eq_true])
    repeat' (first | (refine And.intro (by omega) ?_) | apply And.intro | intro _ | omega)
    exact Bth.ref (PK_ref hI _)
theorem ca_used {s k sg x : Int} (hI : Base mi) (hd : 20 ≤ d) : c_C_used d s k sg x mi (fun z m1 => c_M_used d s k sg x m1 (fun z' m2 => Bth z z' mi m2)) := by
  obtain ⟨hs, ht, h1, h2, h3, h4, h5, h6, h7, h8, h9, h10⟩ := id hI
  have hn := h1
  unfold P_num at hn
  obtain ⟨u1, u2, u3⟩ := id h9
  refine v_C_used ?_
  repeat' (first | (refine And.intro (by omega) ?_) | apply And.intro | intro _ | omega)
  all_goals (try (refine v_M_used ?_))
  all_goals (try simp only [wt_r, svr, Nat.reduceEqDiff, reduceIte, reduceCtorEq, false_implies, true_implies, true_and, and_true, eq_self, not_true_eq_false, not_false_eq_true])
  all_goals repeat' (first | (refine And.intro (by omega) ?_) | apply And.intro | intro _ | omega)
  all_goals (try exact Bth.ref (PK_ref hI _))
  refine v_F_tell ?_
  repeat' (first | (refine And.intro (by omega) ?_) | apply And.intro | intro _ | omega)
  all_goals (refine v_M_used ?_; (try simp only [wt_r, svr, Nat.reduceEqDiff, reduceIte, reduceCtorEq, false_implies, true_implies, true_and, and_true, eq_self, not_true_eq_false, not_false_eq_true]); repeat' (first | (refine And.intro (by omega) ?_) | apply And.intro | intro _ | omega))
  all_goals try exact Bth.ref (PK_ref hI _)
  all_goals (try (simp only [svr]; omega))
  rw [u1]
  simp only [show ¬ 2 = (1426 + 4 * mi 135 2).toNat by omega, show ¬ 2 = (1426 + 4 * mi 135 2 + 1).toNat by omega, show ¬ 2 = (1426 + 4 * mi 135 2 + 2).toNat by omega, show ¬ 2 = (1426 + 4 * mi 135 2 + 3).toNat by omega, reduceIte]
  refine Bth.mk rfl ?_ (by (repeat' (first | exact Kp.rfl' _ | refine Kp.w0 ?_ (by decide) | refine Kp.w134 ?_ (by decide) | refine Kp.w135 ?_ (by omega) | refine Kp.wo ?_ (by decide) | refine Kp.cp ?_ (by decide) | refine Kp.o ?_ (by decide))))
  (unfold Base Hs; simp only [wt_r, cpm_r, svc, Nat.reduceEqDiff, reduceIte]; refine ⟨?_, ?_, ?_, ?_, ?_, ?_, ?_, ?_, ?_, ?_, ?_, ?_⟩ <;> (repeat (first | assumption | exact P_stat_c ‹_› | refine P_stat_m ?_ (by decide) | refine P_stat_h ?_ (by decide) | refine P_tape_m ?_ (by decide) | refine P_num_c ?_ (by omega) | refine P_num_b ?_ (by decide) | refine P_sgn_c ?_ (by omega) | refine P_xy_c ?_ (by omega) | refine P_w_c ?_ (by omega) | refine P_tr_c ?_ (by omega) | refine P_pr_c ?_ (by omega) | refine P_si_c ?_ (by omega) | refine P_va_c ?_ (by omega) | refine P_us_c ?_ (by omega) | refine P_ud_c ?_ (by omega))))
  refine ⟨by simp only [svr, eq_self, reduceIte, Nat.reduceEqDiff], by simp only [svr, eq_self, reduceIte, Nat.reduceEqDiff]; omega, fun i hi hi2 => ?_⟩
  simp only [svr, eq_self, reduceIte, Nat.reduceEqDiff] at hi2 ⊢
  by_cases e : i = mi 135 2
  · subst e; omega
  · have := u3 i hi (by omega)
    omega
end FOLK
