section FOLK
variable {d : Nat} {mi : Nat → Nat → Int} {Q : Option AV → Mem → Prop}
/-- a sign is a variant of a concept -/
def isV (c : Nat → Int) (k : Nat) (sg : Int) : Prop := ∃ v : Nat, (v : Int) < c (1066 + 5 * k) ∧ c (1067 + 5 * k + v) = sg
theorem lp_isVariant {k : Nat} {sg : Int} (hk : k < 4) (hv : P_va (mi 21) (mi 22) (mi 135)) (h1 : isV (mi 135) k sg → Q (some (vI 1)) (G mi)) (h0 : ¬ isV (mi 135) k sg → Q (some (vI 0)) (G mi)) :
    ∀ (n i : Nat), (i : Int) + n = mi 135 (1066 + 5 * k) → (∀ v : Nat, v < i → mi 135 (1067 + 5 * k + v) ≠ sg) → WP 22 d 172 2 [some (vR (some 20)), some (vI k), some (vI sg), some (vI i)] [] (G mi) Q := by
  obtain ⟨g1, g2, g3⟩ := hv k hk
  intro n
  induction n with
  | zero =>
    intro i hi hb
    refine bk_22_2 ?_
    simp only [wpI, stp, pI, pII, pJ, pJJ, pIJ, pR, pIR, pVR, pVIR, pV, pVV, pE, pC, oI, oJ, oR, iV, jV, rV, tk, rc, ctS, cg, lds_eq, ldc, ldv, gL, setL, setL2, kll, cnd, fcv0, fcv3, fcv4, lcv0, lcv1, kds, mrs, svc, svv, swT, swL, Option.toList, List.cons_append, List.nil_append, List.append_nil, eq_self, true_and, and_true, forall_const, not_false_eq_true, not_true_eq_false, false_and, and_false, true_or, or_true, false_or, or_false, nlit, true_implies, and_self, ne_eq, bI_eq0, bI_ne0, bI_eq1, emq, Classical.not_not, false_implies, Int.toNat_natCast, reduceIte, Nat.reduceEqDiff, Nat.reduceLT, Nat.reduceLeDiff, Nat.reduceAdd, Nat.reduceMul, Nat.reduceSub, Int.reduceEq, Int.reduceLT, Int.reduceLE, Int.reduceAdd, Int.reduceSub, Int.reduceMul, Int.reduceNeg, Int.reduceToNat, Int.reduceTDiv]
    refine ⟨by omega, fun _ => ?_, fun h => absurd (by omega) h⟩
    refine bk_22_34 ?_
    simp only [wpI, stp, pI, pII, pJ, pJJ, pIJ, pR, pIR, pVR, pVIR, pV, pVV, pE, pC, oI, oJ, oR, iV, jV, rV, tk, rc, ctS, cg, lds_eq, ldc, ldv, gL, setL, setL2, kll, cnd, fcv0, fcv3, fcv4, lcv0, lcv1, kds, mrs, svc, svv, swT, swL, Option.toList, List.cons_append, List.nil_append, List.append_nil, eq_self, true_and, and_true, forall_const, not_false_eq_true, not_true_eq_false, false_and, and_false, true_or, or_true, false_or, or_false, nlit, true_implies, and_self, ne_eq, bI_eq0, bI_ne0, bI_eq1, emq, Classical.not_not, false_implies, Int.toNat_natCast, reduceIte, Nat.reduceEqDiff, Nat.reduceLT, Nat.reduceLeDiff, Nat.reduceAdd, Nat.reduceMul, Nat.reduceSub, Int.reduceEq, Int.reduceLT, Int.reduceLE, Int.reduceAdd, Int.reduceSub, Int.reduceMul, Int.reduceNeg, Int.reduceToNat, Int.reduceTDiv]
    exact h0 (fun ⟨v, hv1, hv2⟩ => hb v (by omega) hv2)
  | succ n ih =>
    intro i hi hb
    refine bk_22_2 ?_
    simp only [wpI, stp, pI, pII, pJ, pJJ, pIJ, pR, pIR, pVR, pVIR, pV, pVV, pE, pC, oI, oJ, oR, iV, jV, rV, tk, rc, ctS, cg, lds_eq, ldc, ldv, gL, setL, setL2, kll, cnd, fcv0, fcv3, fcv4, lcv0, lcv1, kds, mrs, svc, svv, swT, swL, Option.toList, List.cons_append, List.nil_append, List.append_nil, eq_self, true_and, and_true, forall_const, not_false_eq_true, not_true_eq_false, false_and, and_false, true_or, or_true, false_or, or_false, nlit, true_implies, and_self, ne_eq, bI_eq0, bI_ne0, bI_eq1, emq, Classical.not_not, false_implies, Int.toNat_natCast, reduceIte, Nat.reduceEqDiff, Nat.reduceLT, Nat.reduceLeDiff, Nat.reduceAdd, Nat.reduceMul, Nat.reduceSub, Int.reduceEq, Int.reduceLT, Int.reduceLE, Int.reduceAdd, Int.reduceSub, Int.reduceMul, Int.reduceNeg, Int.reduceToNat, Int.reduceTDiv]
    refine ⟨by omega, fun h => absurd h (by omega), fun _ => ?_⟩
    simp (disch := omega) only [wr_id]
    have ei : ((k : Int) * 4 + i).toNat = 4 * k + i := by omega
    obtain ⟨e1, e2⟩ := g3 i (by omega)
    rw [ei, e1]
    refine ⟨by omega, fun h => ?_, fun h => ?_⟩
    · refine bk_22_28 ?_
      simp only [wpI, stp, pI, pII, pJ, pJJ, pIJ, pR, pIR, pVR, pVIR, pV, pVV, pE, pC, oI, oJ, oR, iV, jV, rV, tk, rc, ctS, cg, lds_eq, ldc, ldv, gL, setL, setL2, kll, cnd, fcv0, fcv3, fcv4, lcv0, lcv1, kds, mrs, svc, svv, swT, swL, Option.toList, List.cons_append, List.nil_append, List.append_nil, eq_self, true_and, and_true, forall_const, not_false_eq_true, not_true_eq_false, false_and, and_false, true_or, or_true, false_or, or_false, nlit, true_implies, and_self, ne_eq, bI_eq0, bI_ne0, bI_eq1, emq, Classical.not_not, false_implies, Int.toNat_natCast, reduceIte, Nat.reduceEqDiff, Nat.reduceLT, Nat.reduceLeDiff, Nat.reduceAdd, Nat.reduceMul, Nat.reduceSub, Int.reduceEq, Int.reduceLT, Int.reduceLE, Int.reduceAdd, Int.reduceSub, Int.reduceMul, Int.reduceNeg, Int.reduceToNat, Int.reduceTDiv]
      simp (disch := omega) only [wr_id]
      exact ih (i + 1) (by omega) (fun v hv => by
        rcases (show v < i ∨ v = i by omega) with q | rfl
        · exact hb v q
        · exact h)
    · exact h1 ⟨i, by omega, h⟩
theorem sp_isVariant {k : Nat} {sg : Int} (hk : k < 4) (hv : P_va (mi 21) (mi 22) (mi 135)) (h1 : isV (mi 135) k sg → Q (some (vI 1)) (G mi)) (h0 : ¬ isV (mi 135) k sg → Q (some (vI 0)) (G mi)) : WPc 22 d 172 [vR (some 20), vI k, vI sg] (G mi) Q := by
  obtain ⟨g1, g2, g3⟩ := hv k hk
  refine en_22 ?_
  refine bk_22_0 ?_
  simp only [wpI, stp, pI, pII, pJ, pJJ, pIJ, pR, pIR, pVR, pVIR, pV, pVV, pE, pC, oI, oJ, oR, iV, jV, rV, tk, rc, ctS, cg, lds_eq, ldc, ldv, gL, setL, setL2, kll, cnd, fcv0, fcv3, fcv4, lcv0, lcv1, kds, mrs, svc, svv, swT, swL, Option.toList, List.cons_append, List.nil_append, List.append_nil, eq_self, true_and, and_true, forall_const, not_false_eq_true, not_true_eq_false, false_and, and_false, true_or, or_true, false_or, or_false, nlit, true_implies, and_self, ne_eq, bI_eq0, bI_ne0, bI_eq1, emq, Classical.not_not, false_implies, Int.toNat_natCast, reduceIte, Nat.reduceEqDiff, Nat.reduceLT, Nat.reduceLeDiff, Nat.reduceAdd, Nat.reduceMul, Nat.reduceSub, Int.reduceEq, Int.reduceLT, Int.reduceLE, Int.reduceAdd, Int.reduceSub, Int.reduceMul, Int.reduceNeg, Int.reduceToNat, Int.reduceTDiv]
  exact lp_isVariant hk hv h1 h0 (mi 135 (1066 + 5 * k)).toNat 0 (by omega) (fun v hv => by omega)
theorem lp_variantOf {k : Nat} {sg : Int} (hk : k < 4) (hc : 0 ≤ mi 135 (1066 + 5 * k) ∧ mi 135 (1066 + 5 * k) ≤ 4) (h1 : ∀ v : Nat, isV (mi 135) k sg → Q (some (vI v)) (G mi)) (h0 : ¬ isV (mi 135) k sg → Q (some (vI (-1))) (G mi)) :
    ∀ (n i : Nat), (i : Int) + n = mi 135 (1066 + 5 * k) → (∀ v : Nat, v < i → mi 135 (1067 + 5 * k + v) ≠ sg) → WP 261 d 172 2 [some (vR (some 134)), some (vI k), some (vI sg), some (vI i)] [] (G mi) Q := by
  intro n
  have e0 : (1066 + 5 * (k : Int)).toNat = 1066 + 5 * k := by omega
  induction n with
  | zero =>
    intro i hi hb
    refine bk_261_2 ?_
    simp only [wpI, stp, pI, pII, pJ, pJJ, pIJ, pR, pIR, pVR, pVIR, pV, pVV, pE, pC, oI, oJ, oR, iV, jV, rV, tk, rc, ctS, cg, lds_eq, ldc, ldv, gL, setL, setL2, kll, cnd, fcv0, fcv3, fcv4, lcv0, lcv1, kds, mrs, svc, svv, swT, swL, Option.toList, List.cons_append, List.nil_append, List.append_nil, eq_self, true_and, and_true, forall_const, not_false_eq_true, not_true_eq_false, false_and, and_false, true_or, or_true, false_or, or_false, nlit, true_implies, and_self, ne_eq, bI_eq0, bI_ne0, bI_eq1, emq, Classical.not_not, false_implies, Int.toNat_natCast, reduceIte, Nat.reduceEqDiff, Nat.reduceLT, Nat.reduceLeDiff, Nat.reduceAdd, Nat.reduceMul, Nat.reduceSub, Int.reduceEq, Int.reduceLT, Int.reduceLE, Int.reduceAdd, Int.reduceSub, Int.reduceMul, Int.reduceNeg, Int.reduceToNat, Int.reduceTDiv]
    simp (disch := omega) only [wr_id]
    rw [e0]
    refine ⟨by omega, fun _ => ?_, fun h => absurd (by omega) h⟩
    refine bk_261_46 ?_
    simp only [wpI, stp, pI, pII, pJ, pJJ, pIJ, pR, pIR, pVR, pVIR, pV, pVV, pE, pC, oI, oJ, oR, iV, jV, rV, tk, rc, ctS, cg, lds_eq, ldc, ldv, gL, setL, setL2, kll, cnd, fcv0, fcv3, fcv4, lcv0, lcv1, kds, mrs, svc, svv, swT, swL, Option.toList, List.cons_append, List.nil_append, List.append_nil, eq_self, true_and, and_true, forall_const, not_false_eq_true, not_true_eq_false, false_and, and_false, true_or, or_true, false_or, or_false, nlit, true_implies, and_self, ne_eq, bI_eq0, bI_ne0, bI_eq1, emq, Classical.not_not, false_implies, Int.toNat_natCast, reduceIte, Nat.reduceEqDiff, Nat.reduceLT, Nat.reduceLeDiff, Nat.reduceAdd, Nat.reduceMul, Nat.reduceSub, Int.reduceEq, Int.reduceLT, Int.reduceLE, Int.reduceAdd, Int.reduceSub, Int.reduceMul, Int.reduceNeg, Int.reduceToNat, Int.reduceTDiv]
    exact h0 (fun ⟨v, hv1, hv2⟩ => hb v (by omega) hv2)
  | succ n ih =>
    intro i hi hb
    refine bk_261_2 ?_
    simp only [wpI, stp, pI, pII, pJ, pJJ, pIJ, pR, pIR, pVR, pVIR, pV, pVV, pE, pC, oI, oJ, oR, iV, jV, rV, tk, rc, ctS, cg, lds_eq, ldc, ldv, gL, setL, setL2, kll, cnd, fcv0, fcv3, fcv4, lcv0, lcv1, kds, mrs, svc, svv, swT, swL, Option.toList, List.cons_append, List.nil_append, List.append_nil, eq_self, true_and, and_true, forall_const, not_false_eq_true, not_true_eq_false, false_and, and_false, true_or, or_true, false_or, or_false, nlit, true_implies, and_self, ne_eq, bI_eq0, bI_ne0, bI_eq1, emq, Classical.not_not, false_implies, Int.toNat_natCast, reduceIte, Nat.reduceEqDiff, Nat.reduceLT, Nat.reduceLeDiff, Nat.reduceAdd, Nat.reduceMul, Nat.reduceSub, Int.reduceEq, Int.reduceLT, Int.reduceLE, Int.reduceAdd, Int.reduceSub, Int.reduceMul, Int.reduceNeg, Int.reduceToNat, Int.reduceTDiv]
    simp (disch := omega) only [wr_id]
    rw [e0]
    refine ⟨by omega, fun h => absurd h (by omega), fun _ => ?_⟩
    have ei : (1066 + 5 * (k : Int) + 1 + i).toNat = 1067 + 5 * k + i := by omega
    rw [ei]
    refine ⟨by omega, fun h => ?_, fun h => ?_⟩
    · refine bk_261_40 ?_
      simp only [wpI, stp, pI, pII, pJ, pJJ, pIJ, pR, pIR, pVR, pVIR, pV, pVV, pE, pC, oI, oJ, oR, iV, jV, rV, tk, rc, ctS, cg, lds_eq, ldc, ldv, gL, setL, setL2, kll, cnd, fcv0, fcv3, fcv4, lcv0, lcv1, kds, mrs, svc, svv, swT, swL, Option.toList, List.cons_append, List.nil_append, List.append_nil, eq_self, true_and, and_true, forall_const, not_false_eq_true, not_true_eq_false, false_and, and_false, true_or, or_true, false_or, or_false, nlit, true_implies, and_self, ne_eq, bI_eq0, bI_ne0, bI_eq1, emq, Classical.not_not, false_implies, Int.toNat_natCast, reduceIte, Nat.reduceEqDiff, Nat.reduceLT, Nat.reduceLeDiff, Nat.reduceAdd, Nat.reduceMul, Nat.reduceSub, Int.reduceEq, Int.reduceLT, Int.reduceLE, Int.reduceAdd, Int.reduceSub, Int.reduceMul, Int.reduceNeg, Int.reduceToNat, Int.reduceTDiv]
      simp (disch := omega) only [wr_id]
      exact ih (i + 1) (by omega) (fun v hv => by
        rcases (show v < i ∨ v = i by omega) with q | rfl
        · exact hb v q
        · exact h)
    · exact h1 i ⟨i, by omega, h⟩
theorem sp_variantOf {k : Nat} {sg : Int} (hk : k < 4) (hc : 0 ≤ mi 135 (1066 + 5 * k) ∧ mi 135 (1066 + 5 * k) ≤ 4) (h1 : ∀ v : Nat, isV (mi 135) k sg → Q (some (vI v)) (G mi)) (h0 : ¬ isV (mi 135) k sg → Q (some (vI (-1))) (G mi)) : WPc 261 d 172 [vR (some 134), vI k, vI sg] (G mi) Q := by
  refine en_261 ?_
  refine bk_261_0 ?_
  simp only [wpI, stp, pI, pII, pJ, pJJ, pIJ, pR, pIR, pVR, pVIR, pV, pVV, pE, pC, oI, oJ, oR, iV, jV, rV, tk, rc, ctS, cg, lds_eq, ldc, ldv, gL, setL, setL2, kll, cnd, fcv0, fcv3, fcv4, lcv0, lcv1, kds, mrs, svc, svv, swT, swL, Option.toList, List.cons_append, List.nil_append, List.append_nil, eq_self, true_and, and_true, forall_const, not_false_eq_true, not_true_eq_false, false_and, and_false, true_or, or_true, false_or, or_false, nlit, true_implies, and_self, ne_eq, bI_eq0, bI_ne0, bI_eq1, emq, Classical.not_not, false_implies, Int.toNat_natCast, reduceIte, Nat.reduceEqDiff, Nat.reduceLT, Nat.reduceLeDiff, Nat.reduceAdd, Nat.reduceMul, Nat.reduceSub, Int.reduceEq, Int.reduceLT, Int.reduceLE, Int.reduceAdd, Int.reduceSub, Int.reduceMul, Int.reduceNeg, Int.reduceToNat, Int.reduceTDiv]
  exact lp_variantOf hk hc h1 h0 (mi 135 (1066 + 5 * k)).toNat 0 (by omega) (fun v hv => by omega)
end FOLK
