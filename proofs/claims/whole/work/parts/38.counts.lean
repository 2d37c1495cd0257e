section COUNTS
variable {d : Nat} {mi : Nat → Nat → Int} {Q : Option AV → Mem → Prop}
def isVb (c : Nat → Int) (k : Nat) (sg : Int) : Bool := (List.range (c (1066 + 5 * k)).toNat).any (fun v => decide (c (1067 + 5 * k + v) = sg))
theorem isVb_iff (c : Nat → Int) (k : Nat) (sg : Int) : isVb c k sg = true ↔ isV c k sg := by
  unfold isVb isV
  rw [List.any_eq_true]
  constructor
  · rintro ⟨v, hv, h⟩
    exact ⟨v, by have := List.mem_range.mp hv; omega, of_decide_eq_true h⟩
  · rintro ⟨v, hv, h⟩
    exact ⟨v, List.mem_range.mpr (by omega), decide_eq_true h⟩
/-- what counts of the first n that were told -/
def cntF (c : Nat → Int) (s k kn : Int) : Nat → Int
  | 0 => -1
  | i + 1 => if c (1426 + 4 * i) = s ∧ c (1427 + 4 * i) = k ∧ c (1429 + 4 * i) ≤ kn then (if isVb c k.toNat (c (1428 + 4 * i)) = true then c (1428 + 4 * i) else -1) else cntF c s k kn i
theorem lp_counted {s : Int} {k : Nat} {kn : Int} (hd : 3 ≤ d) (hs : 0 ≤ s ∧ s < 10) (hk : k < 4) (hv : P_va (mi 21) (mi 22) (mi 135)) (hu : P_ud (mi 20) (mi 24) (mi 25) (mi 26) (mi 135)) :
    ∀ (n : Nat), (n : Int) ≤ mi 135 2 → Q (some (vI (cntF (mi 135) s k kn n))) (G mi) → WP 27 d 172 15 [some (vR (some 20)), some (vI s), some (vI k), some (vI kn), some (vI (s * 4 + k)), some (vI ((n : Int) - 1))] [] (G mi) Q := by
  obtain ⟨u1, u2, u3⟩ := hu
  intro n
  induction n with
  | zero =>
    intro hn h
    refine bk_27_15 ?_
    simp only [wpI, stp, pI, pII, pJ, pJJ, pIJ, pR, pIR, pVR, pVIR, pV, pVV, pE, pC, oI, oJ, oR, iV, jV, rV, tk, rc, ctS, cg, lds_eq, ldc, ldv, gL, setL, setL2, kll, cnd, fcv0, fcv3, fcv4, lcv0, lcv1, kds, mrs, svc, svv, swT, swL, Option.toList, List.cons_append, List.nil_append, List.append_nil, eq_self, true_and, and_true, forall_const, not_false_eq_true, not_true_eq_false, false_and, and_false, true_or, or_true, false_or, or_false, nlit, true_implies, and_self, ne_eq, bI_eq0, bI_ne0, bI_eq1, emq, Classical.not_not, false_implies, Int.toNat_natCast, reduceIte, Nat.reduceEqDiff, Nat.reduceLT, Nat.reduceLeDiff, Nat.reduceAdd, Nat.reduceMul, Nat.reduceSub, Int.reduceEq, Int.reduceLT, Int.reduceLE, Int.reduceAdd, Int.reduceSub, Int.reduceMul, Int.reduceNeg, Int.reduceToNat, Int.reduceTDiv]
    refine ⟨fun _ => ?_, fun q => absurd (by omega) q⟩
    refine bk_27_76 ?_
    simp only [wpI, stp, pI, pII, pJ, pJJ, pIJ, pR, pIR, pVR, pVIR, pV, pVV, pE, pC, oI, oJ, oR, iV, jV, rV, tk, rc, ctS, cg, lds_eq, ldc, ldv, gL, setL, setL2, kll, cnd, fcv0, fcv3, fcv4, lcv0, lcv1, kds, mrs, svc, svv, swT, swL, Option.toList, List.cons_append, List.nil_append, List.append_nil, eq_self, true_and, and_true, forall_const, not_false_eq_true, not_true_eq_false, false_and, and_false, true_or, or_true, false_or, or_false, nlit, true_implies, and_self, ne_eq, bI_eq0, bI_ne0, bI_eq1, emq, Classical.not_not, false_implies, Int.toNat_natCast, reduceIte, Nat.reduceEqDiff, Nat.reduceLT, Nat.reduceLeDiff, Nat.reduceAdd, Nat.reduceMul, Nat.reduceSub, Int.reduceEq, Int.reduceLT, Int.reduceLE, Int.reduceAdd, Int.reduceSub, Int.reduceMul, Int.reduceNeg, Int.reduceToNat, Int.reduceTDiv]
    exact h
  | succ n ih =>
    intro hn h
    obtain ⟨e1, e2, e3, e4, e5, e6, e7⟩ := u3 n (by omega)
    have en : ((n + 1 : Nat) : Int) - 1 = n := by omega
    rw [en]
    refine bk_27_15 ?_
    simp only [wpI, stp, pI, pII, pJ, pJJ, pIJ, pR, pIR, pVR, pVIR, pV, pVV, pE, pC, oI, oJ, oR, iV, jV, rV, tk, rc, ctS, cg, lds_eq, ldc, ldv, gL, setL, setL2, kll, cnd, fcv0, fcv3, fcv4, lcv0, lcv1, kds, mrs, svc, svv, swT, swL, Option.toList, List.cons_append, List.nil_append, List.append_nil, eq_self, true_and, and_true, forall_const, not_false_eq_true, not_true_eq_false, false_and, and_false, true_or, or_true, false_or, or_false, nlit, true_implies, and_self, ne_eq, bI_eq0, bI_ne0, bI_eq1, emq, Classical.not_not, false_implies, Int.toNat_natCast, reduceIte, Nat.reduceEqDiff, Nat.reduceLT, Nat.reduceLeDiff, Nat.reduceAdd, Nat.reduceMul, Nat.reduceSub, Int.reduceEq, Int.reduceLT, Int.reduceLE, Int.reduceAdd, Int.reduceSub, Int.reduceMul, Int.reduceNeg, Int.reduceToNat, Int.reduceTDiv]
    refine ⟨fun q => absurd q (by omega), fun _ => ⟨by omega, fun q => ?_, fun q => ⟨by omega, fun q2 => ?_, fun q2 => ⟨by omega, by omega, ?_⟩⟩⟩⟩
    · refine bk_27_70 ?_
      simp only [wpI, stp, pI, pII, pJ, pJJ, pIJ, pR, pIR, pVR, pVIR, pV, pVV, pE, pC, oI, oJ, oR, iV, jV, rV, tk, rc, ctS, cg, lds_eq, ldc, ldv, gL, setL, setL2, kll, cnd, fcv0, fcv3, fcv4, lcv0, lcv1, kds, mrs, svc, svv, swT, swL, Option.toList, List.cons_append, List.nil_append, List.append_nil, eq_self, true_and, and_true, forall_const, not_false_eq_true, not_true_eq_false, false_and, and_false, true_or, or_true, false_or, or_false, nlit, true_implies, and_self, ne_eq, bI_eq0, bI_ne0, bI_eq1, emq, Classical.not_not, false_implies, Int.toNat_natCast, reduceIte, Nat.reduceEqDiff, Nat.reduceLT, Nat.reduceLeDiff, Nat.reduceAdd, Nat.reduceMul, Nat.reduceSub, Int.reduceEq, Int.reduceLT, Int.reduceLE, Int.reduceAdd, Int.reduceSub, Int.reduceMul, Int.reduceNeg, Int.reduceToNat, Int.reduceTDiv]
      rw [wr_id (by omega), show (n : Int) + -1 = n - 1 by omega]
      refine ih (by omega) ?_
      simp only [cntF] at h
      rwa [if_neg (by omega)] at h
    · refine bk_27_70 ?_
      simp only [wpI, stp, pI, pII, pJ, pJJ, pIJ, pR, pIR, pVR, pVIR, pV, pVV, pE, pC, oI, oJ, oR, iV, jV, rV, tk, rc, ctS, cg, lds_eq, ldc, ldv, gL, setL, setL2, kll, cnd, fcv0, fcv3, fcv4, lcv0, lcv1, kds, mrs, svc, svv, swT, swL, Option.toList, List.cons_append, List.nil_append, List.append_nil, eq_self, true_and, and_true, forall_const, not_false_eq_true, not_true_eq_false, false_and, and_false, true_or, or_true, false_or, or_false, nlit, true_implies, and_self, ne_eq, bI_eq0, bI_ne0, bI_eq1, emq, Classical.not_not, false_implies, Int.toNat_natCast, reduceIte, Nat.reduceEqDiff, Nat.reduceLT, Nat.reduceLeDiff, Nat.reduceAdd, Nat.reduceMul, Nat.reduceSub, Int.reduceEq, Int.reduceLT, Int.reduceLE, Int.reduceAdd, Int.reduceSub, Int.reduceMul, Int.reduceNeg, Int.reduceToNat, Int.reduceTDiv]
      rw [wr_id (by omega), show (n : Int) + -1 = n - 1 by omega]
      refine ih (by omega) ?_
      simp only [cntF] at h
      rwa [if_neg (by omega)] at h
    · simp only [cntF] at h
      rw [if_pos (by omega), Int.toNat_natCast, ← e4] at h
      refine sp_isVariant hk hv (fun w => ?_) (fun w => ?_)
      · simp only [wpI, stp, pI, pII, pJ, pJJ, pIJ, pR, pIR, pVR, pVIR, pV, pVV, pE, pC, oI, oJ, oR, iV, jV, rV, tk, rc, ctS, cg, lds_eq, ldc, ldv, gL, setL, setL2, kll, cnd, fcv0, fcv3, fcv4, lcv0, lcv1, kds, mrs, svc, svv, swT, swL, Option.toList, List.cons_append, List.nil_append, List.append_nil, eq_self, true_and, and_true, forall_const, not_false_eq_true, not_true_eq_false, false_and, and_false, true_or, or_true, false_or, or_false, nlit, true_implies, and_self, ne_eq, bI_eq0, bI_ne0, bI_eq1, emq, Classical.not_not, false_implies, Int.toNat_natCast, reduceIte, Nat.reduceEqDiff, Nat.reduceLT, Nat.reduceLeDiff, Nat.reduceAdd, Nat.reduceMul, Nat.reduceSub, Int.reduceEq, Int.reduceLT, Int.reduceLE, Int.reduceAdd, Int.reduceSub, Int.reduceMul, Int.reduceNeg, Int.reduceToNat, Int.reduceTDiv]
        refine ⟨by omega, ?_⟩
        refine bk_27_69 ?_
        simp only [wpI, stp, pI, pII, pJ, pJJ, pIJ, pR, pIR, pVR, pVIR, pV, pVV, pE, pC, oI, oJ, oR, iV, jV, rV, tk, rc, ctS, cg, lds_eq, ldc, ldv, gL, setL, setL2, kll, cnd, fcv0, fcv3, fcv4, lcv0, lcv1, kds, mrs, svc, svv, swT, swL, Option.toList, List.cons_append, List.nil_append, List.append_nil, eq_self, true_and, and_true, forall_const, not_false_eq_true, not_true_eq_false, false_and, and_false, true_or, or_true, false_or, or_false, nlit, true_implies, and_self, ne_eq, bI_eq0, bI_ne0, bI_eq1, emq, Classical.not_not, false_implies, Int.toNat_natCast, reduceIte, Nat.reduceEqDiff, Nat.reduceLT, Nat.reduceLeDiff, Nat.reduceAdd, Nat.reduceMul, Nat.reduceSub, Int.reduceEq, Int.reduceLT, Int.reduceLE, Int.reduceAdd, Int.reduceSub, Int.reduceMul, Int.reduceNeg, Int.reduceToNat, Int.reduceTDiv]
        rw [if_pos ((isVb_iff _ _ _).mpr w)] at h
        exact h
      · simp only [wpI, stp, pI, pII, pJ, pJJ, pIJ, pR, pIR, pVR, pVIR, pV, pVV, pE, pC, oI, oJ, oR, iV, jV, rV, tk, rc, ctS, cg, lds_eq, ldc, ldv, gL, setL, setL2, kll, cnd, fcv0, fcv3, fcv4, lcv0, lcv1, kds, mrs, svc, svv, swT, swL, Option.toList, List.cons_append, List.nil_append, List.append_nil, eq_self, true_and, and_true, forall_const, not_false_eq_true, not_true_eq_false, false_and, and_false, true_or, or_true, false_or, or_false, nlit, true_implies, and_self, ne_eq, bI_eq0, bI_ne0, bI_eq1, emq, Classical.not_not, false_implies, Int.toNat_natCast, reduceIte, Nat.reduceEqDiff, Nat.reduceLT, Nat.reduceLeDiff, Nat.reduceAdd, Nat.reduceMul, Nat.reduceSub, Int.reduceEq, Int.reduceLT, Int.reduceLE, Int.reduceAdd, Int.reduceSub, Int.reduceMul, Int.reduceNeg, Int.reduceToNat, Int.reduceTDiv]
        refine bk_27_68 ?_
        simp only [wpI, stp, pI, pII, pJ, pJJ, pIJ, pR, pIR, pVR, pVIR, pV, pVV, pE, pC, oI, oJ, oR, iV, jV, rV, tk, rc, ctS, cg, lds_eq, ldc, ldv, gL, setL, setL2, kll, cnd, fcv0, fcv3, fcv4, lcv0, lcv1, kds, mrs, svc, svv, swT, swL, Option.toList, List.cons_append, List.nil_append, List.append_nil, eq_self, true_and, and_true, forall_const, not_false_eq_true, not_true_eq_false, false_and, and_false, true_or, or_true, false_or, or_false, nlit, true_implies, and_self, ne_eq, bI_eq0, bI_ne0, bI_eq1, emq, Classical.not_not, false_implies, Int.toNat_natCast, reduceIte, Nat.reduceEqDiff, Nat.reduceLT, Nat.reduceLeDiff, Nat.reduceAdd, Nat.reduceMul, Nat.reduceSub, Int.reduceEq, Int.reduceLT, Int.reduceLE, Int.reduceAdd, Int.reduceSub, Int.reduceMul, Int.reduceNeg, Int.reduceToNat, Int.reduceTDiv]
        rw [if_neg (fun z => w ((isVb_iff _ _ _).mp z))] at h
        exact h
theorem sp_counted {s : Int} {k : Nat} {kn : Int} (hd : 3 ≤ d) (hs : 0 ≤ s ∧ s < 10) (hk : k < 4) (hv : P_va (mi 21) (mi 22) (mi 135)) (hu : P_ud (mi 20) (mi 24) (mi 25) (mi 26) (mi 135)) (h : Q (some (vI (cntF (mi 135) s k kn (mi 135 2).toNat))) (G mi)) : WPc 27 d 172 [vR (some 20), vI s, vI k, vI kn] (G mi) Q := by
  have u1 := hu.1
  have u2 := hu.2.1
  refine en_27 ?_
  refine bk_27_0 ?_
  simp only [wpI, stp, pI, pII, pJ, pJJ, pIJ, pR, pIR, pVR, pVIR, pV, pVV, pE, pC, oI, oJ, oR, iV, jV, rV, tk, rc, ctS, cg, lds_eq, ldc, ldv, gL, setL, setL2, kll, cnd, fcv0, fcv3, fcv4, lcv0, lcv1, kds, mrs, svc, svv, swT, swL, Option.toList, List.cons_append, List.nil_append, List.append_nil, eq_self, true_and, and_true, forall_const, not_false_eq_true, not_true_eq_false, false_and, and_false, true_or, or_true, false_or, or_false, nlit, true_implies, and_self, ne_eq, bI_eq0, bI_ne0, bI_eq1, emq, Classical.not_not, false_implies, Int.toNat_natCast, reduceIte, Nat.reduceEqDiff, Nat.reduceLT, Nat.reduceLeDiff, Nat.reduceAdd, Nat.reduceMul, Nat.reduceSub, Int.reduceEq, Int.reduceLT, Int.reduceLE, Int.reduceAdd, Int.reduceSub, Int.reduceMul, Int.reduceNeg, Int.reduceToNat, Int.reduceTDiv]
  simp (disch := omega) only [wr_id]
  have := lp_counted (kn := kn) hd hs hk hv hu (mi 135 2).toNat (by omega) h
  rw [show ((mi 135 2).toNat : Int) - 1 = mi 20 9 - 1 by omega] at this
  exact this
end COUNTS
