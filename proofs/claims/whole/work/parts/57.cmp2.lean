section CMP2
variable {d : Nat} {mi : MT} {r : Nat → Int} {n T : Int}
/-- the reference: a comparison -/
theorem s_M_comparison {P : MT → Prop} {p op a b p' f s : Int} (hd : 12 < d) (hg : mi 134 12 = -1) (hM : MAT mi r n p) (hC : CMP r n p op a b p') (hf : mi 134 16 = f) (hf4 : 0 ≤ f ∧ f < 40) (hs : mi 134 18 = s) (hs4 : 0 ≤ s ∧ s < 400)
    (h : ∀ m2 : MT, TF mi m2 → m2 134 12 = -1 → MAT m2 r n p' → m2 134 16 = f + 1 → m2 134 18 = s + 1 → m2 134 19 = mi 134 19 → m2 151 = sv (mi 151) s.toNat f → vRel a (m2 146 f.toNat) (m2 147 f.toNat) → vRel b (m2 148 f.toNat) (m2 149 f.toNat) → m2 150 f.toNat = op → (∀ k : Nat, 146 ≤ k → k ≤ 150 → ∀ j : Nat, j ≠ f.toNat → m2 k j = mi k j) → P m2) : c_M_comparison d mi P := by
  obtain ⟨q, hV1, ho, hV2⟩ := hC
  have hR := hM.1.2.2.1
  have hp := hM.2.2.1
  refine v_M_comparison ⟨fun _ => ⟨by omega, ?_⟩, fun w => by omega⟩
  rw [hf]
  have M0 : MAT (wt mi 134 16 (f + 1)) r n p := MAT_cg hM rfl (wt_ne _ _ (by decide)) (wt_ne _ _ (by decide)) (wt_ne _ _ (by decide))
  refine s_M_value (by omega) (by rw [wt_ne _ _ (by decide)]; exact hg) M0 hV1 (fun u hu vr M1 => ⟨by omega, ?_⟩)
  have U : ∀ j : Nat, j ≠ 9 → j ≠ 10 → j ≠ 16 → j ≠ 36 → j ≠ 37 → u j = mi 134 j := fun j j1 j2 j3 j4 j5 => by rw [hu j j1 j2 j4 j5, wt_ne _ _ j3]
  have u16 : u 16 = f + 1 := by rw [hu 16 (by decide) (by decide) (by decide) (by decide), wt_same]
  have u12 : u 12 = -1 := by rw [U 12 (by decide) (by decide) (by decide) (by decide) (by decide)]; exact hg
  have u18 : u 18 = s := by rw [U 18 (by decide) (by decide) (by decide) (by decide) (by decide)]; exact hs
  have u19 : u 19 = mi 134 19 := U 19 (by decide) (by decide) (by decide) (by decide) (by decide)
  have F1 : TF mi (wt (wt (sv (wt mi 134 16 (f + 1)) 134 u) 146 f.toNat (u 36)) 147 f.toNat (u 37)) := ((TF.w _ (by omega)).trans (TF.u (fun j a b _ c e => hu j a b c e))).trans ((TF.row _ (by omega)).trans (TF.row _ (by omega)))
  have M2 : MAT (wt (wt (sv (wt mi 134 16 (f + 1)) 134 u) 146 f.toNat (u 36)) 147 f.toNat (u 37)) r n q := MAT_cg M1 rfl rfl rfl rfl
  show c_M_takesSign (d - 1) 60 (wt (wt (sv (wt mi 134 16 (f + 1)) 134 u) 146 f.toNat (u 36)) 147 f.toNat (u 37)) _
  have g2 : (wt (wt (sv (wt mi 134 16 (f + 1)) 134 u) 146 f.toNat (u 36)) 147 f.toNat (u 37)) 134 = u := rfl
  have g146 : (wt (wt (sv (wt mi 134 16 (f + 1)) 134 u) 146 f.toNat (u 36)) 147 f.toNat (u 37)) 146 = sv (mi 146) f.toNat (u 36) := rfl
  have g147 : (wt (wt (sv (wt mi 134 16 (f + 1)) 134 u) 146 f.toNat (u 36)) 147 f.toNat (u 37)) 147 = sv (mi 147) f.toNat (u 37) := rfl
  have go : ∀ k : Nat, 148 ≤ k → k ≤ 151 → (wt (wt (sv (wt mi 134 16 (f + 1)) 134 u) 146 f.toNat (u 36)) 147 f.toNat (u 37)) k = mi k := fun k k1 k2 => by rw [wt_row _ _ (by omega), wt_row _ _ (by omega), sv_ne _ _ (by omega), wt_row _ _ (by omega)]
  generalize wt (wt (sv (wt mi 134 16 (f + 1)) 134 u) 146 f.toNat (u 36)) 147 f.toNat (u 37) = W at *
  have K : ∀ (v : Nat → Int), (∀ j : Nat, j ≠ 9 → j ≠ 10 → v j = W 134 j) → MAT (sv W 134 v) r n (nx r n q) → c_M_value (d - 1) (wt (sv W 134 v) 150 f.toNat op) (fun m9 => ((0 ≤ m9 134 18 ∧ m9 134 18 < 400) ∧ (-2147483648 ≤ m9 134 18 + 1 ∧ m9 134 18 + 1 < 2147483648)) ∧ P (wt (wt (wt (wt m9 148 f.toNat (m9 134 36)) 149 f.toNat (m9 134 37)) 151 (m9 134 18).toNat f) 134 18 (m9 134 18 + 1))) := by
    intro v hv M3
    have v1 : ∀ j : Nat, j ≠ 9 → j ≠ 10 → v j = u j := fun j a b => by rw [hv j a b, g2]
    refine s_M_value (by omega) (by show v 12 = -1; rw [v1 12 (by decide) (by decide)]; exact u12) (MAT_cg M3 rfl rfl rfl rfl) hV2 (fun w hw vr2 M4 => ?_)
    have w1 : ∀ j : Nat, j ≠ 9 → j ≠ 10 → j ≠ 36 → j ≠ 37 → w j = u j := fun j a b c e => by rw [hw j a b c e]; exact v1 j a b
    have w18 : w 18 = s := by rw [w1 18 (by decide) (by decide) (by decide) (by decide)]; exact u18
    show ((0 ≤ w 18 ∧ w 18 < 400) ∧ (-2147483648 ≤ w 18 + 1 ∧ w 18 + 1 < 2147483648)) ∧ P (wt (wt (wt (wt (sv (wt (sv W 134 v) 150 f.toNat op) 134 w) 148 f.toNat (w 36)) 149 f.toNat (w 37)) 151 (w 18).toNat f) 134 18 (w 18 + 1))
    rw [w18]
    refine ⟨by omega, ?_⟩
    have FV : TF W (sv W 134 v) := TF.u (fun j a b _ _ _ => hv j a b)
    have FW : TF (wt (sv W 134 v) 150 f.toNat op) (sv (wt (sv W 134 v) 150 f.toNat op) 134 w) := TF.u (fun j a b _ c e => hw j a b c e)
    refine h _ (((F1.trans FV).trans ((TF.row _ (by omega)).trans FW)).trans ((TF.row _ (by omega)).trans ((TF.row _ (by omega)).trans ((TF.row _ (by omega)).trans (TF.w _ (by omega)))))) ?_ (MAT_cg M4 rfl (wt_ne _ _ (by decide)) (wt_ne _ _ (by decide)) (wt_ne _ _ (by decide))) ?_ (wt_same _ _ _ _) ?_ ?_ ?_ ?_ ?_ ?_
    · rw [wt_ne _ _ (by decide)]; show w 12 = -1; rw [w1 12 (by decide) (by decide) (by decide) (by decide)]; exact u12
    · rw [wt_ne _ _ (by decide)]; show w 16 = f + 1; rw [w1 16 (by decide) (by decide) (by decide) (by decide)]; exact u16
    · rw [wt_ne _ _ (by decide)]; show w 19 = _; rw [w1 19 (by decide) (by decide) (by decide) (by decide)]; exact u19
    · show sv (W 151) s.toNat f = _
      rw [go 151 (by omega) (by omega)]
    · show vRel a (W 146 f.toNat) (W 147 f.toNat)
      rw [g146, g147, sv_eq, sv_eq]; exact vr
    · show vRel b (sv (W 148) f.toNat (w 36) f.toNat) (sv (W 149) f.toNat (w 37) f.toNat)
      rw [sv_eq, sv_eq]; exact vr2
    · show sv (W 150) f.toNat op f.toNat = op
      exact sv_eq _ _ _
    · intro k k1 k2 j hj
      have : k = 146 ∨ k = 147 ∨ k = 148 ∨ k = 149 ∨ k = 150 := by omega
      rcases this with rfl | rfl | rfl | rfl | rfl
      · show W 146 j = _; rw [g146, svn _ _ hj]
      · show W 147 j = _; rw [g147, svn _ _ hj]
      · show sv (W 148) f.toNat (w 36) j = _; rw [svn _ _ hj, go 148 (by omega) (by omega)]
      · show sv (W 149) f.toNat (w 37) j = _; rw [svn _ _ hj, go 149 (by omega) (by omega)]
      · show sv (W 150) f.toNat op j = _; rw [svn _ _ hj, go 150 (by omega) (by omega)]
  have gW : W 134 12 = -1 := by rw [g2]; exact u12
  refine s_M_takesSign (by omega) (by decide) gW M2 (fun e _ v hv M3 => ⟨fun w => absurd w (by decide), fun _ => ?_⟩) (fun e => ⟨fun _ => ?_, fun w => absurd w (by decide)⟩)
  · have : op = 0 := by omega
    subst this; exact K v hv M3
  refine s_M_takesSign (by omega) (by decide) gW M2 (fun e _ v hv M3 => ⟨fun w => absurd w (by decide), fun _ => ?_⟩) (fun e2 => ⟨fun _ => ?_, fun w => absurd w (by decide)⟩)
  · have : op = 1 := by omega
    subst this; exact K v hv M3
  refine s_M_takesSign (by omega) (by decide) gW M2 (fun e _ v hv M3 => ⟨fun w => absurd w (by decide), fun _ => ?_⟩) (fun e3 => ⟨fun _ => by omega, fun w => absurd w (by decide)⟩)
  have : op = 2 := by omega
  subst this; exact K v hv M3
/-- the reference: no comparison -/
theorem s_M_comparisonF {P : MT → Prop} {p p' f s : Int} (hd : 12 < d) (hg : mi 134 12 = -1) (hM : MAT mi r n p) (hC : (f = 40 ∧ p' = p) ∨ (f < 40 ∧ CMPF r n p p')) (hf : mi 134 16 = f) (hf4 : 0 ≤ f ∧ f ≤ 40) (hs : mi 134 18 = s) (hs4 : 0 ≤ s ∧ s < 400)
    (h : ∀ m2 : MT, TF mi m2 → m2 134 12 = p' → (m2 134 18 = s ∨ m2 134 18 = s + 1) → P m2) : c_M_comparison d mi P := by
  have hR := hM.1.2.2.1
  have hp := hM.2.2.1
  refine v_M_comparison ⟨fun nq => ⟨by omega, ?_⟩, fun w => ⟨by omega, s_M_faults (by omega) hg ?_⟩⟩
  · rw [hf] at nq
    rcases hC with hC | ⟨hC, hC2⟩
    · exact absurd hC.1 nq
    rw [hf]
    have pin := CMPF_in hR hp hC2
    -- what is left once the fault stands
    have BAD : ∀ W : MT, TF mi W → W 134 12 = p' → W 134 18 = s → ((0 ≤ W 134 18 ∧ W 134 18 < 400) ∧ (-2147483648 ≤ W 134 18 + 1 ∧ W 134 18 + 1 < 2147483648)) ∧ P (wt (wt (wt (wt W 148 f.toNat (W 134 36)) 149 f.toNat (W 134 37)) 151 (W 134 18).toNat f) 134 18 (W 134 18 + 1)) := by
      intro W F w12 w18
      rw [w18]
      refine ⟨by omega, h _ (F.trans ((TF.row _ (by omega)).trans ((TF.row _ (by omega)).trans ((TF.row _ (by omega)).trans (TF.w _ (by omega)))))) ?_ (Or.inr (wt_same _ _ _ _))⟩
      rw [wt_ne _ _ (by decide)]
      exact w12
    have BADV : ∀ W : MT, TF mi W → W 134 12 = p' → W 134 18 = s → c_M_value (d - 1) W (fun m9 => ((0 ≤ m9 134 18 ∧ m9 134 18 < 400) ∧ (-2147483648 ≤ m9 134 18 + 1 ∧ m9 134 18 + 1 < 2147483648)) ∧ P (wt (wt (wt (wt m9 148 f.toNat (m9 134 36)) 149 f.toNat (m9 134 37)) 151 (m9 134 18).toNat f) 134 18 (m9 134 18 + 1))) := by
      intro W F w12 w18
      refine b_M_value (by omega) (by omega) (fun u hu => BAD _ (F.trans (TF.u (fun j _ _ _ a b => hu j a b))) ?_ ?_)
      · show u 12 = p'; rw [hu 12 (by decide) (by decide)]; exact w12
      · show u 18 = s; rw [hu 18 (by decide) (by decide)]; exact w18
    have M0 : MAT (wt mi 134 16 (f + 1)) r n p := MAT_cg hM rfl (wt_ne _ _ (by decide)) (wt_ne _ _ (by decide)) (wt_ne _ _ (by decide))
    have g0 : (wt mi 134 16 (f + 1)) 134 12 = -1 := by rw [wt_ne _ _ (by decide)]; exact hg
    have g18 : (wt mi 134 16 (f + 1)) 134 18 = s := by rw [wt_ne _ _ (by decide)]; exact hs
    rcases hC2 with hV | ⟨a, hV, e1, e2, e3⟩ | ⟨a, q, hV1, ho, hV2⟩
    · refine s_M_valueF (by omega) g0 M0 hV (fun u hu u12 => ⟨by omega, ?_⟩)
      have F1 : TF mi (wt (wt (sv (wt mi 134 16 (f + 1)) 134 u) 146 f.toNat (u 36)) 147 f.toNat (u 37)) := ((TF.w _ (by omega)).trans (TF.u (fun j a b c e g => hu j a b c e g))).trans ((TF.row _ (by omega)).trans (TF.row _ (by omega)))
      have u18 : u 18 = s := by rw [hu 18 (by decide) (by decide) (by decide) (by decide) (by decide)]; exact g18
      refine b_M_takesSign (by omega) (show u 12 ≠ -1 by omega) ⟨fun _ => ?_, fun w => absurd w (by decide)⟩
      refine b_M_takesSign (by omega) (show u 12 ≠ -1 by omega) ⟨fun _ => ?_, fun w => absurd w (by decide)⟩
      refine b_M_takesSign (by omega) (show u 12 ≠ -1 by omega) ⟨fun _ => ?_, fun w => absurd w (by decide)⟩
      exact b_M_faults (by omega) (show u 12 ≠ -1 by omega) (BADV _ (F1.trans (TF.row _ (by omega))) u12 u18)
    · refine s_M_value (by omega) g0 M0 hV (fun u hu vr M1 => ⟨by omega, ?_⟩)
      have F1 : TF mi (wt (wt (sv (wt mi 134 16 (f + 1)) 134 u) 146 f.toNat (u 36)) 147 f.toNat (u 37)) := ((TF.w _ (by omega)).trans (TF.u (fun j a b _ e g => hu j a b e g))).trans ((TF.row _ (by omega)).trans (TF.row _ (by omega)))
      have u18 : u 18 = s := by rw [hu 18 (by decide) (by decide) (by decide) (by decide)]; exact g18
      have u12 : u 12 = -1 := by rw [hu 12 (by decide) (by decide) (by decide) (by decide)]; exact g0
      have M2 : MAT (wt (wt (sv (wt mi 134 16 (f + 1)) 134 u) 146 f.toNat (u 36)) 147 f.toNat (u 37)) r n p' := MAT_cg M1 rfl rfl rfl rfl
      refine s_M_takesSign (mi := wt (wt (sv (wt mi 134 16 (f + 1)) 134 u) 146 f.toNat (u 36)) 147 f.toNat (u 37)) (by omega) (by decide) u12 M2 (fun e => absurd e e1) (fun _ => ⟨fun _ => ?_, fun w => absurd w (by decide)⟩)
      refine s_M_takesSign (by omega) (by decide) u12 M2 (fun e => absurd e e2) (fun _ => ⟨fun _ => ?_, fun w => absurd w (by decide)⟩)
      refine s_M_takesSign (by omega) (by decide) u12 M2 (fun e => absurd e e3) (fun _ => ⟨fun _ => ?_, fun w => absurd w (by decide)⟩)
      refine s_M_faults (by omega) u12 (BADV _ ((F1.trans (TF.row _ (by omega))).trans (TF.w _ (by omega))) ?_ ?_)
      · rw [wt_same]; exact M1.2.1
      · rw [wt_ne _ _ (by decide)]; exact u18
    · refine s_M_value (by omega) g0 M0 hV1 (fun u hu vr M1 => ⟨by omega, ?_⟩)
      have F1 : TF mi (wt (wt (sv (wt mi 134 16 (f + 1)) 134 u) 146 f.toNat (u 36)) 147 f.toNat (u 37)) := ((TF.w _ (by omega)).trans (TF.u (fun j a b _ e g => hu j a b e g))).trans ((TF.row _ (by omega)).trans (TF.row _ (by omega)))
      have u18 : u 18 = s := by rw [hu 18 (by decide) (by decide) (by decide) (by decide)]; exact g18
      have u12 : u 12 = -1 := by rw [hu 12 (by decide) (by decide) (by decide) (by decide)]; exact g0
      have M2 : MAT (wt (wt (sv (wt mi 134 16 (f + 1)) 134 u) 146 f.toNat (u 36)) 147 f.toNat (u 37)) r n q := MAT_cg M1 rfl rfl rfl rfl
      show c_M_takesSign (d - 1) 60 (wt (wt (sv (wt mi 134 16 (f + 1)) 134 u) 146 f.toNat (u 36)) 147 f.toNat (u 37)) _
      have gW : (wt (wt (sv (wt mi 134 16 (f + 1)) 134 u) 146 f.toNat (u 36)) 147 f.toNat (u 37)) 134 12 = -1 := u12
      have gs : (wt (wt (sv (wt mi 134 16 (f + 1)) 134 u) 146 f.toNat (u 36)) 147 f.toNat (u 37)) 134 18 = s := u18
      generalize wt (wt (sv (wt mi 134 16 (f + 1)) 134 u) 146 f.toNat (u 36)) 147 f.toNat (u 37) = W at *
      have K : ∀ (op : Int) (v : Nat → Int), (∀ j : Nat, j ≠ 9 → j ≠ 10 → v j = W 134 j) → MAT (sv W 134 v) r n (nx r n q) → c_M_value (d - 1) (wt (sv W 134 v) 150 f.toNat op) (fun m9 => ((0 ≤ m9 134 18 ∧ m9 134 18 < 400) ∧ (-2147483648 ≤ m9 134 18 + 1 ∧ m9 134 18 + 1 < 2147483648)) ∧ P (wt (wt (wt (wt m9 148 f.toNat (m9 134 36)) 149 f.toNat (m9 134 37)) 151 (m9 134 18).toNat f) 134 18 (m9 134 18 + 1))) := by
        intro op v hv M3
        refine s_M_valueF (by omega) (by show v 12 = -1; rw [hv 12 (by decide) (by decide)]; exact gW) (MAT_cg M3 rfl rfl rfl rfl) hV2 (fun w hw w12 => BAD _ ((F1.trans (TF.u (fun j a b _ _ _ => hv j a b))).trans ((TF.row _ (by omega)).trans (TF.u (fun j a b c e g => hw j a b c e g)))) w12 ?_)
        show w 18 = s
        rw [hw 18 (by decide) (by decide) (by decide) (by decide) (by decide)]
        show v 18 = s
        rw [hv 18 (by decide) (by decide)]
        exact gs
      refine s_M_takesSign (by omega) (by decide) gW M2 (fun e _ v hv M3 => ⟨fun w => absurd w (by decide), fun _ => K 0 v hv M3⟩) (fun e => ⟨fun _ => ?_, fun w => absurd w (by decide)⟩)
      refine s_M_takesSign (by omega) (by decide) gW M2 (fun e _ v hv M3 => ⟨fun w => absurd w (by decide), fun _ => K 1 v hv M3⟩) (fun e2 => ⟨fun _ => ?_, fun w => absurd w (by decide)⟩)
      exact s_M_takesSign (by omega) (by decide) gW M2 (fun e _ v hv M3 => ⟨fun w => absurd w (by decide), fun _ => K 2 v hv M3⟩) (fun e3 => ⟨fun _ => by omega, fun w => absurd w (by decide)⟩)
  · rw [hf] at w
    rcases hC with hC | hC
    · refine h _ (TF.w _ (by omega)) ?_ (Or.inl (by rw [wt_ne _ _ (by decide)]; exact hs))
      rw [wt_same, hM.2.1, hC.2]
    · omega
end CMP2
