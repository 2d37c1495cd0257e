section TEST
variable {r : Nat → Int} {n T : Int}
theorem fact_of {dep : Int} (hdep : 0 ≤ dep ∧ dep ≤ 6) (HT : dep < 6 → TestS r n T (dep + 1)) : FactS r n T dep := by
  intro d p mi P hd hA h5 h3 hs h
  have hp := (AT_wd hA).2.1
  refine v_G_readFact (fact_loop hdep HT (n - p + 1).toNat d p 0 0 mi P (by omega) hd hA h5 h3 (by omega) (by omega) rfl (fun b m1 p1 hPA hPG hS => h b m1 p1 hPA hPG ?_))
  intro dd m' P' hdd hg hM h19 hR ht hf
  exact v_M_fact (hS dd m' P' hdd hg hM h19 hR ht hf)
/-- the class after a row of facts joined by and -/
def EX (d : Nat) (dep l2 : Int) (P : Bool → MT → Prop) (m : MT) : Prop := (l2 ≤ 0 → c_G_accepts (d - 1) 305 m (fun b11 m11 => (b11 = true → ((-2147483648 ≤ l2 + 1 ∧ l2 + 1 < 2147483648) ∧ h_G_readTest_2 d dep (l2 + 1) m11 P)) ∧ (b11 = false → P true m11))) ∧ (0 < l2 → c_U_addCode (d - 1) 5 0 0 m (fun m14 => c_G_accepts (d - 1) 305 m14 (fun b15 m15 => (b15 = true → ((-2147483648 ≤ l2 + 1 ∧ l2 + 1 < 2147483648) ∧ h_G_readTest_2 d dep (l2 + 1) m15 P)) ∧ (b15 = false → P true m15))))
theorem both_loop {dep : Int} (hdep : 0 ≤ dep ∧ dep ≤ 6) (HF : FactS r n T dep) : ∀ (k : Nat) (d : Nat) (p l2 l3 : Int) (mi : MT) (P : Bool → MT → Prop), n - p < k → 45 - 4 * dep ≤ (d : Int) → AT mi r n T p → (0 ≤ mi 94 5 ∧ mi 94 5 ≤ 40) → 0 ≤ mi 96 3 → mi 96 3 + 2 ≤ p → (0 ≤ l3 ∧ l3 + 1 ≤ p) →
    (∀ (m1 : MT) (p1 : Int), PostA r n T p mi m1 p1 → ((mi 96 3 ≤ m1 96 3 ∧ m1 96 3 - mi 96 3 ≤ p1 - p) ∧ ∀ j : Nat, (j : Int) < mi 96 3 → m1 97 j = mi 97 j) → (∀ h : Int, 0 ≤ h → h ≤ 1 + 2 * dep → BL (m1 97) (mi 96 3) (m1 96 3) (h + 1) (h + 1)) → SimX (fun dd m' P' => h_M_both_4 dd m' P') (45 - 4 * dep) r n p dep 0 mi true p1 m1 → EX d dep l2 P m1) →
    (∀ (m1 : MT) (p1 : Int), PostA r n T p mi m1 p1 → SimX (fun dd m' P' => h_M_both_4 dd m' P') (45 - 4 * dep) r n p dep 0 mi false p1 m1 → P false m1) → h_G_readTest_21 d dep l2 l3 mi P := by
  intro k
  induction k with
  | zero =>
    intro d p l2 l3 mi P hk hd hA
    have := (AT_wd hA).2.1
    omega
  | succ k ih =>
    intro d p l2 l3 mi P hk hd hA h5 h3 hs hl hx hf
    obtain ⟨a1, a2, a3, a4, a5, a6⟩ := AT_wd hA
    have n400 := hA.1.1.1
    refine v_G_readTest_21 ⟨fun q => by omega, fun _ => ⟨by omega, ?_⟩⟩
    refine s_G_accepts (by decide) hA (fun e pn hA1 => ⟨fun q => absurd q (by decide), fun _ => ?_⟩) (fun e => ⟨fun _ => ?_, fun q => absurd q (by decide)⟩)
    · have nxi := nx_in (r := r) pn
      have e5 : (wt mi 94 4 (mi 94 4 + 1)) 94 5 = mi 94 5 := wt_ne _ _ (by decide)
      refine HF (d - 1) (nx r n p) _ _ (by omega) hA1 (by rw [e5]; exact h5) h3 (show mi 96 3 + 2 ≤ _ by omega) (fun b m1 p1 hPA hPG hS => ?_)
      have p1n := (AT_wd hPA.2.1).2.1
      have nxp := hPA.2.2.2
      have CF : CFT mi m1 := (CFT.w4 _ (by omega)).trans hPA.1
      -- the reference, up to the fact
      have REF : ∀ (dd : Nat) (m' : MT) (P' : MT → Prop), 45 - 4 * dep ≤ (dd : Int) → m' 134 12 = -1 → MAT m' r n p → m' 134 19 = dep → PRc mi m' → (b = true → ∀ m2 : MT, TF m' m2 → m2 134 12 = -1 → MAT m2 r n p1 → PRc m1 m2 → ((0 ≤ m2 134 18 ∧ m2 134 18 < 400) ∧ (-2147483648 ≤ m2 134 18 + 1 ∧ m2 134 18 + 1 < 2147483648)) ∧ h_M_both_4 dd (wt (wt m2 151 (m2 134 18).toNat 101) 134 18 (m2 134 18 + 1)) P') → (b = false → ∀ m2 : MT, TF m' m2 → m2 134 12 = p1 → (0 ≤ m2 134 18 ∧ m2 134 18 - m' 134 18 ≤ p1 - p + 1) → P' m2) → h_M_both_4 dd m' P' := by
        intro dd m' P' hdd hg hM h19 hR ht hfl
        refine v_M_both_4 ⟨by omega, s_M_takesWord (by omega) iw_and hg hM (fun _ _ u hu hM2 => ⟨fun q => absurd q (by decide), fun _ => ?_⟩) (fun q => absurd e q)⟩
        have F : TF m' (sv m' 134 u) := TF.u (fun j a b _ _ _ => hu j a b)
        have u18 : (sv m' 134 u) 134 18 = m' 134 18 := hu 18 (by decide) (by decide)
        have r1 := hR.1.1
        refine hS (dd - 1) (sv m' 134 u) _ (by omega) (by show u 12 = -1; rw [hu 12 (by decide) (by decide)]; exact hg) hM2 (by show u 19 = dep; rw [hu 19 (by decide) (by decide)]; exact h19) (PRc_cg hR rfl e5 rfl u18 (hu 16 (by decide) (by decide)) (fun k k1 k2 => sv_ne _ _ (by omega))) (fun eb m2 F2 g M R => ht eb m2 (F.trans F2) g M R) (fun eb m2 F2 e12 hb => ?_)
        rw [u18] at hb
        refine ⟨by omega, v_M_both_4 ⟨by omega, b_M_takesWord (by omega) (by rw [wt_ne _ _ (by decide)]; show m2 134 12 ≠ -1; omega) ⟨fun _ => ?_, fun q => absurd q (by decide)⟩⟩⟩
        refine hfl eb _ ((F.trans F2).trans ((TF.row _ (by omega)).trans (TF.w _ (by omega)))) (by rw [wt_ne _ _ (by decide)]; exact e12) ?_
        rw [wt_same]; omega
      refine ⟨fun eb => ?_, fun eb => ?_⟩
      · subst eb
        obtain ⟨⟨⟨g1, g2, g3⟩, g4⟩, g5⟩ := hPG rfl
        have g2' : mi 96 3 ≤ m1 96 3 := g2
        have g3' : m1 96 3 - mi 96 3 ≤ p1 - nx r n p + 0 := g3
        refine s_U_addCode (by omega) (by omega) (by omega) (by omega) ⟨by omega, ?_⟩
        have e63 : (wt (wt m1 97 (m1 96 3).toNat (4 * 1048576 + 0 * 1024 + 0)) 96 3 (m1 96 3 + 1)) 96 3 = m1 96 3 + 1 := wt_same _ _ _ _
        have E97 : ∀ j : Nat, (wt (wt m1 97 (m1 96 3).toNat (4 * 1048576 + 0 * 1024 + 0)) 96 3 (m1 96 3 + 1)) 97 j = sv (m1 97) (m1 96 3).toNat (4 * 1048576 + 0 * 1024 + 0) j := fun _ => rfl
        have CF2 : CFT mi (wt (wt m1 97 (m1 96 3).toNat (4 * 1048576 + 0 * 1024 + 0)) 96 3 (m1 96 3 + 1)) := CF.trans ((CFT.w7 _).trans (CFT.w6 _))
        have A2 : AT (wt (wt m1 97 (m1 96 3).toNat (4 * 1048576 + 0 * 1024 + 0)) 96 3 (m1 96 3 + 1)) r n T p1 := AT_cg hPA.2.1 rfl rfl rfl rfl rfl
        have EM : ∀ m2 : MT, PRc m1 m2 → PRc (wt (wt m1 97 (m1 96 3).toNat (4 * 1048576 + 0 * 1024 + 0)) 96 3 (m1 96 3 + 1)) (wt (wt m2 151 (m2 134 18).toNat 101) 134 18 (m2 134 18 + 1)) := fun m2 R => PRc_emit R (by omega) (Or.inr (Or.inl ⟨rfl, rfl⟩))
        have h15 : (wt (wt m1 97 (m1 96 3).toNat (4 * 1048576 + 0 * 1024 + 0)) 96 3 (m1 96 3 + 1)) 94 5 = m1 94 5 := rfl
        generalize wt (wt m1 97 (m1 96 3).toNat (4 * 1048576 + 0 * 1024 + 0)) 96 3 (m1 96 3 + 1) = N1 at *
        refine ih d p1 l2 (l3 + 1) N1 P (by omega) hd A2 (by rw [h15]; exact hPA.2.2.1) (by omega) (by omega) (by omega) (fun m3 p3 hPA3 hPG3 hB3 hS3 => ?_) (fun m3 p3 hPA3 hS3 => ?_)
        · obtain ⟨⟨k1, k2⟩, k3⟩ := hPG3
          refine hx m3 p3 ⟨CF2.trans hPA3.1, hPA3.2.1, hPA3.2.2.1, by have := hPA3.2.2.2; omega⟩ ⟨by omega, fun j hj => ?_⟩ (fun g g0 g1 => ?_) ?_
          · rw [k3 j (by omega), E97, svn _ _ (by omega)]; exact g4 j hj
          · have C1 : ∀ x : Int, mi 96 3 ≤ x → x < m1 96 3 → m3 97 x.toNat = m1 97 x.toNat := fun x x1 x2 => by rw [k3 _ (by omega), E97, svn _ _ (by omega)]
            have C2 : m3 97 (m1 96 3).toNat = 4194304 := by rw [k3 _ (by omega), E97, sv_eq]; decide
            have B1 : BL (m3 97) (mi 96 3) (m1 96 3) (g + 1) (g + 1 + 1) := BL.cg (g5 (g + 1) (by omega) (by omega)) C1
            have B2 : BL (m3 97) (m1 96 3) (m1 96 3 + 1) (g + 1 + 1) (g + 1) := BL.one (Or.inr (Or.inr ⟨Or.inl (by rw [C2]; decide), by omega, by omega⟩))
            have B3 := hB3 g g0 g1
            rw [e63] at B3
            exact (B1.tr B2).tr B3
          · intro dd m' P' hdd hg hM h19 hR ht _
            refine REF dd m' P' hdd hg hM h19 hR (fun _ m2 F g M R => ⟨by have := R.1.1; omega, ?_⟩) (fun q => absurd q (by decide))
            have F3 : TF m' (wt (wt m2 151 (m2 134 18).toNat 101) 134 18 (m2 134 18 + 1)) := F.trans ((TF.row _ (by omega)).trans (TF.w _ (by omega)))
            exact hS3 dd _ P' hdd (by rw [wt_ne _ _ (by decide)]; exact g) (MAT_cg M rfl (wt_ne _ _ (by decide)) (wt_ne _ _ (by decide)) (wt_ne _ _ (by decide))) (by rw [F3.d19]; exact h19) (EM m2 R) (fun eb m4 F4 => ht eb m4 (F3.trans F4)) (fun q => absurd q (by decide))
        · refine hf m3 p3 ⟨CF2.trans hPA3.1, hPA3.2.1, hPA3.2.2.1, by have := hPA3.2.2.2; omega⟩ ?_
          intro dd m' P' hdd hg hM h19 hR _ hfl
          have r1 := hR.1.1
          refine REF dd m' P' hdd hg hM h19 hR (fun _ m2 F g M R => ⟨by have := R.1.1; omega, ?_⟩) (fun q => absurd q (by decide))
          have r2 := R.1.1
          have F3 : TF m' (wt (wt m2 151 (m2 134 18).toNat 101) 134 18 (m2 134 18 + 1)) := F.trans ((TF.row _ (by omega)).trans (TF.w _ (by omega)))
          refine hS3 dd _ P' hdd (by rw [wt_ne _ _ (by decide)]; exact g) (MAT_cg M rfl (wt_ne _ _ (by decide)) (wt_ne _ _ (by decide)) (wt_ne _ _ (by decide))) (by rw [F3.d19]; exact h19) (EM m2 R) (fun q => absurd q (by decide)) (fun eb m4 F4 e12 hb => hfl eb m4 (F3.trans F4) e12 ?_)
          rw [wt_same] at hb
          omega
      · subst eb
        refine hf m1 p1 ⟨CF, hPA.2.1, hPA.2.2.1, by omega⟩ ?_
        intro dd m' P' hdd hg hM h19 hR _ hfl
        exact REF dd m' P' hdd hg hM h19 hR (fun q => absurd q (by decide)) (fun _ m2 F e12 hb => hfl rfl m2 F e12 (by omega))
    · have X := hx mi p ⟨CFT.rfl' _, hA, h5, Int.le_refl _⟩ ⟨by omega, fun _ _ => rfl⟩ (fun g g0 g1 => ⟨Int.le_refl _, by rw [show (mi 96 3 - mi 96 3).toNat = 0 by omega]; rfl⟩) (fun dd m' P' hdd hg hM h19 hR ht _ => v_M_both_4 ⟨by omega, s_M_takesWord (by omega) iw_and hg hM (fun q => absurd q e) (fun _ => ⟨fun _ => ht rfl m' (TF.rfl' _) hg hM hR, fun q => absurd q (by decide)⟩)⟩)
      exact X
end TEST
