section TEST2
variable {r : Nat → Int} {n T : Int}
/-- the reference, a row of facts and what comes behind it -/
def CB (l2 : Int) (dd : Nat) (m' : MT) (P' : MT → Prop) : Prop := ∀ K : MT → Prop, (∀ m2 : MT, (0 ≤ m2 134 18 ∧ m2 134 18 < 400) → h_M_test_4 dd (if l2 ≤ 0 then m2 else wt (wt m2 151 (m2 134 18).toNat 102) 134 18 (m2 134 18 + 1)) P' → K m2) → c_M_both (dd - 1) m' K
theorem test_loop {dep : Int} (hdep : 0 ≤ dep ∧ dep ≤ 6) (HF : FactS r n T dep) : ∀ (k : Nat) (d : Nat) (p l2 e : Int) (mi : MT) (P : Bool → MT → Prop), n - p < k → 46 - 4 * dep ≤ (d : Int) → AT mi r n T p → (0 ≤ mi 94 5 ∧ mi 94 5 ≤ 40) → 0 ≤ mi 96 3 → mi 96 3 + e + 2 ≤ p → (0 ≤ l2 ∧ l2 + 1 ≤ p) → (l2 ≤ 0 → e = 0) → (0 < l2 → e = 1) →
    (∀ (b : Bool) (m1 : MT) (p1 : Int), PostA r n T p mi m1 p1 → (b = true → PostG p e mi m1 p1 ∧ ∀ h : Int, 0 ≤ h → h ≤ 2 * dep → BL (m1 97) (mi 96 3) (m1 96 3) (h + e) (h + 1)) → SimX (CB l2) (46 - 4 * dep) r n p dep e mi b p1 m1 → P b m1) → h_G_readTest_2 d dep l2 mi P := by
  intro k
  induction k with
  | zero =>
    intro d p l2 e mi P hk hd hA
    have := (AT_wd hA).2.1
    omega
  | succ k ih =>
    intro d p l2 e mi P hk hd hA h5 h3 hs hl he0 he1 h
    obtain ⟨a1, a2, a3, a4, a5, a6⟩ := AT_wd hA
    have n400 := hA.1.1.1
    have e01 : e = 0 ∨ e = 1 := by omega
    refine v_G_readTest_2 ⟨fun q => by omega, fun _ => ⟨by omega, ?_⟩⟩
    -- a fault stands
    have BADT : ∀ (p1 : Int) (dd : Nat) (m' m2 : MT) (P' K : MT → Prop), 46 - 4 * dep ≤ (dd : Int) → p ≤ p1 → p1 ≤ n → m' 134 18 = mi 96 3 → TF m' m2 → m2 134 12 = p1 → (0 ≤ m2 134 18 ∧ m2 134 18 - m' 134 18 ≤ p1 - p + 1) → (∀ m2 : MT, (0 ≤ m2 134 18 ∧ m2 134 18 < 400) → h_M_test_4 dd (if l2 ≤ 0 then m2 else wt (wt m2 151 (m2 134 18).toNat 102) 134 18 (m2 134 18 + 1)) P' → K m2) → (∀ m3 : MT, TF m' m3 → m3 134 12 = p1 → (0 ≤ m3 134 18 ∧ m3 134 18 - m' 134 18 ≤ p1 - p + 1 + e) → P' m3) → K m2 := by
      intro p1 dd m' m2 P' K hdd hp1 hpn e18 F e12 hb hK hP
      refine hK m2 (by omega) ?_
      split
      · refine v_M_test_4 ⟨by omega, b_M_takesWord (by omega) (by omega) ⟨fun _ => hP m2 F e12 (by omega), fun q => absurd q (by decide)⟩⟩
      · rename_i q
        have e1 := he1 (by omega)
        have g12 : (wt (wt m2 151 (m2 134 18).toNat 102) 134 18 (m2 134 18 + 1)) 134 12 = p1 := by rw [wt_ne _ _ (by decide)]; exact e12
        refine v_M_test_4 ⟨by omega, b_M_takesWord (by omega) (by omega) ⟨fun _ => hP _ (F.trans ((TF.row _ (by omega)).trans (TF.w _ (by omega)))) g12 (by rw [wt_same]; omega), fun q => absurd q (by decide)⟩⟩
    refine HF (d - 1) p mi _ (by omega) hA h5 h3 (by omega) (fun b m1 p1 hPA hPG hS => ⟨fun eb => ?_, fun eb => ?_⟩)
    · subst eb
      obtain ⟨⟨⟨g1, g2, g3⟩, g4⟩, g5⟩ := hPG rfl
      have p1n := (AT_wd hPA.2.1).2.1
      refine both_loop hdep HF (n - p1 + 1).toNat d p1 l2 0 m1 P (by omega) (by omega) hPA.2.1 hPA.2.2.1 (by omega) (by omega) (by omega) (fun m3 p3 hPA3 hPG3 hB3 hS3 => ?_) (fun m3 p3 hPA3 hS3 => ?_)
      · obtain ⟨⟨k1, k2⟩, k3⟩ := hPG3
        have p3n := (AT_wd hPA3.2.1).2.1
        have p13 := hPA3.2.2.2
        have CF : CFT mi m3 := hPA.1.trans hPA3.1
        have C97 : ∀ j : Nat, (j : Int) < mi 96 3 → m3 97 j = mi 97 j := fun j hj => by rw [k3 j (by omega)]; exact g4 j hj
        have BB : ∀ g : Int, 0 ≤ g → g ≤ 1 + 2 * dep → BL (m3 97) (mi 96 3) (m3 96 3) g (g + 1) := by
          intro g q0 q1
          refine BL.tr (j := m1 96 3) (h1 := g + 1) (BL.cg (g5 g q0 (by omega)) (fun x x1 x2 => k3 _ (by omega))) (hB3 g q0 q1)
        -- the reference through the row of facts
        have SB : ∀ (dd : Nat) (m' : MT) (K : MT → Prop), 46 - 4 * dep ≤ (dd : Int) → m' 134 12 = -1 → MAT m' r n p → m' 134 19 = dep → PRc mi m' → (∀ m2 : MT, TF m' m2 → m2 134 12 = -1 → MAT m2 r n p3 → PRc m3 m2 → K m2) → c_M_both (dd - 1) m' K := by
          intro dd m' K hdd hg hM h19 hR ht
          refine v_M_both ⟨by omega, hS (dd - 1 - 1) m' _ (by omega) hg hM h19 hR (fun _ m2 F g M R => ?_) (fun q => absurd q (by decide))⟩
          exact hS3 (dd - 1) m2 K (by omega) g M (by rw [F.d19]; exact h19) R (fun _ m4 F4 g4 M4 R4 => ht m4 (F.trans F4) g4 M4 R4) (fun q => absurd q (by decide))
        have FIN : ∀ N : MT, CFT mi N → AT N r n T p3 → (0 ≤ N 94 5 ∧ N 94 5 ≤ 40) → (mi 96 3 ≤ N 96 3 ∧ N 96 3 - mi 96 3 ≤ p3 - p + e) → (∀ j : Nat, (j : Int) < mi 96 3 → N 97 j = mi 97 j) → (∀ g : Int, 0 ≤ g → g ≤ 2 * dep → BL (N 97) (mi 96 3) (N 96 3) (g + e) (g + 1)) → (∀ (dd : Nat) (m' : MT) (P' K : MT → Prop), 46 - 4 * dep ≤ (dd : Int) → m' 134 12 = -1 → MAT m' r n p → m' 134 19 = dep → PRc mi m' → (∀ m2 : MT, (0 ≤ m2 134 18 ∧ m2 134 18 < 400) → h_M_test_4 dd (if l2 ≤ 0 then m2 else wt (wt m2 151 (m2 134 18).toNat 102) 134 18 (m2 134 18 + 1)) P' → K m2) → (∀ m2 : MT, TF m' m2 → m2 134 12 = -1 → MAT m2 r n p3 → PRc N m2 → h_M_test_4 dd m2 P') → c_M_both (dd - 1) m' K) → c_G_accepts (d - 1) 305 N (fun b11 m11 => (b11 = true → ((-2147483648 ≤ l2 + 1 ∧ l2 + 1 < 2147483648) ∧ h_G_readTest_2 d dep (l2 + 1) m11 P)) ∧ (b11 = false → P true m11)) := by
          intro N F1 F2 F3 F4 F5 F6 F7
          refine s_G_accepts (by decide) F2 (fun e305 pn A5 => ⟨fun _ => ⟨by omega, ?_⟩, fun q => absurd q (by decide)⟩) (fun e305 => ⟨fun q => absurd q (by decide), fun _ => ?_⟩)
          · have nxi := nx_in (r := r) pn
            have e5 : (wt N 94 4 (N 94 4 + 1)) 94 5 = N 94 5 := wt_ne _ _ (by decide)
            refine ih d (nx r n p3) (l2 + 1) 1 _ P (by omega) hd A5 (by rw [e5]; exact F3) (show 0 ≤ N 96 3 by omega) (show N 96 3 + 1 + 2 ≤ _ by omega) (by omega) (fun q => by omega) (fun _ => rfl) (fun b m5 p5 hPA5 hPG5 hS5 => ?_)
            refine h b m5 p5 ⟨F1.trans ((CFT.w4 _ (by omega)).trans hPA5.1), hPA5.2.1, hPA5.2.2.1, by have := hPA5.2.2.2; omega⟩ (fun eb => ?_) ?_
            · obtain ⟨⟨⟨j1, j2, j3⟩, j4⟩, j5⟩ := hPG5 eb
              have j2' : N 96 3 ≤ m5 96 3 := j2
              have j3' : m5 96 3 - N 96 3 ≤ p5 - nx r n p3 + 1 := j3
              have j4' : ∀ j : Nat, (j : Int) < N 96 3 → m5 97 j = N 97 j := j4
              refine ⟨⟨⟨by omega, by omega, by omega⟩, fun j hj => by rw [j4' j (by omega)]; exact F5 j hj⟩, fun g q0 q1 => ?_⟩
              exact BL.tr (j := N 96 3) (h1 := g + 1) (BL.cg (F6 g q0 q1) (fun x x1 x2 => j4' _ (by omega))) (j5 g q0 q1)
            · intro dd m' P' hdd hg hM h19 hR ht hf K hK
              have r1 := hR.1.1
              refine F7 dd m' P' K hdd hg hM h19 hR hK (fun m2 G1 G2 G3 G4 => ?_)
              have r2 := G4.1.1
              refine v_M_test_4 ⟨by omega, s_M_takesWord (by omega) iw_or G2 G3 (fun _ _ u hu hM2 => ⟨fun q => absurd q (by decide), fun _ => ?_⟩) (fun q => absurd e305 q)⟩
              have FU : TF m2 (sv m2 134 u) := TF.u (fun j a b _ _ _ => hu j a b)
              have u18 : (sv m2 134 u) 134 18 = m2 134 18 := hu 18 (by decide) (by decide)
              refine hS5 dd (sv m2 134 u) P' hdd (by show u 12 = -1; rw [hu 12 (by decide) (by decide)]; exact G2) hM2 (by rw [FU.d19, G1.d19]; exact h19) (PRc_cg G4 rfl e5 rfl u18 (hu 16 (by decide) (by decide)) (fun k k1 k2 => sv_ne _ _ (by omega))) (fun eb m4 F4 => ht eb m4 ((G1.trans FU).trans F4)) (fun eb m4 F4 e12 hb => hf eb m4 ((G1.trans FU).trans F4) e12 ?_) _ (fun m4 hb x => ⟨by omega, ?_⟩)
              · rw [u18] at hb; omega
              · rw [if_neg (by omega)] at x; exact x
          · refine h true N p3 ⟨F1, F2, F3, by omega⟩ (fun _ => ⟨⟨⟨by omega, by omega, by omega⟩, F5⟩, F6⟩) ?_
            intro dd m' P' hdd hg hM h19 hR ht hf K hK
            refine F7 dd m' P' K hdd hg hM h19 hR hK (fun m2 G1 G2 G3 G4 => ?_)
            exact v_M_test_4 ⟨by omega, s_M_takesWord (by omega) iw_or G2 G3 (fun q => absurd q e305) (fun _ => ⟨fun _ => ht rfl m2 G1 G2 G3 G4, fun q => absurd q (by decide)⟩)⟩
        refine ⟨fun q => ?_, fun q => ?_⟩
        · have e0 := he0 q
          refine FIN m3 CF hPA3.2.1 hPA3.2.2.1 (by omega) C97 (fun g q0 q1 => ?_) ?_
          · rw [show g + e = g by omega]
            exact BB g q0 (by omega)
          · intro dd m' P' K hdd hg hM h19 hR hK hm
            refine SB dd m' K hdd hg hM h19 hR (fun m2 G1 G2 G3 G4 => hK m2 ?_ ?_)
            · have := G4.1.1; omega
            · rw [if_pos q]; exact hm m2 G1 G2 G3 G4
        · have e1 := he1 q
          refine s_U_addCode (by omega) (by omega) (by omega) (by omega) ?_
          have e63 : (wt (wt m3 97 (m3 96 3).toNat (5 * 1048576 + 0 * 1024 + 0)) 96 3 (m3 96 3 + 1)) 96 3 = m3 96 3 + 1 := wt_same _ _ _ _
          have E97 : ∀ j : Nat, (wt (wt m3 97 (m3 96 3).toNat (5 * 1048576 + 0 * 1024 + 0)) 96 3 (m3 96 3 + 1)) 97 j = sv (m3 97) (m3 96 3).toNat (5 * 1048576 + 0 * 1024 + 0) j := fun _ => rfl
          refine FIN _ (CF.trans ((CFT.w7 _).trans (CFT.w6 _))) (AT_cg hPA3.2.1 rfl rfl rfl rfl rfl) hPA3.2.2.1 (by rw [e63]; omega) (fun j hj => by rw [E97, svn _ _ (by omega)]; exact C97 j hj) (fun g q0 q1 => ?_) ?_
          · rw [e63, e1]
            refine BL.tr (j := m3 96 3) (h1 := g + 1 + 1) (BL.cg (BB (g + 1) (by omega) (by omega)) (fun x x1 x2 => by rw [E97, svn _ _ (by omega)])) (BL.one (Or.inr (Or.inr ⟨Or.inr (by rw [E97, sv_eq]; decide), by omega, by omega⟩)))
          · intro dd m' P' K hdd hg hM h19 hR hK hm
            refine SB dd m' K hdd hg hM h19 hR (fun m2 G1 G2 G3 G4 => hK m2 ?_ ?_)
            · have := G4.1.1; omega
            · rw [if_neg (by omega)]
              exact hm _ (G1.trans ((TF.row _ (by omega)).trans (TF.w _ (by omega)))) (by rw [wt_ne _ _ (by decide)]; exact G2) (MAT_cg G3 rfl (wt_ne _ _ (by decide)) (wt_ne _ _ (by decide)) (wt_ne _ _ (by decide))) (PRc_emit G4 (by omega) (Or.inr (Or.inr ⟨rfl, rfl⟩)))
      · have p3n := (AT_wd hPA3.2.1).2.1
        have p13 := hPA3.2.2.2
        refine h false m3 p3 ⟨hPA.1.trans hPA3.1, hPA3.2.1, hPA3.2.2.1, by omega⟩ (fun q => absurd q (by decide)) ?_
        intro dd m' P' hdd hg hM h19 hR _ hf K hK
        have r1 := hR.1.1
        refine v_M_both ⟨by omega, hS (dd - 1 - 1) m' _ (by omega) hg hM h19 hR (fun _ m2 F g M R => ?_) (fun q => absurd q (by decide))⟩
        have r2 := R.1.1
        exact hS3 (dd - 1) m2 K (by omega) g M (by rw [F.d19]; exact h19) R (fun q => absurd q (by decide)) (fun _ m4 F4 e12 hb => BADT p3 dd m' m4 P' K hdd (by omega) p3n.2 r1 (F.trans F4) e12 (by omega) hK (hf rfl))
    · subst eb
      have p1n := (AT_wd hPA.2.1).2.1
      refine h false m1 p1 hPA (fun q => absurd q (by decide)) ?_
      intro dd m' P' hdd hg hM h19 hR _ hf K hK
      have r1 := hR.1.1
      refine v_M_both ⟨by omega, hS (dd - 1 - 1) m' _ (by omega) hg hM h19 hR (fun q => absurd q (by decide)) (fun _ m2 F e12 hb => ?_)⟩
      have pp := hPA.2.2.2
      refine v_M_both_4 ⟨by omega, b_M_takesWord (by omega) (by omega) ⟨fun _ => BADT p1 dd m' m2 P' K hdd pp p1n.2 r1 F e12 (by omega) hK (hf rfl), fun q => absurd q (by decide)⟩⟩
theorem test_of {dep : Int} (hdep : 0 ≤ dep ∧ dep ≤ 6) (HF : FactS r n T dep) : TestS r n T dep := by
  intro d p mi P hd hA h5 h3 hs h
  have hp := (AT_wd hA).2.1
  refine v_G_readTest (test_loop hdep HF (n - p + 1).toNat d p 0 0 mi P (by omega) hd hA h5 h3 (by omega) (by omega) (fun _ => rfl) (fun q => by omega) (fun b m1 p1 hPA hPG hS => h b m1 p1 hPA (fun eb => ⟨(hPG eb).1, fun g q0 q1 => by have := (hPG eb).2 g q0 q1; rw [show g + 0 = g by omega] at this; exact this⟩) ?_))
  intro dd m' P' hdd hg hM h19 hR ht hf
  refine v_M_test ⟨by omega, hS dd m' P' hdd hg hM h19 hR ht hf _ (fun m2 _ x => ?_)⟩
  rw [if_pos (by omega)] at x
  exact x
theorem tests : ∀ k : Nat, k ≤ 6 → TestS r n T (6 - (k : Int)) := by
  intro k
  induction k with
  | zero => intro _; exact test_of (by omega) (fact_of (by omega) (fun q => by omega))
  | succ k ih =>
    intro hk
    refine test_of (by omega) (fact_of (by omega) (fun q => ?_))
    have := ih (by omega)
    rw [show 6 - ((k + 1 : Nat) : Int) + 1 = 6 - (k : Int) by omega]
    exact this
theorem test0 : TestS r n T 0 := by
  have := tests (r := r) (n := n) (T := T) 6 (by omega)
  exact this
end TEST2
