section FACT
variable {r : Nat → Int} {n T : Int}
def PostA (r : Nat → Int) (n T p : Int) (mi m1 : MT) (p1 : Int) : Prop := CFT mi m1 ∧ AT m1 r n T p1 ∧ (0 ≤ m1 94 5 ∧ m1 94 5 ≤ 40) ∧ p ≤ p1
def PostG (p e : Int) (mi m1 : MT) (p1 : Int) : Prop := (p < p1 ∧ mi 96 3 ≤ m1 96 3 ∧ m1 96 3 - mi 96 3 ≤ p1 - p + e) ∧ ∀ j : Nat, (j : Int) < mi 96 3 → m1 97 j = mi 97 j
/-- what the class found, the reference finds too -/
def SimX (C : Nat → MT → (MT → Prop) → Prop) (dm : Int) (r : Nat → Int) (n p dep e : Int) (mi : MT) (b : Bool) (p1 : Int) (m1 : MT) : Prop := ∀ (dd : Nat) (m' : MT) (P' : MT → Prop), dm ≤ dd → m' 134 12 = -1 → MAT m' r n p → m' 134 19 = dep → PRc mi m' →
  (b = true → ∀ m2 : MT, TF m' m2 → m2 134 12 = -1 → MAT m2 r n p1 → PRc m1 m2 → P' m2) →
  (b = false → ∀ m2 : MT, TF m' m2 → m2 134 12 = p1 → (0 ≤ m2 134 18 ∧ m2 134 18 - m' 134 18 ≤ p1 - p + 1 + e) → P' m2) → C dd m' P'
def FactS (r : Nat → Int) (n T dep : Int) : Prop := ∀ (d : Nat) (p : Int) (mi : MT) (P : Bool → MT → Prop), 44 - 4 * dep ≤ (d : Int) → AT mi r n T p → (0 ≤ mi 94 5 ∧ mi 94 5 ≤ 40) → 0 ≤ mi 96 3 → mi 96 3 + 2 ≤ p →
  (∀ (b : Bool) (m1 : MT) (p1 : Int), PostA r n T p mi m1 p1 → (b = true → PostG p 0 mi m1 p1 ∧ ∀ h : Int, 0 ≤ h → h ≤ 2 + 2 * dep → BL (m1 97) (mi 96 3) (m1 96 3) h (h + 1)) → SimX (fun dd m' P' => c_M_fact dd m' P') (44 - 4 * dep) r n p dep 0 mi b p1 m1 → P b m1) → c_G_readFact d dep mi P
def TestS (r : Nat → Int) (n T dep : Int) : Prop := ∀ (d : Nat) (p : Int) (mi : MT) (P : Bool → MT → Prop), 46 - 4 * dep ≤ (d : Int) → AT mi r n T p → (0 ≤ mi 94 5 ∧ mi 94 5 ≤ 40) → 0 ≤ mi 96 3 → mi 96 3 + 2 ≤ p →
  (∀ (b : Bool) (m1 : MT) (p1 : Int), PostA r n T p mi m1 p1 → (b = true → PostG p 0 mi m1 p1 ∧ ∀ h : Int, 0 ≤ h → h ≤ 2 * dep → BL (m1 97) (mi 96 3) (m1 96 3) h (h + 1)) → SimX (fun dd m' P' => c_M_test dd m' P') (46 - 4 * dep) r n p dep 0 mi b p1 m1 → P b m1) → c_G_readTest d dep mi P
/-- the end of a fact of the reference -/
def FE (l3 : Int) (P' : MT → Prop) (m2 : MT) : Prop := (0 ≤ l3 ∧ l3 < 2147483648) ∧ ((¬ l3 % 2 = 1 → P' m2) ∧ (l3 % 2 = 1 → (((0 ≤ m2 134 18 ∧ m2 134 18 < 400) ∧ (-2147483648 ≤ m2 134 18 + 1 ∧ m2 134 18 + 1 < 2147483648)) ∧ P' (wt (wt m2 151 (m2 134 18).toNat 100) 134 18 (m2 134 18 + 1)))))
theorem ref_fact_c {dd : Nat} {l3 p : Int} {m' : MT} {P' : MT → Prop} (hd : 14 ≤ dd) (hg : m' 134 12 = -1) (hM : MAT m' r n p) (w1 : wd r n p ≠ 307) (w2 : wd r n p ≠ 40) (h : c_M_comparison (dd - 1) m' (FE l3 P')) : h_M_fact_2 dd l3 m' P' := by
  refine v_M_fact_2 ⟨by omega, s_M_takesWord (by omega) iw_not hg hM (fun e => absurd e w1) (fun _ => ⟨fun _ => ⟨fun _ => ?_, fun q => absurd hg q⟩, fun q => absurd q (by decide)⟩)⟩
  obtain ⟨⟨hM8, hn, hR, h139⟩, hM9, hp, hM10, hsb⟩ := id hM
  rw [hM8, hM9]
  refine ⟨fun q => h, fun q => ⟨by omega, fun _ => h, fun q2 => ?_⟩⟩
  rw [h139 p hp.1 q] at q2
  exact absurd ((wd_c hR hp.1 hp.2 (by decide)).mpr ⟨q, q2⟩) w2
/-- the end of a fact in parentheses -/
def FP (dd : Nat) (l3 : Int) (P' : MT → Prop) (m9 : MT) : Prop := c_M_takesSign (dd - 1) 41 m9 (fun b10 m10 => (b10 = true → ((-2147483648 ≤ m10 134 19 - 1 ∧ m10 134 19 - 1 < 2147483648) ∧ FE l3 P' (wt m10 134 19 (m10 134 19 - 1)))) ∧ (b10 = false → (c_M_faults (dd - 1) m10 (fun m13 => (-2147483648 ≤ m13 134 19 - 1 ∧ m13 134 19 - 1 < 2147483648) ∧ FE l3 P' (wt m13 134 19 (m13 134 19 - 1))))))
theorem ref_fact_p {dd : Nat} {l3 p : Int} {m' : MT} {P' : MT → Prop} (hd : 14 ≤ dd) (hg : m' 134 12 = -1) (hM : MAT m' r n p) (w2 : wd r n p = 40) (hr : 0 ≤ m' 134 19 ∧ m' 134 19 ≤ 6) (h6 : m' 134 19 = 6 → P' (wt m' 134 12 p)) (h : m' 134 19 < 6 → ∀ u : Nat → Int, (∀ j : Nat, j ≠ 9 → j ≠ 10 → j ≠ 19 → u j = m' 134 j) → u 19 = m' 134 19 + 1 → MAT (sv m' 134 u) r n (nx r n p) → c_M_test (dd - 1) (sv m' 134 u) (FP dd l3 P')) : h_M_fact_2 dd l3 m' P' := by
  refine v_M_fact_2 ⟨by omega, s_M_takesWord (by omega) iw_not hg hM (fun e => by omega) (fun _ => ⟨fun _ => ⟨fun _ => ?_, fun q => absurd hg q⟩, fun q => absurd q (by decide)⟩)⟩
  obtain ⟨⟨hM8, hn, hR, h139⟩, hM9, hp, hM10, hsb⟩ := id hM
  obtain ⟨pn, r40⟩ := (wd_c hR hp.1 hp.2 (by decide)).mp w2
  rw [if_pos pn] at hM10
  rw [hM8, hM9]
  refine ⟨fun q => by omega, fun q => ⟨by omega, fun q2 => absurd ((h139 p hp.1 q).trans r40) q2, fun _ => ⟨fun q3 => ⟨by omega, ?_⟩, fun q3 => s_M_faults (by omega) hg (by rw [hM9]; exact h6 q3)⟩⟩⟩
  refine s_M_next (r := r) (n := n) (q := te r n p) (by omega) ⟨(wt_ne _ _ (by decide)).trans hM8, hn, hR, h139⟩ ((wt_ne _ _ (by decide)).trans hM10) (BD_te hp.1 pn) (fun u hu hM2 => ?_)
  rw [wt_s, svv] at hM2 ⊢
  refine h (by omega) u (fun j a b c => by rw [hu j a b, wt_ne _ _ c]) (by rw [hu 19 (by decide) (by decide), wt_same]) hM2
theorem fact_loop {dep : Int} (hdep : 0 ≤ dep ∧ dep ≤ 6) (HT : dep < 6 → TestS r n T (dep + 1)) : ∀ (k : Nat) (d : Nat) (p l2 l3 : Int) (mi : MT) (P : Bool → MT → Prop), n - p < k → 44 - 4 * dep ≤ (d : Int) → AT mi r n T p → (0 ≤ mi 94 5 ∧ mi 94 5 ≤ 40) → 0 ≤ mi 96 3 → mi 96 3 + l3 + 2 ≤ p → 0 ≤ l3 → l2 = l3 % 2 →
    (∀ (b : Bool) (m1 : MT) (p1 : Int), PostA r n T p mi m1 p1 → (b = true → PostG p l3 mi m1 p1 ∧ ∀ h : Int, 0 ≤ h → h ≤ 2 + 2 * dep → BL (m1 97) (mi 96 3) (m1 96 3) h (h + 1)) → SimX (fun dd m' P' => h_M_fact_2 dd l3 m' P') (44 - 4 * dep) r n p dep l3 mi b p1 m1 → P b m1) → h_G_readFact_4 d dep l2 l3 mi P := by
  intro k
  induction k with
  | zero =>
    intro d p l2 l3 mi P hk hd hA
    have := (AT_wd hA).2.1
    omega
  | succ k ih =>
    intro d p l2 l3 mi P hk hd hA h5 h3 hs hl hl2 h
    obtain ⟨a1, a2, a3, a4, a5, a6⟩ := AT_wd hA
    have n400 := hA.1.1.1
    have h44 := hA.2.1
    -- the end, once the fact stands
    have TAIL : ∀ (m1 : MT) (p1 : Int), PostA r n T p mi m1 p1 → PostG p 0 mi m1 p1 → (∀ h : Int, 0 ≤ h → h ≤ 2 + 2 * dep → BL (m1 97) (mi 96 3) (m1 96 3) h (h + 1)) →
        (∀ (dd : Nat) (m' : MT) (P' : MT → Prop), 44 - 4 * dep ≤ (dd : Int) → m' 134 12 = -1 → MAT m' r n p → m' 134 19 = dep → PRc mi m' → (∀ m2 : MT, TF m' m2 → m2 134 12 = -1 → MAT m2 r n p1 → PRc m1 m2 → FE l3 P' m2) → h_M_fact_2 dd l3 m' P') →
        (l2 = 0 → P true m1) ∧ (¬ l2 = 0 → c_U_addCode (d - 1) 3 0 0 m1 (fun m3 => P true m3)) := by
      intro m1 p1 hPA hPG hB S
      have q1 := hPG.1
      have q2 := (AT_wd hPA.2.1).2.1
      refine ⟨fun z => h true m1 p1 hPA (fun _ => ⟨⟨⟨q1.1, q1.2.1, by omega⟩, hPG.2⟩, hB⟩) ?_, fun z => ?_⟩
      · intro dd m' P' hdd hg hM h19 hR ht _
        exact S dd m' P' hdd hg hM h19 hR (fun m2 F g M R => ⟨by omega, fun _ => ht rfl m2 F g M R, fun q => by omega⟩)
      · refine s_U_addCode (by omega) (by omega) (by omega) (by omega) ?_
        have e63 : (wt (wt m1 97 (m1 96 3).toNat (3 * 1048576 + 0 * 1024 + 0)) 96 3 (m1 96 3 + 1)) 96 3 = m1 96 3 + 1 := wt_same _ _ _ _
        refine h true _ p1 ⟨hPA.1.trans ((CFT.w7 _).trans (CFT.w6 _)), AT_cg hPA.2.1 rfl rfl rfl rfl rfl, hPA.2.2.1, hPA.2.2.2⟩ (fun _ => ⟨⟨⟨q1.1, by rw [e63]; omega, by rw [e63]; omega⟩, fun j hj => ?_⟩, fun g g0 g1 => ?_⟩) ?_
        · show sv (m1 97) (m1 96 3).toNat _ j = _
          rw [svn _ _ (by omega)]; exact hPG.2 j hj
        · rw [e63]
          refine BL.tr (j := m1 96 3) (h1 := g + 1) ((hB g g0 g1).cg (fun x x1 x2 => ?_)) (BL.one (Or.inr (Or.inl ⟨?_, by omega, rfl⟩)))
          · show sv (m1 97) (m1 96 3).toNat _ x.toNat = _
            exact svn _ _ (by omega)
          · show sv (m1 97) (m1 96 3).toNat (3 * 1048576 + 0 * 1024 + 0) (m1 96 3).toNat / 1048576 = 3
            rw [sv_eq]; decide
        · intro dd m' P' hdd hg hM h19 hR ht _
          refine S dd m' P' hdd hg hM h19 hR (fun m2 F g M R => ⟨by omega, fun q => by omega, fun _ => ?_⟩)
          have R1 := R.1.1
          refine ⟨by omega, ht rfl _ (F.trans ((TF.row _ (by omega)).trans (TF.w _ (by omega)))) ?_ (MAT_cg M rfl (wt_ne _ _ (by decide)) (wt_ne _ _ (by decide)) (wt_ne _ _ (by decide))) (PRc_emit R (by omega) (Or.inl ⟨rfl, rfl⟩))⟩
          rw [wt_ne _ _ (by decide)]; exact g
    -- the end, once a fault stands
    have FEB : ∀ (p1 : Int) (m' m2 : MT) (P' : MT → Prop), p ≤ p1 → p1 ≤ n → m' 134 18 = mi 96 3 → TF m' m2 → m2 134 12 = p1 → (0 ≤ m2 134 18 ∧ m2 134 18 - m' 134 18 ≤ p1 - p + 1) → (∀ m3 : MT, TF m' m3 → m3 134 12 = p1 → (0 ≤ m3 134 18 ∧ m3 134 18 - m' 134 18 ≤ p1 - p + 1 + l3) → P' m3) → FE l3 P' m2 := by
      intro p1 m' m2 P' hp1 hpn e18 F e12 hb hP
      refine ⟨by omega, fun _ => hP m2 F e12 (by omega), fun q => ⟨by omega, hP _ (F.trans ((TF.row _ (by omega)).trans (TF.w _ (by omega)))) ?_ ?_⟩⟩
      · rw [wt_ne _ _ (by decide)]; exact e12
      · rw [wt_same]; omega
    refine v_G_readFact_4 ⟨fun q => by omega, fun _ => ⟨by omega, ?_⟩⟩
    refine s_G_accepts (by decide) hA (fun e pn hA1 => ⟨fun q => absurd q (by decide), fun _ => ?_⟩) (fun e => ⟨fun _ => ?_, fun q => absurd q (by decide)⟩)
    · -- not
      have nxi := nx_in (r := r) pn
      have NOT : ∀ l2' : Int, l2' = (l3 + 1) % 2 → h_G_readFact_4 d dep l2' (l3 + 1) (wt mi 94 4 (mi 94 4 + 1)) P := by
        intro l2' hl2'
        have e5 : (wt mi 94 4 (mi 94 4 + 1)) 94 5 = mi 94 5 := wt_ne _ _ (by decide)
        refine ih d (nx r n p) l2' (l3 + 1) _ P (by omega) hd hA1 (by rw [e5]; exact h5) h3 (show mi 96 3 + (l3 + 1) + 2 ≤ _ by omega) (by omega) hl2' (fun b m1 p1 hPA hPG hS => ?_)
        refine h b m1 p1 ⟨(CFT.w4 _ (by omega)).trans hPA.1, hPA.2.1, hPA.2.2.1, by have := hPA.2.2.2; omega⟩ (fun eb => ?_) ?_
        · obtain ⟨⟨⟨g1, g2, g3⟩, g4⟩, g5⟩ := hPG eb
          have g3' : m1 96 3 - mi 96 3 ≤ p1 - nx r n p + (l3 + 1) := g3
          exact ⟨⟨⟨by omega, g2, by omega⟩, g4⟩, g5⟩
        · intro dd m' P' hdd hg hM h19 hR ht hf
          refine v_M_fact_2 ⟨by omega, s_M_takesWord (by omega) iw_not hg hM (fun _ _ u hu hM2 => ⟨fun q => absurd q (by decide), fun _ => ⟨by omega, ?_⟩⟩) (fun q => absurd e q)⟩
          have F : TF m' (sv m' 134 u) := TF.u (fun j a b _ _ _ => hu j a b)
          refine hS dd (sv m' 134 u) P' hdd (by show u 12 = -1; rw [hu 12 (by decide) (by decide)]; exact hg) hM2 (by show u 19 = dep; rw [hu 19 (by decide) (by decide)]; exact h19) (PRc_cg hR rfl e5 rfl (hu 18 (by decide) (by decide)) (hu 16 (by decide) (by decide)) (fun k k1 k2 => sv_ne _ _ (by omega))) (fun eb m2 F2 => ht eb m2 (F.trans F2)) (fun eb m2 F2 e12 hb => hf eb m2 (F.trans F2) e12 ?_)
          have : (sv m' 134 u) 134 18 = m' 134 18 := hu 18 (by decide) (by decide)
          rw [this] at hb
          omega
      exact ⟨fun q => ⟨by omega, NOT 0 (by omega)⟩, fun q => ⟨by omega, NOT 1 (by omega)⟩⟩
    · rw [a1]
      refine ⟨by omega, fun w40 => ⟨fun q6 => ⟨by omega, ?_⟩, fun q6 => ?_⟩, fun w40 => ?_⟩
      · -- parentheses
        have pn : p < n := wd_lt (r := r) a2.2 w40 (by decide)
        have nxi := nx_in (r := r) pn
        have e5 : (wt mi 94 4 (mi 94 4 + 1)) 94 5 = mi 94 5 := wt_ne _ _ (by decide)
        refine HT q6 (d - 1) (nx r n p) _ _ (by omega) (AT_adv hA pn) (by rw [e5]; exact h5) h3 (show mi 96 3 + 2 ≤ _ by omega) (fun b m1 p1 hPA hPG hS => ?_)
        have p1n := (AT_wd hPA.2.1).2.1
        have CF : CFT mi m1 := (CFT.w4 _ (by omega)).trans hPA.1
        have nxp := hPA.2.2.2
        -- the reference, up to the test
        have REF : ∀ (dd : Nat) (m' : MT) (P' : MT → Prop), 44 - 4 * dep ≤ (dd : Int) → m' 134 12 = -1 → MAT m' r n p → m' 134 19 = dep → PRc mi m' → (b = true → ∀ m2 : MT, TF m' (wt m2 134 19 dep) → m2 134 12 = -1 → m2 134 19 = dep + 1 → MAT m2 r n p1 → PRc m1 m2 → FP dd l3 P' m2) → (b = false → ∀ m2 : MT, TF m' (wt m2 134 19 dep) → m2 134 12 = p1 → m2 134 19 = dep + 1 → (0 ≤ m2 134 18 ∧ m2 134 18 - m' 134 18 ≤ p1 - p) → FP dd l3 P' m2) → h_M_fact_2 dd l3 m' P' := by
          intro dd m' P' hdd hg hM h19 hR ht hf
          refine ref_fact_p (by omega) hg hM w40 (by omega) (fun q => by omega) (fun _ u hu u19 hM2 => ?_)
          have FX : ∀ m2 : MT, TF (sv m' 134 u) m2 → TF m' (wt m2 134 19 dep) ∧ m2 134 19 = dep + 1 := by
            intro m2 F
            refine ⟨⟨fun k k1 k2 => ?_, fun j b1 b2 b3 b4 b5 b6 b7 => ?_⟩, ?_⟩
            · rw [wt_row _ _ k1, F.1 k k1 k2, sv_ne _ _ k1]
            · by_cases c : j = 19
              · rw [c, wt_same, h19]
              · rw [wt_ne _ _ c, F.2 j b1 b2 b3 b4 b5 b6 b7]
                exact hu j b1 b2 c
            · rw [F.d19]; show u 19 = _; omega
          have u18 : (sv m' 134 u) 134 18 = m' 134 18 := hu 18 (by decide) (by decide) (by decide)
          refine hS (dd - 1) (sv m' 134 u) _ (by omega) (by show u 12 = -1; rw [hu 12 (by decide) (by decide) (by decide)]; exact hg) hM2 (by show u 19 = _; omega) (PRc_cg hR rfl e5 rfl u18 (hu 16 (by decide) (by decide) (by decide)) (fun k k1 k2 => sv_ne _ _ (by omega))) (fun eb m2 F g M R => ht eb m2 (FX m2 F).1 g (FX m2 F).2 M R) (fun eb m2 F g hb => hf eb m2 (FX m2 F).1 g (FX m2 F).2 ?_)
          rw [u18] at hb
          omega
        refine ⟨fun eb => ?_, fun eb => ?_⟩
        · -- the test failed
          subst eb
          refine h false m1 p1 ⟨CF, hPA.2.1, hPA.2.2.1, by omega⟩ (fun q => absurd q (by decide)) ?_
          intro dd m' P' hdd hg hM h19 hR _ hf
          refine REF dd m' P' hdd hg hM h19 hR (fun q => absurd q (by decide)) (fun _ m2 F e12 e19 hb => ?_)
          refine b_M_takesSign (by omega) (by omega) ⟨fun q => absurd q (by decide), fun _ => b_M_faults (by omega) (by omega) ⟨by omega, ?_⟩⟩
          rw [e19, show dep + 1 - 1 = dep by omega]
          refine FEB p1 m' _ P' (by omega) p1n.2 hR.1.1 F ?_ ?_ (hf rfl)
          · rw [wt_ne _ _ (by decide)]; exact e12
          · rw [wt_ne _ _ (by decide)]; omega
        · subst eb
          obtain ⟨⟨⟨g1, g2, g3⟩, g4⟩, g5⟩ := hPG rfl
          have g3' : m1 96 3 - mi 96 3 ≤ p1 - nx r n p + 0 := g3
          have g2' : mi 96 3 ≤ m1 96 3 := g2
          refine s_G_accepts (by decide) hPA.2.1 (fun e2 pn2 hA2 => ⟨fun _ => ?_, fun q => absurd q (by decide)⟩) (fun e2 => ⟨fun q => absurd q (by decide), fun _ => ?_⟩)
          · have nx2 := nx_in (r := r) pn2
            have e5' : (wt m1 94 4 (m1 94 4 + 1)) 94 5 = m1 94 5 := wt_ne _ _ (by decide)
            refine TAIL _ (nx r n p1) ⟨CF.trans (CFT.w4 _ (by omega)), hA2, by rw [e5']; exact hPA.2.2.1, by omega⟩ ⟨⟨by omega, g2, show m1 96 3 - mi 96 3 ≤ _ by omega⟩, g4⟩ (fun g a b => g5 g a (by omega)) ?_
            intro dd m' P' hdd hg hM h19 hR ht
            refine REF dd m' P' hdd hg hM h19 hR (fun _ m2 F e12 e19 M R => ?_) (fun q => absurd q (by decide))
            refine s_M_takesSign (by omega) (by decide) e12 M (fun _ _ u hu M2 => ⟨fun _ => ?_, fun q => absurd q (by decide)⟩) (fun q => absurd e2 q)
            have u19 : (sv m2 134 u) 134 19 = dep + 1 := (hu 19 (by decide) (by decide)).trans e19
            rw [u19, show dep + 1 - 1 = dep by omega]
            refine ⟨by omega, ht _ ⟨fun k k1 k2 => ?_, fun j b1 b2 b3 b4 b5 b6 b7 => ?_⟩ ?_ (MAT_cg M2 rfl (wt_ne _ _ (by decide)) (wt_ne _ _ (by decide)) (wt_ne _ _ (by decide))) (PRc_cg R rfl e5' rfl ((wt_ne _ _ (by decide)).trans (hu 18 (by decide) (by decide))) ((wt_ne _ _ (by decide)).trans (hu 16 (by decide) (by decide))) (fun k k1 k2 => by rw [wt_row _ _ (by omega), sv_ne _ _ (by omega)]))⟩
            · rw [wt_row _ _ k1, sv_ne _ _ k1, ← F.1 k k1 k2, wt_row _ _ k1]
            · by_cases c : j = 19
              · rw [c, wt_same, h19]
              · rw [wt_ne _ _ c]
                show u j = _
                rw [hu j b1 b2, ← F.2 j b1 b2 b3 b4 b5 b6 b7, wt_ne _ _ c]
            · rw [wt_ne _ _ (by decide)]; show u 12 = -1; rw [hu 12 (by decide) (by decide)]; exact e12
          · refine h false m1 p1 ⟨CF, hPA.2.1, hPA.2.2.1, by omega⟩ (fun q => absurd q (by decide)) ?_
            intro dd m' P' hdd hg hM h19 hR _ hf
            refine REF dd m' P' hdd hg hM h19 hR (fun _ m2 F e12 e19 M R => ?_) (fun q => absurd q (by decide))
            refine s_M_takesSign (by omega) (by decide) e12 M (fun q => absurd q e2) (fun _ => ⟨fun q => absurd q (by decide), fun _ => s_M_faults (by omega) e12 ?_⟩)
            have u19 : (wt m2 134 12 (m2 134 9)) 134 19 = dep + 1 := (wt_ne _ _ (by decide)).trans e19
            have R1 := R.1.1
            rw [u19, show dep + 1 - 1 = dep by omega]
            refine ⟨by omega, FEB p1 m' _ P' (by omega) p1n.2 hR.1.1 ⟨fun k k1 k2 => ?_, fun j b1 b2 b3 b4 b5 b6 b7 => ?_⟩ ?_ ?_ (hf rfl)⟩
            · rw [wt_row _ _ k1, wt_row _ _ k1, ← F.1 k k1 k2, wt_row _ _ k1]
            · by_cases c : j = 19
              · rw [c, wt_same, h19]
              · rw [wt_ne _ _ c, wt_ne _ _ b3, ← F.2 j b1 b2 b3 b4 b5 b6 b7, wt_ne _ _ c]
            · rw [wt_ne _ _ (by decide), wt_same]; exact M.2.1
            · rw [wt_ne _ _ (by decide), wt_ne _ _ (by decide)]
              have := hR.1.1
              omega
      · -- too deep
        refine h false mi p ⟨CFT.rfl' _, hA, h5, Int.le_refl _⟩ (fun q => absurd q (by decide)) ?_
        intro dd m' P' hdd hg hM h19 hR _ hf
        have := hR.1.1
        refine ref_fact_p (by omega) hg hM w40 (by omega) (fun q => hf rfl _ (TF.w _ (by omega)) (wt_same _ _ _ _) (by rw [wt_ne _ _ (by decide)]; omega)) (fun q => by omega)
      · -- a comparison
        refine s_G_readComparison (by omega) hA h5 (by omega) (fun op a b p' m1 q5 hC CF A1 e5 e63 e97 => ⟨fun _ => ?_, fun q => absurd q (by decide)⟩) (fun p' m1 hC CF A1 f5 => ⟨fun q => absurd q (by decide), fun _ => ?_⟩)
        · have ci := CMP_in a6 a2 hC
          refine TAIL m1 p' ⟨CF, A1, by omega, by omega⟩ ⟨⟨by omega, by omega, by omega⟩, fun j hj => by rw [e97, svn _ _ (by omega)]⟩ (fun g g0 g1 => ?_) ?_
          · rw [e63, e97]
            refine BL.one (Or.inl ⟨?_, by omega, rfl⟩)
            rw [sv_eq]; omega
          · intro dd m' P' hdd hg hM h19 hR ht
            refine ref_fact_c (by omega) hg hM e w40 ?_
            refine s_M_comparison (f := mi 94 5) (s := mi 96 3) (by omega) hg hM hC hR.1.2 (by omega) hR.1.1 (by omega) (fun m2 F g M e16 e18 _ e151 va vb eo rows => ht m2 F g M ⟨⟨by omega, by omega⟩, fun i i0 i1 => ?_⟩)
            rw [e97, e151]
            rw [e63] at i1
            by_cases c : i = mi 96 3
            · subst c
              rw [sv_eq, sv_eq]
              exact Or.inr (Or.inr (Or.inr ⟨by omega, a, b, va, vb, by omega, by rw [eo]⟩))
            · rw [svn _ _ (by omega), svn _ _ (by omega)]
              have r2 := hR.1.2
              exact cRel_cg (hR.2 i i0 (by omega)) (by omega) (fun k k1 k2 j hj => rows k k1 k2 j (by omega))
        · have ci : p ≤ p' := by
            rcases hC with hC | hC
            · omega
            · exact (CMPF_in a6 a2 hC.2).1
          have A1w := (AT_wd A1).2.1
          refine h false m1 p' ⟨CF, A1, f5, ci⟩ (fun q => absurd q (by decide)) ?_
          intro dd m' P' hdd hg hM h19 hR _ hf
          have r1 := hR.1.1
          refine ref_fact_c (by omega) hg hM e w40 ?_
          exact s_M_comparisonF (f := mi 94 5) (s := mi 96 3) (by omega) hg hM hC hR.1.2 h5 hR.1.1 (by omega) (fun m2 F e12 e18 => FEB p' m' m2 P' ci A1w.2 hR.1.1 F e12 (by omega) (hf rfl))
end FACT
