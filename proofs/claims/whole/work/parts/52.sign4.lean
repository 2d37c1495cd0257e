section SIGN4
variable {r : Nat → Int} {n T : Int}
theorem bad_sign {dd : Nat} {l : Int} {m : MT} {P' : Int → MT → Prop} (hd : 15 ≤ dd) (hg : m 134 12 ≠ -1) (h : P' (-6) (wt (wt m 134 11 (m 134 12)) 134 3 (-6))) : h_M_sign_42 dd l m P' :=
  v_M_sign_42 ⟨by omega, b_M_takesSign (by omega) hg ⟨fun _ => ⟨fun _ => ⟨fun q => absurd q hg, fun _ => h⟩, fun q => absurd q hg⟩, fun q => absurd q (by decide)⟩⟩
theorem ref_sign_end {dd : Nat} {l p : Int} {m : MT} {P' : Int → MT → Prop} (hd : 15 ≤ dd) (hl : 0 ≤ l ∧ l < 10) (hg : m 134 12 = -1) (hM : MAT m r n p) (hw : wd r n p ≠ 47) (h1 : p = n → h_M_sign_120 dd l 0 (wt (wt m 134 11 (-1)) 135 (16 + 17 * l).toNat (m 134 14)) P') (h0 : p < n → P' (-6) (wt (wt (wt m 134 12 p) 134 11 p) 134 3 (-6))) : h_M_sign_42 dd l m P' := by
  refine v_M_sign_42 ⟨by omega, s_M_takesSign (by omega) (by decide) hg hM (fun e => absurd e hw) (fun _ => ⟨fun _ => ⟨fun q => absurd hg q, fun _ => ?_⟩, fun q => absurd q (by decide)⟩)⟩
  obtain ⟨⟨hM8, hn, hR, h139⟩, hM9, hp, hM10, hsb⟩ := id hM
  rw [hM8, hM9]
  refine ⟨fun q => ⟨fun _ => ⟨by omega, by rw [hg]; exact h1 (by omega)⟩, fun q2 => absurd hg q2⟩, fun q => ?_⟩
  refine s_M_faults (by omega) hg ?_
  rw [hM9, wt_same]
  exact ⟨fun q2 => by omega, fun _ => h0 q⟩
def SimS (r : Nat → Int) (n p l2 : Int) (st : Nat → Int) (b : Bool) (p1 : Int) (m1 : MT) : Prop := ∀ (dd : Nat) (m' : MT) (P' : Int → MT → Prop) (l : Int), 16 ≤ dd → (0 ≤ l ∧ l < 10) → m' 134 12 = -1 → MAT m' r n p → m' 134 14 = l2 → (∀ k : Int, 0 ≤ k → k < l2 → RS1 (st k.toNat) (m' 141) (4 * k)) →
  (b = true → ∀ m2 : MT, FS m' m2 → m2 134 12 = -1 → m2 134 14 = m1 94 3 → (∀ k : Int, 0 ≤ k → k < m1 94 3 → RS1 (m1 95 k.toNat) (m2 141) (4 * k)) → h_M_sign_120 dd l 0 (wt (wt m2 134 11 (-1)) 135 (16 + 17 * l).toNat (m1 94 3)) P') →
  (b = false → ∀ m2 : MT, FS m' m2 → m2 134 12 = p1 → P' (-6) (wt (wt m2 134 11 p1) 134 3 (-6))) → c_M_state (dd - 1) m' (fun m3 => h_M_sign_42 dd l m3 P')
theorem AT_w3 {mi : MT} {p z : Int} (h : AT mi r n T p) : AT (wt mi 94 3 z) r n T p := by
  have e : (wt mi 94 3 z) 94 4 = mi 94 4 := wt_ne _ _ (by decide)
  unfold AT
  rw [e]
  exact h
theorem sim_sign : ∀ (c : Nat) (d : Nat) (l1 l2 p : Int) (mi : MT) (P : Bool → MT → Prop), 4 - l2 = c → 34 ≤ d → 0 ≤ l2 → mi 94 3 = l2 → AT mi r n T p → (∀ k : Int, 0 ≤ k → k < l2 → okSt (mi 95 k.toNat)) → (l2 = 0 → l1 = 0) → (0 < l2 → l1 = mi 95 (l2 - 1).toNat) →
    (∀ (b : Bool) (m1 : MT) (p1 : Int), CFS mi m1 → AT m1 r n T p1 → (b = true → (1 ≤ m1 94 3 ∧ m1 94 3 ≤ 4) ∧ ∀ k : Int, 0 ≤ k → k < m1 94 3 → okSt (m1 95 k.toNat)) → SimS r n p l2 (mi 95) b p1 m1 → P b m1) → h_G_readSign_8 d l1 l2 mi P := by
  intro c
  induction c with
  | zero =>
    intro d l1 l2 p mi P hc hd hl h3 hA hok hl0 hlp h
    have e : l2 = 4 := by omega
    refine v_G_readSign_8 ⟨fun _ => h false mi p (CFS.rfl' _) hA (fun q => absurd q (by decide)) ?_, fun q => by omega⟩
    intro dd m' P' l hdd hll hg hM h14 hst _ hf
    have p0 := (AT_wd hA).2.1
    refine ref_state4 (by omega) hg hM (by omega) (bad_sign (by omega) (by rw [wt_same]; omega) ?_)
    rw [wt_same]
    exact hf rfl _ (FS.w _ (by omega)) (wt_same _ _ _ _)
  | succ c ih =>
    intro d l1 l2 p mi P hc hd hl h3 hA hok hl0 hlp h
    obtain ⟨a1, a2, a3, a4, a5, a6⟩ := AT_wd hA
    have ok1 : okSt l1 := by
      by_cases q : l2 = 0
      · rw [hl0 q]; exact okSt_0
      · rw [hlp (by omega)]; exact hok _ (by omega) (by omega)
    have h44 := hA.2.1
    -- the reference's state
    have REF : ∀ {dd : Nat} {m' : MT} {P' : MT → Prop}, 14 ≤ dd → m' 134 12 = -1 → MAT m' r n p → m' 134 14 = l2 → (∀ k : Int, 0 ≤ k → k < l2 → RS1 (mi 95 k.toNat) (m' 141) (4 * k)) → (is5 r n p → ∀ m2 : MT, FS m' m2 → m2 134 12 = -1 → m2 134 14 = l2 + 1 → MAT m2 r n (nx r n p) → RS1 (wmk l1 0 (shF r p 5)) (m2 141) (4 * l2) → (∀ j : Nat, (j : Int) < 4 * l2 → m2 141 j = m' 141 j) → h_M_state_189 dd 1 (4 * l2) (shF r p 5) 1 m2 P') → (¬ is5 r n p → P' (wt m' 134 12 p)) → c_M_state dd m' P' := by
      intro dd m' P' hdd hg hM h14 hst g1 g0
      refine ref_state hdd hg hM h14 (by omega) ok1 hl0 (fun q => ?_) g1 g0
      rw [hlp q, show 4 * l2 - 4 = 4 * (l2 - 1) by omega]
      exact hst (l2 - 1) (by omega) (by omega)
    refine v_G_readSign_8 ⟨fun q => by omega, fun _ => ⟨by omega, ?_⟩⟩
    refine s_T_bends (by omega) hA (fun i5 => ⟨fun _ => ?_, fun q => ?_⟩) (fun i5 => ⟨fun q => absurd rfl q, fun _ => ?_⟩)
    · have s5 := shF_in i5 5 (by omega)
      have s5' : 0 ≤ shF r p 5 ∧ shF r p 5 < 243 := s5
      have m0 : mxv 0 = 243 := rfl
      obtain ⟨o1, o2, o3⟩ := wmk_ok ok1 (m := 0) (v := shF r p 5) (by omega) s5'
      have pn := i5.1
      have nxi := nx_in (r := r) pn
      have n400 := hA.1.1.1
      refine ⟨⟨by omega, ok1.1, by omega, by omega⟩, ?_⟩
      rw [h3]
      refine v_G_readMarks (sim_marks (r := r) (n := n) (T := T) (n - nx r n p).toNat (d - 1) 0 (nx r n p) (wmk l1 0 (shF r p 5)) _ _ (by omega) (by omega) (by omega) (AT_adv hA pn) (show 0 ≤ mi 94 3 ∧ mi 94 3 < 4 by omega) (by show (wt (wt mi 94 4 (mi 94 4 + 1)) 95 l2.toNat (wmk l1 0 (shF r p 5))) 95 (mi 94 3).toNat = _; rw [h3]; exact wt_same _ _ _ _) o1 (fun b m1 p1 x1 f1 f2 f3 f4 f5 f6 f7 f8 => ?_))
      have e3 : (wt (wt mi 94 4 (mi 94 4 + 1)) 95 l2.toNat (wmk l1 0 (shF r p 5))) 94 3 = l2 := h3
      rw [e3] at f2 f3 f5
      have F0 : CFS mi m1 := ((CFS.w _ (by decide)).trans (CFS.t _)).trans f1
      have same : ∀ k : Int, 0 ≤ k → k < l2 → m1 95 k.toNat = mi 95 k.toNat := by
        intro k k0 k1
        rw [f3 _ (by omega)]
        exact wt_ne _ _ (by omega)
      have p1n := (AT_wd f4).2.1
      refine ⟨fun eb => ?_, fun eb => ?_⟩
      · subst eb
        -- the state stands
        have okn : ∀ k : Int, 0 ≤ k → k < l2 + 1 → okSt (m1 95 k.toNat) := by
          intro k k0 k1
          by_cases q : k = l2
          · subst q; rw [f5]; exact f6
          · rw [same k k0 (by omega)]; exact hok k k0 (by omega)
        rw [f2]
        refine ⟨by omega, ?_⟩
        have A3 : AT (wt m1 94 3 (l2 + 1)) r n T p1 := AT_w3 f4
        have F3 : CFS mi (wt m1 94 3 (l2 + 1)) := F0.trans (CFS.w _ (by decide))
        have e33 : (wt m1 94 3 (l2 + 1)) 94 3 = l2 + 1 := wt_same _ _ _ _
        -- the reference at the same place
        have REF2 : ∀ {dd : Nat} {m' : MT} {P' : Int → MT → Prop} {l : Int}, 16 ≤ dd → (0 ≤ l ∧ l < 10) → m' 134 12 = -1 → MAT m' r n p → m' 134 14 = l2 → (∀ k : Int, 0 ≤ k → k < l2 → RS1 (mi 95 k.toNat) (m' 141) (4 * k)) → (∀ m2 : MT, FS m' m2 → m2 134 12 = -1 → m2 134 14 = l2 + 1 → MAT m2 r n p1 → (∀ k : Int, 0 ≤ k → k < l2 + 1 → RS1 (m1 95 k.toNat) (m2 141) (4 * k)) → h_M_sign_42 dd l m2 P') → c_M_state (dd - 1) m' (fun m3 => h_M_sign_42 dd l m3 P') := by
          intro dd m' P' l hdd hll hg hM h14 hst g
          refine REF (by omega) hg hM h14 hst (fun _ m2 G1 G2 G3 G4 G5 G6 => ?_) (fun q => absurd i5 q)
          refine f8 (dd - 1) m2 _ 1 (4 * l2) _ (by omega) G2 G4 (by omega) G5 (fun _ m3 K1 K2 K3 K4 K5 K6 => g m3 (G1.trans K1) K2 (by omega) K4 (fun k k0 k1 => ?_)) (fun q => absurd q (by decide))
          by_cases q : k = l2
          · subst q; rw [f5]; exact K5
          · rw [same k k0 (by omega)]
            intro j j0 j4
            rw [K6 _ (by omega), G6 _ (by omega)]
            exact hst k k0 (by omega) j j0 j4
        refine s_G_accepts (by decide) A3 (fun e pn1 hA4 => ⟨fun _ => ⟨by omega, ?_⟩, fun q => absurd q (by decide)⟩) (fun e => ⟨fun q => absurd q (by decide), fun _ => ?_⟩)
        · have e4 : (wt (wt m1 94 3 (l2 + 1)) 94 4 ((wt m1 94 3 (l2 + 1)) 94 4 + 1)) 94 3 = l2 + 1 := (wt_ne _ _ (by decide)).trans e33
          refine ih d _ (l2 + 1) (nx r n p1) _ P (by omega) hd (by omega) e4 hA4 okn (fun q => by omega) (fun _ => ?_) (fun b m5 p5 H1 H2 H3 H4 => h b m5 p5 (F3.trans ((CFS.w _ (by decide)).trans H1)) H2 H3 ?_)
          · show m1 95 l2.toNat = m1 95 (l2 + 1 - 1).toNat
            rw [show l2 + 1 - 1 = l2 by omega]
          · intro dd m' P' l hdd hll hg hM h14 hst ht hf
            refine REF2 hdd hll hg hM h14 hst (fun m2 K1 K2 K3 K4 K5 => ?_)
            refine v_M_sign_42 ⟨by omega, s_M_takesSign (by omega) (by decide) K2 K4 (fun _ _ u hu hM2 => ⟨fun q => absurd q (by decide), fun _ => ?_⟩) (fun q => absurd e q)⟩
            refine H4 dd (sv m2 134 u) P' l hdd hll (by show u 12 = -1; rw [hu 12 (by decide) (by decide)]; exact K2) hM2 (by show u 14 = _; rw [hu 14 (by decide) (by decide)]; exact K3) K5 (fun q m6 J1 => ht q m6 (K1.trans ((FS.u hu).trans J1))) (fun q m6 J1 => hf q m6 (K1.trans ((FS.u hu).trans J1)))
        · obtain ⟨b1, b2, b3, b4, b5, b6⟩ := AT_wd A3
          have h46 := A3.2.1
          rw [b1]
          refine ⟨by omega, fun w => ?_, fun w => ?_⟩
          · have pn1 : p1 < n := by
              have : p1 ≠ n := fun q => w ((wd_300 b6 b2.1 b2.2).mpr q)
              omega
            refine h false _ p1 F3 A3 (fun q => absurd q (by decide)) ?_
            intro dd m' P' l hdd hll hg hM h14 hst _ hf
            refine REF2 hdd hll hg hM h14 hst (fun m2 K1 K2 K3 K4 K5 => ref_sign_end (by omega) hll K2 K4 e (fun q => by omega) (fun _ => hf rfl _ (K1.trans (FS.w _ (by omega))) (wt_same _ _ _ _)))
          · have pn1 : p1 = n := (wd_300 b6 b2.1 b2.2).mp w
            refine h true _ p1 F3 A3 (fun _ => ⟨by rw [e33]; omega, by rw [e33]; exact okn⟩) ?_
            intro dd m' P' l hdd hll hg hM h14 hst ht _
            refine REF2 hdd hll hg hM h14 hst (fun m2 K1 K2 K3 K4 K5 => ref_sign_end (by omega) hll K2 K4 e (fun q => ?_) (fun q => by omega))
            rw [K3]
            have := ht rfl m2 K1 K2 (K3.trans e33.symm) (by rw [e33]; exact K5)
            rw [e33] at this
            exact this
      · subst eb
        refine h false m1 p1 F0 f4 (fun q => absurd q (by decide)) ?_
        intro dd m' P' l hdd hll hg hM h14 hst _ hf
        refine REF (by omega) hg hM h14 hst (fun _ m2 G1 G2 G3 G4 G5 G6 => ?_) (fun q => absurd i5 q)
        refine f8 (dd - 1) m2 _ 1 (4 * l2) _ (by omega) G2 G4 (by omega) G5 (fun q => absurd q (by decide)) (fun _ m3 K1 K2 => bad_sign (by omega) (by omega) ?_)
        rw [K2]
        exact hf rfl m3 (G1.trans K1) K2
    · have s5 := shF_in i5 5 (by omega)
      omega
    · refine h false mi p (CFS.rfl' _) hA (fun q => absurd q (by decide)) ?_
      intro dd m' P' l hdd hll hg hM h14 hst _ hf
      refine REF (by omega) hg hM h14 hst (fun q => absurd q i5) (fun _ => bad_sign (by omega) (by rw [wt_same]; omega) ?_)
      rw [wt_same]
      exact hf rfl _ (FS.w _ (by omega)) (wt_same _ _ _ _)
end SIGN4
