section CASIGN
variable {d : Nat} {mi : MT}
def GS (m m2 : MT) : Prop := (∀ k : Nat, k ≠ 134 → k ≠ 139 → k ≠ 141 → m2 k = m k) ∧ m2 134 7 = 0 ∧ ∀ j : Nat, j ≠ 7 → j ≠ 8 → j ≠ 9 → j ≠ 10 → j ≠ 12 → j ≠ 14 → m2 134 j = m 134 j
theorem ref_sign {mc m1 : MT} {b : Bool} {p1 : Int} {st : Nat → Int} {Q : Int → MT → Prop} (hd : 60 ≤ d) (h7 : 0 ≤ mc 134 7 ∧ mc 134 7 ≤ 400) (hr : RB8 (mc 138) (mc 134 7)) (h10 : 0 ≤ mc 135 0 ∧ mc 135 0 < 10) (S : SimS (mc 138) (mc 134 7) (fs (mc 138) (mc 134 7) 0) 0 st b p1 m1)
    (ht : b = true → ∀ m2 : MT, GS mc m2 → m2 134 14 = m1 94 3 → (∀ k : Int, 0 ≤ k → k < m1 94 3 → RS1 (m1 95 k.toNat) (m2 141) (4 * k)) → h_M_sign_120 d (mc 135 0) 0 (wt (wt m2 134 11 (-1)) 135 (16 + 17 * mc 135 0).toNat (m1 94 3)) Q)
    (hf : b = false → ∀ m2 : MT, GS mc m2 → Q (-6) (wt (wt m2 134 11 p1) 134 3 (-6))) : c_M_sign d mc Q := by
  refine v_M_sign ⟨fun _ => ⟨by omega, ?_⟩, fun q => by omega⟩
  refine s_M_begins h7 hr (fun _ _ _ => rfl) (fun t u hu u7 u12 u10 hM => ?_)
  refine s_M_next (r := mc 138) (n := mc 134 7) (q := 0) (by omega) hM (by show u 10 = 0; exact u10) ⟨by omega, fun _ q => by omega⟩ (fun v hv hM2 => ?_)
  have G : ∀ m2 : MT, FS (sv (wt (sv (sv mc 139 t) 134 u) 134 14 0) 134 v) m2 → GS mc m2 := by
    intro m2 F
    have e : ∀ j : Nat, j ≠ 9 → j ≠ 10 → j ≠ 12 → j ≠ 14 → m2 134 j = u j := by
      intro j j1 j2 j3 j4
      rw [F.2 j j1 j2 j3 j4]
      show v j = u j
      rw [hv j j1 j2]
      exact wt_ne _ _ j4
    refine ⟨fun k k1 k2 k3 => ?_, ?_, fun j j1 j2 j3 j4 j5 j6 => ?_⟩
    · rw [F.1 k k1 k3, sv_ne _ _ k1, wt_row _ _ k1, sv_ne _ _ k1, sv_ne _ _ k2]
    · rw [e 7 (by decide) (by decide) (by decide) (by decide)]; exact u7
    · rw [e j j3 j4 j5 j6]; exact hu j j1 j2 j4 j5
  have v12 : v 12 = -1 := by rw [hv 12 (by decide) (by decide)]; exact u12
  have v14 : v 14 = 0 := by rw [hv 14 (by decide) (by decide)]; exact wt_same _ _ _ _
  exact S d _ Q (mc 135 0) (by omega) h10 v12 hM2 v14 (fun k k0 k1 => by omega) (fun eb m2 F _ e14 R => ht eb m2 (G m2 F) e14 R) (fun eb m2 F e12 => hf eb m2 (G m2 F))
theorem Base_sign {mf : MT} (hI : Base mi) (hrow : ∀ k : Nat, 5 ≤ k → k ≤ 28 → mf k = mi k) (hst : mf 0 13 = mf 134 3 ∧ mf 0 12 = mf 134 11) (htp : mf 90 3 = 0 ∧ mf 134 7 = 0) (hn : P_num (mf 2) (mf 135)) (hsg : P_sgn (mf 3) (mf 4) (mf 135)) (hc : ∀ j : Nat, (1 ≤ j ∧ j < 16) ∨ 186 ≤ j → mf 135 j = mi 135 j) : Base mf := by
  obtain ⟨hs, ht, h1, h2, h3, h4, h5, h6, h7, h8, h9, h10⟩ := id hI
  unfold Base Hs
  simp (disch := decide) only [hrow]
  refine ⟨hst, P_tape_0 htp.1 htp.2, hn, hsg, P_xy_g h3 (fun j a b => hc j (by omega)), P_w_g h4 (fun j a b => hc j (by omega)), P_tr_g h5 (fun j a b => hc j (by omega)), P_si_g h6 (hc 1 (by decide)) (fun j a b => hc j (by omega)), P_va_g h7 (fun j a b => hc j (by omega)), P_us_g h8 (fun j a b => hc j (by omega)), P_ud_g h9 (hc 2 (by decide)) (fun j a b => hc j (by omega)), P_pr_g h10 (fun j a b => hc j (by omega))⟩
def sgr : List Nat := [0, 2, 3, 4, 90, 92, 93, 94, 95, 96, 134, 135, 139, 141]
theorem Kp_sign {mf : MT} (h : ∀ k : Nat, k ∉ sgr → mf k = mi k) (hc : ∀ j : Nat, (1 ≤ j ∧ j < 16) ∨ 186 ≤ j → mf 135 j = mi 135 j) (h0 : mf 0 11 = mi 0 11) (h4 : ∀ j : Nat, j = 15 ∨ (50 ≤ j ∧ j ≤ 52) → mf 134 j = mi 134 j) : Kp mi mf := by
  refine ⟨fun k hk => h k (fun w => ?_), fun j hj => hc j (by omega), h0, h4⟩
  have : ∀ x ∈ sgr, kpr x = false := by decide
  rw [this k w] at hk
  cases hk
theorem ca_sign (hI : Base mi) (hd : 80 ≤ d) : c_C_sign d mi (fun z m1 => c_M_sign d m1 (fun z' m2 => Bth z z' mi m2)) := by
  obtain ⟨hs, ht, h1, h2, h3, h4, h5, h6, h7, h8, h9, h10⟩ := id hI
  have hb8 : mi 2 8 = mi 135 0 := h1.1
  have hb9 : 0 ≤ mi 135 0 ∧ mi 135 0 ≤ 10 := h1.2.1
  have h7 : mi 134 7 = mi 90 3 := ht.2.1
  have n400 : 0 ≤ mi 90 3 ∧ mi 90 3 ≤ 400 := ht.1
  have hT : TXT (mi 91) (mi 138) (mi 90 3) := ⟨n400, ht.2.2⟩
  refine v_C_sign ⟨fun q => ⟨by omega, ?_⟩, fun q => ⟨by omega, ?_⟩⟩
  · refine v_G_readSign ⟨by omega, v_G_open ⟨by omega, s_T_split (r := mi 138) (n := mi 90 3) (by omega) hT rfl (fun T s w hK => ?_)⟩⟩
    refine sim_sign (r := mi 138) (n := mi 90 3) (T := T) 4 (d - 1) 0 0 (fs (mi 138) (mi 90 3) 0) _ _ rfl (by omega) (by omega) rfl ⟨⟨hT, rfl, hK⟩, ⟨Int.le_refl _, hK.1.1⟩, hK.2.1⟩ (fun k k0 k1 => by omega) (fun _ => rfl) (fun q => by omega) (fun b m1 p1 F A hb S => ?_)
    have a4 := A.2.1
    have T400 := hK.1
    have R1 : ∀ k : Nat, k ∉ sgr → m1 k = mi k := by
      intro k hk
      simp only [sgr, List.mem_cons, List.not_mem_nil, or_false, not_or] at hk
      rw [F.1 k (by omega) (by omega)]
      rw [wt_row _ _ (by omega), wt_row _ _ (by omega), wt_row _ _ (by omega), wt_row _ _ (by omega), wt_row _ _ (by omega), wt_row _ _ (by omega), sv_ne _ _ (by omega), sv_ne _ _ (by omega)]
    have E : ∀ k : Nat, k = 0 ∨ k = 2 ∨ k = 3 ∨ k = 4 ∨ k = 134 ∨ k = 135 ∨ k = 138 → m1 k = mi k := by
      intro k hk
      rw [F.1 k (by omega) (by omega)]
      rw [wt_row _ _ (by omega), wt_row _ _ (by omega), wt_row _ _ (by omega), wt_row _ _ (by omega), wt_row _ _ (by omega), wt_row _ _ (by omega), sv_ne _ _ (by omega), sv_ne _ _ (by omega)]
    have e0 := E 0 (by omega)
    have e2 := E 2 (by omega)
    have e3 := E 3 (by omega)
    have e4 := E 4 (by omega)
    have e134 := E 134 (by omega)
    have e135 := E 135 (by omega)
    have e138 := E 138 (by omega)
    have rb := TXT_rb hT
    cases b with
    | false =>
      refine v_C_closeText ⟨fun _ => ⟨by omega, ⟨fun _ => ⟨by omega, ?_⟩, fun q => absurd q (by decide)⟩⟩, fun q => absurd rfl q⟩
      rw [A.2.2]
      refine ref_sign (mc := wt (wt (wt m1 0 12 p1) 90 3 0) 0 13 (min (-6) 0)) (b := false) (p1 := p1) (m1 := m1) (by omega) (by show 0 ≤ m1 134 7 ∧ m1 134 7 ≤ 400; rw [e134]; omega) (by show RB8 (m1 138) (m1 134 7); rw [e138, e134, h7]; exact rb) (by show 0 ≤ m1 135 0 ∧ m1 135 0 < 10; rw [e135]; omega) (by show SimS (m1 138) (m1 134 7) (fs (m1 138) (m1 134 7) 0) 0 _ false p1 m1; rw [e138, e134, h7]; exact S) (fun q => absurd q (by decide)) (fun _ m2 G => ?_)
      have g0 : m2 0 = (wt (wt (wt m1 0 12 p1) 90 3 0) 0 13 (min (-6) 0)) 0 := G.1 0 (by decide) (by decide) (by decide)
      have r135 : m2 135 = mi 135 := (G.1 135 (by decide) (by decide) (by decide)).trans e135
      have r2 : m2 2 = mi 2 := (G.1 2 (by decide) (by decide) (by decide)).trans e2
      have r3 : m2 3 = mi 3 := (G.1 3 (by decide) (by decide) (by decide)).trans e3
      have r4 : m2 4 = mi 4 := (G.1 4 (by decide) (by decide) (by decide)).trans e4
      have rows : ∀ k : Nat, k ∉ sgr → (wt (wt m2 134 11 p1) 134 3 (-6)) k = mi k := by
        intro k hk
        have hk' := hk
        simp only [sgr, List.mem_cons, List.not_mem_nil, or_false, not_or] at hk'
        rw [wt_row _ _ (by omega), wt_row _ _ (by omega), G.1 k (by omega) (by omega) (by omega), wt_row _ _ (by omega), wt_row _ _ (by omega), wt_row _ _ (by omega)]
        exact R1 k hk
      refine Bth.mk rfl (Base_sign hI (fun k k1 k2 => rows k (by simp only [sgr, List.mem_cons, List.not_mem_nil, or_false, not_or]; omega)) ⟨?_, ?_⟩ ⟨?_, ?_⟩ ?_ ?_ ?_) (Kp_sign rows ?_ ?_ ?_)
      · show m2 0 13 = _
        rw [g0, wt_same, wt_same]; rfl
      · show m2 0 12 = (wt (wt m2 134 11 p1) 134 3 (-6)) 134 11
        rw [g0, wt_ne _ _ (by decide), wt_ne _ _ (by decide)]
        show (wt m1 0 12 p1) 0 12 = (wt m2 134 11 p1) 134 11
        rw [wt_same, wt_same]
      · show m2 90 3 = 0
        rw [G.1 90 (by decide) (by decide) (by decide)]
        show (wt (wt m1 0 12 p1) 90 3 0) 90 3 = 0
        exact wt_same _ _ _ _
      · rw [wt_ne _ _ (by decide), wt_ne _ _ (by decide)]; exact G.2.1
      · show P_num (m2 2) (m2 135); rw [r2, r135]; exact h1
      · show P_sgn (m2 3) (m2 4) (m2 135); rw [r3, r4, r135]; exact h2
      · intro j _; show m2 135 j = _; rw [r135]
      · intro j _; show m2 135 j = _; rw [r135]
      · show m2 0 11 = _
        rw [g0, wt_ne _ _ (by decide)]
        show (wt m1 0 12 p1) 0 11 = _
        rw [wt_ne _ _ (by decide), e0]
      · intro j hj
        rw [wt_ne _ _ (by omega), wt_ne _ _ (by omega), G.2.2 j (by omega) (by omega) (by omega) (by omega) (by omega) (by omega)]
        show m1 134 j = _
        rw [e134]
    | true =>
      obtain ⟨N4, okN⟩ := hb rfl
      generalize hN : m1 94 3 = N at *
      refine v_C_closeText ⟨fun q => absurd q (by decide), fun _ => ⟨fun q => absurd q (by decide), fun _ => ?_⟩⟩
      have e28 : (wt (wt m1 0 12 (-1)) 90 3 0) 2 8 = mi 135 0 := by show m1 2 8 = _; rw [e2]; exact hb8
      have eN : (wt (wt m1 0 12 (-1)) 90 3 0) 94 3 = N := hN
      rw [e28, eN]
      generalize hl : mi 135 0 = l at *
      refine ⟨⟨by omega, by omega, by omega, by omega, by omega⟩, ?_⟩
      rw [show l + 1 - 1 = l by omega]
      refine ref_sign (mc := wt (wt (wt (cpm (wt (wt m1 0 12 (-1)) 90 3 0) 95 3 0 (l * 4).toNat N.toNat) 4 l.toNat N) 2 8 (l + 1)) 0 13 (min l 0)) (b := true) (p1 := p1) (m1 := m1) (by omega) (by show 0 ≤ m1 134 7 ∧ m1 134 7 ≤ 400; rw [e134]; omega) (by show RB8 (m1 138) (m1 134 7); rw [e138, e134, h7]; exact rb) (by show 0 ≤ m1 135 0 ∧ m1 135 0 < 10; rw [e135]; omega) (by show SimS (m1 138) (m1 134 7) (fs (m1 138) (m1 134 7) 0) 0 _ true p1 m1; rw [e138, e134, h7]; exact S) (fun _ m2 G e14 RS => ?_) (fun q => absurd q (by decide))
      have el : (wt (wt (wt (cpm (wt (wt m1 0 12 (-1)) 90 3 0) 95 3 0 (l * 4).toNat N.toNat) 4 l.toNat N) 2 8 (l + 1)) 0 13 (min l 0)) 135 0 = l := by show m1 135 0 = l; rw [e135]; exact hl
      rw [el, hN]
      rw [hN] at e14 RS
      have g0 : m2 0 = (wt (wt (wt (cpm (wt (wt m1 0 12 (-1)) 90 3 0) 95 3 0 (l * 4).toNat N.toNat) 4 l.toNat N) 2 8 (l + 1)) 0 13 (min l 0)) 0 := G.1 0 (by decide) (by decide) (by decide)
      have r135 : m2 135 = mi 135 := (G.1 135 (by decide) (by decide) (by decide)).trans e135
      have r2 : m2 2 = sv (mi 2) 8 (l + 1) := by rw [← e2]; exact G.1 2 (by decide) (by decide) (by decide)
      have r3 : m2 3 = cpy (m1 95) (mi 3) 0 (l * 4).toNat N.toNat := by rw [← e3]; exact G.1 3 (by decide) (by decide) (by decide)
      have r4 : m2 4 = sv (mi 4) l.toNat N := by rw [← e4]; exact G.1 4 (by decide) (by decide) (by decide)
      refine s_M_sign_120 (N := N) (by omega) (by omega) (by show (wt m2 134 11 (-1)) 134 14 = N; rw [wt_ne _ _ (by decide)]; exact e14) N4 (by rw [wt_ne _ _ (by omega)]; show m2 135 0 = l; rw [r135]; exact hl) (fun t t1 t2 => ?_)
      have t141 : ∀ i : Int, 0 ≤ i → i < 16 → t (16 + 17 * l + 1 + i).toNat = if i < 4 * N then m2 141 i.toNat else -1 := t1
      have tS : ∀ j : Nat, (j : Int) < 16 + 17 * l ∨ 16 + 17 * l + 17 ≤ j → t j = mi 135 j := by
        intro j hj
        rw [t2 j (by omega), wt_ne _ _ (by omega)]
        show m2 135 j = _
        rw [r135]
      have tN : t (16 + 17 * l).toNat = N := by
        rw [t2 _ (by omega), wt_same]
      generalize hmf : wt (wt (sv (wt (wt m2 134 11 (-1)) 135 (16 + 17 * l).toNat N) 135 t) 135 0 (l + 1)) 134 3 (min l 0) = mf
      have f135 : mf 135 = sv t 0 (l + 1) := by rw [← hmf]; rfl
      have f134 : mf 134 = sv (sv (m2 134) 11 (-1)) 3 (min l 0) := by rw [← hmf]; rfl
      have fo : ∀ k : Nat, k ≠ 134 → k ≠ 135 → mf k = m2 k := by
        intro k k1 k2
        rw [← hmf, wt_row _ _ k1, wt_row _ _ k2, sv_ne _ _ k2, wt_row _ _ k2, wt_row _ _ k1]
      have rows : ∀ k : Nat, k ∉ sgr → mf k = mi k := by
        intro k hk
        have hk' := hk
        simp only [sgr, List.mem_cons, List.not_mem_nil, or_false, not_or] at hk'
        rw [fo k (by omega) (by omega), G.1 k (by omega) (by omega) (by omega), wt_row _ _ (by omega), wt_row _ _ (by omega), wt_row _ _ (by omega)]
        show (sv _ 3 _) k = _
        rw [sv_ne _ _ (by omega), wt_row _ _ (by omega), wt_row _ _ (by omega)]
        exact R1 k hk
      have hc : ∀ j : Nat, (1 ≤ j ∧ j < 16) ∨ 186 ≤ j → mf 135 j = mi 135 j := by
        intro j hj
        rw [f135, svn _ _ (by omega)]
        exact tS j (by omega)
      have z0 : min l 0 = 0 := by omega
      refine Bth.mk rfl (Base_sign hI (fun k k1 k2 => rows k (by simp only [sgr, List.mem_cons, List.not_mem_nil, or_false, not_or]; omega)) ⟨?_, ?_⟩ ⟨?_, ?_⟩ ?_ ?_ hc) (Kp_sign rows hc ?_ ?_)
      · rw [fo 0 (by decide) (by decide), g0, wt_same, f134, sv_eq]
      · rw [fo 0 (by decide) (by decide), g0, wt_ne _ _ (by decide), f134, svn _ _ (by decide), sv_eq]
        show (wt m1 0 12 (-1)) 0 12 = _
        exact wt_same _ _ _ _
      · rw [fo 90 (by decide) (by decide), G.1 90 (by decide) (by decide) (by decide)]
        show (wt (wt m1 0 12 (-1)) 90 3 0) 90 3 = 0
        exact wt_same _ _ _ _
      · rw [f134, svn _ _ (by decide), svn _ _ (by decide)]; exact G.2.1
      · rw [fo 2 (by decide) (by decide), r2]
        unfold P_num
        rw [hc 3 (by decide), hc 4 (by decide), f135, sv_eq, sv_eq, svn _ _ (by decide), svn _ _ (by decide)]
        exact ⟨rfl, by omega, h1.2.2⟩
      · rw [fo 3 (by decide) (by decide), fo 4 (by decide) (by decide), r3, r4, f135]
        intro s0 s1 s2 s3
        rw [sv_eq] at s2
        by_cases c : s0 = l
        · subst c
          rw [sv_eq, svn t _ (by omega)]
          refine ⟨tN.symm, N4, fun k k0 k1 => ?_, fun k k0 k1 m m0 m4 => ?_⟩
          · rw [cpy_at, if_pos (by omega), show 0 + ((s0 * 4 + k).toNat - (s0 * 4).toNat) = k.toNat by omega]
            have ok := okN k k0 k1
            refine ⟨ok.1, fun m m0 m4 => ?_⟩
            rw [svn t _ (by omega), show 16 + 17 * s0 + 1 + 4 * k + m = 16 + 17 * s0 + 1 + (4 * k + m) by omega, t141 (4 * k + m) (by omega) (by omega), if_pos (by omega), RS k k0 k1 m m0 m4]
            exact ⟨rfl, ok.2 m m0 m4⟩
          · rw [svn t _ (by omega), show 16 + 17 * s0 + 1 + 4 * k + m = 16 + 17 * s0 + 1 + (4 * k + m) by omega, t141 (4 * k + m) (by omega) (by omega), if_neg (by omega)]
        · rw [svn (mi 4) _ (by omega), svn t _ (by omega), tS _ (by omega)]
          obtain ⟨g1, g2, g3, g4⟩ := h2 s0 s1 (by omega) s3
          refine ⟨g1, g2, fun k k0 k1 => ?_, fun k k0 k1 m m0 m4 => ?_⟩
          · rw [cpy_at, if_neg (by omega)]
            refine ⟨(g3 k k0 k1).1, fun m m0 m4 => ?_⟩
            rw [svn t _ (by omega), tS _ (by omega)]
            exact (g3 k k0 k1).2 m m0 m4
          · rw [svn t _ (by omega), tS _ (by omega)]
            exact g4 k k0 k1 m m0 m4
      · rw [fo 0 (by decide) (by decide), g0, wt_ne _ _ (by decide)]
        show (wt m1 0 12 (-1)) 0 11 = _
        rw [wt_ne _ _ (by decide), e0]
      · intro j hj
        rw [f134, svn _ _ (by omega), svn _ _ (by omega), G.2.2 j (by omega) (by omega) (by omega) (by omega) (by omega) (by omega)]
        show m1 134 j = _
        rw [e134]
  · refine v_M_sign ⟨fun q2 => absurd (show mi 135 0 = 10 by omega) q2, fun _ => ⟨by omega, Bth.mk rfl ?_ (by (repeat' (first | exact Kp.rfl' _ | refine Kp.w0 ?_ (by decide) | refine Kp.w134 ?_ (by decide) | refine Kp.w135 ?_ (by omega) | refine Kp.wo ?_ (by decide) | refine Kp.cp ?_ (by decide) | refine Kp.o ?_ (by decide))))⟩⟩
    (unfold Base Hs; simp only [wt_r, cpm_r, svc, Nat.reduceEqDiff, reduceIte]; refine ⟨?_, ?_, ?_, ?_, ?_, ?_, ?_, ?_, ?_, ?_, ?_, ?_⟩ <;> (repeat (first | assumption | exact P_stat_c ‹_› | refine P_stat_m ?_ (by decide) | refine P_stat_h ?_ (by decide) | refine P_tape_m ?_ (by decide) | refine P_num_c ?_ (by omega) | refine P_num_b ?_ (by decide) | refine P_sgn_c ?_ (by omega) | refine P_xy_c ?_ (by omega) | refine P_w_c ?_ (by omega) | refine P_tr_c ?_ (by omega) | refine P_pr_c ?_ (by omega) | refine P_si_c ?_ (by omega) | refine P_va_c ?_ (by omega) | refine P_us_c ?_ (by omega) | refine P_ud_c ?_ (by omega))))
    exact P_tape_0 rfl rfl
end CASIGN
