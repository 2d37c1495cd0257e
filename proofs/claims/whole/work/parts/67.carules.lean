section CARULES
variable {d : Nat} {mi : MT}
def tx (m : MT) : Nat → Int := fun k => m 135 (1666 + k)
def Rul (m : MT) : Prop := RulR (m 10 3) (m 10 4) (m 10 5) (m 11) (m 12) (m 13) m ∧ (0 ≤ m 135 7 ∧ m 135 7 ≤ 400) ∧ RB8 (tx m) (m 135 7) ∧ RSim (tx m) (m 135 7) (m 10 3) (m 10 4) (m 10 5) (m 11) (m 12) (m 13)
theorem Rul_of {m m2 : MT} (h : Rul m) (e10 : m2 10 = m 10) (e11 : m2 11 = m 11) (e12 : m2 12 = m 12) (e13 : m2 13 = m 13) (ex : tx m2 = tx m) (e7 : m2 135 7 = m 135 7) (hr : RulR (m 10 3) (m 10 4) (m 10 5) (m 11) (m 12) (m 13) m2) : Rul m2 := by
  unfold Rul
  rw [e10, e11, e12, e13, ex, e7]
  exact ⟨hr, h.2⟩
theorem Rul_kp {m m2 : MT} (h : Rul m) (k : Kp m m2) : Rul m2 := by
  refine Rul_of h (k.1 10 rfl) (k.1 11 rfl) (k.1 12 rfl) (k.1 13 rfl) (funext fun j => k.2.1 _ (by omega)) (k.2.1 7 (by omega)) (RulR_m h.1 (k.2.2.2 15 (by omega)) (fun c hc => k.1 c ?_))
  have : c = 142 ∨ c = 143 ∨ c = 144 ∨ c = 145 ∨ c = 146 ∨ c = 147 ∨ c = 148 ∨ c = 149 ∨ c = 150 ∨ c = 151 ∨ c = 153 ∨ c = 154 ∨ c = 155 ∨ c = 156 ∨ c = 157 := by omega
  rcases this with rfl | rfl | rfl | rfl | rfl | rfl | rfl | rfl | rfl | rfl | rfl | rfl | rfl | rfl | rfl <;> rfl
def Kr (mi mi' : MT) : Prop := (∀ k : Nat, kpr k = true → ¬ (10 ≤ k ∧ k ≤ 13) → ¬ (142 ≤ k ∧ k ≤ 157) → mi' k = mi k) ∧ mi' 0 11 = mi 0 11 ∧ (∀ j : Nat, 50 ≤ j → j ≤ 52 → mi' 134 j = mi 134 j)
def Rth (z z' : Int) (mi m2 : MT) : Prop := Jd (z = z' ∧ Base m2 ∧ Rul m2 ∧ Kr mi m2)
theorem Rth.mk {z z' : Int} {mi m2 : MT} (h : z = z') (hb : Base m2) (hr : Rul m2) (hk : Kr mi m2) : Rth z z' mi m2 := Jd.mk ⟨h, hb, hr, hk⟩
/-- the reference's text, kept -/
theorem s_M_rules_47 {P : Int → MT → Prop} {n : Int} (hd : 0 < d) (h8 : mi 134 8 = n) (hn : 0 ≤ n ∧ n ≤ 400) (h : ∀ t : Nat → Int, (∀ k : Int, 0 ≤ k → k < n → t (1666 + k).toNat = mi 139 k.toNat) → (∀ j : Nat, j < 1666 → t j = mi 135 j) → P (mi 134 15) (wt (sv mi 135 t) 134 3 (min (mi 134 15) 0))) : h_M_rules_47 d 0 mi P := by
  have L : ∀ i : Int, i ≤ n → 0 ≤ i → ∀ t : Nat → Int, (∀ k : Int, 0 ≤ k → k < i → t (1666 + k).toNat = mi 139 k.toNat) → (∀ j : Nat, j < 1666 → t j = mi 135 j) → h_M_rules_47 d i (sv mi 135 t) P := by
    refine upto _ (fun i hi ih i0 t t1 t2 => ?_)
    refine v_M_rules_47 ?_
    have e8 : (sv mi 135 t) 134 8 = n := h8
    rw [e8]
    refine ⟨fun q => ⟨by omega, h t (fun k a b => t1 k a (by omega)) t2⟩, fun q => ⟨by omega, ?_⟩⟩
    rw [wt_sv]
    refine ih q (by omega) _ (fun k a b => ?_) (fun j hj => by rw [svn _ _ (by omega)]; exact t2 j hj)
    by_cases c : k = i
    · subst c; rw [sv_eq]; rfl
    · rw [svn _ _ (by omega)]; exact t1 k a (by omega)
  have := L 0 (by omega) (by omega) (mi 135) (fun k a b => by omega) (fun j _ => rfl)
  rw [sv_self] at this
  exact this
def GK (m m2 : MT) : Prop := (∀ k : Nat, k ≠ 134 → k ≠ 139 → m2 k = m k) ∧ ∀ j : Nat, j ≠ 8 → j ≠ 10 → j ≠ 12 → m2 134 j = m 134 j
theorem s_M_readsKept {P : MT → Prop} (hd : 0 < d) (h7 : 0 ≤ mi 135 7 ∧ mi 135 7 ≤ 400) (hR : RB8 (tx mi) (mi 135 7)) (h : ∀ m1 : MT, GK mi m1 → MST m1 (tx mi) (mi 135 7) → m1 134 10 = 0 → m1 134 12 = -1 → c_M_readsRules (d - 1) m1 (fun m1 => P m1)) : c_M_readsKept d mi P := by
  refine v_M_readsKept ?_
  have e8 : (wt mi 134 8 (mi 135 7)) 134 8 = mi 135 7 := wt_same _ _ _ _
  have L : ∀ i : Int, i ≤ mi 135 7 → 0 ≤ i → ∀ t : Nat → Int, (∀ k : Int, 0 ≤ k → k < i → t k.toNat = tx mi k.toNat) → h_M_readsKept_13 d i (sv (wt mi 134 8 (mi 135 7)) 139 t) P := by
    refine upto _ (fun i hi ih i0 t t1 => ?_)
    refine v_M_readsKept_13 ?_
    have e8' : (sv (wt mi 134 8 (mi 135 7)) 139 t) 134 8 = mi 135 7 := e8
    rw [e8']
    refine ⟨fun q => ⟨by omega, h _ ⟨fun k k1 k2 => ?_, fun j j1 j2 j3 => ?_⟩ ⟨?_, h7, hR, fun k a b => t1 k a (by omega)⟩ ?_ (wt_same _ _ _ _)⟩, fun q => ?_⟩
    · rw [wt_row _ _ k1, wt_row _ _ k1, sv_ne _ _ k2, wt_row _ _ k1]
    · rw [wt_ne _ _ j3, wt_ne _ _ j2]; show (wt mi 134 8 _) 134 j = _; exact wt_ne _ _ j1
    · rw [wt_ne _ _ (by decide), wt_ne _ _ (by decide)]; exact e8'
    · rw [wt_ne _ _ (by decide)]; exact wt_same _ _ _ _
    · have rb := hR i i0 q
      have ei : (sv (wt mi 134 8 (mi 135 7)) 139 t) 135 (1666 + i).toNat = tx mi i.toNat := by
        show mi 135 (1666 + i).toNat = mi 135 (1666 + i.toNat)
        rw [show (1666 + i).toNat = 1666 + i.toNat by omega]
      rw [ei]
      have eb : b2b (tx mi i.toNat) = tx mi i.toNat := by rw [b2b_eq]; unfold sg8; have := hR i i0 q; split <;> omega
      rw [eb]
      refine ⟨by omega, ?_⟩
      rw [wt_sv]
      refine ih q (by omega) _ (fun k a b => ?_)
      by_cases c : k = i
      · subst c; rw [sv_eq]
      · rw [svn _ _ (by omega)]; exact t1 k a (by omega)
  have := L 0 (by omega) (by omega) ((wt mi 134 8 (mi 135 7)) 139) (fun k a b => by omega)
  rw [sv_self] at this
  exact this
theorem Base_rules {mf : MT} (hI : Base mi) (hrow : ∀ k : Nat, (2 ≤ k ∧ k < 10) ∨ (14 ≤ k ∧ k ≤ 28) → mf k = mi k) (hst : mf 0 13 = mf 134 3 ∧ mf 0 12 = mf 134 11) (htp : mf 90 3 = 0 ∧ mf 134 7 = 0) (hc : ∀ j : Nat, j ≠ 7 → j < 1666 → mf 135 j = mi 135 j) : Base mf := by
  obtain ⟨hs, ht, h1, h2, h3, h4, h5, h6, h7, h8, h9, h10⟩ := id hI
  unfold Base Hs
  simp (disch := decide) only [hrow]
  refine ⟨hst, P_tape_0 htp.1 htp.2, P_num_g h1 (fun j a => hc j (by omega) (by omega)) ⟨rfl, rfl, rfl⟩, P_sgn_g h2 (hc 0 (by decide) (by decide)) (fun j a b => hc j (by omega) (by omega)), P_xy_g h3 (fun j a b => hc j (by omega) (by omega)), P_w_g h4 (fun j a b => hc j (by omega) (by omega)), P_tr_g h5 (fun j a b => hc j (by omega) (by omega)), P_si_g h6 (hc 1 (by decide) (by decide)) (fun j a b => hc j (by omega) (by omega)), P_va_g h7 (fun j a b => hc j (by omega) (by omega)), P_us_g h8 (fun j a b => hc j (by omega) (by omega)), P_ud_g h9 (hc 2 (by decide) (by decide)) (fun j a b => hc j (by omega) (by omega)), P_pr_g h10 (fun j a b => hc j (by omega) (by omega))⟩
theorem RSim_r {r r' : Nat → Int} {n cc ac hh : Int} {co en acs : Nat → Int} (h : RSim r n cc ac hh co en acs) (e : ∀ k : Int, 0 ≤ k → k < n → r' k.toNat = r k.toNat) : RSim r' n cc ac hh co en acs :=
  fun dd m' P' hd hM h10 h12 hp => h dd m' P' hd ⟨hM.1, hM.2.1, fun k a b => by rw [← e k a b]; exact hM.2.2.1 k a b, fun k a b => by rw [← e k a b]; exact hM.2.2.2 k a b⟩ h10 h12 hp
theorem Kr_of {mf : MT} (h : ∀ k : Nat, (29 ≤ k ∧ k < 90) ∨ (99 < k ∧ k < 134) ∨ k = 136 ∨ k = 137 ∨ 157 < k → mf k = mi k) (h0 : mf 0 11 = mi 0 11) (h4 : ∀ j : Nat, 50 ≤ j → j ≤ 52 → mf 134 j = mi 134 j) : Kr mi mf := by
  refine ⟨fun k hk k1 k2 => h k ?_, h0, h4⟩
  unfold kpr at hk
  simp only [Bool.or_eq_true, Bool.and_eq_true, decide_eq_true_eq] at hk
  omega
theorem ca_rules (hI : Base mi) (hU : Rul mi) (hd : 90 ≤ d) : c_C_rules d mi (fun z m1 => c_M_rules d m1 (fun z' m2 => Rth z z' mi m2)) := by
  obtain ⟨hs, ht, h1, h2, h3, h4, h5, h6, h7, h8, h9, h10⟩ := id hI
  have h7 : mi 134 7 = mi 90 3 := ht.2.1
  have n400 : 0 ≤ mi 90 3 ∧ mi 90 3 ≤ 400 := ht.1
  have hT : TXT (mi 91) (mi 138) (mi 90 3) := ⟨n400, ht.2.2⟩
  have rb := TXT_rb hT
  refine v_C_rules ⟨by omega, s_G_readRules (r := mi 138) (n := mi 90 3) (by omega) hT rfl (fun b T m1 p1 C T4 A hb hf => ?_)⟩
  have a4 := A.2.1
  have p1n := (AT_wd A).2.1
  cases b with
  | false =>
    refine v_C_closeText ⟨fun _ => ⟨by omega, ⟨fun q => absurd q (by decide), fun _ => ⟨by omega, ?_⟩⟩⟩, fun q => absurd rfl q⟩
    rw [A.2.2]
    have mck : ∀ k : Nat, k ≠ 0 → k ≠ 90 → (k < 92 ∨ 99 < k) → (wt (wt (wt m1 0 12 p1) 90 3 0) 0 13 (min (-6) 0)) k = mi k := fun k a b c => by rw [wt_row _ _ a, wt_row _ _ b, wt_row _ _ a]; exact C k c
    have mc13 : (wt (wt (wt m1 0 12 p1) 90 3 0) 0 13 (min (-6) 0)) 0 13 = -6 := wt_same _ _ _ _
    have mc12 : (wt (wt (wt m1 0 12 p1) 90 3 0) 0 13 (min (-6) 0)) 0 12 = p1 := by rw [wt_ne _ _ (by decide)]; show (wt m1 0 12 p1) 0 12 = p1; exact wt_same _ _ _ _
    have mc11 : (wt (wt (wt m1 0 12 p1) 90 3 0) 0 13 (min (-6) 0)) 0 11 = mi 0 11 := by rw [wt_ne _ _ (by decide)]; show (wt m1 0 12 p1) 0 11 = _; rw [wt_ne _ _ (by decide), C 0 (by decide)]
    have mc90 : (wt (wt (wt m1 0 12 p1) 90 3 0) 0 13 (min (-6) 0)) 90 3 = 0 := by show (wt (wt m1 0 12 p1) 90 3 0) 90 3 = 0; exact wt_same _ _ _ _
    generalize wt (wt (wt m1 0 12 p1) 90 3 0) 0 13 (min (-6) 0) = mc at *
    have c134 : mc 134 = mi 134 := mck 134 (by decide) (by decide) (by decide)
    have c7 : mc 134 7 = mi 90 3 := by rw [c134]; exact h7
    refine v_M_rules ⟨by omega, s_M_begins (r := mi 138) (by omega) (by rw [c7]; exact rb) (fun k a b => by rw [mck 138 (by decide) (by decide) (by decide)]) (fun t u hu u7 u12 u10 hM => ?_)⟩
    rw [c7] at hM
    refine hf rfl (d - 1) _ _ (by omega) hM u10 u12 (fun m2 F e12 => ⟨fun q => by omega, fun _ => ?_⟩)
    have f135 : m2 135 = mi 135 := by rw [F.1 135 (by decide) (by decide), sv_ne _ _ (by decide), sv_ne _ _ (by decide)]; exact mck 135 (by decide) (by decide) (by decide)
    have etx : tx (wt m2 134 11 (m2 134 12)) = tx mi := by unfold tx; funext k; show m2 135 (1666 + k) = _; rw [f135]
    have e135 : (wt m2 134 11 (m2 134 12)) 135 7 = mi 135 7 := by show m2 135 7 = _; rw [f135]
    refine s_M_readsKept (by omega) (by rw [e135]; exact hU.2.1) (by rw [etx, e135]; exact hU.2.2.1) (fun m4 G4 M4 m410 m412 => ?_)
    rw [etx, e135] at M4
    refine hU.2.2.2 (d - 1 - 1) m4 _ (by omega) M4 m410 m412 (fun m5 F5 g5 R5 => ?_)
    have fk : ∀ k : Nat, k ≠ 0 → k ≠ 90 → k ≠ 134 → k ≠ 139 → (k < 92 ∨ 99 < k) → (k < 142 ∨ k = 152 ∨ 157 < k) → (wt m5 134 3 (min (-6) 0)) k = mi k := by
      intro k a b c e f g
      rw [wt_row _ _ c, F5.1 k c g, G4.1 k c e, wt_row _ _ c, F.1 k c g, sv_ne _ _ c, sv_ne _ _ e]
      exact mck k a b f
    have f0 : ∀ k : Nat, k = 0 ∨ k = 90 → (wt m5 134 3 (min (-6) 0)) k = mc k := by
      intro k a
      rw [wt_row _ _ (by omega), F5.1 k (by omega) (by omega), G4.1 k (by omega) (by omega), wt_row _ _ (by omega), F.1 k (by omega) (by omega), sv_ne _ _ (by omega), sv_ne _ _ (by omega)]
    have f134 : ∀ j : Nat, j ≠ 3 → j ≠ 7 → j ≠ 8 → j ≠ 9 → j ≠ 10 → j ≠ 11 → j ≠ 12 → (j < 15 ∨ 19 < j) → j ≠ 36 → j ≠ 37 → (wt m5 134 3 (min (-6) 0)) 134 j = mi 134 j := by
      intro j j1 j2 j3 j4 j5 j6 j7 j8 j9 j10
      rw [wt_ne _ _ j1, F5.2 j j4 j5 j7 j8 j9 j10, G4.2 j j3 j5 j7, wt_ne _ _ j6, F.2 j j4 j5 j7 j8 j9 j10]
      show u j = _
      rw [hu j j2 j3 j5 j7, c134]
    have x11 : (wt m5 134 3 (min (-6) 0)) 134 11 = p1 := by
      rw [wt_ne _ _ (by decide), F5.2 11 (by decide) (by decide) (by decide) (by decide) (by decide) (by decide), G4.2 11 (by decide) (by decide) (by decide), wt_same]; exact e12
    have x7 : (wt m5 134 3 (min (-6) 0)) 134 7 = 0 := by
      rw [wt_ne _ _ (by decide), F5.2 7 (by decide) (by decide) (by decide) (by decide) (by decide) (by decide), G4.2 7 (by decide) (by decide) (by decide), wt_ne _ _ (by decide), F.2 7 (by decide) (by decide) (by decide) (by decide) (by decide) (by decide)]; exact u7
    have x3 : (wt m5 134 3 (min (-6) 0)) 134 3 = -6 := wt_same _ _ _ _
    have xR : RulR (mi 10 3) (mi 10 4) (mi 10 5) (mi 11) (mi 12) (mi 13) (wt m5 134 3 (min (-6) 0)) := RulR_m R5 (wt_ne _ _ (by decide)) (fun k hk => wt_row _ _ (by omega))
    generalize wt m5 134 3 (min (-6) 0) = mf at *
    refine Rth.mk rfl (Base_rules hI (fun k hk => fk k (by omega) (by omega) (by omega) (by omega) (by omega) (by omega)) ⟨by rw [f0 0 (by omega)]; omega, by rw [f0 0 (by omega)]; omega⟩ ⟨by rw [f0 90 (by omega)]; omega, x7⟩ (fun j _ _ => by rw [fk 135 (by decide) (by decide) (by decide) (by decide) (by decide) (by decide)])) (Rul_of hU (fk 10 (by decide) (by decide) (by decide) (by decide) (by decide) (by decide)) (fk 11 (by decide) (by decide) (by decide) (by decide) (by decide) (by decide)) (fk 12 (by decide) (by decide) (by decide) (by decide) (by decide) (by decide)) (fk 13 (by decide) (by decide) (by decide) (by decide) (by decide) (by decide)) (by unfold tx; rw [fk 135 (by decide) (by decide) (by decide) (by decide) (by decide) (by decide)]) (by rw [fk 135 (by decide) (by decide) (by decide) (by decide) (by decide) (by decide)]) xR) (Kr_of (fun k hk => fk k (by omega) (by omega) (by omega) (by omega) (by omega) (by omega)) (by rw [f0 0 (by omega)]; exact mc11) (fun j a b => f134 j (by omega) (by omega) (by omega) (by omega) (by omega) (by omega) (by omega) (by omega) (by omega) (by omega)))
  | true =>
    obtain ⟨⟨r3, r4, r5⟩, hS⟩ := hb rfl
    refine v_C_closeText ⟨fun q => absurd q (by decide), fun _ => ⟨fun _ => ?_, fun q => absurd q (by decide)⟩⟩
    have w3 : (wt (wt m1 0 12 (-1)) 90 3 0) 96 3 = m1 96 3 := rfl
    have w4 : (wt (wt m1 0 12 (-1)) 90 3 0) 96 4 = m1 96 4 := rfl
    have w5 : (wt (wt m1 0 12 (-1)) 90 3 0) 96 5 = m1 96 5 := rfl
    rw [w3, w4, w5]
    generalize hcc : m1 96 3 = cc at *
    generalize hac : m1 96 4 = ac at *
    generalize hhh : m1 96 5 = hh at *
    refine ⟨by omega, ?_⟩
    have mck : ∀ k : Nat, k ≠ 0 → k ≠ 90 → (k < 10 ∨ 13 < k) → (k < 92 ∨ 99 < k) → (wt (wt (wt (wt (cpm (cpm (cpm (wt (wt m1 0 12 (-1)) 90 3 0) 97 11 0 0 cc.toNat) 98 12 0 0 hh.toNat) 99 13 0 0 ac.toNat) 10 3 cc) 10 4 ac) 10 5 hh) 0 13 (min hh 0)) k = mi k := fun k a b e c => by
      rw [wt_row _ _ a, wt_row _ _ (by omega), wt_row _ _ (by omega), wt_row _ _ (by omega)]
      simp only [cpm_r]
      rw [if_neg (by omega), if_neg (by omega), if_neg (by omega), wt_row _ _ b, wt_row _ _ a]; exact C k c
    have mc13 : (wt (wt (wt (wt (cpm (cpm (cpm (wt (wt m1 0 12 (-1)) 90 3 0) 97 11 0 0 cc.toNat) 98 12 0 0 hh.toNat) 99 13 0 0 ac.toNat) 10 3 cc) 10 4 ac) 10 5 hh) 0 13 (min hh 0)) 0 13 = min hh 0 := wt_same _ _ _ _
    have mc12 : (wt (wt (wt (wt (cpm (cpm (cpm (wt (wt m1 0 12 (-1)) 90 3 0) 97 11 0 0 cc.toNat) 98 12 0 0 hh.toNat) 99 13 0 0 ac.toNat) 10 3 cc) 10 4 ac) 10 5 hh) 0 13 (min hh 0)) 0 12 = -1 := by rw [wt_ne _ _ (by decide)]; show (wt m1 0 12 (-1)) 0 12 = -1; exact wt_same _ _ _ _
    have mc11 : (wt (wt (wt (wt (cpm (cpm (cpm (wt (wt m1 0 12 (-1)) 90 3 0) 97 11 0 0 cc.toNat) 98 12 0 0 hh.toNat) 99 13 0 0 ac.toNat) 10 3 cc) 10 4 ac) 10 5 hh) 0 13 (min hh 0)) 0 11 = mi 0 11 := by rw [wt_ne _ _ (by decide)]; show (wt m1 0 12 (-1)) 0 11 = _; rw [wt_ne _ _ (by decide), C 0 (by decide)]
    have mc90 : (wt (wt (wt (wt (cpm (cpm (cpm (wt (wt m1 0 12 (-1)) 90 3 0) 97 11 0 0 cc.toNat) 98 12 0 0 hh.toNat) 99 13 0 0 ac.toNat) 10 3 cc) 10 4 ac) 10 5 hh) 0 13 (min hh 0)) 90 3 = 0 := by show (wt (wt m1 0 12 (-1)) 90 3 0) 90 3 = 0; exact wt_same _ _ _ _
    have k3 : (wt (wt (wt (wt (cpm (cpm (cpm (wt (wt m1 0 12 (-1)) 90 3 0) 97 11 0 0 cc.toNat) 98 12 0 0 hh.toNat) 99 13 0 0 ac.toNat) 10 3 cc) 10 4 ac) 10 5 hh) 0 13 (min hh 0)) 10 3 = cc := rfl
    have k4 : (wt (wt (wt (wt (cpm (cpm (cpm (wt (wt m1 0 12 (-1)) 90 3 0) 97 11 0 0 cc.toNat) 98 12 0 0 hh.toNat) 99 13 0 0 ac.toNat) 10 3 cc) 10 4 ac) 10 5 hh) 0 13 (min hh 0)) 10 4 = ac := rfl
    have k5 : (wt (wt (wt (wt (cpm (cpm (cpm (wt (wt m1 0 12 (-1)) 90 3 0) 97 11 0 0 cc.toNat) 98 12 0 0 hh.toNat) 99 13 0 0 ac.toNat) 10 3 cc) 10 4 ac) 10 5 hh) 0 13 (min hh 0)) 10 5 = hh := rfl
    have k11 : ∀ j : Nat, (j : Int) < cc → (wt (wt (wt (wt (cpm (cpm (cpm (wt (wt m1 0 12 (-1)) 90 3 0) 97 11 0 0 cc.toNat) 98 12 0 0 hh.toNat) 99 13 0 0 ac.toNat) 10 3 cc) 10 4 ac) 10 5 hh) 0 13 (min hh 0)) 11 j = m1 97 j := fun j hj => by show cpy (m1 97) (m1 11) 0 0 cc.toNat j = _; rw [cpy_at, if_pos (by omega)]; congr 1; omega
    have k12 : ∀ j : Nat, (j : Int) < hh → (wt (wt (wt (wt (cpm (cpm (cpm (wt (wt m1 0 12 (-1)) 90 3 0) 97 11 0 0 cc.toNat) 98 12 0 0 hh.toNat) 99 13 0 0 ac.toNat) 10 3 cc) 10 4 ac) 10 5 hh) 0 13 (min hh 0)) 12 j = m1 98 j := fun j hj => by show cpy (m1 98) (m1 12) 0 0 hh.toNat j = _; rw [cpy_at, if_pos (by omega)]; congr 1; omega
    have k13 : ∀ j : Nat, (j : Int) < ac → (wt (wt (wt (wt (cpm (cpm (cpm (wt (wt m1 0 12 (-1)) 90 3 0) 97 11 0 0 cc.toNat) 98 12 0 0 hh.toNat) 99 13 0 0 ac.toNat) 10 3 cc) 10 4 ac) 10 5 hh) 0 13 (min hh 0)) 13 j = m1 99 j := fun j hj => by show cpy (m1 99) (m1 13) 0 0 ac.toNat j = _; rw [cpy_at, if_pos (by omega)]; congr 1; omega
    generalize wt (wt (wt (wt (cpm (cpm (cpm (wt (wt m1 0 12 (-1)) 90 3 0) 97 11 0 0 cc.toNat) 98 12 0 0 hh.toNat) 99 13 0 0 ac.toNat) 10 3 cc) 10 4 ac) 10 5 hh) 0 13 (min hh 0) = mc at *
    have c134 : mc 134 = mi 134 := mck 134 (by decide) (by decide) (by decide) (by decide)
    have c7 : mc 134 7 = mi 90 3 := by rw [c134]; exact h7
    refine v_M_rules ⟨by omega, s_M_begins (r := mi 138) (by omega) (by rw [c7]; exact rb) (fun k a b => by rw [mck 138 (by decide) (by decide) (by decide) (by decide)]) (fun t u hu u7 u12 u10 hM => ?_)⟩
    rw [c7] at hM
    refine hS (d - 1) _ _ (by omega) hM u10 u12 (fun m2 F e12 R2 => ⟨fun _ => ?_, fun q => absurd e12 q⟩)
    have f8 : m2 134 8 = mi 90 3 := by rw [F.2 8 (by decide) (by decide) (by decide) (by decide) (by decide) (by decide)]; exact hM.1
    have f15 : m2 134 15 = hh := R2.2.2.2.1.1
    rw [e12, f8]
    have b7 : (wt (wt m2 134 11 (-1)) 135 7 (mi 90 3)) 135 7 = mi 90 3 := wt_same _ _ _ _
    have bo : ∀ k : Nat, k ≠ 134 → k ≠ 135 → (wt (wt m2 134 11 (-1)) 135 7 (mi 90 3)) k = m2 k := fun k a b => by rw [wt_row _ _ b, wt_row _ _ a]
    have b135 : ∀ j : Nat, j ≠ 7 → (wt (wt m2 134 11 (-1)) 135 7 (mi 90 3)) 135 j = m2 135 j := fun j hj => wt_ne _ _ hj
    have b134 : (wt (wt m2 134 11 (-1)) 135 7 (mi 90 3)) 134 = sv (m2 134) 11 (-1) := rfl
    generalize wt (wt m2 134 11 (-1)) 135 7 (mi 90 3) = B at *
    have B15 : B 134 15 = hh := by rw [b134, svn _ _ (by decide)]; exact f15
    refine s_M_rules_47 (n := mi 90 3) (by omega) (by rw [b134, svn _ _ (by decide)]; exact f8) n400 (fun t2 t3 t4 => ?_)
    rw [B15]
    have fk : ∀ k : Nat, k ≠ 134 → k ≠ 135 → (wt (sv B 135 t2) 134 3 (min hh 0)) k = m2 k := fun k a b => by rw [wt_row _ _ a, sv_ne _ _ b, bo k a b]
    have fm : ∀ k : Nat, k ≠ 134 → k ≠ 139 → (k < 142 ∨ k = 152 ∨ 157 < k) → m2 k = mc k := fun k a b c => by rw [F.1 k a c, sv_ne _ _ a, sv_ne _ _ b]
    have f135 : (wt (sv B 135 t2) 134 3 (min hh 0)) 135 = t2 := rfl
    have f134 : ∀ j : Nat, j ≠ 3 → (wt (sv B 135 t2) 134 3 (min hh 0)) 134 j = sv (m2 134) 11 (-1) j := fun j hj => by rw [wt_ne _ _ hj]; show B 134 j = _; rw [b134]
    have x3 : (wt (sv B 135 t2) 134 3 (min hh 0)) 134 3 = min hh 0 := wt_same _ _ _ _
    generalize wt (sv B 135 t2) 134 3 (min hh 0) = mf at *
    have g : ∀ k : Nat, k ≠ 0 → k ≠ 90 → k ≠ 134 → k ≠ 135 → k ≠ 139 → (k < 10 ∨ 13 < k) → (k < 92 ∨ 99 < k) → (k < 142 ∨ k = 152 ∨ 157 < k) → mf k = mi k := fun k a b c e f g h i => by rw [fk k c e, fm k c f i]; exact mck k a b g h
    have g0 : ∀ k : Nat, k = 0 ∨ k = 90 ∨ (10 ≤ k ∧ k ≤ 13) → mf k = mc k := fun k hk => by rw [fk k (by omega) (by omega), fm k (by omega) (by omega) (by omega)]
    have tk : ∀ k : Int, 0 ≤ k → k < mi 90 3 → tx mf k.toNat = mi 138 k.toNat := by
      intro k a b
      show mf 135 (1666 + k.toNat) = _
      rw [f135, show 1666 + k.toNat = (1666 + k).toNat by omega, t3 k a b, bo 139 (by decide) (by decide), F.1 139 (by decide) (by decide)]
      exact hM.2.2.2 k a b
    have t7 : mf 135 7 = mi 90 3 := by rw [f135, t4 7 (by decide)]; exact b7
    refine Rth.mk rfl (Base_rules hI (fun k hk => g k (by omega) (by omega) (by omega) (by omega) (by omega) (by omega) (by omega) (by omega)) ⟨by rw [g0 0 (by omega), x3]; exact mc13, by rw [g0 0 (by omega), f134 11 (by decide), sv_eq]; exact mc12⟩ ⟨by rw [g0 90 (by omega)]; exact mc90, ?_⟩ (fun j j1 j2 => ?_)) ⟨?_, by omega, ?_, ?_⟩ (Kr_of (fun k hk => g k (by omega) (by omega) (by omega) (by omega) (by omega) (by omega) (by omega) (by omega)) (by rw [g0 0 (by omega)]; exact mc11) (fun j a b => ?_))
    · rw [f134 7 (by decide), svn _ _ (by decide), F.2 7 (by decide) (by decide) (by decide) (by decide) (by decide) (by decide)]; exact u7
    · rw [f135, t4 j j2, b135 j j1, fm 135 (by decide) (by decide) (by decide), mck 135 (by decide) (by decide) (by decide) (by decide)]
    · rw [g0 10 (by omega), g0 11 (by omega), g0 12 (by omega), g0 13 (by omega), k3, k4, k5]
      refine RulR_m (m := m2) (RulR_cg R2 k11 k12 k13) ?_ (fun k hk => fk k (by omega) (by omega))
      rw [f134 15 (by decide), svn _ _ (by decide)]
    · rw [t7]
      intro k a b
      rw [tk k a b]
      exact rb k a b
    · rw [g0 10 (by omega), g0 11 (by omega), g0 12 (by omega), g0 13 (by omega), k3, k4, k5, t7]
      exact RSim_r (RSim_cg hS k11 k12 k13) tk
    · rw [f134 j (by omega), svn _ _ (by omega), F.2 j (by omega) (by omega) (by omega) (by omega) (by omega) (by omega)]
      show u j = _
      rw [hu j (by omega) (by omega) (by omega) (by omega), c134]
end CARULES
