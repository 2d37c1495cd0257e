section CAREAD
variable {d : Nat} {mi M M' : MT} {fr kn n z : Int} {r r' : Int → Int}
theorem BRk_cg {K : Nat} (h : BRk M fr kn n z r K) (e : ∀ j : Int, 0 ≤ j → j ≤ K → r' j = r j) : BRk M fr kn n z r' K := by
  refine ⟨by rw [e 0 (by omega) (by omega)]; exact h.1, fun j hj => ?_⟩
  rw [AHr_cg (r := r) (r' := r') j (fun i i0 i1 => e i i0 (by omega)), ra_cg (r := r) (r' := r') (k := j) (fun i i0 i1 => e i i0 (by omega)), e j (by omega) (by omega), e (j + 1) (by omega) (by omega)]
  exact h.2 j hj
theorem AHr_e (sE : sgX M' fr kn n = sgX M fr kn n) (eE : M' 135 = M 135) : ∀ k : Nat, AHr M' fr kn n r k = AHr M fr kn n r k := by
  intro k
  induction k with
  | zero => rfl
  | succ k ih =>
    show AN M' fr kn n (AHr M' fr kn n r k) (ra r k) (r k) (r (k + 1)) = AN M fr kn n (AHr M fr kn n r k) (ra r k) (r k) (r (k + 1))
    rw [ih, AN_e sE eE]
theorem BRk_e {K : Nat} (sE : sgX M' fr kn n = sgX M fr kn n) (eE : M' 135 = M 135) (h : BRk M fr kn n z r K) : BRk M' fr kn n z r K := by
  unfold BRk CHO at *
  rw [rdX_e sE eE, eE, AN_e sE eE]
  refine ⟨h.1, fun j hj => ?_⟩
  rw [AHr_e sE eE]
  exact h.2 j hj
theorem read_Inv {m2 : MT} (hV : Inv mi) (r : ∀ k : Nat, (0 < k ∧ k < 19) ∨ (19 < k ∧ k < 100) ∨ (134 < k ∧ k ≠ 152 ∧ (k < 158 ∨ 170 < k)) → m2 k = mi k) (r0 : ∀ j : Nat, j ≠ 13 → j ≠ 11 → m2 0 j = mi 0 j) (r4 : ∀ j : Nat, j ≠ 3 → j ≠ 39 → j ≠ 40 → (j < 50 ∨ 52 < j) → j ≠ 56 → m2 134 j = mi 134 j) (e : m2 0 13 = m2 134 3) (hL : Lat m2) : Inv m2 := by
  obtain ⟨hI, hU, _, hG⟩ := id hV
  obtain ⟨hs, ht, h1, h2, h3, h4, h5, h6, h7, h8, h9, h10⟩ := id hI
  refine ⟨?_, ?_, hL, Img_of hG (fun k hk => r k (by omega))⟩
  · unfold Base Hs
    simp (disch := decide) only [r]
    refine ⟨⟨e, ?_⟩, ⟨ht.1, ?_, ht.2.2⟩, h1, h2, h3, h4, h5, h6, h7, h8, h9, h10⟩
    · rw [r0 12 (by decide) (by decide), r4 11 (by decide) (by decide) (by decide) (by decide) (by decide)]; exact hs.2
    · rw [r4 7 (by decide) (by decide) (by decide) (by decide) (by decide)]; exact ht.2.1
  · have e135 : m2 135 = mi 135 := r 135 (by omega)
    exact Rul_of hU (r 10 (by omega)) (r 11 (by omega)) (r 12 (by omega)) (r 13 (by omega)) (by unfold tx; rw [e135]) (by rw [e135]) (RulR_m hU.1 (r4 15 (by decide) (by decide) (by decide) (by decide) (by decide)) (fun k hk => r k (by omega)))
theorem ca_read {a b e : Int} (hV : Inv mi) (hd : 60 ≤ d) : c_C_read d a b e mi (fun z m1 => c_M_read d a b e m1 (fun z' m2 => Ith z z' mi m2)) := by
  obtain ⟨hI, hU, hLt, hG⟩ := id hV
  have hB := hI
  obtain ⟨hs, ht, h1, h2, h3, h4, h5, h6, h7, h8, h9, h10⟩ := id hI
  have IP : ∀ (z : Int) (m2 : MT), PK mi m2 → Ith z z mi m2 := fun z m2 p => Ith.mk rfl (Inv_kp hV p.1 p.2) (p.2.1 1000 rfl)
  have NO : ¬ ((0 ≤ a ∧ a ≤ b ∧ b < 20) ∧ 0 ≤ e ∧ e < 1000) → c_M_read d a b e (wt mi 0 13 (min (-1) 0)) (fun z' m2 => Ith (-1) z' mi m2) := fun q => v_M_read ⟨by omega, fun q2 => absurd q2 q, fun _ => IP _ _ (ends_PK hB (fun k hk => by rw [wt_row _ _ (by omega), wt_row _ _ (by omega)]) (fun j hj => by rw [wt_row _ _ (by decide), wt_ne _ _ hj]) (fun j j1 _ _ _ => by rw [wt_ne _ _ j1, wt_row _ _ (by decide)]) (by rw [wt_row _ _ (by decide), wt_same, wt_same]))⟩
  refine v_C_read ⟨by omega, fun q => ?_, fun q => NO q⟩
  have H0 : HX mi a e (b - a + 1) := HX_of hB hU (by omega)
  refine s_Fr_look (by omega) h3 h4 h5 h6 q.1 (fun t1 t hT => ?_)
  have HM : HX (sv (wt (sv mi 19 t1) 103 1 (b - a + 1)) 104 t) a e (b - a + 1) := HX_f H0 (fun k hk => by rw [sv_ne _ _ (by omega), wt_row _ _ (by omega), sv_ne _ _ (by omega)]) rfl
  have m103 : (sv (wt (sv mi 19 t1) 103 1 (b - a + 1)) 104 t) 103 1 = b - a + 1 := by show (wt (sv mi 19 t1) 103 1 _) 103 1 = _; exact wt_same _ _ _ _
  have mO : ∀ k : Nat, k ≠ 19 → k ≠ 103 → k ≠ 104 → (sv (wt (sv mi 19 t1) 103 1 (b - a + 1)) 104 t) k = mi k := fun k k1 k2 k3 => by rw [sv_ne _ _ k3, wt_row _ _ k2, sv_ne _ _ k1]
  have mT : CT ((sv (wt (sv mi 19 t1) 103 1 (b - a + 1)) 104 t) 104) ((sv (wt (sv mi 19 t1) 103 1 (b - a + 1)) 104 t) 135) a e (b - a + 1) := hT
  generalize sv (wt (sv mi 19 t1) 103 1 (b - a + 1)) 104 t = M at *
  refine s_R_weigh (by omega) HM (CX.rfl' M) m103 mT (fun m2 F2 k15 k16 S2 D2 => ?_)
  have hn := HM.2.2.2.2.2.2
  have sl := HM.1.2.2.2.1
  have pr := HM.1.2.2.2.2.2
  have g28 : m2 2 8 = M 135 0 := by rw [F2 2 (by decide) (by decide)]; exact HM.1.1
  refine s_R_leastKey (by omega) HM g28 k16 D2 (fun z hz => ?_)
  -- the reference, up to the least key
  have REF : ∀ (mc : MT) (Q : Int → MT → Prop), (∀ k : Nat, (0 < k ∧ k < 100) ∨ 124 < k → mc k = M k) → (∀ (m3 M' : MT), HX M' a e (b - a + 1) → sgX M' a e (b - a + 1) = sgX M a e (b - a + 1) → M' 135 = M 135 → RX M' m3 → (∀ k : Nat, k ≠ 134 → k ≠ 159 → M' k = mc k) → (∀ j : Nat, j ≠ 40 → M' 134 j = mc 134 j) → RS3 M' a e (b - a + 1) m3 → LKM M' (M' 135) a e (b - a + 1) → (z < 268435456 → (0 ≤ z ∧ z < 2147483648) ∧ c_M_start (d - 1) m3 (fun m4 => h_M_read_64 d a b e z (z % 32) (-1) 0 m4 Q)) ∧ (268435456 ≤ z → Q (-6) (wt m3 134 3 (min (-6) 0)))) → c_M_read d a b e mc Q := by
    intro mc Q rc hh
    refine v_M_read ⟨by omega, fun _ => ?_, fun q3 => absurd q q3⟩
    refine ref_lays (M := M) (by omega) HM q.1 (fun k hk => rc k (by omega)) (by rw [rc 134 (by omega)]) (fun m3 M' H' sE eE R3 rO r4 C3 LK => ?_)
    refine s_M_least (by omega) H' C3.1 C3.2.2 (fun z2 hz2 => ?_)
    have ez : z2 = z := by rw [allX_e sE eE] at hz2; exact MN_eq hz2 hz
    subst ez
    exact hh m3 M' H' sE eE R3 rO r4 C3 LK
  refine ⟨fun q3 => ?_, fun q3 => ?_⟩
  · -- a row is read
    obtain ⟨r, hBR⟩ := BR_ex HM hz q3
    have cn := rdX_cnt HM hBR.1.2.1
    have cn2 := cn.2.2 (by omega)
    have zb := allX_in HM (hz.1 q3)
    have C0 : CS0 M a e (b - a + 1) m2 := ⟨g28, by rw [F2 103 (by decide) (by decide)]; exact m103, k15, k16, by rw [F2 104 (by decide) (by decide)]; exact mT, S2, D2⟩
    refine s_R_findBest (by omega) HM C0 hz q3 hBR (fun m4 F4 e14 hrow => ?_)
    rw [e14]
    have rr4 : ∀ k : Nat, (k < 100 ∨ 102 < k) → (k < 105 ∨ 116 < k) → m4 k = M k := fun k k1 k2 => by rw [F4.1 k (by omega) (by omega) (by omega) (by omega)]; exact F2 k k1 (by omega)
    have BR' : BR M a e (b - a + 1) z (fun p => m4 116 p.toNat) := BRk_cg hBR (fun j j0 j1 => hrow j j0 (by omega))
    have hr : RVx M (fun p => m4 116 p.toNat) (z % 32) := ⟨by omega, fun p p0 p1 => BRk_in BR' p p0 (by omega)⟩
    refine s_L_lay (by omega) HM (fun k hk => rr4 k (by omega) (by omega)) (by rw [rr4 134 (by decide) (by decide)]) hr.1.2 hr (fun m5 F5 e9 e122 _ LL => ?_)
    generalize hrr : (fun p : Int => m4 116 p.toNat) = r2 at *
    have er2 : ∀ p : Int, r2 p = m4 116 p.toNat := fun p => by rw [← hrr]
    -- it is not too long
    have OK : osn M r2 (z % 32) (z % 32).toNat ≤ b - a + 1 := by
      have O := BRk_onw BR' (z % 32 - 1).toNat (Nat.le_refl _)
      have hB := AHr_bd (M := M) (fr := a) (kn := e) (n := b - a + 1) (r := r2) HM (z % 32 - 1).toNat
      rcases ONW_or HM O hB with ⟨x, hx, _⟩ | ⟨c, _, hc⟩
      · rw [show (((z % 32 - 1).toNat : Nat) : Int) = z % 32 - 1 by omega] at hx
        exact GOr_len HM hr ((EN_GO HM hr).mp hx)
      · have := CHO_cnt HM (by omega) hB hc; omega
    obtain ⟨l5, LA⟩ : m5 117 5 = 0 ∧ LAID M r2 (z % 32) (m5 118) (m5 119) (m5 120) (m5 117 4) := by
      rcases LL with l | ⟨_, _, l⟩
      · exact l
      · omega
    have rr5 : ∀ k : Nat, (k < 100 ∨ 102 < k) → (k < 105 ∨ 122 < k) → m5 k = M k := fun k k1 k2 => by rw [F5 k (by omega) (by omega) (by omega) (by omega)]; exact rr4 k k1 (by omega)
    have k2 : m5 2 = M 2 := rr5 2 (by decide) (by decide)
    have zl := LAID_z HM hr LA
    have z20 := LA.2.1
    have zn : m5 117 4 ≤ b - a + 1 := by rw [LA.1]; exact OK
    refine s_L_measure (N := z % 32) (by omega) HM (by rw [rr5 103 (by decide) (by decide)]; exact m103) (by rw [rr5 104 (by decide) (by decide)]; exact mT) (by rw [k2]; exact HM.1.2.2.1) (by rw [k2]; exact HM.1.2.2.2.2.1) ⟨zl, z20⟩ e9 hr.1 (fun _ i i0 i1 => LAID_ok HM hr LA i0 i1) (fun y => by omega) (fun _ _ tk hR => ?_)
    obtain ⟨A, B⟩ := line_MN HM hr LA hR zn
    have mp := mul_in (x := z % 32) (y := M 135 4) (X := 20) (Y := 1000) (by omega) (by omega)
    have ec := BR_cost HM hz BR' A (by omega)
    rw [ec]
    have g6 : (sv (wt m5 117 10 (b - a + 1)) 121 tk) 2 9 = M 135 3 := by
      show m5 2 9 = _
      rw [k2]; exact HM.1.2.2.1
    rw [g6]
    refine s_L_follow (n := b - a + 1) (z := m5 117 4) (pl := m5 119) (t := tk) (nu := m5 120) (by omega) (by rw [sv_ne _ _ (by decide)]; exact wt_same _ _ _ _) (by rw [sv_ne _ _ (by decide)]; exact wt_ne _ _ (by decide)) rfl rfl rfl hn ⟨zl, z20⟩ sl (fun i f i0 i1 f0 f1 => (hR i f ⟨i0, i1⟩ ⟨f0, f1⟩ trivial).2) (fun m7 F7 h7 => ?_)
    have T : TBB M a e (b - a + 1) r2 (z % 32) (m5 118) (m5 119) (m5 120) tk (m5 117 4) := ⟨HM, hr, LA, hR⟩
    have rr7 : ∀ k : Nat, (k < 100 ∨ 102 < k) → (k < 105 ∨ 124 < k) → m7 k = M k := fun k k1 k2 => by rw [F7 k (by omega) (by omega), sv_ne _ _ (by omega), wt_row _ _ (by omega)]; exact rr5 k k1 (by omega)
    have c9 : m7 117 9 = z % 32 := by rw [F7 117 (by decide) (by decide)]; rw [sv_ne _ _ (by decide), wt_ne _ _ (by decide)]; exact e9
    have c10 : m7 117 10 = b - a + 1 := by rw [F7 117 (by decide) (by decide)]; rw [sv_ne _ _ (by decide)]; exact wt_same _ _ _ _
    have c122 : ∀ p : Int, 0 ≤ p → p < z % 32 → m7 122 p.toNat = r2 p := fun p p0 p1 => by rw [F7 122 (by decide) (by decide)]; show m5 122 p.toNat = _; rw [e122 p p0 p1, er2]
    -- the class's memory
    have mc : ∀ k : Nat, (0 < k ∧ k < 100) ∨ 124 < k → (wt (wt m7 0 11 a) 0 13 (min (z / 32) 0)) k = M k := fun k hk => by rw [wt_row _ _ (by omega), wt_row _ _ (by omega)]; exact rr7 k (by omega) (by omega)
    have mcl : ∀ k : Nat, 0 < k → (wt (wt m7 0 11 a) 0 13 (min (z / 32) 0)) k = m7 k := fun k hk => by rw [wt_row _ _ (by omega), wt_row _ _ (by omega)]
    have mc11 : (wt (wt m7 0 11 a) 0 13 (min (z / 32) 0)) 0 11 = a := by rw [wt_ne _ _ (by decide), wt_same]
    have mc13 : (wt (wt m7 0 11 a) 0 13 (min (z / 32) 0)) 0 13 = min (z / 32) 0 := wt_same _ _ _ _
    have mc0 : ∀ j : Nat, j ≠ 13 → j ≠ 11 → (wt (wt m7 0 11 a) 0 13 (min (z / 32) 0)) 0 j = mi 0 j := fun j j1 j2 => by rw [wt_ne _ _ j1, wt_ne _ _ j2, rr7 0 (by decide) (by decide), mO 0 (by decide) (by decide) (by decide)]
    generalize wt (wt m7 0 11 a) 0 13 (min (z / 32) 0) = mc' at *
    refine REF mc' _ mc (fun m3 M' H' sE eE R3 rO r4 C3 LK => ⟨fun _ => ⟨by omega, ?_⟩, fun y => by omega⟩)
    refine s_M_start (fun t4 hA => ?_)
    have C4 : RS3 M' a e (b - a + 1) (sv m3 164 t4) := ⟨C3.1, C3.2.1, RSI_r C3.2.2 rfl rfl⟩
    have R4 : RX M' (sv m3 164 t4) := R3.trans ⟨fun k _ _ _ k4 => sv_ne _ _ (by omega), fun _ _ _ => rfl⟩
    have A4 : AHD (sv m3 164 t4) A0 0 (b - a + 1) := fun g g0 g1 => hA g g0 (by omega)
    generalize sv m3 164 t4 = m4' at *
    have hz' : MN (fun v => allX M' a e (b - a + 1) v) z := by rw [allX_e sE eE]; exact hz
    refine s_M_row (M := M') (r := r2) (by omega) H' C4 hz' q3 (BRk_e sE eE BR') A4 (fun m8 x y F8 w8 => ?_)
    refine v_M_read_98 ⟨fun _ => ⟨by omega, ?_⟩, fun y2 => by omega⟩
    have x40 : m8 134 40 = b - a + 1 := by rw [F8 134 (by decide) (by decide)]; exact C4.2.1
    rw [x40]
    -- rows of the reference
    have q8 : ∀ k : Nat, k ≠ 134 → k ≠ 152 → (k < 158 ∨ 165 < k) → m8 k = mc' k := fun k k1 k2 k3 => by rw [F8 k (by omega) (by omega), R4.1 k k1 k2 (by omega) (by omega)]; exact rO k k1 (by omega)
    have q84 : ∀ j : Nat, j ≠ 39 → j ≠ 40 → j ≠ 56 → m8 134 j = mc' 134 j := fun j j1 j2 j3 => by rw [F8 134 (by decide) (by decide), R4.2 j j1 j3]; exact r4 j j2
    have q159 : m8 159 = M' 159 := by rw [F8 159 (by decide) (by decide)]; exact R4.1 159 (by decide) (by decide) (by decide) (by decide)
    have w3 : ∀ k : Nat, k ≠ 134 → (wt (wt (wt m8 134 50 (z % 32)) 134 51 a) 134 52 (b - a + 1)) k = m8 k := fun k hk => by rw [wt_row _ _ hk, wt_row _ _ hk, wt_row _ _ hk]
    have w34 : ∀ j : Nat, (j < 50 ∨ 52 < j) → (wt (wt (wt m8 134 50 (z % 32)) 134 51 a) 134 52 (b - a + 1)) 134 j = m8 134 j := fun j hj => by rw [wt_ne _ _ (by omega), wt_ne _ _ (by omega), wt_ne _ _ (by omega)]
    have w50 : (wt (wt (wt m8 134 50 (z % 32)) 134 51 a) 134 52 (b - a + 1)) 134 50 = z % 32 := by rw [wt_ne _ _ (by decide), wt_ne _ _ (by decide), wt_same]
    have w51 : (wt (wt (wt m8 134 50 (z % 32)) 134 51 a) 134 52 (b - a + 1)) 134 51 = a := by rw [wt_ne _ _ (by decide), wt_same]
    have w52 : (wt (wt (wt m8 134 50 (z % 32)) 134 51 a) 134 52 (b - a + 1)) 134 52 = b - a + 1 := wt_same _ _ _ _
    generalize wt (wt (wt m8 134 50 (z % 32)) 134 51 a) 134 52 (b - a + 1) = m9 at *
    refine s_M_leads (by omega) T zn (fun k hk => ?_) ?_ ⟨by rw [w34 40 (by decide)]; exact x40, fun f f0 f1 k k0 k1 => ?_⟩ w50 (fun p p0 p1 => by rw [w3 165 (by decide)]; exact w8 p p0 p1) (fun m10 F10 F104 h10' => ?_)
    · rw [w3 k (by omega), q8 k (by omega) (by omega) (by omega)]; exact mc k (by omega)
    · rw [w34 15 (by decide), q84 15 (by decide) (by decide) (by decide), mc 134 (by omega)]
    · rw [w3 159 (by decide), q159, ← eE]; exact LK.2 f f0 f1 k k0 k1
    refine ⟨by omega, ?_⟩
    have y3 : ∀ k : Nat, k ≠ 134 → (wt m10 134 3 (min (z / 32) 0)) k = m10 k := fun k hk => wt_row _ _ hk
    have y34 : ∀ j : Nat, j ≠ 3 → (wt m10 134 3 (min (z / 32) 0)) 134 j = m10 134 j := fun j hj => wt_ne _ _ hj
    have y33 : (wt m10 134 3 (min (z / 32) 0)) 134 3 = min (z / 32) 0 := wt_same _ _ _ _
    generalize wt m10 134 3 (min (z / 32) 0) = m11 at *
    have Z : ∀ k : Nat, k ≠ 134 → k ≠ 152 → (k < 158 ∨ 170 < k) → m11 k = mc' k := fun k k1 k2 k3 => by rw [y3 k k1, F10 k k1 k2 (by omega) (by omega), w3 k k1]; exact q8 k k1 k2 (by omega)
    have Z0 : m11 0 = mc' 0 := Z 0 (by decide) (by decide) (by decide)
    refine Ith.mk rfl (read_Inv hV (fun k hk => ?_) (fun j j1 j2 => by rw [Z0]; exact mc0 j j1 j2) (fun j j1 j2 j3 j4 j5 => ?_) ?_ ?_) ?_
    · rw [Z k (by omega) (by omega) (by omega), mc k (by omega)]; exact mO k (by omega) (by omega) (by omega)
    · rw [y34 j j1, F104 j j2, w34 j j4, q84 j j2 j3 j5, mc 134 (by omega), mO 134 (by decide) (by decide) (by decide)]
    · rw [Z0, mc13, y33]
    · have l50 : m11 134 50 = z % 32 := by rw [y34 50 (by decide), F104 50 (by decide)]; exact w50
      have l51 : m11 134 51 = a := by rw [y34 51 (by decide), F104 51 (by decide)]; exact w51
      have l52 : m11 134 52 = b - a + 1 := by rw [y34 52 (by decide), F104 52 (by decide)]; exact w52
      have l117 : m11 117 = m7 117 := by rw [Z 117 (by decide) (by decide) (by decide)]; exact mcl 117 (by decide)
      have l122 : m11 122 = m7 122 := by rw [Z 122 (by decide) (by decide) (by decide)]; exact mcl 122 (by decide)
      have l123 : m11 123 = m7 123 := by rw [Z 123 (by decide) (by decide) (by decide)]; exact mcl 123 (by decide)
      have l124 : m11 124 = m7 124 := by rw [Z 124 (by decide) (by decide) (by decide)]; exact mcl 124 (by decide)
      have l165 : m11 165 = m8 165 := by rw [y3 165 (by decide), F10 165 (by decide) (by decide) (by decide) (by decide)]; exact w3 165 (by decide)
      have l166 : m11 166 = m10 166 := y3 166 (by decide)
      have l167 : m11 167 = m10 167 := y3 167 (by decide)
      unfold Lat
      rw [Z0, mc11, l50, l51, l52, l117, l122, l123, l124, l165, l166, l167]
      refine ⟨by omega, Or.inr ⟨by omega, c9, c10, rfl, by omega, fun k k0 k1 => by rw [c122 k k0 k1, w8 k k0 k1], fun k k0 k1 => ?_⟩⟩
      rw [(h7 k k0 k1).1, (h7 k k0 k1).2, (h10' k k0 k1).1, (h10' k k0 k1).2]
      exact ⟨rfl, rfl⟩
    · rw [Z 1000 (by decide) (by decide) (by decide), mc 1000 (by omega)]; exact mO 1000 (by decide) (by decide) (by decide)
  · -- no row
    have F2' : ∀ k : Nat, (k < 100 ∨ 102 < k) → (k < 105 ∨ 113 < k) → m2 k = M k := fun k k1 k2 => F2 k k1 k2
    refine REF (wt m2 0 13 (min (-6) 0)) _ (fun k hk => by rw [wt_row _ _ (by omega)]; exact F2' k (by omega) (by omega)) (fun m3 M' H' sE eE R3 rO r4 C3 LK => ⟨fun y => by omega, fun _ => ?_⟩)
    refine IP _ _ (ends_PK hB (fun k hk => ?_) (fun j hj => ?_) (fun j j1 j2 j3 j4 => ?_) ?_)
    · rw [wt_row _ _ (by omega), R3.1 k (by omega) (by omega) (by omega) (by omega), rO k (by omega) (by omega), wt_row _ _ (by omega), F2' k (by omega) (by omega)]; exact mO k (by omega) (by omega) (by omega)
    · rw [wt_row _ _ (by decide), R3.1 0 (by decide) (by decide) (by decide) (by decide), rO 0 (by decide) (by decide), wt_ne _ _ hj, F2' 0 (by decide) (by decide), mO 0 (by decide) (by decide) (by decide)]
    · rw [wt_ne _ _ j1, R3.2 j j2 j4, r4 j j3, wt_row _ _ (by decide), F2' 134 (by decide) (by decide), mO 134 (by decide) (by decide) (by decide)]
    · rw [wt_row _ _ (by decide), R3.1 0 (by decide) (by decide) (by decide) (by decide), rO 0 (by decide) (by decide), wt_same, wt_same]
end CAREAD
