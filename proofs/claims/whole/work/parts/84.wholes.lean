section WHOLES
variable {d : Nat} {M : MT} {fr kn n : Int}
theorem SF_cg {m m' : MT} {a b c : Int} (e3 : m' 3 = m 3) (e4 : m' 4 = m 4) (e10 : m' 10 = m 10) (e11 : m' 11 = m 11) (e12 : m' 12 = m 12) (e13 : m' 13 = m 13) (e102 : m' 102 = m 102) (e135 : m' 135 = m 135) : SF m' a b c = SF m a b c := by
  unfold SF SFq SFp FO
  rw [e3, e4, e10, e11, e12, e13, e102, e135]
/-- what the reading of frames rests on -/
def HX (M : MT) (fr kn n : Int) : Prop := P_num (M 2) (M 135) ∧ P_sgn (M 3) (M 4) (M 135) ∧ P_xy (M 5) (M 6) (M 135) ∧ P_w (M 7) (M 135) ∧ P_si (M 14) (M 16) (M 17) (M 18) (M 135) ∧ RulR (M 10 3) (M 10 4) (M 10 5) (M 11) (M 12) (M 13) M ∧ (1 ≤ n ∧ n ≤ 20)
def VS (S a b c : Int) : Prop := (a = -1 ∨ (0 ≤ a ∧ a < S)) ∧ (0 ≤ b ∧ b < S) ∧ (c = -1 ∨ (0 ≤ c ∧ c < S))
theorem SOK_SF {a b c : Int} (H : HX M fr kn n) (hv : VS (M 135 0) a b c) : SOK (SF M a b c) := by
  obtain ⟨h1, h2, h3, h4, h6, hU, hn⟩ := H
  have zk : ∀ x : Int, 0 ≤ x → x < M 10 4 → M 13 x.toNat / 1024 % 8 ≤ 4 := fun x x0 x1 => (aRel_z (hU.2.2.1 x x0 x1)).2.1
  have SFO : ∀ (x y side : Int) (p : Int × (Nat → Int)), SOK p → SOK (FO M x y side p) := fun x y side p hp => SOK_fo _ _ _ hp (fun z z0 z1 => zk z z0 (by have := hU.1.2; omega))
  have S0 := SOK_0 h2 h1.2.1.2 hv.2.1
  unfold SF SFq
  split
  · split
    · exact S0
    · exact SFO _ _ _ _ S0
  · split
    · exact SFO _ _ _ _ S0
    · exact SFO _ _ _ _ (SFO _ _ _ _ S0)
/-- the cost of a frame at a state of a surface -/
def kc (M : MT) (fr kn a b c : Int) : Int → Int → Int := fun f i => KF (M 135) fr kn f ((SF M a b c).2 i.toNat)
theorem kc_in {a b c : Int} (H : HX M fr kn n) (hv : VS (M 135 0) a b c) {f i : Int} (hi : 0 ≤ i ∧ i < (SF M a b c).1) : 0 ≤ kc M fr kn a b c f i ∧ kc M fr kn a b c f i ≤ 3200 := by
  have := SOK_SF H hv
  obtain ⟨h1, h2, h3, h4, h6, hU, hn⟩ := H
  exact KF_in h3 h4 h6 (this.2 i hi.1 hi.2)
def sgX (M : MT) (fr kn n a b c f g v : Int) : Prop := ((0 ≤ f ∧ g ≤ n) ∧ VS (M 135 0) a b c) ∧ SG (kc M fr kn a b c) (SF M a b c).1 f g v
theorem sgX_in (H : HX M fr kn n) (a b c f g v : Int) (h : sgX M fr kn n a b c f g v) : f < g ∧ 0 ≤ v ∧ v ≤ 64000 := by
  refine ⟨h.2.1, SG_in (m := n) (fun g i _ _ i0 i1 => kc_in H h.1.2 ⟨i0, i1⟩) ⟨h.1.1.2, H.2.2.2.2.2.2.2⟩ h.1.1.1 h.2⟩
/-- what the reference's own work leaves -/
def RX (m m2 : MT) : Prop := (∀ k : Nat, k ≠ 134 → k ≠ 152 → k ≠ 158 → (k < 160 ∨ 164 < k) → m2 k = m k) ∧ ∀ j : Nat, j ≠ 39 → j ≠ 56 → m2 134 j = m 134 j
theorem RX.rfl' (m : MT) : RX m m := ⟨fun _ _ _ _ _ => rfl, fun _ _ _ => rfl⟩
theorem RX.trans {a b c : MT} (h1 : RX a b) (h2 : RX b c) : RX a c := ⟨fun k x y z w => (h2.1 k x y z w).trans (h1.1 k x y z w), fun j x y => (h2.2 j x y).trans (h1.2 j x y)⟩
/-- the same, but for what wholes writes -/
def RW (m m2 : MT) : Prop := (∀ k : Nat, k ≠ 134 → k ≠ 152 → k ≠ 158 → k ≠ 160 → k ≠ 161 → m2 k = m k) ∧ ∀ j : Nat, j ≠ 39 → m2 134 j = m 134 j
theorem RW.rx {m m2 : MT} (h : RW m m2) : RX m m2 := ⟨fun k a b c e => h.1 k a b c (by omega) (by omega), fun j a _ => h.2 j a⟩
theorem RX_H {m : MT} (H : HX M fr kn n) (hR : RX M m) : HX m fr kn n := by
  obtain ⟨h1, h2, h3, h4, h6, hU, hn⟩ := H
  have r : ∀ k : Nat, k < 134 ∨ (134 < k ∧ k < 152) → m k = M k := fun k hk => hR.1 k (by omega) (by omega) (by omega) (by omega)
  unfold HX
  simp (disch := decide) only [r]
  exact ⟨h1, h2, h3, h4, h6, RulR_m hU (hR.2 15 (by decide) (by decide)) (fun k hk => hR.1 k (by omega) (by omega) (by omega) (by omega)), hn⟩
theorem RX_SF {m : MT} {a b c : Int} (hR : RX M m) : SF m a b c = SF M a b c :=
  SF_cg (hR.1 3 (by decide) (by decide) (by decide) (by decide)) (hR.1 4 (by decide) (by decide) (by decide) (by decide)) (hR.1 10 (by decide) (by decide) (by decide) (by decide)) (hR.1 11 (by decide) (by decide) (by decide) (by decide)) (hR.1 12 (by decide) (by decide) (by decide) (by decide)) (hR.1 13 (by decide) (by decide) (by decide) (by decide)) (hR.1 102 (by decide) (by decide) (by decide) (by decide)) (hR.1 135 (by decide) (by decide) (by decide) (by decide))
theorem wt_sv2 {m : MT} {c c' i : Nat} {z : Int} {w t : Nat → Int} (h : c ≠ c') : wt (sv (sv m c w) c' t) c i z = sv (sv m c (sv w i z)) c' t := by
  funext k
  rw [wt_r]
  by_cases e : k = c
  · subst e
    rw [if_pos rfl, sv_ne _ _ h, sv_eq, sv_ne _ _ h, sv_eq]
  · rw [if_neg e]
    by_cases e2 : k = c'
    · subst e2; rw [sv_eq, sv_eq]
    · rw [sv_ne _ _ e2, sv_ne _ _ e2, sv_ne _ _ e, sv_ne _ _ e]
theorem s_M_wholes {m : MT} {P : MT → Prop} {a b c f0 : Int} (hd : 17 < d) (H : HX M fr kn n) (hL : LKM M (M 135) fr kn n) (hR : RX M m) (hv : VS (M 135 0) a b c) (hf : 0 ≤ f0 ∧ f0 < n) (h : ∀ m1 : MT, RW m m1 → (∀ g : Int, 0 ≤ g → g ≤ n → MN (fun v => sgX M fr kn n a b c f0 g v) (m1 160 g.toNat)) → P m1) : c_M_wholes d a b c f0 m P := by
  have Hm := RX_H H hR
  have S1 := SOK_SF H hv
  have hn := H.2.2.2.2.2.2
  have m135 : m 135 = M 135 := hR.1 135 (by decide) (by decide) (by decide) (by decide)
  have m159 : m 159 = M 159 := hR.1 159 (by decide) (by decide) (by decide) (by decide)
  have m40 : m 134 40 = n := by rw [hR.2 40 (by decide) (by decide)]; exact hL.1
  refine v_M_wholes ⟨by omega, s_M_surfaces (mi := m) (by omega) Hm.2.1 Hm.1.2.1.2 Hm.2.2.2.2.2.1 (FC.rfl' m) (by rw [m135]; exact hv.1) (by rw [m135]; exact hv.2.1) (by rw [m135]; exact hv.2.2) (fun m0 F0 R0 => ?_)⟩
  rw [RX_SF hR] at R0
  have z1 := S1.1
  have e39 : m0 134 39 = (SF M a b c).1 := R0.1
  have e40 : m0 134 40 = n := by rw [F0.2 40 (by decide)]; exact m40
  have e135 : m0 135 = M 135 := by rw [F0.1 135 (by decide) (by decide) (by decide)]; exact m135
  have e159 : m0 159 = M 159 := by rw [F0.1 159 (by decide) (by decide) (by decide)]; exact m159
  have LK0 : ∀ w t : Nat → Int, LKM (sv (sv m0 160 w) 161 t) (M 135) fr kn n := fun w t => ⟨e40, fun f f0 f1 k k0 k1 => by show m0 159 _ = _; rw [e159]; exact hL.2 f f0 f1 k k0 k1⟩
  have FW : ∀ w t : Nat → Int, RW m (sv (sv m0 160 w) 161 t) := fun w t => ⟨fun k a b c e f => by rw [sv_ne _ _ f, sv_ne _ _ e]; exact F0.1 k a b c, fun j hj => by show m0 134 j = _; exact F0.2 j hj⟩
  have KI : ∀ f i : Int, 0 ≤ i → i < (SF M a b c).1 → 0 ≤ kc M fr kn a b c f i ∧ kc M fr kn a b c f i ≤ 3200 := fun f i i0 i1 => kc_in H hv ⟨i0, i1⟩
  have PB : ∀ (q : Nat) (s t v : Int), f0 + q < n → 0 ≤ s → t < (SF M a b c).1 → PT (kc M fr kn a b c) f0 q s t v → 0 ≤ v ∧ v ≤ 3200 * (q + 1) := fun q s t v hq => PT_in (z := (SF M a b c).1) (m := n) (fun g i _ _ i0 i1 => KI g i i0 i1) q s t v hq
  generalize hz : (SF M a b c).1 = z at *
  -- the frames
  have LF : ∀ f : Int, f ≤ n → f0 ≤ f → ∀ w t : Nat → Int, (∀ g : Int, 0 ≤ g → g ≤ f → MN (fun v => sgX M fr kn n a b c f0 g v) (w g.toNat)) → (∀ g : Int, f < g → g ≤ n → w g.toNat = 268435456) → (f0 < f → ∀ s : Int, 0 ≤ s → s < z → MN (fun v => PT (kc M fr kn a b c) f0 (f - f0 - 1).toNat 0 s v) (t s.toNat)) → h_M_wholes_64 d a b c f0 f (sv (sv m0 160 w) 161 t) P := by
    refine upto _ (fun f hfn ih hf0 w t w1 w2 t1 => ?_)
    refine v_M_wholes_64 ?_
    have x40 : (sv (sv m0 160 w) 161 t) 134 40 = n := e40
    have x39 : (sv (sv m0 160 w) 161 t) 134 39 = z := e39
    rw [x40, x39]
    refine ⟨fun q => h _ (FW w t) (fun g g0 g1 => w1 g g0 (by omega)), fun q => ⟨by omega, ?_⟩⟩
    -- the states, downwards
    have LS : ∀ s : Int, -1 ≤ s → s < z → ∀ t' : Nat → Int, (∀ i : Int, 0 ≤ i → i ≤ s → t' i.toNat = t i.toNat) → (∀ i : Int, s < i → 0 ≤ i → i < z → MN (fun v => PT (kc M fr kn a b c) f0 (f - f0).toNat 0 i v) (t' i.toNat)) → h_M_wholes_81 d a b c f0 f s (sv (sv m0 160 w) 161 t') P := by
      refine dnto _ (fun s hs ihs hsz t' y1 y2 => ?_)
      refine v_M_wholes_81 ⟨fun g => ?_, fun g => ?_⟩
      · have x39' : (sv (sv m0 160 w) 161 t') 134 39 = z := e39
        rw [x39']
        refine ⟨by omega, ?_⟩
        rw [wt_sv2 (by decide)]
        have ev : (sv (sv m0 160 w) 161 t') 161 (z - 1).toNat = t' (z - 1).toNat := rfl
        rw [ev]
        refine ih q (by omega) _ t' (fun g' g0 g1 => ?_) (fun g' g0 g1 => by rw [svn _ _ (by omega)]; exact w2 g' (by omega) g1) (fun _ i i0 i1 => ?_)
        · by_cases e : g' = f + 1
          · subst e
            rw [sv_eq]
            refine MN_cg (y2 (z - 1) (by omega) (by omega) (by omega)) (fun v => ?_)
            unfold sgX SG
            rw [hz, show (f + 1 - f0 - 1).toNat = (f - f0).toNat by omega]
            exact ⟨fun x => x.2.2, fun x => ⟨⟨⟨hf.1, by omega⟩, hv⟩, by omega, x⟩⟩
          · rw [svn _ _ (by omega)]; exact w1 g' g0 (by omega)
        · rw [show (f + 1 - f0 - 1).toNat = (f - f0).toNat by omega]
          exact y2 i (by omega) i0 i1
      · have SRx : ∀ j : Int, 0 ≤ j → j < 4 → (sv (sv m0 160 w) 161 t') 158 (4 * s + j).toNat = mkv ((SF M a b c).2 s.toNat) j := fun j j0 j1 => R0.2 s g (by omega) j j0 j1
        have okx : okSt ((SF M a b c).2 s.toNat) := S1.2 s g (by omega)
        have kI := KI f s g hsz
        -- what is written
        have WR : ∀ (x : Int) (T : Int → Prop), MN T x → (∀ v, T v → v ≤ 64000 ∧ 0 ≤ v) → (∀ v, PT (kc M fr kn a b c) f0 (f - f0).toNat 0 s v ↔ T (v - kc M fr kn a b c f s)) → h_M_wholes_154 d a b c f0 f s x (sv (sv m0 160 w) 161 t') P := by
          intro x T hT hb hE
          have NX : h_M_wholes_81 d a b c f0 f (s + (-1)) (sv (sv m0 160 w) 161 (sv t' s.toNat (if x < 268435456 then x + kc M fr kn a b c f s else 268435456))) P := by
            refine ihs (by omega) (by omega) _ (fun i i0 i1 => by rw [svn _ _ (by omega)]; exact y1 i i0 (by omega)) (fun i i0 i1 i2 => ?_)
            by_cases e : i = s
            · subst e
              rw [sv_eq]
              exact MN_cg (MN_add hT kI.1 (fun v hv => by have := hb v hv; omega)) hE
            · rw [svn _ _ (by omega)]; exact y2 i (by omega) i1 i2
          refine v_M_wholes_154 ⟨fun g1 => ⟨by omega, ?_⟩, fun g1 => ⟨by omega, ?_⟩⟩
          · refine s_M_costOf (xs := M 5) (ys := M 6) (w := M 7) (wo := M 14) (sl := M 16) (da := M 17) (ma := M 18) (c := M 135) (fr := fr) (kn := kn) (n := n) (x := (SF M a b c).2 s.toNat) (by omega) H.2.2.1 H.2.2.2.1 H.2.2.2.2.1 e135 (LK0 w t') (by omega) (by omega) okx SRx ?_
            have := hb x (hT.1 g1)
            have ek : KF (M 135) fr kn f ((SF M a b c).2 s.toNat) = kc M fr kn a b c f s := rfl
            rw [ek]
            refine ⟨by omega, ?_⟩
            rw [wt_sv]
            rw [if_pos g1] at NX
            exact NX
          · rw [wt_sv]
            rw [if_neg (by omega)] at NX
            exact NX
        refine ⟨fun nf => ⟨by omega, ?_⟩, fun ef => ⟨fun ns => ?_, fun es => ?_⟩⟩
        · have ev : (sv (sv m0 160 w) 161 t') 161 s.toNat = t s.toNat := y1 s g (Int.le_refl _)
          rw [ev]
          obtain ⟨q1, hq1⟩ : ∃ q1 : Nat, (f - f0).toNat = q1 + 1 := ⟨(f - f0).toNat - 1, by omega⟩
          have hq2 : (f - f0 - 1).toNat = q1 := by omega
          have T0 := t1 (by omega) s g hsz
          rw [hq2] at T0
          have bnd : ∀ (i v : Int), i < z → PT (kc M fr kn a b c) f0 q1 0 i v → v ≤ 64000 ∧ 0 ≤ v := fun i v hi hp => by have := PB q1 0 i v (by omega) (by omega) hi hp; omega
          have kf : f0 + (q1 : Int) + 1 = f := by omega
          refine v_M_wholes_115 ⟨fun g1 => by omega, fun g1 => ⟨fun g2 => ?_, fun g2 => ?_⟩⟩
          · have s0 : s = 0 := by omega
            refine WR _ _ T0 (fun v hp => bnd s v hsz hp) (fun v => ?_)
            rw [hq1]
            constructor
            · rintro ⟨t2, v2, hp, e, rfl⟩
              have := PT_st _ _ _ _ _ _ hp
              have : t2 = s := by omega
              subst this
              rw [kf, show v2 + kc M fr kn a b c f t2 - kc M fr kn a b c f t2 = v2 by omega]; exact hp
            · intro hp
              exact ⟨s, _, hp, Or.inl rfl, by rw [kf]; omega⟩
          · have ev1 : (sv (sv m0 160 w) 161 t') 161 (s - 1).toNat = t (s - 1).toNat := y1 (s - 1) (by omega) (by omega)
            rw [ev1]
            have T1 := t1 (by omega) (s - 1) (by omega) (by omega)
            rw [hq2] at T1
            have TM := MN_or T0 T1
            have EQ : ∀ v, PT (kc M fr kn a b c) f0 (f - f0).toNat 0 s v ↔ (PT (kc M fr kn a b c) f0 q1 0 s (v - kc M fr kn a b c f s) ∨ PT (kc M fr kn a b c) f0 q1 0 (s - 1) (v - kc M fr kn a b c f s)) := by
              intro v
              rw [hq1]
              constructor
              · rintro ⟨t2, v2, hp, e, rfl⟩
                rw [kf, show v2 + kc M fr kn a b c f s - kc M fr kn a b c f s = v2 by omega]
                rcases e with e | e
                · subst e; exact Or.inl hp
                · rw [show s - 1 = t2 by omega]; exact Or.inr hp
              · rintro (hp | hp)
                · exact ⟨s, _, hp, Or.inl rfl, by rw [kf]; omega⟩
                · exact ⟨s - 1, _, hp, Or.inr (by omega), by rw [kf]; omega⟩
            have BD : ∀ v, (PT (kc M fr kn a b c) f0 q1 0 s v ∨ PT (kc M fr kn a b c) f0 q1 0 (s - 1) v) → v ≤ 64000 ∧ 0 ≤ v := fun v hv => hv.elim (fun x => bnd s v hsz x) (fun x => bnd (s - 1) v (by omega) x)
            refine ⟨by omega, fun g3 => ?_, fun g3 => ?_⟩
            · rw [Int.min_eq_left g3] at TM
              exact WR _ _ TM BD EQ
            · rw [Int.min_eq_right (by omega)] at TM
              exact WR _ _ TM BD EQ
        · refine v_M_wholes_115 ⟨fun _ => ?_, fun g1 => by omega⟩
          refine WR _ (fun _ => False) (MN_far (fun v hv => hv)) (fun v hv => hv.elim) (fun v => ?_)
          rw [show (f - f0).toNat = 0 by omega]
          exact ⟨fun hp => ns hp.1.symm, fun hp => hp.elim⟩
        · refine v_M_wholes_115 ⟨fun _ => ?_, fun g1 => by omega⟩
          refine WR _ (fun v => v = 0) ⟨fun _ => rfl, fun v hv => by omega, by omega⟩ (fun v hv => by omega) (fun v => ?_)
          rw [show (f - f0).toNat = 0 by omega, es, ef]
          show (0 : Int) = 0 ∧ v = kc M fr kn a b c f0 0 ↔ _
          constructor
          · rintro ⟨_, rfl⟩; omega
          · intro e; exact ⟨rfl, by omega⟩
    exact LS (z - 1) (by omega) (by omega) t (fun _ _ _ => rfl) (fun i i0 i1 i2 => by omega)
  have L3 : ∀ i : Int, i ≤ 4 → 0 ≤ i → ∀ w t : Nat → Int, (∀ g : Int, 0 ≤ g → g ≤ n → w g.toNat = 268435456) → h_M_wholes_38 d a b c f0 i (sv (sv m0 160 w) 161 t) P := by
    refine upto _ (fun i hi ih i0 w t w1 => ?_)
    refine v_M_wholes_38 ⟨fun q => ?_, fun q => ⟨by omega, by rw [wt_sv]; exact ih q (by omega) w _ w1⟩⟩
    refine LF f0 (by omega) (Int.le_refl _) w t (fun g g0 g1 => ?_) (fun g g0 g1 => w1 g (by omega) g1) (fun q => by omega)
    rw [w1 g g0 (by omega)]
    exact MN_far (fun v hx => by have := hx.2.1; omega)
  have L1 : ∀ i : Int, i ≤ n + 1 → 0 ≤ i → ∀ w : Nat → Int, (∀ g : Int, 0 ≤ g → g < i → w g.toNat = 268435456) → h_M_wholes_10 d a b c f0 i (sv m0 160 w) P := by
    refine upto _ (fun i hi ih i0 w w1 => ?_)
    refine v_M_wholes_10 ?_
    have x40 : (sv m0 160 w) 134 40 = n := e40
    rw [x40]
    refine ⟨fun q => ?_, fun q => ⟨by omega, ?_⟩⟩
    · have := L3 0 (by omega) (by omega) w (m0 161) (fun g g0 g1 => w1 g g0 (by omega))
      have e : m0 161 = (sv m0 160 w) 161 := rfl
      rw [e, sv_self] at this
      exact this
    · rw [wt_sv]
      refine ih (by omega) (by omega) _ (fun g g0 g1 => ?_)
      by_cases e : g = i
      · subst e; rw [sv_eq]
      · rw [svn _ _ (by omega)]; exact w1 g g0 (by omega)
  have := L1 0 (by omega) (by omega) (m0 160) (fun g a b => by omega)
  rw [sv_self] at this
  exact this
def tix (a b c f : Int) : Int := (((a + 1) * 10 + b) * 11 + c + 1) * 420 + 21 * f
theorem s_M_keeps {m : MT} {P : MT → Prop} {a b c f0 : Int} (hd : 18 < d) (H : HX M fr kn n) (hL : LKM M (M 135) fr kn n) (hR : RX M m) (hv : VS (M 135 0) a b c) (hf : 0 ≤ f0 ∧ f0 < n) (h : ∀ m1 : MT, RX m m1 → m1 162 = m 162 → m1 164 = m 164 → (∀ g : Int, 0 ≤ g → g ≤ n → MN (fun v => sgX M fr kn n a b c f0 g v) (m1 160 g.toNat)) → (∀ g : Int, 0 ≤ g → g ≤ n → m1 163 (tix a b c f0 + g).toNat = m1 160 g.toNat) → (∀ j : Nat, ¬ (tix a b c f0 ≤ j ∧ (j : Int) ≤ tix a b c f0 + 20) → m1 163 j = m 163 j) → m1 134 56 = m 134 56 → P m1) : c_M_keeps d a b c f0 m P := by
  have hn := H.2.2.2.2.2.2
  have s10 := H.1.2.1
  obtain ⟨v1, v2, v3⟩ := id hv
  refine v_M_keeps ⟨by omega, s_M_wholes (by omega) H hL hR hv hf (fun m0 R0 W0 => ?_)⟩
  have e40 : m0 134 40 = n := by rw [R0.2 40 (by decide), hR.2 40 (by decide) (by decide)]; exact hL.1
  have e163 : m0 163 = m 163 := R0.1 163 (by decide) (by decide) (by decide) (by decide) (by decide)
  have L : ∀ i : Int, i ≤ n + 1 → 0 ≤ i → ∀ t : Nat → Int, (∀ g : Int, 0 ≤ g → g < i → t (tix a b c f0 + g).toNat = m0 160 g.toNat) → (∀ j : Nat, ¬ (tix a b c f0 ≤ j ∧ (j : Int) ≤ tix a b c f0 + 20) → t j = m 163 j) → h_M_keeps_12 d a b c f0 i (sv m0 163 t) P := by
    refine upto _ (fun i hi ih i0 t t1 t2 => ?_)
    refine v_M_keeps_12 ?_
    have x40 : (sv m0 163 t) 134 40 = n := e40
    rw [x40]
    refine ⟨fun q => ?_, fun q => ⟨by omega, ?_⟩⟩
    · refine h _ (R0.rx.trans ⟨fun k _ _ _ k4 => sv_ne _ _ (by omega), fun _ _ _ => rfl⟩) ?_ ?_ W0 (fun g g0 g1 => t1 g g0 (by omega)) t2 ?_
      · show m0 162 = _; exact R0.1 162 (by decide) (by decide) (by decide) (by decide) (by decide)
      · show m0 164 = _; exact R0.1 164 (by decide) (by decide) (by decide) (by decide) (by decide)
      · show m0 134 56 = _; exact R0.2 56 (by decide)
    · rw [wt_sv]
      refine ih (by omega) (by omega) _ (fun g g0 g1 => ?_) (fun j hj => ?_)
      · by_cases e : g = i
        · subst e
          show sv t (tix a b c f0 + g).toNat (m0 160 g.toNat) (tix a b c f0 + g).toNat = _
          rw [sv_eq]
        · show sv t (tix a b c f0 + i).toNat (m0 160 i.toNat) (tix a b c f0 + g).toNat = _
          rw [svn _ _ (by unfold tix; omega)]; exact t1 g g0 (by omega)
      · show sv t (tix a b c f0 + i).toNat (m0 160 i.toNat) j = _
        rw [svn _ _ (by unfold tix at *; omega)]; exact t2 j hj
  have := L 0 (by omega) (by omega) (m0 163) (fun g a b => by omega) (fun j _ => by rw [e163])
  rw [sv_self] at this
  exact this
end WHOLES
