section COST
variable {d : Nat} {mi M M' : MT} {fr kn n N : Int} {r : Int → Int}
theorem LAID_dec (H : HX M fr kn n) (hr : RVx M r N) : ∀ k : Nat, (k : Int) ≤ N → ∀ i : Int, 0 ≤ i → i < osn M r N k → ∃ p s : Int, (0 ≤ p ∧ p < k) ∧ (0 ≤ s ∧ s < zr M r N p) ∧ i = osn M r N p.toNat + s := by
  intro k
  induction k with
  | zero => intro _ i i0 i1; have : osn M r N 0 = 0 := rfl; omega
  | succ k ih =>
    intro hk i i0 i1
    have e : osn M r N (k + 1) = osn M r N k + zr M r N k := rfl
    by_cases c : i < osn M r N k
    · obtain ⟨p, s, hp, hs, e⟩ := ih (by omega) i i0 c
      exact ⟨p, s, by omega, hs, e⟩
    · refine ⟨k, i - osn M r N k, by omega, by omega, ?_⟩
      rw [show ((k : Int)).toNat = k by omega]; omega
theorem LAID_ok {st pl nu : Nat → Int} {z : Int} (H : HX M fr kn n) (hr : RVx M r N) (hl : LAID M r N st pl nu z) {i : Int} (i0 : 0 ≤ i) (i1 : i < z) : okSt (st i.toNat) := by
  have hN := hr.1
  obtain ⟨p, s, hp, hs, rfl⟩ := LAID_dec H hr N.toNat (by omega) i i0 (by have := hl.1; omega)
  rw [(hl.2.2 p hp.1 (by omega) s hs.1 hs.2).1]
  exact (SOK_SF H (RV_vs hr hp.1 (by omega))).2 s hs.1 hs.2
theorem LAID_z {st pl nu : Nat → Int} {z : Int} (H : HX M fr kn n) (hr : RVx M r N) (hl : LAID M r N st pl nu z) : 1 ≤ z := by
  have hN := hr.1
  have := osn_le H hr N.toNat 0 (by omega) (by omega)
  rw [show (0 : Int) + (N.toNat : Int) = N by omega] at this
  have e0 : osn M r N (0 : Int).toNat = 0 := rfl
  have := hl.1
  omega
/-- what a line's measure says -/
theorem line_MN {st pl nu t : Nat → Int} {z : Int} (H : HX M fr kn n) (hr : RVx M r N) (hl : LAID M r N st pl nu z) (hR : REF pl st t (M 135) fr kn n z (M 135 3) (fun _ _ => True)) (hz : z ≤ n) : MN (fun x => EN M fr kn n (AHr M fr kn n r (N - 1).toNat) (ra r (N - 1)) (r (N - 1)) x) (t 0 + N * M 135 4) ∧ (0 ≤ t 0 ∧ t 0 ≤ 64000) := by
  have hn := H.2.2.2.2.2.2
  have hN := hr.1
  have pr := H.1.2.2.2.2.2
  have z1 := LAID_z H hr hl
  have zr0 := zr_in H hr (p := 0) (by omega) (by omega)
  have A := keys_MN H hr hl hR 20 0 (by omega) (by omega) 0 0 (by omega) (by omega) (by omega) (by omega)
  have e0 : osn M r N (0 : Int).toNat + 0 = 0 := rfl
  rw [e0, kA_in (by omega), show ((0 : Int) * 20 + 0).toNat = 0 by rfl, show (N - 1 - 0).toNat = (N - 1).toNat by omega] at A
  have B := keys_ok hR (fun i f i0 i1 _ _ => KF_in H.2.2.1 H.2.2.2.1 H.2.2.2.2.1 (LAID_ok H hr hl i0 i1)) hn.2 20 0 (by omega) (by omega) (by omega) 0 (by omega) (by omega) (by omega)
  rw [show ((0 : Int) * 20 + 0).toNat = 0 by rfl] at B
  have R0 := (hR 0 0 (by omega) (by omega) trivial).2
  rw [show ((0 : Int) * 20 + 0).toNat = 0 by rfl] at R0
  have mp := mul_in (x := N) (y := M 135 4) (X := 20) (Y := 1000) (by omega) (by omega)
  have C := MN_cap A mp.1 (fun v hv => by have := GOr_in H hr (by omega) (by omega) (by omega) hv; omega)
  rw [show min 268435456 (N * M 135 4 + t 0) = t 0 + N * M 135 4 by omega] at C
  exact ⟨MN_cg C (fun v => EN_GO H hr), by omega⟩
theorem line_no (H : HX M fr kn n) (hr : RVx M r N) (h : n < osn M r N N.toNat) : MN (fun x => EN M fr kn n (AHr M fr kn n r (N - 1).toNat) (ra r (N - 1)) (r (N - 1)) x) 268435456 :=
  MN_far (fun v hv => by have := GOr_len H hr ((EN_GO H hr).mp hv); omega)
theorem HX_g {m : MT} (H : HX M fr kn n) (r : ∀ k : Nat, (0 < k ∧ k < 19) ∨ (134 < k ∧ k < 152) ∨ (152 < k ∧ k < 158) → m k = M k) (e15 : m 134 15 = M 134 15) : HX m fr kn n := by
  obtain ⟨h1, h2, h3, h4, h6, hU, hn⟩ := H
  unfold HX
  simp (disch := decide) only [r]
  exact ⟨h1, h2, h3, h4, h6, RulR_m hU e15 (fun k hk => r k (by omega)), hn⟩
/-- what a call leaves that reads frames and says how it ended -/
theorem ends_PK {m2 : MT} (hI : Base mi) (r : ∀ k : Nat, (0 < k ∧ k < 19) ∨ (19 < k ∧ k < 100) ∨ (116 < k ∧ k < 125) ∨ (134 < k ∧ k ≠ 152 ∧ (k < 158 ∨ 164 < k)) → m2 k = mi k) (r0 : ∀ j : Nat, j ≠ 13 → m2 0 j = mi 0 j) (r4 : ∀ j : Nat, j ≠ 3 → j ≠ 39 → j ≠ 40 → j ≠ 56 → m2 134 j = mi 134 j) (e : m2 0 13 = m2 134 3) : PK mi m2 := by
  obtain ⟨hs, ht, h1, h2, h3, h4, h5, h6, h7, h8, h9, h10⟩ := id hI
  refine ⟨?_, fun k hk => r k ?_, fun j _ => by rw [r 135 (by omega)], by rw [r0 11 (by decide)], fun j hj => r4 j (by omega) (by omega) (by omega) (by omega)⟩
  · unfold Base Hs
    simp (disch := decide) only [r]
    refine ⟨⟨e, ?_⟩, ⟨ht.1, ?_, ht.2.2⟩, h1, h2, h3, h4, h5, h6, h7, h8, h9, h10⟩
    · rw [r0 12 (by decide), r4 11 (by decide) (by decide) (by decide) (by decide)]; exact hs.2
    · rw [r4 7 (by decide) (by decide) (by decide) (by decide)]; exact ht.2.1
  · unfold kpr at hk
    simp only [Bool.or_eq_true, Bool.and_eq_true, decide_eq_true_eq] at hk
    omega
theorem ref_lays {mc : MT} {Q : MT → Prop} {a b e : Int} (hd : 30 < d) (H : HX M a e (b - a + 1)) (hf : 0 ≤ a ∧ a ≤ b ∧ b < 20) (r : ∀ k : Nat, (0 < k ∧ k < 19) ∨ (134 < k ∧ k < 152) ∨ (152 < k ∧ k < 158) → mc k = M k) (e15 : mc 134 15 = M 134 15)
    (h : ∀ (m2 M' : MT), HX M' a e (b - a + 1) → sgX M' a e (b - a + 1) = sgX M a e (b - a + 1) → M' 135 = M 135 → RX M' m2 → (∀ k : Nat, k ≠ 134 → k ≠ 159 → M' k = mc k) → (∀ j : Nat, j ≠ 40 → M' 134 j = mc 134 j) → RS3 M' a e (b - a + 1) m2 → LKM M' (M' 135) a e (b - a + 1) → Q m2) : c_M_lays (d - 1) a b e mc (fun m1 => c_M_rests (d - 1) m1 Q) := by
  have e135 : mc 135 = M 135 := r 135 (by omega)
  refine s_M_lays (by omega) (by rw [e135]; exact H.2.2.2.2.1.2.1) hf (fun t hL => ?_)
  have x135 : (sv (wt mc 134 40 (b - a + 1)) 159 t) 135 = mc 135 := rfl
  rw [← x135] at hL
  have rO : ∀ k : Nat, k ≠ 134 → k ≠ 159 → (sv (wt mc 134 40 (b - a + 1)) 159 t) k = mc k := fun k k1 k2 => by rw [sv_ne _ _ k2, wt_row _ _ k1]
  have r4 : ∀ j : Nat, j ≠ 40 → (sv (wt mc 134 40 (b - a + 1)) 159 t) 134 j = mc 134 j := fun j hj => by show (wt mc 134 40 _) 134 j = _; exact wt_ne _ _ hj
  generalize sv (wt mc 134 40 (b - a + 1)) 159 t = M' at *
  have rr : ∀ k : Nat, (0 < k ∧ k < 19) ∨ (134 < k ∧ k < 152) ∨ (152 < k ∧ k < 158) → M' k = M k := fun k hk => by rw [rO k (by omega) (by omega)]; exact r k hk
  have H' : HX M' a e (b - a + 1) := HX_g H rr (by rw [r4 15 (by decide)]; exact e15)
  refine s_M_rests (by omega) H' hL (RX.rfl' M') (fun m2 R2 _ _ I2 => ?_)
  exact h m2 M' H' (sgX_alike H (rr 3 (by omega)) (rr 4 (by omega)) (rr 10 (by omega)) (rr 11 (by omega)) (rr 12 (by omega)) (rr 13 (by omega)) (rr 135 (by omega))) (rr 135 (by omega)) R2 rO r4 ⟨R2.1 135 (by decide) (by decide) (by decide) (by decide), by rw [R2.2 40 (by decide) (by decide)]; exact hL.1, I2⟩ hL
/-- what the class's call answers, as the least of a set -/
def CA (E : Int → Prop) (z : Int) : Prop := ∃ e : Int, MN E e ∧ (e < 268435456 → z = e) ∧ (268435456 ≤ e → z = -6)
def ENr (M : MT) (fr kn n : Int) (r : Int → Int) (N : Int) : Int → Prop := fun x => EN M fr kn n (AHr M fr kn n r (N - 1).toNat) (ra r (N - 1)) (r (N - 1)) x
theorem cost_class {P : Int → MT → Prop} {a b c f t e : Int} (hd : 30 < d) (hB : Base mi) (hU : Rul mi) (hf : 0 ≤ f ∧ f ≤ t ∧ t < 20) (hN : 1 ≤ N ∧ N ≤ 3) (v1 : 0 ≤ a ∧ a < mi 135 0) (v2 : 2 ≤ N → 0 ≤ b ∧ b < mi 135 0) (v3 : 3 ≤ N → 0 ≤ c ∧ c < mi 135 0)
    (h : ∀ (M m1 : MT) (z : Int), HX M f e (t - f + 1) → (∀ k : Nat, k ≠ 19 → k ≠ 103 → k ≠ 104 → k ≠ 133 → M k = mi k) → (∀ k : Nat, (k < 100 ∨ 102 < k) → (k < 125 ∨ 130 < k) → m1 k = M k) → M 133 0 = a → M 133 1 = b → M 133 2 = c → CA (ENr M f e (t - f + 1) (fun p => M 133 p.toNat) N) z → P z (wt m1 0 13 (min z 0))) : h_C_cost_82 d a b c f t e N mi P := by
  have hI := hB
  obtain ⟨hs, ht, h1, h2, h3, h4, h5, h6, h7, h8, h9, h10⟩ := id hI
  refine v_C_cost_82 ⟨by omega, ?_⟩
  have e0 : ∀ k : Nat, k ≠ 133 → (wt (wt (wt mi 133 0 a) 133 1 b) 133 2 c) k = mi k := fun k hk => by rw [wt_row _ _ hk, wt_row _ _ hk, wt_row _ _ hk]
  have w0 : (wt (wt (wt mi 133 0 a) 133 1 b) 133 2 c) 133 0 = a := by rw [wt_ne _ _ (by decide), wt_ne _ _ (by decide), wt_same]
  have w1 : (wt (wt (wt mi 133 0 a) 133 1 b) 133 2 c) 133 1 = b := by rw [wt_ne _ _ (by decide), wt_same]
  have w2 : (wt (wt (wt mi 133 0 a) 133 1 b) 133 2 c) 133 2 = c := wt_same _ _ _ _
  generalize wt (wt (wt mi 133 0 a) 133 1 b) 133 2 c = m0 at *
  have H0 : HX m0 f e (t - f + 1) := HX_f (HX_of hB hU (by omega)) (fun k hk => e0 k (by omega)) (by rw [e0 134 (by decide)])
  refine s_Fr_look (by omega) H0.2.2.1 H0.2.2.2.1 (by rw [e0 15 (by decide), e0 135 (by decide)]; exact h5) H0.2.2.2.2.1 hf (fun t1 t2 hT => ?_)
  have HM : HX (sv (wt (sv m0 19 t1) 103 1 (t - f + 1)) 104 t2) f e (t - f + 1) := HX_f H0 (fun k hk => by rw [sv_ne _ _ (by omega), wt_row _ _ (by omega), sv_ne _ _ (by omega)]) rfl
  have m103 : (sv (wt (sv m0 19 t1) 103 1 (t - f + 1)) 104 t2) 103 1 = t - f + 1 := by show (wt (sv m0 19 t1) 103 1 _) 103 1 = _; exact wt_same _ _ _ _
  have mO : ∀ k : Nat, k ≠ 19 → k ≠ 103 → k ≠ 104 → (sv (wt (sv m0 19 t1) 103 1 (t - f + 1)) 104 t2) k = m0 k := fun k k1 k2 k3 => by rw [sv_ne _ _ k3, wt_row _ _ k2, sv_ne _ _ k1]
  have mT : CT ((sv (wt (sv m0 19 t1) 103 1 (t - f + 1)) 104 t2) 104) ((sv (wt (sv m0 19 t1) 103 1 (t - f + 1)) 104 t2) 135) f e (t - f + 1) := hT
  generalize sv (wt (sv m0 19 t1) 103 1 (t - f + 1)) 104 t2 = M at *
  have g0 : M 133 0 = a := by rw [mO 133 (by decide) (by decide) (by decide)]; exact w0
  have g1 : M 133 1 = b := by rw [mO 133 (by decide) (by decide) (by decide)]; exact w1
  have g2 : M 133 2 = c := by rw [mO 133 (by decide) (by decide) (by decide)]; exact w2
  have g135 : M 135 = mi 135 := by rw [mO 135 (by decide) (by decide) (by decide), e0 135 (by decide)]
  have hr : RVx M (fun p => M 133 p.toNat) N := by
    refine ⟨by omega, fun p p0 p1 => ?_⟩
    rw [g135]
    show 0 ≤ M 133 p.toNat ∧ M 133 p.toNat < mi 135 0
    have : p = 0 ∨ p = 1 ∨ p = 2 := by omega
    rcases this with rfl | rfl | rfl
    · rw [show (0 : Int).toNat = 0 by rfl, g0]; exact v1
    · rw [show (1 : Int).toNat = 1 by rfl, g1]; exact v2 (by omega)
    · rw [show (2 : Int).toNat = 2 by rfl, g2]; exact v3 (by omega)
  have hn := HM.2.2.2.2.2.2
  have pr := HM.1.2.2.2.2.2
  refine s_Lt_lay (by omega) HM (fun _ _ => rfl) rfl hN.2 hr (fun m1 F1 e9 _ _ LL => ?_)
  have k2 : m1 2 = M 2 := F1 2 (by decide) (by decide) (by decide) (by decide)
  have FIN : ∀ (m2 : MT) (z : Int), (∀ k : Nat, (k < 125 ∨ 130 < k) → m2 k = m1 k) → CA (ENr M f e (t - f + 1) (fun p => M 133 p.toNat) N) z → P z (wt m2 0 13 (min z 0)) := by
    intro m2 z F2 hz
    exact h M m2 z HM (fun k k1 k2 k3 k4 => by rw [mO k k1 k2 k3]; exact e0 k k4) (fun k k1 k2 => by rw [F2 k k2]; exact F1 k (by omega) (by omega) (by omega) k2) g0 g1 g2 hz
  have zz : 1 ≤ m1 125 4 ∧ m1 125 4 ≤ 20 := by
    rcases LL with ⟨_, l⟩ | ⟨_, l, _⟩
    · exact ⟨LAID_z HM hr l, l.2.1⟩
    · omega
  refine s_Lt_measure (by omega) HM (by rw [F1 103 (by decide) (by decide) (by decide) (by decide)]; exact m103) (by rw [F1 104 (by decide) (by decide) (by decide) (by decide)]; exact mT) (by rw [k2]; exact HM.1.2.2.1) (by rw [k2]; exact HM.1.2.2.2.2.1) zz e9 (by omega) (fun q i i0 i1 => ?_) (fun q => ?_) (fun q q2 tk hR => ?_)
  · rcases LL with ⟨_, l⟩ | ⟨l, _⟩
    · exact LAID_ok HM hr l i0 i1
    · omega
  · refine ⟨fun q2 => by omega, fun _ => ⟨by omega, FIN _ (-6) (fun k hk => wt_row _ _ (by omega)) ⟨268435456, line_no HM hr ?_, fun w => by omega, fun _ => rfl⟩⟩⟩
    rcases LL with ⟨l0, l⟩ | ⟨_, _, l⟩
    · have := l.1; omega
    · omega
  · rcases LL with ⟨_, l⟩ | ⟨l, _⟩
    · obtain ⟨A, B⟩ := line_MN HM hr l hR q2
      have mp := mul_in (x := N) (y := M 135 4) (X := 20) (Y := 1000) (by omega) (by omega)
      refine ⟨fun _ => ⟨by omega, FIN _ _ (fun k hk => by rw [sv_ne _ _ (by omega), wt_row _ _ (by omega)]) ⟨_, A, fun _ => rfl, fun w => by omega⟩⟩, fun w => by omega⟩
    · omega
def LRt (d : Nat) (a1 a2 a3 a4 a5 a6 : Int) (mi : MT) (P : Int → MT → Prop) : Prop := c_M_lays (d - 1) a4 a5 a6 mi (fun m1 => c_M_rests (d - 1) m1 (fun m2 => c_M_start (d - 1) m2 (fun m3 => (a2 = -1 → (c_M_ending (d - 1) 0 (-1) a1 m3 (fun z4 m4 => (z4 < 268435456 → (P z4 (wt m4 134 3 (min z4 0)))) ∧ (268435456 ≤ z4 → (P (-6) (wt m4 134 3 (min (-6) 0))))))) ∧ (¬ a2 = -1 → (c_M_goesOn (d - 1) 0 (-1) a1 a2 m3 (fun m7 => (a3 = -1 → (c_M_ending (d - 1) 1 a1 a2 m7 (fun z8 m8 => (z8 < 268435456 → (P z8 (wt m8 134 3 (min z8 0)))) ∧ (268435456 ≤ z8 → (P (-6) (wt m8 134 3 (min (-6) 0))))))) ∧ (¬ a3 = -1 → (c_M_goesOn (d - 1) 1 a1 a2 a3 m7 (fun m11 => c_M_ending (d - 1) 2 a2 a3 m11 (fun z12 m12 => (z12 < 268435456 → (P z12 (wt m12 134 3 (min z12 0)))) ∧ (268435456 ≤ z12 → (P (-6) (wt m12 134 3 (min (-6) 0))))))))))))))
theorem cost_ref {mc : MT} {P : Int → MT → Prop} {a b c f t e : Int} {E : Int → Prop} {z : Int} (hd : 30 < d) (H : HX M f e (t - f + 1)) (hf : 0 ≤ f ∧ f ≤ t ∧ t < 20) (rc : ∀ k : Nat, (0 < k ∧ k < 19) ∨ (134 < k ∧ k < 152) ∨ (152 < k ∧ k < 158) → mc k = M k) (e15 : mc 134 15 = M 134 15) (v1 : 0 ≤ a ∧ a < M 135 0) (v2 : ¬ b = -1 → 0 ≤ b ∧ b < M 135 0) (v3 : ¬ b = -1 → ¬ c = -1 → 0 ≤ c ∧ c < M 135 0) (hz : CA E z)
    (E1 : b = -1 → E = fun x => EN M f e (t - f + 1) A0 (-1) a x) (E2 : ¬ b = -1 → c = -1 → E = fun x => EN M f e (t - f + 1) (AN M f e (t - f + 1) A0 (-1) a b) a b x) (E3 : ¬ b = -1 → ¬ c = -1 → E = fun x => EN M f e (t - f + 1) (AN M f e (t - f + 1) (AN M f e (t - f + 1) A0 (-1) a b) a b c) b c x)
    (h : ∀ m1 : MT, (∀ k : Nat, k ≠ 134 → k ≠ 152 → (k < 158 ∨ 164 < k) → m1 k = mc k) → (∀ j : Nat, j ≠ 39 → j ≠ 40 → j ≠ 56 → m1 134 j = mc 134 j) → P z (wt m1 134 3 (min z 0))) : LRt d a b c f t e mc P := by
  refine ref_lays (M := M) hd H hf rc e15 (fun m2 M' H' sE eE R2 rO r4 C2 LK => ?_)
  refine s_M_start (fun u hA => ?_)
  have hn := H.2.2.2.2.2.2
  have C3 : RS3 M' f e (t - f + 1) (sv m2 164 u) := ⟨C2.1, C2.2.1, RSI_r C2.2.2 rfl rfl⟩
  have R3 : RX M' (sv m2 164 u) := R2.trans ⟨fun k _ _ _ k4 => sv_ne _ _ (by omega), fun _ _ _ => rfl⟩
  have A3 : AHD (sv m2 164 u) A0 0 (t - f + 1) := fun g g0 g1 => hA g g0 (by omega)
  generalize sv m2 164 u = m3 at *
  have e135 : M' 135 0 = M 135 0 := by rw [eE]
  have FIN : ∀ (m4 : MT) (y : Int), RX M' m4 → MN E y → (y < 268435456 → P y (wt m4 134 3 (min y 0))) ∧ (268435456 ≤ y → P (-6) (wt m4 134 3 (min (-6) 0))) := by
    intro m4 y R4 hy
    obtain ⟨w, hw, w1, w2⟩ := hz
    have ey : y = w := MN_eq hy hw
    subst ey
    have G := h m4 (fun k k1 k2 k3 => by rw [R4.1 k k1 k2 (by omega) (by omega)]; exact rO k k1 (by omega)) (fun j j1 j2 j3 => by rw [R4.2 j j1 j3]; exact r4 j j2)
    exact ⟨fun q => by rw [w1 q] at G; exact G, fun q => by rw [w2 q] at G; exact G⟩
  refine ⟨fun q => ?_, fun q => ?_⟩
  · refine s_M_ending (M := M') (fr := f) (kn := e) (A := A0) (by omega) H' C3.1 C3.2.1 C3.2.2 ⟨Or.inl rfl, by rw [e135]; exact v1, Or.inl rfl⟩ (by omega) (ABd_0 hn.1) A3 (fun x hx => FIN m3 x R3 ?_)
    rw [E1 q]; rw [EN_e sE eE] at hx; exact hx
  · refine s_M_goesOn (M := M') (fr := f) (kn := e) (A := A0) (by omega) H' C3.1 C3.2.1 C3.2.2 ⟨Or.inl rfl, by rw [e135]; exact v1, by rw [e135]; exact Or.inr (v2 q)⟩ (by omega) (ABd_0 hn.1) A3 (fun u2 hA2 _ => ?_)
    have C4 : RS3 M' f e (t - f + 1) (sv m3 164 u2) := ⟨C3.1, C3.2.1, RSI_r C3.2.2 rfl rfl⟩
    have R4 : RX M' (sv m3 164 u2) := R3.trans ⟨fun k _ _ _ k4 => sv_ne _ _ (by omega), fun _ _ _ => rfl⟩
    have B4 : ABd (t - f + 1) (AN M' f e (t - f + 1) A0 (-1) a b) (0 + 1) := ABd_n H' (ABd_0 hn.1)
    generalize sv m3 164 u2 = m4 at *
    refine ⟨fun q2 => ?_, fun q2 => ?_⟩
    · refine s_M_ending (M := M') (fr := f) (kn := e) (A := AN M' f e (t - f + 1) A0 (-1) a b) (by omega) H' C4.1 C4.2.1 C4.2.2 ⟨by rw [e135]; exact Or.inr v1, by rw [e135]; exact v2 q, Or.inl rfl⟩ (by omega) B4 hA2 (fun x hx => FIN m4 x R4 ?_)
      rw [E2 q q2]; rw [EN_e sE eE, AN_e sE eE] at hx; exact hx
    · refine s_M_goesOn (M := M') (fr := f) (kn := e) (A := AN M' f e (t - f + 1) A0 (-1) a b) (by omega) H' C4.1 C4.2.1 C4.2.2 ⟨by rw [e135]; exact Or.inr v1, by rw [e135]; exact v2 q, by rw [e135]; exact Or.inr (v3 q q2)⟩ (by omega) B4 hA2 (fun u3 hA3 _ => ?_)
      have C5 : RS3 M' f e (t - f + 1) (sv m4 164 u3) := ⟨C4.1, C4.2.1, RSI_r C4.2.2 rfl rfl⟩
      have R5 : RX M' (sv m4 164 u3) := R4.trans ⟨fun k _ _ _ k4 => sv_ne _ _ (by omega), fun _ _ _ => rfl⟩
      generalize sv m4 164 u3 = m5 at *
      refine s_M_ending (M := M') (fr := f) (kn := e) (A := AN M' f e (t - f + 1) (AN M' f e (t - f + 1) A0 (-1) a b) a b c) (by omega) H' C5.1 C5.2.1 C5.2.2 ⟨by rw [e135]; exact Or.inr (v2 q), by rw [e135]; exact v3 q q2, Or.inl rfl⟩ (by omega) (ABd_n H' B4) hA3 (fun x hx => FIN m5 x R5 ?_)
      rw [E3 q q2]; rw [EN_e sE eE, AN_e sE eE] at hx; exact hx
theorem ca_cost {a b c f t e : Int} (hI : Base mi) (hU : Rul mi) (hd : 60 ≤ d) : c_C_cost d a b c f t e mi (fun z m1 => c_M_cost d a b c f t e m1 (fun z' m2 => Bth z z' mi m2)) := by
  have hB := hI
  obtain ⟨hs, ht, h1, h2, h3, h4, h5, h6, h7, h8, h9, h10⟩ := id hI
  have s10 := h1.2.1
  have PKs : ∀ z : Int, PK mi (wt (wt mi 0 13 z) 134 3 z) := fun z => ends_PK hB (fun k hk => by rw [wt_row _ _ (by omega), wt_row _ _ (by omega)]) (fun j hj => by rw [wt_row _ _ (by decide), wt_ne _ _ hj]) (fun j j1 _ _ _ => by rw [wt_ne _ _ j1, wt_row _ _ (by decide)]) (by rw [wt_row _ _ (by decide), wt_same, wt_same])
  have m135 : ∀ z : Int, (wt mi 0 13 z) 135 = mi 135 := fun z => wt_row _ _ (by decide)
  -- no frames
  have NO1 : ¬ ((0 ≤ f ∧ f ≤ t ∧ t < 20) ∧ 0 ≤ e ∧ e < 1000) → c_M_cost d a b c f t e (wt mi 0 13 (min (-1) 0)) (fun z' m2 => Bth (-1) z' mi m2) := fun q => v_M_cost ⟨by omega, fun q2 => absurd q2 q, fun _ => Bth.ref (PKs _)⟩
  refine v_C_cost ⟨by omega, fun q => ?_, fun q => NO1 q⟩
  -- no such sign
  have NO2 : ¬ ((0 ≤ a ∧ a < mi 135 0) ∧ (¬ b = -1 → (0 ≤ b ∧ b < mi 135 0) ∧ (¬ c = -1 → (0 ≤ c ∧ c < mi 135 0)))) → c_M_cost d a b c f t e (wt mi 0 13 (min (-2) 0)) (fun z' m2 => Bth (-2) z' mi m2) := by
    intro w
    refine v_M_cost ⟨by omega, fun _ => ?_, fun q2 => absurd q q2⟩
    rw [m135]
    exact ⟨s10, fun _ => Bth.ref (PKs _), fun x1 => ⟨fun x2 => absurd ⟨x1, fun y => absurd x2 y⟩ w, fun x2 => ⟨fun _ => Bth.ref (PKs _), fun x3 => ⟨fun x4 => absurd ⟨x1, fun _ => ⟨x3, fun y => absurd x4 y⟩⟩ w, fun x4 => ⟨fun x5 => absurd ⟨x1, fun _ => ⟨x3, fun _ => x5⟩⟩ w, fun _ => Bth.ref (PKs _)⟩⟩⟩⟩⟩
  -- the row
  have YES : ∀ N : Int, ((N = 1 ∧ b = -1) ∨ (N = 2 ∧ ¬ b = -1 ∧ c = -1) ∨ (N = 3 ∧ ¬ b = -1 ∧ ¬ c = -1)) → (0 ≤ a ∧ a < mi 135 0) → (¬ b = -1 → 0 ≤ b ∧ b < mi 135 0) → (¬ b = -1 → ¬ c = -1 → 0 ≤ c ∧ c < mi 135 0) → h_C_cost_82 d a b c f t e N mi (fun z m1 => c_M_cost d a b c f t e m1 (fun z' m2 => Bth z z' mi m2)) := by
    intro N hN v1 v2 v3
    refine cost_class (by omega) hB hU q.1 (by omega) v1 (fun w => v2 (by omega)) (fun w => v3 (by omega) (by omega)) (fun M m1 z HM rM r1 g0 g1 g2 hz => ?_)
    have rc : ∀ k : Nat, (0 < k ∧ k < 19) ∨ (134 < k ∧ k < 152) ∨ (152 < k ∧ k < 158) → (wt m1 0 13 (min z 0)) k = M k := fun k hk => by rw [wt_row _ _ (by omega)]; exact r1 k (by omega) (by omega)
    have e135 : M 135 = mi 135 := rM 135 (by decide) (by decide) (by decide) (by decide)
    have x135 : (wt m1 0 13 (min z 0)) 135 = mi 135 := by rw [rc 135 (by omega)]; exact e135
    have LR : LRt d a b c f t e (wt m1 0 13 (min z 0)) (fun z' m2 => Bth z z' mi m2) := by
      refine cost_ref (M := M) (by omega) HM q.1 rc (by rw [wt_row _ _ (by decide), r1 134 (by decide) (by decide)]) (by rw [e135]; exact v1) (fun w => by rw [e135]; exact v2 w) (fun w w2 => by rw [e135]; exact v3 w w2) hz (fun w => ?_) (fun w w2 => ?_) (fun w w2 => ?_) (fun m3 F1 F2 => ?_)
      · have : N = 1 := by omega
        subst this
        show (fun x => EN M f e (t - f + 1) A0 (-1) (M 133 0) x) = _
        rw [g0]
      · have : N = 2 := by omega
        subst this
        show (fun x => EN M f e (t - f + 1) (AN M f e (t - f + 1) A0 (-1) (M 133 0) (M 133 1)) (M 133 0) (M 133 1) x) = _
        rw [g0, g1]
      · have : N = 3 := by omega
        subst this
        show (fun x => EN M f e (t - f + 1) (AN M f e (t - f + 1) (AN M f e (t - f + 1) A0 (-1) (M 133 0) (M 133 1)) (M 133 0) (M 133 1) (M 133 2)) (M 133 1) (M 133 2) x) = _
        rw [g0, g1, g2]
      · refine Bth.ref (ends_PK hB (fun k hk => ?_) (fun j hj => ?_) (fun j j1 j2 j3 j4 => ?_) ?_)
        · rw [wt_row _ _ (by omega), F1 k (by omega) (by omega) (by omega), wt_row _ _ (by omega), r1 k (by omega) (by omega)]; exact rM k (by omega) (by omega) (by omega) (by omega)
        · rw [wt_row _ _ (by decide), F1 0 (by decide) (by decide) (by decide), wt_ne _ _ hj, r1 0 (by decide) (by decide), rM 0 (by decide) (by decide) (by decide) (by decide)]
        · rw [wt_ne _ _ j1, F2 j j2 j3 j4, wt_row _ _ (by decide), r1 134 (by decide) (by decide), rM 134 (by decide) (by decide) (by decide) (by decide)]
        · rw [wt_row _ _ (by decide), F1 0 (by decide) (by decide) (by decide), wt_same, wt_same]
    refine v_M_cost ⟨by omega, fun _ => ?_, fun q2 => absurd q q2⟩
    rw [x135]
    exact ⟨s10, fun w => absurd v1 w, fun _ => ⟨fun _ => LR, fun w => ⟨fun w2 => absurd (v2 w) w2, fun _ => ⟨fun _ => LR, fun w2 => ⟨fun _ => LR, fun w3 => absurd (v3 w w2) w3⟩⟩⟩⟩⟩
  have e28 : mi 2 8 = mi 135 0 := h1.1
  have T37 : ∀ N : Int, ((N = 1 ∧ b = -1) ∨ (N = 2 ∧ ¬ b = -1 ∧ c = -1) ∨ (N = 3 ∧ ¬ b = -1 ∧ ¬ c = -1)) → h_C_cost_37 d a b c f t e N mi (fun z m1 => c_M_cost d a b c f t e m1 (fun z' m2 => Bth z z' mi m2)) := by
    intro N hN
    refine v_C_cost_37 ?_
    rw [e28]
    refine ⟨by omega, fun w => NO2 (fun y => w y.1), fun w => ⟨fun w2 => ?_, fun w2 => ⟨fun w3 => NO2 (fun y => w3 (y.2 (by omega)).1), fun w3 => ?_⟩⟩⟩
    · exact v_C_cost_61 ⟨fun _ => YES N hN w (fun y => by omega) (fun y => by omega), fun w3 => by omega⟩
    · refine v_C_cost_61 ?_
      rw [e28]
      exact ⟨fun w4 => YES N hN w (fun _ => w3) (fun _ y => by omega), fun w4 => ⟨by omega, fun w5 => YES N hN w (fun _ => w3) (fun _ _ => w5), fun w5 => NO2 (fun y => w5 ((y.2 (by omega)).2 (by omega)))⟩⟩
  exact ⟨fun w => ⟨fun w2 => T37 3 (by omega), fun w2 => T37 2 (by omega)⟩, fun w => T37 1 (by omega)⟩
end COST
