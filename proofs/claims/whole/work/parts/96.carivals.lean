section CARIVALS
variable {d : Nat} {mi M M' : MT} {fr kn n : Int}
theorem HX_of (hI : Base mi) (hU : Rul mi) (hn : 1 ≤ n ∧ n ≤ 20) : HX mi fr kn n := by
  obtain ⟨hs, ht, h1, h2, h3, h4, h5, h6, h7, h8, h9, h10⟩ := id hI
  exact ⟨h1, h2, h3, h4, h6, hU.1, hn⟩
theorem HX_f {m : MT} (H : HX M fr kn n) (r : ∀ k : Nat, k < 19 ∨ (134 < k ∧ k < 152) ∨ (152 < k ∧ k < 158) → m k = M k) (e15 : m 134 15 = M 134 15) : HX m fr kn n := by
  obtain ⟨h1, h2, h3, h4, h6, hU, hn⟩ := H
  unfold HX
  simp (disch := decide) only [r]
  exact ⟨h1, h2, h3, h4, h6, RulR_m hU e15 (fun k hk => r k (by omega)), hn⟩
section LINK
variable (sE : sgX M' fr kn n = sgX M fr kn n) (eE : M' 135 = M 135)
theorem rdX_e (sE : sgX M' fr kn n = sgX M fr kn n) (eE : M' 135 = M 135) : rdX M' fr kn n = rdX M fr kn n := by funext f a b x; unfold rdX; rw [sE, eE]
theorem allX_e (sE : sgX M' fr kn n = sgX M fr kn n) (eE : M' 135 = M 135) : allX M' fr kn n = allX M fr kn n := by funext x; unfold allX; rw [rdX_e sE eE, eE]
theorem AN_e (sE : sgX M' fr kn n = sgX M fr kn n) (eE : M' 135 = M 135) : AN M' fr kn n = AN M fr kn n := by funext A a b c f x; unfold AN; rw [sE, eE]
theorem EN_e (sE : sgX M' fr kn n = sgX M fr kn n) (eE : M' 135 = M 135) : EN M' fr kn n = EN M fr kn n := by funext A a b x; unfold EN; rw [sE, eE]
theorem EE_e {L : Int} (sE : sgX M' fr kn n = sgX M fr kn n) (eE : M' 135 = M 135) : EE M' fr kn n L = EE M fr kn n L := by funext A a b; unfold EE; rw [EN_e sE eE]
theorem MAY_e {L : Int} (sE : sgX M' fr kn n = sgX M fr kn n) (eE : M' 135 = M 135) : MAY M' fr kn n L = MAY M fr kn n L := by funext A a b c; unfold MAY; rw [AN_e sE eE, rdX_e sE eE]
theorem rcnt_e {L : Int} (sE : sgX M' fr kn n = sgX M fr kn n) (eE : M' 135 = M 135) : ∀ (q : Nat) (A : Int → Int → Prop) (a b x : Int), rcnt M' fr kn n L q A a b x = rcnt M fr kn n L q A a b x := by
  intro q
  induction q with
  | zero => intro A a b x; rfl
  | succ q ih =>
    intro A a b x
    simp only [rcnt]
    rw [EE_e sE eE, eE]
    have : (fun c x => if x < 1000 ∧ cb (MAY M' fr kn n L A a b c) = true then rcnt M' fr kn n L q (AN M' fr kn n A a b c) b c x else x) = (fun c x => if x < 1000 ∧ cb (MAY M fr kn n L A a b c) = true then rcnt M fr kn n L q (AN M fr kn n A a b c) b c x else x) := by
      funext c x
      rw [MAY_e sE eE, AN_e sE eE, ih]
    rw [this]
end LINK
/-- the number of rivals -/
noncomputable def tot (M : MT) (fr kn n L : Int) : Int := cl (fun b x => rcnt M fr kn n L 20 A0 (-1) b x) (M 135 0).toNat 0 0
theorem tot_e {L : Int} (sE : sgX M' fr kn n = sgX M fr kn n) (eE : M' 135 = M 135) : tot M' fr kn n L = tot M fr kn n L := by
  unfold tot
  rw [eE]
  have : (fun b x => rcnt M' fr kn n L 20 A0 (-1) b x) = (fun b x => rcnt M fr kn n L 20 A0 (-1) b x) := by funext b x; exact rcnt_e sE eE _ _ _ _ _
  rw [this]
theorem cl_id {g : Int → Int → Int} : ∀ (r : Nat) (c x : Int), (∀ c' y : Int, c ≤ c' → g c' y = y) → cl g r c x = x
  | 0, _, _, _ => rfl
  | r + 1, c, x, h => by simp only [cl]; rw [h c x (Int.le_refl _)]; exact cl_id r (c + 1) x (fun c' y hc => h c' y (by omega))
/-- a sign none of whose rows is within the limit -/
theorem rcnt_no {L b x z : Int} (H : HX M fr kn n) (hz : MN (fun v => rdX M fr kn n 0 (-1) b v) z) (hL : L < z / 32) : rcnt M fr kn n L 20 A0 (-1) b x = x := by
  have hn := H.2.2.2.2.2.2
  show rcnt M fr kn n L (19 + 1) A0 (-1) b x = x
  simp only [rcnt]
  have NE : ¬ EE M fr kn n L A0 (-1) b := by
    rintro ⟨v, ⟨f, v0, v1, ⟨rfl, rfl⟩, r1, rfl⟩, hv⟩
    have := hz.2.1 (32 * (v1 + M 135 4) + 1) ((rdX_iff H (by omega)).mpr ⟨-1, Or.inl rfl, by unfold thX TH; rw [if_pos rfl]; exact ⟨v1, r1, by omega⟩⟩)
    omega
  have NM : ∀ c : Int, 0 ≤ c → ¬ MAY M fr kn n L A0 (-1) b c := by
    rintro c hc ⟨f', v, y, ⟨f, g, s, v0, v1, ⟨rfl, rfl⟩, r1, hs, rfl, rfl⟩, hr, hv⟩
    have fg := (sgX_in H _ _ _ _ _ _ r1).1
    have vc := r1.1.2.2.2
    have cn := rdX_cnt H hr
    have cn2 := cn.2.2 (by omega)
    have e2 : s * (32 * M 135 3) = 32 * (s * M 135 3) := by rw [Int.mul_left_comm]
    have := hz.2.1 (32 * (v1 + M 135 4 + s * M 135 3) + 1 + y) ((rdX_iff H (by omega)).mpr ⟨c, vc, by unfold thX TH; rw [if_neg (by omega)]; exact ⟨g, s, v1, y, ⟨fg, r1⟩, hs, hr, by rw [e2]; omega⟩⟩)
    omega
  rw [if_neg (fun h => NE ((cb_iff _).mp h.2))]
  exact cl_id _ _ _ (fun c' y hc => if_neg (fun h => NM c' hc ((cb_iff _).mp h.2)))
theorem allX_in (H : HX M fr kn n) {x : Int} (h : allX M fr kn n x) : 1 ≤ x ∧ x ≤ 44000000 := by
  obtain ⟨b, _, hr⟩ := h
  exact rdX_in H (by omega) hr
theorem s_R_countWithin {m : MT} {P : Int → MT → Prop} {z w : Int} (hd : 30 < d) (H : HX M fr kn n) (e28 : m 2 8 = M 135 0) (e103 : m 103 1 = n) (e15 : m 105 15 = M 135 3 * 32) (e16 : m 105 16 = M 135 4 * 32 + 1) (hC : CT (m 104) (M 135) fr kn n) (hS : STA M m) (hD : DY M fr kn n m 0) (hz : MN (fun v => allX M fr kn n v) z) (z1 : z < 268435456) (hw : 0 ≤ w ∧ w ≤ 200) (h : ∀ m1 : MT, (∀ r : Nat, r ≠ 105 → r ≠ 114 → r ≠ 115 → m1 r = m r) → P (tot M fr kn n (z / 32 + w)) m1) : c_R_countWithin d w m P := by
  have hn := H.2.2.2.2.2.2
  have s10 := H.1.2.1
  have pr := H.1.2.2.2.2.2
  have zb := allX_in H (hz.1 z1)
  refine v_R_countWithin ⟨by omega, s_R_leastKey (by omega) H e28 e16 hD (fun z2 hz2 => ?_)⟩
  have ez : z2 = z := MN_eq hz2 hz
  subst ez
  refine ⟨by omega, ?_⟩
  have k16 : (wt (wt m 105 17 ((z2 / 32 + w) * 32 + 32 - 1)) 105 18 0) 105 16 = M 135 4 * 32 + 1 := by rw [wt_ne _ _ (by decide), wt_ne _ _ (by decide)]; exact e16
  refine s_R_start (M := M) (n := n) (by omega) hn.2 pr k16 (fun t hT => ?_)
  have C0 : CS M fr kn n (z2 / 32 + w) (sv (wt (wt m 105 17 ((z2 / 32 + w) * 32 + 32 - 1)) 105 18 0) 114 t) := by
    refine ⟨e28, e103, ?_, k16, ?_, hC, hS, hD⟩
    · rw [sv_ne _ _ (by decide), wt_ne _ _ (by decide), wt_ne _ _ (by decide)]; exact e15
    · rw [sv_ne _ _ (by decide), wt_ne _ _ (by decide), wt_same]; omega
  have x0 : (sv (wt (wt m 105 17 ((z2 / 32 + w) * 32 + 32 - 1)) 105 18 0) 114 t) 105 18 = 0 := by rw [sv_ne _ _ (by decide)]; exact wt_same _ _ _ _
  have O0 : ∀ r : Nat, r ≠ 105 → r ≠ 114 → r ≠ 115 → (sv (wt (wt m 105 17 ((z2 / 32 + w) * 32 + 32 - 1)) 105 18 0) 114 t) r = m r := fun r r1 r2 _ => by rw [sv_ne _ _ r2, wt_row _ _ r1, wt_row _ _ r1]
  generalize sv (wt (wt m 105 17 ((z2 / 32 + w) * 32 + 32 - 1)) 105 18 0) 114 t = m0 at *
  have L : ∀ b : Int, b ≤ M 135 0 → 0 ≤ b → ∀ (x : Int) (m' : MT), CEX 0 m0 m' → m' 105 18 = x → (0 ≤ x ∧ x ≤ 1000) → cl (fun b x => rcnt M fr kn n (z2 / 32 + w) 20 A0 (-1) b x) (M 135 0 - b).toNat b x = tot M fr kn n (z2 / 32 + w) → h_R_countWithin_30 d w b m' P := by
    refine upto _ (fun b hb ih b0 x m' F ex hx et => ?_)
    have C' := CS_f C0 F
    refine v_R_countWithin_30 ?_
    rw [C'.1, ex]
    refine ⟨fun q => ?_, fun q => ⟨by omega, ?_⟩⟩
    · rw [show (M 135 0 - b).toNat = 0 by omega] at et
      have et' : x = tot M fr kn n (z2 / 32 + w) := et
      rw [et']
      exact h m' (fun r r1 r2 r3 => by rw [F.1 r r1 r2 r3]; exact O0 r r1 r2 r3)
    · refine s_R_explore H (L := z2 / 32 + w) (by omega) 20 (d - 1) 0 A0 (-1) b x m' _ (by omega) (by omega) (by omega) C' ⟨Or.inl rfl, ⟨b0, q⟩, Or.inl rfl⟩ (ABd_0 hn.1) (SHD_f hT F (by omega) hn.2) ex hx (fun m1 F1 e1 => ⟨by omega, ih q (by omega) _ m1 (F.trans F1) e1 (rcnt_le _ _ _ _ _ hx.1 hx.2) ?_⟩)
      rw [show (M 135 0 - b).toNat = (M 135 0 - (b + 1)).toNat + 1 by omega] at et
      exact et
  exact L 0 (by omega) (by omega) 0 m0 (CEX.rfl' 0 m0) x0 (by omega) (by rw [show M 135 0 - 0 = M 135 0 by omega]; rfl)
/-- the reference's count -/
theorem s_M_rivals_62 {m : MT} {P : Int → MT → Prop} {a1 a2 a3 z w : Int} (hd : 30 < d) (H : HX M fr kn n) (C : RS3 M fr kn n m) (hA : AHD m A0 0 n) (x0 : m 134 56 = 0) (hz : MN (fun v => allX M fr kn n v) z) (z1 : z < 268435456) (hw : 0 ≤ w ∧ w ≤ 200) (h : ∀ m1 : MT, REX 0 m m1 → P (tot M fr kn n (z / 32 + w)) m1) : h_M_rivals_62 d a1 a2 a3 w z 0 m P := by
  have hn := H.2.2.2.2.2.2
  have s10 := H.1.2.1
  have zb := allX_in H (hz.1 z1)
  have L : ∀ b : Int, b ≤ M 135 0 → 0 ≤ b → ∀ (x : Int) (m' : MT), REX 0 m m' → m' 134 56 = x → (0 ≤ x ∧ x ≤ 1000) → cl (fun b x => rcnt M fr kn n (z / 32 + w) 20 A0 (-1) b x) (M 135 0 - b).toNat b x = tot M fr kn n (z / 32 + w) → h_M_rivals_62 d a1 a2 a3 w z b m' P := by
    refine upto _ (fun b hb ih b0 x m' F ex hx et => ?_)
    obtain ⟨g135, g40, gI⟩ := RS3_f C F
    refine v_M_rivals_62 ?_
    rw [g135, ex]
    refine ⟨fun q => ?_, fun q => ⟨fun q2 => ?_, fun q2 => ?_⟩⟩
    · rw [show (M 135 0 - b).toNat = 0 by omega] at et
      have et' : x = tot M fr kn n (z / 32 + w) := et
      rw [et']; exact h m' F
    · rw [cl_stop (fun c x hx => rcnt_full _ _ _ _ _ hx) _ _ _ q2] at et
      rw [et]; exact h m' F
    · have R := (gI 0 (-1) b (by omega) ⟨Or.inl rfl, ⟨b0, q⟩, Or.inl rfl⟩ trivial).1
      have ea : (atx 0 (-1) b).toNat = (0 + b).toNat := by unfold atx; omega
      rw [ea] at R
      have rb := R.2.2
      have r0 : 0 ≤ m' 162 (0 + b).toNat := by
        by_cases cc : m' 162 (0 + b).toNat < 268435456
        · have := rdX_in H (by omega) (R.1 cc); omega
        · omega
      rw [show (M 135 0 - b).toNat = (M 135 0 - (b + 1)).toNat + 1 by omega] at et
      simp only [cl] at et
      refine ⟨by omega, fun q3 => ⟨by omega, ih q (by omega) x m' F ex hx ?_⟩, fun q3 => ?_⟩
      · rw [rcnt_no H R q3] at et; exact et
      · exact s_M_rows H (L := z / 32 + w) (by omega) 19 (d - 1) 0 A0 (-1) b x m' _ (by omega) (by omega) (by omega) ⟨g135, g40, gI⟩ ⟨Or.inl rfl, ⟨b0, q⟩, Or.inl rfl⟩ (ABd_0 hn.1) (AHD_r hA F (by omega) hn.2) ex hx (fun m1 F1 e1 => ⟨by omega, ih q (by omega) _ m1 (F.trans F1) e1 (rcnt_le _ _ _ _ _ hx.1 hx.2) et⟩)
  exact L 0 (by omega) (by omega) 0 m (REX.rfl' 0 m) x0 (by omega) (by rw [show M 135 0 - 0 = M 135 0 by omega]; rfl)
/-- what a reading of frames may change -/
def RDK (m m2 : MT) : Prop := (∀ k : Nat, k < 19 ∨ (19 < k ∧ k < 100) ∨ (116 < k ∧ k ≠ 134 ∧ k ≠ 152 ∧ (k < 158 ∨ 164 < k)) → m2 k = m k) ∧ ∀ j : Nat, j ≠ 39 → j ≠ 40 → j ≠ 56 → m2 134 j = m 134 j
theorem RDK_PK {m2 : MT} (hI : Base mi) (h : RDK mi m2) : PK mi m2 := by
  have r := h.1
  have r4 := h.2
  obtain ⟨hs, ht, h1, h2, h3, h4, h5, h6, h7, h8, h9, h10⟩ := id hI
  refine ⟨?_, fun k hk => r k ?_, fun j _ => by rw [r 135 (by omega)], by rw [r 0 (by omega)], fun j hj => r4 j (by omega) (by omega) (by omega)⟩
  · unfold Base Hs
    simp (disch := decide) only [r]
    refine ⟨⟨?_, ?_⟩, ⟨ht.1, ?_, ht.2.2⟩, h1, h2, h3, h4, h5, h6, h7, h8, h9, h10⟩
    · rw [r4 3 (by decide) (by decide) (by decide)]; exact hs.1
    · rw [r4 11 (by decide) (by decide) (by decide)]; exact hs.2
    · rw [r4 7 (by decide) (by decide) (by decide)]; exact ht.2.1
  · unfold kpr at hk
    simp only [Bool.or_eq_true, Bool.and_eq_true, decide_eq_true_eq] at hk
    omega
/-- the reference, behind the class: what is laid and weighed -/
theorem ref_weighs {mc : MT} {P : Int → MT → Prop} {a b e : Int} (hd : 30 < d) (H : HX M a e (b - a + 1)) (hf : 0 ≤ a ∧ a ≤ b ∧ b < 20) (r : ∀ k : Nat, k < 19 ∨ (134 < k ∧ k < 152) ∨ (152 < k ∧ k < 158) → mc k = M k) (e15 : mc 134 15 = M 134 15)
    (h : ∀ (m2 M' : MT), HX M' a e (b - a + 1) → sgX M' a e (b - a + 1) = sgX M a e (b - a + 1) → M' 135 = M 135 → RX M' m2 → (∀ k : Nat, k ≠ 134 → k ≠ 159 → M' k = mc k) → (∀ j : Nat, j ≠ 40 → M' 134 j = mc 134 j) → RS3 M' a e (b - a + 1) m2 → LKM M' (M' 135) a e (b - a + 1) → c_M_least (d - 1) m2 (fun z m3 => P z m3)) : c_M_lays (d - 1) a b e mc (fun m1 => c_M_rests (d - 1) m1 (fun m2 => c_M_least (d - 1) m2 (fun z m3 => P z m3))) := by
  have e135 : mc 135 = M 135 := r 135 (by omega)
  refine s_M_lays (by omega) (by rw [e135]; exact H.2.2.2.2.1.2.1) hf (fun t hL => ?_)
  have x135 : (sv (wt mc 134 40 (b - a + 1)) 159 t) 135 = mc 135 := rfl
  rw [← x135] at hL
  have rO : ∀ k : Nat, k ≠ 134 → k ≠ 159 → (sv (wt mc 134 40 (b - a + 1)) 159 t) k = mc k := fun k k1 k2 => by rw [sv_ne _ _ k2, wt_row _ _ k1]
  have r4 : ∀ j : Nat, j ≠ 40 → (sv (wt mc 134 40 (b - a + 1)) 159 t) 134 j = mc 134 j := fun j hj => by show (wt mc 134 40 _) 134 j = _; exact wt_ne _ _ hj
  generalize sv (wt mc 134 40 (b - a + 1)) 159 t = M' at *
  have rr : ∀ k : Nat, k < 19 ∨ (134 < k ∧ k < 152) ∨ (152 < k ∧ k < 158) → M' k = M k := fun k hk => by rw [rO k (by omega) (by omega)]; exact r k hk
  have H' : HX M' a e (b - a + 1) := HX_f H rr (by rw [r4 15 (by decide)]; exact e15)
  refine s_M_rests (by omega) H' hL (RX.rfl' M') (fun m2 R2 _ _ I2 => ?_)
  exact h m2 M' H' (sgX_alike H (rr 3 (by omega)) (rr 4 (by omega)) (rr 10 (by omega)) (rr 11 (by omega)) (rr 12 (by omega)) (rr 13 (by omega)) (rr 135 (by omega))) (rr 135 (by omega)) R2 rO r4 ⟨R2.1 135 (by decide) (by decide) (by decide) (by decide), by rw [R2.2 40 (by decide) (by decide)]; exact hL.1, I2⟩ hL
theorem ca_rivals {a b e w : Int} (hI : Base mi) (hU : Rul mi) (hd : 60 ≤ d) : c_C_rivals d a b e w mi (fun z m1 => c_M_rivals d a b e w m1 (fun z' m2 => Bth z z' mi m2)) := by
  have NO : ¬ (((0 ≤ a ∧ a ≤ b ∧ b < 20) ∧ 0 ≤ e ∧ e < 1000) ∧ (0 ≤ w ∧ w ≤ 200)) → c_M_rivals d a b e w mi (fun z' m2 => Bth (-1) z' mi m2) := by
    intro q
    have G : Bth (-1) (-1) mi mi := Bth.mk rfl hI (Kp.rfl' _)
    exact v_M_rivals ⟨by omega, fun _ => G, fun q1 => ⟨fun q2 => absurd ⟨q1, q2⟩ q, fun _ => G⟩⟩
  refine v_C_rivals ⟨by omega, fun q => NO (fun y => q y.1), fun q => ⟨fun q2 => ?_, fun q2 => NO (fun y => q2 (by omega))⟩⟩
  have hB := hI
  obtain ⟨hs, ht, h1, h2, h3, h4, h5, h6, h7, h8, h9, h10⟩ := id hI
  have H0 : HX mi a e (b - a + 1) := HX_of hB hU (by omega)
  refine s_Fr_look (by omega) h3 h4 h5 h6 q.1 (fun t1 t hT => ?_)
  have HM : HX (sv (wt (sv mi 19 t1) 103 1 (b - a + 1)) 104 t) a e (b - a + 1) := HX_f H0 (fun k hk => by rw [sv_ne _ _ (by omega), wt_row _ _ (by omega), sv_ne _ _ (by omega)]) rfl
  have m103 : (sv (wt (sv mi 19 t1) 103 1 (b - a + 1)) 104 t) 103 1 = b - a + 1 := by show (wt (sv mi 19 t1) 103 1 _) 103 1 = _; exact wt_same _ _ _ _
  have mO : ∀ k : Nat, k ≠ 19 → k ≠ 103 → k ≠ 104 → (sv (wt (sv mi 19 t1) 103 1 (b - a + 1)) 104 t) k = mi k := fun k k1 k2 k3 => by rw [sv_ne _ _ k3, wt_row _ _ k2, sv_ne _ _ k1]
  have mT : CT ((sv (wt (sv mi 19 t1) 103 1 (b - a + 1)) 104 t) 104) ((sv (wt (sv mi 19 t1) 103 1 (b - a + 1)) 104 t) 135) a e (b - a + 1) := hT
  generalize sv (wt (sv mi 19 t1) 103 1 (b - a + 1)) 104 t = M at *
  refine s_R_weigh (by omega) HM (CX.rfl' M) m103 mT (fun m2 F2 k15 k16 S2 D2 => ?_)
  have g28 : m2 2 8 = M 135 0 := by rw [F2 2 (by decide) (by decide)]; exact HM.1.1
  refine s_R_leastKey (by omega) HM g28 k16 D2 (fun z hz => ?_)
  -- the reference, whatever the class leaves
  have REF : ∀ (mc : MT) (y : Int), (∀ k : Nat, (k < 100 ∨ 102 < k) → (k < 105 ∨ 115 < k) → mc k = M k) → (z < 268435456 → y = tot M a e (b - a + 1) (z / 32 + w)) → (268435456 ≤ z → y = -1) → c_M_rivals d a b e w mc (fun z' m2 => Bth y z' mi m2) := by
    intro mc y rc y1 y2
    refine v_M_rivals ⟨by omega, fun q3 => absurd q q3, fun _ => ⟨fun _ => ?_, fun q3 => by omega⟩⟩
    refine ref_weighs (M := M) (by omega) HM q.1 (fun k hk => rc k (by omega) (by omega)) (by rw [rc 134 (by decide) (by decide)]) (fun m3 M' H' sE eE R3 rO r4 C3 LK => ?_)
    refine s_M_least (by omega) H' C3.1 C3.2.2 (fun z2 hz2 => ?_)
    have ez : z2 = z := by rw [allX_e sE eE] at hz2; exact MN_eq hz2 hz
    subst ez
    have RK : ∀ m4 : MT, RX M' m4 → RDK mi m4 := by
      intro m4 R4
      refine ⟨fun k hk => ?_, fun j j1 j2 j3 => ?_⟩
      · rw [R4.1 k (by omega) (by omega) (by omega) (by omega), rO k (by omega) (by omega), rc k (by omega) (by omega)]; exact mO k (by omega) (by omega) (by omega)
      · rw [R4.2 j j1 j3, r4 j j2, rc 134 (by decide) (by decide), mO 134 (by decide) (by decide) (by decide)]
    refine ⟨fun q3 => ?_, fun q3 => ?_⟩
    · refine s_M_start (fun t4 hA => ?_)
      have C4 : RS3 M' a e (b - a + 1) (sv (wt m3 134 56 0) 164 t4) := ⟨C3.1, by show (wt m3 134 56 0) 134 40 = _; rw [wt_ne _ _ (by decide)]; exact C3.2.1, RSI_r C3.2.2 rfl rfl⟩
      have x0 : (sv (wt m3 134 56 0) 164 t4) 134 56 = 0 := by show (wt m3 134 56 0) 134 56 = 0; exact wt_same _ _ _ _
      have R4 : RX M' (sv (wt m3 134 56 0) 164 t4) := R3.trans ⟨fun k k1 _ _ k4 => by rw [sv_ne _ _ (by omega), wt_row _ _ k1], fun j _ j2 => by show (wt m3 134 56 0) 134 j = _; exact wt_ne _ _ j2⟩
      generalize sv (wt m3 134 56 0) 164 t4 = m4 at *
      refine s_M_rivals_62 (by omega) H' C4 (fun f f0 f1 => hA f f0 (by omega)) x0 hz2 q3 (by omega) (fun m5 F5 => ?_)
      rw [tot_e sE eE, ← y1 q3]
      exact Bth.ref (RDK_PK hB (RK m5 (R4.trans ⟨fun k k1 _ _ k4 => F5.1 k k1 (by omega), fun j _ j2 => F5.2.1 j j2⟩)))
    · rw [y2 q3]
      exact Bth.ref (RDK_PK hB (RK m3 R3))
  refine ⟨fun q3 => ?_, fun q3 => REF m2 (-1) (fun k k1 k2 => F2 k k1 (by omega)) (fun q4 => by omega) (fun _ => rfl)⟩
  refine s_R_countWithin (by omega) HM g28 (by rw [F2 103 (by decide) (by decide)]; exact m103) k15 k16 (by rw [F2 104 (by decide) (by decide)]; exact mT) S2 D2 hz q3 (by omega) (fun m3 F3 => REF m3 _ (fun k k1 k2 => ?_) (fun _ => rfl) (fun q4 => by omega))
  rw [F3 k (by omega) (by omega) (by omega)]
  exact F2 k k1 (by omega)
end CARIVALS
