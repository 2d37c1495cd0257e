section CABACK
variable {d : Nat} {mi : MT}
theorem ref_no_image {a z : Int} (hI : Inv mi) (hd : 1 < d) (ha : ¬ (0 ≤ a ∧ a < 2)) : c_M_image d a (wt mi 0 13 (min (-1) 0)) (fun z' m2 => Ith (-1) z' mi m2) := by
  have hB := hI.1
  refine v_M_image ⟨by omega, fun q => by omega, fun _ => Ith.mk rfl (Inv_kp hI ?_ ?_) rfl⟩
  · have hI := hB
    obtain ⟨hs, ht, h1, h2, h3, h4, h5, h6, h7, h8, h9, h10⟩ := id hI
    (unfold Base Hs; simp only [wt_r, cpm_r, svc, Nat.reduceEqDiff, reduceIte]; refine ⟨?_, ?_, ?_, ?_, ?_, ?_, ?_, ?_, ?_, ?_, ?_, ?_⟩ <;> (repeat (first | assumption | exact P_stat_c ‹_› | refine P_stat_m ?_ (by decide) | refine P_stat_h ?_ (by decide) | refine P_tape_m ?_ (by decide) | refine P_num_c ?_ (by omega) | refine P_num_b ?_ (by decide) | refine P_sgn_c ?_ (by omega) | refine P_xy_c ?_ (by omega) | refine P_w_c ?_ (by omega) | refine P_tr_c ?_ (by omega) | refine P_pr_c ?_ (by omega) | refine P_si_c ?_ (by omega) | refine P_va_c ?_ (by omega) | refine P_us_c ?_ (by omega) | refine P_ud_c ?_ (by omega))))
  · (repeat' (first | exact Kp.rfl' _ | refine Kp.w0 ?_ (by decide) | refine Kp.w134 ?_ (by decide) | refine Kp.w135 ?_ (by omega) | refine Kp.wo ?_ (by decide) | refine Kp.cp ?_ (by decide) | refine Kp.o ?_ (by decide)))
/-- an image made -/
theorem mk_image {a : Int} {o : Nat} (hI : Inv mi) (hd : 2 < d) (ha : (a = 0 ∧ o = 30) ∨ (a = 1 ∧ o = 59)) : c_M_image d a (wt (wt (cph mi 0 o) 89 a.toNat 1) 0 13 (min 0 0)) (fun z' m2 => Ith 0 z' mi m2) := by
  obtain ⟨hB, hU, hL, hG⟩ := hI
  have hS : STs 0 o := by unfold STs; omega
  have cf : ∀ k : Nat, ¬ (o + 2 ≤ k ∧ k ≤ o + 28) → cph mi 0 o k = mi k := fun k hk => cph_f hk
  have LV := live_ImA hB hU
  refine v_M_image ⟨by omega, fun _ => ?_, fun q => by omega⟩
  refine s_M_image_17 (by omega) (by omega) (fun t t1 t2 => ?_)
  have e136 : (wt (wt (cph mi 0 o) 89 a.toNat 1) 0 13 (min 0 0)) 136 = mi 136 := by rw [wt_row _ _ (by decide), wt_row _ _ (by decide)]; exact cf _ (by omega)
  have e135 : (wt (wt (cph mi 0 o) 89 a.toNat 1) 0 13 (min 0 0)) 135 = mi 135 := by rw [wt_row _ _ (by decide), wt_row _ _ (by decide)]; exact cf _ (by omega)
  rw [e136] at t2
  rw [e135] at t1
  have HI : HsA (cph mi 0 o) o (mi 135) := cph_H hS LV.1 (fun _ _ _ => rfl)
  have RI : RuA (cph mi 0 o) o (mi 135) := cph_R hS LV.2 rfl (fun _ _ _ => rfl)
  have fk : ∀ k : Nat, k ≠ 0 → k ≠ 89 → k ≠ 134 → k ≠ 136 → k ≠ 137 → (wt (wt (sv (wt (wt (cph mi 0 o) 89 a.toNat 1) 0 13 (min 0 0)) 136 t) 137 a.toNat 1) 134 3 (min 0 0)) k = cph mi 0 o k := fun k k1 k2 k3 k4 k5 => by rw [wt_row _ _ k3, wt_row _ _ k5, sv_ne _ _ k4, wt_row _ _ k1, wt_row _ _ k2]
  have f136 : (wt (wt (sv (wt (wt (cph mi 0 o) 89 a.toNat 1) 0 13 (min 0 0)) 136 t) 137 a.toNat 1) 134 3 (min 0 0)) 136 = t := by rw [wt_row _ _ (by decide), wt_row _ _ (by decide), sv_eq]
  have f137 : (wt (wt (sv (wt (wt (cph mi 0 o) 89 a.toNat 1) 0 13 (min 0 0)) 136 t) 137 a.toNat 1) 134 3 (min 0 0)) 137 = sv (mi 137) a.toNat 1 := by
    rw [wt_row _ _ (by decide)]
    show sv ((sv (wt (wt (cph mi 0 o) 89 a.toNat 1) 0 13 (min 0 0)) 136 t) 137) a.toNat 1 = _
    rw [sv_ne _ _ (by decide), wt_row _ _ (by decide), wt_row _ _ (by decide), cf _ (by omega)]
  have f89 : (wt (wt (sv (wt (wt (cph mi 0 o) 89 a.toNat 1) 0 13 (min 0 0)) 136 t) 137 a.toNat 1) 134 3 (min 0 0)) 89 = sv (mi 89) a.toNat 1 := by
    rw [wt_row _ _ (by decide), wt_row _ _ (by decide), sv_ne _ _ (by decide), wt_row _ _ (by decide)]
    show sv (cph mi 0 o 89) a.toNat 1 = _
    rw [cf _ (by omega)]
  have f0 : (wt (wt (sv (wt (wt (cph mi 0 o) 89 a.toNat 1) 0 13 (min 0 0)) 136 t) 137 a.toNat 1) 134 3 (min 0 0)) 0 = sv (mi 0) 13 (min 0 0) := by
    rw [wt_row _ _ (by decide), wt_row _ _ (by decide), sv_ne _ _ (by decide)]
    show sv ((wt (cph mi 0 o) 89 a.toNat 1) 0) 13 (min 0 0) = _
    rw [wt_row _ _ (by decide), cf _ (by omega)]
  have f134 : (wt (wt (sv (wt (wt (cph mi 0 o) 89 a.toNat 1) 0 13 (min 0 0)) 136 t) 137 a.toNat 1) 134 3 (min 0 0)) 134 = sv (mi 134) 3 (min 0 0) := by
    show sv ((wt (sv (wt (wt (cph mi 0 o) 89 a.toNat 1) 0 13 (min 0 0)) 136 t) 137 a.toNat 1) 134) 3 (min 0 0) = _
    rw [wt_row _ _ (by decide), sv_ne _ _ (by decide), wt_row _ _ (by decide), wt_row _ _ (by decide), cf _ (by omega)]
  generalize wt (wt (sv (wt (wt (cph mi 0 o) 89 a.toNat 1) 0 13 (min 0 0)) 136 t) 137 a.toNat 1) 134 3 (min 0 0) = mf at *
  have fl : ∀ k : Nat, k ≠ 0 → k ≠ 134 → k ≠ 136 → k ≠ 137 → (k < 31 ∨ 89 < k) → mf k = mi k := fun k k1 k2 k3 k4 k5 => by rw [fk k k1 (by omega) k2 k3 k4]; exact cf k (by omega)
  refine Ith.mk rfl ⟨?_, ?_, ?_, ?_⟩ (fl 1000 (by decide) (by decide) (by decide) (by decide) (by decide))
  · obtain ⟨b1, b2, b3⟩ := hB
    unfold Base
    rw [f0, f134]
    simp (disch := decide) only [fl]
    exact ⟨P_stat_c b1, P_tape_m b2 (by decide), b3⟩
  · refine Rul_of hU (fl 10 (by decide) (by decide) (by decide) (by decide) (by decide)) (fl 11 (by decide) (by decide) (by decide) (by decide) (by decide)) (fl 12 (by decide) (by decide) (by decide) (by decide) (by decide)) (fl 13 (by decide) (by decide) (by decide) (by decide) (by decide)) (by unfold tx; rw [fl 135 (by decide) (by decide) (by decide) (by decide) (by decide)]) (by rw [fl 135 (by decide) (by decide) (by decide) (by decide) (by decide)]) (RulR_m hU.1 (by rw [f134, svn _ _ (by decide)]) (fun k hk => fl k (by omega) (by omega) (by omega) (by omega) (by omega)))
  · exact Lat_f hL (by rw [f0, svn _ _ (by decide)]) (fun j a b => by rw [f134, svn _ _ (by omega)]) (fun k hk => fl k (by omega) (by omega) (by omega) (by omega) (by omega))
  · have IN : ImA mf o (mi 135) := ImA_f ⟨HI, RI⟩ (fun k a b => fk k (by omega) (by omega) (by omega) (by omega) (by omega))
    obtain ⟨⟨g1, g2⟩, g3, g4⟩ := hG
    unfold Img
    rw [f89, f137, f136]
    rcases ha with ⟨rfl, rfl⟩ | ⟨rfl, rfl⟩
    · refine ⟨⟨by rw [show (0 : Int).toNat = 0 from rfl, sv_eq, sv_eq], ?_⟩, fun _ => ?_, fun q => ?_⟩
      · rw [svn _ _ (by decide), svn _ _ (by decide)]; exact g2
      · refine ImA_c IN (fun j hj => ?_)
        have := t1 j (by omega) (by omega)
        rw [show (2066 * (0 : Int) + (j : Int)).toNat = j by omega, show ((j : Int)).toNat = j by omega] at this
        exact this
      · rw [svn _ _ (by decide)] at q
        refine ImA_c (ImA_f (g4 q) (fun k a b => by rw [fk k (by omega) (by omega) (by omega) (by omega) (by omega)]; exact cf k (by omega))) (fun j hj => t2 _ (by omega))
    · refine ⟨⟨?_, by rw [show (1 : Int).toNat = 1 from rfl, sv_eq, sv_eq]⟩, fun q => ?_, fun _ => ?_⟩
      · rw [svn _ _ (by decide), svn _ _ (by decide)]; exact g1
      · rw [svn _ _ (by decide)] at q
        refine ImA_c (ImA_f (g3 q) (fun k a b => by rw [fk k (by omega) (by omega) (by omega) (by omega) (by omega)]; exact cf k (by omega))) (fun j hj => t2 _ (by omega))
      · refine ImA_c IN (fun j hj => ?_)
        have := t1 j (by omega) (by omega)
        rw [show (2066 * (1 : Int) + (j : Int)).toNat = 2066 + j by omega, show ((j : Int)).toNat = j by omega] at this
        exact this
theorem ca_image {a : Int} (hI : Inv mi) (hd : 20 ≤ d) : c_C_image d a mi (fun z m1 => c_M_image d a m1 (fun z' m2 => Ith z z' mi m2)) := by
  have LV := live_ImA hI.1 hI.2.1
  obtain ⟨⟨u1, u2, u3⟩, _⟩ := LV.2
  have si := hI.1.2.2.2.2.2.2.2.1
  have ud := hI.1.2.2.2.2.2.2.2.2.2.2.1
  have s1 := si.1
  have s2 := si.2.1
  have d1 := ud.1
  have d2 := ud.2.1
  have x1 : 0 ≤ mi 10 3 ∧ mi 10 3 ≤ 400 := u1
  have x2 : 0 ≤ mi 10 4 ∧ mi 10 4 ≤ 40 := u2
  have x3 : 0 ≤ mi 10 5 ∧ mi 10 5 ≤ 12 := u3
  refine v_C_image ⟨by omega, fun q => ⟨q, fun e => ⟨by omega, ?_⟩, fun e => ⟨by omega, ?_⟩⟩, fun q => ⟨by omega, ref_no_image (z := 0) hI (by omega) q⟩⟩
  · exact mk_image (o := 30) hI (by omega) (by omega)
  · exact mk_image (o := 59) hI (by omega) (by omega)
/-- an image brought back -/
theorem mk_back {a : Int} {o : Nat} (hI : Inv mi) (hd : 70 ≤ d) (ha : (a = 0 ∧ o = 30) ∨ (a = 1 ∧ o = 59)) (hk : ¬ mi 89 a.toNat = 0) : c_M_back d a (wt (cph mi o 0) 0 13 (min 0 0)) (fun z' m2 => Ith 0 z' mi m2) := by
  obtain ⟨hB, hU, hL, hG⟩ := hI
  have hS : STs o 0 := by unfold STs; omega
  have cf : ∀ k : Nat, ¬ (2 ≤ k ∧ k ≤ 28) → cph mi o 0 k = mi k := fun k hk => cph_f (by omega)
  have IM : ImA mi o (fun j => mi 136 (2066 * a + j).toNat) := by
    rcases ha with ⟨rfl, rfl⟩ | ⟨rfl, rfl⟩
    · exact ImA_c (hG.2.1 hk) (fun j hj => by show mi 136 (2066 * 0 + (j : Int)).toNat = _; rw [show (2066 * (0 : Int) + (j : Int)).toNat = j by omega])
    · exact ImA_c (hG.2.2 hk) (fun j hj => by show mi 136 (2066 * 1 + (j : Int)).toNat = mi 136 (2066 + j); rw [show (2066 * (1 : Int) + (j : Int)).toNat = 2066 + j by omega])
  have k137 : ¬ mi 137 a.toNat = 0 := by
    rcases ha with ⟨rfl, rfl⟩ | ⟨rfl, rfl⟩
    · exact fun e => hk (hG.1.1.trans e)
    · exact fun e => hk (hG.1.2.trans e)
  have ck : ∀ k : Nat, k ≠ 0 → (wt (cph mi o 0) 0 13 (min 0 0)) k = cph mi o 0 k := fun k h => wt_row _ _ h
  have c137 : (wt (cph mi o 0) 0 13 (min 0 0)) 137 = mi 137 := by rw [ck _ (by decide)]; exact cf _ (by omega)
  have c136 : (wt (cph mi o 0) 0 13 (min 0 0)) 136 = mi 136 := by rw [ck _ (by decide)]; exact cf _ (by omega)
  have c0 : (wt (cph mi o 0) 0 13 (min 0 0)) 0 = sv (mi 0) 13 (min 0 0) := by show sv (cph mi o 0 0) 13 _ = _; rw [cf _ (by omega)]
  refine v_M_back ⟨by omega, fun _ => ⟨by omega, fun _ => ?_, fun q => absurd q (by rw [c137]; exact k137)⟩, fun q => by omega⟩
  generalize wt (cph mi o 0) 0 13 (min 0 0) = mc at *
  have cl : ∀ k : Nat, k ≠ 0 → (k < 2 ∨ 28 < k) → mc k = mi k := fun k k1 k2 => by rw [ck k k1]; exact cf k (by omega)
  refine s_M_back_33 (by omega) (by omega) (fun t t1 t2 => ?_)
  rw [c136] at t1
  have HL : HsA (cph mi o 0) 0 t := cph_H hS IM.1 (fun j j7 jb => by have := t1 j (by omega) (by omega); rw [show ((j : Int)).toNat = j by omega] at this; exact this)
  have RL : RuA (cph mi o 0) 0 t := cph_R hS IM.2 (t1 7 (by omega) (by omega)) (fun j ja jb => by have := t1 j (by omega) (by omega); rw [show ((j : Int)).toNat = j by omega] at this; exact this)
  obtain ⟨r1, r2, r3, r4⟩ := RL
  have s135 : (sv mc 135 t) 135 = t := sv_eq _ _ _
  have etx : tx (sv mc 135 t) = fun k => t (1666 + k) := by unfold tx; rw [s135]
  refine s_M_readsKept (by omega) (by rw [s135]; exact r2) (by rw [etx, s135]; exact r3) (fun m4 G4 M4 m410 m412 => ?_)
  rw [etx, s135] at M4
  refine r4 (d - 1 - 1) m4 _ (by omega) M4 m410 m412 (fun m5 F5 g5 R5 => ?_)
  have fk : ∀ k : Nat, k ≠ 134 → k ≠ 135 → k ≠ 139 → (k < 142 ∨ k = 152 ∨ 157 < k) → (wt m5 134 3 (min 0 0)) k = mc k := fun k a b c e => by rw [wt_row _ _ a, F5.1 k a e, G4.1 k a c, sv_ne _ _ b]
  have f135 : (wt m5 134 3 (min 0 0)) 135 = t := by rw [wt_row _ _ (by decide), F5.1 135 (by decide) (by decide), G4.1 135 (by decide) (by decide), sv_eq]
  have f134 : ∀ j : Nat, j ≠ 3 → j ≠ 8 → j ≠ 9 → j ≠ 10 → j ≠ 12 → (j < 15 ∨ 19 < j) → j ≠ 36 → j ≠ 37 → (wt m5 134 3 (min 0 0)) 134 j = mi 134 j := fun j j1 j2 j3 j4 j5 j6 j7 j8 => by
    rw [wt_ne _ _ j1, F5.2 j j3 j4 j5 j6 j7 j8, G4.2 j j2 j4 j5, sv_ne _ _ (by decide), cl 134 (by decide) (by decide)]
  have x3 : (wt m5 134 3 (min 0 0)) 134 3 = min 0 0 := wt_same _ _ _ _
  have xR := RulR_m (m' := wt m5 134 3 (min 0 0)) R5 (wt_ne _ _ (by decide)) (fun k hk => wt_row _ _ (by omega))
  generalize wt m5 134 3 (min 0 0) = mf at *
  have fl : ∀ k : Nat, k ≠ 0 → k ≠ 134 → k ≠ 135 → k ≠ 139 → (k < 2 ∨ 28 < k) → (k < 142 ∨ k = 152 ∨ 157 < k) → mf k = mi k := fun k a b c e f g => by rw [fk k b c e g]; exact cl k a f
  have fh : ∀ k : Nat, 2 ≤ k → k ≤ 28 → mf k = cph mi o 0 k := fun k a b => by rw [fk k (by omega) (by omega) (by omega) (by omega)]; exact ck k (by omega)
  have f0 : mf 0 = sv (mi 0) 13 (min 0 0) := by rw [fk 0 (by decide) (by decide) (by decide) (by decide)]; exact c0
  refine Ith.mk rfl ⟨?_, ?_, ?_, ?_⟩ (fl 1000 (by decide) (by decide) (by decide) (by decide) (by decide) (by decide))
  · refine ⟨⟨?_, ?_⟩, ?_, ?_⟩
    · rw [f0, sv_eq, x3]
    · rw [f0, svn _ _ (by decide), f134 11 (by decide) (by decide) (by decide) (by decide) (by decide) (by decide) (by decide) (by decide)]; exact hB.1.2
    · rw [fl 90 (by decide) (by decide) (by decide) (by decide) (by decide) (by decide), fl 91 (by decide) (by decide) (by decide) (by decide) (by decide) (by decide), fl 138 (by decide) (by decide) (by decide) (by decide) (by decide) (by decide)]
      have := hB.2.1
      unfold P_tape at *
      rw [f134 7 (by decide) (by decide) (by decide) (by decide) (by decide) (by decide) (by decide) (by decide)]
      exact this
    · rw [f135]
      simp (disch := decide) only [fh]
      exact HL
  · refine ⟨?_, ?_, ?_, ?_⟩
    · simp (disch := decide) only [fh]
      exact xR
    · rw [f135]; exact r2
    · unfold tx; rw [f135]; exact r3
    · unfold tx; rw [f135]
      simp (disch := decide) only [fh]
      exact r4
  · exact Lat_f hL (by rw [f0, svn _ _ (by decide)]) (fun j a b => f134 j (by omega) (by omega) (by omega) (by omega) (by omega) (by omega) (by omega) (by omega)) (fun k hk => fl k (by omega) (by omega) (by omega) (by omega) (by omega) (by omega))
  · exact Img_of hG (fun k hk => fl k (by omega) (by omega) (by omega) (by omega) (by omega) (by omega))
theorem ref_no_back {a z : Int} (hI : Inv mi) (hd : 1 < d) (hz : (z = -1 ∧ ¬ (0 ≤ a ∧ a < 2)) ∨ (z = -2 ∧ (0 ≤ a ∧ a < 2) ∧ mi 89 a.toNat = 0)) : c_M_back d a (wt mi 0 13 (min z 0)) (fun z' m2 => Ith z z' mi m2) := by
  have hB := hI.1
  have e137 : (wt mi 0 13 (min z 0)) 137 = mi 137 := wt_row _ _ (by decide)
  have fin : Ith z z mi (wt (wt mi 0 13 (min z 0)) 134 3 (min z 0)) := by
    refine Ith.mk rfl (Inv_kp hI ?_ ?_) rfl
    · have hI := hB
      obtain ⟨hs, ht, h1, h2, h3, h4, h5, h6, h7, h8, h9, h10⟩ := id hI
      (unfold Base Hs; simp only [wt_r, cpm_r, svc, Nat.reduceEqDiff, reduceIte]; refine ⟨?_, ?_, ?_, ?_, ?_, ?_, ?_, ?_, ?_, ?_, ?_, ?_⟩ <;> (repeat (first | assumption | exact P_stat_c ‹_› | refine P_stat_m ?_ (by decide) | refine P_stat_h ?_ (by decide) | refine P_tape_m ?_ (by decide) | refine P_num_c ?_ (by omega) | refine P_num_b ?_ (by decide) | refine P_sgn_c ?_ (by omega) | refine P_xy_c ?_ (by omega) | refine P_w_c ?_ (by omega) | refine P_tr_c ?_ (by omega) | refine P_pr_c ?_ (by omega) | refine P_si_c ?_ (by omega) | refine P_va_c ?_ (by omega) | refine P_us_c ?_ (by omega) | refine P_ud_c ?_ (by omega))))
    · (repeat' (first | exact Kp.rfl' _ | refine Kp.w0 ?_ (by decide) | refine Kp.w134 ?_ (by decide) | refine Kp.w135 ?_ (by omega) | refine Kp.wo ?_ (by decide) | refine Kp.cp ?_ (by decide) | refine Kp.o ?_ (by decide)))
  rcases hz with ⟨rfl, h⟩ | ⟨rfl, h, k⟩
  · exact v_M_back ⟨by omega, fun q => by omega, fun _ => fin⟩
  · refine v_M_back ⟨by omega, fun q => ⟨h, fun w => ?_, fun _ => fin⟩, fun q => by omega⟩
    exfalso
    rw [e137] at w
    have := hI.2.2.2.1
    have ha : a = 0 ∨ a = 1 := by omega
    rcases ha with rfl | rfl
    · exact w (this.1.symm.trans k)
    · exact w (this.2.symm.trans k)
theorem ca_back {a : Int} (hI : Inv mi) (hd : 90 ≤ d) : c_C_back d a mi (fun z m1 => c_M_back d a m1 (fun z' m2 => Ith z z' mi m2)) := by
  have hG := hI.2.2.2
  refine v_C_back ⟨by omega, fun q => ⟨q, fun k => ⟨fun e => ?_, fun e => ?_⟩, fun k => ⟨by omega, ref_no_back hI (by omega) (Or.inr ⟨rfl, q, k⟩)⟩⟩, fun q => ⟨by omega, ref_no_back hI (by omega) (Or.inl ⟨rfl, q⟩)⟩⟩
  · subst e
    obtain ⟨hh, ⟨⟨u1, u2, u3⟩, _⟩⟩ := hG.2.1 k
    have s1 : mi 44 5 = mi 136 1 := hh.2.2.2.2.2.1.1
    have s2 := hh.2.2.2.2.2.1.2.1
    have d1 : mi 50 9 = mi 136 2 := hh.2.2.2.2.2.2.2.2.1.1
    have d2 := hh.2.2.2.2.2.2.2.2.1.2.1
    have x1 : 0 ≤ mi 40 3 ∧ mi 40 3 ≤ 400 := u1
    have x2 : 0 ≤ mi 40 4 ∧ mi 40 4 ≤ 40 := u2
    have x3 : 0 ≤ mi 40 5 ∧ mi 40 5 ≤ 12 := u3
    exact ⟨by omega, mk_back (o := 30) hI (by omega) (by omega) k⟩
  · subst e
    obtain ⟨hh, ⟨⟨u1, u2, u3⟩, _⟩⟩ := hG.2.2 k
    have s1 : mi 73 5 = mi 136 (2066 + 1) := hh.2.2.2.2.2.1.1
    have s2 : 0 ≤ mi 136 (2066 + 1) ∧ mi 136 (2066 + 1) ≤ 120 := hh.2.2.2.2.2.1.2.1
    have d1 : mi 79 9 = mi 136 (2066 + 2) := hh.2.2.2.2.2.2.2.2.1.1
    have d2 : 0 ≤ mi 136 (2066 + 2) ∧ mi 136 (2066 + 2) ≤ 60 := hh.2.2.2.2.2.2.2.2.1.2.1
    have x1 : 0 ≤ mi 69 3 ∧ mi 69 3 ≤ 400 := u1
    have x2 : 0 ≤ mi 69 4 ∧ mi 69 4 ≤ 40 := u2
    have x3 : 0 ≤ mi 69 5 ∧ mi 69 5 ≤ 12 := u3
    exact ⟨by omega, mk_back (o := 59) hI (by omega) (by omega) k⟩
end CABACK
