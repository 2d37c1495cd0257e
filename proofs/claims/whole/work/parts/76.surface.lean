section SURFACE
variable {d : Nat} {mi mc : MT}
theorem SR_0 {b : Int} {m : MT} (h2 : P_sgn (mi 3) (mi 4) (mi 135)) (h10 : mi 135 0 ≤ 10) (hb : 0 ≤ b ∧ b < mi 135 0) (e39 : m 134 39 = mi 135 (16 + 17 * b).toNat) (e158 : ∀ l : Int, 0 ≤ l → l < 4 * mi 135 (16 + 17 * b).toNat → m 158 l.toNat = mi 135 (16 + 17 * b + 1 + l).toNat) : SR (SFp mi b) m := by
  obtain ⟨f1, f2, f3, f4⟩ := h2 b hb.1 hb.2 (by omega)
  refine ⟨by rw [e39]; exact f1.symm, fun k k0 k1 j j0 j1 => ?_⟩
  have k1' : k < mi 4 b.toNat := k1
  show m 158 (4 * k + j).toNat = mkv (cpy (mi 3) (mi 102) (b * 4).toNat 0 (mi 4 b.toNat).toNat k.toNat) j
  rw [cpy_at, if_pos (by omega), show (b * 4).toNat + (k.toNat - 0) = (b * 4 + k).toNat by omega, e158 _ (by omega) (by omega), ((f3 k k0 k1').2 j j0 j1).1]
  congr 1; omega
theorem s_M_surfaces {P : MT → Prop} {a b c : Int} (hd : 14 < d) (h2 : P_sgn (mi 3) (mi 4) (mi 135)) (h10 : mi 135 0 ≤ 10) (hU : RulR (mi 10 3) (mi 10 4) (mi 10 5) (mi 11) (mi 12) (mi 13) mi) (hF : FC mi mc) (ha : a = -1 ∨ (0 ≤ a ∧ a < mi 135 0)) (hb : 0 ≤ b ∧ b < mi 135 0) (hc : c = -1 ∨ (0 ≤ c ∧ c < mi 135 0)) (h : ∀ m1 : MT, FM mc m1 → SR (SF mi a b c) m1 → P m1) : c_M_surfaces d a b c mc P := by
  obtain ⟨f1, f2, f3, f4⟩ := h2 b hb.1 hb.2 (by omega)
  have r : ∀ k : Nat, k < 100 ∨ 102 < k → mc k = mi k := fun k hk => hF.1 k (by omega) (by omega) (by omega)
  have c135 := r 135 (by omega)
  have UC : RulR (mi 10 3) (mi 10 4) (mi 10 5) (mi 11) (mi 12) (mi 13) mc := RulR_m hU (by rw [r 134 (by omega)]) (fun k hk => r k (by omega))
  have zk : ∀ x : Int, 0 ≤ x → x < mi 10 4 → mi 13 x.toNat / 1024 % 8 ≤ 4 := fun x x0 x1 => (aRel_z (hU.2.2.1 x x0 x1)).2.1
  have S0 := SOK_0 h2 h10 hb
  have SFO : ∀ (x y side : Int) (p : Int × (Nat → Int)), SOK p → SOK (FO mi x y side p) := fun x y side p hp => SOK_fo _ _ _ hp (fun z z0 z1 => zk z z0 (by have := hU.1.2; omega))
  have CHM : ∀ (m : MT) (x y side : Int) (p : Int × (Nat → Int)) (Q : MT → Prop), (side = 0 ∨ side = 1) → FM mc m → SOK p → SR p m → (0 ≤ x ∧ x < mi 135 0) → (0 ≤ y ∧ y < mi 135 0) → (∀ m1 : MT, FM mc m1 → SR (FO mi x y side p) m1 → Q m1) → c_M_changes (d - 1) x y side m Q := by
    intro m x y side p Q hs F hS hR hx hy hQ
    obtain ⟨g1, g2, _, _⟩ := h2 x hx.1 hx.2 (by omega)
    refine v_M_changes (l_M_changes (c := mi 135) (E := m 145) (p0 := p) (cc := mi 10 3) (ac := mi 10 4) (hh := mi 10 5) (co := mi 11) (en := mi 12) (acs := mi 13) (by omega) hs (by omega) (by omega) (by omega) hU.2.2.2.1.2 hS 0 hU.2.2.2.1.2.1 (by omega) m (RulR_fm UC F) rfl (by rw [F.1 135 (by decide) (by decide) (by decide)]; exact c135) hR (fun m1 F1 R1 => hQ m1 (F.trans F1) R1))
  refine v_M_surfaces ⟨by omega, ?_⟩
  have L : ∀ i : Int, i ≤ 4 * mi 135 (16 + 17 * b).toNat → 0 ≤ i → ∀ t : Nat → Int, (∀ l : Int, 0 ≤ l → l < i → t l.toNat = mi 135 (16 + 17 * b + 1 + l).toNat) → h_M_surfaces_12 d a b c i (sv (wt mc 134 39 (mi 135 (16 + 17 * b).toNat)) 158 t) P := by
    refine upto _ (fun i hi ih i0 t t1 => ?_)
    have e39 : (sv (wt mc 134 39 (mi 135 (16 + 17 * b).toNat)) 158 t) 134 39 = mi 135 (16 + 17 * b).toNat := by show (wt mc 134 39 _) 134 39 = _; exact wt_same _ _ _ _
    have F1 : FM mc (sv (wt mc 134 39 (mi 135 (16 + 17 * b).toNat)) 158 t) := ⟨fun k x _ y => by rw [sv_ne _ _ y, wt_row _ _ x], fun j x => by show (wt mc 134 39 _) 134 j = _; exact wt_ne _ _ x⟩
    refine v_M_surfaces_12 ?_
    rw [e39]
    refine ⟨by omega, fun q => ?_, fun q => ⟨by omega, ?_⟩⟩
    · have R0 : SR (SFp mi b) (sv (wt mc 134 39 (mi 135 (16 + 17 * b).toNat)) 158 t) := SR_0 h2 h10 hb e39 (fun l l0 l1 => t1 l l0 (by omega))
      generalize sv (wt mc 134 39 (mi 135 (16 + 17 * b).toNat)) 158 t = M0 at *
      refine ⟨fun qa => ⟨fun qc => h M0 F1 ?_, fun qc => ⟨by omega, ?_⟩⟩, fun qa => ⟨by omega, ?_⟩⟩
      · unfold SF SFq; rw [if_pos qc, if_pos qa]; exact R0
      · refine CHM M0 b c 0 _ _ (Or.inl rfl) F1 S0 R0 hb (by omega) (fun m1 G1 R1 => h m1 G1 ?_)
        unfold SF SFq; rw [if_neg qc, if_pos qa]; exact R1
      · refine CHM M0 a b 1 _ _ (Or.inr rfl) F1 S0 R0 (by omega) hb (fun m1 G1 R1 => ⟨fun qc => h m1 G1 ?_, fun qc => ?_⟩)
        · unfold SF SFq; rw [if_pos qc, if_neg qa]; exact R1
        · refine CHM m1 b c 0 _ _ (Or.inl rfl) G1 (SFO _ _ _ _ S0) R1 hb (by omega) (fun m2 G2 R2 => h m2 G2 ?_)
          unfold SF SFq; rw [if_neg qc, if_neg qa]; exact R2
    · rw [wt_sv]
      refine ih q (by omega) _ (fun l l0 l1 => ?_)
      by_cases x : l = i
      · subst x; rw [sv_eq]; show mc 135 _ = _; rw [c135]
      · rw [svn _ _ (by omega)]; exact t1 l l0 (by omega)
  have := L 0 (by omega) (by omega) (mc 158) (fun l a b => by omega)
  have e : (wt mc 134 39 (mi 135 (16 + 17 * b).toNat)) 158 = mc 158 := rfl
  rw [← e, sv_self] at this
  rw [c135]
  exact this
def ANS (x y : Int) (p : Int × (Nat → Int)) : Int := if x = -1 then p.1 else if (0 ≤ x ∧ x < p.1) ∧ (0 ≤ y ∧ y < 4) then mkv (p.2 x.toNat) y else -1
theorem ca_surface {a b c x y : Int} (hI : Base mi) (hU : Rul mi) (hd : 30 ≤ d) : c_C_surface d a b c x y mi (fun z m1 => c_M_surface d a b c x y m1 (fun z' m2 => Bth z z' mi m2)) := by
  obtain ⟨hs, ht, h1, h2, h3, h4, h5, h6, h7, h8, h9, h10⟩ := id hI
  have hb8 : mi 2 8 = mi 135 0 := h1.1
  have hb9 : 0 ≤ mi 135 0 ∧ mi 135 0 ≤ 10 := h1.2.1
  have FAIL : ¬ ((a = -1 ∨ (0 ≤ a ∧ a < mi 135 0)) ∧ (0 ≤ b ∧ b < mi 135 0) ∧ (c = -1 ∨ (0 ≤ c ∧ c < mi 135 0))) → c_M_surface d a b c x y mi (fun z' m2 => Bth (-1) z' mi m2) := by
    intro w
    have G : Bth (-1) (-1) mi mi := Bth.mk rfl hI (Kp.rfl' _)
    refine v_M_surface ⟨fun e1 => ⟨by omega, fun w1 => G, fun w1 => ⟨fun e3 => absurd (by omega) w, fun e3 => ⟨fun w3 => absurd (by omega) w, fun w3 => G⟩⟩⟩, fun e1 => ⟨by omega, fun w0 => G, fun w0 => ⟨fun w1 => G, fun w1 => ⟨fun e3 => absurd (by omega) w, fun e3 => ⟨fun w3 => absurd (by omega) w, fun w3 => G⟩⟩⟩⟩⟩
  refine v_C_surface ⟨by omega, fun q => FAIL (by omega), fun q2 => ⟨by omega, fun q => FAIL (by omega), fun q1 => ⟨fun q3 => ?_, fun q => FAIL (by omega)⟩⟩⟩
  refine s_S_raise (by omega) h2 hb9.2 hU.1 (by omega) (by omega) (by omega) (fun mc F S e => ?_)
  have RS : c_M_surface d a b c x y mc (fun z' m2 => Bth (ANS x y (SF mi a b c)) z' mi m2) := by
    have c135 : mc 135 = mi 135 := F.1 135 (by decide) (by decide) (by decide)
    have S' : SOK (SF mi a b c) := by rw [← e]; exact S
    have BT : ∀ m1 : MT, FM mc m1 → Base m1 ∧ Kp mi m1 := by
      intro m1 G
      have r : ∀ k : Nat, k < 100 ∨ (102 < k ∧ k ≠ 134 ∧ k ≠ 152 ∧ k ≠ 158) → m1 k = mi k := fun k hk => by rw [G.1 k (by omega) (by omega) (by omega)]; exact F.1 k (by omega) (by omega) (by omega)
      have r4 : ∀ j : Nat, j ≠ 39 → m1 134 j = mi 134 j := fun j hj => by rw [G.2 j hj, F.1 134 (by decide) (by decide) (by decide)]
      refine ⟨?_, fun k hk => r k ?_, fun j _ => by rw [r 135 (by omega)], by rw [r 0 (by omega)], fun j hj => r4 j (by omega)⟩
      · unfold Base Hs
        simp (disch := decide) only [r]
        refine ⟨⟨?_, ?_⟩, ⟨ht.1, ?_, ht.2.2⟩, h1, h2, h3, h4, h5, h6, h7, h8, h9, h10⟩
        · rw [r4 3 (by decide)]; exact hs.1
        · rw [r4 11 (by decide)]; exact hs.2
        · rw [r4 7 (by decide)]; exact ht.2.1
      · unfold kpr at hk
        simp only [Bool.or_eq_true, Bool.and_eq_true, decide_eq_true_eq] at hk
        omega
    refine v_M_surface ?_
    rw [c135]
    refine ⟨fun e1 => ⟨by omega, fun w1 => absurd (by omega) w1, fun w1 => ⟨fun e3 => ?_, fun e3 => ⟨fun w3 => ?_, fun w3 => absurd (by omega) w3⟩⟩⟩, fun e1 => ⟨by omega, fun w0 => absurd (by omega) w0, fun w0 => ⟨fun w1 => absurd (by omega) w1, fun w1 => ⟨fun e3 => ?_, fun e3 => ⟨fun w3 => ?_, fun w3 => absurd (by omega) w3⟩⟩⟩⟩⟩
    all_goals
      refine s_M_surfaces (mi := mi) (by omega) h2 hb9.2 hU.1 F (by omega) (by omega) (by omega) (fun m1 G R => ?_)
      obtain ⟨B1, K1⟩ := BT m1 G
      have r39 := R.1
      have s4 := S'.1
      refine ⟨fun nx => ⟨by omega, fun w => ?_, fun w => ⟨fun w5 => ?_, fun w5 => ⟨by omega, ?_⟩⟩⟩, fun ex => ?_⟩
      · exact Bth.mk (by unfold ANS; rw [if_neg nx, if_neg (by omega)]) B1 K1
      · exact Bth.mk (by unfold ANS; rw [if_neg nx, if_neg (by omega)]) B1 K1
      · exact Bth.mk (by unfold ANS; rw [if_neg nx, if_pos (by omega)]; exact (R.2 x (by omega) (by omega) y (by omega) (by omega)).symm) B1 K1
      · exact Bth.mk (by unfold ANS; rw [if_pos ex]; exact r39.symm) B1 K1
  rw [← e] at RS
  have RS' : ∀ z : Int, ANS x y (sur mc) = z → c_M_surface d a b c x y mc (fun z' m2 => Bth z z' mi m2) := fun z hz => by rw [hz] at RS; exact RS
  have s4 := S.1
  have s4' : 1 ≤ mc 100 4 ∧ mc 100 4 ≤ 4 := s4
  refine v_C_ofSurface ⟨fun nx => ⟨by omega, fun w => RS' _ ?_, fun w => ⟨fun w5 => ⟨⟨by omega, by omega, (S.2 x w.1 w.2).1⟩, RS' _ ?_⟩, fun w5 => RS' _ ?_⟩⟩, fun ex => RS' _ ?_⟩
  · unfold ANS; rw [if_neg nx, if_neg (fun y => w y.1)]
  · unfold ANS; rw [if_neg nx, if_pos ⟨w, w5⟩]; rfl
  · unfold ANS; rw [if_neg nx, if_neg (fun y => w5 y.2)]
  · unfold ANS; rw [if_pos ex]; rfl
end SURFACE
