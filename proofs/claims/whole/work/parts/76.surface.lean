section SURFACE
variable {d : Nat} {mi mc : MT}
theorem SR_0 {b : Int} {m : MT} (h2 : P_sgn (mi 3) (mi 4) (mi 135)) (h10 : mi 135 0 ≤ 10) (hb : 0 ≤ b ∧ b < mi 135 0) (e39 : m 134 39 = mi 135 (16 + 17 * b).toNat) (e158 : ∀ l : Int, 0 ≤ l → l < 4 * mi 135 (16 + 17 * b).toNat → m 158 l.toNat = mi 135 (16 + 17 * b + 1 + l).toNat) : SR (SFp mi b) m := by
  obtain ⟨f1, f2, f3, f4⟩ := h2 b hb.1 hb.2 (by omega)
  refine ⟨by rw [e39]; exact f1.symm, fun k k0 k1 j j0 j1 => ?_⟩
  have k1' : k < mi 4 b.toNat := k1
  show m 158 (4 * k + j).toNat = mkv (cpy (mi 3) (mi 102) (b * 4).toNat 0 (mi 4 b.toNat).toNat k.toNat) j
  rw [cpy_at, if_pos (by omega), show (b * 4).toNat + (k.toNat - 0) = (b * 4 + k).toNat by omega, e158 _ (by omega) (by omega), ((f3 k k0 k1').2 j j0 j1).1]
  congr 1; omega
theorem s_M_surfaces {P : MT → Prop} {a b c : Int} (hd : 14 < d) (h2 : P_sgn (mi 3) (mi 4) (mi 135)) (h10 : mi 135 0 ≤ 10) (hU : RulR (mi 10 3) (mi 10 4) (mi 10 5) (mi 11) (mi 12) (mi 13) mi) (hF : FC mi mc) (ha : a = -1 ∨ (0 ≤ a ∧ a < mi 135 0)) (hb : 0 ≤ b ∧ b < mi 135 0) (hc : c = -1 ∨ (0 ≤ c ∧ c < mi 135 0)) (h : ∀ m1 : MT, FM mc m1 → SR (SF mi a b c) m1 → P m1) : c_M_surfaces d a b c mc P := by
  obtain ⟨f1, f2, f3, f4⟩ := h2 b hb.1 hb.2 (by omega)
  have r : ∀ k : Nat, k < 100 ∨ 102 < k → mc k = mi k := fun k hk => hF.1 k (by omega) (by omega) (by omega)
  have c135 := r 135 (by omega)
  have UC : RulR (mi 10 3) (mi 10 4) (mi 10 5) (mi 11) (mi 12) (mi 13) mc := RulR_m hU (by rw [r 134 (by omega)]) (fun k hk => r k (by omega))
  have zk : ∀ x : Int, 0 ≤ x → x < mi 10 4 → mi 13 x.toNat / 1024 % 8 ≤ 4 := fun x x0 x1 => (aRel_z (hU.2.2.1 x x0 x1)).2.1
  have S0 := SOK_0 h2 h10 hb
  have SFO : ∀ (x y side : Int) (p : Int × (Nat → Int)), SOK p → SOK (FO mi x y side p) := fun x y side p hp => SOK_fo _ _ _ hp (fun z z0 z1 => zk z z0 (by have := hU.1.2; omega))
  have CHM : ∀ (m : MT) (x y side : Int) (p : Int × (Nat → Int)) (Q : MT → Prop), (side = 0 ∨ side = 1) → FM mc m → SOK p → SR p m → (0 ≤ x ∧ x < mi 135 0) → (0 ≤ y ∧ y < mi 135 0) → (∀ m1 : MT, FM mc m1 → SR (FO mi x y side p) m1 → Q m1) → c_M_changes (d - 1) x y side m Q := by
    intro m x y side p Q hs F hS hR hx hy hQ
    obtain ⟨g1, g2, _, _⟩ := h2 x hx.1 hx.2 (by omega)
    refine v_M_changes (l_M_changes (c := mi 135) (E := m 145) (p0 := p) (cc := mi 10 3) (ac := mi 10 4) (hh := mi 10 5) (co := mi 11) (en := mi 12) (acs := mi 13) (by omega) hs (by omega) (by omega) (by omega) hU.2.2.2.1.2 hS 0 hU.2.2.2.1.2.1 (by omega) m (RulR_fm UC F) rfl (by rw [F.1 135 (by decide) (by decide) (by decide)]; exact c135) hR (fun m1 F1 R1 => hQ m1 (F.trans F1) R1))
  refine v_M_surfaces ⟨by rw [c135]; omega, ?_⟩
  have L : ∀ i : Int, i ≤ 4 * mi 135 (16 + 17 * b).toNat → 0 ≤ i → ∀ t : Nat → Int, (∀ l : Int, 0 ≤ l → l < i → t l.toNat = mi 135 (16 + 17 * b + 1 + l).toNat) → h_M_surfaces_12 d a b c i (sv (wt mc 134 39 (mi 135 (16 + 17 * b).toNat)) 158 t) P := by
    refine upto _ (fun i hi ih i0 t t1 => ?_)
    have e39 : (sv (wt mc 134 39 (mi 135 (16 + 17 * b).toNat)) 158 t) 134 39 = mi 135 (16 + 17 * b).toNat := by show (wt mc 134 39 _) 134 39 = _; exact wt_same _ _ _ _
    have F1 : FM mc (sv (wt mc 134 39 (mi 135 (16 + 17 * b).toNat)) 158 t) := ⟨fun k x _ y => by rw [sv_ne _ _ y, wt_row _ _ x], fun j x => by show (wt mc 134 39 _) 134 j = _; exact wt_ne _ _ x⟩
    refine v_M_surfaces_12 ?_
    rw [e39]
    refine ⟨by omega, fun q => ?_, fun q => ⟨by omega, ?_⟩⟩
    · have R0 : SR (SFp mi b) (sv (wt mc 134 39 (mi 135 (16 + 17 * b).toNat)) 158 t) := SR_0 h2 h10 hb e39 (fun l l0 l1 => t1 l l0 (by omega))
      generalize sv (wt mc 134 39 (mi 135 (16 + 17 * b).toNat)) 158 t = M0 at *
      refine ⟨fun qa => ⟨fun qc => h M0 F1 ?_, fun qc => ⟨by omega, ?_⟩⟩, fun qa => ⟨by omega, ?_⟩⟩
      · unfold SF SFq; rw [if_pos qc, if_pos qa]; exact R0
      · refine CHM M0 b c 0 _ _ (Or.inl rfl) F1 S0 R0 hb (by omega) (fun m1 G1 R1 => h m1 G1 ?_)
        unfold SF SFq; rw [if_neg qc, if_pos qa]; exact R1
      · refine CHM M0 a b 1 _ _ (Or.inr rfl) F1 S0 R0 (by omega) hb (fun m1 G1 R1 => ⟨fun qc => h m1 G1 ?_, fun qc => ?_⟩)
        · unfold SF SFq; rw [if_pos qc, if_neg qa]; exact R1
        · refine CHM m1 b c 0 _ _ (Or.inl rfl) G1 (SFO _ _ _ _ S0) R1 hb (by omega) (fun m2 G2 R2 => h m2 G2 ?_)
          unfold SF SFq; rw [if_neg qc, if_neg qa]; exact R2
    · rw [wt_sv]
      refine ih q (by omega) _ (fun l l0 l1 => ?_)
      by_cases x : l = i
      · subst x; rw [sv_eq]; show mc 135 _ = _; rw [c135]
      · rw [svn _ _ (by omega)]; exact t1 l l0 (by omega)
  have := L 0 (by omega) (by omega) (mc 158) (fun l a b => by omega)
  have e : (wt mc 134 39 (mi 135 (16 + 17 * b).toNat)) 158 = mc 158 := rfl
  rw [← e, sv_self] at this
  rw [c135]
  exact this
end SURFACE
