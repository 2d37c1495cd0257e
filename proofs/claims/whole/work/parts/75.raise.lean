section RAISE
variable {d : Nat} {mi : MT}
/-- one seam's changes, in figures -/
def FO (m : MT) (a b side : Int) (p : Int × (Nat → Int)) : Int × (Nat → Int) := fo (td (m 135) a b) side (m 13) (fires (td (m 135) a b) (m 11) (m 12)) (m 10 4).toNat 0 p
/-- a surface, in figures -/
def SFp (m : MT) (b : Int) : Int × (Nat → Int) := (m 4 b.toNat, cpy (m 3) (m 102) (b * 4).toNat 0 (m 4 b.toNat).toNat)
def SFq (m : MT) (a b : Int) : Int × (Nat → Int) := if a = -1 then SFp m b else FO m a b 1 (SFp m b)
def SF (m : MT) (a b c : Int) : Int × (Nat → Int) := if c = -1 then SFq m a b else FO m b c 0 (SFq m a b)
theorem SOK_0 {b : Int} (h2 : P_sgn (mi 3) (mi 4) (mi 135)) (h10 : mi 135 0 ≤ 10) (hb : 0 ≤ b ∧ b < mi 135 0) : SOK (SFp mi b) := by
  obtain ⟨f1, f2, f3, f4⟩ := h2 b hb.1 hb.2 (by omega)
  refine ⟨f2, fun k k0 k1 => ?_⟩
  have k1' : k < mi 4 b.toNat := k1
  show okSt (cpy (mi 3) (mi 102) (b * 4).toNat 0 (mi 4 b.toNat).toNat k.toNat)
  rw [cpy_at, if_pos (by omega), show (b * 4).toNat + (k.toNat - 0) = (b * 4 + k).toNat by omega]
  obtain ⟨g1, g2⟩ := f3 k k0 k1'
  exact ⟨g1, fun m m0 m4 => by rw [(g2 m m0 m4).1]; exact (g2 m m0 m4).2⟩
theorem s_S_raise {P : MT → Prop} {a b c : Int} (hd : 14 < d) (h2 : P_sgn (mi 3) (mi 4) (mi 135)) (h10 : mi 135 0 ≤ 10) (hU : RulR (mi 10 3) (mi 10 4) (mi 10 5) (mi 11) (mi 12) (mi 13) mi) (ha : a = -1 ∨ (0 ≤ a ∧ a < mi 135 0)) (hb : 0 ≤ b ∧ b < mi 135 0) (hc : c = -1 ∨ (0 ≤ c ∧ c < mi 135 0)) (h : ∀ m1 : MT, FC mi m1 → SOK (sur m1) → sur m1 = SF mi a b c → P m1) : c_S_raise d a b c mi P := by
  obtain ⟨f1, f2, f3, f4⟩ := h2 b hb.1 hb.2 (by omega)
  have S0 : SOK (sur (wt (cpm mi 3 102 (b * 4).toNat 0 (mi 4 b.toNat).toNat) 100 4 (mi 4 b.toNat))) := SOK_0 h2 h10 hb
  have F0 : FC mi (wt (cpm mi 3 102 (b * 4).toNat 0 (mi 4 b.toNat).toNat) 100 4 (mi 4 b.toNat)) := ⟨fun k x _ y => by rw [wt_row _ _ x, cpm_r, if_neg y], fun j x => by rw [wt_ne _ _ x]; rfl⟩
  have e0 : sur (wt (cpm mi 3 102 (b * 4).toNat 0 (mi 4 b.toNat).toNat) 100 4 (mi 4 b.toNat)) = SFp mi b := rfl
  refine v_S_raise ⟨by omega, ?_⟩
  generalize wt (cpm mi 3 102 (b * 4).toNat 0 (mi 4 b.toNat).toNat) 100 4 (mi 4 b.toNat) = M0 at *
  -- a seam's changes on any memory behind
  have CH : ∀ (m : MT) (x y side : Int) (Q : MT → Prop), (side = 0 ∨ side = 1) → FC mi m → SOK (sur m) → (0 ≤ x ∧ x < mi 135 0) → (0 ≤ y ∧ y < mi 135 0) → (∀ m1 : MT, FC mi m1 → SOK (sur m1) → sur m1 = FO mi x y side (sur m) → Q m1) → c_S_change (d - 1) x y side m Q := by
    intro m x y side Q hs F hS hx hy hQ
    have r : ∀ k : Nat, k < 100 ∨ 102 < k → m k = mi k := fun k hk => F.1 k (by omega) (by omega) (by omega)
    refine s_S_change (by omega) hs (by rw [r 3 (by omega), r 4 (by omega), r 135 (by omega)]; exact h2) (by rw [r 135 (by omega)]; exact h10) (by rw [r 10 (by omega), r 11 (by omega), r 12 (by omega), r 13 (by omega)]; exact RulR_m hU (by rw [r 134 (by omega)]) (fun k hk => r k (by omega))) (by rw [r 135 (by omega)]; exact hx) (by rw [r 135 (by omega)]; exact hy) hS (fun m1 F1 S1 e1 => hQ m1 (F.trans F1) S1 ?_)
    rw [e1, r 135 (by omega), r 10 (by omega), r 11 (by omega), r 12 (by omega), r 13 (by omega)]
    rfl
  refine ⟨fun qa => ⟨fun qc => h M0 F0 S0 ?_, fun qc => ?_⟩, fun qa => ?_⟩
  · rw [e0]; unfold SF SFq; rw [if_pos qc, if_pos qa]
  · refine CH M0 b c 0 _ (Or.inl rfl) F0 S0 hb (by omega) (fun m1 F1 S1 e1 => h m1 F1 S1 ?_)
    rw [e1, e0]; unfold SF SFq; rw [if_neg qc, if_pos qa]
  · refine CH M0 a b 1 _ (Or.inr rfl) F0 S0 (by omega) hb (fun m1 F1 S1 e1 => ⟨fun qc => h m1 F1 S1 ?_, fun qc => ?_⟩)
    · rw [e1, e0]; unfold SF SFq; rw [if_pos qc, if_neg qa]
    · refine CH m1 b c 0 _ (Or.inl rfl) F1 S1 hb (by omega) (fun m2 F2 S2 e2 => h m2 F2 S2 ?_)
      rw [e2, e1, e0]; unfold SF SFq; rw [if_neg qc, if_neg qa]
end RAISE
