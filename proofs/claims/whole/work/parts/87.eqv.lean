section EQVS
variable {d : Nat} {M : MT} {fr kn n : Int}
/-- surfaces that are alike -/
def EQV (p q : Int × (Nat → Int)) : Prop := p.1 = q.1 ∧ ∀ k : Int, 0 ≤ k → k < p.1 → p.2 k.toNat = q.2 k.toNat
theorem EQV.rfl' (p : Int × (Nat → Int)) : EQV p p := ⟨rfl, fun _ _ _ => rfl⟩
theorem EQV.symm {p q : Int × (Nat → Int)} (h : EQV p q) : EQV q p := ⟨h.1.symm, fun k k0 k1 => (h.2 k k0 (by have := h.1; omega)).symm⟩
theorem EQV.trans {p q r : Int × (Nat → Int)} (h1 : EQV p q) (h2 : EQV q r) : EQV p r := ⟨h1.1.trans h2.1, fun k k0 k1 => (h1.2 k k0 k1).trans (h2.2 k k0 (by have := h1.1; omega))⟩
theorem ob_eqv {t : Nat → Int} {side z : Int} {p q : Int × (Nat → Int)} (h : EQV p q) (h1 : 1 ≤ p.1) : EQV (ob t side z p) (ob t side z q) := by
  obtain ⟨e1, e2⟩ := id h
  unfold ob
  rw [← e1]
  split
  · split
    · refine ⟨rfl, fun k k0 k1 => ?_⟩
      have k1' : k < p.1 - 1 := k1
      show (if side = 1 then cpy p.2 p.2 1 0 (p.1 - 1).toNat else p.2) k.toNat = (if side = 1 then cpy q.2 q.2 1 0 (p.1 - 1).toNat else q.2) k.toNat
      split
      · rw [cpy_at, cpy_at, if_pos (by omega), if_pos (by omega), show 1 + (k.toNat - 0) = (k + 1).toNat by omega]
        exact e2 (k + 1) (by omega) (by omega)
      · exact e2 k k0 (by omega)
    · exact h
  · split
    · have ej : p.2 (if side = 0 then p.1 - 1 else 0).toNat = q.2 (if side = 0 then p.1 - 1 else 0).toNat := e2 _ (by split <;> omega) (by split <;> omega)
      refine ⟨rfl, fun k k0 k1 => ?_⟩
      have k1' : k < p.1 := k1
      show sv p.2 (if side = 0 then p.1 - 1 else 0).toNat _ k.toNat = sv q.2 (if side = 0 then p.1 - 1 else 0).toNat _ k.toNat
      rw [ej, svr, svr, e2 k k0 k1']
    · exact h
theorem fo_eqv {t acs : Nat → Int} {side : Int} {F : Int → Bool} : ∀ (k : Nat) (i : Int) (p q : Int × (Nat → Int)), SOK p → EQV p q → (∀ x : Int, i ≤ x → x < i + k → acs x.toNat / 1024 % 8 ≤ 4) → EQV (fo t side acs F k i p) (fo t side acs F k i q)
  | 0, _, _, _, _, h, _ => h
  | k + 1, i, p, q, hs, h, hz => by
    simp only [fo]
    by_cases c : acs i.toNat / 8192 % 2 = side ∧ F (acs i.toNat / 16384) = true
    · rw [if_pos c, if_pos c]
      exact fo_eqv k (i + 1) _ _ (SOK_ob hs ⟨by omega, hz i (by omega) (by omega)⟩) (ob_eqv h hs.1.1) (fun x a b => hz x (by omega) (by omega))
    · rw [if_neg c, if_neg c]
      exact fo_eqv k (i + 1) _ _ hs h (fun x a b => hz x (by omega) (by omega))
theorem FO_eqv {p q : Int × (Nat → Int)} {x y side : Int} (H : HX M fr kn n) (hs : SOK p) (h : EQV p q) : EQV (FO M x y side p) (FO M x y side q) := by
  have hU := H.2.2.2.2.2.1
  exact fo_eqv _ _ _ _ hs h (fun z z0 z1 => (aRel_z (hU.2.2.1 z z0 (by have := hU.1.2; omega))).2.1)
theorem FO_SOK {p : Int × (Nat → Int)} {x y side : Int} (H : HX M fr kn n) (hs : SOK p) : SOK (FO M x y side p) := by
  have hU := H.2.2.2.2.2.1
  exact SOK_fo _ _ _ hs (fun z z0 z1 => (aRel_z (hU.2.2.1 z z0 (by have := hU.1.2; omega))).2.1)
theorem SFq_SOK {a b : Int} (H : HX M fr kn n) (hb : 0 ≤ b ∧ b < M 135 0) : SOK (SFq M a b) := by
  have S0 := SOK_0 H.2.1 H.1.2.1.2 hb
  unfold SFq
  split
  · exact S0
  · exact FO_SOK H S0
/-- another memory, with other words behind the surfaces -/
theorem SF_alike {M' : MT} {a b c : Int} (H : HX M fr kn n) (hb : 0 ≤ b ∧ b < M 135 0) (e3 : M' 3 = M 3) (e4 : M' 4 = M 4) (e10 : M' 10 = M 10) (e11 : M' 11 = M 11) (e12 : M' 12 = M 12) (e13 : M' 13 = M 13) (e135 : M' 135 = M 135) : EQV (SF M a b c) (SF M' a b c) := by
  have S0 := SOK_0 H.2.1 H.1.2.1.2 hb
  have E0 : EQV (SFp M b) (SFp M' b) := by
    unfold SFp
    rw [e3, e4]
    refine ⟨rfl, fun k k0 k1 => ?_⟩
    have k1' : k < M 4 b.toNat := k1
    show cpy _ _ _ _ _ _ = cpy _ _ _ _ _ _
    rw [cpy_at, cpy_at, if_pos (by omega), if_pos (by omega)]
  have FE : ∀ (x y side : Int) (q : Int × (Nat → Int)), FO M' x y side q = FO M x y side q := fun x y side q => by unfold FO; rw [e10, e11, e12, e13, e135]
  have E1 : EQV (SFq M a b) (SFq M' a b) := by
    unfold SFq
    split
    · exact E0
    · rw [FE]; exact FO_eqv H S0 E0
  unfold SF
  split
  · exact E1
  · rw [FE]; exact FO_eqv H (SFq_SOK H hb) E1
theorem SG_alike {M' : MT} {p q : Int × (Nat → Int)} {f g v : Int} (h : EQV p q) (hf : 0 ≤ f) : SG (fun f i => KF (M 135) fr kn f (q.2 i.toNat)) q.1 f g v ↔ SG (fun f i => KF (M 135) fr kn f (p.2 i.toNat)) p.1 f g v := by
  unfold SG
  rw [← h.1]
  constructor
  · rintro ⟨h1, h2⟩
    exact ⟨h1, (PT_cg (z := p.1) (m := g) (fun g' i _ _ i0 i1 => by show KF _ _ _ _ _ = KF _ _ _ _ _; rw [h.2 i i0 i1]) _ _ _ _ (by omega) (by omega) (by omega)).mpr h2⟩
  · rintro ⟨h1, h2⟩
    exact ⟨h1, (PT_cg (z := p.1) (m := g) (fun g' i _ _ i0 i1 => by show KF _ _ _ _ _ = KF _ _ _ _ _; rw [h.2 i i0 i1]) _ _ _ _ (by omega) (by omega) (by omega)).mpr h2⟩
theorem sgX_alike {M' : MT} (H : HX M fr kn n) (e3 : M' 3 = M 3) (e4 : M' 4 = M 4) (e10 : M' 10 = M 10) (e11 : M' 11 = M 11) (e12 : M' 12 = M 12) (e13 : M' 13 = M 13) (e135 : M' 135 = M 135) : sgX M' fr kn n = sgX M fr kn n := by
  funext a b c f g v
  unfold sgX
  rw [e135]
  refine propext ⟨fun h => ⟨h.1, ?_⟩, fun h => ⟨h.1, ?_⟩⟩
  · have E := SF_alike (a := a) (b := b) (c := c) H h.1.2.2.1 e3 e4 e10 e11 e12 e13 e135
    have h2 := h.2
    unfold kc at h2 ⊢
    rw [e135] at h2
    exact (SG_alike (M' := M') E h.1.1.1).mp h2
  · have E := SF_alike (a := a) (b := b) (c := c) H h.1.2.2.1 e3 e4 e10 e11 e12 e13 e135
    have h2 := h.2
    unfold kc at h2 ⊢
    rw [e135]
    exact (SG_alike (M' := M') E h.1.1.1).mpr h2
end EQVS
