section LEADS
variable {d : Nat} {M : MT} {fr kn n : Int}
theorem s_Rg_blank {m : MT} {P : MT → Prop} {f k : Int} (hf : 0 ≤ f ∧ 0 ≤ k ∧ f + k ≤ 4840) (h : ∀ t : Nat → Int, (∀ j : Int, f ≤ j → j < f + k → t j.toNat = 268435456) → (∀ j : Nat, ¬ (f ≤ j ∧ (j : Int) < f + k) → t j = m 111 j) → P (sv m 111 t)) : c_Rg_blank d f k m P := by
  have L : ∀ i : Int, i ≤ f + k → f ≤ i → ∀ t : Nat → Int, (∀ j : Int, f ≤ j → j < i → t j.toNat = 268435456) → (∀ j : Nat, ¬ (f ≤ j ∧ (j : Int) < f + k) → t j = m 111 j) → h_Rg_blank_2 d f k i (sv m 111 t) P := by
    refine upto _ (fun i hi ih i0 t t1 t2 => ?_)
    refine v_Rg_blank_2 ⟨by omega, fun q => h t (fun j a b => t1 j a (by omega)) t2, fun q => ⟨by omega, ?_⟩⟩
    rw [wt_sv]
    refine ih q (by omega) _ (fun j a b => ?_) (fun j hj => by rw [svn _ _ (by omega)]; exact t2 j hj)
    by_cases e : j = i
    · subst e; rw [sv_eq]
    · rw [svn _ _ (by omega)]; exact t1 j a (by omega)
  have := L f (by omega) (by omega) (m 111) (fun j a b => by omega) (fun _ _ => rfl)
  rw [sv_self] at this
  exact v_Rg_blank this
theorem s_Rs_blank {m : MT} {P : MT → Prop} {f k : Int} (hf : 0 ≤ f ∧ 0 ≤ k ∧ f + k ≤ 420) (h : ∀ t : Nat → Int, (∀ j : Int, f ≤ j → j < f + k → t j.toNat = 268435456) → (∀ j : Nat, ¬ (f ≤ j ∧ (j : Int) < f + k) → t j = m 114 j) → P (sv m 114 t)) : c_Rs_blank d f k m P := by
  have L : ∀ i : Int, i ≤ f + k → f ≤ i → ∀ t : Nat → Int, (∀ j : Int, f ≤ j → j < i → t j.toNat = 268435456) → (∀ j : Nat, ¬ (f ≤ j ∧ (j : Int) < f + k) → t j = m 114 j) → h_Rs_blank_2 d f k i (sv m 114 t) P := by
    refine upto _ (fun i hi ih i0 t t1 t2 => ?_)
    refine v_Rs_blank_2 ⟨by omega, fun q => h t (fun j a b => t1 j a (by omega)) t2, fun q => ⟨by omega, ?_⟩⟩
    rw [wt_sv]
    refine ih q (by omega) _ (fun j a b => ?_) (fun j hj => by rw [svn _ _ (by omega)]; exact t2 j hj)
    by_cases e : j = i
    · subst e; rw [sv_eq]
    · rw [svn _ _ (by omega)]; exact t1 j a (by omega)
  have := L f (by omega) (by omega) (m 114) (fun j a b => by omega) (fun _ _ => rfl)
  rw [sv_self] at this
  exact v_Rs_blank this
/-- what the class's own work on rows leaves -/
def CX (m m2 : MT) : Prop := ∀ k : Nat, k < 100 ∨ k = 103 ∨ k = 104 ∨ 116 < k → m2 k = m k
theorem CX.rfl' (m : MT) : CX m m := fun _ _ => rfl
theorem CX.trans {a b c : MT} (h1 : CX a b) (h2 : CX b c) : CX a c := fun k x => (h2 k x).trans (h1 k x)
theorem CX_H {m : MT} (H : HX M fr kn n) (hC : CX M m) : HX m fr kn n := by
  obtain ⟨h1, h2, h3, h4, h6, hU, hn⟩ := H
  have r : ∀ k : Nat, k < 100 ∨ 116 < k → m k = M k := fun k hk => hC k (by omega)
  unfold HX
  simp (disch := decide) only [r]
  exact ⟨h1, h2, h3, h4, h6, RulR_m hU (by rw [r 134 (by decide)]) (fun k hk => r k (by omega)), hn⟩
theorem CX_FO {m : MT} {x y side : Int} {p : Int × (Nat → Int)} (hC : CX M m) : FO m x y side p = FO M x y side p := by
  unfold FO
  rw [hC 10 (by decide), hC 11 (by decide), hC 12 (by decide), hC 13 (by decide), hC 135 (by decide)]
/-- one seam's changes on the surface that stands -/
theorem s_change {m : MT} {P : MT → Prop} {x y side : Int} {p : Int × (Nat → Int)} (hd : 12 < d) (H : HX M fr kn n) (hC : CX M m) (hs : side = 0 ∨ side = 1) (hx : 0 ≤ x ∧ x < M 135 0) (hy : 0 ≤ y ∧ y < M 135 0) (hS : SOK p) (hp : EQV p (sur m)) (h : ∀ m1 : MT, FC m m1 → EQV (FO M x y side p) (sur m1) → P m1) : c_S_change d x y side m P := by
  have Hm := CX_H H hC
  have e135 : m 135 = M 135 := hC 135 (by decide)
  have S2 : SOK (sur m) := ⟨by rw [← hp.1]; exact hS.1, fun k k0 k1 => by rw [← hp.2 k k0 (by rw [hp.1]; exact k1)]; exact hS.2 k k0 (by rw [hp.1]; exact k1)⟩
  refine s_S_change hd hs Hm.2.1 Hm.1.2.1.2 Hm.2.2.2.2.2.1 (by rw [e135]; exact hx) (by rw [e135]; exact hy) S2 (fun m1 F S e => h m1 F ?_)
  rw [e]
  have := FO_eqv (x := x) (y := y) (side := side) H hS hp
  rw [← CX_FO hC (p := sur m)] at this
  exact this
def pr_ (a b : Int) : Int := (a + 1) * 10 + b
/-- a pair's states, kept -/
def BG (M m : MT) (a b : Int) : Prop := m 108 (pr_ a b).toNat = (SFq M a b).1 ∧ ∀ i : Int, 0 ≤ i → i < (SFq M a b).1 → m 107 (pr_ a b * 4 + i).toNat = (SFq M a b).2 i.toNat
theorem BG_of {m m1 : MT} {a b : Int} (h : BG M m a b) (e1 : m1 108 (pr_ a b).toNat = m 108 (pr_ a b).toNat) (hs : (SFq M a b).1 ≤ 4) (e2 : ∀ i : Int, 0 ≤ i → i < 4 → m1 107 (pr_ a b * 4 + i).toNat = m 107 (pr_ a b * 4 + i).toNat) : BG M m1 a b := ⟨by rw [e1]; exact h.1, fun i i0 i1 => by rw [e2 i i0 (by omega)]; exact h.2 i i0 i1⟩
theorem s_R_isBegunAlike {m : MT} {P : Bool → MT → Prop} {a o b : Int} (H : HX M fr kn n) (hb : 0 ≤ b ∧ b < M 135 0) (ha : -1 ≤ a ∧ a < M 135 0) (ho : -1 ≤ o ∧ o < M 135 0) (B1 : BG M m o b) (B2 : BG M m a b) (h1 : EQV (SFq M o b) (SFq M a b) → P true m) (h2 : ¬ EQV (SFq M o b) (SFq M a b) → P false m) : c_R_isBegunAlike d ((o + 1) * 10 + b) ((a + 1) * 10 + b) m P := by
  have s10 := H.1.2.1
  have So := (SFq_SOK (a := o) H hb).1
  have e1 : m 108 ((o + 1) * 10 + b).toNat = (SFq M o b).1 := B1.1
  have e2 : m 108 ((a + 1) * 10 + b).toNat = (SFq M a b).1 := B2.1
  have L : (SFq M o b).1 = (SFq M a b).1 → ∀ i : Int, i ≤ (SFq M o b).1 → 0 ≤ i → (∀ k : Int, 0 ≤ k → k < i → (SFq M o b).2 k.toNat = (SFq M a b).2 k.toNat) → h_R_isBegunAlike_19 d ((o + 1) * 10 + b) ((a + 1) * 10 + b) i m P := by
    intro es
    refine upto _ (fun i hi ih i0 hk => ?_)
    refine v_R_isBegunAlike_19 ⟨by omega, ?_⟩
    rw [e1]
    refine ⟨fun q => h1 ⟨es, fun k k0 k1 => hk k k0 (by omega)⟩, fun q => ⟨by omega, ?_⟩⟩
    have x1 : m 107 (((o + 1) * 10 + b) * 4 + i).toNat = (SFq M o b).2 i.toNat := B1.2 i i0 q
    have x2 : m 107 (((a + 1) * 10 + b) * 4 + i).toNat = (SFq M a b).2 i.toNat := B2.2 i i0 (by omega)
    rw [x1, x2]
    refine ⟨fun w => ⟨by omega, ih q (by omega) (fun k k0 k1 => ?_)⟩, fun w => h2 (fun E => w (E.2 i i0 q))⟩
    by_cases e : k = i
    · subst e; exact w
    · exact hk k k0 (by omega)
  refine v_R_isBegunAlike ⟨by omega, ?_⟩
  rw [e1, e2]
  exact ⟨fun es => L es 0 (by omega) (by omega) (fun k a b => by omega), fun es => h2 (fun E => es E.1)⟩
/-- the first sign that leaves the same states -/
def LD (M : MT) (a b o : Int) : Prop := (-1 ≤ o ∧ o ≤ a) ∧ EQV (SFq M o b) (SFq M a b) ∧ ∀ o' : Int, -1 ≤ o' → o' < o → ¬ EQV (SFq M o' b) (SFq M a b)
theorem LD_self {a b o : Int} (h : LD M a b o) : LD M o b o := ⟨⟨h.1.1, Int.le_refl _⟩, EQV.rfl' _, fun o' a1 a2 E => h.2.2 o' a1 a2 (E.trans h.2.1)⟩
theorem LD_uniq {a b o o' : Int} (h : LD M a b o) (h' : LD M a b o') : o = o' := by
  by_cases c : o < o'
  · exact absurd h.2.1 (h'.2.2 o h.1.1 c)
  · by_cases e : o' < o
    · exact absurd h'.2.1 (h.2.2 o' h'.1.1 e)
    · omega
theorem s_R_leaderOf {m : MT} {P : Int → MT → Prop} {a b : Int} (hd : 1 < d) (H : HX M fr kn n) (hb : 0 ≤ b ∧ b < M 135 0) (ha : -1 ≤ a ∧ a < M 135 0) (B : ∀ o : Int, -1 ≤ o → o ≤ a → BG M m o b) (h : ∀ o : Int, LD M a b o → P ((o + 1) * 10 + b) m) : c_R_leaderOf d a b m P := by
  have s10 := H.1.2.1
  have L : ∀ o : Int, o ≤ a → -1 ≤ o → (∀ o' : Int, -1 ≤ o' → o' < o → ¬ EQV (SFq M o' b) (SFq M a b)) → h_R_leaderOf_9 d a b ((a + 1) * 10 + b) o m P := by
    refine upto _ (fun o ho ih o0 hno => ?_)
    refine v_R_leaderOf_9 ⟨fun q => ?_, fun q => ⟨by omega, ?_⟩⟩
    · have : o = a := by omega
      subst this
      exact h o ⟨⟨o0, Int.le_refl _⟩, EQV.rfl' _, hno⟩
    · refine s_R_isBegunAlike H hb ha (by omega) (B o o0 ho) (B a ha.1 (Int.le_refl _)) (fun E => ⟨fun w => absurd w (by decide), fun _ => h o ⟨⟨o0, ho⟩, E, hno⟩⟩) (fun E => ⟨fun _ => ih q (by omega) (fun o' a1 a2 => ?_), fun w => absurd w (by decide)⟩)
      by_cases e : o' = o
      · subst e; exact E
      · exact hno o' a1 (by omega)
  exact v_R_leaderOf ⟨by omega, L (-1) ha.1 (by omega) (fun o' a1 a2 => by omega)⟩
def FR1 (m m1 : MT) : Prop := ∀ k : Nat, (k < 100 ∨ 102 < k) → k ≠ 106 → k ≠ 107 → k ≠ 108 → m1 k = m k
theorem s_R_leads {m : MT} {P : Bool → MT → Prop} {a b : Int} (hd : 14 < d) (H : HX M fr kn n) (hC : CX M m) (hb : 0 ≤ b ∧ b < M 135 0) (ha : -1 ≤ a ∧ a < M 135 0) (B : ∀ o : Int, -1 ≤ o → o < a → BG M m o b)
    (h : ∀ (t : Bool) (m1 : MT) (o : Int), FR1 m m1 → BG M m1 a b → LD M a b o → m1 106 (pr_ a b).toNat = pr_ o b → (∀ j : Nat, (j : Int) ≠ pr_ a b → m1 106 j = m 106 j ∧ m1 108 j = m 108 j) → (∀ j : Nat, ¬ (pr_ a b * 4 ≤ j ∧ (j : Int) < pr_ a b * 4 + 4) → m1 107 j = m 107 j) → (t = true ↔ o = a) → P t m1) : c_R_leads d a b m P := by
  have s10 := H.1.2.1
  have S0 := SOK_0 H.2.1 H.1.2.1.2 hb
  have SQ := SFq_SOK (a := a) H hb
  have e3 : m 3 = M 3 := hC 3 (by decide)
  have e4 : m 4 = M 4 := hC 4 (by decide)
  have s4 : 1 ≤ M 4 b.toNat ∧ M 4 b.toNat ≤ 4 := S0.1
  -- the same end on both roads
  have END : ∀ m4 : MT, FC m m4 → EQV (SFq M a b) (sur m4) → c_R_leaderOf (d - 1) a b (cpm (wt m4 108 ((a + 1) * 10 + b).toNat (m4 100 4)) 102 107 0 (((a + 1) * 10 + b) * 4).toNat (m4 100 4).toNat) (fun z5 m5 => (¬ z5 = (a + 1) * 10 + b → (P false (wt m5 106 ((a + 1) * 10 + b).toNat z5))) ∧ (z5 = (a + 1) * 10 + b → (P true (wt m5 106 ((a + 1) * 10 + b).toNat z5)))) := by
    intro m4 F E
    have z4 : m4 100 4 = (SFq M a b).1 := E.1.symm
    have sz := SQ.1
    rw [z4]
    have c107 : ∀ j : Nat, (cpm (wt m4 108 ((a + 1) * 10 + b).toNat (SFq M a b).1) 102 107 0 (((a + 1) * 10 + b) * 4).toNat (SFq M a b).1.toNat) 107 j = if (((a + 1) * 10 + b) * 4).toNat ≤ j ∧ j < (((a + 1) * 10 + b) * 4).toNat + (SFq M a b).1.toNat then m4 102 (0 + (j - (((a + 1) * 10 + b) * 4).toNat)) else m 107 j := by
      intro j
      have := F.1 107 (by decide) (by decide) (by decide)
      rw [← this]; rfl
    have c108 : ∀ j : Nat, (cpm (wt m4 108 ((a + 1) * 10 + b).toNat (SFq M a b).1) 102 107 0 (((a + 1) * 10 + b) * 4).toNat (SFq M a b).1.toNat) 108 j = if j = ((a + 1) * 10 + b).toNat then (SFq M a b).1 else m 108 j := by
      intro j
      have := F.1 108 (by decide) (by decide) (by decide)
      rw [← this]; rfl
    have cO : ∀ k : Nat, (k < 100 ∨ 102 < k) → k ≠ 107 → k ≠ 108 → (cpm (wt m4 108 ((a + 1) * 10 + b).toNat (SFq M a b).1) 102 107 0 (((a + 1) * 10 + b) * 4).toNat (SFq M a b).1.toNat) k = m k := by
      intro k k1 k2 k3
      rw [cpm_r, if_neg k2, wt_row _ _ k3]
      exact F.1 k (by omega) (by omega) (by omega)
    generalize cpm (wt m4 108 ((a + 1) * 10 + b).toNat (SFq M a b).1) 102 107 0 (((a + 1) * 10 + b) * 4).toNat (SFq M a b).1.toNat = mk at *
    have Ba : BG M mk a b := by
      refine ⟨?_, fun i i0 i1 => ?_⟩
      · show mk 108 ((a + 1) * 10 + b).toNat = _
        rw [c108, if_pos rfl]
      · show mk 107 (((a + 1) * 10 + b) * 4 + i).toNat = _
        rw [c107, if_pos (by omega), E.2 i i0 i1]
        show m4 102 _ = m4 102 _
        congr 1; omega
    have Bo : ∀ o : Int, -1 ≤ o → o < a → BG M mk o b := by
      intro o o0 o1
      refine BG_of (B o o0 o1) ?_ (SFq_SOK (a := o) H hb).1.2 (fun i i0 i1 => ?_)
      · show mk 108 ((o + 1) * 10 + b).toNat = m 108 ((o + 1) * 10 + b).toNat
        rw [c108, if_neg (by omega)]
      · show mk 107 (((o + 1) * 10 + b) * 4 + i).toNat = m 107 (((o + 1) * 10 + b) * 4 + i).toNat
        rw [c107, if_neg (by omega)]
    refine s_R_leaderOf (by omega) H hb ha (fun o o0 o1 => ?_) (fun o hL => ?_)
    · by_cases e : o = a
      · subst e; exact Ba
      · exact Bo o o0 (by omega)
    · have FIN : ∀ t : Bool, (t = true ↔ o = a) → P t (wt mk 106 ((a + 1) * 10 + b).toNat ((o + 1) * 10 + b)) := by
        intro t ht
        refine h t _ o (fun k k1 k2 k3 k4 => ?_) ?_ hL (wt_same _ _ _ _) (fun j hj => ⟨?_, ?_⟩) (fun j hj => ?_) ht
        · rw [wt_row _ _ k2]; exact cO k k1 k3 k4
        · exact ⟨Ba.1, Ba.2⟩
        · unfold pr_ at hj
          rw [wt_ne _ _ (by omega), cO 106 (by decide) (by decide) (by decide)]
        · unfold pr_ at hj
          show mk 108 j = _
          rw [c108, if_neg (by omega)]
        · unfold pr_ at hj
          show mk 107 j = _
          rw [c107, if_neg (by omega)]
      exact ⟨fun w => FIN false ⟨fun q => absurd q (by decide), fun q => absurd (by rw [q]) w⟩, fun w => FIN true ⟨fun _ => by omega, fun _ => rfl⟩⟩
  have FT : FC m (wt (cpm m 3 102 (b * 4).toNat 0 (m 4 b.toNat).toNat) 100 4 (m 4 b.toNat)) := ⟨fun k x _ y => by rw [wt_row _ _ x, cpm_r, if_neg y], fun j x => by rw [wt_ne _ _ x]; rfl⟩
  have ET : EQV (SFp M b) (sur (wt (cpm m 3 102 (b * 4).toNat 0 (m 4 b.toNat).toNat) 100 4 (m 4 b.toNat))) := by
    refine ⟨by show M 4 b.toNat = m 4 b.toNat; rw [e4], fun k k0 k1 => ?_⟩
    have k1' : k < M 4 b.toNat := k1
    show cpy (M 3) (M 102) (b * 4).toNat 0 (M 4 b.toNat).toNat k.toNat = cpy (m 3) (m 102) (b * 4).toNat 0 (m 4 b.toNat).toNat k.toNat
    rw [e3, e4, cpy_at, cpy_at, if_pos (by omega), if_pos (by omega)]
  refine v_R_leads ⟨by rw [e4]; omega, fun q => ⟨by rw [e4]; omega, ?_⟩, fun q => ?_⟩
  · have ES : SFq M a b = SFp M b := by unfold SFq; rw [if_pos q]
    have := END _ FT (by rw [ES]; exact ET)
    exact this
  · have CT' : CX M (wt (cpm m 3 102 (b * 4).toNat 0 (m 4 b.toNat).toNat) 100 4 (m 4 b.toNat)) := hC.trans (fun k hk => FT.1 k (by omega) (by omega) (by omega))
    refine s_change (by omega) H CT' (Or.inr rfl) (by omega) hb S0 ET (fun m4 F4 E4 => ?_)
    have ES : SFq M a b = FO M a b 1 (SFp M b) := by unfold SFq; rw [if_neg q]
    rw [← ES] at E4
    have z4 : m4 100 4 = (SFq M a b).1 := E4.1.symm
    have sz := SQ.1
    exact ⟨by rw [z4]; omega, END m4 (FT.trans F4) E4⟩
end LEADS
