section ACTS
variable {r : Nat → Int} {n T : Int}
/-- an act of the class and one of the reference -/
def aRel (z : Int) (m : MT) (i : Int) : Prop := ∃ q s k v : Int, (0 ≤ q ∧ q ≤ 12) ∧ (0 ≤ s ∧ s < 2) ∧ m 154 i.toNat = s ∧ z = q * 16384 + s * 8192 + k * 1024 + v ∧ ((k = 4 ∧ v = 0 ∧ m 153 i.toNat = 1) ∨ ((0 ≤ k ∧ k < 4) ∧ m 153 i.toNat = 0 ∧ m 155 i.toNat = k ∧ vRel v (m 156 i.toNat) (m 157 i.toNat)))
theorem aRel_cg {z i : Int} {m m' : MT} (h : aRel z m i) (e : ∀ c : Nat, 153 ≤ c → c ≤ 157 → m' c i.toNat = m c i.toNat) : aRel z m' i := by
  unfold aRel
  rw [e 153 (by omega) (by omega), e 154 (by omega) (by omega), e 155 (by omega) (by omega), e 156 (by omega) (by omega), e 157 (by omega) (by omega)]
  exact h
def PRa (m1 m2 : MT) : Prop := m2 134 17 = m1 96 4 ∧ ∀ i : Int, 0 ≤ i → i < m1 96 4 → aRel (m1 99 i.toNat) m2 i
/-- what the acts of one rule leave behind -/
def ActG (mi m1 : MT) : Prop := (mi 96 4 ≤ m1 96 4 ∧ m1 96 4 ≤ 40) ∧ (∀ j : Nat, (j : Int) < mi 96 4 → m1 99 j = mi 99 j) ∧ ∀ i : Int, mi 96 4 ≤ i → i < m1 96 4 → m1 99 i.toNat / 16384 = mi 96 5
def SimA (r : Nat → Int) (n p : Int) (mi : MT) (b : Bool) (p1 : Int) (m1 : MT) : Prop := ∀ (dd : Nat) (m' : MT) (P' : MT → Prop), 20 ≤ dd → m' 134 12 = -1 → MAT m' r n p → (0 ≤ m' 134 15 ∧ m' 134 15 < 13) → PRa mi m' →
  (b = true → ∀ m2 : MT, AF m' m2 → m2 134 12 = -1 → MAT m2 r n p1 → PRa m1 m2 → P' (wt (wt m2 145 (m2 134 15).toNat (m2 134 17)) 134 15 (m2 134 15 + 1))) →
  (b = false → ∀ m2 : MT, AF m' m2 → m2 134 12 = p1 → P' (wt m2 145 (m2 134 15).toNat (m2 134 17))) → c_M_act (dd - 1) m' (fun m3 => h_M_rule_85 dd m3 P')
theorem AF.d15 {m m2 : MT} (h : AF m m2) : m2 134 15 = m 134 15 := h.2 15 (by decide) (by decide) (by decide) (by decide) (by decide) (by decide)
theorem bad_acts {dd : Nat} {m : MT} {P' : MT → Prop} (hd : 20 ≤ dd) (hg : m 134 12 ≠ -1) (h15 : 0 ≤ m 134 15 ∧ m 134 15 < 13) (h : P' (wt m 145 (m 134 15).toNat (m 134 17))) : h_M_rule_85 dd m P' :=
  v_M_rule_85 ⟨by omega, b_M_takesSign (by omega) hg ⟨fun _ => ⟨h15, fun _ => h, fun q => absurd q hg⟩, fun q => absurd q (by decide)⟩⟩
theorem acts_loop : ∀ (k : Nat) (d : Nat) (p l1 : Int) (mi : MT) (P : Bool → MT → Prop), n - p < k → 20 ≤ d → AT mi r n T p → (0 ≤ mi 96 4 ∧ mi 96 4 ≤ 40) → (0 ≤ mi 96 5 ∧ mi 96 5 ≤ 12) → (0 ≤ l1 ∧ l1 ≤ mi 96 4) →
    (∀ (b : Bool) (m1 : MT) (p1 : Int), CFA mi m1 → AT m1 r n T p1 → p ≤ p1 → (b = true → p < p1 ∧ ActG mi m1) → SimA r n p mi b p1 m1 → P b m1) → h_G_readActs_2 d l1 mi P := by
  intro k
  induction k with
  | zero =>
    intro d p l1 mi P hk hd hA
    have := (AT_wd hA).2.1
    omega
  | succ k ih =>
    intro d p l1 mi P hk hd hA h4 h5 hl h
    obtain ⟨a1, a2, a3, a4, a5, a6⟩ := AT_wd hA
    refine v_G_readActs_2 ⟨fun q => by omega, fun _ => ⟨by omega, ?_⟩⟩
    refine s_G_readAct (by omega) hA h4 h5 (fun s kk v p' m1 q4 hAc F A1 e4 e99 => ⟨fun _ => ?_, fun q => absurd q (by decide)⟩) (fun p' m1 hAc F A1 => ⟨fun q => absurd q (by decide), fun _ => ?_⟩)
    · have ai := ACT_in a6 a2 hAc
      have e5 : m1 96 5 = mi 96 5 := F.2.2 5 (by decide)
      have G1 : ActG mi m1 := by
        refine ⟨by omega, fun j hj => by rw [e99, svn _ _ (by omega)], fun i i1 i2 => ?_⟩
        have : i = mi 96 4 := by omega
        subst this
        rw [e99, sv_eq]
        omega
      -- the reference, this act
      have REF : ∀ (dd : Nat) (m' : MT) (Q : MT → Prop), 20 ≤ dd → m' 134 12 = -1 → MAT m' r n p → PRa mi m' → (∀ m2 : MT, AF m' m2 → m2 134 12 = -1 → MAT m2 r n p' → PRa m1 m2 → Q m2) → c_M_act (dd - 1) m' Q := by
        intro dd m' Q hdd hg hM hR hQ
        refine s_M_act (a := mi 96 4) (by omega) hg hM hAc hR.1 (by omega) (fun m2 F2 g M e17 e154 ek rows => hQ m2 F2 g M ⟨by omega, fun i i0 i1 => ?_⟩)
        rw [e99]
        by_cases c : i = mi 96 4
        · subst c
          rw [sv_eq]
          refine ⟨mi 96 5, s, kk, v, h5, ai.1, e154, rfl, ?_⟩
          rcases hAc with ⟨x1, x2, x3, x4⟩ | ⟨x1, x2, x3, x4, x5⟩
          · rcases ek with ek | ek
            · omega
            · exact Or.inr ⟨by omega, ek.2⟩
          · rcases ek with ek | ek
            · exact Or.inl ⟨x3, x4, ek.2⟩
            · omega
        · rw [svn _ _ (by omega)]
          exact aRel_cg (hR.2 i i0 (by omega)) (fun c c1 c2 => rows c c1 c2 _ (by omega))
      refine s_G_accepts (by decide) A1 (fun e44 pn A2 => ⟨fun _ => ⟨by omega, ?_⟩, fun q => absurd q (by decide)⟩) (fun e44 => ⟨fun q => absurd q (by decide), fun _ => ?_⟩)
      · have nxi := nx_in (r := r) pn
        refine ih d (nx r n p') (l1 + 1) _ P (by omega) hd A2 (show 0 ≤ m1 96 4 ∧ m1 96 4 ≤ 40 by omega) (show 0 ≤ m1 96 5 ∧ m1 96 5 ≤ 12 by omega) (show 0 ≤ l1 + 1 ∧ l1 + 1 ≤ m1 96 4 by omega) (fun b m3 p3 F3 A3 hp3 hG hS => ?_)
        refine h b m3 p3 (F.trans ((CFA.w4 _).trans F3)) A3 (by omega) (fun eb => ⟨by omega, ?_⟩) ?_
        · obtain ⟨_, ⟨g1, g2⟩, g3, g4⟩ := hG eb
          have g1' : m1 96 4 ≤ m3 96 4 := g1
          have g3' : ∀ j : Nat, (j : Int) < m1 96 4 → m3 99 j = m1 99 j := g3
          have g4' : ∀ i : Int, m1 96 4 ≤ i → i < m3 96 4 → m3 99 i.toNat / 16384 = m1 96 5 := g4
          refine ⟨by omega, fun j hj => by rw [g3' j (by omega)]; exact G1.2.1 j hj, fun i i1 i2 => ?_⟩
          by_cases c : i < m1 96 4
          · rw [g3' _ (by omega)]; exact G1.2.2 i i1 c
          · rw [g4' i (by omega) i2, e5]
        · intro dd m' P' hdd hg hM h15 hR ht hf
          refine REF dd m' _ hdd hg hM hR (fun m2 F2 g M R => ?_)
          refine v_M_rule_85 ⟨by omega, s_M_takesSign (by omega) (by decide) g M (fun _ _ u hu M2 => ⟨fun q => absurd q (by decide), fun _ => ?_⟩) (fun q => absurd e44 q)⟩
          have FU : AF m2 (sv m2 134 u) := AF.u (fun j a b _ _ _ => hu j a b)
          exact hS dd (sv m2 134 u) P' hdd (by show u 12 = -1; rw [hu 12 (by decide) (by decide)]; exact g) M2 (by rw [FU.d15, F2.d15]; exact h15) ⟨by show u 17 = _; rw [hu 17 (by decide) (by decide)]; exact R.1, R.2⟩ (fun eb m4 F4 => ht eb m4 ((F2.trans FU).trans F4)) (fun eb m4 F4 => hf eb m4 ((F2.trans FU).trans F4))
      · refine h true m1 p' F A1 (by omega) (fun _ => ⟨by omega, G1⟩) ?_
        intro dd m' P' hdd hg hM h15 hR ht hf
        refine REF dd m' _ hdd hg hM hR (fun m2 F2 g M R => ?_)
        have e15 := F2.d15
        refine v_M_rule_85 ⟨by omega, s_M_takesSign (by omega) (by decide) g M (fun q => absurd q e44) (fun _ => ⟨fun _ => ⟨by omega, fun q => absurd g q, fun _ => ⟨by omega, ht rfl m2 F2 g M R⟩⟩, fun q => absurd q (by decide)⟩)⟩
    · have pp : p ≤ p' := by
        rcases hAc with w | ⟨_, w⟩
        · omega
        · rcases w with w | w | w | w
          · omega
          · have := nx1 a2 (by omega : 301 ≤ wd r n p); omega
          · have b := nx1 a2 (by omega : 301 ≤ wd r n p)
            obtain ⟨_, ⟨s, hs⟩, _⟩ := w
            have s1 := SD_in hs
            have c := nx1 (r := r) (n := n) (p := nx r n p) (by omega) (by omega)
            omega
          · have b := nx1 a2 (by omega : 301 ≤ wd r n p)
            obtain ⟨_, ⟨s, hs⟩, w2, hV⟩ := w
            have s1 := SD_in hs
            have c := nx1 (r := r) (n := n) (p := nx r n p) (by omega) (by omega)
            have e := nx1 (r := r) (n := n) (p := nx r n (nx r n p)) (by omega) (by omega)
            have := VALF_in (by omega) hV
            omega
      have A1p := (AT_wd A1).2.1
      refine h false m1 p' F A1 pp (fun q => absurd q (by decide)) ?_
      intro dd m' P' hdd hg hM h15 hR _ hf
      refine s_M_actF (a := mi 96 4) (by omega) hg hM hAc hR.1 h4 (fun m2 F2 e12 => ?_)
      have e15 := F2.d15
      exact bad_acts hdd (by omega) (by omega) (hf rfl m2 F2 e12)
theorem s_G_readActs {d : Nat} {p : Int} {mi : MT} {P : Bool → MT → Prop} (hd : 20 ≤ d) (hA : AT mi r n T p) (h4 : 0 ≤ mi 96 4 ∧ mi 96 4 ≤ 40) (h5 : 0 ≤ mi 96 5 ∧ mi 96 5 ≤ 12) (h : ∀ (b : Bool) (m1 : MT) (p1 : Int), CFA mi m1 → AT m1 r n T p1 → p ≤ p1 → (b = true → p < p1 ∧ ActG mi m1) → SimA r n p mi b p1 m1 → P b m1) : c_G_readActs d mi P := by
  have := (AT_wd hA).2.1
  exact v_G_readActs (acts_loop (n - p + 1).toNat d p 0 mi P (by omega) hd hA h4 h5 (by omega) h)
end ACTS
