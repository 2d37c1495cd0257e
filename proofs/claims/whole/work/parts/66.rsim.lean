section RSIM
variable {r : Nat → Int} {n T : Int}
def cRl (z : Int) (m : MT) (s : Int) : Prop := (s = 100 ∧ z = 3145728) ∨ (s = 101 ∧ z = 4194304) ∨ (s = 102 ∧ z = 5242880) ∨ ((0 ≤ s ∧ s < 40) ∧ ∃ a b : Int, vRel a (m 146 s.toNat) (m 147 s.toNat) ∧ vRel b (m 148 s.toNat) (m 149 s.toNat) ∧ (0 ≤ m 150 s.toNat ∧ m 150 s.toNat ≤ 2) ∧ z = m 150 s.toNat * 1048576 + a * 1024 + b)
theorem cRel.rl {z s : Int} {m : MT} (h : cRel z m s) : cRl z m s := by
  rcases h with h | h | h | ⟨h1, h2⟩
  · exact Or.inl h
  · exact Or.inr (Or.inl h)
  · exact Or.inr (Or.inr (Or.inl h))
  · exact Or.inr (Or.inr (Or.inr ⟨⟨h1.1, h1.2.2⟩, h2⟩))
/-- the class's rules and the reference's -/
def RulR (cc ac hh : Int) (co en acs : Nat → Int) (m : MT) : Prop := ((0 ≤ cc ∧ cc ≤ 400) ∧ (0 ≤ ac ∧ ac ≤ 40)) ∧ (∀ i : Int, 0 ≤ i → i < cc → cRl (co i.toNat) m (m 151 i.toNat)) ∧ (∀ i : Int, 0 ≤ i → i < ac → aRel (acs i.toNat) m i) ∧ RulQ cc ac hh co en acs m
theorem RulR_cg {cc ac hh : Int} {co en acs co' en' acs' : Nat → Int} {m : MT} (h : RulR cc ac hh co en acs m) (e1 : ∀ j : Nat, (j : Int) < cc → co' j = co j) (e2 : ∀ j : Nat, (j : Int) < hh → en' j = en j) (e3 : ∀ j : Nat, (j : Int) < ac → acs' j = acs j) : RulR cc ac hh co' en' acs' m := by
  obtain ⟨h1, h2, h3, h4, h5, h6, h7⟩ := h
  have L : ∀ q : Int, q ≤ hh → lo en' q = lo en q := fun q hq => lo_cg (fun j hj => e2 j (by omega))
  refine ⟨h1, fun i i0 i1 => by rw [e1 _ (by omega)]; exact h2 i i0 i1, fun i i0 i1 => by rw [e3 _ (by omega)]; exact h3 i i0 i1, h4, fun q q0 q1 => ?_, by rw [L hh (by omega)]; exact h6, h7⟩
  obtain ⟨⟨x1, x2, x3, x4, x5⟩, ⟨y1, y2, y3, y4, y5⟩, zz⟩ := h5 q q0 q1
  rw [L q (by omega), e2 _ (by omega)]
  refine ⟨⟨x1, x2, x3, x4, x5⟩, ⟨y1, y2, y3, y4, fun i i1 i2 => by rw [e3 _ (by omega)]; exact y5 i i1 i2⟩, ?_⟩
  rcases zz with zz | zz
  · exact Or.inl zz
  · exact Or.inr (zz.cg (fun x x1 x2 => e1 _ (by omega)))
/-- RulR speaks of few rows of the reference -/
theorem RulR_m {cc ac hh : Int} {co en acs : Nat → Int} {m m' : MT} (h : RulR cc ac hh co en acs m) (e15 : m' 134 15 = m 134 15) (e : ∀ k : Nat, (142 ≤ k ∧ k ≤ 151) ∨ (153 ≤ k ∧ k ≤ 157) → m' k = m k) : RulR cc ac hh co en acs m' := by
  unfold RulR RulQ cRl aRel at *
  rw [e15, e 142 (by omega), e 143 (by omega), e 144 (by omega), e 145 (by omega), e 146 (by omega), e 147 (by omega), e 148 (by omega), e 149 (by omega), e 150 (by omega), e 151 (by omega), e 153 (by omega), e 154 (by omega), e 155 (by omega), e 156 (by omega), e 157 (by omega)]
  exact h
/-- the reference reads these rules out of this text -/
def RSim (r : Nat → Int) (n cc ac hh : Int) (co en acs : Nat → Int) : Prop := ∀ (dd : Nat) (m' : MT) (P' : MT → Prop), 62 ≤ dd → MST m' r n → m' 134 10 = 0 → m' 134 12 = -1 → (∀ m2 : MT, RF m' m2 → m2 134 12 = -1 → RulR cc ac hh co en acs m2 → P' m2) → c_M_readsRules dd m' P'
def RSimF (r : Nat → Int) (n p1 : Int) : Prop := ∀ (dd : Nat) (m' : MT) (P' : MT → Prop), 62 ≤ dd → MST m' r n → m' 134 10 = 0 → m' 134 12 = -1 → (∀ m2 : MT, RF m' m2 → m2 134 12 = p1 → P' m2) → c_M_readsRules dd m' P'
theorem RSim_cg {cc ac hh : Int} {co en acs co' en' acs' : Nat → Int} (h : RSim r n cc ac hh co en acs) (e1 : ∀ j : Nat, (j : Int) < cc → co' j = co j) (e2 : ∀ j : Nat, (j : Int) < hh → en' j = en j) (e3 : ∀ j : Nat, (j : Int) < ac → acs' j = acs j) : RSim r n cc ac hh co' en' acs' :=
  fun dd m' P' hd hM h10 h12 hp => h dd m' P' hd hM h10 h12 (fun m2 F g R => hp m2 F g (RulR_cg R e1 e2 e3))
def CO (m m1 : MT) : Prop := ∀ k : Nat, (k < 92 ∨ (99 < k)) → m1 k = m k
/-- the reference's first steps -/
theorem ref_rules {dd : Nat} {m' : MT} {P' : MT → Prop} (hd : 62 ≤ dd) (hM : MST m' r n) (h10 : m' 134 10 = 0) (h12 : m' 134 12 = -1) (h : ∀ m2 : MT, RF m' m2 → m2 134 12 = -1 → MAT m2 r n (fs r n 0) → m2 134 15 = 0 → m2 134 16 = 0 → m2 134 17 = 0 → m2 134 18 = 0 → m2 134 19 = 0 → (n ≤ fs r n 0 → h_M_readsRules_44 dd m2 P') ∧ (fs r n 0 < n → c_M_rule (dd - 1) m2 (fun m2 => h_M_readsRules_44 dd m2 P'))) : c_M_readsRules dd m' P' := by
  refine v_M_readsRules ⟨by omega, ?_⟩
  have w : ∀ j : Nat, j < 15 ∨ 19 < j → (wt (wt (wt (wt (wt m' 134 15 0) 134 16 0) 134 17 0) 134 18 0) 134 19 0) 134 j = m' 134 j := fun j hj => by rw [wt_ne _ _ (by omega), wt_ne _ _ (by omega), wt_ne _ _ (by omega), wt_ne _ _ (by omega), wt_ne _ _ (by omega)]
  have z : ∀ j : Nat, 15 ≤ j → j ≤ 19 → (wt (wt (wt (wt (wt m' 134 15 0) 134 16 0) 134 17 0) 134 18 0) 134 19 0) 134 j = 0 := by
    intro j a b
    simp only [wt_at]
    have : j = 15 ∨ j = 16 ∨ j = 17 ∨ j = 18 ∨ j = 19 := by omega
    rcases this with rfl | rfl | rfl | rfl | rfl <;> rfl
  have F0 : RF m' (wt (wt (wt (wt (wt m' 134 15 0) 134 16 0) 134 17 0) 134 18 0) 134 19 0) := ((((RF.w _ (by omega)).trans (RF.w _ (by omega))).trans (RF.w _ (by omega))).trans (RF.w _ (by omega))).trans (RF.w _ (by omega))
  have M0 : MST (wt (wt (wt (wt (wt m' 134 15 0) 134 16 0) 134 17 0) 134 18 0) 134 19 0) r n := by
    refine ⟨by rw [w 8 (by decide)]; exact hM.1, hM.2.1, hM.2.2.1, hM.2.2.2⟩
  have w10 := w 10 (by decide)
  have w12 := w 12 (by decide)
  generalize wt (wt (wt (wt (wt m' 134 15 0) 134 16 0) 134 17 0) 134 18 0) 134 19 0 = W at *
  refine s_M_next (r := r) (n := n) (q := 0) (by omega) M0 (by omega) ⟨by have := hM.2.1; omega, fun _ q => by omega⟩ (fun u hu hM2 => ?_)
  have g := h (sv W 134 u) (F0.trans (RF.u hu)) (by show u 12 = -1; rw [hu 12 (by decide) (by decide)]; omega) hM2 (by show u 15 = 0; rw [hu 15 (by decide) (by decide)]; exact z 15 (by decide) (by decide)) (by show u 16 = 0; rw [hu 16 (by decide) (by decide)]; exact z 16 (by decide) (by decide)) (by show u 17 = 0; rw [hu 17 (by decide) (by decide)]; exact z 17 (by decide) (by decide)) (by show u 18 = 0; rw [hu 18 (by decide) (by decide)]; exact z 18 (by decide) (by decide)) (by show u 19 = 0; rw [hu 19 (by decide) (by decide)]; exact z 19 (by decide) (by decide))
  rw [hM2.1.1, hM2.2.1]
  exact g
theorem RulQ_0 {co en acs : Nat → Int} {m : MT} (h : m 134 15 = 0) : RulQ 0 0 0 co en acs m := ⟨⟨h, by omega⟩, fun q a b => by omega, rfl, rfl⟩
theorem s_G_readRules {d : Nat} {mi : MT} {P : Bool → MT → Prop} (hd : 70 ≤ d) (hT : TXT (mi 91) r n) (hn : mi 90 3 = n)
    (h : ∀ (b : Bool) (T : Int) (m1 : MT) (p1 : Int), CO mi m1 → T ≤ 400 → AT m1 r n T p1 → (b = true → ((0 ≤ m1 96 3 ∧ m1 96 3 ≤ 400) ∧ (0 ≤ m1 96 4 ∧ m1 96 4 ≤ 40) ∧ (0 ≤ m1 96 5 ∧ m1 96 5 ≤ 12)) ∧ RSim r n (m1 96 3) (m1 96 4) (m1 96 5) (m1 97) (m1 98) (m1 99)) → (b = false → RSimF r n p1) → P b m1) : c_G_readRules d mi P := by
  refine v_G_readRules ⟨by omega, v_G_open ⟨by omega, s_T_split (r := r) (n := n) (by omega) hT hn (fun T s w hK => ?_)⟩⟩
  have A : AT (wt (wt (wt (wt (wt (wt (sv (sv mi 92 s) 93 w) 94 4 0) 94 5 0) 94 3 0) 96 3 0) 96 4 0) 96 5 0) r n T (fs r n 0) := ⟨⟨hT, hn, hK⟩, ⟨Int.le_refl _, hK.1.1⟩, hK.2.1⟩
  have C : CO mi (wt (wt (wt (wt (wt (wt (sv (sv mi 92 s) 93 w) 94 4 0) 94 5 0) 94 3 0) 96 3 0) 96 4 0) 96 5 0) := fun k hk => by rw [wt_row _ _ (by omega), wt_row _ _ (by omega), wt_row _ _ (by omega), wt_row _ _ (by omega), wt_row _ _ (by omega), wt_row _ _ (by omega), sv_ne _ _ (by omega), sv_ne _ _ (by omega)]
  have z5 : (wt (wt (wt (wt (wt (wt (sv (sv mi 92 s) 93 w) 94 4 0) 94 5 0) 94 3 0) 96 3 0) 96 4 0) 96 5 0) 94 5 = 0 := rfl
  have y3 : (wt (wt (wt (wt (wt (wt (sv (sv mi 92 s) 93 w) 94 4 0) 94 5 0) 94 3 0) 96 3 0) 96 4 0) 96 5 0) 96 3 = 0 := rfl
  have y4 : (wt (wt (wt (wt (wt (wt (sv (sv mi 92 s) 93 w) 94 4 0) 94 5 0) 94 3 0) 96 3 0) 96 4 0) 96 5 0) 96 4 = 0 := rfl
  have y5 : (wt (wt (wt (wt (wt (wt (sv (sv mi 92 s) 93 w) 94 4 0) 94 5 0) 94 3 0) 96 3 0) 96 4 0) 96 5 0) 96 5 = 0 := rfl
  generalize wt (wt (wt (wt (wt (wt (sv (sv mi 92 s) 93 w) 94 4 0) 94 5 0) 94 3 0) 96 3 0) 96 4 0) 96 5 0 = M0 at *
  obtain ⟨a1, a2, a3, a4, a5, a6⟩ := AT_wd A
  have h46 := A.2.1
  have n400 := hT.1
  rw [a1]
  refine ⟨by omega, fun q => ?_, fun q => ?_⟩
  · have pn : fs r n 0 < n := by
      have : fs r n 0 ≠ n := fun w => q ((wd_300 a6 a2.1 a2.2).mpr w)
      omega
    refine rules_loop (r := r) (n := n) (T := T) (n - fs r n 0 + 1).toNat d (fs r n 0) 0 M0 P (by omega) (by omega) A (by omega) (by omega) (by omega) (by omega) (fun b m1 p1 F A1 hb hS => ?_)
    have START : ∀ m2 : MT, m2 134 15 = 0 → m2 134 16 = 0 → m2 134 17 = 0 → m2 134 18 = 0 → PRR M0 m2 := by
      intro m2 e15 e16 e17 e18
      refine ⟨⟨⟨by omega, by omega⟩, fun i i0 i1 => by omega⟩, ⟨by omega, fun i i0 i1 => by omega⟩, ?_⟩
      rw [y3, y4, y5]
      exact RulQ_0 e15
    refine h b T m1 p1 (fun k hk => by rw [F.1 k (by omega) (by omega) (by omega) (by omega) (by omega)]; exact C k hk) a5 A1 (fun eb => ⟨hb eb, ?_⟩) (fun eb => ?_)
    · intro dd m' P' hdd hM h10 h12 hP
      refine ref_rules hdd hM h10 h12 (fun m2 G1 G2 G3 e15 e16 e17 e18 e19 => ⟨fun w => by omega, fun _ => ?_⟩)
      refine hS dd m2 P' (by omega) G2 G3 e19 (START m2 e15 e16 e17 e18) (fun _ m3 F3 g3 R3 => hP m3 (G1.trans F3) g3 ?_) (fun q => by rw [eb] at q; cases q)
      exact ⟨⟨(hb eb).1, (hb eb).2.1⟩, fun i i0 i1 => (R3.1.2 i i0 i1).rl, fun i i0 i1 => R3.2.1.2 i i0 i1, R3.2.2⟩
    · intro dd m' P' hdd hM h10 h12 hP
      refine ref_rules hdd hM h10 h12 (fun m2 G1 G2 G3 e15 e16 e17 e18 e19 => ⟨fun w => by omega, fun _ => ?_⟩)
      exact hS dd m2 P' (by omega) G2 G3 e19 (START m2 e15 e16 e17 e18) (fun q => by rw [eb] at q; cases q) (fun _ m3 F3 g3 => hP m3 (G1.trans F3) g3)
  · have pn : fs r n 0 = n := (wd_300 a6 a2.1 a2.2).mp q
    refine h true T M0 (fs r n 0) C a5 A (fun _ => ⟨by omega, ?_⟩) (fun q => absurd q (by decide))
    intro dd m' P' hdd hM h10 h12 hP
    refine ref_rules hdd hM h10 h12 (fun m2 G1 G2 G3 e15 e16 e17 e18 e19 => ⟨fun w => ?_, fun w => by omega⟩)
    have m8 := G3.1.1
    have m9 := G3.2.1
    refine v_M_readsRules_44 ⟨by omega, s_M_takesSign (by omega) (by decide) G2 G3 (fun q2 => by omega) (fun _ => ⟨fun _ => ⟨fun q2 => absurd G2 q2, fun _ => ⟨fun _ => hP m2 G1 G2 ?_, fun q2 => by omega⟩⟩, fun q2 => absurd q2 (by decide)⟩)⟩
    rw [y3, y4, y5]
    exact ⟨by omega, fun i i0 i1 => by omega, fun i i0 i1 => by omega, RulQ_0 e15⟩
end RSIM
