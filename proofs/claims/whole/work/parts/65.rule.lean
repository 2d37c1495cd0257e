section RULE
variable {r : Nat → Int} {n T : Int}
def RF (m m2 : MT) : Prop := (∀ k : Nat, k ≠ 134 → (k < 142 ∨ k = 152 ∨ 157 < k) → m2 k = m k) ∧ (∀ j : Nat, j ≠ 9 → j ≠ 10 → j ≠ 12 → (j < 15 ∨ 19 < j) → j ≠ 36 → j ≠ 37 → m2 134 j = m 134 j)
theorem RF.rfl' (m : MT) : RF m m := ⟨fun _ _ _ => rfl, fun _ _ _ _ _ _ _ => rfl⟩
theorem RF.trans {a b c : MT} (h1 : RF a b) (h2 : RF b c) : RF a c := ⟨fun k x y => (h2.1 k x y).trans (h1.1 k x y), fun j a b c d e f => (h2.2 j a b c d e f).trans (h1.2 j a b c d e f)⟩
theorem RF.u {m : MT} {u : Nat → Int} (h : ∀ j : Nat, j ≠ 9 → j ≠ 10 → u j = m 134 j) : RF m (sv m 134 u) := ⟨fun k x _ => sv_ne _ _ x, fun j a b _ _ _ _ => h j a b⟩
theorem RF.w (m : MT) {i : Nat} {z : Int} (h : i = 9 ∨ i = 10 ∨ i = 12 ∨ (15 ≤ i ∧ i ≤ 19) ∨ i = 36 ∨ i = 37) : RF m (wt m 134 i z) := ⟨fun k x _ => wt_row _ _ x, fun j _ _ _ _ _ _ => wt_ne _ _ (by omega)⟩
theorem RF.row (m : MT) {c i : Nat} {z : Int} (h : 142 ≤ c ∧ c ≤ 157 ∧ c ≠ 152) : RF m (wt m c i z) := ⟨fun k _ x => wt_row _ _ (by omega), fun j _ _ _ _ _ _ => by rw [wt_row _ _ (by omega)]⟩
theorem TF.rf {m m2 : MT} (h : TF m m2) : RF m m2 := ⟨fun k a b => h.1 k a (by omega), fun j a b c d e f => h.2 j a b c (by omega) (by omega) e f⟩
theorem AF.rf {m m2 : MT} (h : AF m m2) : RF m m2 := ⟨fun k a b => h.1 k a (by omega), fun j a b c d e f => h.2 j a b c (by omega) e f⟩
def CR (m m1 : MT) : Prop := (∀ k : Nat, k ≠ 94 → k ≠ 96 → k ≠ 97 → k ≠ 98 → k ≠ 99 → m1 k = m k) ∧ (∀ j : Nat, j ≠ 4 → j ≠ 5 → m1 94 j = m 94 j)
theorem CR.rfl' (m : MT) : CR m m := ⟨fun _ _ _ _ _ _ => rfl, fun _ _ _ => rfl⟩
theorem CR.trans {a b c : MT} (h1 : CR a b) (h2 : CR b c) : CR a c := ⟨fun k x y z v w => (h2.1 k x y z v w).trans (h1.1 k x y z v w), fun j x y => (h2.2 j x y).trans (h1.2 j x y)⟩
theorem CFT.cr {m m1 : MT} (h : CFT m m1) : CR m m1 := ⟨fun k a b c _ _ => h.1 k a b c, fun j a b => h.2.1 j a b⟩
theorem CFA.cr {m m1 : MT} (h : CFA m m1) : CR m m1 := ⟨fun k a b _ _ c => h.1 k a b c, fun j a _ => h.2.1 j a⟩
def lo (f : Nat → Int) (q : Int) : Int := if q ≤ 0 then 0 else f (q - 1).toNat
theorem lo_cg {f g : Nat → Int} {q : Int} (h : ∀ j : Nat, (j : Int) < q → f j = g j) : lo f q = lo g q := by
  unfold lo
  split
  · rfl
  · exact h _ (by omega)
/-- the rules' bounds -/
def RulQ (cc ac hh : Int) (co en acs : Nat → Int) (m : MT) : Prop := (m 134 15 = hh ∧ (0 ≤ hh ∧ hh ≤ 12)) ∧
  (∀ q : Int, 0 ≤ q → q < hh → (m 142 q.toNat = lo en q ∧ m 143 q.toNat = en q.toNat ∧ 0 ≤ lo en q ∧ lo en q ≤ en q.toNat ∧ en q.toNat ≤ cc) ∧ (m 144 q.toNat = lo (m 145) q ∧ 0 ≤ lo (m 145) q ∧ lo (m 145) q ≤ m 145 q.toNat ∧ m 145 q.toNat ≤ ac ∧ ∀ i : Int, lo (m 145) q ≤ i → i < m 145 q.toNat → acs i.toNat / 16384 = q) ∧ (lo en q = en q.toNat ∨ BL co (lo en q) (en q.toNat) 0 1)) ∧
  lo en hh = cc ∧ lo (m 145) hh = ac
def PRR (m1 m2 : MT) : Prop := PRc m1 m2 ∧ PRa m1 m2 ∧ RulQ (m1 96 3) (m1 96 4) (m1 96 5) (m1 97) (m1 98) (m1 99) m2
def SimU (r : Nat → Int) (n p : Int) (mi : MT) (b : Bool) (p1 : Int) (m1 : MT) : Prop := ∀ (dd : Nat) (m' : MT) (P' : MT → Prop), 60 ≤ dd → m' 134 12 = -1 → MAT m' r n p → m' 134 19 = 0 → PRR mi m' →
  (b = true → ∀ m2 : MT, RF m' m2 → m2 134 12 = -1 → PRR m1 m2 → P' m2) →
  (b = false → ∀ m2 : MT, RF m' m2 → m2 134 12 = p1 → P' m2) → c_M_rule (dd - 1) m' (fun m2 => h_M_readsRules_44 dd m2 P')
theorem bad44 {dd : Nat} {m : MT} {P' : MT → Prop} (hd : 20 ≤ dd) (hg : m 134 12 ≠ -1) (h : P' m) : h_M_readsRules_44 dd m P' := v_M_readsRules_44 ⟨by omega, b_M_takesSign (by omega) hg ⟨fun _ => ⟨fun _ => h, fun q => absurd q hg⟩, fun q => absurd q (by decide)⟩⟩
/-- a fault stands ahead of the acts -/
theorem badR {dd : Nat} {m m' : MT} {p1 : Int} {P' : MT → Prop} (hd : 60 ≤ dd) (hg : m 134 12 = p1) (hp : p1 ≠ -1) (h15 : 0 ≤ m 134 15 ∧ m 134 15 < 13) (F : RF m' m) (h : ∀ m2 : MT, RF m' m2 → m2 134 12 = p1 → P' m2) : c_M_act (dd - 1 - 1) (wt m 144 (m 134 15).toNat (m 134 17)) (fun m3 => h_M_rule_85 (dd - 1) m3 (fun m2 => h_M_readsRules_44 dd m2 P')) := by
  have g1 : (wt m 144 (m 134 15).toNat (m 134 17)) 134 12 ≠ -1 := by show m 134 12 ≠ -1; omega
  refine b_M_act (by omega) g1 (bad_acts (by omega) g1 h15 (bad44 (by omega) g1 (h _ (F.trans ((RF.row _ (by omega)).trans (RF.row _ (by omega)))) hg)))
theorem kw2 {p : Int} (hR : RB8 r n) (hp : 0 ≤ p ∧ p ≤ n) (h : wd r n p = 303) : p < n ∧ p + 2 ≤ nx r n p ∧ nx r n p ≤ n := by
  have k := (iw_if.2.2.2 r n p hR hp.1 hp.2).mp h
  have t : te r n p - p = 2 := k.2.1
  have tn := te_in (r := r) k.1
  have f := fs_in (r := r) (n := n) (te r n p) tn.2
  have : nx r n p = fs r n (te r n p) := rfl
  have := k.1
  omega
theorem rules_loop : ∀ (k : Nat) (d : Nat) (p l1 : Int) (mi : MT) (P : Bool → MT → Prop), n - p < k → 60 ≤ d → AT mi r n T p → (0 ≤ mi 94 5 ∧ mi 94 5 ≤ 40) → (0 ≤ mi 96 3 ∧ mi 96 3 ≤ p) → (0 ≤ mi 96 4 ∧ mi 96 4 ≤ 40) → (mi 96 5 = l1 ∧ 0 ≤ l1 ∧ l1 ≤ 12) →
    (∀ (b : Bool) (m1 : MT) (p1 : Int), CR mi m1 → AT m1 r n T p1 → (b = true → (0 ≤ m1 96 3 ∧ m1 96 3 ≤ 400) ∧ (0 ≤ m1 96 4 ∧ m1 96 4 ≤ 40) ∧ (0 ≤ m1 96 5 ∧ m1 96 5 ≤ 12)) → SimU r n p mi b p1 m1 → P b m1) → h_G_readRules_26 d l1 mi P := by
  intro k
  induction k with
  | zero =>
    intro d p l1 mi P hk hd hA
    have := (AT_wd hA).2.1
    omega
  | succ k ih =>
    intro d p l1 mi P hk hd hA h5 h3 h4 hl h
    obtain ⟨a1, a2, a3, a4, a5, a6⟩ := AT_wd hA
    have n400 := hA.1.1.1
    refine v_G_readRules_26 ⟨fun q => ?_, fun q12 => ⟨by omega, ?_⟩⟩
    · refine h false mi p (CR.rfl' _) hA (fun q => absurd q (by decide)) ?_
      intro dd m' P' hdd hg hM h19 hR _ hf
      have e15 := hR.2.2.1.1
      refine v_M_rule ⟨fun w => absurd (show m' 134 15 = 12 by omega) w, fun _ => ⟨by omega, s_M_faults (by omega) hg ?_⟩⟩
      rw [hM.2.1]
      exact bad44 (by omega) (by rw [wt_same]; omega) (hf rfl _ (RF.w _ (by omega)) (wt_same _ _ _ _))
    -- from the acts on
    have TAIL : ∀ (N : MT) (pN : Int), CR mi N → AT N r n T pN → p < pN → (0 ≤ N 94 5 ∧ N 94 5 ≤ 40) → (mi 96 3 ≤ N 96 3 ∧ N 96 3 ≤ pN) → N 96 4 = mi 96 4 → N 96 5 = mi 96 5 → N 98 = mi 98 → N 99 = mi 99 → (∀ j : Nat, (j : Int) < mi 96 3 → N 97 j = mi 97 j) → (N 96 3 = mi 96 3 ∨ BL (N 97) (mi 96 3) (N 96 3) 0 1) →
        (∀ (dd : Nat) (m' : MT) (P' : MT → Prop), 60 ≤ dd → m' 134 12 = -1 → MAT m' r n p → m' 134 19 = 0 → PRR mi m' → (∀ m2 : MT, RF m' m2 → m2 134 12 = -1 → MAT m2 r n pN → m2 134 19 = 0 → m2 134 15 = l1 → PRc N m2 → PRa N m2 → m2 142 l1.toNat = mi 96 3 → m2 143 l1.toNat = N 96 3 → (∀ j : Nat, j ≠ l1.toNat → m2 142 j = m' 142 j ∧ m2 143 j = m' 143 j) → m2 144 = m' 144 → m2 145 = m' 145 → c_M_act (dd - 1 - 1) (wt m2 144 (m2 134 15).toNat (m2 134 17)) (fun m3 => h_M_rule_85 (dd - 1) m3 (fun m2 => h_M_readsRules_44 dd m2 P'))) → c_M_rule (dd - 1) m' (fun m2 => h_M_readsRules_44 dd m2 P')) →
        c_G_readActs (d - 1) N (fun b3 m3 => (b3 = true → (c_U_closeRule (d - 1) m3 (fun m4 => c_G_accepts (d - 1) 59 m4 (fun b5 m5 => (b5 = true → ((-2147483648 ≤ l1 + 1 ∧ l1 + 1 < 2147483648) ∧ h_G_readRules_26 d (l1 + 1) m5 P)) ∧ (b5 = false → ((0 ≤ m5 94 4 ∧ m5 94 4 < 401) ∧ ((¬ m5 93 (m5 94 4).toNat = 300 → (P false m5)) ∧ (m5 93 (m5 94 4).toNat = 300 → (P true m5))))))))) ∧ (b3 = false → (P false m3))) := by
      intro N pN F A hpN g5 g3 g4 g55 g98 g99 g97 gB S
      refine s_G_readActs (by omega) A (by omega) (by omega) (fun b m1 p1 F1 A1 hp1 hG hS => ⟨fun eb => ?_, fun eb => ?_⟩)
      · subst eb
        obtain ⟨pq, ⟨c1, c2⟩, c3, c4⟩ := hG rfl
        have e3 : m1 96 3 = N 96 3 := F1.2.2 3 (by decide)
        have e5 : m1 96 5 = mi 96 5 := (F1.2.2 5 (by decide)).trans g55
        have e97 : m1 97 = N 97 := F1.1 97 (by decide) (by decide) (by decide)
        have e98 : m1 98 = mi 98 := (F1.1 98 (by decide) (by decide) (by decide)).trans g98
        have e945 : m1 94 5 = N 94 5 := F1.2.1 5 (by decide)
        have p1n := (AT_wd A1).2.1
        refine v_U_closeRule ⟨fun w => by omega, fun _ => ⟨by omega, ?_⟩⟩
        rw [e5, e3, hl.1]
        have CZ : CR mi (wt (wt m1 98 l1.toNat (N 96 3)) 96 5 (l1 + 1)) := (F.trans F1.cr).trans ⟨fun k _ x _ y _ => by rw [wt_row _ _ x, wt_row _ _ y], fun _ _ _ => rfl⟩
        have AZ : AT (wt (wt m1 98 l1.toNat (N 96 3)) 96 5 (l1 + 1)) r n T p1 := AT_cg A1 rfl rfl rfl rfl rfl
        have z3 : (wt (wt m1 98 l1.toNat (N 96 3)) 96 5 (l1 + 1)) 96 3 = N 96 3 := by rw [wt_ne _ _ (by decide)]; exact e3
        have z4 : (wt (wt m1 98 l1.toNat (N 96 3)) 96 5 (l1 + 1)) 96 4 = m1 96 4 := by rw [wt_ne _ _ (by decide)]; rfl
        have z5 : (wt (wt m1 98 l1.toNat (N 96 3)) 96 5 (l1 + 1)) 96 5 = l1 + 1 := wt_same _ _ _ _
        have z94 : (wt (wt m1 98 l1.toNat (N 96 3)) 96 5 (l1 + 1)) 94 5 = m1 94 5 := rfl
        have z97 : (wt (wt m1 98 l1.toNat (N 96 3)) 96 5 (l1 + 1)) 97 = N 97 := e97
        have z98 : (wt (wt m1 98 l1.toNat (N 96 3)) 96 5 (l1 + 1)) 98 = sv (mi 98) l1.toNat (N 96 3) := by show sv (m1 98) _ _ = _; rw [e98]
        have z99 : (wt (wt m1 98 l1.toNat (N 96 3)) 96 5 (l1 + 1)) 99 = m1 99 := rfl
        generalize wt (wt m1 98 l1.toNat (N 96 3)) 96 5 (l1 + 1) = Z at *
        -- the reference through this rule
        have REF : ∀ (dd : Nat) (m' : MT) (P' : MT → Prop), 60 ≤ dd → m' 134 12 = -1 → MAT m' r n p → m' 134 19 = 0 → PRR mi m' → (∀ m2 : MT, RF m' m2 → m2 134 12 = -1 → MAT m2 r n p1 → m2 134 19 = 0 → PRR Z m2 → h_M_readsRules_44 dd m2 P') → c_M_rule (dd - 1) m' (fun m2 => h_M_readsRules_44 dd m2 P') := by
          intro dd m' P' hdd hg hM h19 hR ht
          obtain ⟨Rc, Ra, ⟨Rh, Rh2⟩, Rq, Rcc, Rac⟩ := id hR
          refine S dd m' P' hdd hg hM h19 hR (fun m2 G1 G2 G3 G19 G15 G4 G5 G6 G7 G8 G9 G10 => ?_)
          refine hS (dd - 1) (wt m2 144 (m2 134 15).toNat (m2 134 17)) _ (by omega) G2 (MAT_cg G3 rfl rfl rfl rfl) (show 0 ≤ m2 134 15 ∧ m2 134 15 < 13 by omega) ⟨G5.1, G5.2⟩ (fun _ m3 K1 K2 K3 K4 => ?_) (fun q => absurd q (by decide))
          have k15 : m3 134 15 = l1 := K1.d15.trans G15
          have k18 : m3 134 18 = m2 134 18 := K1.2 18 (by decide) (by decide) (by decide) (by decide) (by decide) (by decide)
          have k16 : m3 134 16 = m2 134 16 := K1.2 16 (by decide) (by decide) (by decide) (by decide) (by decide) (by decide)
          have kr : ∀ c : Nat, c ≠ 134 → (c < 153 ∨ 157 < c) → c ≠ 144 → m3 c = m2 c := fun c x y z => (K1.1 c x y).trans (wt_row _ _ z)
          have k144 : m3 144 = sv (m2 144) l1.toNat (m2 134 17) := by rw [K1.1 144 (by decide) (by decide)]; show sv (m2 144) (m2 134 15).toNat _ = _; rw [G15]
          have k17 := K4.1
          have g17 := G5.1
          rw [k15]
          refine ht _ ((G1.trans (RF.row _ (by omega))).trans (K1.rf.trans ((RF.row _ (by omega)).trans (RF.w _ (by omega))))) (by rw [wt_ne _ _ (by decide)]; exact K2) (MAT_cg K3 rfl (wt_ne _ _ (by decide)) (wt_ne _ _ (by decide)) (wt_ne _ _ (by decide))) ?_ ⟨?_, ⟨?_, ?_⟩, ⟨?_, ?_⟩, ?_, ?_, ?_⟩
          · rw [wt_ne _ _ (by decide)]
            show m3 134 19 = 0
            rw [K1.2 19 (by decide) (by decide) (by decide) (by decide) (by decide) (by decide)]; exact G19
          · refine PRc_cg G4 z3 (z94.trans e945) z97 ?_ ?_ (fun c c1 c2 => ?_)
            · rw [wt_ne _ _ (by decide)]; exact k18
            · rw [wt_ne _ _ (by decide)]; exact k16
            · rw [wt_row _ _ (by omega), wt_row _ _ (by omega)]; exact kr c (by omega) (by omega) (by omega)
          · rw [z4, wt_ne _ _ (by decide)]; exact k17
          · rw [z4, z99]; exact K4.2
          · rw [z5]; exact wt_same _ _ _ _
          · rw [z5]; omega
          · rw [z3, z4, z5, z97, z98, z99]
            have f145 : ∀ j : Nat, (wt (wt m3 145 l1.toNat (m3 134 17)) 134 15 (l1 + 1)) 145 j = sv (m' 145) l1.toNat (m1 96 4) j := by
              intro j
              show sv (m3 145) l1.toNat (m3 134 17) j = _
              rw [k17, kr 145 (by decide) (by decide) (by decide), G10]
            have L1 : ∀ q : Int, q ≤ l1 → lo ((wt (wt m3 145 l1.toNat (m3 134 17)) 134 15 (l1 + 1)) 145) q = lo (m' 145) q := fun q hq => lo_cg (fun j hj => by rw [f145, svn _ _ (by omega)])
            have L2 : ∀ q : Int, q ≤ l1 → lo (sv (mi 98) l1.toNat (N 96 3)) q = lo (mi 98) q := fun q hq => lo_cg (fun j hj => svn _ _ (by omega))
            intro q q0 q1
            rw [L1 q (by omega), L2 q (by omega), f145]
            show (m3 142 q.toNat = _ ∧ m3 143 q.toNat = _ ∧ _) ∧ (m3 144 q.toNat = _ ∧ _) ∧ _
            rw [kr 142 (by decide) (by decide) (by decide), kr 143 (by decide) (by decide) (by decide), k144]
            by_cases c : q = l1
            · subst c
              rw [sv_eq, sv_eq, sv_eq, G6, G7]
              have la := Rac
              have lc := Rcc
              rw [hl.1] at la lc
              rw [la, lc]
              refine ⟨⟨rfl, rfl, by omega, by omega, by omega⟩, ⟨by omega, by omega, by omega, by omega, fun i i1 i2 => ?_⟩, ?_⟩
              · rw [c4 i (by omega) i2, g55, hl.1]
              · rcases gB with gB | gB
                · exact Or.inl gB.symm
                · exact Or.inr gB
            · rw [svn _ _ (by omega), svn _ _ (by omega), svn _ _ (by omega), (G8 _ (by omega)).1, (G8 _ (by omega)).2, G9]
              obtain ⟨⟨x1, x2, x3, x4, x5⟩, ⟨y1, y2, y3, y4, y5⟩, zz⟩ := Rq q q0 (by omega)
              refine ⟨⟨x1, x2, x3, x4, by omega⟩, ⟨y1, y2, y3, by omega, fun i i1 i2 => ?_⟩, ?_⟩
              · rw [c3 _ (by omega), g99]; exact y5 i i1 i2
              · rcases zz with zz | zz
                · exact Or.inl zz
                · exact Or.inr (zz.cg (fun x x1 x2 => g97 _ (by omega)))
          · rw [z3, z5, z98]
            unfold lo
            rw [if_neg (by omega), show (l1 + 1 - 1).toNat = l1.toNat by omega, sv_eq]
          · rw [z4, z5]
            unfold lo
            rw [if_neg (by omega), show (l1 + 1 - 1).toNat = l1.toNat by omega]
            show sv (m3 145) l1.toNat (m3 134 17) l1.toNat = _
            rw [sv_eq]; exact k17
        refine s_G_accepts (by decide) AZ (fun e59 pn A5 => ⟨fun _ => ⟨by omega, ?_⟩, fun q => absurd q (by decide)⟩) (fun e59 => ⟨fun q => absurd q (by decide), fun _ => ?_⟩)
        · have nxi := nx_in (r := r) pn
          have e5' : (wt Z 94 4 (Z 94 4 + 1)) 94 5 = Z 94 5 := wt_ne _ _ (by decide)
          refine ih d (nx r n p1) (l1 + 1) _ P (by omega) hd A5 (by rw [e5', z94, e945]; exact g5) (show 0 ≤ Z 96 3 ∧ Z 96 3 ≤ _ by omega) (show 0 ≤ Z 96 4 ∧ Z 96 4 ≤ 40 by omega) ⟨show Z 96 5 = _ from z5, by omega, by omega⟩ (fun b m6 p6 J1 J2 J3 J4 => h b m6 p6 (CZ.trans (CR.trans ⟨fun k x _ _ _ _ => wt_row _ _ x, fun j x _ => wt_ne _ _ x⟩ J1)) J2 J3 ?_)
          intro dd m' P' hdd hg hM h19 hR ht hf
          refine REF dd m' P' hdd hg hM h19 hR (fun m2 G1 G2 G3 G19 G4 => ?_)
          refine v_M_readsRules_44 ⟨by omega, s_M_takesSign (by omega) (by decide) G2 G3 (fun _ _ u hu M2 => ⟨fun q => absurd q (by decide), fun _ => ?_⟩) (fun q => absurd e59 q)⟩
          have FU : RF m2 (sv m2 134 u) := RF.u hu
          refine J4 dd (sv m2 134 u) P' hdd (by show u 12 = -1; rw [hu 12 (by decide) (by decide)]; exact G2) M2 (by show u 19 = 0; rw [hu 19 (by decide) (by decide)]; exact G19) ⟨PRc_cg G4.1 rfl e5' rfl (hu 18 (by decide) (by decide)) (hu 16 (by decide) (by decide)) (fun k k1 k2 => sv_ne _ _ (by omega)), ⟨(hu 17 (by decide) (by decide)).trans G4.2.1.1, G4.2.1.2⟩, ⟨(hu 15 (by decide) (by decide)).trans G4.2.2.1.1, G4.2.2.1.2⟩, G4.2.2.2⟩ (fun eb m7 F7 => ht eb m7 ((G1.trans FU).trans F7)) (fun eb m7 F7 => hf eb m7 ((G1.trans FU).trans F7))
        · obtain ⟨b1, b2, b3, b4, b5, b6⟩ := AT_wd AZ
          have h46 := AZ.2.1
          rw [b1]
          refine ⟨by omega, fun w => ?_, fun w => ?_⟩
          · have pn1 : p1 < n := by
              have : p1 ≠ n := fun q => w ((wd_300 b6 b2.1 b2.2).mpr q)
              omega
            refine h false Z p1 CZ AZ (fun q => absurd q (by decide)) ?_
            intro dd m' P' hdd hg hM h19 hR _ hf
            refine REF dd m' P' hdd hg hM h19 hR (fun m2 G1 G2 G3 G19 G4 => ?_)
            have m8 := G3.1.1
            have m9 := G3.2.1
            refine v_M_readsRules_44 ⟨by omega, s_M_takesSign (by omega) (by decide) G2 G3 (fun q => absurd q e59) (fun _ => ⟨fun _ => ⟨fun q => absurd G2 q, fun _ => ⟨fun q => by omega, fun _ => s_M_faults (by omega) G2 ?_⟩⟩, fun q => absurd q (by decide)⟩)⟩
            rw [m9]
            exact hf rfl _ (G1.trans (RF.w _ (by omega))) (wt_same _ _ _ _)
          · have pn1 : p1 = n := (wd_300 b6 b2.1 b2.2).mp w
            refine h true Z p1 CZ AZ (fun _ => by omega) ?_
            intro dd m' P' hdd hg hM h19 hR ht _
            refine REF dd m' P' hdd hg hM h19 hR (fun m2 G1 G2 G3 G19 G4 => ?_)
            have m8 := G3.1.1
            have m9 := G3.2.1
            exact v_M_readsRules_44 ⟨by omega, s_M_takesSign (by omega) (by decide) G2 G3 (fun q => absurd q e59) (fun _ => ⟨fun _ => ⟨fun q => absurd G2 q, fun _ => ⟨fun _ => ht rfl m2 G1 G2 G4, fun q => by omega⟩⟩, fun q => absurd q (by decide)⟩)⟩
      · subst eb
        have p1n := (AT_wd A1).2.1
        refine h false m1 p1 (F.trans F1.cr) A1 (fun q => absurd q (by decide)) ?_
        intro dd m' P' hdd hg hM h19 hR _ hf
        refine S dd m' P' hdd hg hM h19 hR (fun m2 G1 G2 G3 G19 G15 G4 G5 G6 G7 G8 G9 G10 => ?_)
        refine hS (dd - 1) (wt m2 144 (m2 134 15).toNat (m2 134 17)) _ (by omega) G2 (MAT_cg G3 rfl rfl rfl rfl) (show 0 ≤ m2 134 15 ∧ m2 134 15 < 13 by omega) ⟨G5.1, G5.2⟩ (fun q => absurd q (by decide)) (fun _ m3 K1 K2 => ?_)
        exact bad44 (by omega) (by show m3 134 12 ≠ -1; omega) (hf rfl _ ((G1.trans (RF.row _ (by omega))).trans (K1.rf.trans (RF.row _ (by omega)))) K2)
    have RNG : ∀ m' : MT, PRR mi m' → m' 134 15 = l1 ∧ m' 134 18 = mi 96 3 := fun m' hR => ⟨hR.2.2.1.1.trans hl.1, hR.1.1.1⟩
    refine s_G_accepts (by decide) hA (fun e303 pn A1 => ⟨fun q => absurd q (by decide), fun _ => ?_⟩) (fun e303 => ⟨fun _ => ?_, fun q => absurd q (by decide)⟩)
    · -- if
      have kk := kw2 a6 a2 e303
      have e5 : (wt mi 94 4 (mi 94 4 + 1)) 94 5 = mi 94 5 := wt_ne _ _ (by decide)
      have C0 : CR mi (wt mi 94 4 (mi 94 4 + 1)) := ⟨fun k x _ _ _ _ => wt_row _ _ x, fun j x _ => wt_ne _ _ x⟩
      refine test0 (r := r) (n := n) (T := T) (d - 1) (nx r n p) _ _ (by omega) A1 (by rw [e5]; exact h5) h3.1 (show mi 96 3 + 2 ≤ _ by omega) (fun b m1 p1 hPA hPG hS => ?_)
      have p1n := (AT_wd hPA.2.1).2.1
      have nxp := hPA.2.2.2
      have CF : CR mi m1 := C0.trans hPA.1.cr
      -- the reference through the test
      have REF : ∀ (dd : Nat) (m' : MT) (P' : MT → Prop), 60 ≤ dd → m' 134 12 = -1 → MAT m' r n p → m' 134 19 = 0 → PRR mi m' → (b = true → ∀ m8 : MT, TF (wt m' 142 l1.toNat (mi 96 3)) m8 → m8 134 12 = -1 → MAT m8 r n p1 → PRc m1 m8 → c_M_takesWord (dd - 1 - 1) 484 (wt m8 143 (m8 134 15).toNat (m8 134 18)) (fun b9 m9 => (b9 = true → ((0 ≤ m9 134 15 ∧ m9 134 15 < 13) ∧ c_M_act (dd - 1 - 1) (wt m9 144 (m9 134 15).toNat (m9 134 17)) (fun m10 => h_M_rule_85 (dd - 1) m10 (fun m2 => h_M_readsRules_44 dd m2 P')))) ∧ (b9 = false → (c_M_faults (dd - 1 - 1) m9 (fun m11 => (0 ≤ m11 134 15 ∧ m11 134 15 < 13) ∧ c_M_act (dd - 1 - 1) (wt m11 144 (m11 134 15).toNat (m11 134 17)) (fun m12 => h_M_rule_85 (dd - 1) m12 (fun m2 => h_M_readsRules_44 dd m2 P'))))))) → (b = false → ∀ m2 : MT, RF m' m2 → m2 134 12 = p1 → P' m2) → c_M_rule (dd - 1) m' (fun m2 => h_M_readsRules_44 dd m2 P') := by
        intro dd m' P' hdd hg hM h19 hR ht hf
        obtain ⟨e15, e18⟩ := RNG m' hR
        refine v_M_rule ⟨fun _ => ⟨by omega, ?_⟩, fun w => by omega⟩
        rw [e15, e18]
        have M1 : MAT (wt m' 142 l1.toNat (mi 96 3)) r n p := MAT_cg hM rfl rfl rfl rfl
        refine s_M_takesWord (by omega) iw_if (mi := wt m' 142 l1.toNat (mi 96 3)) hg M1 (fun _ _ u hu M2 => ⟨fun q => absurd q (by decide), fun _ => ?_⟩) (fun q => absurd e303 q)
        have FU : TF (wt m' 142 l1.toNat (mi 96 3)) (sv (wt m' 142 l1.toNat (mi 96 3)) 134 u) := TF.u (fun j a b _ _ _ => hu j a b)
        have F0 : RF m' (wt m' 142 l1.toNat (mi 96 3)) := RF.row _ (by omega)
        refine hS (dd - 1 - 1) (sv (wt m' 142 l1.toNat (mi 96 3)) 134 u) _ (by omega) (by show u 12 = -1; rw [hu 12 (by decide) (by decide)]; exact hg) M2 (by show u 19 = 0; rw [hu 19 (by decide) (by decide)]; exact h19) (PRc_cg hR.1 rfl e5 rfl (hu 18 (by decide) (by decide)) (hu 16 (by decide) (by decide)) (fun k k1 k2 => by rw [sv_ne _ _ (by omega), wt_row _ _ (by omega)])) (fun eb m8 F8 g8 M8 R8 => ?_) (fun eb m8 F8 g8 hb => ?_)
        · have f15 : m8 134 15 = l1 := by rw [F8.2 15 (by decide) (by decide) (by decide) (by decide) (by decide) (by decide) (by decide)]; show u 15 = l1; rw [hu 15 (by decide) (by decide)]; exact e15
          exact ⟨by omega, ht eb m8 (FU.trans F8) g8 M8 R8⟩
        · have f15 : m8 134 15 = l1 := by rw [F8.2 15 (by decide) (by decide) (by decide) (by decide) (by decide) (by decide) (by decide)]; show u 15 = l1; rw [hu 15 (by decide) (by decide)]; exact e15
          have gb : (wt m8 143 (m8 134 15).toNat (m8 134 18)) 134 12 ≠ -1 := by show m8 134 12 ≠ -1; omega
          refine ⟨by omega, b_M_takesWord (by omega) gb ⟨fun q => absurd q (by decide), fun _ => b_M_faults (by omega) gb ⟨show 0 ≤ m8 134 15 ∧ m8 134 15 < 13 by omega, ?_⟩⟩⟩
          exact badR (m' := m') (p1 := p1) hdd g8 (by omega) (show 0 ≤ m8 134 15 ∧ m8 134 15 < 13 by omega) ((F0.trans (FU.trans F8).rf).trans (RF.row _ (by omega))) (hf eb)
      refine ⟨fun eb => ?_, fun eb => ?_⟩
      · subst eb
        obtain ⟨⟨⟨g1, g2, g3⟩, g4⟩, g5⟩ := hPG rfl
        have g2' : mi 96 3 ≤ m1 96 3 := g2
        have g3' : m1 96 3 - mi 96 3 ≤ p1 - nx r n p + 0 := g3
        have F15 : ∀ (m' m8 : MT), PRR mi m' → TF (wt m' 142 l1.toNat (mi 96 3)) m8 → m8 134 15 = l1 := fun m' m8 hR F8 => by rw [F8.2 15 (by decide) (by decide) (by decide) (by decide) (by decide) (by decide) (by decide)]; exact (RNG m' hR).1
        refine s_G_accepts (by decide) hPA.2.1 (fun e304 pn4 A4 => ⟨fun q => absurd q (by decide), fun _ => ?_⟩) (fun e304 => ⟨fun _ => ?_, fun q => absurd q (by decide)⟩)
        · have nx4 := nx_in (r := r) pn4
          have e54 : (wt m1 94 4 (m1 94 4 + 1)) 94 5 = m1 94 5 := wt_ne _ _ (by decide)
          refine TAIL (wt m1 94 4 (m1 94 4 + 1)) (nx r n p1) (CF.trans ⟨fun k x _ _ _ _ => wt_row _ _ x, fun j x _ => wt_ne _ _ x⟩) A4 (by omega) (by rw [e54]; exact hPA.2.2.1) (show mi 96 3 ≤ m1 96 3 ∧ m1 96 3 ≤ _ by omega) (hPA.1.2.2 4 (by decide)) (hPA.1.2.2 5 (by decide)) (hPA.1.1 98 (by decide) (by decide) (by decide)) (hPA.1.1 99 (by decide) (by decide) (by decide)) g4 (Or.inr (g5 0 (by omega) (by omega))) ?_
          intro dd m' P' hdd hg hM h19 hR hm
          obtain ⟨e15, e18⟩ := RNG m' hR
          refine REF dd m' P' hdd hg hM h19 hR (fun _ m8 F8 g8 M8 R8 => ?_) (fun q => absurd q (by decide))
          have f15 := F15 m' m8 hR F8
          have f18 := R8.1.1
          rw [f15, f18]
          refine s_M_takesWord (by omega) iw_do (mi := wt m8 143 l1.toNat (m1 96 3)) g8 (MAT_cg M8 rfl rfl rfl rfl) (fun _ _ u hu M9 => ⟨fun _ => ⟨show 0 ≤ u 15 ∧ u 15 < 13 by rw [hu 15 (by decide) (by decide)]; show 0 ≤ m8 134 15 ∧ m8 134 15 < 13; omega, ?_⟩, fun q => absurd q (by decide)⟩) (fun q => absurd e304 q)
          have fr : ∀ c : Nat, c ≠ 134 → (c < 146 ∨ 151 < c) → c ≠ 142 → m8 c = m' c := fun c x y z => (F8.1 c x y).trans (wt_row _ _ z)
          refine hm (sv (wt m8 143 l1.toNat (m1 96 3)) 134 u) (((RF.row _ (by omega)).trans F8.rf).trans ((RF.row _ (by omega)).trans (RF.u hu))) (by show u 12 = -1; rw [hu 12 (by decide) (by decide)]; exact g8) M9 (by show u 19 = 0; rw [hu 19 (by decide) (by decide)]; show m8 134 19 = 0; rw [F8.d19]; exact h19) (by show u 15 = l1; rw [hu 15 (by decide) (by decide)]; exact f15) (PRc_cg R8 rfl e54 rfl (hu 18 (by decide) (by decide)) (hu 16 (by decide) (by decide)) (fun k k1 k2 => by rw [sv_ne _ _ (by omega), wt_row _ _ (by omega)])) ⟨?_, fun i i0 i1 => ?_⟩ ?_ ?_ (fun j hj => ⟨?_, ?_⟩) ?_ ?_
          · show u 17 = m1 96 4
            rw [hu 17 (by decide) (by decide)]
            show m8 134 17 = _
            rw [F8.2 17 (by decide) (by decide) (by decide) (by decide) (by decide) (by decide) (by decide), show m1 96 4 = mi 96 4 from hPA.1.2.2 4 (by decide)]
            exact hR.2.1.1
          · have m4 : m1 96 4 = mi 96 4 := hPA.1.2.2 4 (by decide)
            have m99 : m1 99 = mi 99 := hPA.1.1 99 (by decide) (by decide) (by decide)
            have i1' : i < m1 96 4 := i1
            show aRel (m1 99 i.toNat) _ i
            rw [m99]
            refine aRel_cg (hR.2.1.2 i i0 (by omega)) (fun c c1 c2 => ?_)
            rw [sv_ne _ _ (by omega), wt_row _ _ (by omega), fr c (by omega) (by omega) (by omega)]
          · show m8 142 l1.toNat = _
            rw [F8.1 142 (by decide) (by decide)]; exact wt_same _ _ _ _
          · show sv (m8 143) l1.toNat (m1 96 3) l1.toNat = m1 96 3
            exact sv_eq _ _ _
          · show m8 142 j = _
            rw [F8.1 142 (by decide) (by decide)]; exact wt_ne _ _ hj
          · show sv (m8 143) l1.toNat (m1 96 3) j = _
            rw [svn _ _ hj, fr 143 (by decide) (by decide) (by decide)]
          · exact fr 144 (by decide) (by decide) (by decide)
          · exact fr 145 (by decide) (by decide) (by decide)
        · refine h false m1 p1 CF hPA.2.1 (fun q => absurd q (by decide)) ?_
          intro dd m' P' hdd hg hM h19 hR _ hf
          refine REF dd m' P' hdd hg hM h19 hR (fun _ m8 F8 g8 M8 R8 => ?_) (fun q => absurd q (by decide))
          have f15 := F15 m' m8 hR F8
          have m9 := M8.2.1
          refine s_M_takesWord (by omega) iw_do (mi := wt m8 143 (m8 134 15).toNat (m8 134 18)) g8 (MAT_cg M8 rfl rfl rfl rfl) (fun q => absurd q e304) (fun _ => ⟨fun q => absurd q (by decide), fun _ => s_M_faults (by omega) g8 ?_⟩)
          have x15 : (wt (wt m8 143 (m8 134 15).toNat (m8 134 18)) 134 12 ((wt m8 143 (m8 134 15).toNat (m8 134 18)) 134 9)) 134 15 = l1 := by rw [wt_ne _ _ (by decide)]; exact f15
          refine ⟨by omega, badR (m' := m') (p1 := p1) hdd (by rw [wt_same]; exact m9) (by omega) (by omega) (((RF.row _ (by omega)).trans F8.rf).trans ((RF.row _ (by omega)).trans (RF.w _ (by omega)))) (hf rfl)⟩
      · subst eb
        refine h false m1 p1 CF hPA.2.1 (fun q => absurd q (by decide)) ?_
        intro dd m' P' hdd hg hM h19 hR _ hf
        exact REF dd m' P' hdd hg hM h19 hR (fun q => absurd q (by decide)) hf
    · -- do alone
      refine s_G_accepts (by decide) hA (fun e304 pn4 A4 => ⟨fun q => absurd q (by decide), fun _ => ?_⟩) (fun e304 => ⟨fun _ => ?_, fun q => absurd q (by decide)⟩)
      · have nx4 := nx_in (r := r) pn4
        have e54 : (wt mi 94 4 (mi 94 4 + 1)) 94 5 = mi 94 5 := wt_ne _ _ (by decide)
        refine TAIL (wt mi 94 4 (mi 94 4 + 1)) (nx r n p) ⟨fun k x _ _ _ _ => wt_row _ _ x, fun j x _ => wt_ne _ _ x⟩ A4 (by omega) (by rw [e54]; exact h5) (show mi 96 3 ≤ mi 96 3 ∧ mi 96 3 ≤ _ by omega) rfl rfl rfl rfl (fun _ _ => rfl) (Or.inl rfl) ?_
        intro dd m' P' hdd hg hM h19 hR hm
        obtain ⟨e15, e18⟩ := RNG m' hR
        refine v_M_rule ⟨fun _ => ⟨by omega, ?_⟩, fun w => by omega⟩
        rw [e15, e18]
        have M1 : MAT (wt m' 142 l1.toNat (mi 96 3)) r n p := MAT_cg hM rfl rfl rfl rfl
        refine s_M_takesWord (by omega) iw_if (mi := wt m' 142 l1.toNat (mi 96 3)) hg M1 (fun q => absurd q e303) (fun _ => ⟨fun _ => ⟨show 0 ≤ m' 134 15 ∧ m' 134 15 < 13 by omega, ?_⟩, fun q => absurd q (by decide)⟩)
        show c_M_takesWord (dd - 1 - 1) 484 (wt (wt m' 142 l1.toNat (mi 96 3)) 143 (m' 134 15).toNat (m' 134 18)) _
        rw [e15, e18]
        refine s_M_takesWord (by omega) iw_do (mi := wt (wt m' 142 l1.toNat (mi 96 3)) 143 l1.toNat (mi 96 3)) hg (MAT_cg M1 rfl rfl rfl rfl) (fun _ _ u hu M9 => ⟨fun _ => ⟨show 0 ≤ u 15 ∧ u 15 < 13 by rw [hu 15 (by decide) (by decide)]; show 0 ≤ m' 134 15 ∧ m' 134 15 < 13; omega, ?_⟩, fun q => absurd q (by decide)⟩) (fun q => absurd e304 q)
        refine hm (sv (wt (wt m' 142 l1.toNat (mi 96 3)) 143 l1.toNat (mi 96 3)) 134 u) ((RF.row _ (by omega)).trans ((RF.row _ (by omega)).trans (RF.u hu))) (by show u 12 = -1; rw [hu 12 (by decide) (by decide)]; exact hg) M9 (by show u 19 = 0; rw [hu 19 (by decide) (by decide)]; exact h19) (by show u 15 = l1; rw [hu 15 (by decide) (by decide)]; exact e15) (PRc_cg hR.1 rfl e54 rfl (hu 18 (by decide) (by decide)) (hu 16 (by decide) (by decide)) (fun k k1 k2 => by rw [sv_ne _ _ (by omega), wt_row _ _ (by omega), wt_row _ _ (by omega)])) ⟨(hu 17 (by decide) (by decide)).trans hR.2.1.1, hR.2.1.2⟩ ?_ ?_ (fun j hj => ⟨?_, ?_⟩) rfl rfl
        · show sv (m' 142) l1.toNat (mi 96 3) l1.toNat = _; exact sv_eq _ _ _
        · show sv (m' 143) l1.toNat (mi 96 3) l1.toNat = _; exact sv_eq _ _ _
        · show sv (m' 142) l1.toNat (mi 96 3) j = _; exact svn _ _ hj
        · show sv (m' 143) l1.toNat (mi 96 3) j = _; exact svn _ _ hj
      · refine h false mi p (CR.rfl' _) hA (fun q => absurd q (by decide)) ?_
        intro dd m' P' hdd hg hM h19 hR _ hf
        obtain ⟨e15, e18⟩ := RNG m' hR
        refine v_M_rule ⟨fun _ => ⟨by omega, ?_⟩, fun w => by omega⟩
        rw [e15, e18]
        have M1 : MAT (wt m' 142 l1.toNat (mi 96 3)) r n p := MAT_cg hM rfl rfl rfl rfl
        refine s_M_takesWord (by omega) iw_if (mi := wt m' 142 l1.toNat (mi 96 3)) hg M1 (fun q => absurd q e303) (fun _ => ⟨fun _ => ⟨show 0 ≤ m' 134 15 ∧ m' 134 15 < 13 by omega, ?_⟩, fun q => absurd q (by decide)⟩)
        show c_M_takesWord (dd - 1 - 1) 484 (wt (wt m' 142 l1.toNat (mi 96 3)) 143 (m' 134 15).toNat (m' 134 18)) _
        rw [e15, e18]
        refine s_M_takesWord (by omega) iw_do (mi := wt (wt m' 142 l1.toNat (mi 96 3)) 143 l1.toNat (mi 96 3)) hg (MAT_cg M1 rfl rfl rfl rfl) (fun q => absurd q e304) (fun _ => ⟨fun q => absurd q (by decide), fun _ => s_M_faults (by omega) hg ?_⟩)
        have x15 : (wt (wt (wt m' 142 l1.toNat (mi 96 3)) 143 l1.toNat (mi 96 3)) 134 12 ((wt (wt m' 142 l1.toNat (mi 96 3)) 143 l1.toNat (mi 96 3)) 134 9)) 134 15 = l1 := by rw [wt_ne _ _ (by decide)]; exact e15
        refine ⟨by omega, badR (m' := m') (p1 := p) hdd (by rw [wt_same]; exact hM.2.1) (by omega) (by omega) ((RF.row _ (by omega)).trans ((RF.row _ (by omega)).trans (RF.w _ (by omega)))) (hf rfl)⟩
end RULE
