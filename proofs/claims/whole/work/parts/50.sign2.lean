section SIGN2
variable {r : Nat → Int} {n T : Int}
def FS (m m2 : MT) : Prop := (∀ k : Nat, k ≠ 134 → k ≠ 141 → m2 k = m k) ∧ (∀ j : Nat, j ≠ 9 → j ≠ 10 → j ≠ 12 → j ≠ 14 → m2 134 j = m 134 j)
theorem FS.rfl' (m : MT) : FS m m := ⟨fun _ _ _ => rfl, fun _ _ _ _ _ => rfl⟩
theorem FS.trans {a b c : MT} (h1 : FS a b) (h2 : FS b c) : FS a c := ⟨fun k p q => (h2.1 k p q).trans (h1.1 k p q), fun j p q s t => (h2.2 j p q s t).trans (h1.2 j p q s t)⟩
theorem FS.u {m : MT} {u : Nat → Int} (h : ∀ j : Nat, j ≠ 9 → j ≠ 10 → u j = m 134 j) : FS m (sv m 134 u) := ⟨fun k p _ => sv_ne _ _ p, fun j p q _ _ => h j p q⟩
theorem FS.w (m : MT) {i : Nat} {z : Int} (h : i = 9 ∨ i = 10 ∨ i = 12 ∨ i = 14) : FS m (wt m 134 i z) := ⟨fun k p _ => wt_row _ _ p, fun j p q s t => wt_ne _ _ (by omega)⟩
theorem FS.t (m : MT) {i : Nat} {z : Int} : FS m (wt m 141 i z) := ⟨fun k _ p => wt_row _ _ p, fun j _ _ _ _ => rfl⟩
def CFS (m m1 : MT) : Prop := (∀ k : Nat, k ≠ 94 → k ≠ 95 → m1 k = m k) ∧ (∀ j : Nat, j ≠ 3 → j ≠ 4 → m1 94 j = m 94 j)
theorem CFS.rfl' (m : MT) : CFS m m := ⟨fun _ _ _ => rfl, fun _ _ _ => rfl⟩
theorem CFS.trans {a b c : MT} (h1 : CFS a b) (h2 : CFS b c) : CFS a c := ⟨fun k p q => (h2.1 k p q).trans (h1.1 k p q), fun j p q => (h2.2 j p q).trans (h1.2 j p q)⟩
theorem CFS.w (m : MT) {i : Nat} {z : Int} (h : i = 3 ∨ i = 4) : CFS m (wt m 94 i z) := ⟨fun k p _ => wt_row _ _ p, fun j p q => wt_ne _ _ (by omega)⟩
theorem CFS.t (m : MT) {i : Nat} {z : Int} : CFS m (wt m 95 i z) := ⟨fun k _ p => wt_row _ _ p, fun j _ _ => rfl⟩
def RS1 (x : Int) (t : Nat → Int) (base : Int) : Prop := ∀ m : Int, 0 ≤ m → m < 4 → t (base + m).toNat = mkv x m
/-- the reference, a mark's letter -/
theorem ref_marks {dd : Nat} {m' : MT} {P' : MT → Prop} {p m f base sh : Int} (hd : 12 ≤ dd) (hm : (m = 1 ∧ wd r n p = 112) ∨ (m = 2 ∧ wd r n p = 116) ∨ (m = 3 ∧ wd r n p = 111)) (hg : m' 134 12 = -1) (hM : MAT m' r n p) (hb : 0 ≤ base ∧ base ≤ 12) (h : ∀ u : Nat → Int, (∀ j : Nat, j ≠ 9 → j ≠ 10 → u j = m' 134 j) → MAT (sv m' 134 u) r n (nx r n p) → c_M_number (dd - 1) (mxv m - 1) (sv m' 134 u) (fun z m8 => (0 ≤ base + m ∧ base + m < 16) ∧ h_M_state_189 dd f base sh 1 (wt m8 141 (base + m).toNat z) P')) : h_M_state_189 dd f base sh 1 m' P' := by
  refine v_M_state_189 ⟨fun q => by omega, fun _ => ⟨by omega, ?_⟩⟩
  have m1 : mxv 1 = 20 := rfl
  have m2 : mxv 2 = 8 := rfl
  have m3 : mxv 3 = 10 := rfl
  refine s_M_takesWord (by omega) iw_p hg hM (fun e _ u hu hM2 => ⟨fun q => absurd q (by decide), fun _ => ⟨by omega, ?_⟩⟩) (fun e => ⟨fun _ => ?_, fun q => absurd q (by decide)⟩)
  · have : m = 1 := by omega
    subst this; exact h u hu hM2
  · refine s_M_takesWord (by omega) iw_t hg hM (fun e _ u hu hM2 => ⟨fun q => absurd q (by decide), fun _ => ⟨by omega, ?_⟩⟩) (fun e => ⟨fun _ => ?_, fun q => absurd q (by decide)⟩)
    · have : m = 2 := by omega
      subst this; exact h u hu hM2
    · refine s_M_takesWord (by omega) iw_o hg hM (fun e _ u hu hM2 => ⟨fun q => absurd q (by decide), fun _ => ⟨by omega, ?_⟩⟩) (fun e => ⟨fun _ => ?_, fun q => absurd q (by decide)⟩)
      · have : m = 3 := by omega
        subst this; exact h u hu hM2
      · omega
theorem ref_marks_end {dd : Nat} {m' : MT} {P' : MT → Prop} {p f base sh : Int} (hd : 12 ≤ dd) (hm : wd r n p ≠ 112 ∧ wd r n p ≠ 116 ∧ wd r n p ≠ 111) (hg : m' 134 12 = -1) (hM : MAT m' r n p) (h : P' m') : h_M_state_189 dd f base sh 1 m' P' := by
  refine v_M_state_189 ⟨fun q => by omega, fun _ => ⟨by omega, ?_⟩⟩
  refine s_M_takesWord (by omega) iw_p hg hM (fun e => absurd e hm.1) (fun e => ⟨fun _ => ?_, fun q => absurd q (by decide)⟩)
  refine s_M_takesWord (by omega) iw_t hg hM (fun e => absurd e hm.2.1) (fun e => ⟨fun _ => ?_, fun q => absurd q (by decide)⟩)
  refine s_M_takesWord (by omega) iw_o hg hM (fun e => absurd e hm.2.2) (fun e => ⟨fun _ => ?_, fun q => absurd q (by decide)⟩)
  exact v_M_state_189 ⟨fun _ => h, fun q => absurd rfl q⟩
theorem bad_marks {dd : Nat} {m' : MT} {P' : MT → Prop} {f base sh : Int} (hd : 12 ≤ dd) (hg : m' 134 12 ≠ -1) (h : P' m') : h_M_state_189 dd f base sh 1 m' P' := by
  refine v_M_state_189 ⟨fun q => by omega, fun _ => ⟨by omega, ?_⟩⟩
  refine b_M_takesWord (by omega) hg ⟨fun _ => ?_, fun q => absurd q (by decide)⟩
  refine b_M_takesWord (by omega) hg ⟨fun _ => ?_, fun q => absurd q (by decide)⟩
  refine b_M_takesWord (by omega) hg ⟨fun _ => ?_, fun q => absurd q (by decide)⟩
  exact v_M_state_189 ⟨fun _ => h, fun q => absurd rfl q⟩
/-- what the class found at the marks of a state, the reference finds too -/
def SimM (r : Nat → Int) (n p x : Int) (b : Bool) (p1 x1 : Int) : Prop := ∀ (dd : Nat) (m' : MT) (P' : MT → Prop) (f base sh : Int), 12 ≤ dd → m' 134 12 = -1 → MAT m' r n p → (0 ≤ base ∧ base ≤ 12) → RS1 x (m' 141) base →
  (b = true → ∀ m2 : MT, FS m' m2 → m2 134 12 = -1 → m2 134 14 = m' 134 14 → MAT m2 r n p1 → RS1 x1 (m2 141) base → (∀ j : Nat, (j : Int) < base → m2 141 j = m' 141 j) → P' m2) →
  (b = false → ∀ m2 : MT, FS m' m2 → m2 134 12 = p1 → P' m2) → h_M_state_189 dd f base sh 1 m' P'
theorem sim_marks : ∀ (k : Nat) (d : Nat) (l1 p x : Int) (mi : MT) (P : Bool → MT → Prop), n - p ≤ k → 30 ≤ d → (0 ≤ l1 ∧ 2 * l1 ≤ p) → AT mi r n T p → (0 ≤ mi 94 3 ∧ mi 94 3 < 4) → mi 95 (mi 94 3).toNat = x → okSt x →
    (∀ (b : Bool) (m1 : MT) (p1 x1 : Int), CFS mi m1 → m1 94 3 = mi 94 3 → (∀ j : Nat, j ≠ (mi 94 3).toNat → m1 95 j = mi 95 j) → AT m1 r n T p1 → m1 95 (mi 94 3).toNat = x1 → okSt x1 → p ≤ p1 → SimM r n p x b p1 x1 → P b m1) → h_G_readMarks_2 d l1 mi P := by
  intro k
  induction k with
  | zero =>
    intro d l1 p x mi P hk hd hl hA h3 hx hok h
    obtain ⟨a1, a2, a3, a4, a5, a6⟩ := AT_wd hA
    have n400 := hA.1.1.1
    have pn : p = n := by omega
    have w300 := (wd_300 a6 a2.1 a2.2).mpr pn
    have fin : P true mi := h true mi p x (CFS.rfl' _) rfl (fun _ _ => rfl) hA hx hok (Int.le_refl _) (fun dd m' P' f base sh hdd hg hM hb hR ht _ => ref_marks_end hdd (by omega) hg hM (ht rfl m' (FS.rfl' _) hg rfl hM hR (fun _ _ => rfl)))
    refine v_G_readMarks_2 ⟨fun q => by omega, fun _ => ⟨by omega, ?_⟩⟩
    refine s_G_accepts (by decide) hA (fun e => by omega) (fun e => ⟨fun _ => ?_, fun q => absurd q (by decide)⟩)
    refine s_G_accepts (by decide) hA (fun e => by omega) (fun e => ⟨fun _ => ?_, fun q => absurd q (by decide)⟩)
    exact s_G_accepts (by decide) hA (fun e => by omega) (fun e => ⟨fun _ => fin, fun q => absurd q (by decide)⟩)
  | succ k ih =>
    intro d l1 p x mi P hk hd hl hA h3 hx hok h
    obtain ⟨a1, a2, a3, a4, a5, a6⟩ := AT_wd hA
    have n400 := hA.1.1.1
    -- a mark's letter was taken: its number comes
    have H : ∀ (m : Int) (mi1 : MT), ((m = 1 ∧ wd r n p = 112) ∨ (m = 2 ∧ wd r n p = 116) ∨ (m = 3 ∧ wd r n p = 111)) → p < n → AT mi1 r n T (nx r n p) → CFS mi mi1 → mi1 94 3 = mi 94 3 → mi1 95 = mi 95 → c_T_number (d - 1) (mi1 94 4) mi1 (fun z m6 => (0 ≤ m6 94 4 ∧ m6 94 4 < 401) ∧ ((¬ m6 93 (m6 94 4).toNat = 301 → P false m6) ∧ (m6 93 (m6 94 4).toNat = 301 → ((0 < d - 1) ∧ (((0 ≤ m ∧ m < 4) ∧ 0 ≤ z ∧ z < mxv m → (((0 ≤ m6 94 3 ∧ m6 94 3 < 4) ∧ (0 ≤ m6 95 (m6 94 3).toNat ∧ m6 95 (m6 94 3).toNat < 1048576) ∧ (0 ≤ z ∧ z < mxv m) ∧ (-2147483648 ≤ m6 94 4 + 1 ∧ m6 94 4 + 1 < 2147483648) ∧ (-2147483648 ≤ l1 + 1 ∧ l1 + 1 < 2147483648)) ∧ h_G_readMarks_2 d (l1 + 1) (wt (wt m6 95 (m6 94 3).toNat (wmk (m6 95 (m6 94 3).toNat) m z)) 94 4 (m6 94 4 + 1)) P)) ∧ (¬ ((0 ≤ m ∧ m < 4) ∧ 0 ≤ z ∧ z < mxv m) → P false m6)))))) := by
      intro m mi1 hm pn hA1 hC e3 e95
      have m1v : mxv 1 = 20 := rfl
      have m2v : mxv 2 = 8 := rfl
      have m3v : mxv 3 = 10 := rfl
      have hm3 : 1 ≤ m ∧ m < 4 := by omega
      have hmx : 1 ≤ mxv m ∧ mxv m ≤ 20 := by
        rcases hm with e | e | e <;> rw [e.1] <;> omega
      obtain ⟨b1, b2, b3, b4, b5, b6⟩ := AT_wd hA1
      have nxi := nx_in (r := r) pn
      generalize hq : nx r n p = q at *
      have hA1' := hA1.2.1
      -- the fault
      have FL : ¬ (wd r n q = 301 ∧ nv r n q ≤ mxv m - 1) → P false mi1 := by
        intro w
        refine h false mi1 q x hC e3 (fun j _ => by rw [e95]) hA1 (by rw [e95]; exact hx) hok (by omega) ?_
        intro dd m' P' f base sh hdd hg hM hb hR _ hf
        refine ref_marks hdd hm hg hM hb (fun u hu hM2 => ?_)
        rw [hq] at hM2
        refine s_M_number (by omega) (by omega) (by rw [show (sv m' 134 u) 134 12 = u 12 from rfl, hu 12 (by decide) (by decide)]; exact hg) hM2 (fun w1 _ w2 => absurd ⟨w1, w2⟩ w) (fun _ => ⟨by omega, ?_⟩)
        refine bad_marks hdd (show (wt (sv m' 134 u) 134 12 q) 134 12 ≠ -1 by rw [wt_same]; omega) (hf rfl _ ((FS.u hu).trans ((FS.w _ (by decide)).trans (FS.t _))) (show (wt (sv m' 134 u) 134 12 q) 134 12 = q from wt_same _ _ _ _))
      refine s_T_number (by omega) hA1.1.1 hA1.1.2.1 (by omega) hA1.2.2 b2 (fun qn k2 => ?_) (fun nk => ?_)
      · have w301 := (wd_301 b6 b2.1 b2.2).mpr ⟨qn, k2⟩
        have nv0 : 0 ≤ nv r n q := nvK_mono r _ q 0 (Int.le_refl _) (fun i i1 i2 => (kdf_2.mp (by rw [te_all (r := r) qn i i1 (by omega)]; exact k2)).1)
        rw [b1, e3, e95, hx]
        refine ⟨by omega, fun w => absurd w301 w, fun _ => ⟨by omega, fun w => ⟨⟨by omega, hok.1, w.2, by omega⟩, ?_⟩, fun w => FL (fun y => w ⟨by omega, by omega⟩)⟩⟩
        have env : min 1000 (nv r n q) = nv r n q := by omega
        rw [env] at w ⊢
        obtain ⟨o1, o2, o3⟩ := wmk_ok hok (m := m) (v := nv r n q) (by omega) w.2
        have q2 := nx_in (r := r) qn
        have hA2 : AT (wt (wt mi1 95 (mi 94 3).toNat (wmk x m (nv r n q))) 94 4 (mi1 94 4 + 1)) r n T (nx r n q) := AT_adv (mi := wt mi1 95 (mi 94 3).toNat (wmk x m (nv r n q))) hA1 qn
        refine ih d (l1 + 1) (nx r n q) (wmk x m (nv r n q)) _ P (by omega) hd (by omega) hA2 (show 0 ≤ mi1 94 3 ∧ mi1 94 3 < 4 by omega) (show (wt mi1 95 (mi 94 3).toNat (wmk x m (nv r n q))) 95 (mi1 94 3).toNat = _ by rw [e3]; exact wt_same _ _ _ _) o1 (fun b m1 p1 x1 f1 f2 f3 f4 f5 f6 f7 f8 => ?_)
        have e3' : (wt (wt mi1 95 (mi 94 3).toNat (wmk x m (nv r n q))) 94 4 (mi1 94 4 + 1)) 94 3 = mi 94 3 := e3
        rw [e3'] at f2 f3 f5
        refine h b m1 p1 x1 ((hC.trans (CFS.t _)).trans ((CFS.w _ (by decide)).trans f1)) f2 (fun j hj => ?_) f4 f5 f6 (by omega) ?_
        · rw [f3 j hj]
          show (wt mi1 95 (mi 94 3).toNat (wmk x m (nv r n q))) 95 j = _
          rw [wt_ne _ _ hj, e95]
        · intro dd m' P' f base sh hdd hg hM hb hR ht hf
          refine ref_marks hdd hm hg hM hb (fun u hu hM2 => ?_)
          rw [hq] at hM2
          have g2 : (sv m' 134 u) 134 12 = -1 := by rw [show (sv m' 134 u) 134 12 = u 12 from rfl, hu 12 (by decide) (by decide)]; exact hg
          refine s_M_number (by omega) (by omega) g2 hM2 (fun _ _ _ u2 hu2 hM3 => ⟨by omega, ?_⟩) (fun y => absurd ⟨w301, by omega⟩ y)
          rw [svv] at hM3 ⊢
          have hu3 : ∀ j : Nat, j ≠ 9 → j ≠ 10 → u2 j = m' 134 j := fun j j1 j2 => by rw [hu2 j j1 j2]; exact hu j j1 j2
          have F1 : FS m' (wt (sv m' 134 u2) 141 (base + m).toNat (nv r n q)) := (FS.u hu3).trans (FS.t _)
          refine f8 dd (wt (sv m' 134 u2) 141 (base + m).toNat (nv r n q)) P' f base sh hdd (by show u2 12 = -1; rw [hu3 12 (by decide) (by decide)]; exact hg) hM3 hb (fun j j0 j4 => ?_) (fun e m2 F2 g3 e14 M4 R4 O4 => ht e m2 (F1.trans F2) g3 (by rw [e14]; exact hu3 14 (by decide) (by decide)) M4 R4 (fun j hj => ?_)) (fun e m2 F2 g3 => hf e m2 (F1.trans F2) g3)
          · by_cases c : j = m
            · subst c; rw [wt_same, o2]
            · rw [wt_ne _ _ (by omega), o3 j j0 j4 c]; exact hR j j0 j4
          · rw [O4 j hj, wt_ne _ _ (by omega)]; rfl
      · rw [b1]
        have w301 : wd r n q ≠ 301 := fun w => nk ((wd_301 b6 b2.1 b2.2).mp w)
        exact ⟨by omega, fun _ => FL (fun w => w301 w.1), fun w => absurd w w301⟩
    refine v_G_readMarks_2 ⟨fun q => by omega, fun _ => ⟨by omega, ?_⟩⟩
    refine s_G_accepts (by decide) hA (fun e pn hA1 => ⟨fun q => absurd q (by decide), fun _ => H 1 _ (by omega) pn hA1 (CFS.w _ (by decide)) rfl rfl⟩) (fun e => ⟨fun _ => ?_, fun q => absurd q (by decide)⟩)
    refine s_G_accepts (by decide) hA (fun e pn hA1 => ⟨fun q => absurd q (by decide), fun _ => H 2 _ (by omega) pn hA1 (CFS.w _ (by decide)) rfl rfl⟩) (fun e2 => ⟨fun _ => ?_, fun q => absurd q (by decide)⟩)
    refine s_G_accepts (by decide) hA (fun e pn hA1 => ⟨fun q => absurd q (by decide), fun _ => H 3 _ (by omega) pn hA1 (CFS.w _ (by decide)) rfl rfl⟩) (fun e3 => ⟨fun _ => ?_, fun q => absurd q (by decide)⟩)
    exact h true mi p x (CFS.rfl' _) rfl (fun _ _ => rfl) hA hx hok (Int.le_refl _) (fun dd m' P' f base sh hdd hg hM hb hR ht _ => ref_marks_end hdd ⟨e, e2, e3⟩ hg hM (ht rfl m' (FS.rfl' _) hg rfl hM hR (fun _ _ => rfl)))
end SIGN2
