section VAL
variable {d : Nat} {mi : MT} {r : Nat → Int} {n T : Int}
theorem wt_wt (m : MT) (c i : Nat) (x y : Int) : wt (wt m c i x) c i y = wt m c i y := by rw [wt_s m, wt_sv, svg]; rfl
theorem wt_u (m : MT) (c i : Nat) (u : Nat → Int) (y : Int) : wt (sv m c u) c i y = sv m c (sv u i y) := wt_sv _ _ _ _ _
def vRel (v c k : Int) : Prop := (v < 1000 ∧ 0 ≤ v ∧ c = 0 ∧ k = v) ∨ (1000 ≤ v ∧ v < 1010 ∧ c = v - 999)
def VAL (r : Nat → Int) (n p v p' : Int) : Prop := (wd r n p = 301 ∧ nv r n p ≤ 999 ∧ v = nv r n p ∧ p' = nx r n p) ∨ (∃ s m : Int, ((wd r n p = 310 ∧ s = 0) ∨ (wd r n p = 311 ∧ s = 1)) ∧ (0 ≤ m ∧ m ≤ 4 ∧ wd r n (nx r n p) = 312 + m) ∧ v = 1000 + s * 5 + m ∧ p' = nx r n (nx r n p))
def VALF (r : Nat → Int) (n p p' : Int) : Prop := (wd r n p = 301 ∧ 999 < nv r n p ∧ p' = p) ∨ (wd r n p ≠ 301 ∧ wd r n p ≠ 310 ∧ wd r n p ≠ 311 ∧ p' = p) ∨ ((wd r n p = 310 ∨ wd r n p = 311) ∧ (wd r n (nx r n p) < 312 ∨ 316 < wd r n (nx r n p)) ∧ p' = nx r n p)
theorem wd_lt {p c : Int} (hp : p ≤ n) (h : wd r n p = c) (hc : c ≠ 300) : p < n := by
  by_cases q : p < n
  · exact q
  · rw [show p = n by omega, wd_n] at h; omega
theorem wd_rng {p : Int} (hR : RB8 r n) (h0 : 0 ≤ p) (hp : p ≤ n) : 0 ≤ wd r n p ∧ wd r n p ≤ 316 := by
  by_cases c : p < n
  · rcases wd_in hR h0 c with h | h | h
    · omega
    · omega
    · rw [h.2.2.1]
      unfold kwd
      repeat (first | omega | split)
  · rw [show p = n by omega, wd_n]; decide
theorem nv_nn {p : Int} (hR : RB8 r n) (h0 : 0 ≤ p) (hp : p ≤ n) (h : wd r n p = 301) : 0 ≤ nv r n p := by
  obtain ⟨pn, k2⟩ := (wd_301 hR h0 hp).mp h
  have t := te_in (r := r) pn
  exact nvK_mono r _ p 0 (Int.le_refl _) (fun i i1 i2 => (kdf_2.mp (by rw [te_all (r := r) pn i i1 (by omega)]; exact k2)).1)
theorem VAL_in {p v p' : Int} (hR : RB8 r n) (hp : 0 ≤ p ∧ p ≤ n) (h : VAL r n p v p') : (0 ≤ v ∧ v < 1010) ∧ p < p' ∧ p' ≤ n := by
  rcases h with ⟨h1, h2, h3, h4⟩ | ⟨s, m, h1, h2, h3, h4⟩
  · have pn := wd_lt hp.2 h1 (by decide)
    have := nx_in (r := r) pn
    have := nv_nn hR hp.1 hp.2 h1
    omega
  · have pn : p < n := by
      rcases h1 with q | q
      · exact wd_lt hp.2 q.1 (by decide)
      · exact wd_lt hp.2 q.1 (by decide)
    have a := nx_in (r := r) pn
    have qn := wd_lt a.1.2 h2.2.2 (by omega)
    have b := nx_in (r := r) qn
    omega
theorem VALF_in {p p' : Int} (hp : 0 ≤ p ∧ p ≤ n) (h : VALF r n p p') : p ≤ p' ∧ p' ≤ n := by
  rcases h with ⟨h1, h2, h3⟩ | ⟨h1, h2, h3, h4⟩ | ⟨h1, h2, h3⟩
  · omega
  · omega
  · have pn : p < n := by
      rcases h1 with q | q
      · exact wd_lt hp.2 q (by decide)
      · exact wd_lt hp.2 q (by decide)
    have a := nx_in (r := r) pn
    omega
/-- the class: a side -/
theorem s_G_readSide {P : Int → MT → Prop} {p : Int} (hd : 1 < d) (hA : AT mi r n T p) (h0 : wd r n p = 310 → p < n → AT (wt mi 94 4 (mi 94 4 + 1)) r n T (nx r n p) → P 0 (wt mi 94 4 (mi 94 4 + 1))) (h1 : wd r n p = 311 → p < n → AT (wt mi 94 4 (mi 94 4 + 1)) r n T (nx r n p) → P 1 (wt mi 94 4 (mi 94 4 + 1))) (hf : wd r n p ≠ 310 → wd r n p ≠ 311 → P (-1) mi) : c_G_readSide d mi P := by
  refine v_G_readSide ⟨by omega, ?_⟩
  refine s_G_accepts (by decide) hA (fun e pn a => ⟨fun q => absurd q (by decide), fun _ => h0 e pn a⟩) (fun e => ⟨fun _ => ?_, fun q => absurd q (by decide)⟩)
  exact s_G_accepts (by decide) hA (fun e pn a => ⟨fun q => absurd q (by decide), fun _ => h1 e pn a⟩) (fun e2 => ⟨fun _ => hf e e2, fun q => absurd q (by decide)⟩)
/-- the reference: a side -/
theorem s_M_side {P : Int → MT → Prop} {p : Int} (hd : 3 < d) (hg : mi 134 12 = -1) (hM : MAT mi r n p) (h0 : ∀ s : Int, ((wd r n p = 310 ∧ s = 0) ∨ (wd r n p = 311 ∧ s = 1)) → ∀ u : Nat → Int, (∀ j : Nat, j ≠ 9 → j ≠ 10 → u j = mi 134 j) → MAT (sv mi 134 u) r n (nx r n p) → P s (sv mi 134 u)) (hf : wd r n p ≠ 310 → wd r n p ≠ 311 → P 0 (wt mi 134 12 p)) : c_M_side d mi P := by
  refine v_M_side ⟨by omega, ?_⟩
  refine s_M_takesWord (by omega) iw_end hg hM (fun e pn u hu a => ⟨fun q => absurd q (by decide), fun _ => h0 0 (Or.inl ⟨e, rfl⟩) u hu a⟩) (fun e => ⟨fun _ => ?_, fun q => absurd q (by decide)⟩)
  refine s_M_takesWord (by omega) iw_begin hg hM (fun e pn u hu a => ⟨fun q => absurd q (by decide), fun _ => h0 1 (Or.inr ⟨e, rfl⟩) u hu a⟩) (fun e2 => ⟨fun _ => ?_, fun q => absurd q (by decide)⟩)
  refine s_M_faults (by omega) hg ?_
  rw [hM.2.1]
  exact hf e e2
theorem b_M_side {P : Int → MT → Prop} (hd : 3 < d) (hg : mi 134 12 ≠ -1) (h : P 0 mi) : c_M_side d mi P := by
  refine v_M_side ⟨by omega, b_M_takesWord (by omega) hg ⟨fun _ => ?_, fun q => absurd q (by decide)⟩⟩
  refine b_M_takesWord (by omega) hg ⟨fun _ => ?_, fun q => absurd q (by decide)⟩
  exact b_M_faults (by omega) hg h
theorem s_M_markWord {P : Int → MT → Prop} {p a : Int} (hd : 3 < d) (hg : mi 134 12 = -1) (hM : MAT mi r n p) (h0 : ∀ m : Int, (0 ≤ m ∧ m ≤ 4 ∧ wd r n p = 312 + m) → (a = 0 → m < 4) → ∀ u : Nat → Int, (∀ j : Nat, j ≠ 9 → j ≠ 10 → u j = mi 134 j) → MAT (sv mi 134 u) r n (nx r n p) → P m (sv mi 134 u)) (hf : (wd r n p < 312 ∨ 316 < wd r n p ∨ (a = 0 ∧ wd r n p = 316)) → P 0 (wt mi 134 12 p)) : c_M_markWord d a mi P := by
  refine v_M_markWord ⟨by omega, ?_⟩
  refine s_M_takesWord (by omega) iw_shape hg hM (fun e pn u hu a => ⟨fun q => absurd q (by decide), fun _ => h0 0 (by omega) (by omega) u hu a⟩) (fun e => ⟨fun _ => ?_, fun q => absurd q (by decide)⟩)
  refine s_M_takesWord (by omega) iw_place hg hM (fun e pn u hu a => ⟨fun q => absurd q (by decide), fun _ => h0 1 (by omega) (by omega) u hu a⟩) (fun e1 => ⟨fun _ => ?_, fun q => absurd q (by decide)⟩)
  refine s_M_takesWord (by omega) iw_turn hg hM (fun e pn u hu a => ⟨fun q => absurd q (by decide), fun _ => h0 2 (by omega) (by omega) u hu a⟩) (fun e2 => ⟨fun _ => ?_, fun q => absurd q (by decide)⟩)
  refine s_M_takesWord (by omega) iw_other hg hM (fun e pn u hu a => ⟨fun q => absurd q (by decide), fun _ => h0 3 (by omega) (by omega) u hu a⟩) (fun e3 => ⟨fun _ => ?_, fun q => absurd q (by decide)⟩)
  refine ⟨fun a0 => ?_, fun a0 => ?_⟩
  · refine s_M_faults (by omega) hg ?_
    rw [hM.2.1]
    exact hf (by omega)
  · refine s_M_takesWord (by omega) iw_states hg hM (fun e pn u hu a => ⟨fun q => absurd q (by decide), fun _ => h0 4 (by omega) (by omega) u hu a⟩) (fun e4 => ⟨fun _ => ?_, fun q => absurd q (by decide)⟩)
    refine s_M_faults (by omega) hg ?_
    rw [hM.2.1]
    exact hf (by omega)
theorem b_M_markWord {P : Int → MT → Prop} {a : Int} (hd : 3 < d) (hg : mi 134 12 ≠ -1) (h : P 0 mi) : c_M_markWord d a mi P := by
  refine v_M_markWord ⟨by omega, b_M_takesWord (by omega) hg ⟨fun _ => ?_, fun q => absurd q (by decide)⟩⟩
  refine b_M_takesWord (by omega) hg ⟨fun _ => ?_, fun q => absurd q (by decide)⟩
  refine b_M_takesWord (by omega) hg ⟨fun _ => ?_, fun q => absurd q (by decide)⟩
  refine b_M_takesWord (by omega) hg ⟨fun _ => ?_, fun q => absurd q (by decide)⟩
  refine ⟨fun _ => b_M_faults (by omega) hg h, fun _ => ?_⟩
  exact b_M_takesWord (by omega) hg ⟨fun _ => b_M_faults (by omega) hg h, fun q => absurd q (by decide)⟩
/-- the class: a value -/
theorem s_G_readValue {P : Int → MT → Prop} {p : Int} (hd : 3 < d) (hA : AT mi r n T p) (h1 : ∀ v p' a : Int, VAL r n p v p' → AT (wt mi 94 4 a) r n T p' → P v (wt mi 94 4 a)) (hf : ∀ p' a : Int, VALF r n p p' → AT (wt mi 94 4 a) r n T p' → P (-1) (wt mi 94 4 a)) : c_G_readValue d mi P := by
  obtain ⟨a1, a2, a3, a4, a5, a6⟩ := AT_wd hA
  have h4 := hA.2.1
  have self : wt mi 94 4 (mi 94 4) = mi := by rw [wt_s]; have : sv (mi 94) 4 (mi 94 4) = mi 94 := sv_self _ _; rw [this]; exact sv_self _ _
  refine v_G_readValue ?_
  rw [a1]
  refine ⟨by omega, fun q => ⟨by omega, ?_⟩, fun q => ⟨by omega, ?_⟩⟩
  · refine s_G_readSide (by omega) hA (fun e pn hA1 => ?_) (fun e pn hA1 => ?_) (fun e e2 => ?_)
    · obtain ⟨b1, b2, b3, b4, b5, b6⟩ := AT_wd hA1
      have h5 := hA1.2.1
      have wr := wd_rng b6 b2.1 b2.2
      rw [b1]
      refine ⟨by omega, fun q => by omega, fun _ => ⟨fun w => ⟨by omega, ?_⟩, fun w => hf _ _ (Or.inr (Or.inr ⟨by omega, by omega, rfl⟩)) hA1⟩⟩
      have qn := wd_lt (r := r) (p := nx r n p) b2.2 rfl (by omega)
      have hA2 := AT_adv hA1 qn
      rw [wt_wt] at hA2 ⊢
      exact h1 _ _ _ (Or.inr ⟨0, wd r n (nx r n p) - 312, by omega, by omega, rfl, rfl⟩) hA2
    · obtain ⟨b1, b2, b3, b4, b5, b6⟩ := AT_wd hA1
      have h5 := hA1.2.1
      have wr := wd_rng b6 b2.1 b2.2
      rw [b1]
      refine ⟨by omega, fun q => by omega, fun _ => ⟨fun w => ⟨by omega, ?_⟩, fun w => hf _ _ (Or.inr (Or.inr ⟨by omega, by omega, rfl⟩)) hA1⟩⟩
      have qn := wd_lt (r := r) (p := nx r n p) b2.2 rfl (by omega)
      have hA2 := AT_adv hA1 qn
      rw [wt_wt] at hA2 ⊢
      exact h1 _ _ _ (Or.inr ⟨1, wd r n (nx r n p) - 312, by omega, by omega, rfl, rfl⟩) hA2
    · rw [a1]
      have wr := wd_rng a6 a2.1 a2.2
      refine ⟨by omega, fun _ => ?_, fun w => absurd rfl w⟩
      have := hf p (mi 94 4) (Or.inr (Or.inl ⟨q, e, e2, rfl⟩)) (by rw [self]; exact hA)
      rw [self] at this
      exact this
  · refine s_T_number (by omega) hA.1.1 hA.1.2.1 (by omega) hA.2.2 a2 (fun pn k2 => ⟨fun w => ⟨by omega, ?_⟩, fun w => ?_⟩) (fun nk => absurd ((wd_301 a6 a2.1 a2.2).mp q) nk)
    · rw [show min 1000 (nv r n p) = nv r n p by omega]
      exact h1 _ _ _ (Or.inl ⟨q, by omega, rfl, rfl⟩) (AT_adv hA pn)
    · have := hf p (mi 94 4) (Or.inl ⟨q, by omega, rfl⟩) (by rw [self]; exact hA)
      rw [self] at this
      exact this
/-- the reference: a value -/
theorem s_M_value {P : MT → Prop} {p v p' : Int} (hd : 8 < d) (hg : mi 134 12 = -1) (hM : MAT mi r n p) (hV : VAL r n p v p') (h : ∀ u : Nat → Int, (∀ j : Nat, j ≠ 9 → j ≠ 10 → j ≠ 36 → j ≠ 37 → u j = mi 134 j) → vRel v (u 36) (u 37) → MAT (sv mi 134 u) r n p' → P (sv mi 134 u)) : c_M_value d mi P := by
  obtain ⟨⟨hM8, hn, hR, h139⟩, hM9, hp, hM10, hsb⟩ := id hM
  have e12 : (wt (wt mi 134 36 0) 134 37 0) 134 12 = -1 := by rw [wt_ne _ _ (by decide), wt_ne _ _ (by decide)]; exact hg
  have rw2 : wt (wt mi 134 36 0) 134 37 0 = sv mi 134 (sv (sv (mi 134) 36 0) 37 0) := by rw [wt_s mi, wt_sv]
  have M2 : MAT (wt (wt mi 134 36 0) 134 37 0) r n p := by
    unfold MAT MST
    have w : ∀ j : Nat, j ≠ 36 → j ≠ 37 → (wt (wt mi 134 36 0) 134 37 0) 134 j = mi 134 j := fun j j1 j2 => by rw [wt_ne _ _ j2, wt_ne _ _ j1]
    rw [w 8 (by decide) (by decide), w 9 (by decide) (by decide), w 10 (by decide) (by decide)]
    exact hM
  have isn : wd r n p = 301 ↔ (p < n ∧ 48 ≤ r p.toNat ∧ r p.toNat ≤ 57) := (wd_301 hR hp.1 hp.2).trans (and_congr Iff.rfl kdf_2)
  refine v_M_value ⟨by omega, fun _ => ?_, fun q => absurd hg q⟩
  rw [hM9, hM8]
  have r139 : p < n → mi 139 p.toNat = r p.toNat := fun q => h139 p hp.1 q
  have fu : ∀ u : Nat → Int, (∀ j : Nat, j ≠ 9 → j ≠ 10 → u j = (wt (wt mi 134 36 0) 134 37 0) 134 j) → (∀ j : Nat, j ≠ 9 → j ≠ 10 → j ≠ 36 → j ≠ 37 → u j = mi 134 j) ∧ u 36 = 0 ∧ u 37 = 0 := by
    intro u hu
    refine ⟨fun j j1 j2 j3 j4 => by rw [hu j j1 j2, wt_ne _ _ j4, wt_ne _ _ j3], ?_, ?_⟩
    · rw [hu 36 (by decide) (by decide), wt_ne _ _ (by decide), wt_same]
    · rw [hu 37 (by decide) (by decide), wt_same]
  have MU : ∀ (u : Nat → Int) (j : Nat) (z q : Int), (j = 36 ∨ j = 37) → MAT (sv mi 134 u) r n q → MAT (sv mi 134 (sv u j z)) r n q := by
    intro u j z q hj hm
    unfold MAT MST at hm ⊢
    have w : ∀ i : Nat, i ≠ 36 → i ≠ 37 → (sv mi 134 (sv u j z)) 134 i = (sv mi 134 u) 134 i := fun i i1 i2 => svn _ _ (by omega)
    rw [w 8 (by decide) (by decide), w 9 (by decide) (by decide), w 10 (by decide) (by decide)]
    exact hm
  refine ⟨fun _ => by omega, fun q => ?_, fun q => ?_⟩
  · have n301 : wd r n p ≠ 301 := fun w => q (by rw [r139 (isn.mp w).1]; exact isn.mp w)
    rcases hV with hV | ⟨s, m, hs, hm, hv, hp'⟩
    · exact absurd hV.1 n301
    refine s_M_side (by omega) e12 M2 (fun s2 hs2 u hu hM3 => ⟨by omega, ?_⟩) (fun a b => by omega)
    obtain ⟨f1, f2, f3⟩ := fu u hu
    rw [rw2, svv] at hM3 ⊢
    refine s_M_markWord (by omega) (by show u 12 = -1; rw [f1 12 (by decide) (by decide) (by decide) (by decide)]; exact hg) hM3 (fun m2 hm2 _ u2 hu2 hM4 => ⟨by omega, ?_⟩) (fun w => by omega)
    rw [svv] at hM4 ⊢
    rw [wt_sv]
    have es : s2 = s := by omega
    have em : m2 = m := by omega
    subst es em
    refine h _ (fun j j1 j2 j3 j4 => ?_) ?_ (by rw [hp']; exact MU _ _ _ _ (Or.inl rfl) hM4)
    · rw [svn _ _ j3, hu2 j j1 j2]; exact f1 j j1 j2 j3 j4
    · rw [sv_eq]
      exact Or.inr (by omega)
  · have w301 : wd r n p = 301 := isn.mpr (by rw [← r139 q.1]; exact q)
    rcases hV with ⟨_, hv1, hv2, hp'⟩ | ⟨s, m, hs, hm, hv, hp'⟩
    · refine s_M_number (by omega) (by omega) e12 M2 (fun _ _ _ u hu hM3 => ?_) (fun w => absurd ⟨w301, hv1⟩ w)
      obtain ⟨f1, f2, f3⟩ := fu u hu
      rw [rw2, svv] at hM3 ⊢
      rw [wt_sv]
      refine h _ (fun j j1 j2 j3 j4 => ?_) ?_ (by rw [hp']; exact MU _ _ _ _ (Or.inr rfl) hM3)
      · rw [svn _ _ j4]; exact f1 j j1 j2 j3 j4
      · rw [sv_eq, svn _ _ (by decide), f2]
        have := nv_nn hR hp.1 hp.2 w301
        exact Or.inl (by omega)
    · omega
theorem s_M_valueF {P : MT → Prop} {p p' : Int} (hd : 8 < d) (hg : mi 134 12 = -1) (hM : MAT mi r n p) (hV : VALF r n p p') (h : ∀ u : Nat → Int, (∀ j : Nat, j ≠ 9 → j ≠ 10 → j ≠ 12 → j ≠ 36 → j ≠ 37 → u j = mi 134 j) → u 12 = p' → P (sv mi 134 u)) : c_M_value d mi P := by
  obtain ⟨⟨hM8, hn, hR, h139⟩, hM9, hp, hM10, hsb⟩ := id hM
  have e12 : (wt (wt mi 134 36 0) 134 37 0) 134 12 = -1 := by rw [wt_ne _ _ (by decide), wt_ne _ _ (by decide)]; exact hg
  have rw2 : wt (wt mi 134 36 0) 134 37 0 = sv mi 134 (sv (sv (mi 134) 36 0) 37 0) := by rw [wt_s mi, wt_sv]
  have M2 : MAT (wt (wt mi 134 36 0) 134 37 0) r n p := by
    unfold MAT MST
    have w : ∀ j : Nat, j ≠ 36 → j ≠ 37 → (wt (wt mi 134 36 0) 134 37 0) 134 j = mi 134 j := fun j j1 j2 => by rw [wt_ne _ _ j2, wt_ne _ _ j1]
    rw [w 8 (by decide) (by decide), w 9 (by decide) (by decide), w 10 (by decide) (by decide)]
    exact hM
  have isn : wd r n p = 301 ↔ (p < n ∧ 48 ≤ r p.toNat ∧ r p.toNat ≤ 57) := (wd_301 hR hp.1 hp.2).trans (and_congr Iff.rfl kdf_2)
  refine v_M_value ⟨by omega, fun _ => ?_, fun q => absurd hg q⟩
  rw [hM9, hM8]
  have r139 : p < n → mi 139 p.toNat = r p.toNat := fun q => h139 p hp.1 q
  have w0 : ∀ j : Nat, j ≠ 36 → j ≠ 37 → sv (sv (mi 134) 36 0) 37 0 j = mi 134 j := fun j j1 j2 => by rw [svn _ _ j2, svn _ _ j1]
  refine ⟨fun _ => by omega, fun q => ?_, fun q => ?_⟩
  · have n301 : wd r n p ≠ 301 := fun w => q (by rw [r139 (isn.mp w).1]; exact isn.mp w)
    rcases hV with hV | hV | hV
    · exact absurd hV.1 n301
    · refine s_M_side (by omega) e12 M2 (fun s2 hs2 => by omega) (fun a b => ⟨by omega, ?_⟩)
      refine b_M_markWord (by omega) (by rw [wt_same]; omega) ⟨by omega, ?_⟩
      rw [rw2, wt_sv, wt_sv]
      refine h _ (fun j j1 j2 j3 j4 j5 => by rw [svn _ _ j4, svn _ _ j3]; exact w0 j j4 j5) ?_
      rw [svn _ _ (by decide), sv_eq]; omega
    · refine s_M_side (by omega) e12 M2 (fun s2 hs2 u hu hM3 => ⟨by omega, ?_⟩) (fun a b => by omega)
      rw [rw2, svv] at hM3 ⊢
      have hu' : ∀ j : Nat, j ≠ 9 → j ≠ 10 → j ≠ 36 → j ≠ 37 → u j = mi 134 j := fun j j1 j2 j3 j4 => by rw [hu j j1 j2, wt_ne _ _ j4, wt_ne _ _ j3]
      refine s_M_markWord (by omega) (by show u 12 = -1; rw [hu' 12 (by decide) (by decide) (by decide) (by decide)]; exact hg) hM3 (fun m2 hm2 _ u2 hu2 hM4 => by omega) (fun w => ⟨by omega, ?_⟩)
      rw [wt_sv, wt_sv]
      refine h _ (fun j j1 j2 j3 j4 j5 => by rw [svn _ _ j4, svn _ _ j3]; exact hu' j j1 j2 j4 j5) ?_
      rw [svn _ _ (by decide), sv_eq]; omega
  · have w301 : wd r n p = 301 := isn.mpr (by rw [← r139 q.1]; exact q)
    rcases hV with hV | hV | hV
    · refine s_M_number (by omega) (by omega) e12 M2 (fun _ _ w => by omega) (fun w => ?_)
      rw [rw2, wt_sv, wt_sv]
      refine h _ (fun j j1 j2 j3 j4 j5 => by rw [svn _ _ j5, svn _ _ j3]; exact w0 j j4 j5) ?_
      rw [svn _ _ (by decide), sv_eq]; omega
    · omega
    · omega
theorem b_M_value {P : MT → Prop} (hd : 8 < d) (hg : mi 134 12 ≠ -1) (h : ∀ u : Nat → Int, (∀ j : Nat, j ≠ 36 → j ≠ 37 → u j = mi 134 j) → P (sv mi 134 u)) : c_M_value d mi P := by
  refine v_M_value ⟨by omega, fun q => absurd q hg, fun _ => ?_⟩
  have rw2 : wt (wt mi 134 36 0) 134 37 0 = sv mi 134 (sv (sv (mi 134) 36 0) 37 0) := by rw [wt_s mi, wt_sv]
  rw [rw2]
  exact h _ (fun j j1 j2 => by rw [svn _ _ j2, svn _ _ j1])
end VAL
