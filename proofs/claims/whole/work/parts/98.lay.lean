section LAYL
variable {d : Nat} {M : MT} {fr kn n : Int}
theorem s_L_keyAt {m : MT} {P : Int → MT → Prop} {i f : Int} (hb : f < m 117 10 → 0 ≤ i * 20 + f ∧ i * 20 + f < 400 ∧ 0 ≤ i ∧ i < 21) (h : P (kA (m 121) (m 117 10) i f) m) : c_L_keyAt d i f m P := by
  unfold kA at h
  refine v_L_keyAt ⟨fun q => ?_, fun q => ?_⟩
  · rw [if_neg (by omega)] at h; exact h
  · rw [if_pos q] at h; exact ⟨by have := hb q; omega, h⟩
theorem s_L_isLast {m : MT} {P : Bool → MT → Prop} {i : Int} (hi : 0 ≤ i ∧ i < m 117 4) (hz : m 117 4 ≤ 20) (h1 : i = m 117 4 - 1 ∨ ¬ m 119 (i + 1).toNat = m 119 i.toNat → P true m) (h2 : ¬ i = m 117 4 - 1 → m 119 (i + 1).toNat = m 119 i.toNat → P false m) : c_L_isLastOfSign d i m P :=
  v_L_isLastOfSign ⟨by omega, fun q => h1 (Or.inl q), fun q => ⟨by omega, fun q2 => h2 q q2, fun q2 => h1 (Or.inr q2)⟩⟩
/-- what is known of a table where it is read -/
def TBL (m : MT) (i g : Int) : Prop := ∀ f : Int, g ≤ f → f < m 117 10 → 0 ≤ m 121 (i * 20 + f).toNat ∧ m 121 (i * 20 + f).toNat ≤ 268435456
theorem s_L_leaving {m : MT} {P : Int → MT → Prop} {i g sl : Int} (hd : 1 < d) (hi : 0 ≤ i ∧ i < m 117 4) (hz : m 117 4 ≤ 20) (hg : 0 ≤ g ∧ g ≤ 20) (hn : m 117 10 ≤ 20) (hsl : 0 ≤ sl ∧ sl ≤ 1000) (hT : i + 1 < m 117 4 → TBL m (i + 1) g) (h : P (lvF (m 119) (m 121) (m 117 10) (m 117 4) sl i g) m) : c_L_leaving d i g sl m P := by
  unfold lvF at h
  refine v_L_leaving ⟨by omega, fun q => ⟨by omega, ?_⟩, fun q => ⟨fun q2 => ?_, fun q2 => ?_⟩⟩
  · rw [if_neg q] at h
    have kb : ∀ j : Int, 0 ≤ j → 0 ≤ kA (m 121) (m 117 10) (i + 1) (g + j) ∧ kA (m 121) (m 117 10) (i + 1) (g + j) ≤ 268435456 := by
      intro j j0
      by_cases c : g + j < m 117 10
      · rw [kA_in c]; exact hT (by omega) (g + j) (by omega) c
      · rw [kA_far (by omega)]; omega
    have k0 := kb 0 (by omega)
    have k1 := kb (0 + 1) (by omega)
    have k2 := kb (0 + 1 + 1) (by omega)
    have k3 := kb (0 + 1 + 1 + 1) (by omega)
    refine s_L_isLast hi hz (fun q3 => ⟨fun e => (by cases e), fun _ => ?_⟩) (fun _ q3 => ⟨fun _ => ?_, fun e => by cases e⟩)
    · rw [if_neg (by rcases q3 with q3 | q3; exact absurd q3 q; exact q3)] at h
      refine v_L_leaving_47 ⟨fun w => by omega, fun _ => ⟨by omega, s_L_keyAt (by omega) ⟨by omega, ?_⟩⟩⟩
      refine v_L_leaving_47 ⟨fun w => by omega, fun _ => ⟨by omega, s_L_keyAt (by omega) ⟨by omega, ?_⟩⟩⟩
      refine v_L_leaving_47 ⟨fun w => by omega, fun _ => ⟨by omega, s_L_keyAt (by omega) ⟨by omega, ?_⟩⟩⟩
      refine v_L_leaving_47 ⟨fun w => by omega, fun _ => ⟨by omega, s_L_keyAt (by omega) ⟨by omega, ?_⟩⟩⟩
      refine v_L_leaving_47 ⟨fun w => ?_, fun w => by omega⟩
      have e : min (min (min (min 268435456 (kA (m 121) (m 117 10) (i + 1) (g + 0) + 0 * sl)) (kA (m 121) (m 117 10) (i + 1) (g + (0 + 1)) + (0 + 1) * sl)) (kA (m 121) (m 117 10) (i + 1) (g + (0 + 1 + 1)) + (0 + 1 + 1) * sl)) (kA (m 121) (m 117 10) (i + 1) (g + (0 + 1 + 1 + 1)) + (0 + 1 + 1 + 1) * sl) = min (min (min (min 268435456 (kA (m 121) (m 117 10) (i + 1) g)) (kA (m 121) (m 117 10) (i + 1) (g + 1) + 1 * sl)) (kA (m 121) (m 117 10) (i + 1) (g + 2) + 2 * sl)) (kA (m 121) (m 117 10) (i + 1) (g + 3) + 3 * sl) := by
        rw [show g + (0 : Int) = g by omega, show g + (0 + 1 : Int) = g + 1 by omega, show g + (0 + 1 + 1 : Int) = g + 2 by omega, show g + (0 + 1 + 1 + 1 : Int) = g + 3 by omega]; omega
      rw [e]; exact h
    · rw [if_pos q3] at h
      refine v_L_leaving_47 ⟨fun w => by omega, fun _ => ⟨by omega, s_L_keyAt (by omega) ⟨by omega, ?_⟩⟩⟩
      refine v_L_leaving_47 ⟨fun w => ?_, fun w => by omega⟩
      have e : min 268435456 (kA (m 121) (m 117 10) (i + 1) (g + 0) + 0 * sl) = min 268435456 (kA (m 121) (m 117 10) (i + 1) g) := by rw [show g + (0 : Int) = g by omega]; omega
      rw [e]; exact h
  · rw [if_pos q, if_neg q2] at h; exact h
  · rw [if_pos q, if_pos q2] at h; exact h
theorem s_L_measure {m : MT} {P : Int → MT → Prop} {N : Int} (hd : 3 < d) (H : HX M fr kn n) (e103 : m 103 1 = n) (hC : CT (m 104) (M 135) fr kn n) (e9 : m 2 9 = M 135 3) (e10 : m 2 10 = M 135 4) (hz : 1 ≤ m 117 4 ∧ m 117 4 ≤ 20) (eN : m 117 9 = N) (hN : 1 ≤ N ∧ N ≤ 20) (hst : m 117 5 = 0 → ∀ i : Int, 0 ≤ i → i < m 117 4 → okSt (m 118 i.toNat)) (h1 : ¬ m 117 5 = 0 ∨ n < m 117 4 → P (-1) (wt m 117 10 n)) (h2 : m 117 5 = 0 → m 117 4 ≤ n → ∀ t : Nat → Int, REF (m 119) (m 118) t (M 135) fr kn n (m 117 4) (M 135 3) (fun _ _ => True) → P (t 0 + N * M 135 4) (sv (wt m 117 10 n) 121 t)) : c_L_measure d m P := by
  have hn := H.2.2.2.2.2.2
  have sl := H.1.2.2.2.1
  have pr := H.1.2.2.2.2.2
  refine v_L_measure ⟨fun q => by rw [e103]; exact h1 (Or.inl q), fun q => ⟨fun q2 => ?_, fun q2 => by rw [e103]; rw [e103] at q2; exact h1 (Or.inr q2)⟩⟩
  rw [e103] at q2 ⊢
  refine ⟨by omega, ?_⟩
  have m0 : ∀ t : Nat → Int, (sv (wt m 117 10 n) 121 t) 117 10 = n ∧ (sv (wt m 117 10 n) 121 t) 117 4 = m 117 4 ∧ (sv (wt m 117 10 n) 121 t) 117 9 = N ∧ (sv (wt m 117 10 n) 121 t) 2 = m 2 ∧ (sv (wt m 117 10 n) 121 t) 118 = m 118 ∧ (sv (wt m 117 10 n) 121 t) 119 = m 119 ∧ (sv (wt m 117 10 n) 121 t) 104 = m 104 ∧ (sv (wt m 117 10 n) 121 t) 121 = t := by
    intro t
    refine ⟨?_, ?_, ?_, rfl, rfl, rfl, rfl, rfl⟩
    · show (wt m 117 10 n) 117 10 = n; exact wt_same _ _ _ _
    · show (wt m 117 10 n) 117 4 = _; exact wt_ne _ _ (by decide)
    · show (wt m 117 10 n) 117 9 = _; rw [wt_ne _ _ (by decide)]; exact eN
  have LF : ∀ f : Int, -1 ≤ f → f < n → ∀ t : Nat → Int, REF (m 119) (m 118) t (M 135) fr kn n (m 117 4) (M 135 3) (fun _ f' => f < f') → h_L_measure_35 d f (sv (wt m 117 10 n) 121 t) P := by
    refine dnto _ (fun f hf ih f1 t hR => ?_)
    obtain ⟨a10, a4, a9, a2, aS, aL, aC, aK⟩ := m0 t
    refine v_L_measure_35 ⟨fun w => ?_, fun w => ?_⟩
    · rw [aK, a9, a2, e10]
      have R0 := hR 0 0 (by omega) (by omega) (by omega)
      have t0 : (0 * 20 + 0 : Int).toNat = 0 := rfl
      rw [t0] at R0
      have mp := mul_in (x := N) (y := M 135 4) (X := 20) (Y := 1000) (by omega) (by omega)
      exact ⟨by omega, h2 q q2 t (fun i f' hi hf' _ => hR i f' hi hf' (by omega))⟩
    have LI : ∀ i : Int, i ≤ m 117 4 → 0 ≤ i → ∀ t : Nat → Int, REF (m 119) (m 118) t (M 135) fr kn n (m 117 4) (M 135 3) (fun i' f' => f < f' ∨ (f' = f ∧ i' < i)) → h_L_measure_42 d f i (sv (wt m 117 10 n) 121 t) P := by
      refine upto _ (fun i hi ihi i0 t hR => ?_)
      obtain ⟨a10, a4, a9, a2, aS, aL, aC, aK⟩ := m0 t
      refine v_L_measure_42 ?_
      rw [a4]
      refine ⟨fun w2 => ⟨by omega, ih (by omega) (by omega) t (fun i' f' hi' hf' hD => hR i' f' hi' hf' (by omega))⟩, fun w2 => ⟨by omega, ?_⟩⟩
      have kb : ∀ j f' : Int, 0 ≤ j → j < m 117 4 → f < f' → 0 ≤ kA t n j f' ∧ kA t n j f' ≤ 268435456 := by
        intro j f' j0 j1 jf
        by_cases c : f' < n
        · rw [kA_in c]; exact (hR j f' ⟨j0, j1⟩ (by omega) (Or.inl jf)).2
        · rw [kA_far (by omega)]; omega
      refine s_L_keyAt (by rw [a10]; omega) ?_
      rw [a10, aK]
      refine s_L_leaving (by omega) (by rw [a4]; omega) (by rw [a4]; omega) (by omega) (by rw [a10]; omega) (by rw [a2, e9]; exact sl) (fun w3 f' g1 g2 => ?_) ?_
      · rw [a4] at w3
        rw [a10] at g2
        rw [aK]
        exact (hR (i + 1) f' (by omega) (by omega) (Or.inl (by omega))).2
      rw [a10, a4, aL, aK, a2, e9]
      refine ⟨by omega, ?_⟩
      rw [aS]
      refine s_Fr_costOf (by omega) H.2.2.1 H.2.2.2.1 H.2.2.2.2.1 (by rw [aC]; exact hC) (by omega) (hst q i i0 w2) ?_
      have KB := KF_in H.2.2.1 H.2.2.2.1 H.2.2.2.2.1 (fr := fr) (kn := kn) (f := f) (hst q i i0 w2)
      have k1 := kb i (f + 1) i0 w2 (by omega)
      have l1 : 0 ≤ lvF (m 119) t n (m 117 4) (M 135 3) i (f + 1) ∧ lvF (m 119) t n (m 117 4) (M 135 3) i (f + 1) ≤ 268435456 := by
        unfold lvF
        split
        · split <;> omega
        · have q0 := kb (i + 1) (f + 1) (by omega) (by omega) (by omega)
          have q1 := kb (i + 1) (f + 1 + 1) (by omega) (by omega) (by omega)
          have q2 := kb (i + 1) (f + 1 + 2) (by omega) (by omega) (by omega)
          have q3 := kb (i + 1) (f + 1 + 3) (by omega) (by omega) (by omega)
          split <;> omega
      refine ⟨by omega, ?_⟩
      have em : ∀ z : Int, wt (sv (wt m 117 10 n) 121 t) 121 (i * 20 + f).toNat z = sv (wt m 117 10 n) 121 (sv t (i * 20 + f).toNat z) := by
        intro z
        funext k j
        simp only [wt_r, svc]
        split <;> rfl
      rw [em]
      have ky : ∀ (z j f' : Int), 0 ≤ j → f < f' → f' < n → (sv t (i * 20 + f).toNat z) (j * 20 + f').toNat = t (j * 20 + f').toNat := fun z j f' j0 jf jn => sv_ne _ _ (by omega)
      have kAe : ∀ (z j f' : Int), 0 ≤ j → f < f' → kA (sv t (i * 20 + f).toNat z) n j f' = kA t n j f' := by
        intro z j f' j0 jf
        by_cases c : f' < n
        · rw [kA_in c, kA_in c]; exact ky z j f' j0 jf c
        · rw [kA_far (by omega), kA_far (by omega)]
      have lve : ∀ (z j f' : Int), 0 ≤ j → f < f' → lvF (m 119) (sv t (i * 20 + f).toNat z) n (m 117 4) (M 135 3) j f' = lvF (m 119) t n (m 117 4) (M 135 3) j f' := by
        intro z j f' j0 jf
        unfold lvF
        rw [kAe z _ _ (by omega) jf, kAe z _ (f' + 1) (by omega) (by omega), kAe z _ (f' + 2) (by omega) (by omega), kAe z _ (f' + 3) (by omega) (by omega)]
      refine ihi w2 (by omega) _ (fun j f' hj hf' hD => ?_)
      rw [kAe _ j (f' + 1) hj.1 (by omega), lve _ j (f' + 1) hj.1 (by omega)]
      by_cases c : j = i ∧ f' = f
      · obtain ⟨rfl, rfl⟩ := c
        rw [sv_eq]
        exact ⟨rfl, by omega⟩
      · rw [svn _ _ (by omega)]
        exact hR j f' hj hf' (by omega)
    exact LI 0 (by omega) (by omega) t (fun i' f' hi' hf' hD => hR i' f' hi' hf' (by omega))
  have e0 : wt m 117 10 n = sv (wt m 117 10 n) 121 (m 121) := by
    funext k j
    simp only [wt_r, svc]
    split
    · split
      · rename_i e1 e2; omega
      · rfl
    · split
      · rename_i e; rw [e]
      · rfl
  rw [e0]
  exact LF (n - 1) (by omega) (by omega) (m 121) (fun i f' hi hf' hD => by omega)
theorem s_L_append {m : MT} {P : MT → Prop} {p z0 : Int} (hS : SOK (sur m)) (e4 : m 117 4 = z0) (hz : 0 ≤ z0 ∧ z0 ≤ 20) (h1 : z0 + m 100 4 ≤ 20 → ∀ m1 : MT, (∀ k : Nat, k ≠ 117 → k ≠ 118 → k ≠ 119 → k ≠ 120 → m1 k = m k) → (∀ j : Nat, j ≠ 4 → m1 117 j = m 117 j) → m1 117 4 = z0 + m 100 4 → (∀ s : Int, 0 ≤ s → s < m 100 4 → m1 118 (z0 + s).toNat = m 102 s.toNat ∧ m1 119 (z0 + s).toNat = p ∧ m1 120 (z0 + s).toNat = s) → (∀ j : Nat, (j : Int) < z0 → m1 118 j = m 118 j ∧ m1 119 j = m 119 j ∧ m1 120 j = m 120 j) → P m1) (h2 : 20 < z0 + m 100 4 → ∀ m1 : MT, (∀ k : Nat, k ≠ 117 → k ≠ 118 → k ≠ 119 → k ≠ 120 → m1 k = m k) → (∀ j : Nat, j ≠ 4 → j ≠ 5 → m1 117 j = m 117 j) → m1 117 4 = 20 → m1 117 5 = 1 → P m1) : c_L_append d p m P := by
  have hS1 : 1 ≤ m 100 4 ∧ m 100 4 ≤ 4 := hS.1
  have L : ∀ s : Int, s ≤ m 100 4 → 0 ≤ s → ∀ m' : MT, (∀ k : Nat, k ≠ 117 → k ≠ 118 → k ≠ 119 → k ≠ 120 → m' k = m k) → (∀ j : Nat, j ≠ 4 → m' 117 j = m 117 j) → m' 117 4 = z0 + s → z0 + s ≤ 20 → (∀ s' : Int, 0 ≤ s' → s' < s → m' 118 (z0 + s').toNat = m 102 s'.toNat ∧ m' 119 (z0 + s').toNat = p ∧ m' 120 (z0 + s').toNat = s') → (∀ j : Nat, (j : Int) < z0 → m' 118 j = m 118 j ∧ m' 119 j = m 119 j ∧ m' 120 j = m 120 j) → h_L_append_2 d p s m' P := by
    refine upto _ (fun s hs ih s0 m' F1 F2 F3 F4 F5 F6 => ?_)
    refine v_L_append_2 ?_
    rw [F1 100 (by decide) (by decide) (by decide) (by decide), F1 102 (by decide) (by decide) (by decide) (by decide), F3]
    refine ⟨fun w => ?_, fun w => ⟨fun w2 => ⟨by omega, ?_⟩, fun w2 => ?_⟩⟩
    · have e : s = m 100 4 := by omega
      subst e
      exact h1 F4 m' F1 F2 F3 F5 F6
    · refine ih w (by omega) _ (fun k k1 k2 k3 k4 => by rw [wt_row _ _ k1, wt_row _ _ k4, wt_row _ _ k3, wt_row _ _ k2]; exact F1 k k1 k2 k3 k4) (fun j hj => by rw [wt_ne _ _ hj, wt_row _ _ (by decide), wt_row _ _ (by decide), wt_row _ _ (by decide)]; exact F2 j hj) (by rw [wt_same]; omega) (by omega) (fun s' q0 q1 => ?_) (fun j hj => ?_)
      · have X8 : ∀ j : Nat, (wt (wt (wt (wt m' 118 (z0 + s).toNat (m 102 s.toNat)) 119 (z0 + s).toNat p) 120 (z0 + s).toNat s) 117 4 (z0 + s + 1)) 118 j = (wt m' 118 (z0 + s).toNat (m 102 s.toNat)) 118 j := fun j => rfl
        have X9 : ∀ j : Nat, (wt (wt (wt (wt m' 118 (z0 + s).toNat (m 102 s.toNat)) 119 (z0 + s).toNat p) 120 (z0 + s).toNat s) 117 4 (z0 + s + 1)) 119 j = (wt m' 119 (z0 + s).toNat p) 119 j := fun j => rfl
        have X0 : ∀ j : Nat, (wt (wt (wt (wt m' 118 (z0 + s).toNat (m 102 s.toNat)) 119 (z0 + s).toNat p) 120 (z0 + s).toNat s) 117 4 (z0 + s + 1)) 120 j = (wt m' 120 (z0 + s).toNat s) 120 j := fun j => rfl
        rw [X8, X9, X0]
        by_cases c : s' = s
        · subst c
          rw [wt_same, wt_same, wt_same]
          exact ⟨rfl, rfl, rfl⟩
        · rw [wt_ne _ _ (by omega), wt_ne _ _ (by omega), wt_ne _ _ (by omega)]
          exact F5 s' q0 (by omega)
      · have X8 : ∀ j : Nat, (wt (wt (wt (wt m' 118 (z0 + s).toNat (m 102 s.toNat)) 119 (z0 + s).toNat p) 120 (z0 + s).toNat s) 117 4 (z0 + s + 1)) 118 j = (wt m' 118 (z0 + s).toNat (m 102 s.toNat)) 118 j := fun j => rfl
        have X9 : ∀ j : Nat, (wt (wt (wt (wt m' 118 (z0 + s).toNat (m 102 s.toNat)) 119 (z0 + s).toNat p) 120 (z0 + s).toNat s) 117 4 (z0 + s + 1)) 119 j = (wt m' 119 (z0 + s).toNat p) 119 j := fun j => rfl
        have X0 : ∀ j : Nat, (wt (wt (wt (wt m' 118 (z0 + s).toNat (m 102 s.toNat)) 119 (z0 + s).toNat p) 120 (z0 + s).toNat s) 117 4 (z0 + s + 1)) 120 j = (wt m' 120 (z0 + s).toNat s) 120 j := fun j => rfl
        rw [X8, X9, X0, wt_ne _ _ (by omega), wt_ne _ _ (by omega), wt_ne _ _ (by omega)]
        exact F6 j hj
    · exact h2 (by omega) _ (fun k k1 k2 k3 k4 => by rw [wt_row _ _ k1]; exact F1 k k1 k2 k3 k4) (fun j j1 j2 => by rw [wt_ne _ _ j2]; exact F2 j j1) (by rw [wt_ne _ _ (by decide), F3]; omega) (wt_same _ _ _ _)
  exact v_L_append (L 0 (by omega) (by omega) m (fun _ _ _ _ _ => rfl) (fun _ _ => rfl) (by omega) (by omega) (fun s' q0 q1 => by omega) (fun j _ => ⟨rfl, rfl, rfl⟩))
theorem s_L_lay {m : MT} {P : MT → Prop} {N : Int} (hd : 16 < d) (H : HX M fr kn n) (rM : ∀ k : Nat, k < 19 ∨ (134 < k ∧ k < 152) ∨ (152 < k ∧ k < 158) → m k = M k) (e15 : m 134 15 = M 134 15) (hN : N ≤ 20) (hr : RVx M (fun p => m 116 p.toNat) N) (h : ∀ m1 : MT, (∀ k : Nat, k ≠ 100 → k ≠ 101 → k ≠ 102 → (k < 117 ∨ 122 < k) → m1 k = m k) → m1 117 9 = N → (∀ p : Int, 0 ≤ p → p < N → m1 122 p.toNat = m 116 p.toNat) → (∀ j : Nat, j ≠ 4 → j ≠ 5 → j ≠ 9 → m1 117 j = m 117 j) → ((m1 117 5 = 0 ∧ LAID M (fun p => m 116 p.toNat) N (m1 118) (m1 119) (m1 120) (m1 117 4)) ∨ (m1 117 5 = 1 ∧ m1 117 4 = 20 ∧ 20 < osn M (fun p => m 116 p.toNat) N N.toNat)) → P m1) : c_L_lay d N m P := by
  have hN1 := hr.1
  refine v_L_lay ⟨by omega, ?_⟩
  have E0 : (∀ k : Nat, k ≠ 117 → k ≠ 122 → (cpm (wt (wt (wt m 117 4 0) 117 5 0) 117 9 N) 116 122 0 0 N.toNat) k = m k) := fun k k1 k2 => by rw [cpm_row _ k2, wt_row _ _ k1, wt_row _ _ k1, wt_row _ _ k1]
  have E9 : (cpm (wt (wt (wt m 117 4 0) 117 5 0) 117 9 N) 116 122 0 0 N.toNat) 117 9 = N := by rw [cpm_row _ (by decide), wt_same]
  have E4 : (cpm (wt (wt (wt m 117 4 0) 117 5 0) 117 9 N) 116 122 0 0 N.toNat) 117 4 = 0 := by rw [cpm_row _ (by decide), wt_ne _ _ (by decide), wt_ne _ _ (by decide), wt_same]
  have E5 : (cpm (wt (wt (wt m 117 4 0) 117 5 0) 117 9 N) 116 122 0 0 N.toNat) 117 5 = 0 := by rw [cpm_row _ (by decide), wt_ne _ _ (by decide), wt_same]
  have Ej : ∀ j : Nat, j ≠ 4 → j ≠ 5 → j ≠ 9 → (cpm (wt (wt (wt m 117 4 0) 117 5 0) 117 9 N) 116 122 0 0 N.toNat) 117 j = m 117 j := fun j j1 j2 j3 => by rw [cpm_row _ (by decide), wt_ne _ _ j3, wt_ne _ _ j2, wt_ne _ _ j1]
  have ER : ∀ p : Int, 0 ≤ p → p < N → (cpm (wt (wt (wt m 117 4 0) 117 5 0) 117 9 N) 116 122 0 0 N.toNat) 122 p.toNat = m 116 p.toNat := fun p p0 p1 => by
    rw [cpm_at, if_pos (by omega), wt_row _ _ (by decide), wt_row _ _ (by decide), wt_row _ _ (by decide)]
    congr 1; omega
  generalize cpm (wt (wt (wt m 117 4 0) 117 5 0) 117 9 N) 116 122 0 0 N.toNat = m0 at *
  generalize hrr : (fun p : Int => m 116 p.toNat) = r at *
  have er : ∀ p : Int, r p = m 116 p.toNat := fun p => by rw [← hrr]
  have LP : ∀ p : Int, p ≤ N → 0 ≤ p → ∀ m' : MT, (∀ k : Nat, k ≠ 100 → k ≠ 101 → k ≠ 102 → (k < 117 ∨ 120 < k) → m' k = m0 k) → (∀ j : Nat, j ≠ 4 → j ≠ 5 → m' 117 j = m0 117 j) → ((m' 117 5 = 0 ∧ m' 117 4 = osn M r N p.toNat ∧ osn M r N p.toNat ≤ 20 ∧ ∀ p' : Int, 0 ≤ p' → p' < p → ∀ s : Int, 0 ≤ s → s < zr M r N p' → m' 118 (osn M r N p'.toNat + s).toNat = (sfr M r N p').2 s.toNat ∧ m' 119 (osn M r N p'.toNat + s).toNat = p' ∧ m' 120 (osn M r N p'.toNat + s).toNat = s) ∨ (m' 117 5 = 1 ∧ m' 117 4 = 20 ∧ 20 < osn M r N N.toNat)) → h_L_lay_29 d N p m' P := by
    refine upto _ (fun p hp ih p0 m' F1 F2 F3 => ?_)
    have G : ∀ m2 : MT, c_S_raise (d - 1) (ra r p) (r p) (rb r N p) m' (fun m1 => c_L_append (d - 1) p m1 (fun m2 => h_L_lay_29 d N (p + 1) m2 P)) ∨ ¬ p < N := by
      intro _
      by_cases w : p < N
      · refine Or.inl ?_
        have rM' : ∀ k : Nat, k < 19 ∨ (134 < k ∧ k < 152) ∨ (152 < k ∧ k < 158) → m' k = M k := fun k hk => by rw [F1 k (by omega) (by omega) (by omega) (by omega), E0 k (by omega) (by omega)]; exact rM k hk
        have H' : HX m' fr kn n := HX_f H rM' (by rw [F1 134 (by decide) (by decide) (by decide) (by decide), E0 134 (by decide) (by decide)]; exact e15)
        have V := RV_vs hr p0 w
        have e135 : m' 135 0 = M 135 0 := by rw [rM' 135 (by omega)]
        refine s_S_raise (by omega) H'.2.1 H'.1.2.1.2 H'.2.2.2.2.2.1 (by rw [e135]; exact V.1) (by rw [e135]; exact V.2.1) (by rw [e135]; exact V.2.2) (fun m1 C1 S1 e1 => ?_)
        have EQ : EQV (sfr M r N p) (sur m1) := by
          rw [e1]
          exact SF_alike H V.2.1 (rM' 3 (by omega)) (rM' 4 (by omega)) (rM' 10 (by omega)) (rM' 11 (by omega)) (rM' 12 (by omega)) (rM' 13 (by omega)) (rM' 135 (by omega))
        have ez : m1 100 4 = zr M r N p := EQ.1.symm
        have zb := zr_in H hr p0 w
        have es := osn_s M r N p p0
        have o0 := osn_0 H hr p0 (by omega)
        have om := osn_mono H hr (p := p + 1) (p' := N) (by omega) (by omega) (by omega)
        have cO : m1 117 = m' 117 := C1.1 117 (by decide) (by decide) (by decide)
        have cS : m1 118 = m' 118 := C1.1 118 (by decide) (by decide) (by decide)
        have cL : m1 119 = m' 119 := C1.1 119 (by decide) (by decide) (by decide)
        have cU : m1 120 = m' 120 := C1.1 120 (by decide) (by decide) (by decide)
        have NXT : ∀ m2 : MT, (∀ k : Nat, k ≠ 117 → k ≠ 118 → k ≠ 119 → k ≠ 120 → m2 k = m1 k) → ∀ k : Nat, k ≠ 100 → k ≠ 101 → k ≠ 102 → (k < 117 ∨ 120 < k) → m2 k = m0 k := fun m2 g k k1 k2 k3 k4 => by rw [g k (by omega) (by omega) (by omega) (by omega), C1.1 k k1 k2 k3]; exact F1 k k1 k2 k3 k4
        rcases F3 with ⟨f5, f4, f20, fl⟩ | ⟨f5, f4, f20⟩
        · refine s_L_append (z0 := osn M r N p.toNat) S1 (by rw [cO]; exact f4) ⟨o0, f20⟩ (fun w2 m2 g1 g2 g3 g4 g5 => ?_) (fun w2 m2 g1 g2 g3 g4 => ?_)
          · refine ih w (by omega) m2 (NXT m2 g1) (fun j j1 j2 => by rw [g2 j j1, cO]; exact F2 j j1 j2) (Or.inl ⟨by rw [g2 5 (by decide), cO]; exact f5, by rw [g3, ez, es], by omega, fun p' q0 q1 s s0 s1 => ?_⟩)
            by_cases c : p' = p
            · subst c
              obtain ⟨x1, x2, x3⟩ := g4 s s0 (by omega)
              refine ⟨?_, x2, x3⟩
              rw [x1]
              exact (EQ.2 s s0 s1).symm
            · have es' := osn_s M r N p' q0
              have om' := osn_mono H hr (p := p' + 1) (p' := p) (by omega) (by omega) (by omega)
              have o0' := osn_0 H hr q0 (by omega)
              obtain ⟨x1, x2, x3⟩ := g5 (osn M r N p'.toNat + s).toNat (by omega)
              rw [x1, x2, x3, cS, cL, cU]
              exact fl p' q0 (by omega) s s0 s1
          · exact ih w (by omega) m2 (NXT m2 g1) (fun j j1 j2 => by rw [g2 j j1 j2, cO]; exact F2 j j1 j2) (Or.inr ⟨g4, g3, by omega⟩)
        · refine s_L_append (z0 := 20) S1 (by rw [cO]; exact f4) (by omega) (fun w2 => by omega) (fun w2 m2 g1 g2 g3 g4 => ?_)
          exact ih w (by omega) m2 (NXT m2 g1) (fun j j1 j2 => by rw [g2 j j1 j2, cO]; exact F2 j j1 j2) (Or.inr ⟨g4, g3, f20⟩)
      · exact Or.inr w
    have rw' : ∀ q : Int, 0 ≤ q → q < N → m' 122 q.toNat = r q := fun q q0 q1 => by rw [F1 122 (by decide) (by decide) (by decide) (by decide), ER q q0 q1, er]
    refine v_L_lay_29 ⟨fun w => ?_, fun w => ?_⟩
    · have e : p = N := by omega
      subst e
      refine h m' (fun k k1 k2 k3 k4 => by rw [F1 k k1 k2 k3 (by omega)]; exact E0 k (by omega) (by omega)) (by rw [F2 9 (by decide) (by decide)]; exact E9) (fun q q0 q1 => by rw [rw' q q0 q1, er]) (fun j j1 j2 j3 => by rw [F2 j j1 j2]; exact Ej j j1 j2 j3) ?_
      rcases F3 with ⟨f5, f4, f20, fl⟩ | f
      · exact Or.inl ⟨f5, f4, by omega, fl⟩
      · exact Or.inr f
    · have G' : c_S_raise (d - 1) (ra r p) (r p) (rb r N p) m' (fun m1 => c_L_append (d - 1) p m1 (fun m2 => h_L_lay_29 d N (p + 1) m2 P)) := (G m').resolve_right (fun q => q w)
      have G2 : c_S_raise (d - 1) (ra r p) (r p) (rb r N p) m' (fun m1 => c_L_append (d - 1) p m1 (fun m2 => (-2147483648 ≤ p + 1 ∧ p + 1 < 2147483648) ∧ h_L_lay_29 d N (p + 1) m2 P)) := by
        have : (fun m1 => c_L_append (d - 1) p m1 (fun m2 => (-2147483648 ≤ p + 1 ∧ p + 1 < 2147483648) ∧ h_L_lay_29 d N (p + 1) m2 P)) = (fun m1 => c_L_append (d - 1) p m1 (fun m2 => h_L_lay_29 d N (p + 1) m2 P)) := by
          funext m1
          congr 1
          funext m2
          exact propext ⟨fun h => h.2, fun h => ⟨by omega, h⟩⟩
        rw [this]; exact G'
      unfold ra rb at G' G2
      refine ⟨fun w2 => ⟨by omega, fun w3 => ⟨by omega, ?_⟩, fun w3 => ⟨by omega, ?_⟩⟩, fun w2 => ⟨by omega, fun w3 => ⟨by omega, ?_⟩, fun w3 => ⟨by omega, ?_⟩⟩⟩
      · rw [if_neg w2, if_neg w3, ← rw' (p - 1) (by omega) (by omega), ← rw' p p0 w, ← rw' (p + 1) (by omega) (by omega)] at G'
        exact G'
      · rw [if_neg w2, if_pos w3, ← rw' (p - 1) (by omega) (by omega), ← rw' p p0 w] at G2
        exact G2
      · rw [if_pos w2, if_neg w3, ← rw' p p0 w, ← rw' (p + 1) (by omega) (by omega)] at G'
        exact G'
      · rw [if_pos w2, if_pos w3, ← rw' p p0 w] at G2
        exact G2
  exact LP 0 (by omega) (by omega) m0 (fun _ _ _ _ _ => rfl) (fun _ _ _ => rfl) (Or.inl ⟨E5, E4, by show (0 : Int) ≤ 20; omega, fun p' q0 q1 => by omega⟩)
end LAYL
section LAYLt
variable {d : Nat} {M : MT} {fr kn n : Int}
theorem s_Lt_keyAt {m : MT} {P : Int → MT → Prop} {i f : Int} (hb : f < m 125 10 → 0 ≤ i * 20 + f ∧ i * 20 + f < 400 ∧ 0 ≤ i ∧ i < 21) (h : P (kA (m 129) (m 125 10) i f) m) : c_Lt_keyAt d i f m P := by
  unfold kA at h
  refine v_Lt_keyAt ⟨fun q => ?_, fun q => ?_⟩
  · rw [if_neg (by omega)] at h; exact h
  · rw [if_pos q] at h; exact ⟨by have := hb q; omega, h⟩
theorem s_Lt_isLast {m : MT} {P : Bool → MT → Prop} {i : Int} (hi : 0 ≤ i ∧ i < m 125 4) (hz : m 125 4 ≤ 20) (h1 : i = m 125 4 - 1 ∨ ¬ m 127 (i + 1).toNat = m 127 i.toNat → P true m) (h2 : ¬ i = m 125 4 - 1 → m 127 (i + 1).toNat = m 127 i.toNat → P false m) : c_Lt_isLastOfSign d i m P :=
  v_Lt_isLastOfSign ⟨by omega, fun q => h1 (Or.inl q), fun q => ⟨by omega, fun q2 => h2 q q2, fun q2 => h1 (Or.inr q2)⟩⟩
/-- what is known of a table where it is read -/
def TBLt (m : MT) (i g : Int) : Prop := ∀ f : Int, g ≤ f → f < m 125 10 → 0 ≤ m 129 (i * 20 + f).toNat ∧ m 129 (i * 20 + f).toNat ≤ 268435456
theorem s_Lt_leaving {m : MT} {P : Int → MT → Prop} {i g sl : Int} (hd : 1 < d) (hi : 0 ≤ i ∧ i < m 125 4) (hz : m 125 4 ≤ 20) (hg : 0 ≤ g ∧ g ≤ 20) (hn : m 125 10 ≤ 20) (hsl : 0 ≤ sl ∧ sl ≤ 1000) (hT : i + 1 < m 125 4 → TBLt m (i + 1) g) (h : P (lvF (m 127) (m 129) (m 125 10) (m 125 4) sl i g) m) : c_Lt_leaving d i g sl m P := by
  unfold lvF at h
  refine v_Lt_leaving ⟨by omega, fun q => ⟨by omega, ?_⟩, fun q => ⟨fun q2 => ?_, fun q2 => ?_⟩⟩
  · rw [if_neg q] at h
    have kb : ∀ j : Int, 0 ≤ j → 0 ≤ kA (m 129) (m 125 10) (i + 1) (g + j) ∧ kA (m 129) (m 125 10) (i + 1) (g + j) ≤ 268435456 := by
      intro j j0
      by_cases c : g + j < m 125 10
      · rw [kA_in c]; exact hT (by omega) (g + j) (by omega) c
      · rw [kA_far (by omega)]; omega
    have k0 := kb 0 (by omega)
    have k1 := kb (0 + 1) (by omega)
    have k2 := kb (0 + 1 + 1) (by omega)
    have k3 := kb (0 + 1 + 1 + 1) (by omega)
    refine s_Lt_isLast hi hz (fun q3 => ⟨fun e => (by cases e), fun _ => ?_⟩) (fun _ q3 => ⟨fun _ => ?_, fun e => by cases e⟩)
    · rw [if_neg (by rcases q3 with q3 | q3; exact absurd q3 q; exact q3)] at h
      refine v_Lt_leaving_47 ⟨fun w => by omega, fun _ => ⟨by omega, s_Lt_keyAt (by omega) ⟨by omega, ?_⟩⟩⟩
      refine v_Lt_leaving_47 ⟨fun w => by omega, fun _ => ⟨by omega, s_Lt_keyAt (by omega) ⟨by omega, ?_⟩⟩⟩
      refine v_Lt_leaving_47 ⟨fun w => by omega, fun _ => ⟨by omega, s_Lt_keyAt (by omega) ⟨by omega, ?_⟩⟩⟩
      refine v_Lt_leaving_47 ⟨fun w => by omega, fun _ => ⟨by omega, s_Lt_keyAt (by omega) ⟨by omega, ?_⟩⟩⟩
      refine v_Lt_leaving_47 ⟨fun w => ?_, fun w => by omega⟩
      have e : min (min (min (min 268435456 (kA (m 129) (m 125 10) (i + 1) (g + 0) + 0 * sl)) (kA (m 129) (m 125 10) (i + 1) (g + (0 + 1)) + (0 + 1) * sl)) (kA (m 129) (m 125 10) (i + 1) (g + (0 + 1 + 1)) + (0 + 1 + 1) * sl)) (kA (m 129) (m 125 10) (i + 1) (g + (0 + 1 + 1 + 1)) + (0 + 1 + 1 + 1) * sl) = min (min (min (min 268435456 (kA (m 129) (m 125 10) (i + 1) g)) (kA (m 129) (m 125 10) (i + 1) (g + 1) + 1 * sl)) (kA (m 129) (m 125 10) (i + 1) (g + 2) + 2 * sl)) (kA (m 129) (m 125 10) (i + 1) (g + 3) + 3 * sl) := by
        rw [show g + (0 : Int) = g by omega, show g + (0 + 1 : Int) = g + 1 by omega, show g + (0 + 1 + 1 : Int) = g + 2 by omega, show g + (0 + 1 + 1 + 1 : Int) = g + 3 by omega]; omega
      rw [e]; exact h
    · rw [if_pos q3] at h
      refine v_Lt_leaving_47 ⟨fun w => by omega, fun _ => ⟨by omega, s_Lt_keyAt (by omega) ⟨by omega, ?_⟩⟩⟩
      refine v_Lt_leaving_47 ⟨fun w => ?_, fun w => by omega⟩
      have e : min 268435456 (kA (m 129) (m 125 10) (i + 1) (g + 0) + 0 * sl) = min 268435456 (kA (m 129) (m 125 10) (i + 1) g) := by rw [show g + (0 : Int) = g by omega]; omega
      rw [e]; exact h
  · rw [if_pos q, if_neg q2] at h; exact h
  · rw [if_pos q, if_pos q2] at h; exact h
theorem s_Lt_measure {m : MT} {P : Int → MT → Prop} {N : Int} (hd : 3 < d) (H : HX M fr kn n) (e103 : m 103 1 = n) (hC : CT (m 104) (M 135) fr kn n) (e9 : m 2 9 = M 135 3) (e10 : m 2 10 = M 135 4) (hz : 1 ≤ m 125 4 ∧ m 125 4 ≤ 20) (eN : m 125 9 = N) (hN : 1 ≤ N ∧ N ≤ 20) (hst : m 125 5 = 0 → ∀ i : Int, 0 ≤ i → i < m 125 4 → okSt (m 126 i.toNat)) (h1 : ¬ m 125 5 = 0 ∨ n < m 125 4 → P (-1) (wt m 125 10 n)) (h2 : m 125 5 = 0 → m 125 4 ≤ n → ∀ t : Nat → Int, REF (m 127) (m 126) t (M 135) fr kn n (m 125 4) (M 135 3) (fun _ _ => True) → P (t 0 + N * M 135 4) (sv (wt m 125 10 n) 129 t)) : c_Lt_measure d m P := by
  have hn := H.2.2.2.2.2.2
  have sl := H.1.2.2.2.1
  have pr := H.1.2.2.2.2.2
  refine v_Lt_measure ⟨fun q => by rw [e103]; exact h1 (Or.inl q), fun q => ⟨fun q2 => ?_, fun q2 => by rw [e103]; rw [e103] at q2; exact h1 (Or.inr q2)⟩⟩
  rw [e103] at q2 ⊢
  refine ⟨by omega, ?_⟩
  have m0 : ∀ t : Nat → Int, (sv (wt m 125 10 n) 129 t) 125 10 = n ∧ (sv (wt m 125 10 n) 129 t) 125 4 = m 125 4 ∧ (sv (wt m 125 10 n) 129 t) 125 9 = N ∧ (sv (wt m 125 10 n) 129 t) 2 = m 2 ∧ (sv (wt m 125 10 n) 129 t) 126 = m 126 ∧ (sv (wt m 125 10 n) 129 t) 127 = m 127 ∧ (sv (wt m 125 10 n) 129 t) 104 = m 104 ∧ (sv (wt m 125 10 n) 129 t) 129 = t := by
    intro t
    refine ⟨?_, ?_, ?_, rfl, rfl, rfl, rfl, rfl⟩
    · show (wt m 125 10 n) 125 10 = n; exact wt_same _ _ _ _
    · show (wt m 125 10 n) 125 4 = _; exact wt_ne _ _ (by decide)
    · show (wt m 125 10 n) 125 9 = _; rw [wt_ne _ _ (by decide)]; exact eN
  have LF : ∀ f : Int, -1 ≤ f → f < n → ∀ t : Nat → Int, REF (m 127) (m 126) t (M 135) fr kn n (m 125 4) (M 135 3) (fun _ f' => f < f') → h_Lt_measure_35 d f (sv (wt m 125 10 n) 129 t) P := by
    refine dnto _ (fun f hf ih f1 t hR => ?_)
    obtain ⟨a10, a4, a9, a2, aS, aL, aC, aK⟩ := m0 t
    refine v_Lt_measure_35 ⟨fun w => ?_, fun w => ?_⟩
    · rw [aK, a9, a2, e10]
      have R0 := hR 0 0 (by omega) (by omega) (by omega)
      have t0 : (0 * 20 + 0 : Int).toNat = 0 := rfl
      rw [t0] at R0
      have mp := mul_in (x := N) (y := M 135 4) (X := 20) (Y := 1000) (by omega) (by omega)
      exact ⟨by omega, h2 q q2 t (fun i f' hi hf' _ => hR i f' hi hf' (by omega))⟩
    have LI : ∀ i : Int, i ≤ m 125 4 → 0 ≤ i → ∀ t : Nat → Int, REF (m 127) (m 126) t (M 135) fr kn n (m 125 4) (M 135 3) (fun i' f' => f < f' ∨ (f' = f ∧ i' < i)) → h_Lt_measure_42 d f i (sv (wt m 125 10 n) 129 t) P := by
      refine upto _ (fun i hi ihi i0 t hR => ?_)
      obtain ⟨a10, a4, a9, a2, aS, aL, aC, aK⟩ := m0 t
      refine v_Lt_measure_42 ?_
      rw [a4]
      refine ⟨fun w2 => ⟨by omega, ih (by omega) (by omega) t (fun i' f' hi' hf' hD => hR i' f' hi' hf' (by omega))⟩, fun w2 => ⟨by omega, ?_⟩⟩
      have kb : ∀ j f' : Int, 0 ≤ j → j < m 125 4 → f < f' → 0 ≤ kA t n j f' ∧ kA t n j f' ≤ 268435456 := by
        intro j f' j0 j1 jf
        by_cases c : f' < n
        · rw [kA_in c]; exact (hR j f' ⟨j0, j1⟩ (by omega) (Or.inl jf)).2
        · rw [kA_far (by omega)]; omega
      refine s_Lt_keyAt (by rw [a10]; omega) ?_
      rw [a10, aK]
      refine s_Lt_leaving (by omega) (by rw [a4]; omega) (by rw [a4]; omega) (by omega) (by rw [a10]; omega) (by rw [a2, e9]; exact sl) (fun w3 f' g1 g2 => ?_) ?_
      · rw [a4] at w3
        rw [a10] at g2
        rw [aK]
        exact (hR (i + 1) f' (by omega) (by omega) (Or.inl (by omega))).2
      rw [a10, a4, aL, aK, a2, e9]
      refine ⟨by omega, ?_⟩
      rw [aS]
      refine s_Fr_costOf (by omega) H.2.2.1 H.2.2.2.1 H.2.2.2.2.1 (by rw [aC]; exact hC) (by omega) (hst q i i0 w2) ?_
      have KB := KF_in H.2.2.1 H.2.2.2.1 H.2.2.2.2.1 (fr := fr) (kn := kn) (f := f) (hst q i i0 w2)
      have k1 := kb i (f + 1) i0 w2 (by omega)
      have l1 : 0 ≤ lvF (m 127) t n (m 125 4) (M 135 3) i (f + 1) ∧ lvF (m 127) t n (m 125 4) (M 135 3) i (f + 1) ≤ 268435456 := by
        unfold lvF
        split
        · split <;> omega
        · have q0 := kb (i + 1) (f + 1) (by omega) (by omega) (by omega)
          have q1 := kb (i + 1) (f + 1 + 1) (by omega) (by omega) (by omega)
          have q2 := kb (i + 1) (f + 1 + 2) (by omega) (by omega) (by omega)
          have q3 := kb (i + 1) (f + 1 + 3) (by omega) (by omega) (by omega)
          split <;> omega
      refine ⟨by omega, ?_⟩
      have em : ∀ z : Int, wt (sv (wt m 125 10 n) 129 t) 129 (i * 20 + f).toNat z = sv (wt m 125 10 n) 129 (sv t (i * 20 + f).toNat z) := by
        intro z
        funext k j
        simp only [wt_r, svc]
        split <;> rfl
      rw [em]
      have ky : ∀ (z j f' : Int), 0 ≤ j → f < f' → f' < n → (sv t (i * 20 + f).toNat z) (j * 20 + f').toNat = t (j * 20 + f').toNat := fun z j f' j0 jf jn => sv_ne _ _ (by omega)
      have kAe : ∀ (z j f' : Int), 0 ≤ j → f < f' → kA (sv t (i * 20 + f).toNat z) n j f' = kA t n j f' := by
        intro z j f' j0 jf
        by_cases c : f' < n
        · rw [kA_in c, kA_in c]; exact ky z j f' j0 jf c
        · rw [kA_far (by omega), kA_far (by omega)]
      have lve : ∀ (z j f' : Int), 0 ≤ j → f < f' → lvF (m 127) (sv t (i * 20 + f).toNat z) n (m 125 4) (M 135 3) j f' = lvF (m 127) t n (m 125 4) (M 135 3) j f' := by
        intro z j f' j0 jf
        unfold lvF
        rw [kAe z _ _ (by omega) jf, kAe z _ (f' + 1) (by omega) (by omega), kAe z _ (f' + 2) (by omega) (by omega), kAe z _ (f' + 3) (by omega) (by omega)]
      refine ihi w2 (by omega) _ (fun j f' hj hf' hD => ?_)
      rw [kAe _ j (f' + 1) hj.1 (by omega), lve _ j (f' + 1) hj.1 (by omega)]
      by_cases c : j = i ∧ f' = f
      · obtain ⟨rfl, rfl⟩ := c
        rw [sv_eq]
        exact ⟨rfl, by omega⟩
      · rw [svn _ _ (by omega)]
        exact hR j f' hj hf' (by omega)
    exact LI 0 (by omega) (by omega) t (fun i' f' hi' hf' hD => hR i' f' hi' hf' (by omega))
  have e0 : wt m 125 10 n = sv (wt m 125 10 n) 129 (m 129) := by
    funext k j
    simp only [wt_r, svc]
    split
    · split
      · rename_i e1 e2; omega
      · rfl
    · split
      · rename_i e; rw [e]
      · rfl
  rw [e0]
  exact LF (n - 1) (by omega) (by omega) (m 129) (fun i f' hi hf' hD => by omega)
theorem s_Lt_append {m : MT} {P : MT → Prop} {p z0 : Int} (hS : SOK (sur m)) (e4 : m 125 4 = z0) (hz : 0 ≤ z0 ∧ z0 ≤ 20) (h1 : z0 + m 100 4 ≤ 20 → ∀ m1 : MT, (∀ k : Nat, k ≠ 125 → k ≠ 126 → k ≠ 127 → k ≠ 128 → m1 k = m k) → (∀ j : Nat, j ≠ 4 → m1 125 j = m 125 j) → m1 125 4 = z0 + m 100 4 → (∀ s : Int, 0 ≤ s → s < m 100 4 → m1 126 (z0 + s).toNat = m 102 s.toNat ∧ m1 127 (z0 + s).toNat = p ∧ m1 128 (z0 + s).toNat = s) → (∀ j : Nat, (j : Int) < z0 → m1 126 j = m 126 j ∧ m1 127 j = m 127 j ∧ m1 128 j = m 128 j) → P m1) (h2 : 20 < z0 + m 100 4 → ∀ m1 : MT, (∀ k : Nat, k ≠ 125 → k ≠ 126 → k ≠ 127 → k ≠ 128 → m1 k = m k) → (∀ j : Nat, j ≠ 4 → j ≠ 5 → m1 125 j = m 125 j) → m1 125 4 = 20 → m1 125 5 = 1 → P m1) : c_Lt_append d p m P := by
  have hS1 : 1 ≤ m 100 4 ∧ m 100 4 ≤ 4 := hS.1
  have L : ∀ s : Int, s ≤ m 100 4 → 0 ≤ s → ∀ m' : MT, (∀ k : Nat, k ≠ 125 → k ≠ 126 → k ≠ 127 → k ≠ 128 → m' k = m k) → (∀ j : Nat, j ≠ 4 → m' 125 j = m 125 j) → m' 125 4 = z0 + s → z0 + s ≤ 20 → (∀ s' : Int, 0 ≤ s' → s' < s → m' 126 (z0 + s').toNat = m 102 s'.toNat ∧ m' 127 (z0 + s').toNat = p ∧ m' 128 (z0 + s').toNat = s') → (∀ j : Nat, (j : Int) < z0 → m' 126 j = m 126 j ∧ m' 127 j = m 127 j ∧ m' 128 j = m 128 j) → h_Lt_append_2 d p s m' P := by
    refine upto _ (fun s hs ih s0 m' F1 F2 F3 F4 F5 F6 => ?_)
    refine v_Lt_append_2 ?_
    rw [F1 100 (by decide) (by decide) (by decide) (by decide), F1 102 (by decide) (by decide) (by decide) (by decide), F3]
    refine ⟨fun w => ?_, fun w => ⟨fun w2 => ⟨by omega, ?_⟩, fun w2 => ?_⟩⟩
    · have e : s = m 100 4 := by omega
      subst e
      exact h1 F4 m' F1 F2 F3 F5 F6
    · refine ih w (by omega) _ (fun k k1 k2 k3 k4 => by rw [wt_row _ _ k1, wt_row _ _ k4, wt_row _ _ k3, wt_row _ _ k2]; exact F1 k k1 k2 k3 k4) (fun j hj => by rw [wt_ne _ _ hj, wt_row _ _ (by decide), wt_row _ _ (by decide), wt_row _ _ (by decide)]; exact F2 j hj) (by rw [wt_same]; omega) (by omega) (fun s' q0 q1 => ?_) (fun j hj => ?_)
      · have X8 : ∀ j : Nat, (wt (wt (wt (wt m' 126 (z0 + s).toNat (m 102 s.toNat)) 127 (z0 + s).toNat p) 128 (z0 + s).toNat s) 125 4 (z0 + s + 1)) 126 j = (wt m' 126 (z0 + s).toNat (m 102 s.toNat)) 126 j := fun j => rfl
        have X9 : ∀ j : Nat, (wt (wt (wt (wt m' 126 (z0 + s).toNat (m 102 s.toNat)) 127 (z0 + s).toNat p) 128 (z0 + s).toNat s) 125 4 (z0 + s + 1)) 127 j = (wt m' 127 (z0 + s).toNat p) 127 j := fun j => rfl
        have X0 : ∀ j : Nat, (wt (wt (wt (wt m' 126 (z0 + s).toNat (m 102 s.toNat)) 127 (z0 + s).toNat p) 128 (z0 + s).toNat s) 125 4 (z0 + s + 1)) 128 j = (wt m' 128 (z0 + s).toNat s) 128 j := fun j => rfl
        rw [X8, X9, X0]
        by_cases c : s' = s
        · subst c
          rw [wt_same, wt_same, wt_same]
          exact ⟨rfl, rfl, rfl⟩
        · rw [wt_ne _ _ (by omega), wt_ne _ _ (by omega), wt_ne _ _ (by omega)]
          exact F5 s' q0 (by omega)
      · have X8 : ∀ j : Nat, (wt (wt (wt (wt m' 126 (z0 + s).toNat (m 102 s.toNat)) 127 (z0 + s).toNat p) 128 (z0 + s).toNat s) 125 4 (z0 + s + 1)) 126 j = (wt m' 126 (z0 + s).toNat (m 102 s.toNat)) 126 j := fun j => rfl
        have X9 : ∀ j : Nat, (wt (wt (wt (wt m' 126 (z0 + s).toNat (m 102 s.toNat)) 127 (z0 + s).toNat p) 128 (z0 + s).toNat s) 125 4 (z0 + s + 1)) 127 j = (wt m' 127 (z0 + s).toNat p) 127 j := fun j => rfl
        have X0 : ∀ j : Nat, (wt (wt (wt (wt m' 126 (z0 + s).toNat (m 102 s.toNat)) 127 (z0 + s).toNat p) 128 (z0 + s).toNat s) 125 4 (z0 + s + 1)) 128 j = (wt m' 128 (z0 + s).toNat s) 128 j := fun j => rfl
        rw [X8, X9, X0, wt_ne _ _ (by omega), wt_ne _ _ (by omega), wt_ne _ _ (by omega)]
        exact F6 j hj
    · exact h2 (by omega) _ (fun k k1 k2 k3 k4 => by rw [wt_row _ _ k1]; exact F1 k k1 k2 k3 k4) (fun j j1 j2 => by rw [wt_ne _ _ j2]; exact F2 j j1) (by rw [wt_ne _ _ (by decide), F3]; omega) (wt_same _ _ _ _)
  exact v_Lt_append (L 0 (by omega) (by omega) m (fun _ _ _ _ _ => rfl) (fun _ _ => rfl) (by omega) (by omega) (fun s' q0 q1 => by omega) (fun j _ => ⟨rfl, rfl, rfl⟩))
theorem s_Lt_lay {m : MT} {P : MT → Prop} {N : Int} (hd : 16 < d) (H : HX M fr kn n) (rM : ∀ k : Nat, k < 19 ∨ (134 < k ∧ k < 152) ∨ (152 < k ∧ k < 158) → m k = M k) (e15 : m 134 15 = M 134 15) (hN : N ≤ 3) (hr : RVx M (fun p => m 133 p.toNat) N) (h : ∀ m1 : MT, (∀ k : Nat, k ≠ 100 → k ≠ 101 → k ≠ 102 → (k < 125 ∨ 130 < k) → m1 k = m k) → m1 125 9 = N → (∀ p : Int, 0 ≤ p → p < N → m1 130 p.toNat = m 133 p.toNat) → (∀ j : Nat, j ≠ 4 → j ≠ 5 → j ≠ 9 → m1 125 j = m 125 j) → ((m1 125 5 = 0 ∧ LAID M (fun p => m 133 p.toNat) N (m1 126) (m1 127) (m1 128) (m1 125 4)) ∨ (m1 125 5 = 1 ∧ m1 125 4 = 20 ∧ 20 < osn M (fun p => m 133 p.toNat) N N.toNat)) → P m1) : c_Lt_lay d N m P := by
  have hN1 := hr.1
  refine v_Lt_lay ⟨by omega, ?_⟩
  have E0 : (∀ k : Nat, k ≠ 125 → k ≠ 130 → (cpm (wt (wt (wt m 125 4 0) 125 5 0) 125 9 N) 133 130 0 0 N.toNat) k = m k) := fun k k1 k2 => by rw [cpm_row _ k2, wt_row _ _ k1, wt_row _ _ k1, wt_row _ _ k1]
  have E9 : (cpm (wt (wt (wt m 125 4 0) 125 5 0) 125 9 N) 133 130 0 0 N.toNat) 125 9 = N := by rw [cpm_row _ (by decide), wt_same]
  have E4 : (cpm (wt (wt (wt m 125 4 0) 125 5 0) 125 9 N) 133 130 0 0 N.toNat) 125 4 = 0 := by rw [cpm_row _ (by decide), wt_ne _ _ (by decide), wt_ne _ _ (by decide), wt_same]
  have E5 : (cpm (wt (wt (wt m 125 4 0) 125 5 0) 125 9 N) 133 130 0 0 N.toNat) 125 5 = 0 := by rw [cpm_row _ (by decide), wt_ne _ _ (by decide), wt_same]
  have Ej : ∀ j : Nat, j ≠ 4 → j ≠ 5 → j ≠ 9 → (cpm (wt (wt (wt m 125 4 0) 125 5 0) 125 9 N) 133 130 0 0 N.toNat) 125 j = m 125 j := fun j j1 j2 j3 => by rw [cpm_row _ (by decide), wt_ne _ _ j3, wt_ne _ _ j2, wt_ne _ _ j1]
  have ER : ∀ p : Int, 0 ≤ p → p < N → (cpm (wt (wt (wt m 125 4 0) 125 5 0) 125 9 N) 133 130 0 0 N.toNat) 130 p.toNat = m 133 p.toNat := fun p p0 p1 => by
    rw [cpm_at, if_pos (by omega), wt_row _ _ (by decide), wt_row _ _ (by decide), wt_row _ _ (by decide)]
    congr 1; omega
  generalize cpm (wt (wt (wt m 125 4 0) 125 5 0) 125 9 N) 133 130 0 0 N.toNat = m0 at *
  generalize hrr : (fun p : Int => m 133 p.toNat) = r at *
  have er : ∀ p : Int, r p = m 133 p.toNat := fun p => by rw [← hrr]
  have LP : ∀ p : Int, p ≤ N → 0 ≤ p → ∀ m' : MT, (∀ k : Nat, k ≠ 100 → k ≠ 101 → k ≠ 102 → (k < 125 ∨ 128 < k) → m' k = m0 k) → (∀ j : Nat, j ≠ 4 → j ≠ 5 → m' 125 j = m0 125 j) → ((m' 125 5 = 0 ∧ m' 125 4 = osn M r N p.toNat ∧ osn M r N p.toNat ≤ 20 ∧ ∀ p' : Int, 0 ≤ p' → p' < p → ∀ s : Int, 0 ≤ s → s < zr M r N p' → m' 126 (osn M r N p'.toNat + s).toNat = (sfr M r N p').2 s.toNat ∧ m' 127 (osn M r N p'.toNat + s).toNat = p' ∧ m' 128 (osn M r N p'.toNat + s).toNat = s) ∨ (m' 125 5 = 1 ∧ m' 125 4 = 20 ∧ 20 < osn M r N N.toNat)) → h_Lt_lay_29 d N p m' P := by
    refine upto _ (fun p hp ih p0 m' F1 F2 F3 => ?_)
    have G : ∀ m2 : MT, c_S_raise (d - 1) (ra r p) (r p) (rb r N p) m' (fun m1 => c_Lt_append (d - 1) p m1 (fun m2 => h_Lt_lay_29 d N (p + 1) m2 P)) ∨ ¬ p < N := by
      intro _
      by_cases w : p < N
      · refine Or.inl ?_
        have rM' : ∀ k : Nat, k < 19 ∨ (134 < k ∧ k < 152) ∨ (152 < k ∧ k < 158) → m' k = M k := fun k hk => by rw [F1 k (by omega) (by omega) (by omega) (by omega), E0 k (by omega) (by omega)]; exact rM k hk
        have H' : HX m' fr kn n := HX_f H rM' (by rw [F1 134 (by decide) (by decide) (by decide) (by decide), E0 134 (by decide) (by decide)]; exact e15)
        have V := RV_vs hr p0 w
        have e135 : m' 135 0 = M 135 0 := by rw [rM' 135 (by omega)]
        refine s_S_raise (by omega) H'.2.1 H'.1.2.1.2 H'.2.2.2.2.2.1 (by rw [e135]; exact V.1) (by rw [e135]; exact V.2.1) (by rw [e135]; exact V.2.2) (fun m1 C1 S1 e1 => ?_)
        have EQ : EQV (sfr M r N p) (sur m1) := by
          rw [e1]
          exact SF_alike H V.2.1 (rM' 3 (by omega)) (rM' 4 (by omega)) (rM' 10 (by omega)) (rM' 11 (by omega)) (rM' 12 (by omega)) (rM' 13 (by omega)) (rM' 135 (by omega))
        have ez : m1 100 4 = zr M r N p := EQ.1.symm
        have zb := zr_in H hr p0 w
        have es := osn_s M r N p p0
        have o0 := osn_0 H hr p0 (by omega)
        have om := osn_mono H hr (p := p + 1) (p' := N) (by omega) (by omega) (by omega)
        have cO : m1 125 = m' 125 := C1.1 125 (by decide) (by decide) (by decide)
        have cS : m1 126 = m' 126 := C1.1 126 (by decide) (by decide) (by decide)
        have cL : m1 127 = m' 127 := C1.1 127 (by decide) (by decide) (by decide)
        have cU : m1 128 = m' 128 := C1.1 128 (by decide) (by decide) (by decide)
        have NXT : ∀ m2 : MT, (∀ k : Nat, k ≠ 125 → k ≠ 126 → k ≠ 127 → k ≠ 128 → m2 k = m1 k) → ∀ k : Nat, k ≠ 100 → k ≠ 101 → k ≠ 102 → (k < 125 ∨ 128 < k) → m2 k = m0 k := fun m2 g k k1 k2 k3 k4 => by rw [g k (by omega) (by omega) (by omega) (by omega), C1.1 k k1 k2 k3]; exact F1 k k1 k2 k3 k4
        rcases F3 with ⟨f5, f4, f20, fl⟩ | ⟨f5, f4, f20⟩
        · refine s_Lt_append (z0 := osn M r N p.toNat) S1 (by rw [cO]; exact f4) ⟨o0, f20⟩ (fun w2 m2 g1 g2 g3 g4 g5 => ?_) (fun w2 m2 g1 g2 g3 g4 => ?_)
          · refine ih w (by omega) m2 (NXT m2 g1) (fun j j1 j2 => by rw [g2 j j1, cO]; exact F2 j j1 j2) (Or.inl ⟨by rw [g2 5 (by decide), cO]; exact f5, by rw [g3, ez, es], by omega, fun p' q0 q1 s s0 s1 => ?_⟩)
            by_cases c : p' = p
            · subst c
              obtain ⟨x1, x2, x3⟩ := g4 s s0 (by omega)
              refine ⟨?_, x2, x3⟩
              rw [x1]
              exact (EQ.2 s s0 s1).symm
            · have es' := osn_s M r N p' q0
              have om' := osn_mono H hr (p := p' + 1) (p' := p) (by omega) (by omega) (by omega)
              have o0' := osn_0 H hr q0 (by omega)
              obtain ⟨x1, x2, x3⟩ := g5 (osn M r N p'.toNat + s).toNat (by omega)
              rw [x1, x2, x3, cS, cL, cU]
              exact fl p' q0 (by omega) s s0 s1
          · exact ih w (by omega) m2 (NXT m2 g1) (fun j j1 j2 => by rw [g2 j j1 j2, cO]; exact F2 j j1 j2) (Or.inr ⟨g4, g3, by omega⟩)
        · refine s_Lt_append (z0 := 20) S1 (by rw [cO]; exact f4) (by omega) (fun w2 => by omega) (fun w2 m2 g1 g2 g3 g4 => ?_)
          exact ih w (by omega) m2 (NXT m2 g1) (fun j j1 j2 => by rw [g2 j j1 j2, cO]; exact F2 j j1 j2) (Or.inr ⟨g4, g3, f20⟩)
      · exact Or.inr w
    have rw' : ∀ q : Int, 0 ≤ q → q < N → m' 130 q.toNat = r q := fun q q0 q1 => by rw [F1 130 (by decide) (by decide) (by decide) (by decide), ER q q0 q1, er]
    refine v_Lt_lay_29 ⟨fun w => ?_, fun w => ?_⟩
    · have e : p = N := by omega
      subst e
      refine h m' (fun k k1 k2 k3 k4 => by rw [F1 k k1 k2 k3 (by omega)]; exact E0 k (by omega) (by omega)) (by rw [F2 9 (by decide) (by decide)]; exact E9) (fun q q0 q1 => by rw [rw' q q0 q1, er]) (fun j j1 j2 j3 => by rw [F2 j j1 j2]; exact Ej j j1 j2 j3) ?_
      rcases F3 with ⟨f5, f4, f20, fl⟩ | f
      · exact Or.inl ⟨f5, f4, by omega, fl⟩
      · exact Or.inr f
    · have G' : c_S_raise (d - 1) (ra r p) (r p) (rb r N p) m' (fun m1 => c_Lt_append (d - 1) p m1 (fun m2 => h_Lt_lay_29 d N (p + 1) m2 P)) := (G m').resolve_right (fun q => q w)
      have G2 : c_S_raise (d - 1) (ra r p) (r p) (rb r N p) m' (fun m1 => c_Lt_append (d - 1) p m1 (fun m2 => (-2147483648 ≤ p + 1 ∧ p + 1 < 2147483648) ∧ h_Lt_lay_29 d N (p + 1) m2 P)) := by
        have : (fun m1 => c_Lt_append (d - 1) p m1 (fun m2 => (-2147483648 ≤ p + 1 ∧ p + 1 < 2147483648) ∧ h_Lt_lay_29 d N (p + 1) m2 P)) = (fun m1 => c_Lt_append (d - 1) p m1 (fun m2 => h_Lt_lay_29 d N (p + 1) m2 P)) := by
          funext m1
          congr 1
          funext m2
          exact propext ⟨fun h => h.2, fun h => ⟨by omega, h⟩⟩
        rw [this]; exact G'
      unfold ra rb at G' G2
      refine ⟨fun w2 => ⟨by omega, fun w3 => ⟨by omega, ?_⟩, fun w3 => ⟨by omega, ?_⟩⟩, fun w2 => ⟨by omega, fun w3 => ⟨by omega, ?_⟩, fun w3 => ⟨by omega, ?_⟩⟩⟩
      · rw [if_neg w2, if_neg w3, ← rw' (p - 1) (by omega) (by omega), ← rw' p p0 w, ← rw' (p + 1) (by omega) (by omega)] at G'
        exact G'
      · rw [if_neg w2, if_pos w3, ← rw' (p - 1) (by omega) (by omega), ← rw' p p0 w] at G2
        exact G2
      · rw [if_pos w2, if_neg w3, ← rw' p p0 w, ← rw' (p + 1) (by omega) (by omega)] at G'
        exact G'
      · rw [if_pos w2, if_pos w3, ← rw' p p0 w] at G2
        exact G2
  exact LP 0 (by omega) (by omega) m0 (fun _ _ _ _ _ => rfl) (fun _ _ _ => rfl) (Or.inl ⟨E5, E4, by show (0 : Int) ≤ 20; omega, fun p' q0 q1 => by omega⟩)
end LAYLt
