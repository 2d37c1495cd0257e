section LEADSC
variable {d : Nat} {M : MT} {fr kn n N z : Int} {r : Int → Int} {st pl nu t : Nat → Int}
theorem s_70 {m : MT} {P : MT → Prop} {p : Int} (hp : 0 ≤ p ∧ p < 20) (h : ∀ u : Nat → Int, (∀ j : Int, 0 ≤ j → j < 16 → u (16 * p + j).toNat = m 158 j.toNat) → (∀ i : Nat, ¬ (16 * p ≤ i ∧ (i : Int) < 16 * p + 16) → u i = m 168 i) → h_M_leads_2 d (p + 1) (sv m 168 u) P) : h_M_leads_70 d p 0 m P := by
  have L : ∀ j : Int, j ≤ 16 → 0 ≤ j → ∀ u : Nat → Int, (∀ j' : Int, 0 ≤ j' → j' < j → u (16 * p + j').toNat = m 158 j'.toNat) → (∀ i : Nat, ¬ (16 * p ≤ i ∧ (i : Int) < 16 * p + 16) → u i = m 168 i) → h_M_leads_70 d p j (sv m 168 u) P := by
    refine upto _ (fun j hj ih j0 u u1 u2 => ?_)
    refine v_M_leads_70 ⟨fun w => ⟨by omega, h u (fun j' a b => u1 j' a (by omega)) u2⟩, fun w => ⟨by omega, ?_⟩⟩
    have e : wt (sv m 168 u) 168 (16 * p + j).toNat ((sv m 168 u) 158 j.toNat) = sv m 168 (sv u (16 * p + j).toNat (m 158 j.toNat)) := by
      funext k i
      simp only [wt_r, svc]
      split <;> rfl
    rw [e]
    refine ih w (by omega) _ (fun j' a b => ?_) (fun i hi => ?_)
    · by_cases c : j' = j
      · subst c; exact sv_eq _ _ _
      · rw [svn _ _ (by omega)]; exact u1 j' a (by omega)
    · rw [svn _ _ (by omega)]; exact u2 i hi
  have := L 0 (by omega) (by omega) (m 168) (fun j' a b => by omega) (fun _ _ => rfl)
  rw [sv_self] at this
  exact this
/-- where both are led to -/
def CPL (M : MT) (r : Int → Int) (N n : Int) (t : Nat → Int) (f : Int) (s : Int × Int) (p : Int) : Prop := (s.2 = 0 ∧ ∃ P q : Int, (0 ≤ P ∧ P < N) ∧ (0 ≤ q ∧ q < zr M r N P) ∧ s.1 = osn M r N P.toNat + q ∧ p = 7 * P + q ∧ kA t n s.1 f < 268435456) ∨ ((1 ≤ s.2 ∧ s.2 ≤ 3) ∧ ∃ P j : Int, (0 ≤ P ∧ P < N - 1) ∧ (0 ≤ j ∧ j + s.2 ≤ 3) ∧ s.1 + 1 = osn M r N (P + 1).toNat ∧ p = 7 * P + (4 + j) ∧ kA t n (s.1 + 1) (f + s.2) < 268435456 ∧ (∀ k' : Int, s.2 < k' → j + k' ≤ 3 → kA t n (s.1 + 1) (f + s.2) + s.2 * M 135 3 < kA t n (s.1 + 1) (f + k') + k' * M 135 3) ∧ (∀ k' : Int, 1 ≤ k' → k' < s.2 → kA t n (s.1 + 1) (f + s.2) + s.2 * M 135 3 ≤ kA t n (s.1 + 1) (f + k') + k' * M 135 3))
/-- what comes next at a place -/
def nxP (u w : Nat → Int) (N f p x : Int) : Int := if vl u N f (bhF w N p 0) = x then bhF w N p 0 else if vl u N f (bhF w N p 1) = x then bhF w N p 1 else if vl u N f (bhF w N p 2) = x then bhF w N p 2 else if vl u N f (bhF w N p 3) = x then bhF w N p 3 else -1
theorem CPL_st {u w : Nat → Int} {f : Int} {s : Int × Int} {P q : Int} (T : TBB M fr kn n r N st pl nu t z) (hw : ∀ p : Int, 0 ≤ p → p < N → w p.toNat = zr M r N p) (hf : 0 ≤ f ∧ f + 1 < n) (hU : ∀ p : Int, 0 ≤ p → p < 7 * N → u (140 * (f + 1) + p).toNat = OTB M r N n t p (f + 1)) (e2 : s.2 = 0) (hP : 0 ≤ P ∧ P < N) (hq : 0 ≤ q ∧ q < zr M r N P) (e1 : s.1 = osn M r N P.toNat + q) (hk : kA t n s.1 f < 268435456) : tt4 u w N f (7 * P + q) < 268435456 ∧ kA t n s.1 f = tt4 u w N f (7 * P + q) + krw M fr kn r N P f q ∧ CPL M r N n t (f + 1) (nxF pl t n z (M 135 3) f s) (nxP u w N f (7 * P + q) (tt4 u w N f (7 * P + q))) := by
  obtain ⟨H, hr, hl, hR⟩ := id T
  have sl := H.1.2.2.2.1
  have hN := hr.1
  have I := LAID_i H hr hl hP.1 hP.2 hq.1 hq.2
  have kb := krw_in H hr hP.1 hP.2 (f := f) hq
  have R := TBB_r T hP hq (f := f) (by omega)
  have V := tt4_lv (u := u) (w := w) T hU hP hq (hw P hP.1 hP.2) hf
  have k0 := TBB_b T I.1.1 I.1.2 (g := f + 1) (by omega)
  rw [← V] at R
  rw [e1] at hk
  have t4 : tt4 u w N f (7 * P + q) < 268435456 := by omega
  have k1 : kA t n s.1 f = tt4 u w N f (7 * P + q) + krw M fr kn r N P f q := by
    have b := TBB_b T I.1.1 I.1.2 (g := f) (by omega)
    rw [e1]; omega
  refine ⟨t4, k1, ?_⟩
  generalize hx : tt4 u w N f (7 * P + q) = x at *
  have w' := hw P hP.1 hP.2
  -- stays
  by_cases c0 : kA t n (osn M r N P.toNat + q) (f + 1) ≤ lvF pl t n z (M 135 3) (osn M r N P.toNat + q) (f + 1)
  · have ex : x = kA t n (osn M r N P.toNat + q) (f + 1) := by omega
    have nx : nxF pl t n z (M 135 3) f s = (s.1, 0) := by unfold nxF; rw [if_neg (by omega), if_neg (by rw [e1]; omega)]
    have np : nxP u w N f (7 * P + q) x = 7 * P + q := by
      unfold nxP
      by_cases c : q + 1 < zr M r N P
      · obtain ⟨⟨b0, _⟩, v0, _⟩ := V_in (w := w) H hr hU hP ⟨hq.1, c⟩ w'
        rw [if_pos (by rw [v0]; exact ex.symm), b0]
      · by_cases c2 : P = N - 1
        · obtain ⟨b0, v0, _⟩ := V_end (w := w) H hr hU ⟨hP.1, c2⟩ (q := q) (by omega) w'
          rw [if_pos (by rw [v0]; exact ex.symm), b0]
        · obtain ⟨⟨b0, _⟩, v0, _⟩ := V_last (w := w) H hr hU (P := P) (by omega) (q := q) (by omega) w'
          rw [if_pos (by rw [v0]; exact ex.symm), b0]
    rw [nx, np]
    exact Or.inl ⟨rfl, P, q, hP, hq, e1, rfl, by show kA t n s.1 (f + 1) < 268435456; rw [e1]; omega⟩
  · have ex : x = lvF pl t n z (M 135 3) (osn M r N P.toNat + q) (f + 1) := by omega
    have c0' : ¬ kA t n (osn M r N P.toNat + q) (f + 1) = x := by omega
    by_cases c : q + 1 < zr M r N P
    · have ne : ¬ osn M r N P.toNat + q = z - 1 := fun y => by have := (I.2.1.mp y).2; omega
      have sm := (I.2.2.1 ne).mpr (by omega)
      obtain ⟨⟨b0, b1⟩, v0, v1, _⟩ := V_in (w := w) H hr hU hP ⟨hq.1, c⟩ w'
      have exl : x = kA t n (osn M r N P.toNat + q + 1) (f + 1) := by
        rw [ex]; unfold lvF; rw [if_neg ne, if_pos sm]
        have : lvF pl t n z (M 135 3) (osn M r N P.toNat + q) (f + 1) = min 268435456 (kA t n (osn M r N P.toNat + q + 1) (f + 1)) := by unfold lvF; rw [if_neg ne, if_pos sm]
        omega
      have mo : mostF pl t n z (M 135 3) s.1 (f + 1) = 0 := by
        unfold mostF; rw [e1, if_neg (by rintro (y | y); exact ne y; exact y sm)]
      have nx : nxF pl t n z (M 135 3) f s = (s.1 + 1, 0) := by unfold nxF; rw [if_neg (by omega), if_pos (by rw [e1]; omega), if_neg (by omega)]
      have np : nxP u w N f (7 * P + q) x = 7 * P + (q + 1) := by
        unfold nxP
        rw [if_neg (by rw [v0]; exact c0'), if_pos (by rw [v1]; exact exl.symm), b1]
      rw [nx, np]
      exact Or.inl ⟨rfl, P, q + 1, hP, by omega, by show s.1 + 1 = _; omega, rfl, by show kA t n (s.1 + 1) (f + 1) < 268435456; rw [e1]; omega⟩
    · by_cases c2 : P = N - 1
      · exfalso
        have := (I.2.1.mpr ⟨c2, by omega⟩)
        have : lvF pl t n z (M 135 3) (osn M r N P.toNat + q) (f + 1) = 268435456 := by unfold lvF; rw [if_pos this, if_neg (by omega)]
        omega
      · have ne : ¬ osn M r N P.toNat + q = z - 1 := fun y => c2 (I.2.1.mp y).1
        have nsm : ¬ pl (osn M r N P.toNat + q + 1).toNat = pl (osn M r N P.toNat + q).toNat := fun y => by have := (I.2.2.1 ne).mp y; omega
        obtain ⟨⟨b0, b2, b3⟩, v0, v1, v2, v3⟩ := V_last (w := w) H hr hU (P := P) (by omega) (q := q) (by omega) w'
        have ei := I.2.2.2 (by omega)
        have z5 := zr_in H hr (p := P + 1) (by omega) (by omega)
        have J := LAID_i H hr hl (p := P + 1) (s := 0) (by omega) (by omega) (by omega) (by omega)
        rw [show osn M r N (P + 1).toNat + 0 = osn M r N (P + 1).toNat by omega] at J
        have g0 := TBB_b T J.1.1 J.1.2 (g := f + 1) (by omega)
        have g1 := TBB_b T J.1.1 J.1.2 (g := f + 1 + 1) (by omega)
        have g2 := TBB_b T J.1.1 J.1.2 (g := f + 1 + 2) (by omega)
        have g3 := TBB_b T J.1.1 J.1.2 (g := f + 1 + 3) (by omega)
        have LV : lvF pl t n z (M 135 3) (osn M r N P.toNat + q) (f + 1) = min (min (min (min 268435456 (kA t n (osn M r N (P + 1).toNat) (f + 1))) (kA t n (osn M r N (P + 1).toNat) (f + 1 + 1) + 1 * M 135 3)) (kA t n (osn M r N (P + 1).toNat) (f + 1 + 2) + 2 * M 135 3)) (kA t n (osn M r N (P + 1).toNat) (f + 1 + 3) + 3 * M 135 3) := by unfold lvF; rw [if_neg ne, if_neg nsm, ei]
        have SL0 : SLD t n (M 135 3) (osn M r N (P + 1).toNat) 0 (f + 1) = min 268435456 (min (kA t n (osn M r N (P + 1).toNat) (f + 1 + 1) + M 135 3) (min (kA t n (osn M r N (P + 1).toNat) (f + 1 + 2) + 2 * M 135 3) (kA t n (osn M r N (P + 1).toNat) (f + 1 + 3) + 3 * M 135 3))) := by unfold SLD; rw [if_pos rfl]
        have mo : mostF pl t n z (M 135 3) s.1 (f + 1) = if kA t n (osn M r N (P + 1).toNat) (f + 1 + 3) + 3 * M 135 3 = x then 3 else if kA t n (osn M r N (P + 1).toNat) (f + 1 + 2) + 2 * M 135 3 = x then 2 else if kA t n (osn M r N (P + 1).toNat) (f + 1 + 1) + 1 * M 135 3 = x then 1 else 0 := by
          unfold mostF; rw [e1, if_pos (Or.inr nsm), ei, ← ex]
        have es : s.1 + 1 = osn M r N (P + 1).toNat := by omega
        rw [LV] at ex
        by_cases m3 : kA t n (osn M r N (P + 1).toNat) (f + 1 + 3) + 3 * M 135 3 = x ∨ kA t n (osn M r N (P + 1).toNat) (f + 1 + 2) + 2 * M 135 3 = x ∨ kA t n (osn M r N (P + 1).toNat) (f + 1 + 1) + 1 * M 135 3 = x
        · have np : nxP u w N f (7 * P + q) x = 7 * P + (4 + 0) := by
            unfold nxP
            rw [if_neg (by rw [v0]; exact c0'), if_neg (by rw [v1]; omega), if_pos (by rw [v2, SL0]; omega), b2]
          have key : ∃ k : Int, mostF pl t n z (M 135 3) s.1 (f + 1) = k ∧ (k = 1 ∨ k = 2 ∨ k = 3) ∧ kA t n (osn M r N (P + 1).toNat) (f + 1 + k) + k * M 135 3 = x ∧ ∀ k' : Int, k < k' → k' ≤ 3 → x < kA t n (osn M r N (P + 1).toNat) (f + 1 + k') + k' * M 135 3 := by
            by_cases y3 : kA t n (osn M r N (P + 1).toNat) (f + 1 + 3) + 3 * M 135 3 = x
            · exact ⟨3, by rw [mo, if_pos y3], by omega, y3, fun k' a b => by omega⟩
            · by_cases y2 : kA t n (osn M r N (P + 1).toNat) (f + 1 + 2) + 2 * M 135 3 = x
              · refine ⟨2, by rw [mo, if_neg y3, if_pos y2], by omega, y2, fun k' a b => ?_⟩
                have : k' = 3 := by omega
                subst this; omega
              · have y1 : kA t n (osn M r N (P + 1).toNat) (f + 1 + 1) + 1 * M 135 3 = x := by omega
                refine ⟨1, by rw [mo, if_neg y3, if_neg y2, if_pos y1], by omega, y1, fun k' a b => ?_⟩
                have : k' = 2 ∨ k' = 3 := by omega
                rcases this with rfl | rfl <;> omega
          obtain ⟨k, ek, k3, ex3, lt⟩ := key
          have nx : nxF pl t n z (M 135 3) f s = (s.1, k) := by unfold nxF; rw [if_neg (by omega), if_pos (by rw [e1]; omega), ek, if_pos (by omega)]
          rw [nx, np]
          refine Or.inr ⟨by show 1 ≤ k ∧ k ≤ 3; omega, P, 0, by omega, by show 0 ≤ (0 : Int) ∧ 0 + k ≤ 3; omega, es, rfl, ?_, ?_, ?_⟩
          · show kA t n (s.1 + 1) (f + 1 + k) < 268435456
            rw [es]
            rcases k3 with rfl | rfl | rfl <;> omega
          · intro k' a b
            show kA t n (s.1 + 1) (f + 1 + k) + k * M 135 3 < kA t n (s.1 + 1) (f + 1 + k') + k' * M 135 3
            rw [es, ex3]; exact lt k' a (by omega)
          · intro k' a b
            show kA t n (s.1 + 1) (f + 1 + k) + k * M 135 3 ≤ kA t n (s.1 + 1) (f + 1 + k') + k' * M 135 3
            rw [es, ex3]
            have b' : k' < k := b
            have : k' = 1 ∨ k' = 2 := by omega
            rcases this with rfl | rfl <;> omega
        · have nx : nxF pl t n z (M 135 3) f s = (s.1 + 1, 0) := by unfold nxF; rw [if_neg (by omega), if_pos (by rw [e1]; omega), mo, if_neg (by omega), if_neg (by omega), if_neg (by omega), if_neg (by omega)]
          have np : nxP u w N f (7 * P + q) x = 7 * (P + 1) + 0 := by
            unfold nxP
            rw [if_neg (by rw [v0]; exact c0'), if_neg (by rw [v1]; omega), if_neg (by rw [v2, SL0]; omega), if_pos (by rw [v3]; omega), b3]
          rw [nx, np]
          exact Or.inl ⟨rfl, P + 1, 0, by omega, by omega, by show s.1 + 1 = _; omega, rfl, by show kA t n (s.1 + 1) (f + 1) < 268435456; rw [es]; omega⟩
theorem CPL_sl {u w : Nat → Int} {f : Int} {s : Int × Int} {P j : Int} (T : TBB M fr kn n r N st pl nu t z) (hf : 0 ≤ f ∧ f + 1 < n) (hU : ∀ p : Int, 0 ≤ p → p < 7 * N → u (140 * (f + 1) + p).toNat = OTB M r N n t p (f + 1)) (e2 : 1 ≤ s.2 ∧ s.2 ≤ 3) (hP : 0 ≤ P ∧ P < N - 1) (hj : 0 ≤ j ∧ j + s.2 ≤ 3) (es : s.1 + 1 = osn M r N (P + 1).toNat) (hk : kA t n (s.1 + 1) (f + s.2) < 268435456) (h1 : ∀ k' : Int, s.2 < k' → j + k' ≤ 3 → kA t n (s.1 + 1) (f + s.2) + s.2 * M 135 3 < kA t n (s.1 + 1) (f + k') + k' * M 135 3) (h2 : ∀ k' : Int, 1 ≤ k' → k' < s.2 → kA t n (s.1 + 1) (f + s.2) + s.2 * M 135 3 ≤ kA t n (s.1 + 1) (f + k') + k' * M 135 3) : tt4 u w N f (7 * P + (4 + j)) < 268435456 ∧ OTB M r N n t (7 * P + (4 + j)) f = tt4 u w N f (7 * P + (4 + j)) + M 135 3 ∧ CPL M r N n t (f + 1) (nxF pl t n z (M 135 3) f s) (nxP u w N f (7 * P + (4 + j)) (tt4 u w N f (7 * P + (4 + j)))) := by
  obtain ⟨H, hr, hl, hR⟩ := id T
  have sl := H.1.2.2.2.1
  have hN := hr.1
  have V := tt4_sl (u := u) (w := w) (P := P) (j := j) T hU (by omega) (by omega) hf
  obtain ⟨b0, b1, v0, v1, v2, v3⟩ := V_sl (w := w) H hr hU hP (j := j) (by omega)
  have z5 := zr_in H hr (p := P + 1) (by omega) (by omega)
  have J := LAID_i H hr hl (p := P + 1) (s := 0) (by omega) (by omega) (by omega) (by omega)
  rw [show osn M r N (P + 1).toNat + 0 = osn M r N (P + 1).toNat by omega] at J
  have g1 := TBB_b T J.1.1 J.1.2 (g := f + 1) (by omega)
  have g2 := TBB_b T J.1.1 J.1.2 (g := f + 2) (by omega)
  have g3 := TBB_b T J.1.1 J.1.2 (g := f + 3) (by omega)
  have f1 : f + 1 + 1 = f + 2 := by omega
  have f2 : f + 1 + 2 = f + 3 := by omega
  rw [es] at hk h1 h2
  have OL : OTB M r N n t (7 * P + (4 + j)) f = SLD t n (M 135 3) (osn M r N (P + 1).toNat) j f := OTB_l hP (by omega)
  generalize hx : tt4 u w N f (7 * P + (4 + j)) = x at *
  unfold SLD at OL v0
  rw [f1, f2] at v0
  have fin : OTB M r N n t (7 * P + (4 + j)) f = kA t n (osn M r N (P + 1).toNat) (f + s.2) + s.2 * M 135 3 := by
    rw [OL]
    have s2 : s.2 = 1 ∨ s.2 = 2 ∨ s.2 = 3 := by omega
    have j2 : j = 0 ∨ j = 1 ∨ j = 2 := by omega
    rcases s2 with s2 | s2 | s2 <;> rw [s2] at hk h1 h2 hj ⊢ <;> rcases j2 with rfl | rfl | rfl <;> (try omega)
    · have a2 := h1 2 (by omega) (by omega); have a3 := h1 3 (by omega) (by omega); rw [if_pos rfl]; omega
    · have a2 := h1 2 (by omega) (by omega); rw [if_neg (by omega), if_pos rfl]; omega
    · rw [if_neg (by omega), if_neg (by omega)]; omega
    · have a1 := h2 1 (by omega) (by omega); have a3 := h1 3 (by omega) (by omega); rw [if_pos rfl]; omega
    · have a1 := h2 1 (by omega) (by omega); rw [if_neg (by omega), if_pos rfl]; omega
    · have a1 := h2 1 (by omega) (by omega); have a2 := h2 2 (by omega) (by omega); rw [if_pos rfl]; omega
  have kf : kA t n (osn M r N (P + 1).toNat) (f + s.2) ≤ 64000 ∧ 0 ≤ kA t n (osn M r N (P + 1).toNat) (f + s.2) := by
    have := TBB_b T J.1.1 J.1.2 (g := f + s.2) (by omega)
    omega
  have mm := mul_in (x := s.2) (y := M 135 3) (X := 3) (Y := 1000) (by omega) (by omega)
  have x4 : x < 268435456 := by
    by_cases c : x < 268435456
    · exact c
    · rw [if_neg c] at V; omega
  rw [if_pos x4] at V
  refine ⟨x4, V, ?_⟩
  have xv : x = kA t n (osn M r N (P + 1).toNat) (f + s.2) + s.2 * M 135 3 - M 135 3 := by omega
  by_cases c1 : s.2 = 1
  · rw [c1] at xv h1
    have nx : nxF pl t n z (M 135 3) f s = (s.1 + 1, 0) := by unfold nxF; rw [if_pos (by omega), if_neg (by omega)]
    have np : nxP u w N f (7 * P + (4 + j)) x = 7 * (P + 1) + 0 := by
      unfold nxP
      rw [if_neg (by
        rw [v0]
        have j2 : j = 0 ∨ j = 1 ∨ j = 2 := by omega
        rcases j2 with rfl | rfl | rfl
        · have a2 := h1 2 (by omega) (by omega); have a3 := h1 3 (by omega) (by omega); rw [if_pos (by omega), if_neg (by omega), if_pos (by omega)]; omega
        · have a2 := h1 2 (by omega) (by omega); rw [if_pos (by omega), if_neg (by omega), if_neg (by omega)]; omega
        · rw [if_neg (by omega)]; omega), if_pos (by rw [v1]; omega), b1]
    rw [nx, np]
    exact Or.inl ⟨rfl, P + 1, 0, by omega, by omega, by show s.1 + 1 = _; omega, rfl, by show kA t n (s.1 + 1) (f + 1) < 268435456; rw [es]; rw [c1] at hk; exact hk⟩
  · have nx : nxF pl t n z (M 135 3) f s = (s.1, s.2 - 1) := by unfold nxF; rw [if_pos (by omega), if_pos (by omega)]
    have np : nxP u w N f (7 * P + (4 + j)) x = 7 * P + (4 + (j + 1)) := by
      unfold nxP
      rw [if_pos (by
        rw [v0, if_pos (by omega)]
        have s2 : s.2 = 2 ∨ s.2 = 3 := by omega
        have j2 : j = 0 ∨ j = 1 := by omega
        rcases s2 with s2 | s2 <;> rw [s2] at hk h1 h2 hj xv kf <;> rcases j2 with rfl | rfl <;> (try omega)
        · have a3 := h1 3 (by omega) (by omega); rw [if_neg (by omega), if_pos (by omega)]; omega
        · rw [if_neg (by omega), if_neg (by omega)]; omega
        · have a2 := h2 2 (by omega) (by omega); rw [if_neg (by omega), if_pos (by omega)]; omega), b0 (by omega)]
    rw [nx, np]
    have ef : f + 1 + (s.2 - 1) = f + s.2 := by omega
    have em : (s.2 - 1) * M 135 3 = s.2 * M 135 3 - M 135 3 := by rw [Int.sub_mul, Int.one_mul]
    refine Or.inr ⟨by show 1 ≤ s.2 - 1 ∧ s.2 - 1 ≤ 3; omega, P, j + 1, hP, by show 0 ≤ j + 1 ∧ j + 1 + (s.2 - 1) ≤ 3; omega, es, rfl, ?_, ?_, ?_⟩
    · show kA t n (s.1 + 1) (f + 1 + (s.2 - 1)) < 268435456
      rw [ef, es]; exact hk
    · intro k' a b
      show kA t n (s.1 + 1) (f + 1 + (s.2 - 1)) + (s.2 - 1) * M 135 3 < kA t n (s.1 + 1) (f + 1 + k') + k' * M 135 3
      have a' : s.2 - 1 < k' := a
      rw [ef, es, em]
      have := h1 (k' + 1) (by omega) (by omega)
      rw [show f + (k' + 1) = f + 1 + k' by omega, Int.add_mul, Int.one_mul] at this
      omega
    · intro k' a b
      show kA t n (s.1 + 1) (f + 1 + (s.2 - 1)) + (s.2 - 1) * M 135 3 ≤ kA t n (s.1 + 1) (f + 1 + k') + k' * M 135 3
      have b' : k' < s.2 - 1 := b
      rw [ef, es, em]
      have := h2 (k' + 1) (by omega) (by omega)
      rw [show f + (k' + 1) = f + 1 + k' by omega, Int.add_mul, Int.one_mul] at this
      omega
end LEADSC
