section LEADSC
variable {d : Nat} {M : MT} {fr kn n N z : Int} {r : Int → Int} {st pl nu t : Nat → Int}
theorem s_70 {m : MT} {P : MT → Prop} {p : Int} (hp : 0 ≤ p ∧ p < 20) (h : ∀ u : Nat → Int, (∀ j : Int, 0 ≤ j → j < 16 → u (16 * p + j).toNat = m 158 j.toNat) → (∀ i : Nat, ¬ (16 * p ≤ i ∧ (i : Int) < 16 * p + 16) → u i = m 168 i) → h_M_leads_2 d (p + 1) (sv m 168 u) P) : h_M_leads_70 d p 0 m P := by
  have L : ∀ j : Int, j ≤ 16 → 0 ≤ j → ∀ u : Nat → Int, (∀ j' : Int, 0 ≤ j' → j' < j → u (16 * p + j').toNat = m 158 j'.toNat) → (∀ i : Nat, ¬ (16 * p ≤ i ∧ (i : Int) < 16 * p + 16) → u i = m 168 i) → h_M_leads_70 d p j (sv m 168 u) P := by
    refine upto _ (fun j hj ih j0 u u1 u2 => ?_)
    refine v_M_leads_70 ⟨fun w => ⟨by omega, h u (fun j' a b => u1 j' a (by omega)) u2⟩, fun w => ⟨by omega, ?_⟩⟩
    have e : wt (sv m 168 u) 168 (16 * p + j).toNat ((sv m 168 u) 158 j.toNat) = sv m 168 (sv u (16 * p + j).toNat (m 158 j.toNat)) := by
      funext k i
      simp only [wt_r, svc]
      split <;> rfl
    rw [e]
    refine ih w (by omega) _ (fun j' a b => ?_) (fun i hi => ?_)
    · by_cases c : j' = j
      · subst c; exact sv_eq _ _ _
      · rw [svn _ _ (by omega)]; exact u1 j' a (by omega)
    · rw [svn _ _ (by omega)]; exact u2 i hi
  have := L 0 (by omega) (by omega) (m 168) (fun j' a b => by omega) (fun _ _ => rfl)
  rw [sv_self] at this
  exact this
/-- where both are led to -/
def CPL (M : MT) (r : Int → Int) (N n : Int) (t : Nat → Int) (f : Int) (s : Int × Int) (p : Int) : Prop := (s.2 = 0 ∧ ∃ P q : Int, (0 ≤ P ∧ P < N) ∧ (0 ≤ q ∧ q < zr M r N P) ∧ s.1 = osn M r N P.toNat + q ∧ p = 7 * P + q ∧ kA t n s.1 f < 268435456) ∨ ((1 ≤ s.2 ∧ s.2 ≤ 3) ∧ ∃ P j : Int, (0 ≤ P ∧ P < N - 1) ∧ (0 ≤ j ∧ j + s.2 ≤ 3) ∧ s.1 + 1 = osn M r N (P + 1).toNat ∧ p = 7 * P + (4 + j) ∧ kA t n (s.1 + 1) (f + s.2) < 268435456 ∧ (∀ k' : Int, s.2 < k' → j + k' ≤ 3 → kA t n (s.1 + 1) (f + s.2) + s.2 * M 135 3 < kA t n (s.1 + 1) (f + k') + k' * M 135 3) ∧ (∀ k' : Int, 1 ≤ k' → k' < s.2 → kA t n (s.1 + 1) (f + s.2) + s.2 * M 135 3 ≤ kA t n (s.1 + 1) (f + k') + k' * M 135 3))
/-- what comes next at a place -/
def nxP (u w : Nat → Int) (N f p x : Int) : Int := if vl u N f (bhF w N p 0) = x then bhF w N p 0 else if vl u N f (bhF w N p 1) = x then bhF w N p 1 else if vl u N f (bhF w N p 2) = x then bhF w N p 2 else if vl u N f (bhF w N p 3) = x then bhF w N p 3 else -1
theorem ar_sl {A0 A1 A2 A3 s x : Int} (ex : x = min (min (min (min 268435456 A0) (A1 + 1 * s)) (A2 + 2 * s)) (A3 + 3 * s)) (hx : x < 268435456) : (min 268435456 (min (A1 + s) (min (A2 + 2 * s) (A3 + 3 * s))) = x ↔ (A3 + 3 * s = x ∨ A2 + 2 * s = x ∨ A1 + 1 * s = x)) := by omega
theorem ar_0 {A0 A1 A2 A3 s x : Int} (ex : x = min (min (min (min 268435456 A0) (A1 + 1 * s)) (A2 + 2 * s)) (A3 + 3 * s)) (hx : x < 268435456) (h : ¬ (A3 + 3 * s = x ∨ A2 + 2 * s = x ∨ A1 + 1 * s = x)) : A0 = x := by omega
theorem ar_ge {A0 A1 A2 A3 s x : Int} (ex : x = min (min (min (min 268435456 A0) (A1 + 1 * s)) (A2 + 2 * s)) (A3 + 3 * s)) : x ≤ A1 + 1 * s ∧ x ≤ A2 + 2 * s ∧ x ≤ A3 + 3 * s := by omega
theorem CPL_last {u w : Nat → Int} {f x : Int} {s : Int × Int} {P q : Int} (T : TBB M fr kn n r N st pl nu t z) (hf : 0 ≤ f ∧ f + 1 < n) (hU : ∀ p : Int, 0 ≤ p → p < 7 * N → u (140 * (f + 1) + p).toNat = OTB M r N n t p (f + 1)) (e2 : s.2 = 0) (hP : 0 ≤ P ∧ P < N - 1) (hq : 0 ≤ q ∧ q + 1 = zr M r N P) (e1 : s.1 = osn M r N P.toNat + q) (w' : w P.toNat = zr M r N P) (x4 : x < 268435456) (c0' : ¬ kA t n (osn M r N P.toNat + q) (f + 1) = x) (lt0 : lvF pl t n z (M 135 3) (osn M r N P.toNat + q) (f + 1) < kA t n (osn M r N P.toNat + q) (f + 1)) (ex : x = lvF pl t n z (M 135 3) (osn M r N P.toNat + q) (f + 1)) : CPL M r N n t (f + 1) (nxF pl t n z (M 135 3) f s) (nxP u w N f (7 * P + q) x) := by
  obtain ⟨H, hr, hl, hR⟩ := id T
  have sl := H.1.2.2.2.1
  have I := LAID_i H hr hl hP.1 (by omega) hq.1 (by omega)
  have ne : ¬ osn M r N P.toNat + q = z - 1 := fun y => by have := (I.2.1.mp y).1; omega
  have nsm : ¬ pl (osn M r N P.toNat + q + 1).toNat = pl (osn M r N P.toNat + q).toNat := fun y => by have := (I.2.2.1 ne).mp y; omega
  have nz : s.1 < z - 1 := by omega
  obtain ⟨⟨b0, b2, b3⟩, v0, v1, v2, v3⟩ := V_last (w := w) H hr hU hP hq w'
  have ei := I.2.2.2 (by omega)
  have z5 := zr_in H hr (p := P + 1) (by omega) (by omega)
  have LV : lvF pl t n z (M 135 3) (osn M r N P.toNat + q) (f + 1) = min (min (min (min 268435456 (kA t n (osn M r N (P + 1).toNat) (f + 1))) (kA t n (osn M r N (P + 1).toNat) (f + 1 + 1) + 1 * M 135 3)) (kA t n (osn M r N (P + 1).toNat) (f + 1 + 2) + 2 * M 135 3)) (kA t n (osn M r N (P + 1).toNat) (f + 1 + 3) + 3 * M 135 3) := by unfold lvF; rw [if_neg ne, if_neg nsm, ei]
  have lt1 : s.1 < z - 1 ∧ lvF pl t n z (M 135 3) s.1 (f + 1) < kA t n s.1 (f + 1) := by rw [e1] at nz ⊢; exact ⟨nz, lt0⟩
  have mo : mostF pl t n z (M 135 3) s.1 (f + 1) = if kA t n (osn M r N (P + 1).toNat) (f + 1 + 3) + 3 * M 135 3 = x then 3 else if kA t n (osn M r N (P + 1).toNat) (f + 1 + 2) + 2 * M 135 3 = x then 2 else if kA t n (osn M r N (P + 1).toNat) (f + 1 + 1) + 1 * M 135 3 = x then 1 else 0 := by
    unfold mostF; rw [e1, if_pos (Or.inr nsm), ei, ← ex]
  have es : s.1 + 1 = osn M r N (P + 1).toNat := by omega
  rw [LV] at ex
  have S0 : SLD t n (M 135 3) (osn M r N (P + 1).toNat) 0 (f + 1) = min 268435456 (min (kA t n (osn M r N (P + 1).toNat) (f + 1 + 1) + M 135 3) (min (kA t n (osn M r N (P + 1).toNat) (f + 1 + 2) + 2 * M 135 3) (kA t n (osn M r N (P + 1).toNat) (f + 1 + 3) + 3 * M 135 3))) := SLD_0
  have SLi := ar_sl ex x4
  have A0i := ar_0 ex x4
  obtain ⟨ge1, ge2, ge3⟩ := ar_ge ex
  rw [← S0] at SLi
  clear LV ex S0 I
  have fx : ¬ (268435456 : Int) = x := by clear mo SLi A0i ge1 ge2 ge3 lt0 lt1; omega
  have s20 : ¬ 0 < s.2 := by rw [e2]; decide
  by_cases m3 : kA t n (osn M r N (P + 1).toNat) (f + 1 + 3) + 3 * M 135 3 = x ∨ kA t n (osn M r N (P + 1).toNat) (f + 1 + 2) + 2 * M 135 3 = x ∨ kA t n (osn M r N (P + 1).toNat) (f + 1 + 1) + 1 * M 135 3 = x
  · have np : nxP u w N f (7 * P + q) x = 7 * P + (4 + 0) := by
      unfold nxP
      rw [if_neg (by rw [v0]; exact c0'), if_neg (by rw [v1]; exact fx), if_pos (by rw [v2]; exact SLi.mpr m3), b2]
    have key : ∃ k : Int, mostF pl t n z (M 135 3) s.1 (f + 1) = k ∧ (k = 1 ∨ k = 2 ∨ k = 3) ∧ kA t n (osn M r N (P + 1).toNat) (f + 1 + k) + k * M 135 3 = x ∧ ∀ k' : Int, k < k' → k' ≤ 3 → x < kA t n (osn M r N (P + 1).toNat) (f + 1 + k') + k' * M 135 3 := by
      clear np SLi A0i lt0 lt1
      by_cases y3 : kA t n (osn M r N (P + 1).toNat) (f + 1 + 3) + 3 * M 135 3 = x
      · exact ⟨3, by rw [mo, if_pos y3], Or.inr (Or.inr rfl), y3, fun k' a b => absurd a (by omega)⟩
      · by_cases y2 : kA t n (osn M r N (P + 1).toNat) (f + 1 + 2) + 2 * M 135 3 = x
        · refine ⟨2, by rw [mo, if_neg y3, if_pos y2], Or.inr (Or.inl rfl), y2, fun k' a b => ?_⟩
          have : k' = 3 := by clear mo m3; omega
          subst this
          exact Int.lt_iff_le_and_ne.mpr ⟨ge3, fun e => y3 e.symm⟩
        · have y1 : kA t n (osn M r N (P + 1).toNat) (f + 1 + 1) + 1 * M 135 3 = x := by
            rcases m3 with m | m | m
            · exact absurd m y3
            · exact absurd m y2
            · exact m
          refine ⟨1, by rw [mo, if_neg y3, if_neg y2, if_pos y1], Or.inl rfl, y1, fun k' a b => ?_⟩
          have : k' = 2 ∨ k' = 3 := by clear mo m3; omega
          rcases this with rfl | rfl
          · exact Int.lt_iff_le_and_ne.mpr ⟨ge2, fun e => y2 e.symm⟩
          · exact Int.lt_iff_le_and_ne.mpr ⟨ge3, fun e => y3 e.symm⟩
    obtain ⟨k, ek, k3, ex3, lt⟩ := key
    have k0 : 0 < k := by rcases k3 with rfl | rfl | rfl <;> decide
    have nx : nxF pl t n z (M 135 3) f s = (s.1, k) := by unfold nxF; rw [if_neg s20, if_pos lt1, ek, if_pos k0]
    rw [nx, np]
    clear mo m3 SLi A0i lt0 lt1 nx np
    refine Or.inr ⟨by show 1 ≤ k ∧ k ≤ 3; omega, P, 0, hP, by show 0 ≤ (0 : Int) ∧ 0 + k ≤ 3; omega, es, rfl, ?_, ?_, ?_⟩
    · show kA t n (s.1 + 1) (f + 1 + k) < 268435456
      rw [es]
      rcases k3 with rfl | rfl | rfl <;> (clear lt ge1 ge2 ge3; omega)
    · intro k' a b
      show kA t n (s.1 + 1) (f + 1 + k) + k * M 135 3 < kA t n (s.1 + 1) (f + 1 + k') + k' * M 135 3
      have b' : 0 + k' ≤ 3 := b
      rw [es, ex3]; exact lt k' a (by clear ge1 ge2 ge3; omega)
    · intro k' a b
      show kA t n (s.1 + 1) (f + 1 + k) + k * M 135 3 ≤ kA t n (s.1 + 1) (f + 1 + k') + k' * M 135 3
      rw [es, ex3]
      have b' : k' < k := b
      have : k' = 1 ∨ k' = 2 := by clear ge1 ge2 ge3; omega
      rcases this with rfl | rfl
      · exact ge1
      · exact ge2
  · have nm : mostF pl t n z (M 135 3) s.1 (f + 1) = 0 := by rw [mo, if_neg (fun y => m3 (Or.inl y)), if_neg (fun y => m3 (Or.inr (Or.inl y))), if_neg (fun y => m3 (Or.inr (Or.inr y)))]
    have nx : nxF pl t n z (M 135 3) f s = (s.1 + 1, 0) := by unfold nxF; rw [if_neg s20, if_pos lt1, nm, if_neg (by decide)]
    have a0 := A0i m3
    have np : nxP u w N f (7 * P + q) x = 7 * (P + 1) + 0 := by
      unfold nxP
      rw [if_neg (by rw [v0]; exact c0'), if_neg (by rw [v1]; exact fx), if_neg (by rw [v2]; exact fun y => m3 (SLi.mp y)), if_pos (by rw [v3]; exact a0), b3]
    rw [nx, np]
    clear mo m3 SLi A0i lt0 lt1 nx np nm
    exact Or.inl ⟨rfl, P + 1, 0, by omega, by omega, by show s.1 + 1 = _; omega, rfl, by show kA t n (s.1 + 1) (f + 1) < 268435456; rw [es, a0]; exact x4⟩
theorem CPL_st {u w : Nat → Int} {f : Int} {s : Int × Int} {P q : Int} (T : TBB M fr kn n r N st pl nu t z) (hw : ∀ p : Int, 0 ≤ p → p < N → w p.toNat = zr M r N p) (hf : 0 ≤ f ∧ f + 1 < n) (hU : ∀ p : Int, 0 ≤ p → p < 7 * N → u (140 * (f + 1) + p).toNat = OTB M r N n t p (f + 1)) (e2 : s.2 = 0) (hP : 0 ≤ P ∧ P < N) (hq : 0 ≤ q ∧ q < zr M r N P) (e1 : s.1 = osn M r N P.toNat + q) (hk : kA t n s.1 f < 268435456) : tt4 u w N f (7 * P + q) < 268435456 ∧ kA t n s.1 f = tt4 u w N f (7 * P + q) + krw M fr kn r N P f q ∧ CPL M r N n t (f + 1) (nxF pl t n z (M 135 3) f s) (nxP u w N f (7 * P + q) (tt4 u w N f (7 * P + q))) := by
  obtain ⟨H, hr, hl, hR⟩ := id T
  have sl := H.1.2.2.2.1
  have hN := hr.1
  have I := LAID_i H hr hl hP.1 hP.2 hq.1 hq.2
  have kb := krw_in H hr hP.1 hP.2 (f := f) hq
  have R := TBB_r T hP hq (f := f) (by omega)
  have V := tt4_lv (u := u) (w := w) T hU hP hq (hw P hP.1 hP.2) hf
  have k0 := TBB_b T I.1.1 I.1.2 (g := f + 1) (by omega)
  rw [← V] at R
  rw [e1] at hk
  have t4 : tt4 u w N f (7 * P + q) < 268435456 := by omega
  have k1 : kA t n s.1 f = tt4 u w N f (7 * P + q) + krw M fr kn r N P f q := by
    have b := TBB_b T I.1.1 I.1.2 (g := f) (by omega)
    rw [e1]; omega
  refine ⟨t4, k1, ?_⟩
  generalize hx : tt4 u w N f (7 * P + q) = x at *
  have w' := hw P hP.1 hP.2
  -- stays
  by_cases c0 : kA t n (osn M r N P.toNat + q) (f + 1) ≤ lvF pl t n z (M 135 3) (osn M r N P.toNat + q) (f + 1)
  · have ex : x = kA t n (osn M r N P.toNat + q) (f + 1) := by omega
    have nx : nxF pl t n z (M 135 3) f s = (s.1, 0) := by unfold nxF; rw [if_neg (by omega), if_neg (by rw [e1]; omega)]
    have np : nxP u w N f (7 * P + q) x = 7 * P + q := by
      unfold nxP
      by_cases c : q + 1 < zr M r N P
      · obtain ⟨⟨b0, _⟩, v0, _⟩ := V_in (w := w) H hr hU hP ⟨hq.1, c⟩ w'
        rw [if_pos (by rw [v0]; exact ex.symm), b0]
      · by_cases c2 : P = N - 1
        · obtain ⟨b0, v0, _⟩ := V_end (w := w) H hr hU ⟨hP.1, c2⟩ (q := q) (by omega) w'
          rw [if_pos (by rw [v0]; exact ex.symm), b0]
        · obtain ⟨⟨b0, _⟩, v0, _⟩ := V_last (w := w) H hr hU (P := P) (by omega) (q := q) (by omega) w'
          rw [if_pos (by rw [v0]; exact ex.symm), b0]
    rw [nx, np]
    exact Or.inl ⟨rfl, P, q, hP, hq, e1, rfl, by show kA t n s.1 (f + 1) < 268435456; rw [e1]; omega⟩
  · have ex : x = lvF pl t n z (M 135 3) (osn M r N P.toNat + q) (f + 1) := by omega
    have c0' : ¬ kA t n (osn M r N P.toNat + q) (f + 1) = x := by omega
    by_cases c : q + 1 < zr M r N P
    · have ne : ¬ osn M r N P.toNat + q = z - 1 := fun y => by have := (I.2.1.mp y).2; omega
      have sm := (I.2.2.1 ne).mpr (by omega)
      obtain ⟨⟨b0, b1⟩, v0, v1, _⟩ := V_in (w := w) H hr hU hP ⟨hq.1, c⟩ w'
      have exl : x = kA t n (osn M r N P.toNat + q + 1) (f + 1) := by
        rw [ex]; unfold lvF; rw [if_neg ne, if_pos sm]
        have : lvF pl t n z (M 135 3) (osn M r N P.toNat + q) (f + 1) = min 268435456 (kA t n (osn M r N P.toNat + q + 1) (f + 1)) := by unfold lvF; rw [if_neg ne, if_pos sm]
        omega
      have mo : mostF pl t n z (M 135 3) s.1 (f + 1) = 0 := by
        unfold mostF; rw [e1, if_neg (by rintro (y | y); exact ne y; exact y sm)]
      have nx : nxF pl t n z (M 135 3) f s = (s.1 + 1, 0) := by unfold nxF; rw [if_neg (by omega), if_pos (by rw [e1]; omega), if_neg (by omega)]
      have np : nxP u w N f (7 * P + q) x = 7 * P + (q + 1) := by
        unfold nxP
        rw [if_neg (by rw [v0]; exact c0'), if_pos (by rw [v1]; exact exl.symm), b1]
      rw [nx, np]
      exact Or.inl ⟨rfl, P, q + 1, hP, by omega, by show s.1 + 1 = _; omega, rfl, by show kA t n (s.1 + 1) (f + 1) < 268435456; rw [e1]; omega⟩
    · by_cases c2 : P = N - 1
      · exfalso
        have := (I.2.1.mpr ⟨c2, by omega⟩)
        have : lvF pl t n z (M 135 3) (osn M r N P.toNat + q) (f + 1) = 268435456 := by unfold lvF; rw [if_pos this, if_neg (by omega)]
        omega
      · exact CPL_last T hf hU e2 (by omega) (by omega) e1 w' t4 c0' (by omega) ex
theorem CPL_sl {u w : Nat → Int} {f : Int} {s : Int × Int} {P j : Int} (T : TBB M fr kn n r N st pl nu t z) (hf : 0 ≤ f ∧ f + 1 < n) (hU : ∀ p : Int, 0 ≤ p → p < 7 * N → u (140 * (f + 1) + p).toNat = OTB M r N n t p (f + 1)) (e2 : 1 ≤ s.2 ∧ s.2 ≤ 3) (hP : 0 ≤ P ∧ P < N - 1) (hj : 0 ≤ j ∧ j + s.2 ≤ 3) (es : s.1 + 1 = osn M r N (P + 1).toNat) (hk : kA t n (s.1 + 1) (f + s.2) < 268435456) (h1 : ∀ k' : Int, s.2 < k' → j + k' ≤ 3 → kA t n (s.1 + 1) (f + s.2) + s.2 * M 135 3 < kA t n (s.1 + 1) (f + k') + k' * M 135 3) (h2 : ∀ k' : Int, 1 ≤ k' → k' < s.2 → kA t n (s.1 + 1) (f + s.2) + s.2 * M 135 3 ≤ kA t n (s.1 + 1) (f + k') + k' * M 135 3) : tt4 u w N f (7 * P + (4 + j)) < 268435456 ∧ OTB M r N n t (7 * P + (4 + j)) f = tt4 u w N f (7 * P + (4 + j)) + M 135 3 ∧ CPL M r N n t (f + 1) (nxF pl t n z (M 135 3) f s) (nxP u w N f (7 * P + (4 + j)) (tt4 u w N f (7 * P + (4 + j)))) := by
  obtain ⟨H, hr, hl, hR⟩ := id T
  have sl := H.1.2.2.2.1
  have hN := hr.1
  have V := tt4_sl (u := u) (w := w) (P := P) (j := j) T hU (by omega) (by omega) hf
  obtain ⟨b0, b1, v0, v1, v2, v3⟩ := V_sl (w := w) H hr hU hP (j := j) (by omega)
  have z5 := zr_in H hr (p := P + 1) (by omega) (by omega)
  have J := LAID_i H hr hl (p := P + 1) (s := 0) (by omega) (by omega) (by omega) (by omega)
  rw [show osn M r N (P + 1).toNat + 0 = osn M r N (P + 1).toNat by omega] at J
  have g1 := TBB_b T J.1.1 J.1.2 (g := f + 1) (by omega)
  have g2 := TBB_b T J.1.1 J.1.2 (g := f + 2) (by omega)
  have g3 := TBB_b T J.1.1 J.1.2 (g := f + 3) (by omega)
  have f1 : f + 1 + 1 = f + 2 := by omega
  have f2 : f + 1 + 2 = f + 3 := by omega
  rw [es] at hk h1 h2
  have OL : OTB M r N n t (7 * P + (4 + j)) f = SLD t n (M 135 3) (osn M r N (P + 1).toNat) j f := OTB_l hP (by omega)
  generalize hx : tt4 u w N f (7 * P + (4 + j)) = x at *
  have fin : OTB M r N n t (7 * P + (4 + j)) f = kA t n (osn M r N (P + 1).toNat) (f + s.2) + s.2 * M 135 3 := by
    rw [OL]
    have s2 : s.2 = 1 ∨ s.2 = 2 ∨ s.2 = 3 := by omega
    have j2 : j = 0 ∨ j = 1 ∨ j = 2 := by omega
    rcases s2 with s2 | s2 | s2 <;> rw [s2] at hk h1 h2 hj ⊢ <;> rcases j2 with rfl | rfl | rfl <;> (try omega)
    · have a2 := h1 2 (by omega) (by omega); have a3 := h1 3 (by omega) (by omega); rw [SLD_0]; omega
    · have a2 := h1 2 (by omega) (by omega); rw [SLD_1]; omega
    · rw [SLD_2]; omega
    · have a1 := h2 1 (by omega) (by omega); have a3 := h1 3 (by omega) (by omega); rw [SLD_0]; omega
    · have a1 := h2 1 (by omega) (by omega); rw [SLD_1]; omega
    · have a1 := h2 1 (by omega) (by omega); have a2 := h2 2 (by omega) (by omega); rw [SLD_0]; omega
  have kf : kA t n (osn M r N (P + 1).toNat) (f + s.2) ≤ 64000 ∧ 0 ≤ kA t n (osn M r N (P + 1).toNat) (f + s.2) := by
    have := TBB_b T J.1.1 J.1.2 (g := f + s.2) (by omega)
    omega
  have mm := mul_in (x := s.2) (y := M 135 3) (X := 3) (Y := 1000) (by omega) (by omega)
  have x4 : x < 268435456 := by
    by_cases c : x < 268435456
    · exact c
    · rw [if_neg c] at V; omega
  rw [if_pos x4] at V
  refine ⟨x4, V, ?_⟩
  have xv : x = kA t n (osn M r N (P + 1).toNat) (f + s.2) + s.2 * M 135 3 - M 135 3 := by omega
  by_cases c1 : s.2 = 1
  · rw [c1] at xv h1
    have nx : nxF pl t n z (M 135 3) f s = (s.1 + 1, 0) := by unfold nxF; rw [if_pos (by omega), if_neg (by omega)]
    have np : nxP u w N f (7 * P + (4 + j)) x = 7 * (P + 1) + 0 := by
      unfold nxP
      rw [if_neg (by
        rw [v0]
        have j2 : j = 0 ∨ j = 1 ∨ j = 2 := by omega
        rcases j2 with rfl | rfl | rfl
        · have a2 := h1 2 (by omega) (by omega); have a3 := h1 3 (by omega) (by omega); rw [if_pos (by omega), show (0 + 1 : Int) = 1 from rfl, SLD_1, f1, f2]; omega
        · have a2 := h1 2 (by omega) (by omega); rw [if_pos (by omega), show (1 + 1 : Int) = 2 from rfl, SLD_2, f1]; omega
        · rw [if_neg (by omega)]; omega), if_pos (by rw [v1]; omega), b1]
    rw [nx, np]
    exact Or.inl ⟨rfl, P + 1, 0, by omega, by omega, by show s.1 + 1 = _; omega, rfl, by show kA t n (s.1 + 1) (f + 1) < 268435456; rw [es]; rw [c1] at hk; exact hk⟩
  · have nx : nxF pl t n z (M 135 3) f s = (s.1, s.2 - 1) := by unfold nxF; rw [if_pos (by omega), if_pos (by omega)]
    have np : nxP u w N f (7 * P + (4 + j)) x = 7 * P + (4 + (j + 1)) := by
      unfold nxP
      rw [if_pos (by
        rw [v0, if_pos (by omega)]
        have s2 : s.2 = 2 ∨ s.2 = 3 := by omega
        have j2 : j = 0 ∨ j = 1 := by omega
        rcases s2 with s2 | s2 <;> rw [s2] at hk h1 h2 hj xv kf <;> rcases j2 with rfl | rfl <;> (try omega)
        · have a3 := h1 3 (by omega) (by omega); rw [show (0 + 1 : Int) = 1 from rfl, SLD_1, f1, f2]; omega
        · rw [show (1 + 1 : Int) = 2 from rfl, SLD_2, f1]; omega
        · have a2 := h2 2 (by omega) (by omega); rw [show (0 + 1 : Int) = 1 from rfl, SLD_1, f1, f2]; omega), b0 (by omega)]
    rw [nx, np]
    have ef : f + 1 + (s.2 - 1) = f + s.2 := by omega
    have em : (s.2 - 1) * M 135 3 = s.2 * M 135 3 - M 135 3 := by rw [Int.sub_mul, Int.one_mul]
    refine Or.inr ⟨by show 1 ≤ s.2 - 1 ∧ s.2 - 1 ≤ 3; omega, P, j + 1, hP, by show 0 ≤ j + 1 ∧ j + 1 + (s.2 - 1) ≤ 3; omega, es, rfl, ?_, ?_, ?_⟩
    · show kA t n (s.1 + 1) (f + 1 + (s.2 - 1)) < 268435456
      rw [ef, es]; exact hk
    · intro k' a b
      show kA t n (s.1 + 1) (f + 1 + (s.2 - 1)) + (s.2 - 1) * M 135 3 < kA t n (s.1 + 1) (f + 1 + k') + k' * M 135 3
      have a' : s.2 - 1 < k' := a
      rw [ef, es, em]
      have := h1 (k' + 1) (by omega) (by omega)
      rw [show f + (k' + 1) = f + 1 + k' by omega, Int.add_mul, Int.one_mul] at this
      omega
    · intro k' a b
      show kA t n (s.1 + 1) (f + 1 + (s.2 - 1)) + (s.2 - 1) * M 135 3 ≤ kA t n (s.1 + 1) (f + 1 + k') + k' * M 135 3
      have b' : k' < s.2 - 1 := b
      rw [ef, es, em]
      have := h2 (k' + 1) (by omega) (by omega)
      rw [show f + (k' + 1) = f + 1 + k' by omega, Int.add_mul, Int.one_mul] at this
      omega
end LEADSC
