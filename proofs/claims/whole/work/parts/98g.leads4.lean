section LEADSD
variable {d : Nat} {M : MT} {fr kn n N z : Int} {r : Int → Int} {st pl nu t : Nat → Int}
/-- the table's loops -/
theorem s_136 {m0 : MT} {P : MT → Prop} {e : Int} (hd : 5 < d) (T : TBB M fr kn n r N st pl nu t z) (B : LDB M fr kn n r N m0) (he : e = 7 * (N - 1) + zr M r N (N - 1) - 1) (h : ∀ m1 : MT, (∀ k : Nat, k ≠ 158 → k ≠ 170 → m1 k = m0 k) → TBd M r N n t (m1 170) (fun _ _ => True) → h_M_leads_366 d e 0 0 m1 P) : h_M_leads_136 d e (n - 1) m0 P := by
  obtain ⟨H, hr, hl, hR⟩ := id T
  have hn := H.2.2.2.2.2.2
  have hN := hr.1
  have sl := H.1.2.2.2.1
  have LF : ∀ f : Int, -1 ≤ f → f < n → ∀ m' : MT, (∀ k : Nat, k ≠ 158 → k ≠ 170 → m' k = m0 k) → TBd M r N n t (m' 170) (fun f' _ => f < f') → h_M_leads_136 d e f m' P := by
    refine dnto _ (fun f hf ih f1 m' F D => ?_)
    refine v_M_leads_136 ⟨fun w => h m' F (fun f' p hf' hp _ => D f' p hf' hp (by omega)), fun w => ?_⟩
    have LP : ∀ p : Int, p ≤ 7 * N → 0 ≤ p → ∀ m' : MT, (∀ k : Nat, k ≠ 158 → k ≠ 170 → m' k = m0 k) → TBd M r N n t (m' 170) (fun f' p' => f < f' ∨ (f' = f ∧ p' < p)) → h_M_leads_142 d e f p m' P := by
      refine upto _ (fun p hp ihp p0 m' F D => ?_)
      have B' : LDB M fr kn n r N m' := LDB_f B (F 135 (by decide) (by decide)) (F 134 (by decide) (by decide)) (F 159 (by decide) (by decide)) (F 168 (by decide) (by decide)) (F 169 (by decide) (by decide))
      have e50 : m' 134 50 = N := B'.2.2.1
      have e40 : m' 134 40 = n := B'.2.1.1
      refine v_M_leads_142 ?_
      rw [e50, e40]
      refine ⟨by omega, fun w2 => ⟨by omega, ih (by omega) (by omega) m' F (fun f' p' hf' hp' hD => D f' p' hf' hp' (by omega))⟩, fun w2 => ⟨by omega, ?_⟩⟩
      -- the value is laid
      have NXT : ∀ m1 : MT, (∀ k : Nat, k ≠ 158 → m1 k = m' k) → ∀ v : Int, v = OTB M r N n t p f → h_M_leads_142 d e f (p + 1) (wt m1 170 (140 * f + p).toNat v) P := by
        intro m1 G v hv
        refine ihp w2 (by omega) _ (fun k k1 k2 => by rw [wt_row _ _ k2, G k k1]; exact F k k1 k2) (fun f' p' hf' hp' hD => ?_)
        by_cases c : f' = f ∧ p' = p
        · obtain ⟨rfl, rfl⟩ := c
          rw [wt_same]; exact hv
        · rw [wt_ne _ _ (by omega), G 170 (by decide)]
          exact D f' p' hf' hp' (by omega)
      generalize hPp : p / 7 = Q at *
      generalize hqp : p % 7 = q at *
      have ep : p = 7 * Q + q := by omega
      have hQ : 0 ≤ Q ∧ Q < N := by omega
      have hq : 0 ≤ q ∧ q < 7 := by omega
      have z4 := zr_in H hr hQ.1 hQ.2
      have ew : m' 169 Q.toNat = zr M r N Q := (B'.2.2.2 Q hQ.1 hQ.2).1
      have hw : 1 ≤ m' 169 (p / 7).toNat ∧ m' 169 (p / 7).toNat ≤ 4 := by rw [hPp, ew]; exact z4
      -- a value below FAR is told with its cost
      have T315 : ∀ x : Int, (q < 4 → q < zr M r N Q → OTB M r N n t p f = if x < 268435456 then x + krw M fr kn r N Q f q else 268435456) → (q < 4 → ¬ q < zr M r N Q → 268435456 ≤ x ∧ OTB M r N n t p f = 268435456) → (4 ≤ q → OTB M r N n t p f = if x < 268435456 then x + M 135 3 else 268435456) → (0 ≤ x ∧ x ≤ 268435456) → h_M_leads_315 d e f p x m' P := by
        intro x x1 x2 x3 xb
        refine v_M_leads_315 ⟨by omega, fun y => ⟨by omega, ?_⟩, fun y => ⟨by omega, NXT m' (fun _ _ => rfl) _ ?_⟩⟩
        · refine s_M_costAt (M := M) (fr := fr) (kn := kn) (n := n) (x := (sfr M r N Q).2 q.toNat) (by omega) H B'.1 B'.2.1 (by omega) (by omega) (fun y2 => ?_) (fun y2 u => ?_) (fun y2 => ?_)
          · rw [hqp] at y2
            have qz : q < zr M r N Q := by
              by_cases c : q < zr M r N Q
              · exact c
              · have := (x2 (by omega) c).1; omega
            refine ⟨(SOK_SF H (RV_vs hr hQ.1 hQ.2)).2 q hq.1 qz, fun j j0 j1 => ?_⟩
            rw [hPp, hqp]
            exact (B'.2.2.2 Q hQ.1 hQ.2).2 q hq.1 qz j j0 j1
          · rw [hqp] at y2
            have qz : q < zr M r N Q := by
              by_cases c : q < zr M r N Q
              · exact c
              · have := (x2 (by omega) c).1; omega
            have kb := krw_in H hr hQ.1 hQ.2 (f := f) ⟨hq.1, qz⟩
            have ek : KF (M 135) fr kn f ((sfr M r N Q).2 q.toNat) = krw M fr kn r N Q f q := rfl
            rw [ek]
            refine ⟨by omega, NXT _ (fun k k1 => sv_ne _ _ k1) _ ?_⟩
            rw [x1 (by omega) qz, if_pos y]
          · rw [hqp] at y2
            refine ⟨by omega, NXT m' (fun _ _ => rfl) _ ?_⟩
            rw [x3 (by omega), if_pos y]
        · by_cases c : q < 4
          · by_cases c2 : q < zr M r N Q
            · rw [x1 c c2, if_neg (by omega)]
            · exact (x2 c c2).2.symm
          · rw [x3 (by omega), if_neg (by omega)]
      have T181 : ∀ x : Int, (f = n - 1 → x = if p = e then 0 else 268435456) → (¬ f = n - 1 → x = 268435456) → h_M_leads_181 d e f p x m' P := by
        intro x y1 y2
        have xb : 0 ≤ x ∧ x ≤ 268435456 := by
          by_cases c : f = n - 1
          · rw [y1 c]; split <;> omega
          · rw [y2 c]; omega
        have T215 : (q < 4 → q < zr M r N Q) → h_M_leads_215 d e f p x m' P := by
          intro qz
          refine v_M_leads_215 ?_
          rw [e40]
          refine ⟨by omega, fun y3 => ?_, fun y3 => ?_⟩
          · have ef : f = n - 1 := by omega
            have yx := y1 ef
            subst ef
            refine T315 x (fun c c2 => ?_) (fun c c2 => absurd (qz c) c2) (fun c => ?_) xb
            · rw [ep, OTB_z T hQ ⟨hq.1, c2⟩, ← he, ← ep, yx]
              (repeat' split) <;> omega
            · rw [ep, show 7 * Q + q = 7 * Q + (4 + (q - 4)) by omega, OTB_zl T hQ (by omega), yx, if_neg (by
                have z6 := zr_in H hr (p := N - 1) (by omega) (by omega)
                omega)]
          · have U1 : ∀ p' : Int, 0 ≤ p' → p' < 7 * N → m' 170 (140 * (f + 1) + p').toNat = OTB M r N n t p' (f + 1) := fun p' a b => D (f + 1) p' (by omega) ⟨a, b⟩ (Or.inl (by omega))
            have nf : ¬ f = n - 1 := by omega
            rw [y2 nf]
            refine s_228 (by omega) B' hN hw (by omega) (by omega) (by omega) ?_ (by omega)
            refine s_228 (by omega) B' hN hw (by omega) (by omega) (by omega) ?_ (by omega)
            refine s_228 (by omega) B' hN hw (by omega) (by omega) (by omega) ?_ (by omega)
            refine s_228 (by omega) B' hN hw (by omega) (by omega) (by omega) ?_ (by omega)
            refine v_M_leads_228 ⟨fun _ => ?_, fun y4 => by omega⟩
            have et : min (min (min (min 268435456 (vl (m' 170) N f (bhF (m' 169) N p 0))) (vl (m' 170) N f (bhF (m' 169) N p (0 + 1)))) (vl (m' 170) N f (bhF (m' 169) N p (0 + 1 + 1)))) (vl (m' 170) N f (bhF (m' 169) N p (0 + 1 + 1 + 1))) = tt4 (m' 170) (m' 169) N f p := rfl
            rw [et]
            by_cases c : q < 4
            · have V := tt4_lv (w := m' 169) T U1 hQ ⟨hq.1, qz c⟩ ew (by omega)
              have R := TBB_r T hQ ⟨hq.1, qz c⟩ (f := f) (by omega)
              have I := LAID_i H hr hl hQ.1 hQ.2 hq.1 (qz c)
              have k0 := TBB_b T I.1.1 I.1.2 (g := f) (by omega)
              have k1 := TBB_b T I.1.1 I.1.2 (g := f + 1) (by omega)
              have kb := krw_in H hr hQ.1 hQ.2 (f := f) ⟨hq.1, qz c⟩
              rw [← V, ← OTB_s hQ.1 ⟨hq.1, qz c⟩ z4.2, ← ep] at R
              rw [← ep] at V
              have OS := OTB_s (n := n) (t := t) (f := f) hQ.1 ⟨hq.1, qz c⟩ z4.2
              rw [← ep] at OS
              have lb : lvF pl t n z (M 135 3) (osn M r N Q.toNat + q) (f + 1) = 268435456 ∨ (0 ≤ lvF pl t n z (M 135 3) (osn M r N Q.toNat + q) (f + 1) ∧ lvF pl t n z (M 135 3) (osn M r N Q.toNat + q) (f + 1) ≤ 67000) := by
                unfold lvF
                split
                · split <;> omega
                · rename_i ne
                  have i1 : osn M r N Q.toNat + q + 1 < z := by omega
                  have a0 := TBB_b T (i := osn M r N Q.toNat + q + 1) (by omega) i1 (g := f + 1) (by omega)
                  have a1 := TBB_b T (i := osn M r N Q.toNat + q + 1) (by omega) i1 (g := f + 1 + 1) (by omega)
                  have a2 := TBB_b T (i := osn M r N Q.toNat + q + 1) (by omega) i1 (g := f + 1 + 2) (by omega)
                  have a3 := TBB_b T (i := osn M r N Q.toNat + q + 1) (by omega) i1 (g := f + 1 + 3) (by omega)
                  split <;> omega
              have lo : 0 ≤ tt4 (m' 170) (m' 169) N f p := by rw [V]; omega
              have hi : tt4 (m' 170) (m' 169) N f p ≤ 268435456 := by unfold tt4; omega
              refine T315 _ (fun _ _ => ?_) (fun c1 c2 => absurd (qz c1) c2) (fun c1 => by omega) ⟨lo, hi⟩
              split <;> omega
            · have V := tt4_sl (w := m' 169) (j := q - 4) T U1 hQ (by omega) (f := f) (by omega)
              rw [show 7 * Q + (4 + (q - 4)) = p by omega] at V
              have hi : tt4 (m' 170) (m' 169) N f p ≤ 268435456 := by unfold tt4; omega
              have lo : 0 ≤ tt4 (m' 170) (m' 169) N f p := by
                have OB : 0 ≤ OTB M r N n t p f - M 135 3 ∨ OTB M r N n t p f = 268435456 := by
                  rw [ep, show 7 * Q + q = 7 * Q + (4 + (q - 4)) by omega]
                  by_cases c2 : Q = N - 1
                  · exact Or.inr (OTB_n ⟨hQ.1, c2⟩ (by omega))
                  · rw [OTB_l (by omega) (by omega)]
                    have z5 := zr_in H hr (p := Q + 1) (by omega) (by omega)
                    have J := LAID_i H hr hl (p := Q + 1) (s := 0) (by omega) (by omega) (by omega) (by omega)
                    rw [show osn M r N (Q + 1).toNat + 0 = osn M r N (Q + 1).toNat by omega] at J
                    have a1 := TBB_b T J.1.1 J.1.2 (g := f + 1) (by omega)
                    have a2 := TBB_b T J.1.1 J.1.2 (g := f + 2) (by omega)
                    have a3 := TBB_b T J.1.1 J.1.2 (g := f + 3) (by omega)
                    unfold SLD
                    (repeat' split) <;> omega
                by_cases c3 : tt4 (m' 170) (m' 169) N f p < 268435456
                · rw [if_pos c3] at V; omega
                · omega
              exact T315 _ (fun c1 _ => by omega) (fun c1 => by omega) (fun _ => V) ⟨lo, hi⟩
        refine v_M_leads_181 ?_
        rw [hPp, hqp, ew]
        refine ⟨by omega, fun c => T215 (fun c1 => by omega), fun c => ⟨by omega, fun c2 => T215 (fun _ => c2), fun c2 => ?_⟩⟩
        exact T315 268435456 (fun _ c3 => by omega) (fun _ _ => ⟨by omega, by rw [ep]; exact OTB_o hQ.1 ⟨hq.1, c⟩ c2⟩) (fun c3 => by omega) (by omega)
      exact ⟨fun c => T181 _ (fun c1 => absurd c1 c) (fun _ => rfl), fun c => ⟨fun c2 => T181 _ (fun _ => by rw [if_neg c2]) (fun c1 => absurd c c1), fun c2 => T181 _ (fun _ => by rw [if_pos c2]) (fun c1 => absurd c c1)⟩⟩
    exact LP 0 (by omega) (by omega) m' F (fun f' p' hf' hp' hD => D f' p' hf' hp' (by omega))
  exact LF (n - 1) (by omega) (by omega) m0 (fun _ _ _ => rfl) (fun f' p' hf' hp' hD => by omega)
theorem s_M_leads {m : MT} {P : MT → Prop} (hd : 18 < d) (T : TBB M fr kn n r N st pl nu t z) (hzn : z ≤ n) (rM : ∀ k : Nat, (0 < k ∧ k < 19) ∨ (134 < k ∧ k < 152) ∨ (152 < k ∧ k < 158) → m k = M k) (e15 : m 134 15 = M 134 15) (hL : LKM m (M 135) fr kn n) (e50 : m 134 50 = N) (hrow : ∀ p : Int, 0 ≤ p → p < N → m 165 p.toNat = r p) (h : ∀ m1 : MT, (∀ k : Nat, k ≠ 134 → k ≠ 152 → k ≠ 158 → (k < 166 ∨ 170 < k) → m1 k = m k) → (∀ j : Nat, j ≠ 39 → m1 134 j = m 134 j) → (∀ f : Int, 0 ≤ f → f < n → m1 166 f.toNat = pl (trF pl t n z (M 135 3) f.toNat).1.toNat ∧ m1 167 f.toNat = if 0 < (trF pl t n z (M 135 3) f.toNat).2 then -1 else nu (trF pl t n z (M 135 3) f.toNat).1.toNat) → P m1) : c_M_leads d m P := by
  obtain ⟨H, hr, hl, hR⟩ := id T
  have hn := H.2.2.2.2.2.2
  have hN := hr.1
  have sl := H.1.2.2.2.1
  -- the walk
  have WALK : ∀ m0 : MT, (∀ k : Nat, k ≠ 134 → k ≠ 152 → k ≠ 158 → k ≠ 168 → k ≠ 169 → k ≠ 170 → m0 k = m k) → (∀ j : Nat, j ≠ 39 → m0 134 j = m 134 j) → LDB M fr kn n r N m0 → TBd M r N n t (m0 170) (fun _ _ => True) → ∀ e : Int, h_M_leads_366 d e 0 0 m0 P := by
    intro m0 G1 G2 B D e
    have L : ∀ f : Int, f ≤ n → 0 ≤ f → ∀ (p : Int) (m' : MT), (∀ k : Nat, k ≠ 158 → k ≠ 166 → k ≠ 167 → m' k = m0 k) → (∀ g : Int, 0 ≤ g → g < f → m' 166 g.toNat = pl (trF pl t n z (M 135 3) g.toNat).1.toNat ∧ m' 167 g.toNat = if 0 < (trF pl t n z (M 135 3) g.toNat).2 then -1 else nu (trF pl t n z (M 135 3) g.toNat).1.toNat) → (f < n → CPL M r N n t f (trF pl t n z (M 135 3) f.toNat) p) → h_M_leads_366 d e p f m' P := by
      refine upto _ (fun f hf ih f0 p m' F1 F2 hC => ?_)
      have B' : LDB M fr kn n r N m' := LDB_f B (F1 135 (by decide) (by decide) (by decide)) (F1 134 (by decide) (by decide) (by decide)) (F1 159 (by decide) (by decide) (by decide)) (F1 168 (by decide) (by decide) (by decide)) (F1 169 (by decide) (by decide) (by decide))
      have e40 : m' 134 40 = n := B'.2.1.1
      have DONE : ∀ m1 : MT, (∀ k : Nat, k ≠ 158 → k ≠ 166 → k ≠ 167 → m1 k = m0 k) → (∀ g : Int, 0 ≤ g → g < n → m1 166 g.toNat = pl (trF pl t n z (M 135 3) g.toNat).1.toNat ∧ m1 167 g.toNat = if 0 < (trF pl t n z (M 135 3) g.toNat).2 then -1 else nu (trF pl t n z (M 135 3) g.toNat).1.toNat) → P m1 := fun m1 g1 g2 => h m1 (fun k k1 k2 k3 k4 => by rw [g1 k k3 (by omega) (by omega)]; exact G1 k k1 k2 k3 (by omega) (by omega) (by omega)) (fun j hj => by rw [g1 134 (by decide) (by decide) (by decide)]; exact G2 j hj) g2
      refine v_M_leads_366 ?_
      rw [e40]
      refine ⟨fun w => DONE m' F1 (fun g g0 g1 => F2 g g0 (by omega)), fun w => ?_⟩
      have C := hC w
      have eN : trF pl t n z (M 135 3) (f + 1).toNat = nxF pl t n z (M 135 3) f (trF pl t n z (M 135 3) f.toNat) := by
        rw [show (f + 1).toNat = f.toNat + 1 by omega]
        show nxF pl t n z (M 135 3) (f.toNat : Int) _ = _
        rw [show (f.toNat : Int) = f by omega]
      have WR : ∀ (a b : Int), a = pl (trF pl t n z (M 135 3) f.toNat).1.toNat → b = (if 0 < (trF pl t n z (M 135 3) f.toNat).2 then -1 else nu (trF pl t n z (M 135 3) f.toNat).1.toNat) → (∀ k : Nat, k ≠ 158 → k ≠ 166 → k ≠ 167 → (wt (wt m' 166 f.toNat a) 167 f.toNat b) k = m0 k) ∧ (∀ g : Int, 0 ≤ g → g < f + 1 → (wt (wt m' 166 f.toNat a) 167 f.toNat b) 166 g.toNat = pl (trF pl t n z (M 135 3) g.toNat).1.toNat ∧ (wt (wt m' 166 f.toNat a) 167 f.toNat b) 167 g.toNat = if 0 < (trF pl t n z (M 135 3) g.toNat).2 then -1 else nu (trF pl t n z (M 135 3) g.toNat).1.toNat) := by
        intro a b ha hb
        refine ⟨fun k k1 k2 k3 => by rw [wt_row _ _ k3, wt_row _ _ k2]; exact F1 k k1 k2 k3, fun g g0 g1 => ?_⟩
        rw [wt_row _ _ (by decide)]
        by_cases c : g = f
        · subst c
          rw [wt_same, wt_same]
          exact ⟨ha, hb⟩
        · rw [wt_ne _ _ (by omega), wt_ne _ _ (by omega), wt_row _ _ (by decide)]
          exact F2 g g0 (by omega)
      have U1 : ∀ m1 : MT, (∀ k : Nat, k ≠ 158 → k ≠ 166 → k ≠ 167 → m1 k = m0 k) → f + 1 < n → ∀ p' : Int, 0 ≤ p' → p' < 7 * N → m1 170 (140 * (f + 1) + p').toNat = OTB M r N n t p' (f + 1) := fun m1 g1 fl p' a b => by rw [g1 170 (by decide) (by decide) (by decide)]; exact D (f + 1) p' (by omega) ⟨a, b⟩ trivial
      have S4 : ∀ (m1 : MT) (x : Int), (∀ k : Nat, k ≠ 158 → k ≠ 166 → k ≠ 167 → m1 k = m0 k) → f + 1 < n → (0 ≤ p ∧ p < 7 * N) → x < 268435456 → h_M_leads_366 d e (nxP (m1 170) (m1 169) N f p x) (f + 1) m1 P → h_M_leads_444 d e p f x (-1) 3 m1 P := by
        intro m1 x g1 fl hp hx hh
        have B1 : LDB M fr kn n r N m1 := LDB_f B (g1 135 (by decide) (by decide) (by decide)) (g1 134 (by decide) (by decide) (by decide)) (g1 159 (by decide) (by decide) (by decide)) (g1 168 (by decide) (by decide) (by decide)) (g1 169 (by decide) (by decide) (by decide))
        have hw : 1 ≤ m1 169 (p / 7).toNat ∧ m1 169 (p / 7).toNat ≤ 4 := by rw [(B1.2.2.2 (p / 7) (by omega) (by omega)).1]; exact zr_in H hr (by omega) (by omega)
        refine s_444 (by omega) B1 hN hw (by omega) hp (by omega) hx ?_
        refine s_444 (by omega) B1 hN hw (by omega) hp (by omega) hx ?_
        refine s_444 (by omega) B1 hN hw (by omega) hp (by omega) hx ?_
        refine s_444 (by omega) B1 hN hw (by omega) hp (by omega) hx ?_
        refine v_M_leads_444 ⟨fun _ => ⟨by omega, ?_⟩, fun y => by omega⟩
        exact hh
      rcases C with ⟨e2, Q, q, hQ, hq, e1, ep, hk⟩ | ⟨e2, Q, j, hQ, hj, es, ep, hk, h1, h2⟩
      · have z4 := zr_in H hr hQ.1 hQ.2
        have LX := hl.2.2 Q hQ.1 hQ.2 q hq.1 hq.2
        rw [← e1] at LX
        have a1 : p / 7 = Q := by omega
        have a2 : p % 7 = q := by omega
        rw [a1, a2]
        obtain ⟨W1, W2⟩ := WR Q q LX.2.1.symm (by rw [if_neg (by omega)]; exact LX.2.2.symm)
        refine ⟨by omega, fun y => ⟨by omega, fun y2 => ⟨by omega, ?_⟩, fun y2 => DONE _ W1 (fun g g0 g1 => W2 g g0 (by omega))⟩, fun y => by omega⟩
        have B1 : LDB M fr kn n r N (wt (wt m' 166 f.toNat Q) 167 f.toNat q) := LDB_f B (W1 135 (by decide) (by decide) (by decide)) (W1 134 (by decide) (by decide) (by decide)) (W1 159 (by decide) (by decide) (by decide)) (W1 168 (by decide) (by decide) (by decide)) (W1 169 (by decide) (by decide) (by decide))
        generalize wt (wt m' 166 f.toNat Q) 167 f.toNat q = mw at *
        refine s_M_costAt (M := M) (fr := fr) (kn := kn) (n := n) (x := (sfr M r N Q).2 q.toNat) (by omega) H B1.1 B1.2.1 (by omega) (by omega) (fun _ => ⟨(SOK_SF H (RV_vs hr hQ.1 hQ.2)).2 q hq.1 hq.2, fun j j0 j1 => ?_⟩) (fun _ u => ?_) (fun y3 => by omega)
        · rw [a1, a2]
          exact (B1.2.2.2 Q hQ.1 hQ.2).2 q hq.1 hq.2 j j0 j1
        · have ek : KF (M 135) fr kn f ((sfr M r N Q).2 q.toNat) = krw M fr kn r N Q f q := rfl
          rw [ek]
          have g1 : ∀ k : Nat, k ≠ 158 → k ≠ 166 → k ≠ 167 → (sv mw 158 u) k = m0 k := fun k k1 k2 k3 => by rw [sv_ne _ _ k1]; exact W1 k k1 k2 k3
          have g2 : ∀ g : Int, 0 ≤ g → g < f + 1 → (sv mw 158 u) 166 g.toNat = pl (trF pl t n z (M 135 3) g.toNat).1.toNat ∧ (sv mw 158 u) 167 g.toNat = if 0 < (trF pl t n z (M 135 3) g.toNat).2 then -1 else nu (trF pl t n z (M 135 3) g.toNat).1.toNat := W2
          generalize sv mw 158 u = m1 at *
          obtain ⟨c1, c2, c3⟩ := CPL_st (u := m1 170) (w := m1 169) T (fun p' a b => by rw [g1 169 (by decide) (by decide) (by decide)]; exact (B.2.2.2 p' a b).1) (f := f) (by omega) (U1 m1 g1 (by omega)) e2 hQ hq e1 hk
          have kb := krw_in H hr hQ.1 hQ.2 (f := f) hq
          have ov : m' 170 (140 * f + p).toNat = kA t n (trF pl t n z (M 135 3) f.toNat).1 f := by
            rw [F1 170 (by decide) (by decide) (by decide), D f p (by omega) (by omega) trivial, ep, OTB_s hQ.1 hq z4.2, e1]
          rw [ov, c2]
          rw [← ep] at c1 c3 ⊢
          rw [show tt4 (m1 170) (m1 169) N f p + krw M fr kn r N Q f q - krw M fr kn r N Q f q = tt4 (m1 170) (m1 169) N f p by omega]
          have lo : -268435456 ≤ tt4 (m1 170) (m1 169) N f p := by
            have I := LAID_i H hr hl hQ.1 hQ.2 hq.1 hq.2
            have := TBB_b T I.1.1 I.1.2 (g := f) (by omega)
            rw [e1] at c2 hk
            rw [← ep] at c2
            omega
          refine ⟨by omega, S4 m1 _ g1 (by omega) (by omega) c1 ?_⟩
          exact ih w (by omega) _ m1 g1 g2 (fun _ => by rw [eN]; exact c3)
      · have z4 := zr_in H hr (p := Q) hQ.1 (by omega)
        have es2 := osn_s M r N Q hQ.1
        have LX := hl.2.2 Q hQ.1 (by omega) (zr M r N Q - 1) (by omega) (by omega)
        rw [show osn M r N Q.toNat + (zr M r N Q - 1) = (trF pl t n z (M 135 3) f.toNat).1 by omega] at LX
        have a1 : p / 7 = Q := by omega
        have a2 : p % 7 = 4 + j := by omega
        rw [a1, a2]
        obtain ⟨W1, W2⟩ := WR Q (-1) LX.2.1.symm (by rw [if_pos (by omega)])
        have fn : f + (trF pl t n z (M 135 3) f.toNat).2 < n := by
          by_cases c : f + (trF pl t n z (M 135 3) f.toNat).2 < n
          · exact c
          · rw [kA_far (by omega)] at hk; omega
        refine ⟨by omega, fun y => by omega, fun y => ⟨by omega, fun y2 => ⟨by omega, ?_⟩, fun y2 => by omega⟩⟩
        have B1 : LDB M fr kn n r N (wt (wt m' 166 f.toNat Q) 167 f.toNat (-1)) := LDB_f B (W1 135 (by decide) (by decide) (by decide)) (W1 134 (by decide) (by decide) (by decide)) (W1 159 (by decide) (by decide) (by decide)) (W1 168 (by decide) (by decide) (by decide)) (W1 169 (by decide) (by decide) (by decide))
        generalize wt (wt m' 166 f.toNat Q) 167 f.toNat (-1) = m1 at *
        refine s_M_costAt (M := M) (fr := fr) (kn := kn) (n := n) (x := 0) (by omega) H B1.1 B1.2.1 (by omega) (by omega) (fun y3 => by omega) (fun y3 u => by omega) (fun _ => ?_)
        obtain ⟨c1, c2, c3⟩ := CPL_sl (u := m1 170) (w := m1 169) T (f := f) (by omega) (U1 m1 W1 (by omega)) e2 hQ hj es hk h1 h2
        have ov : m' 170 (140 * f + p).toNat = OTB M r N n t p f := by
          rw [F1 170 (by decide) (by decide) (by decide), D f p (by omega) (by omega) trivial]
        rw [ov]
        rw [← ep] at c1 c2 c3
        rw [c2, show tt4 (m1 170) (m1 169) N f p + M 135 3 - M 135 3 = tt4 (m1 170) (m1 169) N f p by omega]
        have lo : -268435456 ≤ tt4 (m1 170) (m1 169) N f p := by
          have OL : OTB M r N n t p f = SLD t n (M 135 3) (osn M r N (Q + 1).toNat) j f := by rw [ep]; exact OTB_l hQ (by omega)
          have z5 := zr_in H hr (p := Q + 1) (by omega) (by omega)
          have J := LAID_i H hr hl (p := Q + 1) (s := 0) (by omega) (by omega) (by omega) (by omega)
          rw [show osn M r N (Q + 1).toNat + 0 = osn M r N (Q + 1).toNat by omega] at J
          have q1 := TBB_b T J.1.1 J.1.2 (g := f + 1) (by omega)
          have q2 := TBB_b T J.1.1 J.1.2 (g := f + 2) (by omega)
          have q3 := TBB_b T J.1.1 J.1.2 (g := f + 3) (by omega)
          have : 0 ≤ OTB M r N n t p f := by
            rw [OL]; unfold SLD
            (repeat' split) <;> omega
          omega
        refine ⟨by omega, S4 m1 _ W1 (by omega) (by omega) c1 ?_⟩
        exact ih w (by omega) _ m1 W1 W2 (fun _ => by rw [eN]; exact c3)
    refine L 0 (by omega) (by omega) 0 m0 (fun _ _ _ _ => rfl) (fun g g0 g1 => by omega) (fun _ => ?_)
    have zr0 := zr_in H hr (p := 0) (by omega) (by omega)
    have z1 := LAID_z H hr hl
    have K := keys_ok hR (fun i f i0 i1 _ _ => KF_in H.2.2.1 H.2.2.2.1 H.2.2.2.2.1 (LAID_ok H hr hl i0 i1)) hn.2 20 0 (by omega) (by omega) (by omega) 0 (by omega) (by omega) (by omega)
    refine Or.inl ⟨rfl, 0, 0, by omega, by omega, rfl, by omega, ?_⟩
    show kA t n 0 0 < 268435456
    rw [kA_in (by omega)]
    omega
  -- the surfaces
  have LP : ∀ p : Int, p ≤ N → 0 ≤ p → ∀ m' : MT, (∀ k : Nat, k ≠ 134 → k ≠ 152 → k ≠ 158 → k ≠ 168 → k ≠ 169 → m' k = m k) → (∀ j : Nat, j ≠ 39 → m' 134 j = m 134 j) → (∀ p' : Int, 0 ≤ p' → p' < p → m' 169 p'.toNat = zr M r N p' ∧ ∀ s : Int, 0 ≤ s → s < zr M r N p' → ∀ j : Int, 0 ≤ j → j < 4 → m' 168 (16 * p' + 4 * s + j).toNat = mkv ((sfr M r N p').2 s.toNat) j) → h_M_leads_2 d p m' P := by
    refine upto _ (fun p hp ih p0 m' F1 F2 F3 => ?_)
    have f50 : m' 134 50 = N := by rw [F2 50 (by decide)]; exact e50
    refine v_M_leads_2 ?_
    rw [f50]
    refine ⟨fun w => ?_, fun w => ?_⟩
    · have w9 : m' 169 (N - 1).toNat = zr M r N (N - 1) := (F3 (N - 1) (by omega) (by omega)).1
      have z6 := zr_in H hr (p := N - 1) (by omega) (by omega)
      have B : LDB M fr kn n r N m' := ⟨by rw [F1 135 (by decide) (by decide) (by decide) (by decide) (by decide)]; exact rM 135 (by omega), ⟨by rw [F2 40 (by decide)]; exact hL.1, fun f f0 f1 k k0 k1 => by rw [F1 159 (by decide) (by decide) (by decide) (by decide) (by decide)]; exact hL.2 f f0 f1 k k0 k1⟩, f50, fun p' q0 q1 => F3 p' q0 (by omega)⟩
      rw [w9, show m' 134 40 = n from B.2.1.1]
      refine ⟨by omega, s_136 (by omega) T B rfl (fun m1 G D => ?_)⟩
      refine WALK m1 (fun k k1 k2 k3 k4 k5 k6 => by rw [G k k3 k6]; exact F1 k k1 k2 k3 k4 k5) (fun j hj => by rw [G 134 (by decide) (by decide)]; exact F2 j hj) (LDB_f B (G 135 (by decide) (by decide)) (G 134 (by decide) (by decide)) (G 159 (by decide) (by decide)) (G 168 (by decide) (by decide)) (G 169 (by decide) (by decide))) D _
    · have rM' : ∀ k : Nat, (0 < k ∧ k < 19) ∨ (134 < k ∧ k < 152) ∨ (152 < k ∧ k < 158) → m' k = M k := fun k hk => by rw [F1 k (by omega) (by omega) (by omega) (by omega) (by omega)]; exact rM k hk
      have H' : HX m' fr kn n := HX_g H rM' (by rw [F2 15 (by decide)]; exact e15)
      have V := RV_vs hr p0 w
      have e135 : m' 135 0 = M 135 0 := by rw [rM' 135 (by omega)]
      have rw' : ∀ q : Int, 0 ≤ q → q < N → m' 165 q.toNat = r q := fun q q0 q1 => by rw [F1 165 (by decide) (by decide) (by decide) (by decide) (by decide)]; exact hrow q q0 q1
      have G : c_M_surfaces (d - 1) (ra r p) (r p) (rb r N p) m' (fun m1 => h_M_leads_70 d p 0 (wt m1 169 p.toNat (m1 134 39)) P) := by
        refine s_M_surfaces (by omega) H'.2.1 H'.1.2.1.2 H'.2.2.2.2.2.1 (FC.rfl' m') (by rw [e135]; exact V.1) (by rw [e135]; exact V.2.1) (by rw [e135]; exact V.2.2) (fun m1 C1 S1 => ?_)
        have EQ : EQV (sfr M r N p) (SF m' (ra r p) (r p) (rb r N p)) := SF_alike H V.2.1 (rM' 3 (by omega)) (rM' 4 (by omega)) (rM' 10 (by omega)) (rM' 11 (by omega)) (rM' 12 (by omega)) (rM' 13 (by omega)) (rM' 135 (by omega))
        have z4 := zr_in H hr p0 w
        have e39 : m1 134 39 = zr M r N p := by rw [S1.1]; exact EQ.1.symm
        rw [e39]
        refine s_70 (by omega) (fun u u1 u2 => ?_)
        refine ih w (by omega) _ (fun k k1 k2 k3 k4 k5 => by rw [sv_ne _ _ k4, wt_row _ _ k5, C1.1 k k1 k2 k3]; exact F1 k k1 k2 k3 k4 k5) (fun j hj => ?_) (fun p' q0 q1 => ?_)
        · rw [sv_ne _ _ (by decide), wt_row _ _ (by decide), C1.2 j hj]; exact F2 j hj
        · have x9 : (sv (wt m1 169 p.toNat (zr M r N p)) 168 u) 169 = (wt m1 169 p.toNat (zr M r N p)) 169 := rfl
          have x8 : (sv (wt m1 169 p.toNat (zr M r N p)) 168 u) 168 = u := rfl
          rw [x9, x8]
          by_cases c : p' = p
          · subst c
            refine ⟨wt_same _ _ _ _, fun s s0 s1 j j0 j1 => ?_⟩
            have := u1 (4 * s + j) (by omega) (by omega)
            rw [show 16 * p' + (4 * s + j) = 16 * p' + 4 * s + j by omega, wt_row _ _ (by decide)] at this
            have ez : (SF m' (ra r p') (r p') (rb r N p')).1 = zr M r N p' := EQ.1.symm
            rw [this, S1.2 s s0 (by omega) j j0 j1, ← EQ.2 s s0 s1]
          · rw [wt_ne _ _ (by omega), C1.1 169 (by decide) (by decide) (by decide)]
            refine ⟨(F3 p' q0 (by omega)).1, fun s s0 s1 j j0 j1 => ?_⟩
            have z5 := zr_in H hr (p := p') q0 (by omega)
            rw [u2 _ (by omega), wt_row _ _ (by decide), C1.1 168 (by decide) (by decide) (by decide)]
            exact (F3 p' q0 (by omega)).2 s s0 s1 j j0 j1
      unfold ra rb at G
      refine ⟨fun w2 => ⟨by omega, fun w3 => ⟨by omega, ?_⟩, fun w3 => ⟨by omega, by omega, ?_⟩⟩, fun w2 => ⟨by omega, fun w3 => ⟨by omega, ?_⟩, fun w3 => ⟨by omega, by omega, ?_⟩⟩⟩
      · rw [if_neg w2, if_pos (by omega), ← rw' (p - 1) (by omega) (by omega), ← rw' p p0 w] at G
        exact G
      · rw [if_neg w2, if_neg (by omega), ← rw' (p - 1) (by omega) (by omega), ← rw' p p0 w, ← rw' (p + 1) (by omega) (by omega)] at G
        exact G
      · rw [if_pos w2, if_pos (by omega), ← rw' p p0 w] at G
        exact G
      · rw [if_pos w2, if_neg (by omega), ← rw' p p0 w, ← rw' (p + 1) (by omega) (by omega)] at G
        exact G
  exact v_M_leads (LP 0 (by omega) (by omega) m (fun _ _ _ _ _ _ => rfl) (fun _ _ => rfl) (fun p' q0 q1 => by omega))
end LEADSD
