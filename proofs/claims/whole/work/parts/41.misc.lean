section MISC
variable {d : Nat} {mi : MT}
/-- how far two shapes lie apart, from the lowest finger on -/
def bndF (x y : Int) : Nat → Int
  | 0 => 0
  | n + 1 => ab (x % 3 - y % 3) + bndF (x / 3) (y / 3) n
theorem ab_in (x : Int) : 0 ≤ ab x := by unfold ab; split <;> omega
theorem ab_m3 (x y : Int) : ab (x % 3 - y % 3) ≤ 2 := by unfold ab; split <;> omega
theorem ab_sym (x y : Int) : ab (x - y) = ab (y - x) := by unfold ab; split <;> split <;> omega
theorem bndF_in : ∀ (n : Nat) (x y : Int), 0 ≤ bndF x y n ∧ bndF x y n ≤ 2 * n := by
  intro n
  induction n with
  | zero => intro x y; simp [bndF]
  | succ n ih => intro x y; have := ih (x / 3) (y / 3); have := ab_in (x % 3 - y % 3); have := ab_m3 x y; simp only [bndF]; omega
theorem bndF_sym : ∀ (n : Nat) (x y : Int), bndF x y n = bndF y x n := by
  intro n
  induction n with
  | zero => intro x y; rfl
  | succ n ih => intro x y; simp only [bndF]; rw [ab_sym, ih]
/-- distance of two values of a mark -/
def dst (c : Nat → Int) (m a b : Int) : Int := if m = 0 then bndF a b 5 else if m = 1 then ab (c (186 + 2 * a).toNat - c (186 + 2 * b).toNat) + ab (c (186 + 2 * a + 1).toNat - c (186 + 2 * b + 1).toNat) else if m = 2 then min (ab (a - b)) (8 - ab (a - b)) else if a = b then 0 else 1
theorem dst_sym (c : Nat → Int) (m a b : Int) : dst c m a b = dst c m b a := by
  unfold dst
  rw [bndF_sym, ab_sym (c (186 + 2 * a).toNat), ab_sym (c (186 + 2 * a + 1).toNat), ab_sym a b]
  have : (if a = b then (0 : Int) else 1) = if b = a then 0 else 1 := by omega
  rw [this]
theorem dst_in {xs ys c : Nat → Int} (h3 : P_xy xs ys c) {m a b : Int} (hm : 0 ≤ m ∧ m < 4) (ha : 0 ≤ a ∧ a < mxv m) (hb : 0 ≤ b ∧ b < mxv m) : 0 ≤ dst c m a b ∧ dst c m a b ≤ 40 := by
  have e : mxv m = if m = 0 then 243 else if m = 1 then 20 else if m = 2 then 8 else 10 := rfl
  unfold dst
  split
  · have := bndF_in 5 a b; omega
  · split
    · have := h3 a ha.1 (by omega)
      have := h3 b hb.1 (by omega)
      unfold ab
      repeat' split
      all_goals omega
    · split
      · unfold ab; repeat' split
        all_goals omega
      · split <;> omega
theorem s_B_bendsApart {P : Int → MT → Prop} {a b : Int} (hd : 0 < d) (ha : 0 ≤ a ∧ a < 243) (hb : 0 ≤ b ∧ b < 243) (h : P (bndF a b 5) mi) : c_B_bendsApart d a b mi P := by
  generalize hw : bndF a b 5 = w at h
  have L : ∀ (n : Nat) (i x y z : Int), i + n = 5 → 0 ≤ i → (0 ≤ x ∧ x < 243) → (0 ≤ y ∧ y < 243) → 0 ≤ z ∧ z ≤ 2 * i → z + bndF x y n = w → h_B_bendsApart_10 d a b z x y i mi P := by
    intro n
    induction n with
    | zero => intro i x y z hi h0 hx hy hz e; refine v_B_bendsApart_10 ⟨fun _ => ?_, fun q => by omega⟩; simp only [bndF, Int.add_zero] at e; rw [e]; exact h
    | succ n ih =>
      intro i x y z hi h0 hx hy hz e
      have := ab_in (x % 3 - y % 3)
      have := ab_m3 x y
      refine v_B_bendsApart_10 ⟨fun q => by omega, fun q => ⟨by omega, ih (i + 1) _ _ _ (by omega) (by omega) (by omega) (by omega) (by omega) ?_⟩⟩
      simp only [bndF] at e
      omega
  exact v_B_bendsApart (L 5 0 a b 0 (by omega) (by omega) ha hb (by omega) (by omega))
theorem s_B_distanceOf {P : Int → MT → Prop} {m a b : Int} (hd : 1 < d) (h3 : P_xy (mi 5) (mi 6) (mi 135)) (hm : 0 ≤ m ∧ m < 4) (ha : 0 ≤ a ∧ a < mxv m) (hb : 0 ≤ b ∧ b < mxv m) (h : P (dst (mi 135) m a b) mi) : c_B_distanceOf d m a b mi P := by
  have e : mxv m = if m = 0 then 243 else if m = 1 then 20 else if m = 2 then 8 else 10 := rfl
  unfold dst at h
  have g0 := ab_in (a - b)
  have g7 : m = 2 → ab (a - b) ≤ 7 := by unfold ab; omega
  refine v_B_distanceOf ⟨fun q => ⟨by omega, s_B_bendsApart (by omega) (by omega) (by omega) ?_⟩, fun q => ?_, fun q => ⟨by omega, ?_⟩, fun q => ⟨fun q2 => ?_, fun q2 => ?_⟩⟩
  · rw [if_pos q] at h; exact h
  · have g1 := h3 a ha.1 (by omega)
    have g2 := h3 b hb.1 (by omega)
    have := ab_in (mi 5 a.toNat - mi 5 b.toNat)
    have := ab_in (mi 6 a.toNat - mi 6 b.toNat)
    rw [if_neg (by omega), if_pos q, ← g1.1, ← g1.2.1, ← g2.1, ← g2.2.1] at h
    refine ⟨?_, h⟩
    unfold ab at *
    omega
  · rw [if_neg (by omega), if_neg (by omega), if_pos q] at h
    exact h
  · rw [if_neg (by omega), if_neg (by omega), if_neg (by omega), if_neg q2] at h; exact h
  · rw [if_neg (by omega), if_neg (by omega), if_neg (by omega), if_pos q2] at h; exact h
theorem s_M_apart {P : Int → MT → Prop} {xs ys : Nat → Int} {m a b : Int} (hd : 1 < d) (h3 : P_xy xs ys (mi 135)) (hm : 0 ≤ m ∧ m < 4) (ha : 0 ≤ a ∧ a < mxv m) (hb : 0 ≤ b ∧ b < mxv m) (h : P (dst (mi 135) m a b) mi) : c_M_apart d m a b mi P := by
  have e : mxv m = if m = 0 then 243 else if m = 1 then 20 else if m = 2 then 8 else 10 := rfl
  unfold dst at h
  refine v_M_apart ⟨fun q => ⟨fun q2 => ⟨fun q3 => ?_, fun q3 => ⟨fun q4 => ?_, fun q4 => ?_⟩⟩, fun q2 => ⟨by omega, ?_⟩⟩, fun q => ?_⟩
  · have m0 : m = 0 := by omega
    rw [if_pos m0] at h
    generalize hw : bndF a b 5 = w at h
    have L : ∀ (n : Nat) (i x y z : Int), i + n = 5 → 0 ≤ i → (0 ≤ x ∧ x < 243) → (0 ≤ y ∧ y < 243) → 0 ≤ z ∧ z ≤ 2 * i → z + bndF x y n = w → h_M_apart_129 d m a b z x y i mi P := by
      intro n
      induction n with
      | zero => intro i x y z hi h0 hx hy hz e; refine v_M_apart_129 ⟨fun _ => ?_, fun q => by omega⟩; simp only [bndF, Int.add_zero] at e; rw [e]; exact h
      | succ n ih =>
        intro i x y z hi h0 hx hy hz e
        have := ab_in (x % 3 - y % 3)
        have := ab_m3 x y
        refine v_M_apart_129 ⟨fun q => by omega, fun q => ⟨by omega, ih (i + 1) _ _ _ (by omega) (by omega) (by omega) (by omega) (by omega) ?_⟩⟩
        simp only [bndF] at e
        omega
    exact L 5 0 a b 0 (by omega) (by omega) (by omega) (by omega) (by omega) (by omega)
  · rw [if_neg (by omega), if_neg (by omega), if_neg (by omega), if_neg q4] at h; exact h
  · rw [if_neg (by omega), if_neg (by omega), if_neg (by omega), if_pos q4] at h; exact h
  · rw [if_neg (by omega), if_neg (by omega), if_pos q2] at h
    have g0 := ab_in (a - b)
    have g7 : ab (a - b) ≤ 7 := by unfold ab; omega
    refine ⟨fun q4 => ?_, fun q4 => ⟨by omega, ?_⟩⟩
    · rw [show min (ab (a - b)) (8 - ab (a - b)) = ab (a - b) by omega] at h; exact h
    · rw [show min (ab (a - b)) (8 - ab (a - b)) = 8 - ab (a - b) by omega] at h; exact h
  · have g1 := h3 a ha.1 (by omega)
    have g2 := h3 b hb.1 (by omega)
    have := ab_in (mi 135 (186 + 2 * a).toNat - mi 135 (186 + 2 * b).toNat)
    have := ab_in (mi 135 (186 + 2 * a + 1).toNat - mi 135 (186 + 2 * b + 1).toNat)
    rw [if_neg (by omega), if_pos q] at h
    refine ⟨?_, h⟩
    unfold ab at *
    omega
theorem ca_distance {m a b : Int} (hI : Base mi) (hd : 20 ≤ d) : c_C_distance d m a b mi (fun z m1 => c_M_distance d m a b m1 (fun z' m2 => Bth z z' mi m2)) := by
  obtain ⟨hs, ht, h1, h2, h3, h4, h5, h6, h7, h8, h9, h10⟩ := id hI
  refine v_C_distance ?_
  repeat' (first | (refine And.intro (by omega) ?_) | apply And.intro | intro _ | omega)
  all_goals (try (refine v_M_distance ?_))
  all_goals repeat' (first | (refine And.intro (by omega) ?_) | apply And.intro | intro _ | omega)
  all_goals (try exact Bth.mk rfl hI (Kp.rfl' _))
  refine s_B_distanceOf (by omega) h3 (by omega) (by omega) (by omega) ?_
  refine v_M_distance ?_
  repeat' (first | (refine And.intro (by omega) ?_) | apply And.intro | intro _ | omega)
  exact s_M_apart (by omega) h3 (by omega) (by omega) (by omega) (Bth.mk rfl hI (Kp.rfl' _))
theorem ca_count {w : Int} (hI : Base mi) (hR : mi 10 5 = mi 134 15) : c_C_count d w mi (fun z m1 => c_M_count d w m1 (fun z' m2 => Bth z z' mi m2)) := by
  obtain ⟨hs, ht, h1, h2, h3, h4, h5, h6, h7, h8, h9, h10⟩ := id hI
  have n0 := h1.1
  have n2 := h6.1
  have n3 := h9.1
  have n4 := ht.2.1
  refine v_C_count ?_
  repeat' (first | (refine And.intro (by omega) ?_) | apply And.intro | intro _ | omega)
  all_goals (refine v_M_count ?_)
  all_goals repeat' (first | (refine And.intro (by omega) ?_) | apply And.intro | intro _ | omega)
  all_goals exact Bth.mk (by omega) hI (Kp.rfl' _)
theorem ca_mark {s k m : Int} (hI : Base mi) (hd : 20 ≤ d) : c_C_mark d s k m mi (fun z m1 => c_M_mark d s k m m1 (fun z' m2 => Bth z z' mi m2)) := by
  obtain ⟨hs, ht, h1, h2, h3, h4, h5, h6, h7, h8, h9, h10⟩ := id hI
  have hn := h1
  unfold P_num at hn
  by_cases hs : 0 ≤ s ∧ s < mi 135 0
  · obtain ⟨g1, g2, g3, g4⟩ := h2 s (by omega) (by omega) (by omega)
    refine v_C_mark ⟨by omega, fun q => ⟨by omega, ?_⟩, fun q => by omega⟩
    have hB : Base (wt (cpm mi 3 102 (s * 4).toNat 0 (mi 4 s.toNat).toNat) 100 4 (mi 4 s.toNat)) := hI
    have hK : Kp mi (wt (cpm mi 3 102 (s * 4).toNat 0 (mi 4 s.toNat).toNat) 100 4 (mi 4 s.toNat)) := by (repeat' (first | exact Kp.rfl' _ | refine Kp.w0 ?_ (by decide) | refine Kp.w134 ?_ (by decide) | refine Kp.w135 ?_ (by omega) | refine Kp.wo ?_ (by decide) | refine Kp.cp ?_ (by decide) | refine Kp.o ?_ (by decide)))
    have eC : ∀ j : Int, 0 ≤ j → j < mi 4 s.toNat → (wt (cpm mi 3 102 (s * 4).toNat 0 (mi 4 s.toNat).toNat) 100 4 (mi 4 s.toNat)) 102 j.toNat = mi 3 (s * 4 + j).toNat := by
      intro j a b
      simp only [wt_r, cpm_r, Nat.reduceEqDiff, reduceIte, cpy_at]
      rw [if_pos (by omega)]
      congr 1
      omega
    have eS : (wt (cpm mi 3 102 (s * 4).toNat 0 (mi 4 s.toNat).toNat) 100 4 (mi 4 s.toNat)) 100 4 = mi 4 s.toNat := rfl
    generalize hm : wt (cpm mi 3 102 (s * 4).toNat 0 (mi 4 s.toNat).toNat) 100 4 (mi 4 s.toNat) = m1 at hB hK eC eS ⊢
    have e135 : m1 135 = mi 135 := by rw [← hm]; rfl
    refine v_C_ofSurface ?_
    rw [eS]
    refine ⟨fun q => ⟨by omega, fun q2 => ?_, fun q2 => ⟨fun q3 => ?_, fun q3 => ?_⟩⟩, fun q => ?_⟩
    · refine v_M_mark ?_
      rw [e135]
      repeat' (first | (refine And.intro (by omega) ?_) | apply And.intro | intro _ | omega)
      exact Bth.mk rfl hB hK
    · obtain ⟨k1, k2⟩ := g3 k q2.1 q2.2
      have k3 := k2 m q3.1 q3.2
      rw [eC k q2.1 q2.2]
      refine ⟨by omega, v_M_mark ?_⟩
      rw [e135]
      repeat' (first | (refine And.intro (by omega) ?_) | apply And.intro | intro _ | omega)
      exact Bth.mk k3.1 hB hK
    · refine v_M_mark ?_
      rw [e135]
      repeat' (first | (refine And.intro (by omega) ?_) | apply And.intro | intro _ | omega)
      exact Bth.mk rfl hB hK
    · refine v_M_mark ?_
      rw [e135]
      repeat' (first | (refine And.intro (by omega) ?_) | apply And.intro | intro _ | omega)
      exact Bth.mk g1 hB hK
  · refine v_C_mark ⟨by omega, fun q => by omega, fun q => v_M_mark ?_⟩
    repeat' (first | (refine And.intro (by omega) ?_) | apply And.intro | intro _ | omega)
    exact Bth.mk rfl hI (Kp.rfl' _)
/-- a byte of the machine -/
theorem b2b_eq (a : Int) : b2b a = sg8 (a % 256) := by
  unfold b2b sg8
  rw [Int8.toInt_toInt32, Int32.toInt_toInt8, i3_toInt, Int.bmod_def]
  unfold wr
  split <;> split <;> omega
theorem s_T_append {P : MT → Prop} {x n : Int} (hn : mi 90 3 = n) (h0 : 0 ≤ n ∧ n ≤ 396) (h : ∀ t u : Nat → Int, (∀ j : Int, 0 ≤ j → j < 4 → t (n + j).toNat = iShr x (24 - 8 * j) % 256) → (∀ j : Int, 0 ≤ j → j < n → t j.toNat = mi 91 j.toNat) → u 3 = n + 4 → P (sv (sv mi 91 t) 90 u)) : c_T_append d x mi P := by
  have S : ∀ (k : Int) (t u : Nat → Int), 0 ≤ k → k < 4 → u 3 = n + k → h_T_append_3 d x (24 - 8 * (k + 1)) (sv (sv mi 91 (sv t (n + k).toNat (iShr x (24 - 8 * k) % 256))) 90 (sv u 3 (n + (k + 1)))) P → h_T_append_3 d x (24 - 8 * k) (sv (sv mi 91 t) 90 u) P := by
    intro k t u k0 k4 hu w
    refine v_T_append_3 ⟨fun q => by omega, fun q => ?_⟩
    simp only [svc, Nat.reduceEqDiff, reduceIte]
    rw [hu]
    refine ⟨fun q => by omega, fun q => ⟨by omega, ?_⟩⟩
    have e : wt (wt (sv (sv mi 91 t) 90 u) 91 (n + k).toNat (iShr x (24 - 8 * k) % 256)) 90 3 (n + k + 1) = sv (sv mi 91 (sv t (n + k).toNat (iShr x (24 - 8 * k) % 256))) 90 (sv u 3 (n + (k + 1))) := by
      rw [sv_comm mi (show 91 ≠ 90 by decide) t u, wt_sv, sv_comm mi (show 90 ≠ 91 by decide), wt_sv, Int.add_assoc]
    rw [e, show 24 - 8 * k + -8 = 24 - 8 * (k + 1) by omega]
    exact w
  have e0 : mi = sv (sv mi 91 (mi 91)) 90 (mi 90) := by rw [sv_self mi 91, sv_self mi 90]
  refine v_T_append ?_
  rw [e0]
  refine S 0 _ _ (by omega) (by omega) (by omega) (S 1 _ _ (by omega) (by omega) (by rw [sv_eq]; omega) (S 2 _ _ (by omega) (by omega) (by rw [sv_eq]; omega) (S 3 _ _ (by omega) (by omega) (by rw [sv_eq]; omega) (v_T_append_3 ⟨fun _ => h _ _ (fun j a b => ?_) (fun j a b => ?_) (by rw [sv_eq]; omega), fun q => by omega⟩))))
  · have : j = 0 ∨ j = 1 ∨ j = 2 ∨ j = 3 := by omega
    simp only [svr]
    rcases this with rfl | rfl | rfl | rfl
    · rw [if_neg (by omega), if_neg (by omega), if_neg (by omega), if_pos (by omega)]
    · rw [if_neg (by omega), if_neg (by omega), if_pos (by omega)]
    · rw [if_neg (by omega), if_pos (by omega)]
    · rw [if_pos (by omega)]
  · simp only [svr]
    rw [if_neg (by omega), if_neg (by omega), if_neg (by omega), if_neg (by omega)]
theorem ca_feed {a b c e f : Int} (hI : Base mi) (hd : 20 ≤ d) : c_C_feed d a b c e f mi (fun z m1 => c_M_feed d a b c e f m1 (fun z' m2 => Bth z z' mi m2)) := by
  obtain ⟨hs, ht, h1, h2, h3, h4, h5, h6, h7, h8, h9, h10⟩ := id hI
  obtain ⟨t1, t2, t3⟩ := id ht
  refine v_C_feed ⟨by omega, fun q => ?_, fun q => v_M_feed ⟨by omega, fun w => by omega, fun _ => Bth.mk rfl hI (Kp.rfl' _)⟩⟩
  refine s_T_append (n := mi 90 3) rfl (by omega) (fun ta ua ha1 ha2 ha3 => ?_)
  refine s_T_append (n := mi 90 3 + 4) ha3 (by omega) (fun tb ub hb1 hb2 hb3 => ?_)
  refine s_T_append (n := mi 90 3 + 4 + 4) hb3 (by omega) (fun tc uc hc1 hc2 hc3 => ?_)
  refine s_T_append (n := mi 90 3 + 4 + 4 + 4) hc3 (by omega) (fun te ue he1 he2 he3 => ?_)
  refine s_T_append (n := mi 90 3 + 4 + 4 + 4 + 4) he3 (by omega) (fun tf uf hf1 hf2 hf3 => ?_)
  have hb2 : ∀ j : Int, 0 ≤ j → j < mi 90 3 + 4 → tb j.toNat = ta j.toNat := hb2
  have hc2 : ∀ j : Int, 0 ≤ j → j < mi 90 3 + 4 + 4 → tc j.toNat = tb j.toNat := hc2
  have he2 : ∀ j : Int, 0 ≤ j → j < mi 90 3 + 4 + 4 + 4 → te j.toNat = tc j.toNat := he2
  have hf2 : ∀ j : Int, 0 ≤ j → j < mi 90 3 + 4 + 4 + 4 + 4 → tf j.toNat = te j.toNat := hf2
  have old : ∀ j : Int, 0 ≤ j → j < mi 90 3 → tf j.toNat = mi 91 j.toNat := fun j p p2 => by rw [hf2 j p (by omega), he2 j p (by omega), hc2 j p (by omega), hb2 j p (by omega), ha2 j p p2]
  have new : ∀ k : Int, 0 ≤ k → k < 20 → tf (mi 90 3 + k).toNat = iShr (if k / 4 = 0 then a else if k / 4 = 1 then b else if k / 4 = 2 then c else if k / 4 = 3 then e else f) (24 - 8 * (k % 4)) % 256 := by
    intro k k0 k1
    have : k / 4 = 0 ∨ k / 4 = 1 ∨ k / 4 = 2 ∨ k / 4 = 3 ∨ k / 4 = 4 := by omega
    rcases this with q | q | q | q | q <;> rw [q]
    · have := ha1 (k % 4) (by omega) (by omega)
      rw [show mi 90 3 + k % 4 = mi 90 3 + k by omega] at this
      rw [hf2 _ (by omega) (by omega), he2 _ (by omega) (by omega), hc2 _ (by omega) (by omega), hb2 _ (by omega) (by omega), this]; rfl
    · have := hb1 (k % 4) (by omega) (by omega)
      rw [show mi 90 3 + 4 + k % 4 = mi 90 3 + k by omega] at this
      rw [hf2 _ (by omega) (by omega), he2 _ (by omega) (by omega), hc2 _ (by omega) (by omega), this]; rfl
    · have := hc1 (k % 4) (by omega) (by omega)
      rw [show mi 90 3 + 4 + 4 + k % 4 = mi 90 3 + k by omega] at this
      rw [hf2 _ (by omega) (by omega), he2 _ (by omega) (by omega), this]; rfl
    · have := he1 (k % 4) (by omega) (by omega)
      rw [show mi 90 3 + 4 + 4 + 4 + k % 4 = mi 90 3 + k by omega] at this
      rw [hf2 _ (by omega) (by omega), this]; rfl
    · have := hf1 (k % 4) (by omega) (by omega)
      rw [show mi 90 3 + 4 + 4 + 4 + 4 + k % 4 = mi 90 3 + k by omega] at this
      rw [this]; rfl
  have hK : Kp mi (sv (sv (sv (sv (sv (sv (sv (sv (sv (sv mi 91 ta) 90 ua) 91 tb) 90 ub) 91 tc) 90 uc) 91 te) 90 ue) 91 tf) 90 uf) := by (repeat' (first | exact Kp.rfl' _ | refine Kp.w0 ?_ (by decide) | refine Kp.w134 ?_ (by decide) | refine Kp.w135 ?_ (by omega) | refine Kp.wo ?_ (by decide) | refine Kp.cp ?_ (by decide) | refine Kp.o ?_ (by decide)))
  have hrow : ∀ k : Nat, k ≠ 90 → k ≠ 91 → (sv (sv (sv (sv (sv (sv (sv (sv (sv (sv mi 91 ta) 90 ua) 91 tb) 90 ub) 91 tc) 90 uc) 91 te) 90 ue) 91 tf) 90 uf) k = mi k := fun k p p2 => by simp only [svc, if_neg p, if_neg p2]
  have e90 : (sv (sv (sv (sv (sv (sv (sv (sv (sv (sv mi 91 ta) 90 ua) 91 tb) 90 ub) 91 tc) 90 uc) 91 te) 90 ue) 91 tf) 90 uf) 90 = uf := rfl
  have e91 : (sv (sv (sv (sv (sv (sv (sv (sv (sv (sv mi 91 ta) 90 ua) 91 tb) 90 ub) 91 tc) 90 uc) 91 te) 90 ue) 91 tf) 90 uf) 91 = tf := rfl
  generalize (sv (sv (sv (sv (sv (sv (sv (sv (sv (sv mi 91 ta) 90 ua) 91 tb) 90 ub) 91 tc) 90 uc) 91 te) 90 ue) 91 tf) 90 uf) = m1 at hK hrow e90 e91 ⊢
  rw [e90, hf3]
  have r134 : m1 134 = mi 134 := hrow 134 (by decide) (by decide)
  refine v_M_feed ?_
  rw [r134]
  refine ⟨by omega, fun _ => ?_, fun w => by omega⟩
  generalize hq : wt (wt (wt (wt (wt m1 140 0 a) 140 1 b) 140 2 c) 140 3 e) 140 4 f = m3
  have q140 : ∀ k : Int, 0 ≤ k → k < 5 → m3 140 k.toNat = if k = 0 then a else if k = 1 then b else if k = 2 then c else if k = 3 then e else f := by
    intro k k0 k5
    rw [← hq]
    have : k = 0 ∨ k = 1 ∨ k = 2 ∨ k = 3 ∨ k = 4 := by omega
    rcases this with rfl | rfl | rfl | rfl | rfl <;> rfl
  have qrow : ∀ k : Nat, k ≠ 140 → m3 k = m1 k := fun k p => by rw [← hq]; simp only [wt_r, if_neg p]
  have qK : Kp mi m3 := by rw [← hq]; exact ((((hK.wo (by decide)).wo (by decide)).wo (by decide)).wo (by decide)).wo (by decide)
  have L : ∀ k : Int, k ≤ 20 → 0 ≤ k → ∀ t : Nat → Int, (∀ j : Int, 0 ≤ j → j < k → t (mi 90 3 + j).toNat = sg8 (iShr (m3 140 (j / 4).toNat) (24 - 8 * (j % 4)) % 256)) → (∀ j : Int, 0 ≤ j → j < mi 90 3 → t j.toNat = mi 138 j.toNat) → h_M_feed_55 d a b c e f k (sv m3 138 t) (fun z' m2 => Bth (mi 90 3 + 4 + 4 + 4 + 4 + 4) z' mi m2) := by
    refine upto _ (fun k hk ih k0 t h1' h2' => ?_)
    refine v_M_feed_55 ?_
    rw [wt_sv]
    simp only [svc, Nat.reduceEqDiff, reduceIte, qrow 134 (by decide), r134]
    refine ⟨fun q => ⟨by omega, ?_⟩, fun q => ⟨?_, ?_⟩⟩
    · refine Bth.mk (by omega) ?_ ((qK.o (by decide)).w134 (by decide))
      unfold Base Hs
      simp only [wt_r, svc, Nat.reduceEqDiff, reduceIte, qrow, hrow, e90, e91, ne_eq, not_false_eq_true]
      refine ⟨P_stat_m hs (by decide), ⟨by omega, by rw [sv_eq]; omega, fun j j0 j1 => ?_⟩, h1, h2, h3, h4, h5, h6, h7, h8, h9, h10⟩
      by_cases c : j < mi 90 3
      · rw [old j j0 c, h2' j j0 c]; exact t3 j j0 c
      · have w1 := new (j - mi 90 3) (by omega) (by omega)
        have w2 := h1' (j - mi 90 3) (by omega) (by omega)
        rw [show mi 90 3 + (j - mi 90 3) = j by omega] at w1 w2
        rw [q140 _ (by omega) (by omega)] at w2
        rw [← w1] at w2
        exact ⟨by rw [w1]; omega, w2⟩
    · have := b2b_eq (iShr (m3 140 (k / 4).toNat) (24 - 8 * (k % 4)))
      unfold sg8 at this
      omega
    · rw [show mi 134 7 = mi 90 3 by omega]
      refine ih q (by omega) _ (fun j j0 j1 => ?_) (fun j j0 j1 => ?_)
      · rw [svr]
        split
        · rename_i w
          rw [show j = k by omega, b2b_eq]
        · exact h1' j j0 (by omega)
      · rw [svr, if_neg (by omega)]; exact h2' j j0 j1
  have := L 0 (by omega) (by omega) (m3 138) (fun j p p2 => by omega) (fun j p p2 => by rw [qrow 138 (by decide), hrow 138 (by decide) (by decide)])
  rw [sv_self] at this
  exact this
end MISC
