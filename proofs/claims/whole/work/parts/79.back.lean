section BACK
variable {d : Nat} {mi : MT} {c c' : Nat → Int}
theorem P_sgn_r {st sz st' sz' : Nat → Int} (h : P_sgn st sz c) (hn : c 0 ≤ 10) (e1 : ∀ j : Nat, j < 40 → st' j = st j) (e2 : ∀ j : Nat, j < 10 → sz' j = sz j) : P_sgn st' sz' c := by
  intro s s0 s1 s2
  obtain ⟨g1, g2, g3, g4⟩ := h s s0 s1 s2
  rw [e2 _ (by omega)]
  refine ⟨g1, g2, fun k k0 k1 => ?_, g4⟩
  rw [e1 _ (by omega)]
  exact g3 k k0 k1
theorem P_xy_r {xs ys xs' ys' : Nat → Int} (h : P_xy xs ys c) (e1 : ∀ j : Nat, j < 20 → xs' j = xs j) (e2 : ∀ j : Nat, j < 20 → ys' j = ys j) : P_xy xs' ys' c := by
  intro k k0 k1
  rw [e1 _ (by omega), e2 _ (by omega)]
  exact h k k0 k1
theorem P_w_r {w w' : Nat → Int} (h : P_w w c) (e1 : ∀ j : Nat, j < 4 → w' j = w j) : P_w w' c := by
  intro k k0 k1
  rw [e1 _ (by omega)]
  exact h k k0 k1
theorem P_tr_r {w w' : Nat → Int} (h : P_tr w c) (e1 : ∀ j : Nat, j < 2 → w' j = w j) : P_tr w' c := by
  intro k k0 k1
  rw [e1 _ (by omega)]
  exact h k k0 k1
theorem P_pr_r {w w' : Nat → Int} (h : P_pr w c) (e1 : ∀ j : Nat, j < 3 → w' j = w j) : P_pr w' c := by
  intro k k0 k1
  rw [e1 _ (by omega)]
  exact h k k0 k1
theorem P_si_r {wo sl da ma wo' sl' da' ma' : Nat → Int} (h : P_si wo sl da ma c) (e5 : wo' 5 = wo 5) (e1 : ∀ j : Nat, (j : Int) < wo 5 → sl' j = sl j) (e2 : ∀ j : Nat, (j : Int) < wo 5 → da' j = da j) (e3 : ∀ j : Nat, (j : Int) < wo 5 * 4 → ma' j = ma j) : P_si wo' sl' da' ma' c := by
  obtain ⟨h1, h2, h3⟩ := h
  refine ⟨by rw [e5]; exact h1, h2, fun i i0 i1 => ?_⟩
  obtain ⟨g1, g2, g3, g4, g5, g6⟩ := h3 i i0 i1
  rw [e1 _ (by omega), e2 _ (by omega)]
  refine ⟨g1, g2, g3, g4, g5, fun k k0 k1 => ?_⟩
  rw [e3 _ (by omega)]
  exact g6 k k0 k1
theorem P_va_r {vs vc vs' vc' : Nat → Int} (h : P_va vs vc c) (e1 : ∀ j : Nat, j < 16 → vs' j = vs j) (e2 : ∀ j : Nat, j < 4 → vc' j = vc j) : P_va vs' vc' c := by
  intro k k0 k1
  obtain ⟨g1, g2, g3⟩ := h k k0 k1
  rw [e2 _ (by omega)]
  refine ⟨g1, g2, fun v v0 v1 => ?_⟩
  rw [e1 _ (by omega)]
  exact g3 v v0 v1
theorem P_us_r {pa pa' : Nat → Int} (h : P_us pa c) (e1 : ∀ j : Nat, j < 120 → pa' j = pa j) : P_us pa' c := by
  intro k k0 k1 s s0 s1 r r0 r1
  rw [e1 _ (by omega)]
  exact h k k0 k1 s s0 s1 r r0 r1
theorem P_ud_r {fo us si da fo' us' si' da' : Nat → Int} (h : P_ud fo us si da c) (e9 : fo' 9 = fo 9) (e1 : ∀ j : Nat, (j : Int) < fo 9 → us' j = us j) (e2 : ∀ j : Nat, (j : Int) < fo 9 → si' j = si j) (e3 : ∀ j : Nat, (j : Int) < fo 9 → da' j = da j) : P_ud fo' us' si' da' c := by
  obtain ⟨h1, h2, h3⟩ := h
  refine ⟨by rw [e9]; exact h1, h2, fun i i0 i1 => ?_⟩
  rw [e1 _ (by omega), e2 _ (by omega), e3 _ (by omega)]
  exact h3 i i0 i1
/-- a house's rows, o cells behind the live one's -/
def HsA (m : MT) (o : Nat) (c : Nat → Int) : Prop := Hs (m (o + 2)) (m (o + 3)) (m (o + 4)) (m (o + 5)) (m (o + 6)) (m (o + 7)) (m (o + 14)) (m (o + 15)) (m (o + 16)) (m (o + 17)) (m (o + 18)) (m (o + 20)) (m (o + 21)) (m (o + 22)) (m (o + 23)) (m (o + 24)) (m (o + 25)) (m (o + 26)) (m (o + 28)) c
def RuA (m : MT) (o : Nat) (c : Nat → Int) : Prop := ((0 ≤ m (o + 10) 3 ∧ m (o + 10) 3 ≤ 400) ∧ (0 ≤ m (o + 10) 4 ∧ m (o + 10) 4 ≤ 40) ∧ (0 ≤ m (o + 10) 5 ∧ m (o + 10) 5 ≤ 12)) ∧ (0 ≤ c 7 ∧ c 7 ≤ 400) ∧ RB8 (fun k => c (1666 + k)) (c 7) ∧ RSim (fun k => c (1666 + k)) (c 7) (m (o + 10) 3) (m (o + 10) 4) (m (o + 10) 5) (m (o + 11)) (m (o + 12)) (m (o + 13))
def ImA (m : MT) (o : Nat) (c : Nat → Int) : Prop := HsA m o c ∧ RuA m o c
/-- a house copied -/
def cph (mi : MT) (s t : Nat) : MT := wt (cpm (cpm (cpm (cpm (cpm (cpm (cpm (wt (cpm (cpm (cpm (cpm (wt (wt (wt (cpm (cpm (cpm (wt (wt (wt (cpm (cpm (cpm (cpm (cpm mi (s + 3) (t + 3) 0 0 40) (s + 4) (t + 4) 0 0 10) (s + 5) (t + 5) 0 0 20) (s + 6) (t + 6) 0 0 20) (s + 7) (t + 7) 0 0 4) (t + 2) 8 (mi (s + 2) 8)) (t + 2) 9 (mi (s + 2) 9)) (t + 2) 10 (mi (s + 2) 10)) (s + 11) (t + 11) 0 0 (mi (s + 10) 3).toNat) (s + 12) (t + 12) 0 0 (mi (s + 10) 5).toNat) (s + 13) (t + 13) 0 0 (mi (s + 10) 4).toNat) (t + 10) 3 (mi (s + 10) 3)) (t + 10) 4 (mi (s + 10) 4)) (t + 10) 5 (mi (s + 10) 5)) (s + 15) (t + 15) 0 0 2) (s + 16) (t + 16) 0 0 (mi (s + 14) 5).toNat) (s + 17) (t + 17) 0 0 (mi (s + 14) 5).toNat) (s + 18) (t + 18) 0 0 (mi (s + 14) 5 * 4).toNat) (t + 14) 5 (mi (s + 14) 5)) (s + 21) (t + 21) 0 0 16) (s + 22) (t + 22) 0 0 4) (s + 23) (t + 23) 0 0 120) (s + 24) (t + 24) 0 0 (mi (s + 20) 9).toNat) (s + 25) (t + 25) 0 0 (mi (s + 20) 9).toNat) (s + 26) (t + 26) 0 0 (mi (s + 20) 9).toNat) (s + 28) (t + 28) 0 0 3) (t + 20) 9 (mi (s + 20) 9)
def STs (s t : Nat) : Prop := (s = 0 ∧ t = 30) ∨ (s = 0 ∧ t = 59) ∨ (s = 30 ∧ t = 0) ∨ (s = 59 ∧ t = 0)
theorem cph_f {s t k : Nat} (hk : ¬ (t + 2 ≤ k ∧ k ≤ t + 28)) : cph mi s t k = mi k := by
  unfold cph
  simp only [wt_r, cpm_r]
  repeat rw [if_neg (by omega)]
theorem cph_b {s t : Nat} (h : STs s t) : cph mi s t (t + 2) 8 = mi (s + 2) 8 ∧ cph mi s t (t + 2) 9 = mi (s + 2) 9 ∧ cph mi s t (t + 2) 10 = mi (s + 2) 10 ∧ cph mi s t (t + 3) = cpy (mi (s + 3)) (mi (t + 3)) 0 0 40 ∧ cph mi s t (t + 4) = cpy (mi (s + 4)) (mi (t + 4)) 0 0 10 ∧ cph mi s t (t + 5) = cpy (mi (s + 5)) (mi (t + 5)) 0 0 20 ∧ cph mi s t (t + 6) = cpy (mi (s + 6)) (mi (t + 6)) 0 0 20 ∧ cph mi s t (t + 7) = cpy (mi (s + 7)) (mi (t + 7)) 0 0 4 := by
  rcases h with ⟨rfl, rfl⟩ | ⟨rfl, rfl⟩ | ⟨rfl, rfl⟩ | ⟨rfl, rfl⟩ <;> exact ⟨rfl, rfl, rfl, rfl, rfl, rfl, rfl, rfl⟩
theorem cph_u {s t : Nat} (h : STs s t) : cph mi s t (t + 10) 3 = mi (s + 10) 3 ∧ cph mi s t (t + 10) 4 = mi (s + 10) 4 ∧ cph mi s t (t + 10) 5 = mi (s + 10) 5 ∧ cph mi s t (t + 11) = cpy (mi (s + 11)) (mi (t + 11)) 0 0 (mi (s + 10) 3).toNat ∧ cph mi s t (t + 12) = cpy (mi (s + 12)) (mi (t + 12)) 0 0 (mi (s + 10) 5).toNat ∧ cph mi s t (t + 13) = cpy (mi (s + 13)) (mi (t + 13)) 0 0 (mi (s + 10) 4).toNat := by
  rcases h with ⟨rfl, rfl⟩ | ⟨rfl, rfl⟩ | ⟨rfl, rfl⟩ | ⟨rfl, rfl⟩ <;> exact ⟨rfl, rfl, rfl, rfl, rfl, rfl⟩
theorem cph_w {s t : Nat} (h : STs s t) : cph mi s t (t + 14) 5 = mi (s + 14) 5 ∧ cph mi s t (t + 15) = cpy (mi (s + 15)) (mi (t + 15)) 0 0 2 ∧ cph mi s t (t + 16) = cpy (mi (s + 16)) (mi (t + 16)) 0 0 (mi (s + 14) 5).toNat ∧ cph mi s t (t + 17) = cpy (mi (s + 17)) (mi (t + 17)) 0 0 (mi (s + 14) 5).toNat ∧ cph mi s t (t + 18) = cpy (mi (s + 18)) (mi (t + 18)) 0 0 (mi (s + 14) 5 * 4).toNat := by
  rcases h with ⟨rfl, rfl⟩ | ⟨rfl, rfl⟩ | ⟨rfl, rfl⟩ | ⟨rfl, rfl⟩ <;> exact ⟨rfl, rfl, rfl, rfl, rfl⟩
theorem cph_o {s t : Nat} (h : STs s t) : cph mi s t (t + 20) 9 = mi (s + 20) 9 ∧ cph mi s t (t + 21) = cpy (mi (s + 21)) (mi (t + 21)) 0 0 16 ∧ cph mi s t (t + 22) = cpy (mi (s + 22)) (mi (t + 22)) 0 0 4 ∧ cph mi s t (t + 23) = cpy (mi (s + 23)) (mi (t + 23)) 0 0 120 ∧ cph mi s t (t + 24) = cpy (mi (s + 24)) (mi (t + 24)) 0 0 (mi (s + 20) 9).toNat ∧ cph mi s t (t + 25) = cpy (mi (s + 25)) (mi (t + 25)) 0 0 (mi (s + 20) 9).toNat ∧ cph mi s t (t + 26) = cpy (mi (s + 26)) (mi (t + 26)) 0 0 (mi (s + 20) 9).toNat ∧ cph mi s t (t + 28) = cpy (mi (s + 28)) (mi (t + 28)) 0 0 3 := by
  rcases h with ⟨rfl, rfl⟩ | ⟨rfl, rfl⟩ | ⟨rfl, rfl⟩ | ⟨rfl, rfl⟩ <;> exact ⟨rfl, rfl, rfl, rfl, rfl, rfl, rfl, rfl⟩
theorem cpy0 {f g : Nat → Int} {n j : Nat} (h : j < n) : cpy f g 0 0 n j = f j := by
  rw [cpy_at, if_pos (by omega)]; congr 1; omega
theorem cph_H {s t : Nat} (hs : STs s t) (h : HsA mi s c) (hc : ∀ j : Nat, j ≠ 7 → j < 1666 → c' j = c j) : HsA (cph mi s t) t c' := by
  obtain ⟨h1, h2, h3, h4, h5, h6, h7, h8, h9, h10⟩ := h
  obtain ⟨b1, b2, b3, b4, b5, b6, b7, b8⟩ := cph_b (mi := mi) hs
  obtain ⟨w1, w2, w3, w4, w5⟩ := cph_w (mi := mi) hs
  obtain ⟨o1, o2, o3, o4, o5, o6, o7, o8⟩ := cph_o (mi := mi) hs
  have n1 := h6.1
  have n2 := h6.2.1
  have m1 := h9.1
  have m2 := h9.2.1
  have c10 : c' 0 ≤ 10 := by rw [hc 0 (by decide) (by decide)]; exact h1.2.1.2
  refine ⟨P_num_g h1 (fun j a => hc j (by omega) (by omega)) ⟨b1, b2, b3⟩, P_sgn_r (P_sgn_g h2 (hc 0 (by decide) (by decide)) (fun j a b => hc j (by omega) (by omega))) c10 (fun j hj => by rw [b4]; exact cpy0 hj) (fun j hj => by rw [b5]; exact cpy0 hj), P_xy_r (P_xy_g h3 (fun j a b => hc j (by omega) (by omega))) (fun j hj => by rw [b6]; exact cpy0 hj) (fun j hj => by rw [b7]; exact cpy0 hj), P_w_r (P_w_g h4 (fun j a b => hc j (by omega) (by omega))) (fun j hj => by rw [b8]; exact cpy0 hj), P_tr_r (P_tr_g h5 (fun j a b => hc j (by omega) (by omega))) (fun j hj => by rw [w2]; exact cpy0 hj), P_si_r (P_si_g h6 (hc 1 (by decide) (by decide)) (fun j a b => hc j (by omega) (by omega))) w1 (fun j hj => by rw [w3]; exact cpy0 (by omega)) (fun j hj => by rw [w4]; exact cpy0 (by omega)) (fun j hj => by rw [w5]; exact cpy0 (by omega)), P_va_r (P_va_g h7 (fun j a b => hc j (by omega) (by omega))) (fun j hj => by rw [o2]; exact cpy0 hj) (fun j hj => by rw [o3]; exact cpy0 hj), P_us_r (P_us_g h8 (fun j a b => hc j (by omega) (by omega))) (fun j hj => by rw [o4]; exact cpy0 hj), P_ud_r (P_ud_g h9 (hc 2 (by decide) (by decide)) (fun j a b => hc j (by omega) (by omega))) o1 (fun j hj => by rw [o5]; exact cpy0 (by omega)) (fun j hj => by rw [o6]; exact cpy0 (by omega)) (fun j hj => by rw [o7]; exact cpy0 (by omega)), P_pr_r (P_pr_g h10 (fun j a b => hc j (by omega) (by omega))) (fun j hj => by rw [o8]; exact cpy0 hj)⟩
theorem cph_R {s t : Nat} (hs : STs s t) (h : RuA mi s c) (e7 : c' 7 = c 7) (hc : ∀ j : Nat, 1666 ≤ j → j < 2066 → c' j = c j) : RuA (cph mi s t) t c' := by
  obtain ⟨u1, u2, u3, u4, u5, u6⟩ := cph_u (mi := mi) hs
  obtain ⟨g1, g2, g3, g4⟩ := h
  unfold RuA
  rw [u1, u2, u3, e7]
  have ex : ∀ k : Int, 0 ≤ k → k < c 7 → (fun k => c' (1666 + k)) k.toNat = (fun k => c (1666 + k)) k.toNat := fun k a b => hc _ (by omega) (by omega)
  exact ⟨g1, g2, fun k a b => by rw [ex k a b]; exact g3 k a b, RSim_r (RSim_cg g4 (fun j hj => by rw [u4]; exact cpy0 (by omega)) (fun j hj => by rw [u5]; exact cpy0 (by omega)) (fun j hj => by rw [u6]; exact cpy0 (by omega))) ex⟩
theorem ImA_f {m m2 : MT} {o : Nat} (h : ImA m o c) (e : ∀ k : Nat, o + 2 ≤ k → k ≤ o + 28 → m2 k = m k) : ImA m2 o c := by
  unfold ImA HsA RuA
  simp (disch := omega) only [e]
  exact h
theorem ImA_c {m : MT} {o : Nat} (h : ImA m o c) (hc : ∀ j : Nat, j < 2066 → c' j = c j) : ImA m o c' := by
  obtain ⟨⟨h1, h2, h3, h4, h5, h6, h7, h8, h9, h10⟩, g1, g2, g3, g4⟩ := h
  have ex : ∀ k : Int, 0 ≤ k → k < c 7 → (fun k => c' (1666 + k)) k.toNat = (fun k => c (1666 + k)) k.toNat := fun k a b => hc _ (by omega)
  have e7 := hc 7 (by decide)
  refine ⟨⟨P_num_g h1 (fun j a => hc j (by omega)) ⟨rfl, rfl, rfl⟩, P_sgn_g h2 (hc 0 (by decide)) (fun j a b => hc j (by omega)), P_xy_g h3 (fun j a b => hc j (by omega)), P_w_g h4 (fun j a b => hc j (by omega)), P_tr_g h5 (fun j a b => hc j (by omega)), P_si_g h6 (hc 1 (by decide)) (fun j a b => hc j (by omega)), P_va_g h7 (fun j a b => hc j (by omega)), P_us_g h8 (fun j a b => hc j (by omega)), P_ud_g h9 (hc 2 (by decide)) (fun j a b => hc j (by omega)), P_pr_g h10 (fun j a b => hc j (by omega))⟩, g1, by rw [e7]; exact g2, by rw [e7]; intro k a b; rw [ex k a b]; exact g3 k a b, by rw [e7]; exact RSim_r g4 ex⟩
/-- the images -/
def Img (m : MT) : Prop := (m 89 0 = m 137 0 ∧ m 89 1 = m 137 1) ∧ (¬ m 89 0 = 0 → ImA m 30 (m 136)) ∧ (¬ m 89 1 = 0 → ImA m 59 (fun j => m 136 (2066 + j)))
theorem Img_of {m m2 : MT} (h : Img m) (e : ∀ k : Nat, (31 ≤ k ∧ k ≤ 89) ∨ k = 136 ∨ k = 137 → m2 k = m k) : Img m2 := by
  unfold Img
  rw [e 89 (by omega), e 136 (by omega), e 137 (by omega)]
  exact ⟨h.1, fun q => ImA_f (h.2.1 q) (fun k a b => e k (by omega)), fun q => ImA_f (h.2.2 q) (fun k a b => e k (by omega))⟩
theorem kpr_im {k : Nat} (h : (31 ≤ k ∧ k ≤ 89) ∨ k = 136 ∨ k = 137) : kpr k = true := by
  unfold kpr
  simp only [Bool.or_eq_true, Bool.and_eq_true, decide_eq_true_eq]
  omega
theorem Img_kp {m m2 : MT} (h : Img m) (k : Kp m m2) : Img m2 := Img_of h (fun j hj => k.1 j (kpr_im hj))
theorem Img_kr {m m2 : MT} (h : Img m) (k : Kr m m2) : Img m2 := Img_of h (fun j hj => k.1 j (kpr_im hj) (by omega) (by omega))
theorem Lat_kr {m m2 : MT} (h : Lat m) (k : Kr m m2) : Lat m2 := by
  unfold Lat
  rw [k.2.1, k.2.2 50 (by omega) (by omega), k.2.2 51 (by omega) (by omega), k.2.2 52 (by omega) (by omega), k.1 117 rfl (by omega) (by omega), k.1 122 rfl (by omega) (by omega), k.1 123 rfl (by omega) (by omega), k.1 124 rfl (by omega) (by omega), k.1 165 rfl (by omega) (by omega), k.1 166 rfl (by omega) (by omega), k.1 167 rfl (by omega) (by omega)]
  exact h
/-- what holds between two calls -/
def Inv (m : MT) : Prop := Base m ∧ Rul m ∧ Lat m ∧ Img m
def Ith (z z' : Int) (mi m2 : MT) : Prop := Jd (z = z' ∧ Inv m2 ∧ m2 1000 = mi 1000)
theorem Ith.mk {z z' : Int} {mi m2 : MT} (h : z = z') (hb : Inv m2) (hk : m2 1000 = mi 1000) : Ith z z' mi m2 := Jd.mk ⟨h, hb, hk⟩
theorem Inv_kp {m m2 : MT} (h : Inv m) (b : Base m2) (k : Kp m m2) : Inv m2 := ⟨b, Rul_kp h.2.1 k, Lat_kp h.2.2.1 k, Img_kp h.2.2.2 k⟩
theorem live_ImA (hI : Base mi) (hU : Rul mi) : ImA mi 0 (mi 135) := by
  refine ⟨?_, ⟨⟨hU.1.1.1, hU.1.1.2, hU.1.2.2.2.1.2⟩, hU.2.1, hU.2.2.1, hU.2.2.2⟩⟩
  unfold HsA
  exact hI.2.2
theorem Lat_w0 {m : MT} {i : Nat} {z : Int} (h : Lat m) (hi : i ≠ 11) : Lat (wt m 0 i z) := Lat_kp h (Kp.w0 (Kp.rfl' _) hi)
theorem Lat_f {m m2 : MT} (h : Lat m) (e0 : m2 0 11 = m 0 11) (e4 : ∀ j : Nat, 50 ≤ j → j ≤ 52 → m2 134 j = m 134 j) (e : ∀ k : Nat, k = 117 ∨ (122 ≤ k ∧ k ≤ 124) ∨ (165 ≤ k ∧ k ≤ 167) → m2 k = m k) : Lat m2 := by
  unfold Lat
  rw [e0, e4 50 (by omega) (by omega), e4 51 (by omega) (by omega), e4 52 (by omega) (by omega), e 117 (by omega), e 122 (by omega), e 123 (by omega), e 124 (by omega), e 165 (by omega), e 166 (by omega), e 167 (by omega)]
  exact h
end BACK
