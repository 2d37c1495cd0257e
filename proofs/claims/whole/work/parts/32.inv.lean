/-! what holds between the class and the reference -/
def sg8 (v : Int) : Int := if v < 128 then v else v - 256
def pack (c : Nat → Int) (a : Nat) : Int := c a + 256 * c (a + 1) + 8192 * c (a + 2) + 65536 * c (a + 3)
def mst (k : Nat) : Int := if k = 0 then 243 else if k = 1 then 20 else if k = 2 then 8 else 10
def P_stat (h mo : Nat → Int) : Prop := h 13 = mo 3 ∧ h 12 = mo 11
def P_tape (o by' mo t : Nat → Int) : Prop := 0 ≤ o 3 ∧ o 3 ≤ 400 ∧ mo 7 = o 3 ∧ ∀ k : Nat, (k : Int) < o 3 → 0 ≤ by' k ∧ by' k < 256 ∧ t k = sg8 (by' k)
def P_num (bo c : Nat → Int) : Prop := bo 8 = c 0 ∧ (0 ≤ c 0 ∧ c 0 ≤ 10) ∧ bo 9 = c 3 ∧ (0 ≤ c 3 ∧ c 3 ≤ 1000) ∧ bo 10 = c 4 ∧ (0 ≤ c 4 ∧ c 4 ≤ 1000)
def P_sgn (st sz c : Nat → Int) : Prop := ∀ i : Nat, i < 10 → (i : Int) < c 0 → sz i = c (16 + 17 * i) ∧ (1 ≤ sz i ∧ sz i ≤ 4) ∧ (∀ k : Nat, k < 4 → (k : Int) < sz i → st (4 * i + k) = pack c (17 + 17 * i + 4 * k) ∧ ∀ m : Nat, m < 4 → 0 ≤ c (17 + 17 * i + 4 * k + m) ∧ c (17 + 17 * i + 4 * k + m) < mst m) ∧ (∀ k : Nat, k < 4 → sz i ≤ (k : Int) → ∀ m : Nat, m < 4 → c (17 + 17 * i + 4 * k + m) = -1)
def P_xy (xs ys c : Nat → Int) : Prop := ∀ k : Nat, k < 20 → xs k = c (186 + 2 * k) ∧ ys k = c (187 + 2 * k) ∧ (0 ≤ xs k ∧ xs k ≤ 20) ∧ (0 ≤ ys k ∧ ys k ≤ 20)
def P_w (w c : Nat → Int) : Prop := ∀ k : Nat, k < 4 → w k = c (8 + k) ∧ 0 ≤ w k ∧ w k ≤ 20
def P_tr (t c : Nat → Int) : Prop := ∀ k : Nat, k < 2 → t k = c (5 + k) ∧ 0 ≤ t k ∧ t k ≤ 100
def P_si (wo sl da ma c : Nat → Int) : Prop := wo 5 = c 1 ∧ (0 ≤ c 1 ∧ c 1 ≤ 120) ∧ ∀ i : Nat, (i : Int) < c 1 → (0 ≤ c (226 + 7 * i) ∧ c (226 + 7 * i) ≤ 1) ∧ (0 ≤ c (227 + 7 * i) ∧ c (227 + 7 * i) ≤ 19) ∧ sl i = 20 * c (226 + 7 * i) + c (227 + 7 * i) ∧ da i = c (232 + 7 * i) ∧ (0 ≤ da i ∧ da i ≤ 999) ∧ ∀ k : Nat, k < 4 → ma (4 * i + k) = c (228 + 7 * i + k) ∧ -1 ≤ c (228 + 7 * i + k) ∧ c (228 + 7 * i + k) < mst k
def P_va (vs vc c : Nat → Int) : Prop := ∀ k : Nat, k < 4 → vc k = c (1066 + 5 * k) ∧ (0 ≤ vc k ∧ vc k ≤ 4) ∧ ∀ v : Nat, (v : Int) < vc k → vs (4 * k + v) = c (1067 + 5 * k + v) ∧ 0 ≤ vs (4 * k + v) ∧ vs (4 * k + v) < 10
def P_us (pa c : Nat → Int) : Prop := ∀ k : Nat, k < 4 → ∀ s : Nat, s < 10 → ∀ r : Nat, r < 3 → pa (30 * k + 3 * s + r) = c (1106 + 40 * k + 4 * s + r) ∧ 0 ≤ pa (30 * k + 3 * s + r) ∧ pa (30 * k + 3 * s + r) ≤ 9
def P_ud (fo us si da c : Nat → Int) : Prop := fo 9 = c 2 ∧ (0 ≤ c 2 ∧ c 2 ≤ 60) ∧ ∀ i : Nat, (i : Int) < c 2 → us i = 4 * c (1426 + 4 * i) + c (1427 + 4 * i) ∧ (0 ≤ c (1426 + 4 * i) ∧ c (1426 + 4 * i) ≤ 9) ∧ (0 ≤ c (1427 + 4 * i) ∧ c (1427 + 4 * i) ≤ 3) ∧ si i = c (1428 + 4 * i) ∧ (0 ≤ si i ∧ si i < 10) ∧ da i = c (1429 + 4 * i) ∧ 0 ≤ da i ∧ da i ≤ 999
def P_pr (pr c : Nat → Int) : Prop := ∀ r : Nat, r < 3 → pr r = c (12 + r) ∧ 1 ≤ pr r ∧ pr r ≤ 100
def Hs (bo st sz xs ys w wo tr sl da ma fo vs vc pa us si dd pr c : Nat → Int) : Prop :=
  P_num bo c ∧ P_sgn st sz c ∧ P_xy xs ys c ∧ P_w w c ∧ P_tr tr c ∧ P_si wo sl da ma c ∧ P_va vs vc c ∧ P_us pa c ∧ P_ud fo us si dd c ∧ P_pr pr c
def Base (mi : Nat → Nat → Int) : Prop := P_stat (mi 0) (mi 134) ∧ P_tape (mi 90) (mi 91) (mi 134) (mi 138) ∧
  Hs (mi 2) (mi 3) (mi 4) (mi 5) (mi 6) (mi 7) (mi 14) (mi 15) (mi 16) (mi 17) (mi 18) (mi 20) (mi 21) (mi 22) (mi 23) (mi 24) (mi 25) (mi 26) (mi 28) (mi 135)
/-- cells that hold what lasts, beside the live house's own numbers -/
def kpr (k : Nat) : Bool := (decide (10 ≤ k) && decide (k ≤ 13)) || (decide (31 ≤ k) && decide (k ≤ 89)) || decide (k = 117) || (decide (122 ≤ k) && decide (k ≤ 124)) || decide (k = 136) || decide (k = 137) || (decide (142 ≤ k) && decide (k ≤ 151)) || (decide (153 ≤ k) && decide (k ≤ 157)) || (decide (165 ≤ k) && decide (k ≤ 167)) || decide (k = 1000)
def Kp (mi mi' : Nat → Nat → Int) : Prop := (∀ k, kpr k = true → mi' k = mi k) ∧ (∀ j, (j = 7 ∨ 1666 ≤ j) → mi' 135 j = mi 135 j) ∧ mi' 0 11 = mi 0 11 ∧ (∀ j, (j = 15 ∨ (50 ≤ j ∧ j ≤ 52)) → mi' 134 j = mi 134 j)
theorem Kp.rfl' (mi : Nat → Nat → Int) : Kp mi mi := ⟨fun _ _ => rfl, fun _ _ => rfl, rfl, fun _ _ => rfl⟩
theorem Kp.trans {a b c : Nat → Nat → Int} (h1 : Kp a b) (h2 : Kp b c) : Kp a c := ⟨fun k hk => (h2.1 k hk).trans (h1.1 k hk), fun j hj => (h2.2.1 j hj).trans (h1.2.1 j hj), h2.2.2.1.trans h1.2.2.1, fun j hj => (h2.2.2.2 j hj).trans (h1.2.2.2 j hj)⟩
/-- a row that Kp doesn't hold, laid anew -/
theorem Kp.row {mi mi' : Nat → Nat → Int} {h : Nat} {r : Nat → Int} (hk : Kp mi mi') (hh : kpr h = false) (h0 : h = 0 → r 11 = mi' 0 11) (h135 : h = 135 → ∀ j, (j = 7 ∨ 1666 ≤ j) → r j = mi' 135 j) (h134 : h = 134 → ∀ j, (j = 15 ∨ (50 ≤ j ∧ j ≤ 52)) → r j = mi' 134 j) : Kp mi (sv mi' h r) := by
  refine ⟨fun k q => ?_, fun i q => ?_, ?_, fun i q => ?_⟩
  · rw [svc, if_neg (fun e => by subst e; rw [hh] at q; cases q)]; exact hk.1 k q
  · rw [svc]
    split
    · rename_i e; rw [h135 e.symm i q]; exact hk.2.1 i q
    · exact hk.2.1 i q
  · rw [svc]
    split
    · rename_i e; rw [h0 e.symm]; exact hk.2.2.1
    · exact hk.2.2.1
  · rw [svc]
    split
    · rename_i e; rw [h134 e.symm i q]; exact hk.2.2.2 i q
    · exact hk.2.2.2 i q
theorem Kp.o {mi mi' : Nat → Nat → Int} {h : Nat} {r : Nat → Int} (hk : Kp mi mi') (hh : (kpr h = false ∧ h ≠ 0) ∧ h ≠ 134 ∧ h ≠ 135) : Kp mi (sv mi' h r) := hk.row hh.1.1 (fun e => absurd e hh.1.2) (fun e => absurd e hh.2.2) (fun e => absurd e hh.2.1)
theorem Kp.c0 {mi mi' : Nat → Nat → Int} {r : Nat → Int} (hk : Kp mi mi') (h : r 11 = mi' 0 11) : Kp mi (sv mi' 0 r) := hk.row rfl (fun _ => h) (fun e => absurd e (by decide)) (fun e => absurd e (by decide))
theorem Kp.c134 {mi mi' : Nat → Nat → Int} {r : Nat → Int} (hk : Kp mi mi') (h : ∀ j, (j = 15 ∨ (50 ≤ j ∧ j ≤ 52)) → r j = mi' 134 j) : Kp mi (sv mi' 134 r) := hk.row rfl (fun e => absurd e (by decide)) (fun e => absurd e (by decide)) (fun _ => h)
theorem Kp.c135 {mi mi' : Nat → Nat → Int} {r : Nat → Int} (hk : Kp mi mi') (h : ∀ j, (j = 7 ∨ 1666 ≤ j) → r j = mi' 135 j) : Kp mi (sv mi' 135 r) := hk.row rfl (fun e => absurd e (by decide)) (fun _ => h) (fun e => absurd e (by decide))
/-- what a call of the law owes: both answer alike, and all holds again -/
def Both (yc ym d : Nat) (as : List AV) (P : (Nat → Nat → Int) → (Nat → Nat → Int) → Prop) (mi : Nat → Nat → Int) : Prop :=
  WPc yc d 172 (vR (some 0) :: as) (G mi) (fun r M => ∃ z mi', r = some (vI z) ∧ M = G mi' ∧ WPc ym d 172 (vR (some 134) :: as) (G mi') (fun r2 M2 => ∃ mi2, r2 = some (vI z) ∧ M2 = G mi2 ∧ P mi mi2))
def PK (mi mi2 : Nat → Nat → Int) : Prop := Base mi2 ∧ Kp mi mi2
section FR
variable {c : Nat → Int} {i : Nat} {v : Int}
theorem svn (f : Nat → Int) {k : Nat} (r : Int) {j : Nat} (h : j ≠ k) : sv f k r j = f j := by rw [svr, if_neg h]
theorem P_num_c {bo : Nat → Int} (h : P_num bo c) (hi : i ≠ 0 ∧ i ≠ 3 ∧ i ≠ 4) : P_num bo (sv c i v) := by
  unfold P_num; rw [svn c v (by omega : 0 ≠ i), svn c v (by omega : 3 ≠ i), svn c v (by omega : 4 ≠ i)]; exact h
theorem pack_c {a : Nat} (hi : i < a ∨ a + 3 < i) : pack (sv c i v) a = pack c a := by
  unfold pack; rw [svn c v (by omega), svn c v (by omega), svn c v (by omega), svn c v (by omega)]
theorem P_sgn_c {st sz : Nat → Int} (h : P_sgn st sz c) (hi : i ≠ 0 ∧ (i < 16 ∨ 186 ≤ i)) : P_sgn st sz (sv c i v) := by
  intro s hs0 hs
  rw [svn c v (by omega)] at hs
  obtain ⟨g1, g2, g3, g4⟩ := h s hs0 hs
  refine ⟨by rw [svn c v (by omega)]; exact g1, g2, fun k hk hk2 => ?_, fun k hk hk2 m hm => ?_⟩
  · obtain ⟨e1, e2⟩ := g3 k hk hk2
    exact ⟨by rw [pack_c (by omega)]; exact e1, fun m hm => by rw [svn c v (by omega)]; exact e2 m hm⟩
  · rw [svn c v (by omega)]; exact g4 k hk hk2 m hm
theorem P_xy_c {xs ys : Nat → Int} (h : P_xy xs ys c) (hi : i < 186 ∨ 226 ≤ i) : P_xy xs ys (sv c i v) := by
  intro k hk
  rw [svn c v (by omega), svn c v (by omega)]; exact h k hk
theorem P_w_c {w : Nat → Int} (h : P_w w c) (hi : i < 8 ∨ 12 ≤ i) : P_w w (sv c i v) := by
  intro k hk
  rw [svn c v (by omega)]; exact h k hk
theorem P_tr_c {w : Nat → Int} (h : P_tr w c) (hi : i < 5 ∨ 7 ≤ i) : P_tr w (sv c i v) := by
  intro k hk
  rw [svn c v (by omega)]; exact h k hk
theorem P_pr_c {w : Nat → Int} (h : P_pr w c) (hi : i < 12 ∨ 15 ≤ i) : P_pr w (sv c i v) := by
  intro k hk
  rw [svn c v (by omega)]; exact h k hk
theorem P_si_c {wo sl da ma : Nat → Int} (h : P_si wo sl da ma c) (hi : i ≠ 1 ∧ (i < 226 ∨ 1066 ≤ i)) : P_si wo sl da ma (sv c i v) := by
  obtain ⟨h1, h2, h3⟩ := h
  refine ⟨by rw [svn c v (by omega)]; exact h1, by rw [svn c v (by omega)]; exact h2, fun k hk => ?_⟩
  rw [svn c v (by omega)] at hk
  rw [svn c v (by omega), svn c v (by omega), svn c v (by omega)]
  obtain ⟨g1, g2, g3, g4, g5, g6⟩ := h3 k hk
  exact ⟨g1, g2, g3, g4, g5, fun m hm => by rw [svn c v (by omega)]; exact g6 m hm⟩
theorem P_va_c {vs vc : Nat → Int} (h : P_va vs vc c) (hi : i < 1066 ∨ 1086 ≤ i) : P_va vs vc (sv c i v) := by
  intro k hk
  obtain ⟨g1, g2, g3⟩ := h k hk
  exact ⟨by rw [svn c v (by omega)]; exact g1, g2, fun w hw => by rw [svn c v (by omega)]; exact g3 w hw⟩
theorem P_us_c {pa : Nat → Int} (h : P_us pa c) (hi : i < 1106 ∨ 1426 ≤ i) : P_us pa (sv c i v) := by
  intro k hk s hs r hr
  rw [svn c v (by omega)]; exact h k hk s hs r hr
theorem P_ud_c {fo us si da : Nat → Int} (h : P_ud fo us si da c) (hi : i ≠ 2 ∧ (i < 1426 ∨ 1666 ≤ i)) : P_ud fo us si da (sv c i v) := by
  obtain ⟨h1, h2, h3⟩ := h
  refine ⟨by rw [svn c v (by omega)]; exact h1, by rw [svn c v (by omega)]; exact h2, fun k hk => ?_⟩
  rw [svn c v (by omega)] at hk
  rw [svn c v (by omega), svn c v (by omega), svn c v (by omega), svn c v (by omega)]
  exact h3 k hk
theorem P_stat_c {h mo : Nat → Int} {z : Int} (g : P_stat h mo) : P_stat (sv h 13 z) (sv mo 3 z) := by
  unfold P_stat; rw [sv_eq, sv_eq, svn h z (by decide), svn mo z (by decide)]; exact ⟨rfl, g.2⟩
theorem P_tape_m {o t mo s : Nat → Int} (h : P_tape o t mo s) (hi : i ≠ 7) : P_tape o t (sv mo i v) s := by
  unfold P_tape; rw [svn mo v (by omega : 7 ≠ i)]; exact h
end FR
