/-! what holds between the class and the reference -/
def sg8 (v : Int) : Int := if v < 128 then v else v - 256
def P_stat (h mo : Nat → Int) : Prop := h 13 = mo 3 ∧ h 12 = mo 11
def P_tape (o by' mo t : Nat → Int) : Prop := (0 ≤ o 3 ∧ o 3 ≤ 400) ∧ mo 7 = o 3 ∧ ∀ k : Int, 0 ≤ k → k < o 3 → (0 ≤ by' k.toNat ∧ by' k.toNat < 256) ∧ t k.toNat = sg8 (by' k.toNat)
def P_num (bo c : Nat → Int) : Prop := bo 8 = c 0 ∧ (0 ≤ c 0 ∧ c 0 ≤ 10) ∧ bo 9 = c 3 ∧ (0 ≤ c 3 ∧ c 3 ≤ 1000) ∧ bo 10 = c 4 ∧ (0 ≤ c 4 ∧ c 4 ≤ 1000)
def P_sgn (st sz c : Nat → Int) : Prop := ∀ s : Int, 0 ≤ s → s < c 0 → s < 10 → sz s.toNat = c (16 + 17 * s).toNat ∧ (1 ≤ sz s.toNat ∧ sz s.toNat ≤ 4) ∧ (∀ k : Int, 0 ≤ k → k < sz s.toNat → (0 ≤ st (s * 4 + k).toNat ∧ st (s * 4 + k).toNat < 1048576) ∧ ∀ m : Int, 0 ≤ m → m < 4 → mkv (st (s * 4 + k).toNat) m = c (16 + 17 * s + 1 + 4 * k + m).toNat ∧ 0 ≤ c (16 + 17 * s + 1 + 4 * k + m).toNat ∧ c (16 + 17 * s + 1 + 4 * k + m).toNat < mxv m) ∧ (∀ k : Int, sz s.toNat ≤ k → k < 4 → ∀ m : Int, 0 ≤ m → m < 4 → c (16 + 17 * s + 1 + 4 * k + m).toNat = -1)
def P_xy (xs ys c : Nat → Int) : Prop := ∀ k : Int, 0 ≤ k → k < 20 → xs k.toNat = c (186 + 2 * k).toNat ∧ ys k.toNat = c (186 + 2 * k + 1).toNat ∧ (0 ≤ xs k.toNat ∧ xs k.toNat ≤ 20) ∧ (0 ≤ ys k.toNat ∧ ys k.toNat ≤ 20)
def P_w (w c : Nat → Int) : Prop := ∀ k : Int, 0 ≤ k → k < 4 → w k.toNat = c (8 + k).toNat ∧ 0 ≤ w k.toNat ∧ w k.toNat ≤ 20
def P_tr (t c : Nat → Int) : Prop := ∀ k : Int, 0 ≤ k → k < 2 → t k.toNat = c (5 + k).toNat ∧ 0 ≤ t k.toNat ∧ t k.toNat ≤ 100
def P_si (wo sl da ma c : Nat → Int) : Prop := wo 5 = c 1 ∧ (0 ≤ c 1 ∧ c 1 ≤ 120) ∧ ∀ i : Int, 0 ≤ i → i < c 1 → (0 ≤ c (226 + 7 * i).toNat ∧ c (226 + 7 * i).toNat ≤ 1) ∧ (0 ≤ c (226 + 7 * i + 1).toNat ∧ c (226 + 7 * i + 1).toNat ≤ 19) ∧ sl i.toNat = c (226 + 7 * i).toNat * 20 + c (226 + 7 * i + 1).toNat ∧ da i.toNat = c (226 + 7 * i + 6).toNat ∧ (0 ≤ da i.toNat ∧ da i.toNat ≤ 999) ∧ ∀ k : Int, 0 ≤ k → k < 4 → ma (i * 4 + k).toNat = c (226 + 7 * i + 2 + k).toNat ∧ -1 ≤ c (226 + 7 * i + 2 + k).toNat ∧ c (226 + 7 * i + 2 + k).toNat < mxv k
def P_va (vs vc c : Nat → Int) : Prop := ∀ k : Int, 0 ≤ k → k < 4 → vc k.toNat = c (1066 + 5 * k).toNat ∧ (0 ≤ vc k.toNat ∧ vc k.toNat ≤ 4) ∧ ∀ v : Int, 0 ≤ v → v < vc k.toNat → vs (k * 4 + v).toNat = c (1066 + 5 * k + 1 + v).toNat ∧ 0 ≤ vs (k * 4 + v).toNat ∧ vs (k * 4 + v).toNat < 10
def P_us (pa c : Nat → Int) : Prop := ∀ k : Int, 0 ≤ k → k < 4 → ∀ s : Int, 0 ≤ s → s < 10 → ∀ r : Int, 0 ≤ r → r < 3 → pa ((k * 10 + s) * 3 + r).toNat = c (1106 + 40 * k + 4 * s + r).toNat ∧ 0 ≤ pa ((k * 10 + s) * 3 + r).toNat ∧ pa ((k * 10 + s) * 3 + r).toNat ≤ 9
def P_ud (fo us si da c : Nat → Int) : Prop := fo 9 = c 2 ∧ (0 ≤ c 2 ∧ c 2 ≤ 60) ∧ ∀ i : Int, 0 ≤ i → i < c 2 → us i.toNat = c (1426 + 4 * i).toNat * 4 + c (1426 + 4 * i + 1).toNat ∧ (0 ≤ c (1426 + 4 * i).toNat ∧ c (1426 + 4 * i).toNat ≤ 9) ∧ (0 ≤ c (1426 + 4 * i + 1).toNat ∧ c (1426 + 4 * i + 1).toNat ≤ 3) ∧ si i.toNat = c (1426 + 4 * i + 2).toNat ∧ (0 ≤ si i.toNat ∧ si i.toNat < 10) ∧ da i.toNat = c (1426 + 4 * i + 3).toNat ∧ 0 ≤ da i.toNat ∧ da i.toNat ≤ 999
def P_pr (pr c : Nat → Int) : Prop := ∀ r : Int, 0 ≤ r → r < 3 → pr r.toNat = c (12 + r).toNat ∧ 1 ≤ pr r.toNat ∧ pr r.toNat ≤ 100
def Hs (bo st sz xs ys w wo tr sl da ma fo vs vc pa us si dd pr c : Nat → Int) : Prop :=
  P_num bo c ∧ P_sgn st sz c ∧ P_xy xs ys c ∧ P_w w c ∧ P_tr tr c ∧ P_si wo sl da ma c ∧ P_va vs vc c ∧ P_us pa c ∧ P_ud fo us si dd c ∧ P_pr pr c
def Base (mi : MT) : Prop := P_stat (mi 0) (mi 134) ∧ P_tape (mi 90) (mi 91) (mi 134) (mi 138) ∧
  Hs (mi 2) (mi 3) (mi 4) (mi 5) (mi 6) (mi 7) (mi 14) (mi 15) (mi 16) (mi 17) (mi 18) (mi 20) (mi 21) (mi 22) (mi 23) (mi 24) (mi 25) (mi 26) (mi 28) (mi 135)
/-- cells that hold what lasts, beside the live house's own numbers -/
def kpr (k : Nat) : Bool := (decide (10 ≤ k) && decide (k ≤ 13)) || (decide (31 ≤ k) && decide (k ≤ 89)) || decide (k = 117) || (decide (122 ≤ k) && decide (k ≤ 124)) || decide (k = 136) || decide (k = 137) || (decide (142 ≤ k) && decide (k ≤ 151)) || (decide (153 ≤ k) && decide (k ≤ 157)) || (decide (165 ≤ k) && decide (k ≤ 167)) || decide (k = 1000)
def Kp (mi mi' : MT) : Prop := (∀ k, kpr k = true → mi' k = mi k) ∧ (∀ j, (j = 7 ∨ 1666 ≤ j) → mi' 135 j = mi 135 j) ∧ mi' 0 11 = mi 0 11 ∧ (∀ j, (j = 15 ∨ (50 ≤ j ∧ j ≤ 52)) → mi' 134 j = mi 134 j)
theorem Kp.rfl' (mi : MT) : Kp mi mi := ⟨fun _ _ => rfl, fun _ _ => rfl, rfl, fun _ _ => rfl⟩
theorem Kp.trans {a b c : MT} (h1 : Kp a b) (h2 : Kp b c) : Kp a c := ⟨fun k hk => (h2.1 k hk).trans (h1.1 k hk), fun j hj => (h2.2.1 j hj).trans (h1.2.1 j hj), h2.2.2.1.trans h1.2.2.1, fun j hj => (h2.2.2.2 j hj).trans (h1.2.2.2 j hj)⟩
/-- a row that Kp doesn't hold, laid anew -/
theorem Kp.row {mi mi' : MT} {h : Nat} {r : Nat → Int} (hk : Kp mi mi') (hh : kpr h = false) (h0 : h = 0 → r 11 = mi' 0 11) (h135 : h = 135 → ∀ j, (j = 7 ∨ 1666 ≤ j) → r j = mi' 135 j) (h134 : h = 134 → ∀ j, (j = 15 ∨ (50 ≤ j ∧ j ≤ 52)) → r j = mi' 134 j) : Kp mi (sv mi' h r) := by
  refine ⟨fun k q => ?_, fun i q => ?_, ?_, fun i q => ?_⟩
  · rw [svc, if_neg (fun e => by subst e; rw [hh] at q; cases q)]; exact hk.1 k q
  · rw [svc]
    split
    · rename_i e; rw [h135 e.symm i q]; exact hk.2.1 i q
    · exact hk.2.1 i q
  · rw [svc]
    split
    · rename_i e; rw [h0 e.symm]; exact hk.2.2.1
    · exact hk.2.2.1
  · rw [svc]
    split
    · rename_i e; rw [h134 e.symm i q]; exact hk.2.2.2 i q
    · exact hk.2.2.2 i q
theorem Kp.o {mi mi' : MT} {h : Nat} {r : Nat → Int} (hk : Kp mi mi') (hh : (kpr h = false ∧ h ≠ 0) ∧ h ≠ 134 ∧ h ≠ 135) : Kp mi (sv mi' h r) := hk.row hh.1.1 (fun e => absurd e hh.1.2) (fun e => absurd e hh.2.2) (fun e => absurd e hh.2.1)
theorem Kp.wo {mi mi' : MT} {h i : Nat} {z : Int} (hk : Kp mi mi') (hh : (kpr h = false ∧ h ≠ 0) ∧ h ≠ 134 ∧ h ≠ 135) : Kp mi (wt mi' h i z) := hk.o hh
theorem Kp.w0 {mi mi' : MT} {i : Nat} {z : Int} (hk : Kp mi mi') (hi : i ≠ 11) : Kp mi (wt mi' 0 i z) := hk.row rfl (fun _ => sv_ne _ _ (fun e => hi e.symm)) (fun e => absurd e (by decide)) (fun e => absurd e (by decide))
theorem Kp.w134 {mi mi' : MT} {i : Nat} {z : Int} (hk : Kp mi mi') (hi : i ≠ 15 ∧ (i < 50 ∨ 52 < i)) : Kp mi (wt mi' 134 i z) := hk.row rfl (fun e => absurd e (by decide)) (fun e => absurd e (by decide)) (fun _ j hj => sv_ne _ _ (by omega))
theorem Kp.w135 {mi mi' : MT} {i : Nat} {z : Int} (hk : Kp mi mi') (hi : i ≠ 7 ∧ i < 1666) : Kp mi (wt mi' 135 i z) := hk.row rfl (fun e => absurd e (by decide)) (fun _ j hj => sv_ne _ _ (by omega)) (fun e => absurd e (by decide))
theorem Kp.cp {mi mi' : MT} {h0 h1 a b n : Nat} (hk : Kp mi mi') (hh : (kpr h1 = false ∧ h1 ≠ 0) ∧ h1 ≠ 134 ∧ h1 ≠ 135) : Kp mi (cpm mi' h0 h1 a b n) := hk.o hh
def PK (mi mi2 : MT) : Prop := Base mi2 ∧ Kp mi mi2
/-- what a call of the law owes -/
def Bth (z z' : Int) (mi m2 : MT) : Prop := Jd (z = z' ∧ PK mi m2)
theorem Bth.mk {z z' : Int} {mi m2 : MT} (h : z = z') (hb : Base m2) (hk : Kp mi m2) : Bth z z' mi m2 := Jd.mk ⟨h, hb, hk⟩
theorem Bth.ref {z : Int} {mi m2 : MT} (h : PK mi m2) : Bth z z mi m2 := Jd.mk ⟨rfl, h⟩
theorem PK.trans {a b c : MT} (h1 : Kp a b) (h2 : PK b c) : PK a c := ⟨h2.1, h1.trans h2.2⟩
section FR
variable {c : Nat → Int} {i : Nat} {v : Int}
theorem svn (f : Nat → Int) {k : Nat} (r : Int) {j : Nat} (h : j ≠ k) : sv f k r j = f j := by rw [svr, if_neg h]
theorem P_num_c {bo : Nat → Int} (h : P_num bo c) (hi : i ≠ 0 ∧ i ≠ 3 ∧ i ≠ 4) : P_num bo (sv c i v) := by
  unfold P_num; rw [svn c v (by omega : 0 ≠ i), svn c v (by omega : 3 ≠ i), svn c v (by omega : 4 ≠ i)]; exact h
theorem P_sgn_c {st sz : Nat → Int} (h : P_sgn st sz c) (hi : i ≠ 0 ∧ (i < 16 ∨ 186 ≤ i)) : P_sgn st sz (sv c i v) := by
  intro s hs0 hs hs10
  rw [svn c v (by omega)] at hs
  obtain ⟨g1, g2, g3, g4⟩ := h s hs0 hs hs10
  refine ⟨by rw [svn c v (by omega)]; exact g1, g2, fun k hk hk2 => ?_, fun k hk hk2 m hm hm2 => ?_⟩
  · obtain ⟨e1, e2⟩ := g3 k hk hk2
    exact ⟨e1, fun m hm hm2 => by rw [svn c v (by omega)]; exact e2 m hm hm2⟩
  · rw [svn c v (by omega)]; exact g4 k hk hk2 m hm hm2
theorem P_xy_c {xs ys : Nat → Int} (h : P_xy xs ys c) (hi : i < 186 ∨ 226 ≤ i) : P_xy xs ys (sv c i v) := by
  intro k hk hk2
  rw [svn c v (by omega), svn c v (by omega)]; exact h k hk hk2
theorem P_w_c {w : Nat → Int} (h : P_w w c) (hi : i < 8 ∨ 12 ≤ i) : P_w w (sv c i v) := by
  intro k hk hk2
  rw [svn c v (by omega)]; exact h k hk hk2
theorem P_tr_c {w : Nat → Int} (h : P_tr w c) (hi : i < 5 ∨ 7 ≤ i) : P_tr w (sv c i v) := by
  intro k hk hk2
  rw [svn c v (by omega)]; exact h k hk hk2
theorem P_pr_c {w : Nat → Int} (h : P_pr w c) (hi : i < 12 ∨ 15 ≤ i) : P_pr w (sv c i v) := by
  intro k hk hk2
  rw [svn c v (by omega)]; exact h k hk hk2
theorem P_si_c {wo sl da ma : Nat → Int} (h : P_si wo sl da ma c) (hi : i ≠ 1 ∧ (i < 226 ∨ 1066 ≤ i)) : P_si wo sl da ma (sv c i v) := by
  obtain ⟨h1, h2, h3⟩ := h
  refine ⟨by rw [svn c v (by omega)]; exact h1, by rw [svn c v (by omega)]; exact h2, fun k hk hk2 => ?_⟩
  rw [svn c v (by omega)] at hk2
  rw [svn c v (by omega), svn c v (by omega), svn c v (by omega)]
  obtain ⟨g1, g2, g3, g4, g5, g6⟩ := h3 k hk hk2
  exact ⟨g1, g2, g3, g4, g5, fun m hm hm2 => by rw [svn c v (by omega)]; exact g6 m hm hm2⟩
theorem P_va_c {vs vc : Nat → Int} (h : P_va vs vc c) (hi : i < 1066 ∨ 1086 ≤ i) : P_va vs vc (sv c i v) := by
  intro k hk hk2
  obtain ⟨g1, g2, g3⟩ := h k hk hk2
  exact ⟨by rw [svn c v (by omega)]; exact g1, g2, fun w hw hw2 => by rw [svn c v (by omega)]; exact g3 w hw hw2⟩
theorem P_us_c {pa : Nat → Int} (h : P_us pa c) (hi : i < 1106 ∨ 1426 ≤ i) : P_us pa (sv c i v) := by
  intro k hk hk2 s hs hs2 r hr hr2
  rw [svn c v (by omega)]; exact h k hk hk2 s hs hs2 r hr hr2
theorem P_ud_c {fo us si da : Nat → Int} (h : P_ud fo us si da c) (hi : i ≠ 2 ∧ (i < 1426 ∨ 1666 ≤ i)) : P_ud fo us si da (sv c i v) := by
  obtain ⟨h1, h2, h3⟩ := h
  refine ⟨by rw [svn c v (by omega)]; exact h1, by rw [svn c v (by omega)]; exact h2, fun k hk hk2 => ?_⟩
  rw [svn c v (by omega)] at hk2
  rw [svn c v (by omega), svn c v (by omega), svn c v (by omega), svn c v (by omega)]
  exact h3 k hk hk2
theorem P_stat_c {h mo : Nat → Int} {z : Int} (g : P_stat h mo) : P_stat (sv h 13 z) (sv mo 3 z) := by
  unfold P_stat; rw [sv_eq, sv_eq, svn h z (by decide), svn mo z (by decide)]; exact ⟨rfl, g.2⟩
theorem P_stat_m {h mo : Nat → Int} (g : P_stat h mo) (hi : i ≠ 3 ∧ i ≠ 11) : P_stat h (sv mo i v) := by
  unfold P_stat; rw [svn mo v (by omega : 3 ≠ i), svn mo v (by omega : 11 ≠ i)]; exact g
theorem P_stat_h {h mo : Nat → Int} (g : P_stat h mo) (hi : i ≠ 13 ∧ i ≠ 12) : P_stat (sv h i v) mo := by
  unfold P_stat; rw [svn h v (by omega : 13 ≠ i), svn h v (by omega : 12 ≠ i)]; exact g
theorem P_tape_m {o t mo s : Nat → Int} (h : P_tape o t mo s) (hi : i ≠ 7) : P_tape o t (sv mo i v) s := by
  unfold P_tape; rw [svn mo v (by omega : 7 ≠ i)]; exact h
theorem P_num_b {bo : Nat → Int} (h : P_num bo c) (hi : i < 8 ∨ 10 < i) : P_num (sv bo i v) c := by
  unfold P_num; rw [svn bo v (by omega : 8 ≠ i), svn bo v (by omega : 9 ≠ i), svn bo v (by omega : 10 ≠ i)]; exact h
end FR
theorem wt_r (mi : MT) (c i : Nat) (z : Int) (k : Nat) : wt mi c i z k = if k = c then sv (mi c) i z else mi k := rfl
theorem cpm_r (mi : MT) (h0 h1 sp dp n k : Nat) : cpm mi h0 h1 sp dp n k = if k = h1 then cpy (mi h0) (mi h1) sp dp n else mi k := rfl
theorem cpy_at (f g : Nat → Int) (sp dp n j : Nat) : cpy f g sp dp n j = if dp ≤ j ∧ j < dp + n then f (sp + (j - dp)) else g j := rfl
