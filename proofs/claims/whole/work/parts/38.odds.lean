section ODDS
variable {d : Nat} {mi : MT}
/-- what counts of the first n that were told -/
noncomputable def cntF (c : Nat → Int) (s k kn : Int) : Nat → Int
  | 0 => -1
  | i + 1 => if c (1426 + 4 * (i : Int)).toNat = s ∧ c (1426 + 4 * (i : Int) + 1).toNat = k ∧ c (1426 + 4 * (i : Int) + 3).toNat ≤ kn then @ite Int (isV c k (c (1426 + 4 * (i : Int) + 2).toNat)) (Classical.propDecidable _) (c (1426 + 4 * (i : Int) + 2).toNat) (-1) else cntF c s k kn i
noncomputable def cnt (c : Nat → Int) (s k kn : Int) : Int := cntF c s k kn (c 2).toNat
theorem cnt_in {c fo us si da : Nat → Int} {s k kn : Int} (hu : P_ud fo us si da c) : cnt c s k kn = -1 ∨ (0 ≤ cnt c s k kn ∧ cnt c s k kn < 10) := by
  obtain ⟨u1, u2, u3⟩ := hu
  have L : ∀ n : Nat, (n : Int) ≤ c 2 → cntF c s k kn n = -1 ∨ (0 ≤ cntF c s k kn n ∧ cntF c s k kn n < 10) := by
    intro n
    induction n with
    | zero => intro _; exact Or.inl rfl
    | succ n ih =>
      intro hn
      have := u3 n (by omega) (by omega)
      simp only [cntF]
      split
      · split
        · right; omega
        · left; rfl
      · exact ih (by omega)
  exact L _ (by omega)
theorem s_F_counted {P : Int → MT → Prop} {s k kn : Int} (hd : 3 ≤ d) (hs : 0 ≤ s ∧ s < 10) (hk : 0 ≤ k ∧ k < 4) (hv : P_va (mi 21) (mi 22) (mi 135)) (hu : P_ud (mi 20) (mi 24) (mi 25) (mi 26) (mi 135)) (h : P (cnt (mi 135) s k kn) mi) : c_F_counted d s k kn mi P := by
  obtain ⟨u1, u2, u3⟩ := id hu
  have L : ∀ n : Nat, (n : Int) ≤ mi 135 2 → P (cntF (mi 135) s k kn n) mi → h_F_counted_15 d s k kn (s * 4 + k) ((n : Int) - 1) mi P := by
    intro n
    induction n with
    | zero => intro hn hp; exact v_F_counted_15 ⟨fun _ => hp, fun q => by omega⟩
    | succ n ih =>
      intro hn hp
      have e := u3 n (by omega) (by omega)
      rw [show ((n + 1 : Nat) : Int) - 1 = n by omega]
      simp only [cntF] at hp
      refine v_F_counted_15 ?_
      repeat' (first | (refine And.intro (by omega) ?_) | apply And.intro | intro _ | omega)
      · rw [if_neg (by omega)] at hp
        rw [show (n : Int) + (-1) = n - 1 by omega]
        exact ih (by omega) hp
      · rw [if_neg (by omega)] at hp
        rw [show (n : Int) + (-1) = n - 1 by omega]
        exact ih (by omega) hp
      · rw [if_pos (by omega)] at hp
        refine s_F_isVariant hk hv (fun w => ?_) (fun w => ?_)
        · (try simp only [wt_r, svr, Nat.reduceEqDiff, reduceIte, reduceCtorEq, false_implies, true_implies, true_and, and_true, eq_self, not_true_eq_false, not_false_eq_true])
          rw [← e.2.2.2.1, if_pos w] at hp
          exact hp
        · (try simp only [wt_r, svr, Nat.reduceEqDiff, reduceIte, reduceCtorEq, false_implies, true_implies, true_and, and_true, eq_self, not_true_eq_false, not_false_eq_true])
          rw [← e.2.2.2.1, if_neg w] at hp
          exact hp
  refine v_F_counted ⟨by omega, ?_⟩
  have := L (mi 135 2).toNat (by omega) h
  rw [show ((mi 135 2).toNat : Int) - 1 = mi 20 9 - 1 by omega] at this
  exact this
theorem s_M_countsOf {P : Int → MT → Prop} {s k kn : Int} (hd : 3 ≤ d) (hk : 0 ≤ k ∧ k < 4) (hv : ∀ k : Int, 0 ≤ k → k < 4 → 0 ≤ mi 135 (1066 + 5 * k).toNat ∧ mi 135 (1066 + 5 * k).toNat ≤ 4) (hu : 0 ≤ mi 135 2 ∧ mi 135 2 ≤ 60) (h : P (cnt (mi 135) s k kn) mi) : c_M_countsOf d s k kn mi P := by
  have L : ∀ n : Nat, (n : Int) ≤ mi 135 2 → P (cntF (mi 135) s k kn n) mi → h_M_countsOf_10 d s k kn ((n : Int) - 1) mi P := by
    intro n
    induction n with
    | zero => intro hn hp; exact v_M_countsOf_10 ⟨fun _ => hp, fun q => by omega⟩
    | succ n ih =>
      intro hn hp
      rw [show ((n + 1 : Nat) : Int) - 1 = n by omega]
      simp only [cntF] at hp
      refine v_M_countsOf_10 ?_
      repeat' (first | (refine And.intro (by omega) ?_) | apply And.intro | intro _ | omega)
      · rw [if_neg (by omega)] at hp
        rw [show (n : Int) + (-1) = n - 1 by omega]
        exact ih (by omega) hp
      · rw [if_neg (by omega)] at hp
        rw [show (n : Int) + (-1) = n - 1 by omega]
        exact ih (by omega) hp
      · rw [if_neg (by omega)] at hp
        rw [show (n : Int) + (-1) = n - 1 by omega]
        exact ih (by omega) hp
      · rw [if_pos (by omega)] at hp
        refine s_M_variantOf hk (hv k hk.1 hk.2) (fun w v hv => ?_) (fun w => ?_)
        · repeat' (first | (refine And.intro (by omega) ?_) | apply And.intro | intro _ | omega)
          rw [if_pos w] at hp
          exact hp
        · (try simp only [wt_r, svr, Nat.reduceEqDiff, reduceIte, reduceCtorEq, false_implies, true_implies, true_and, and_true, eq_self, not_true_eq_false, not_false_eq_true])
          rw [if_neg w] at hp
          exact hp
  refine v_M_countsOf ⟨by omega, ?_⟩
  have := L (mi 135 2).toNat (by omega) h
  rw [show ((mi 135 2).toNat : Int) - 1 = mi 135 2 - 1 by omega] at this
  exact this
theorem va_c {vs vc c : Nat → Int} (h : P_va vs vc c) : ∀ k : Int, 0 ≤ k → k < 4 → 0 ≤ c (1066 + 5 * k).toNat ∧ c (1066 + 5 * k).toNat ≤ 4 := fun k h0 h1 => by
  have := h k h0 h1
  omega
theorem ca_counts {s k kn : Int} (hI : Base mi) (hd : 20 ≤ d) : c_C_counts d s k kn mi (fun z m1 => c_M_counts d s k kn m1 (fun z' m2 => Bth z z' mi m2)) := by
  obtain ⟨hs, ht, h1, h2, h3, h4, h5, h6, h7, h8, h9, h10⟩ := id hI
  refine v_C_counts ?_
  repeat' (first | (refine And.intro (by omega) ?_) | apply And.intro | intro _ | omega)
  all_goals (try (refine v_M_counts ?_))
  all_goals repeat' (first | (refine And.intro (by omega) ?_) | apply And.intro | intro _ | omega)
  all_goals (try exact Bth.mk rfl hI (Kp.rfl' _))
  refine s_F_counted (by omega) (by omega) (by omega) h7 h9 ?_
  refine v_M_counts ?_
  repeat' (first | (refine And.intro (by omega) ?_) | apply And.intro | intro _ | omega)
  exact s_M_countsOf (by omega) (by omega) (va_c h7) h9.2.1 (Bth.mk rfl hI (Kp.rfl' _))
/-- all parts of a concept in a region -/
def ptF (c : Nat → Int) (k r : Int) : Nat → Int
  | 0 => 0
  | v + 1 => ptF c k r v + c (1106 + 40 * k + 4 * c (1066 + 5 * k + 1 + (v : Int)).toNat + r).toNat
def pt (c : Nat → Int) (k r : Int) : Int := ptF c k r (c (1066 + 5 * k).toNat).toNat
def tld (c : Nat → Int) (k : Int) : Bool := decide (0 < pt c k 0 ∧ 0 < pt c k 1 ∧ 0 < pt c k 2)
theorem ptF_in {vs vc pa c : Nat → Int} (h7 : P_va vs vc c) (h8 : P_us pa c) {k r : Int} (hk : 0 ≤ k ∧ k < 4) (hr : 0 ≤ r ∧ r < 3) : ∀ n : Nat, (n : Int) ≤ c (1066 + 5 * k).toNat → 0 ≤ ptF c k r n ∧ ptF c k r n ≤ 9 * n := by
  obtain ⟨g1, g2, g3⟩ := h7 k hk.1 hk.2
  intro n
  induction n with
  | zero => intro _; simp [ptF]
  | succ n ih =>
    intro hn
    have a := ih (by omega)
    have b := g3 n (by omega) (by omega)
    have e := h8 k hk.1 hk.2 (c (1066 + 5 * k + 1 + (n : Int)).toNat) (by omega) (by omega) r hr.1 hr.2
    simp only [ptF]
    omega
theorem pt_in {vs vc pa c : Nat → Int} (h7 : P_va vs vc c) (h8 : P_us pa c) {k r : Int} (hk : 0 ≤ k ∧ k < 4) (hr : 0 ≤ r ∧ r < 3) : 0 ≤ pt c k r ∧ pt c k r ≤ 36 := by
  have g := h7 k hk.1 hk.2
  have := ptF_in h7 h8 hk hr (c (1066 + 5 * k).toNat).toNat (by omega)
  unfold pt
  omega
theorem s_M_partsOf {P : Int → MT → Prop} {k r : Int} {vs vc pa : Nat → Int} (h7 : P_va vs vc (mi 135)) (h8 : P_us pa (mi 135)) (hk : 0 ≤ k ∧ k < 4) (hr : 0 ≤ r ∧ r < 3) (h : P (pt (mi 135) k r) mi) : c_M_partsOf d k r mi P := by
  obtain ⟨g1, g2, g3⟩ := h7 k hk.1 hk.2
  have L : ∀ i : Int, i ≤ mi 135 (1066 + 5 * k).toNat → 0 ≤ i → h_M_partsOf_5 d k r (ptF (mi 135) k r i.toNat) i mi P := by
    refine upto _ (fun i hi ih h0 => ?_)
    have a := ptF_in h7 h8 hk hr i.toNat (by omega)
    refine v_M_partsOf_5 ⟨by omega, fun q => ?_, fun q => ?_⟩
    · rw [show i = mi 135 (1066 + 5 * k).toNat by omega]; exact h
    · have b := g3 i h0 (by omega)
      have e := h8 k hk.1 hk.2 (mi 135 (1066 + 5 * k + 1 + i).toNat) (by omega) (by omega) r hr.1 hr.2
      refine ⟨by omega, ?_⟩
      have := ih q (by omega)
      rw [show (i + 1).toNat = i.toNat + 1 by omega] at this
      simp only [ptF] at this
      rw [show ((i.toNat : Nat) : Int) = i by omega] at this
      exact this
  exact v_M_partsOf (L 0 (by omega) (by omega))
theorem s_M_isTold {P : Bool → MT → Prop} {k : Int} {vs vc pa : Nat → Int} (hd : 1 < d) (h7 : P_va vs vc (mi 135)) (h8 : P_us pa (mi 135)) (hk : 0 ≤ k ∧ k < 4) (h : P (tld (mi 135) k) mi) : c_M_isTold d k mi P := by
  unfold tld at h
  refine v_M_isTold ⟨by omega, s_M_partsOf h7 h8 hk (by decide) ⟨fun q => dF h (by omega), fun q => s_M_partsOf h7 h8 hk (by decide) ⟨fun q => dF h (by omega), fun q => s_M_partsOf h7 h8 hk (by decide) ⟨fun q => dF h (by omega), fun q => dT h (by omega)⟩⟩⟩⟩
/-- times the parts of the other regions -/
def othr (p : Int → Int) (r x : Int) : Int := if r = 0 then x * p 1 * p 2 else if r = 1 then x * p 0 * p 2 else x * p 0 * p 1
theorem othr_in {p : Int → Int} {r x B : Int} (hx : 0 ≤ x ∧ x ≤ B) (hp : ∀ r : Int, 0 ≤ r → r < 3 → 0 ≤ p r ∧ p r ≤ 36) : 0 ≤ othr p r x ∧ othr p r x ≤ B * 36 * 36 := by
  unfold othr
  split
  · exact mulb (mulb hx (hp 1 (by decide) (by decide))) (hp 2 (by decide) (by decide))
  · split
    · exact mulb (mulb hx (hp 0 (by decide) (by decide))) (hp 2 (by decide) (by decide))
    · exact mulb (mulb hx (hp 0 (by decide) (by decide))) (hp 1 (by decide) (by decide))
theorem l_M_odds_79 {P : Int → MT → Prop} {s r kn x k sg : Int} {vs vc pa : Nat → Int} (hd : 1 < d) (h7 : P_va vs vc (mi 135)) (h8 : P_us pa (mi 135)) (hk : 0 ≤ k ∧ k < 4) (hr : 0 ≤ r ∧ r < 3) (hx : 0 ≤ x ∧ x ≤ 1428186890649600) (h : h_M_odds_15 d s r kn (othr (pt (mi 135) k) r x) (k + 1) mi P) : h_M_odds_79 d s r kn x k sg 0 mi P := by
  have hp : ∀ r : Int, 0 ≤ r → r < 3 → 0 ≤ pt (mi 135) k r ∧ pt (mi 135) k r ≤ 36 := fun r a b => pt_in h7 h8 hk ⟨a, b⟩
  have p0 := hp 0 (by decide) (by decide)
  have p1 := hp 1 (by decide) (by decide)
  have p2 := hp 2 (by decide) (by decide)
  have b0 := mulb hx p0
  have b1 := mulb hx p1
  have b01 := mulb b0 p1
  have b02 := mulb b0 p2
  have b12 := mulb b1 p2
  have hr3 : r = 0 ∨ r = 1 ∨ r = 2 := by omega
  have F : ∀ y, h_M_odds_15 d s r kn y (k + 1) mi P → h_M_odds_79 d s r kn y k sg 3 mi P := fun y hy => v_M_odds_79 ⟨fun _ => ⟨by omega, hy⟩, fun q => by omega⟩
  have sk : ∀ (i j y : Int), i < 3 → i = r → i + 1 = j → h_M_odds_79 d s r kn y k sg j mi P → h_M_odds_79 d s r kn y k sg i mi P := fun i j y a b e w => v_M_odds_79 ⟨fun q => by omega, fun _ => ⟨fun _ => ⟨by omega, by rw [e]; exact w⟩, fun q => absurd b q⟩⟩
  have ml : ∀ (i j y : Int), 0 ≤ i → i < 3 → ¬ i = r → i + 1 = j → (-9223372036854775808 ≤ y * pt (mi 135) k i ∧ y * pt (mi 135) k i < 9223372036854775808) → h_M_odds_79 d s r kn (y * pt (mi 135) k i) k sg j mi P → h_M_odds_79 d s r kn y k sg i mi P := fun i j y a0 a b e m w => v_M_odds_79 ⟨fun q => by omega, fun _ => ⟨fun q => absurd q b, fun _ => ⟨by omega, s_M_partsOf h7 h8 hk ⟨a0, a⟩ ⟨⟨m, by omega⟩, by rw [e]; exact w⟩⟩⟩⟩
  rcases hr3 with rfl | rfl | rfl
  · exact sk 0 1 _ (by omega) rfl rfl (ml 1 2 _ (by omega) (by omega) (by omega) rfl (by omega) (ml 2 3 _ (by omega) (by omega) (by omega) rfl (by omega) (F _ h)))
  · exact ml 0 1 _ (by omega) (by omega) (by omega) rfl (by omega) (sk 1 2 _ (by omega) rfl rfl (ml 2 3 _ (by omega) (by omega) (by omega) rfl (by omega) (F _ h)))
  · exact ml 0 1 _ (by omega) (by omega) (by omega) rfl (by omega) (ml 1 2 _ (by omega) (by omega) (by omega) rfl (by omega) (sk 2 3 _ (by omega) rfl rfl (F _ h)))
noncomputable def oddF (c : Nat → Int) (s r kn : Int) : Nat → Int
  | 0 => c (12 + r).toNat
  | j + 1 => if cnt c s j kn = -1 ∨ tld c j = false then oddF c s r kn j else othr (pt c j) r (oddF c s r kn j * c (1106 + 40 * (j : Int) + 4 * cnt c s j kn + r).toNat)
def oddB : Nat → Int
  | 0 => 100
  | j + 1 => oddB j * 9 * 36 * 36
theorem oddB3 {j : Nat} (hj : j ≤ 3) : 0 ≤ oddB j ∧ oddB j ≤ 158687432294400 := by
  have : j = 0 ∨ j = 1 ∨ j = 2 ∨ j = 3 := by omega
  rcases this with rfl | rfl | rfl | rfl <;> decide
theorem use_in {c pa fo us si da : Nat → Int} (h8 : P_us pa c) (h9 : P_ud fo us si da c) {s k kn r : Int} (hk : 0 ≤ k ∧ k < 4) (hr : 0 ≤ r ∧ r < 3) (h : cnt c s k kn ≠ -1) : pa ((k * 10 + cnt c s k kn) * 3 + r).toNat = c (1106 + 40 * k + 4 * cnt c s k kn + r).toNat ∧ 0 ≤ c (1106 + 40 * k + 4 * cnt c s k kn + r).toNat ∧ c (1106 + 40 * k + 4 * cnt c s k kn + r).toNat ≤ 9 := by
  have := cnt_in h9 (s := s) (k := k) (kn := kn)
  have := h8 k hk.1 hk.2 (cnt c s k kn) (by omega) (by omega) r hr.1 hr.2
  omega
theorem oddF_in {vs vc pa fo us si da pr c : Nat → Int} (h7 : P_va vs vc c) (h8 : P_us pa c) (h9 : P_ud fo us si da c) (h10 : P_pr pr c) {s r kn : Int} (hr : 0 ≤ r ∧ r < 3) : ∀ j : Nat, j ≤ 4 → 0 ≤ oddF c s r kn j ∧ oddF c s r kn j ≤ oddB j := by
  intro j
  induction j with
  | zero => intro _; have := h10 r hr.1 hr.2; simp only [oddF, oddB]; omega
  | succ j ih =>
    intro hj
    have a := ih (by omega)
    have hb := oddB3 (show j ≤ 3 by omega)
    simp only [oddF]
    split
    · simp only [oddB]; omega
    · rename_i hc
      have u := use_in h8 h9 (s := s) (k := j) (kn := kn) (by omega) hr (fun e => hc (Or.inl e))
      exact othr_in (mulb a u.2) (fun r a b => pt_in h7 h8 (by omega) ⟨a, b⟩)
theorem s_M_odds {P : Int → MT → Prop} {s r kn : Int} {vs vc pa fo us si da pr : Nat → Int} (hd : 5 < d) (h7 : P_va vs vc (mi 135)) (h8 : P_us pa (mi 135)) (h9 : P_ud fo us si da (mi 135)) (h10 : P_pr pr (mi 135)) (hr : 0 ≤ r ∧ r < 3) (h : P (oddF (mi 135) s r kn 4) mi) : c_M_odds d s r kn mi P := by
  have L : ∀ i : Int, i ≤ 4 → 0 ≤ i → h_M_odds_15 d s r kn (oddF (mi 135) s r kn i.toNat) i mi P := by
    refine upto _ (fun i hi ih h0 => ?_)
    have a := oddF_in h7 h8 h9 h10 (s := s) (kn := kn) hr i.toNat (by omega)
    refine v_M_odds_15 ⟨fun q => ?_, fun q => ⟨by omega, s_M_countsOf (by omega) ⟨h0, q⟩ (va_c h7) h9.2.1 ?_⟩⟩
    · rw [show i = 4 by omega]; exact h
    · have hb := oddB3 (show i.toNat ≤ 3 by omega)
      have ih := ih q (by omega)
      rw [show (i + 1).toNat = i.toNat + 1 by omega] at ih
      simp only [oddF] at ih
      rw [show ((i.toNat : Nat) : Int) = i by omega] at ih
      refine ⟨fun e => ⟨by omega, by rw [if_pos (Or.inl e)] at ih; exact ih⟩, fun e => s_M_isTold (by omega) h7 h8 ⟨h0, q⟩ ⟨fun t => ?_, fun t => ⟨by omega, by rw [if_pos (Or.inr t)] at ih; exact ih⟩⟩⟩
      rw [if_neg (fun w => w.elim e (fun w => by rw [w] at t; cases t))] at ih
      have u := use_in h8 h9 (s := s) (k := i) (kn := kn) ⟨h0, q⟩ hr e
      have cn := cnt_in h9 (s := s) (k := i) (kn := kn)
      have m := mulb a u.2
      exact ⟨by omega, l_M_odds_79 (by omega) h7 h8 ⟨h0, q⟩ hr (by omega) ih⟩
  exact v_M_odds ⟨by omega, L 0 (by omega) (by omega)⟩
end ODDS
