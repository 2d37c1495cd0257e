theorem ite01 (p : Prop) [Decidable p] : (if p then (0 : Int) else 1) = 0 ∨ (if p then (0 : Int) else 1) = 1 := by split <;> simp
section SHARE
variable {d : Nat} {mi : MT}
theorem s_F_isTold {P : Bool → MT → Prop} {k : Int} {t : Nat → Int} (hd : 1 < d) (h7 : P_va (mi 21) (mi 22) (mi 135)) (h8 : P_us (mi 23) (mi 135)) (hk : 0 ≤ k ∧ k < 4) (h : ∀ t' : Nat → Int, (∀ r : Int, 0 ≤ r → r < 3 → t' r.toNat = pt (mi 135) k r) → P (tld (mi 135) k) (sv mi 27 t')) : c_F_isToldEverywhere d k (sv mi 27 t) P := by
  obtain ⟨g1, g2, g3⟩ := h7 k hk.1 hk.2
  have I : ∀ (l2 r : Int) (t : Nat → Int), (l2 = 0 ∨ l2 = 1) → 0 ≤ r → r < 3 → (∀ t' : Nat → Int, t' r.toNat = pt (mi 135) k r → (∀ j : Nat, j ≠ r.toNat → t' j = t j) → h_F_isToldEverywhere_4 d k (if l2 = 0 ∨ pt (mi 135) k r ≤ 0 then 0 else 1) (r + 1) (sv mi 27 t') P) → ∀ i : Int, i ≤ mi 22 k.toNat → 0 ≤ i → ∀ t' : Nat → Int, t' r.toNat = ptF (mi 135) k r i.toNat → (∀ j : Nat, j ≠ r.toNat → t' j = t j) → h_F_isToldEverywhere_19 d k l2 r i (sv mi 27 t') P := by
    intro l2 r t hl hr0 hr3 hc
    refine upto _ (fun i hi ih h0 t' ht ho => ?_)
    have a := ptF_in h7 h8 hk ⟨hr0, hr3⟩ i.toNat (by omega)
    refine v_F_isToldEverywhere_19 ?_
    simp only [svc, Nat.reduceEqDiff, reduceIte]
    refine ⟨hk, fun q => ?_, fun q => ?_⟩
    · have e : i = mi 135 (1066 + 5 * k).toNat := by omega
      have e2 : t' r.toNat = pt (mi 135) k r := by rw [ht, e]; rfl
      have c := hc t' e2 ho
      refine ⟨fun w => ⟨by omega, ?_⟩, fun w => ⟨⟨hr0, hr3⟩, fun w2 => ⟨by omega, ?_⟩, fun w2 => ⟨by omega, ?_⟩⟩⟩
      · rw [if_pos (Or.inl w)] at c; exact c
      · rw [if_pos (Or.inr (by omega))] at c; exact c
      · rw [if_neg (by omega)] at c; exact c
    · have b := g3 i h0 q
      have e := h8 k hk.1 hk.2 (mi 135 (1066 + 5 * k + 1 + i).toNat) (by omega) (by omega) r hr0 hr3
      rw [← b.1] at e
      rw [wt_sv]
      refine ⟨by omega, ih q (by omega) _ ?_ (fun j hj => by rw [svn _ _ hj]; exact ho j hj)⟩
      rw [sv_eq, show (i + 1).toNat = i.toNat + 1 by omega]
      simp only [ptF]
      rw [show ((i.toNat : Nat) : Int) = i by omega, ← b.1, ht]
      omega
  have S : ∀ (l2 r r1 : Int) (t : Nat → Int), (l2 = 0 ∨ l2 = 1) → 0 ≤ r → r < 3 → r + 1 = r1 → (∀ t' : Nat → Int, t' r.toNat = pt (mi 135) k r → (∀ j : Nat, j ≠ r.toNat → t' j = t j) → h_F_isToldEverywhere_4 d k (if l2 = 0 ∨ pt (mi 135) k r ≤ 0 then 0 else 1) r1 (sv mi 27 t') P) → h_F_isToldEverywhere_4 d k l2 r (sv mi 27 t) P := by
    intro l2 r r1 t hl hr0 hr3 e hc
    subst e
    refine v_F_isToldEverywhere_4 ⟨fun q => by omega, fun _ => ⟨⟨hr0, hr3⟩, ?_⟩⟩
    rw [wt_sv]
    exact I l2 r t hl hr0 hr3 hc 0 (by omega) (by omega) _ (by rw [sv_eq]; rfl) (fun j hj => svn _ _ hj)
  refine v_F_isToldEverywhere ?_
  refine S 1 0 1 t (Or.inr rfl) (by omega) (by omega) rfl (fun t0 a0 o0 => ?_)
  refine S _ 1 2 t0 (ite01 _) (by omega) (by omega) rfl (fun t1 a1 o1 => ?_)
  refine S _ 2 3 t1 (ite01 _) (by omega) (by omega) rfl (fun t2 a2 o2 => ?_)
  have hh := h t2 (fun r r0 r3 => by
    have : r = 0 ∨ r = 1 ∨ r = 2 := by omega
    rcases this with rfl | rfl | rfl
    · rw [o2 _ (by decide), o1 _ (by decide)]; exact a0
    · rw [o2 _ (by decide)]; exact a1
    · exact a2)
  refine v_F_isToldEverywhere_4 ⟨fun _ => ⟨ite01 _, ?_⟩, fun q => by omega⟩
  unfold tld at hh
  by_cases p0 : 0 < pt (mi 135) k 0 <;> by_cases p1 : 0 < pt (mi 135) k 1 <;> by_cases p2 : 0 < pt (mi 135) k 2
  · rw [if_neg (show ¬ ((1 : Int) = 0 ∨ pt (mi 135) k 0 ≤ 0) by omega), if_neg (show ¬ ((1 : Int) = 0 ∨ pt (mi 135) k 1 ≤ 0) by omega), if_neg (show ¬ ((1 : Int) = 0 ∨ pt (mi 135) k 2 ≤ 0) by omega)]
    exact dT hh ⟨p0, p1, p2⟩
  all_goals (have e := dF hh (by omega))
  all_goals (first | (rw [if_pos (show _ ∨ pt (mi 135) k 2 ≤ 0 by omega)]; exact e) | skip)
  all_goals (first | (rw [if_pos (show _ ∨ pt (mi 135) k 1 ≤ 0 by omega)]; exact e) | skip)
  all_goals (first | (rw [if_pos (show _ ∨ pt (mi 135) k 0 ≤ 0 by omega)]; exact e) | skip)
theorem s_F_weighConcept {P : MT → Prop} {k sg : Int} {t : Nat → Int} (p x : Int → Int) (hd : 1 < d) (h8 : P_us (mi 23) (mi 135)) (hk : 0 ≤ k ∧ k < 4) (hs : 0 ≤ sg ∧ sg < 10) (hp : ∀ r : Int, 0 ≤ r → r < 3 → mi 27 r.toNat = p r ∧ 0 ≤ p r ∧ p r ≤ 36) (hx : ∀ r : Int, 0 ≤ r → r < 3 → t r.toNat = x r ∧ 0 ≤ x r ∧ x r ≤ 158687432294400)
    (h : ∀ t' : Nat → Int, (∀ r : Int, 0 ≤ r → r < 3 → t' r.toNat = othr p r (x r * mi 135 (1106 + 40 * k + 4 * sg + r).toNat)) → P (sv mi 29 t')) : c_F_weighConcept d k sg (sv mi 29 t) P := by
  have I : ∀ (r : Int) (t : Nat → Int) (y : Int), 0 ≤ r → r < 3 → t r.toNat = y → (0 ≤ y ∧ y ≤ 1428186890649600) → (∀ t' : Nat → Int, t' r.toNat = othr p r y → (∀ j : Nat, j ≠ r.toNat → t' j = t j) → h_F_weighConcept_2 d k sg (r + 1) (sv mi 29 t') P) → h_F_weighConcept_27 d k sg r 0 (sv mi 29 t) P := by
    intro r t y hr0 hr3 hy hyb hc
    have p0 := hp 0 (by decide) (by decide)
    have p1 := hp 1 (by decide) (by decide)
    have p2 := hp 2 (by decide) (by decide)
    have b0 := mulb hyb p0.2
    have b1 := mulb hyb p1.2
    have b01 := mulb b0 p1.2
    have b02 := mulb b0 p2.2
    have b12 := mulb b1 p2.2
    have F : ∀ (z : Int) (t' : Nat → Int), t' r.toNat = z → (∀ j : Nat, j ≠ r.toNat → t' j = t j) → z = othr p r y → h_F_weighConcept_27 d k sg r 3 (sv mi 29 t') P := fun z t' e o ez => v_F_weighConcept_27 ⟨fun _ => ⟨by omega, hc t' (by rw [e, ez]) o⟩, fun q => by omega⟩
    have sk : ∀ (i j : Int) (t' : Nat → Int), i < 3 → i = r → i + 1 = j → h_F_weighConcept_27 d k sg r j (sv mi 29 t') P → h_F_weighConcept_27 d k sg r i (sv mi 29 t') P := fun i j t' a b e w => v_F_weighConcept_27 ⟨fun q => by omega, fun _ => ⟨fun _ => ⟨by omega, by rw [e]; exact w⟩, fun q => absurd b q⟩⟩
    have ml : ∀ (i j z : Int) (t' : Nat → Int), 0 ≤ i → i < 3 → ¬ i = r → i + 1 = j → t' r.toNat = z → (-9223372036854775808 ≤ z * p i ∧ z * p i < 9223372036854775808) → h_F_weighConcept_27 d k sg r j (sv mi 29 (sv t' r.toNat (z * p i))) P → h_F_weighConcept_27 d k sg r i (sv mi 29 t') P := by
      intro i j z t' a0 a b e ez m w
      refine v_F_weighConcept_27 ⟨fun q => by omega, fun _ => ⟨fun q => absurd q b, fun _ => ?_⟩⟩
      rw [wt_sv]
      simp only [svc, Nat.reduceEqDiff, reduceIte]
      rw [ez, (hp i a0 a).1, e]
      exact ⟨⟨⟨hr0, hr3⟩, ⟨a0, a⟩, m, by omega⟩, w⟩
    have hr : r = 0 ∨ r = 1 ∨ r = 2 := by omega
    rcases hr with rfl | rfl | rfl
    · refine sk 0 1 _ (by omega) rfl rfl (ml 1 2 y _ (by omega) (by omega) (by omega) rfl hy (by omega) (ml 2 3 _ _ (by omega) (by omega) (by omega) rfl (sv_eq _ _ _) (by omega) (F _ _ (sv_eq _ _ _) (fun j hj => by rw [svn _ _ hj, svn _ _ hj]) rfl)))
    · refine ml 0 1 y _ (by omega) (by omega) (by omega) rfl hy (by omega) (sk 1 2 _ (by omega) rfl rfl (ml 2 3 _ _ (by omega) (by omega) (by omega) rfl (sv_eq _ _ _) (by omega) (F _ _ (sv_eq _ _ _) (fun j hj => by rw [svn _ _ hj, svn _ _ hj]) rfl)))
    · refine ml 0 1 y _ (by omega) (by omega) (by omega) rfl hy (by omega) (ml 1 2 _ _ (by omega) (by omega) (by omega) rfl (sv_eq _ _ _) (by omega) (sk 2 3 _ (by omega) rfl rfl (F _ _ (sv_eq _ _ _) (fun j hj => by rw [svn _ _ hj, svn _ _ hj]) rfl)))
  have S : ∀ (r r1 : Int) (t : Nat → Int), 0 ≤ r → r < 3 → r + 1 = r1 → t r.toNat = x r → (∀ t' : Nat → Int, t' r.toNat = othr p r (x r * mi 135 (1106 + 40 * k + 4 * sg + r).toNat) → (∀ j : Nat, j ≠ r.toNat → t' j = t j) → h_F_weighConcept_2 d k sg r1 (sv mi 29 t') P) → h_F_weighConcept_2 d k sg r (sv mi 29 t) P := by
    intro r r1 t hr0 hr3 e hxr hc
    subst e
    have u := h8 k hk.1 hk.2 sg hs.1 hs.2 r hr0 hr3
    have xb := hx r hr0 hr3
    have m := mulb xb.2 (show 0 ≤ mi 23 ((k * 10 + sg) * 3 + r).toNat ∧ mi 23 ((k * 10 + sg) * 3 + r).toNat ≤ 9 by omega)
    refine v_F_weighConcept_2 ⟨fun q => by omega, fun _ => ?_⟩
    rw [wt_sv]
    simp only [svc, Nat.reduceEqDiff, reduceIte]
    rw [hxr]
    refine ⟨by omega, I r _ _ hr0 hr3 (sv_eq _ _ _) (by omega) (fun t' e o => hc t' (by rw [e, u.1]) (fun j hj => by rw [o j hj, svn _ _ hj]))⟩
  refine v_F_weighConcept ?_
  refine S 0 1 t (by omega) (by omega) rfl (hx 0 (by decide) (by decide)).1 (fun t0 a0 o0 => ?_)
  refine S 1 2 t0 (by omega) (by omega) rfl (by rw [o0 _ (by decide)]; exact (hx 1 (by decide) (by decide)).1) (fun t1 a1 o1 => ?_)
  refine S 2 3 t1 (by omega) (by omega) rfl (by rw [o1 _ (by decide), o0 _ (by decide)]; exact (hx 2 (by decide) (by decide)).1) (fun t2 a2 o2 => ?_)
  refine v_F_weighConcept_2 ⟨fun _ => h t2 (fun r r0 r3 => ?_), fun q => by omega⟩
  have : r = 0 ∨ r = 1 ∨ r = 2 := by omega
  rcases this with rfl | rfl | rfl
  · rw [o2 _ (by decide), o1 _ (by decide)]; exact a0
  · rw [o2 _ (by decide)]; exact a1
  · exact a2
theorem sv_comm (mi : MT) {a b : Nat} (h : a ≠ b) (s t : Nat → Int) : sv (sv mi a s) b t = sv (sv mi b t) a s := by
  funext j; unfold sv
  by_cases e1 : j = a <;> by_cases e2 : j = b <;> simp_all
theorem s_F_weigh {P : MT → Prop} {s kn : Int} (hd : 6 < d) (hI : Base mi) (hsg : 0 ≤ s ∧ s < 10) (h : ∀ u t : Nat → Int, (∀ r : Int, 0 ≤ r → r < 3 → t r.toNat = oddF (mi 135) s r kn 4) → P (sv (sv mi 27 u) 29 t)) : c_F_weigh d s kn mi P := by
  obtain ⟨hs, ht, h1, h2, h3, h4, h5, h6, h7, h8, h9, h10⟩ := id hI
  have L : ∀ i : Int, i ≤ 4 → 0 ≤ i → ∀ u t : Nat → Int, (∀ r : Int, 0 ≤ r → r < 3 → t r.toNat = oddF (mi 135) s r kn i.toNat) → h_F_weigh_28 d s kn i (sv (sv mi 27 u) 29 t) P := by
    refine upto _ (fun i hi ih h0 u t ht => ?_)
    refine v_F_weigh_28 ⟨fun q => ?_, fun q => ⟨by omega, s_F_counted (mi := sv (sv mi 27 u) 29 t) (by omega) hsg ⟨h0, q⟩ h7 h9 ?_⟩⟩
    · refine h u t (fun r a b => ?_)
      rw [ht r a b, show i = 4 by omega]; rfl
    · have ih := ih q (by omega)
      rw [show (i + 1).toNat = i.toNat + 1 by omega] at ih
      simp only [oddF] at ih
      rw [show ((i.toNat : Nat) : Int) = i by omega] at ih
      simp only [svc, Nat.reduceEqDiff, reduceIte]
      refine ⟨fun e => ⟨by omega, ih u t (fun r a b => by rw [if_pos (Or.inl e)]; exact ht r a b)⟩, fun e => ?_⟩
      rw [sv_comm mi (show 27 ≠ 29 by decide) u t]
      refine s_F_isTold (mi := sv mi 29 t) (by omega) h7 h8 ⟨h0, q⟩ (fun t' hp => ?_)
      simp only [svc, Nat.reduceEqDiff, reduceIte]
      refine ⟨fun w => ⟨by omega, ?_⟩, fun w => ?_⟩
      · rw [sv_comm mi (show 29 ≠ 27 by decide) t t']
        exact ih t' t (fun r a b => by rw [if_pos (Or.inr w)]; exact ht r a b)
      · have cn := cnt_in h9 (s := s) (k := i) (kn := kn)
        have hb := oddB3 (show i.toNat ≤ 3 by omega)
        rw [sv_comm mi (show 29 ≠ 27 by decide) t t']
        refine s_F_weighConcept (mi := sv mi 27 t') (pt (mi 135) i) (fun r => oddF (mi 135) s r kn i.toNat) (by omega) h8 ⟨h0, q⟩ (by omega) (fun r a b => ⟨?_, pt_in h7 h8 ⟨h0, q⟩ ⟨a, b⟩⟩) (fun r a b => ⟨ht r a b, ?_⟩) (fun t2 h2 => ⟨by omega, ih t' t2 (fun r a b => ?_)⟩)
        · exact hp r a b
        · have := oddF_in h7 h8 h9 h10 (s := s) (kn := kn) ⟨a, b⟩ i.toNat (by omega)
          omega
        · rw [if_neg (fun z => z.elim e (fun z => by rw [w] at z; cases z))]
          exact h2 r a b
  have S : ∀ (i j : Int) (t : Nat → Int), 0 ≤ i → i < 3 → i + 1 = j → h_F_weigh_2 d s kn j (sv mi 29 (sv t i.toNat (mi 28 i.toNat))) P → h_F_weigh_2 d s kn i (sv mi 29 t) P := by
    intro i j t a b e w
    refine v_F_weigh_2 ⟨fun q => by omega, fun _ => ⟨⟨⟨a, b⟩, by omega⟩, ?_⟩⟩
    rw [e, wt_sv]
    exact w
  refine v_F_weigh ?_
  rw [← sv_self mi 29]
  refine S 0 1 _ (by omega) (by omega) rfl (S 1 2 _ (by omega) (by omega) rfl (S 2 3 _ (by omega) (by omega) rfl (v_F_weigh_2 ⟨fun _ => ?_, fun q => by omega⟩)))
  have := L 0 (by omega) (by omega) (mi 27) (sv (sv (sv (mi 29) (0 : Int).toNat (mi 28 (0 : Int).toNat)) (1 : Int).toNat (mi 28 (1 : Int).toNat)) (2 : Int).toNat (mi 28 (2 : Int).toNat)) (fun r a b => ?_)
  · rw [sv_self mi 27] at this
    exact this
  · have e := h10 r a b
    have : r = 0 ∨ r = 1 ∨ r = 2 := by omega
    rcases this with rfl | rfl | rfl <;> exact e.1
theorem s_F_allOdds {P : Int → MT → Prop} (a b c : Int) (h0 : mi 29 0 = a ∧ 0 ≤ a ∧ a ≤ 1850930210281881600) (h1 : mi 29 1 = b ∧ 0 ≤ b ∧ b ≤ 1850930210281881600) (h2 : mi 29 2 = c ∧ 0 ≤ c ∧ c ≤ 1850930210281881600) (h : P (0 + a + b + c) mi) : c_F_allOdds d mi P := by
  have S : ∀ (i j y z : Int), 0 ≤ i → i < 3 → i + 1 = j → y + mi 29 i.toNat = z → (0 ≤ z ∧ z < 9223372036854775808) → h_F_allOdds_4 d z j mi P → h_F_allOdds_4 d y i mi P := by
    intro i j y z a b e e2 m w
    refine v_F_allOdds_4 ⟨fun q => by omega, fun _ => ?_⟩
    rw [e, e2]
    exact ⟨by omega, w⟩
  exact v_F_allOdds (S 0 1 0 (0 + a) (by omega) (by omega) rfl (by rw [show mi 29 (0 : Int).toNat = a from h0.1]) (by omega) (S 1 2 _ (0 + a + b) (by omega) (by omega) rfl (by rw [show mi 29 (1 : Int).toNat = b from h1.1]) (by omega) (S 2 3 _ (0 + a + b + c) (by omega) (by omega) rfl (by rw [show mi 29 (2 : Int).toNat = c from h2.1]) (by omega) (v_F_allOdds_4 ⟨fun _ => h, fun q => by omega⟩))))
/-- the numbers of Fibonacci, two at a time -/
def fp : Nat → Nat × Nat
  | 0 => (0, 1)
  | n + 1 => ((fp n).2, (fp n).1 + (fp n).2)
theorem fp_s (n : Nat) : (fp (n + 1)).1 = (fp n).2 ∧ (fp (n + 1)).2 = (fp n).1 + (fp n).2 := ⟨rfl, rfl⟩
theorem s_F_commonDivisor {P : Int → MT → Prop} {a b : Int} (ha : 0 ≤ a ∧ a < 9223372036854775808) (hb : 0 ≤ b ∧ b < 9223372036854775808) (h : P ((Nat.gcd a.toNat b.toNat : Nat) : Int) mi) : c_F_commonDivisor d a b mi P := by
  have L : ∀ (n : Nat) (i g s : Int), 0 ≤ i → i + n = 100 → (0 ≤ g ∧ g < 9223372036854775808) → (0 ≤ s ∧ s < 9223372036854775808) → Nat.gcd g.toNat s.toNat = Nat.gcd a.toNat b.toNat → (s < ((fp n).2 : Int) ∨ (s ≤ g ∧ g - s < ((fp n).1 : Int))) → h_F_commonDivisor_9 d a b g s i mi P := by
    intro n
    induction n with
    | zero =>
      intro i g s hi0 hi hg hs he hJ
      have e0 : fp 0 = (0, 1) := rfl
      rw [e0] at hJ
      have : s = 0 := by simp at hJ; omega
      subst this
      have e1 : g = ((Nat.gcd a.toNat b.toNat : Nat) : Int) := by
        rw [← he]; simp; omega
      refine v_F_commonDivisor_9 ⟨fun _ => by rw [e1]; exact h, fun q => by omega⟩
    | succ n ih =>
      intro i g s hi0 hi hg hs he hJ
      refine v_F_commonDivisor_9 ⟨fun q => by omega, fun q => ⟨fun z => ?_, fun z => ⟨by omega, ?_⟩⟩⟩
      · subst z
        have e1 : g = ((Nat.gcd a.toNat b.toNat : Nat) : Int) := by
          rw [← he]; simp; omega
        rw [e1]; exact h
      · have m0 : 0 ≤ g % s := Int.emod_nonneg g (by omega)
        have m1 : g % s < s := Int.emod_lt_of_pos g (by omega)
        refine ih (i + 1) s (g % s) (by omega) (by omega) hs ⟨m0, by omega⟩ ?_ ?_
        · rw [← he, show (g % s).toNat = g.toNat % s.toNat by rw [Int.toNat_emod hg.1 hs.1], Nat.gcd_comm s.toNat, ← Nat.gcd_rec, Nat.gcd_comm]
        · obtain ⟨f1, f2⟩ := fp_s n
          rw [f1, f2] at hJ
          rcases hJ with hJ | ⟨j1, j2⟩
          · by_cases c : g % s < ((fp n).2 : Int)
            · exact Or.inl c
            · right; omega
          · left
            have : g % s ≤ g - s := by
              have e := Int.mul_ediv_add_emod g s
              have q1 : 1 ≤ g / s := Int.le_ediv_of_mul_le (by omega) (by omega)
              have q2 : s * 1 ≤ s * (g / s) := Int.mul_le_mul_of_nonneg_left q1 hs.1
              omega
            omega
  have e2 : (fp 100).2 = 573147844013817084101 := by decide +kernel
  exact v_F_commonDivisor (L 100 0 a b (by omega) (by omega) ha hb rfl (Or.inl (by rw [e2]; omega)))
theorem l_M_share_103 {P : Int → MT → Prop} {s r kn w all n : Int} (ha : 0 < all ∧ all < 9223372036854775808) (hn : 0 ≤ n ∧ n < 9223372036854775808) (h : P (if w = 0 then n / ((Nat.gcd all.toNat n.toNat : Nat) : Int) else all / ((Nat.gcd all.toNat n.toNat : Nat) : Int)) mi) : ∀ (m : Nat) (x y : Int), y.toNat = m → (0 < x ∧ x < 9223372036854775808) → (0 ≤ y ∧ y < 9223372036854775808) → Nat.gcd x.toNat y.toNat = Nat.gcd all.toNat n.toNat → h_M_share_103 d s r kn w all n x y mi P := by
  intro m
  induction m using Nat.strongRecOn with
  | ind m ih =>
    intro x y hy hx hy2 he
    refine v_M_share_103 ⟨fun q => ?_, fun q => ⟨by omega, ?_⟩⟩
    · have y0 : y = 0 := by omega
      subst y0
      have e1 : x = ((Nat.gcd all.toNat n.toNat : Nat) : Int) := by
        rw [← he]; simp; omega
      rw [← e1] at h
      refine ⟨fun z => ⟨by omega, ?_⟩, fun z => ⟨by omega, ?_⟩⟩
      · rw [if_neg z] at h; exact h
      · rw [if_pos z] at h; exact h
    · have m0 : 0 ≤ x % y := Int.emod_nonneg x (by omega)
      have m1 : x % y < y := Int.emod_lt_of_pos x (by omega)
      refine ih (x % y).toNat (by omega) y (x % y) rfl (by omega) ⟨m0, by omega⟩ ?_
      rw [← he, show (x % y).toNat = x.toNat % y.toNat by rw [Int.toNat_emod (by omega) (by omega)], Nat.gcd_comm y.toNat, ← Nat.gcd_rec, Nat.gcd_comm]
theorem ca_share {s r kn w : Int} (hI : Base mi) (hd : 20 ≤ d) : c_C_share d s r kn w mi (fun z m1 => c_M_share d s r kn w m1 (fun z' m2 => Bth z z' mi m2)) := by
  obtain ⟨hs, ht, h1, h2, h3, h4, h5, h6, h7, h8, h9, h10⟩ := id hI
  refine v_C_share ?_
  repeat' (first | (refine And.intro (by omega) ?_) | apply And.intro | intro _ | omega)
  all_goals (try (refine v_M_share ?_))
  all_goals repeat' (first | (refine And.intro (by omega) ?_) | apply And.intro | intro _ | omega)
  all_goals (try exact Bth.mk rfl hI (Kp.rfl' _))
  refine s_F_weigh (by omega) hI (by omega) (fun u t ht => ?_)
  have t0 := ht 0 (by decide) (by decide)
  have t1 := ht 1 (by decide) (by decide)
  have t2 := ht 2 (by decide) (by decide)
  have o0 := oddF_in h7 h8 h9 h10 (s := s) (kn := kn) (r := 0) (by decide) 4 (by decide)
  have o1 := oddF_in h7 h8 h9 h10 (s := s) (kn := kn) (r := 1) (by decide) 4 (by decide)
  have o2 := oddF_in h7 h8 h9 h10 (s := s) (kn := kn) (r := 2) (by decide) 4 (by decide)
  have orr := oddF_in h7 h8 h9 h10 (s := s) (kn := kn) (r := r) (by omega) 4 (by decide)
  have B4 : oddB 4 = 1850930210281881600 := by decide
  rw [B4] at o0 o1 o2 orr
  refine s_F_allOdds (mi := sv (sv mi 27 u) 29 t) _ _ _ ⟨t0, o0⟩ ⟨t1, o1⟩ ⟨t2, o2⟩ ⟨by omega, ?_⟩
  have er : sv (sv mi 27 u) 29 t 29 r.toNat = oddF (mi 135) s r kn 4 := ht r (by omega) (by omega)
  rw [er]
  have hle : oddF (mi 135) s r kn 4 ≤ 0 + oddF (mi 135) s 0 kn 4 + oddF (mi 135) s 1 kn 4 + oddF (mi 135) s 2 kn 4 := by
    have : r = 0 ∨ r = 1 ∨ r = 2 := by omega
    rcases this with rfl | rfl | rfl <;> omega
  generalize hall : 0 + oddF (mi 135) s 0 kn 4 + oddF (mi 135) s 1 kn 4 + oddF (mi 135) s 2 kn 4 = all at hle ⊢
  refine s_F_commonDivisor (by omega) (by omega) ?_
  have hB : Base (sv (sv mi 27 u) 29 t) := hI
  have hK : Kp mi (sv (sv mi 27 u) 29 t) := by (repeat' (first | exact Kp.rfl' _ | refine Kp.w0 ?_ (by decide) | refine Kp.w134 ?_ (by decide) | refine Kp.w135 ?_ (by omega) | refine Kp.wo ?_ (by decide) | refine Kp.cp ?_ (by decide) | refine Kp.o ?_ (by decide)))
  generalize hm : sv (sv mi 27 u) 29 t = m1 at hB hK ⊢
  have e135 : m1 135 = mi 135 := by rw [← hm]; rfl
  obtain ⟨-, -, -, -, -, -, -, -, k7, k8, k9, k10⟩ := id hB
  have M : ∀ z : Int, (all = 0 → z = -1) → (all ≠ 0 → z = if w = 0 then oddF (mi 135) s r kn 4 / ((Nat.gcd all.toNat (oddF (mi 135) s r kn 4).toNat : Nat) : Int) else all / ((Nat.gcd all.toNat (oddF (mi 135) s r kn 4).toNat : Nat) : Int)) → c_M_share d s r kn w m1 (fun z' m2 => Bth z z' mi m2) := by
    intro z z0 z1
    refine v_M_share ?_
    repeat' (first | (refine And.intro (by omega) ?_) | apply And.intro | intro _ | omega)
    have S : ∀ (i j y y' : Int), 0 ≤ i → i < 3 → i + 1 = j → y + oddF (mi 135) s i kn 4 = y' → (0 ≤ y' ∧ y' < 9223372036854775808) → h_M_share_50 d s r kn w y' j m1 (fun z' m2 => Bth z z' mi m2) → h_M_share_50 d s r kn w y i m1 (fun z' m2 => Bth z z' mi m2) := by
      intro i j y y' a b e e2 mm ww
      refine v_M_share_50 ⟨fun q => by omega, fun _ => ⟨by omega, s_M_odds (by omega) k7 k8 k9 k10 ⟨a, b⟩ ?_⟩⟩
      rw [e, e135, e2]
      exact ⟨by omega, ww⟩
    refine S 0 1 0 _ (by omega) (by omega) rfl rfl (by omega) (S 1 2 _ _ (by omega) (by omega) rfl rfl (by omega) (S 2 3 _ _ (by omega) (by omega) rfl hall (by omega) (v_M_share_50 ⟨fun _ => ⟨fun q => ⟨by omega, s_M_odds (by omega) k7 k8 k9 k10 (by omega) ?_⟩, fun q => ?_⟩, fun q => by omega⟩)))
    · rw [e135]
      exact l_M_share_103 (by omega) (by omega) (Bth.mk (z1 q) hB hK) _ _ _ rfl (by omega) (by omega) rfl
    · exact Bth.mk (z0 q) hB hK
  have gp : 0 < all → 0 < ((Nat.gcd all.toNat (oddF (mi 135) s r kn 4).toNat : Nat) : Int) := fun q => by
    have := Nat.gcd_pos_of_pos_left (oddF (mi 135) s r kn 4).toNat (show 0 < all.toNat by omega)
    omega
  repeat' (first | (refine And.intro (by omega) ?_) | apply And.intro | intro _ | omega)
  all_goals (try (have := gp ‹_›; omega))
  · exact M _ (fun _ => rfl) (fun q => by omega)
  · exact M _ (fun q => by omega) (fun _ => by rw [if_neg ‹_›])
  · exact M _ (fun q => by omega) (fun _ => by rw [if_pos ‹_›])
  all_goals (have := gp (by omega); omega)
theorem ca_region {s kn : Int} (hI : Base mi) (hd : 20 ≤ d) : c_C_region d s kn mi (fun z m1 => c_M_region d s kn m1 (fun z' m2 => Bth z z' mi m2)) := by
  obtain ⟨hs, ht, h1, h2, h3, h4, h5, h6, h7, h8, h9, h10⟩ := id hI
  refine v_C_region ?_
  repeat' (first | (refine And.intro (by omega) ?_) | apply And.intro | intro _ | omega)
  all_goals (try (refine v_M_region ?_))
  all_goals repeat' (first | (refine And.intro (by omega) ?_) | apply And.intro | intro _ | omega)
  all_goals (try exact Bth.mk rfl hI (Kp.rfl' _))
  refine s_F_weigh (by omega) hI (by omega) (fun u t ht => ?_)
  have t0 := ht 0 (by decide) (by decide)
  have t1 := ht 1 (by decide) (by decide)
  have t2 := ht 2 (by decide) (by decide)
  have o0 := oddF_in h7 h8 h9 h10 (s := s) (kn := kn) (r := 0) (by decide) 4 (by decide)
  have o1 := oddF_in h7 h8 h9 h10 (s := s) (kn := kn) (r := 1) (by decide) 4 (by decide)
  have o2 := oddF_in h7 h8 h9 h10 (s := s) (kn := kn) (r := 2) (by decide) 4 (by decide)
  have hB : Base (sv (sv mi 27 u) 29 t) := hI
  have hK : Kp mi (sv (sv mi 27 u) 29 t) := by (repeat' (first | exact Kp.rfl' _ | refine Kp.w0 ?_ (by decide) | refine Kp.w134 ?_ (by decide) | refine Kp.w135 ?_ (by omega) | refine Kp.wo ?_ (by decide) | refine Kp.cp ?_ (by decide) | refine Kp.o ?_ (by decide)))
  have e0 : sv (sv mi 27 u) 29 t 29 (0 : Int).toNat = oddF (mi 135) s 0 kn 4 := t0
  have e1 : sv (sv mi 27 u) 29 t 29 (1 : Int).toNat = oddF (mi 135) s 1 kn 4 := t1
  have e2 : sv (sv mi 27 u) 29 t 29 (2 : Int).toNat = oddF (mi 135) s 2 kn 4 := t2
  generalize hm : sv (sv mi 27 u) 29 t = m1 at hB hK e0 e1 e2 ⊢
  have e135 : m1 135 = mi 135 := by rw [← hm]; rfl
  obtain ⟨-, -, -, -, -, -, -, -, k7, k8, k9, k10⟩ := id hB
  have S : ∀ {P : Int → MT → Prop} (i j x y o : Int), 0 ≤ i → i < 3 → i + 1 = j → m1 29 i.toNat = o → (o ≤ y → h_F_likeliest_7 (d - 1) x y j m1 P) → (y < o → h_F_likeliest_7 (d - 1) i o j m1 P) → h_F_likeliest_7 (d - 1) x y i m1 P := by
    intro P i j x y o a b e e2 w1 w2
    refine v_F_likeliest_7 ⟨fun q => by omega, fun _ => ?_⟩
    rw [e, e2]
    exact ⟨⟨a, b⟩, fun q => ⟨by omega, w1 q⟩, fun q => ⟨by omega, w2 q⟩⟩
  have F : ∀ {P : Int → MT → Prop} (x y : Int), P x m1 → h_F_likeliest_7 (d - 1) x y 3 m1 P := fun x y w => v_F_likeliest_7 ⟨fun _ => w, fun q => by omega⟩
  have MS : ∀ {P : Int → MT → Prop} (i j b : Int), 0 ≤ b → b < 3 → 0 ≤ i → i < 3 → i + 1 = j → (oddF (mi 135) s i kn 4 ≤ oddF (mi 135) s b kn 4 → h_M_region_28 d s kn b j m1 P) → (oddF (mi 135) s b kn 4 < oddF (mi 135) s i kn 4 → h_M_region_28 d s kn i j m1 P) → h_M_region_28 d s kn b i m1 P := by
    intro P i j b a1 a2 a3 a4 e w1 w2
    refine v_M_region_28 ⟨fun q => by omega, fun _ => ⟨by omega, s_M_odds (by omega) k7 k8 k9 k10 ⟨a3, a4⟩ (s_M_odds (by omega) k7 k8 k9 k10 ⟨a1, a2⟩ ?_)⟩⟩
    rw [e135, e]
    exact ⟨fun q => ⟨by omega, w1 q⟩, fun q => ⟨by omega, w2 q⟩⟩
  have MF : ∀ {P : Int → MT → Prop} (b : Int), 0 ≤ b → b < 3 → (oddF (mi 135) s b kn 4 = 0 → P (-1) m1) → (oddF (mi 135) s b kn 4 ≠ 0 → P b m1) → h_M_region_28 d s kn b 3 m1 P := by
    intro P b a1 a2 w1 w2
    refine v_M_region_28 ⟨fun _ => ⟨by omega, s_M_odds (by omega) k7 k8 k9 k10 ⟨a1, a2⟩ ?_⟩, fun q => by omega⟩
    rw [e135]
    exact ⟨w2, w1⟩
  have MM : ∀ z : Int, ((oddF (mi 135) s 0 kn 4 = 0 ∧ oddF (mi 135) s 1 kn 4 = 0 ∧ oddF (mi 135) s 2 kn 4 = 0) → z = -1) → ((0 < oddF (mi 135) s 0 kn 4 ∧ oddF (mi 135) s 1 kn 4 ≤ oddF (mi 135) s 0 kn 4 ∧ oddF (mi 135) s 2 kn 4 ≤ oddF (mi 135) s 0 kn 4) → z = 0) → ((oddF (mi 135) s 0 kn 4 < oddF (mi 135) s 1 kn 4 ∧ oddF (mi 135) s 2 kn 4 ≤ oddF (mi 135) s 1 kn 4) → z = 1) → ((oddF (mi 135) s 0 kn 4 < oddF (mi 135) s 2 kn 4 ∧ oddF (mi 135) s 1 kn 4 < oddF (mi 135) s 2 kn 4) → z = 2) → c_M_region d s kn m1 (fun z' m2 => Bth z z' mi m2) := by
    intro z z0 z1 z2 z3
    refine v_M_region ?_
    repeat' (first | (refine And.intro (by omega) ?_) | apply And.intro | intro _ | omega)
    refine MS 1 2 0 (by omega) (by omega) (by omega) (by omega) rfl (fun q => MS 2 3 0 (by omega) (by omega) (by omega) (by omega) rfl (fun q2 => MF 0 (by omega) (by omega) (fun q3 => ?_) (fun q3 => ?_)) (fun q2 => MF 2 (by omega) (by omega) (fun q3 => ?_) (fun q3 => ?_))) (fun q => MS 2 3 1 (by omega) (by omega) (by omega) (by omega) rfl (fun q2 => MF 1 (by omega) (by omega) (fun q3 => ?_) (fun q3 => ?_)) (fun q2 => MF 2 (by omega) (by omega) (fun q3 => ?_) (fun q3 => ?_)))
    all_goals first | exact Bth.mk (by omega) hB hK | (exfalso; omega)
  refine v_F_likeliest (S 0 1 _ _ _ (by omega) (by omega) rfl e0 (fun q => S 1 2 _ _ _ (by omega) (by omega) rfl e1 (fun q1 => S 2 3 _ _ _ (by omega) (by omega) rfl e2 (fun q2 => F _ _ ?_) (fun q2 => F _ _ ?_)) (fun q1 => S 2 3 _ _ _ (by omega) (by omega) rfl e2 (fun q2 => F _ _ ?_) (fun q2 => F _ _ ?_))) (fun q => S 1 2 _ _ _ (by omega) (by omega) rfl e1 (fun q1 => S 2 3 _ _ _ (by omega) (by omega) rfl e2 (fun q2 => F _ _ ?_) (fun q2 => F _ _ ?_)) (fun q1 => S 2 3 _ _ _ (by omega) (by omega) rfl e2 (fun q2 => F _ _ ?_) (fun q2 => F _ _ ?_))))
  all_goals exact MM _ (by omega) (by omega) (by omega) (by omega)
end SHARE
