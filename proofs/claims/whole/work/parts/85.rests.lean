section RESTS
variable {d : Nat} {M : MT} {fr kn n : Int}
def rdX (M : MT) (fr kn n f a b x : Int) : Prop := RDf (sgX M fr kn n) (M 135 0) n (M 135 4) (M 135 3) f a b x
def thX (M : MT) (fr kn n f a b c x : Int) : Prop := TH (sgX M fr kn n) (M 135 0) n (M 135 4) (M 135 3) f a b c x
theorem rdX_in (H : HX M fr kn n) {f a b x : Int} (hf : 0 ≤ f) (h : rdX M fr kn n f a b x) : 1 ≤ x ∧ x ≤ 44000000 := RDf_in (sgX_in H) H.1.2.2.2.2.2 H.1.2.2.2.1 hf H.2.2.2.2.2.2.2 h
theorem MN_sum {S T : Int → Prop} {x y k : Int} (hx : MN S x) (hy : MN T y) (x1 : x < 268435456) (y1 : y < 268435456) (hb : ∀ v w : Int, S v → T w → 32 * (v + k) + 1 + w < 268435456) : MN (fun z => ∃ v w : Int, S v ∧ T w ∧ z = 32 * (v + k) + 1 + w) (32 * (x + k) + 1 + y) := by
  refine ⟨fun _ => ⟨x, y, hx.1 x1, hy.1 y1, rfl⟩, ?_, by have := hb x y (hx.1 x1) (hy.1 y1); omega⟩
  rintro z ⟨v, w, hv, hw, rfl⟩
  have := hx.2.1 v hv
  have := hy.2.1 w hw
  omega
def atx (f a b : Int) : Int := (f * 11 + a + 1) * 10 + b
/-- one pair of a frame at which a sign is over, and slides -/
def IT (M : MT) (fr kn n f a b c g s x : Int) : Prop := ∃ v y : Int, sgX M fr kn n a b c f g v ∧ rdX M fr kn n (g + s) b c y ∧ x = 32 * (v + (M 135 4 + s * M 135 3)) + 1 + y
theorem s_M_through {m : MT} {P : Int → MT → Prop} {T : Int → Prop} {a b c f x0 : Int} (hd : 2 < d) (H : HX M fr kn n) (hv : VS (M 135 0) a b c) (hc : 0 ≤ c) (hf : 0 ≤ f ∧ f < n) (e135 : m 135 = M 135) (e40 : m 134 40 = n) (hW : ∀ g : Int, 0 ≤ g → g ≤ n → MN (fun v => sgX M fr kn n a b c f g v) (m 160 g.toNat)) (hRe : ∀ f' : Int, f < f' → f' ≤ n → MN (fun v => rdX M fr kn n f' b c v) (m 162 (atx f' b c).toNat)) (hT : MN T x0) (hT0 : ∀ x, T x → 0 ≤ x) (h : ∀ x : Int, MN (fun x => T x ∨ thX M fr kn n f a b c (x - (32 * M 135 4 + 1))) x → P x m) : c_M_through d f b c x0 m P := by
  have hn := H.2.2.2.2.2.2
  have pr := H.1.2.2.2.2.2
  have sl := H.1.2.2.2.1
  have s10 := H.1.2.1
  obtain ⟨v1, v2, v3⟩ := id hv
  have IB : ∀ g s x : Int, f < g → 0 ≤ s → s < 4 → g + s < n → IT M fr kn n f a b c g s x → 0 ≤ x ∧ x < 268435456 := by
    rintro g s x hg s0 s1 hs ⟨w, y, h1, h2, rfl⟩
    have := sgX_in H _ _ _ _ _ _ h1
    have := rdX_in H (by omega) h2
    have := mul_in (x := s) (y := M 135 3) (X := 3) (Y := 1000) (by omega) sl
    omega
  have L : ∀ g : Int, g ≤ n → f < g → ∀ x : Int, MN (fun x => T x ∨ ∃ g' s : Int, (f < g' ∧ g' < g) ∧ (0 ≤ s ∧ s < 4 ∧ g' + s < n) ∧ IT M fr kn n f a b c g' s x) x → h_M_through_9 d f b c x0 x g m P := by
    refine upto _ (fun g hg ih g0 x hx => ?_)
    refine v_M_through_9 ?_
    rw [e40]
    refine ⟨fun q => h x (MN_cg hx (fun y => ?_)), fun q => ⟨by omega, fun w1 => ?_, fun w1 => ⟨by omega, ih q (by omega) x (MN_cg hx (fun y => ?_))⟩⟩⟩
    · unfold thX TH
      rw [if_neg (by omega)]
      constructor
      · rintro (hy | ⟨g', s, v, w, ⟨hg', hs'⟩, hb, hr, e⟩)
        · exact Or.inl hy
        · have e2 : s * (32 * M 135 3) = 32 * (s * M 135 3) := by rw [Int.mul_left_comm]
          rw [e2] at e
          exact Or.inr ⟨g', s, by omega, hb, v, w, hs', hr, by omega⟩
      · rintro (hy | ⟨g', s, hg', hb, v, w, hs', hr, e⟩)
        · exact Or.inl hy
        · have e2 : s * (32 * M 135 3) = 32 * (s * M 135 3) := by rw [Int.mul_left_comm]
          exact Or.inr ⟨g', s, v, w, ⟨hg'.1, hs'⟩, hb, hr, by rw [e2]; omega⟩
    · -- slides
      have Wg := hW g (by omega) (by omega)
      have LS : ∀ s : Int, s ≤ 4 → 0 ≤ s → ∀ x : Int, MN (fun x => (T x ∨ ∃ g' s : Int, (f < g' ∧ g' < g) ∧ (0 ≤ s ∧ s < 4 ∧ g' + s < n) ∧ IT M fr kn n f a b c g' s x) ∨ ∃ s' : Int, (0 ≤ s' ∧ s' < s ∧ g + s' < n) ∧ IT M fr kn n f a b c g s' x) x → h_M_through_37 d f b c x0 x g s m P := by
        refine upto _ (fun s hs ihs s0 x hx => ?_)
        have FIN : (4 ≤ s ∨ n ≤ g + s) → h_M_through_9 d f b c x0 x (g + 1) m P := by
          intro w
          refine ih q (by omega) x (MN_cg hx (fun y => ?_))
          constructor
          · rintro (hy | ⟨g', s', hg', hb, hi⟩)
            · exact Or.inl (Or.inl hy)
            · by_cases e : g' = g
              · subst e; exact Or.inr ⟨s', by omega, hi⟩
              · exact Or.inl (Or.inr ⟨g', s', by omega, hb, hi⟩)
          · rintro ((hy | ⟨g', s', hg', hb, hi⟩) | ⟨s', hb, hi⟩)
            · exact Or.inl hy
            · exact Or.inr ⟨g', s', by omega, hb, hi⟩
            · exact Or.inr ⟨g, s', by omega, by omega, hi⟩
        have ms := mul_in (x := s) (y := M 135 3) (X := 4) (Y := 1000) (by omega) sl
        refine v_M_through_37 ?_
        rw [e40, e135]
        refine ⟨fun q4 => ⟨by omega, FIN (Or.inl q4)⟩, fun q4 => ⟨by omega, fun w2 => ⟨by omega, FIN (Or.inr w2)⟩, fun w2 => ⟨by omega, ?_⟩⟩⟩
        have Rg := hRe (g + s) (by omega) (by omega)
        have ea : (atx (g + s) b c).toNat = (((g + s) * 11 + b + 1) * 10 + c).toNat := rfl
        rw [ea] at Rg
        have EQ : ∀ y, ((T y ∨ ∃ g' s : Int, (f < g' ∧ g' < g) ∧ (0 ≤ s ∧ s < 4 ∧ g' + s < n) ∧ IT M fr kn n f a b c g' s y) ∨ ∃ s' : Int, (0 ≤ s' ∧ s' < s + 1 ∧ g + s' < n) ∧ IT M fr kn n f a b c g s' y) ↔ (((T y ∨ ∃ g' s : Int, (f < g' ∧ g' < g) ∧ (0 ≤ s ∧ s < 4 ∧ g' + s < n) ∧ IT M fr kn n f a b c g' s y) ∨ ∃ s' : Int, (0 ≤ s' ∧ s' < s ∧ g + s' < n) ∧ IT M fr kn n f a b c g s' y) ∨ IT M fr kn n f a b c g s y) := by
          intro y
          constructor
          · rintro (hy | ⟨s', hb, hi⟩)
            · exact Or.inl (Or.inl hy)
            · by_cases e : s' = s
              · subst e; exact Or.inr hi
              · exact Or.inl (Or.inr ⟨s', by omega, hi⟩)
          · rintro ((hy | ⟨s', hb, hi⟩) | hi)
            · exact Or.inl hy
            · exact Or.inr ⟨s', by omega, hi⟩
            · exact Or.inr ⟨s, by omega, hi⟩
        refine ⟨fun w3 => ?_, fun w3 => ?_⟩
        · have SM := MN_sum (k := M 135 4 + s * M 135 3) Wg Rg w1 w3 (fun v w hv hw => by have := sgX_in H _ _ _ _ _ _ hv; have := rdX_in H (by omega) hw; omega)
          have b1 := sgX_in H _ _ _ _ _ _ (Wg.1 w1)
          have b2 := rdX_in H (by omega) (Rg.1 w3)
          have NX := MN_cg (MN_or hx SM) EQ
          have ee : 32 * (m 160 g.toNat + M 135 4 + s * M 135 3) + 1 + m 162 (((g + s) * 11 + b + 1) * 10 + c).toNat = 32 * (m 160 g.toNat + (M 135 4 + s * M 135 3)) + 1 + m 162 (((g + s) * 11 + b + 1) * 10 + c).toNat := by omega
          rw [ee]
          refine ⟨by omega, fun w4 => ⟨by omega, ihs q4 (by omega) x ?_⟩, fun w4 => ⟨by omega, ihs q4 (by omega) _ ?_⟩⟩
          · rw [Int.min_eq_left w4] at NX; exact NX
          · rw [Int.min_eq_right (by omega)] at NX; exact NX
        · have NO : ∀ y, ¬ IT M fr kn n f a b c g s y := by
            rintro y ⟨v, w, _, hw, _⟩
            exact MN_no Rg w3 (fun v hv => by have := rdX_in H (by omega) hv; omega) w hw
          have NX : MN (fun x => (T x ∨ ∃ g' s : Int, (f < g' ∧ g' < g) ∧ (0 ≤ s ∧ s < 4 ∧ g' + s < n) ∧ IT M fr kn n f a b c g' s x) ∨ ∃ s' : Int, (0 ≤ s' ∧ s' < s + 1 ∧ g + s' < n) ∧ IT M fr kn n f a b c g s' x) x := MN_cg hx (fun y => (EQ y).trans ⟨fun hy => hy.elim id (fun z => absurd z (NO y)), Or.inl⟩)
          exact ⟨fun w4 => ⟨by omega, ihs q4 (by omega) x NX⟩, fun w4 => by have := hx.2.2; omega⟩
      refine LS 0 (by omega) (by omega) x (MN_cg hx (fun y => ⟨fun hy => hy.elim id (fun ⟨s', hb, _⟩ => by omega), Or.inl⟩))
    · have NO : ∀ s y, ¬ IT M fr kn n f a b c g s y := by
        rintro s y ⟨v, w, hw, _, _⟩
        exact MN_no (hW g (by omega) (by omega)) w1 (fun v hv => by have := sgX_in H _ _ _ _ _ _ hv; omega) v hw
      constructor
      · rintro (hy | ⟨g', s, hg', hb, hi⟩)
        · exact Or.inl hy
        · by_cases e : g' = g
          · subst e; exact absurd hi (NO s y)
          · exact Or.inr ⟨g', s, by omega, hb, hi⟩
      · rintro (hy | ⟨g', s, hg', hb, hi⟩)
        · exact Or.inl hy
        · exact Or.inr ⟨g', s, by omega, hb, hi⟩
  refine v_M_through ⟨by omega, L (f + 1) (by omega) (by omega) x0 (MN_cg hT (fun y => ⟨fun hy => hy.elim id (fun ⟨g', s, hg', _⟩ => by omega), Or.inl⟩))⟩
theorem tix_ne {a b c f a' b' c' f' g : Int} (ha : -1 ≤ a ∧ a < 10) (hb : 0 ≤ b ∧ b < 10) (hc : -1 ≤ c ∧ c < 10) (hf : 0 ≤ f ∧ f < 20) (ha' : -1 ≤ a' ∧ a' < 10) (hb' : 0 ≤ b' ∧ b' < 10) (hc' : -1 ≤ c' ∧ c' < 10) (hf' : 0 ≤ f' ∧ f' < 20) (hg : 0 ≤ g ∧ g ≤ 20) (hne : ¬ (a' = a ∧ b' = b ∧ c' = c ∧ f' = f)) : ¬ (tix a b c f ≤ tix a' b' c' f' + g ∧ tix a' b' c' f' + g ≤ tix a b c f + 20) := by
  unfold tix
  intro h
  have e1 : ((a' + 1) * 10 + b') * 11 + c' + 1 = ((a + 1) * 10 + b) * 11 + c + 1 := by omega
  have e2 : f' = f := by omega
  have e3 : c' = c := by omega
  have e4 : b' = b := by omega
  exact hne ⟨by omega, e4, e3, e2⟩
theorem tix_0 {a b c f g : Int} (ha : -1 ≤ a) (hb : 0 ≤ b) (hc : -1 ≤ c) (hf : 0 ≤ f) (hg : 0 ≤ g) : 0 ≤ tix a b c f + g := by unfold tix; omega
/-- what is known of the rests and of the table -/
def RSI (M : MT) (fr kn n : Int) (m : MT) (D : Int → Int → Int → Prop) : Prop := ∀ f a b : Int, (0 ≤ f ∧ f ≤ n) → VS (M 135 0) a b (-1) → D f a b → MN (fun v => rdX M fr kn n f a b v) (m 162 (atx f a b).toNat) ∧ (f < n → ∀ c g : Int, VS (M 135 0) a b c → (0 ≤ g ∧ g ≤ n) → MN (fun v => sgX M fr kn n a b c f g v) (m 163 (tix a b c f + g).toNat))
theorem RSI_mono {m : MT} {D D' : Int → Int → Int → Prop} (h : RSI M fr kn n m D) (e : ∀ f a b : Int, (0 ≤ f ∧ f ≤ n) → VS (M 135 0) a b (-1) → D' f a b → D f a b) : RSI M fr kn n m D' := fun f a b hf hv hD => h f a b hf hv (e f a b hf hv hD)
def dn (f a b f' a' b' : Int) : Prop := f < f' ∨ (f' = f ∧ (a' < a ∨ (a' = a ∧ b' < b)))
theorem s_M_rests {m : MT} {P : MT → Prop} (hd : 20 < d) (H : HX M fr kn n) (hL : LKM M (M 135) fr kn n) (hR : RX M m) (h : ∀ m1 : MT, RX m m1 → m1 164 = m 164 → m1 134 56 = m 134 56 → RSI M fr kn n m1 (fun _ _ _ => True) → P m1) : c_M_rests d m P := by
  have hn := H.2.2.2.2.2.2
  have pr := H.1.2.2.2.2.2
  have sl := H.1.2.2.2.1
  have s10 := H.1.2.1
  have E40 : ∀ m' : MT, RX m m' → m' 134 40 = n := fun m' r => by rw [r.2 40 (by decide) (by decide), hR.2 40 (by decide) (by decide)]; exact hL.1
  have E135 : ∀ m' : MT, RX m m' → m' 135 = M 135 := fun m' r => by rw [r.1 135 (by decide) (by decide) (by decide) (by decide)]; exact hR.1 135 (by decide) (by decide) (by decide) (by decide)
  have h0 : ∀ a b c f g v : Int, sgX M fr kn n a b c f g v → f < g := fun a b c f g v hx => (sgX_in H a b c f g v hx).1
  -- writing a rest
  have WRT : ∀ (f a b x : Int) (m' : MT), (0 ≤ f ∧ f ≤ n) → VS (M 135 0) a b (-1) → RSI M fr kn n m' (dn f a b) → MN (fun v => rdX M fr kn n f a b v) x → (f < n → ∀ c g : Int, VS (M 135 0) a b c → (0 ≤ g ∧ g ≤ n) → MN (fun v => sgX M fr kn n a b c f g v) (m' 163 (tix a b c f + g).toNat)) → RSI M fr kn n (wt m' 162 (atx f a b).toNat x) (dn f a (b + 1)) := by
    intro f a b x m' hf hv hI hx hT f' a' b' hf' hv' hD
    obtain ⟨v1, v2, v3⟩ := id hv
    obtain ⟨u1, u2, u3⟩ := id hv'
    by_cases e : f' = f ∧ a' = a ∧ b' = b
    · obtain ⟨rfl, rfl, rfl⟩ := e
      exact ⟨by rw [wt_same]; exact hx, hT⟩
    · have hD' : dn f a b f' a' b' := by unfold dn at *; omega
      obtain ⟨x1, x2⟩ := hI f' a' b' hf' hv' hD'
      refine ⟨?_, x2⟩
      rw [wt_ne _ _ (by unfold atx; omega)]
      exact x1
  have LF : ∀ f : Int, -1 ≤ f → f ≤ n → ∀ m' : MT, RX m m' → m' 164 = m 164 → m' 134 56 = m 134 56 → RSI M fr kn n m' (fun f' _ _ => f < f') → h_M_rests_8 d 32 f m' P := by
    refine dnto _ (fun f hfl ihf hfn m' r e164 e56 hI => ?_)
    refine v_M_rests_8 ⟨fun q => h m' r e164 e56 (RSI_mono hI (fun f' a b hf _ _ => by omega)), fun q => ?_⟩
    have LA : ∀ a : Int, a ≤ M 135 0 → -1 ≤ a → ∀ m' : MT, RX m m' → m' 164 = m 164 → m' 134 56 = m 134 56 → RSI M fr kn n m' (dn f a 0) → h_M_rests_14 d 32 f a m' P := by
      refine upto _ (fun a ha iha a0 m' r e164 e56 hI => ?_)
      refine v_M_rests_14 ?_
      rw [E135 m' r]
      refine ⟨fun q2 => ⟨by omega, ihf (by omega) (by omega) m' r e164 e56 (RSI_mono hI (fun f' a' b' hf' hv' hD => ?_))⟩, fun q2 => ?_⟩
      · obtain ⟨u1, u2, u3⟩ := id hv'
        unfold dn
        omega
      have LB : ∀ b : Int, b ≤ M 135 0 → 0 ≤ b → ∀ m' : MT, RX m m' → m' 164 = m 164 → m' 134 56 = m 134 56 → RSI M fr kn n m' (dn f a b) → h_M_rests_27 d 32 f a b m' P := by
        refine upto _ (fun b hb ihb b0 m' r e164 e56 hI => ?_)
        refine v_M_rests_27 ?_
        rw [E135 m' r, E40 m' r]
        refine ⟨fun q3 => ⟨by omega, iha q2 (by omega) m' r e164 e56 (RSI_mono hI (fun f' a' b' hf' hv' hD => ?_))⟩, fun q3 => ?_⟩
        · obtain ⟨u1, u2, u3⟩ := id hv'
          unfold dn at *
          omega
        have VV : VS (M 135 0) a b (-1) := ⟨by omega, by omega, Or.inl rfl⟩
        refine ⟨fun q4 => ⟨by omega, ?_⟩, fun q4 => ⟨by omega, ?_⟩⟩
        · refine ihb q3 (by omega) _ (r.trans ⟨fun k _ _ _ k4 => wt_row _ _ (by omega), fun j _ _ => by rw [wt_row _ _ (by decide)]⟩) (by rw [wt_row _ _ (by decide)]; exact e164) (by rw [wt_row _ _ (by decide)]; exact e56) (WRT f a b _ m' (by omega) VV hI (MN_far (fun v => RDf_no (by omega))) (fun w => by omega))
        · -- a sign that is the last
          -- the table of (a, b, f) keeps what is known
          have HOLT : ∀ (c : Int) (m1 m2 : MT), VS (M 135 0) a b c → m2 162 = m1 162 → (∀ j : Nat, ¬ (tix a b c f ≤ j ∧ (j : Int) ≤ tix a b c f + 20) → m2 163 j = m1 163 j) → RSI M fr kn n m1 (dn f a b) → RSI M fr kn n m2 (dn f a b) := by
            intro c m1 m2 hv e162 e163 hI f' a' b' hf' hv' hD
            obtain ⟨v1, v2, v3⟩ := id hv
            obtain ⟨x1, x2⟩ := hI f' a' b' hf' hv' hD
            refine ⟨by rw [e162]; exact x1, fun w c' g hvc hg => ?_⟩
            obtain ⟨u1, u2, u3⟩ := id hvc
            have ne := tix_ne (a := a) (b := b) (c := c) (f := f) (a' := a') (b' := b') (c' := c') (f' := f') (g := g) (by omega) (by omega) (by omega) (by omega) (by omega) (by omega) (by omega) (by omega) (by omega) (by unfold dn at hD; omega)
            have nn := tix_0 (a := a') (b := b') (c := c') (f := f') (g := g) (by omega) (by omega) (by omega) (by omega) (by omega)
            rw [e163 _ (by omega)]
            exact x2 w c' g hvc hg
          refine s_M_keeps (by omega) H hL (hR.trans r) VV (by omega) (fun m1 r1 f162 f164 W1 T1 T2 f56 => ?_)
          have r01 := r.trans r1
          rw [E40 m1 r01, E135 m1 r01]
          have I1 := HOLT (-1) m' m1 VV f162 T2 hI
          have Wn := W1 n (by omega) (by omega)
          -- the signs behind
          have LC : ∀ c : Int, c ≤ M 135 0 → 0 ≤ c → ∀ (x : Int) (m1 : MT), RX m m1 → m1 164 = m 164 → m1 134 56 = m 134 56 → RSI M fr kn n m1 (dn f a b) → (∀ c' g : Int, (c' = -1 ∨ (0 ≤ c' ∧ c' < c)) → (0 ≤ g ∧ g ≤ n) → MN (fun v => sgX M fr kn n a b c' f g v) (m1 163 (tix a b c' f + g).toNat)) → MN (fun x => ∃ c' : Int, (c' = -1 ∨ (0 ≤ c' ∧ c' < c)) ∧ thX M fr kn n f a b c' (x - (32 * M 135 4 + 1))) x → h_M_rests_100 d 32 f a b x c m1 P := by
            refine upto _ (fun c hc ihc c0 x m1 r1 g164 g56 I1 TT hx => ?_)
            refine v_M_rests_100 ?_
            rw [E135 m1 r1]
            refine ⟨fun q5 => ⟨by omega, ?_⟩, fun q5 => ⟨by omega, ?_⟩⟩
            · refine ihb q3 (by omega) _ (r1.trans ⟨fun k _ _ _ k4 => wt_row _ _ (by omega), fun j _ _ => by rw [wt_row _ _ (by decide)]⟩) (by rw [wt_row _ _ (by decide)]; exact g164) (by rw [wt_row _ _ (by decide)]; exact g56) (WRT f a b _ m1 (by omega) VV I1 (MN_cg hx (fun y => ?_)) (fun _ c' g hvc hg => TT c' g (by obtain ⟨_, _, u3⟩ := hvc; omega) hg))
              have := RDf_iff (sg := sgX M fr kn n) (S := M 135 0) (n := n) (pr := M 135 4) (sl := M 135 3) h0 (f := f) (a := a) (b := b) (x := y) (by omega)
              have ec : c = M 135 0 := by omega
              subst ec
              exact this
            · have VC : VS (M 135 0) a b c := ⟨VV.1, VV.2.1, Or.inr ⟨c0, q5⟩⟩
              refine s_M_keeps (by omega) H hL (hR.trans r1) VC (by omega) (fun m2 r2 k162 k164 W2 T3 T4 k56 => ?_)
              have r12 := r1.trans r2
              have I2 := HOLT c m1 m2 VC k162 T4 I1
              have TT2 : ∀ c' g : Int, (c' = -1 ∨ (0 ≤ c' ∧ c' < c + 1)) → (0 ≤ g ∧ g ≤ n) → MN (fun v => sgX M fr kn n a b c' f g v) (m2 163 (tix a b c' f + g).toNat) := by
                intro c' g hc' hg
                by_cases e : c' = c
                · subst e
                  rw [T3 g hg.1 hg.2]
                  exact W2 g hg.1 hg.2
                · have ne := tix_ne (a := a) (b := b) (c := c) (f := f) (a' := a) (b' := b) (c' := c') (f' := f) (g := g) (by omega) (by omega) (by omega) (by omega) (by omega) (by omega) (by omega) (by omega) (by omega) (by omega)
                  have nn := tix_0 (a := a) (b := b) (c := c') (f := f) (g := g) (by omega) (by omega) (by omega) (by omega) (by omega)
                  rw [T4 _ (by omega)]
                  exact TT c' g (by omega) hg
              refine s_M_through (T := fun x => ∃ c' : Int, (c' = -1 ∨ (0 ≤ c' ∧ c' < c)) ∧ thX M fr kn n f a b c' (x - (32 * M 135 4 + 1))) (by omega) H VC c0 (by omega) (E135 m2 r12) (E40 m2 r12) W2 (fun f' f1 f2 => (I2 f' b c (by omega) ⟨Or.inr VV.2.1, ⟨c0, q5⟩, Or.inl rfl⟩ (Or.inl f1)).1) hx ?_ (fun x2 hx2 => ⟨by omega, ihc q5 (by omega) x2 m2 r12 (k164.trans g164) (k56.trans g56) I2 TT2 (MN_cg hx2 (fun y => ?_))⟩)
              · rintro y ⟨c', _, ht⟩
                have := TH_in (sgX_in H) pr sl (by omega) hn.2 ht
                omega
              · constructor
                · rintro ⟨c', hc', ht⟩
                  by_cases e : c' = c
                  · subst e; exact Or.inr ht
                  · exact Or.inl ⟨c', by omega, ht⟩
                · rintro (⟨c', hc', ht⟩ | ht)
                  · exact ⟨c', by omega, ht⟩
                  · exact ⟨c, by omega, ht⟩
          have TT0 : ∀ c' g : Int, (c' = -1 ∨ (0 ≤ c' ∧ c' < 0)) → (0 ≤ g ∧ g ≤ n) → MN (fun v => sgX M fr kn n a b c' f g v) (m1 163 (tix a b c' f + g).toNat) := by
            intro c' g hc' hg
            have : c' = -1 := by omega
            subst this
            rw [T1 g hg.1 hg.2]
            exact W1 g hg.1 hg.2
          have EQ0 : ∀ y : Int, (∃ c' : Int, (c' = -1 ∨ (0 ≤ c' ∧ c' < 0)) ∧ thX M fr kn n f a b c' (y - (32 * M 135 4 + 1))) ↔ ∃ v : Int, sgX M fr kn n a b (-1) f n v ∧ y = 32 * (v + M 135 4) + 1 := by
            intro y
            constructor
            · rintro ⟨c', hc', ht⟩
              have : c' = -1 := by omega
              subst this
              unfold thX TH at ht
              rw [if_pos rfl] at ht
              obtain ⟨v, hv, e⟩ := ht
              exact ⟨v, hv, by omega⟩
            · rintro ⟨v, hv, e⟩
              refine ⟨-1, Or.inl rfl, ?_⟩
              unfold thX TH
              rw [if_pos rfl]
              exact ⟨v, hv, by omega⟩
          refine ⟨by omega, fun w => LC 0 (by omega) (by omega) _ m1 r01 (f164.trans e164) (f56.trans e56) I1 TT0 (MN_cg (MN_far (S := fun _ => False) (fun v hv => hv)) (fun y => (EQ0 y).trans ⟨fun ⟨v, hv, _⟩ => MN_no Wn w (fun v hv => by have := sgX_in H _ _ _ _ _ _ hv; omega) v hv, fun hF => hF.elim⟩)), fun w => ?_⟩
          have bw := sgX_in H _ _ _ _ _ _ (Wn.1 w)
          refine ⟨by omega, LC 0 (by omega) (by omega) _ m1 r01 (f164.trans e164) (f56.trans e56) I1 TT0 (MN_cg (S := fun y => ∃ v : Int, sgX M fr kn n a b (-1) f n v ∧ y = 32 * (v + M 135 4) + 1) ⟨fun _ => ⟨_, Wn.1 w, rfl⟩, ?_, by omega⟩ EQ0)⟩
          rintro y ⟨v, hv, rfl⟩
          have := Wn.2.1 v hv
          omega
      exact LB 0 (by omega) (by omega) m' r e164 e56 hI
    refine LA (-1) (by omega) (by omega) m' r e164 e56 (RSI_mono hI (fun f' a' b' hf' hv' hD => ?_))
    obtain ⟨u1, u2, u3⟩ := id hv'
    unfold dn at hD
    omega
  refine v_M_rests ?_
  rw [E40 m (RX.rfl' m)]
  exact LF n (by omega) (by omega) m (RX.rfl' m) rfl rfl (fun f' a b hf _ hD => by omega)
/-- the least key of all rows -/
def allX (M : MT) (fr kn n x : Int) : Prop := ∃ b : Int, (0 ≤ b ∧ b < M 135 0) ∧ rdX M fr kn n 0 (-1) b x
theorem s_M_least {m : MT} {P : Int → MT → Prop} (hd : 1 < d) (H : HX M fr kn n) (e135 : m 135 = M 135) (hI : RSI M fr kn n m (fun _ _ _ => True)) (h : ∀ x : Int, MN (fun v => allX M fr kn n v) x → P x m) : c_M_least d m P := by
  have hn := H.2.2.2.2.2.2
  have s10 := H.1.2.1
  have L : ∀ b : Int, b ≤ M 135 0 → 0 ≤ b → ∀ x : Int, MN (fun v => ∃ b' : Int, (0 ≤ b' ∧ b' < b) ∧ rdX M fr kn n 0 (-1) b' v) x → h_M_least_6 d x b m P := by
    refine upto _ (fun b hb ih b0 x hx => ?_)
    refine v_M_least_6 ?_
    rw [e135]
    refine ⟨fun q => h x (MN_cg hx (fun v => ⟨fun ⟨b', hb', hr⟩ => ⟨b', by omega, hr⟩, fun ⟨b', hb', hr⟩ => ⟨b', by omega, hr⟩⟩)), fun q => ⟨by omega, ?_⟩⟩
    have R := (hI 0 (-1) b (by omega) ⟨Or.inl rfl, by omega, Or.inl rfl⟩ trivial).1
    have ea : (atx 0 (-1) b).toNat = (0 + b).toNat := by unfold atx; omega
    rw [ea] at R
    have NX := MN_cg (T := fun v => ∃ b' : Int, (0 ≤ b' ∧ b' < b + 1) ∧ rdX M fr kn n 0 (-1) b' v) (MN_or hx R) (fun v => by
      constructor
      · rintro ⟨b', hb', hr⟩
        by_cases e : b' = b
        · subst e; exact Or.inr hr
        · exact Or.inl ⟨b', by omega, hr⟩
      · rintro (⟨b', hb', hr⟩ | hr)
        · exact ⟨b', by omega, hr⟩
        · exact ⟨b, by omega, hr⟩)
    refine ⟨fun w => ⟨by omega, ih q (by omega) x ?_⟩, fun w => ⟨by omega, ih q (by omega) _ ?_⟩⟩
    · rw [Int.min_eq_left w] at NX; exact NX
    · rw [Int.min_eq_right (by omega)] at NX; exact NX
  exact v_M_least (L 0 (by omega) (by omega) _ (MN_far (fun v ⟨b', hb', _⟩ => by omega)))
end RESTS
