section WEIGH
variable {d : Nat} {M : MT} {fr kn n : Int}
theorem SF_ld {a o b c : Int} (H : HX M fr kn n) (hb : 0 ≤ b ∧ b < M 135 0) (h : EQV (SFq M o b) (SFq M a b)) : EQV (SF M o b c) (SF M a b c) := by
  unfold SF
  split
  · exact h
  · exact FO_eqv H (SFq_SOK H hb) h
theorem sgX_ld {a o b c f g v : Int} (H : HX M fr kn n) (ha : -1 ≤ a ∧ a < M 135 0) (ho : -1 ≤ o ∧ o < M 135 0) (h : EQV (SFq M o b) (SFq M a b)) : sgX M fr kn n o b c f g v ↔ sgX M fr kn n a b c f g v := by
  unfold sgX
  constructor
  · rintro ⟨⟨h1, v1, v2, v3⟩, h2⟩
    exact ⟨⟨h1, by omega, v2, v3⟩, (SG_alike (M' := M) (SF_ld (c := c) H v2 h) h1.1).mpr h2⟩
  · rintro ⟨⟨h1, v1, v2, v3⟩, h2⟩
    exact ⟨⟨h1, by omega, v2, v3⟩, (SG_alike (M' := M) (SF_ld (c := c) H v2 h) h1.1).mp h2⟩
theorem thX_ld {a o b c f x : Int} (H : HX M fr kn n) (ha : -1 ≤ a ∧ a < M 135 0) (ho : -1 ≤ o ∧ o < M 135 0) (h : EQV (SFq M o b) (SFq M a b)) : thX M fr kn n f o b c x ↔ thX M fr kn n f a b c x := by
  unfold thX TH
  split
  · exact ⟨fun ⟨v, h1, h2⟩ => ⟨v, (sgX_ld H ha ho h).mp h1, h2⟩, fun ⟨v, h1, h2⟩ => ⟨v, (sgX_ld H ha ho h).mpr h1, h2⟩⟩
  · exact ⟨fun ⟨g, s, v, y, h1, h2⟩ => ⟨g, s, v, y, ⟨h1.1, (sgX_ld H ha ho h).mp h1.2⟩, h2⟩, fun ⟨g, s, v, y, h1, h2⟩ => ⟨g, s, v, y, ⟨h1.1, (sgX_ld H ha ho h).mpr h1.2⟩, h2⟩⟩
theorem rdX_iff (H : HX M fr kn n) {f a b x : Int} (hf : f < n) : rdX M fr kn n f a b x ↔ ∃ c : Int, (c = -1 ∨ (0 ≤ c ∧ c < M 135 0)) ∧ thX M fr kn n f a b c (x - (32 * M 135 4 + 1)) := RDf_iff (fun a b c f g v hx => (sgX_in H a b c f g v hx).1) hf
theorem rdX_ld {a o b f x : Int} (H : HX M fr kn n) (ha : -1 ≤ a ∧ a < M 135 0) (ho : -1 ≤ o ∧ o < M 135 0) (h : EQV (SFq M o b) (SFq M a b)) (hf : f < n) : rdX M fr kn n f o b x ↔ rdX M fr kn n f a b x := by
  rw [rdX_iff H hf, rdX_iff H hf]
  exact ⟨fun ⟨c, hc, ht⟩ => ⟨c, hc, (thX_ld H ha ho h).mp ht⟩, fun ⟨c, hc, ht⟩ => ⟨c, hc, (thX_ld H ha ho h).mpr ht⟩⟩
/-- what follows where a sign is over at frame g -/
def LVX (M : MT) (fr kn n b c g y : Int) : Prop := if c = -1 then g = n ∧ y = 0 else ∃ s y' : Int, (0 ≤ s ∧ s < 4 ∧ g + s < n) ∧ rdX M fr kn n (g + s) b c y' ∧ y = s * (32 * M 135 3) + y'
def GOX (M : MT) (fr kn n a b c f i x : Int) : Prop := ∃ (q : Nat) (v y : Int), f + q + 1 ≤ n ∧ PT (kc M fr kn a b c) f q i ((SF M a b c).1 - 1) v ∧ LVX M fr kn n b c (f + q + 1) y ∧ x = 32 * v + y
theorem LVX_in (H : HX M fr kn n) {b c g y : Int} (hg : 0 ≤ g) (h : LVX M fr kn n b c g y) : 0 ≤ y ∧ y ≤ 44100000 := by
  unfold LVX at h
  split at h
  · omega
  · obtain ⟨s, y', hs, hr, rfl⟩ := h
    have := rdX_in H (by omega) hr
    have sl := H.1.2.2.2.1
    have := mul_in (x := s) (y := 32 * M 135 3) (X := 3) (Y := 32000) (by omega) (by omega)
    omega
theorem GOX_in (H : HX M fr kn n) {a b c f i x : Int} (hv : VS (M 135 0) a b c) (hf : 0 ≤ f) (hi : 0 ≤ i) (h : GOX M fr kn n a b c f i x) : 0 ≤ x ∧ x ≤ 48000000 := by
  obtain ⟨q, v, y, h1, h2, h3, rfl⟩ := h
  have hn := H.2.2.2.2.2.2
  have := LVX_in H (by omega) h3
  have := PT_in (z := (SF M a b c).1) (m := n) (fun g i _ _ i0 i1 => kc_in H hv ⟨i0, i1⟩) q i _ v (by omega) hi (by omega) h2
  omega
theorem GOX_step (H : HX M fr kn n) {a b c f i x : Int} (hi : i < (SF M a b c).1) (hf : f < n) : GOX M fr kn n a b c f i x ↔ (GOX M fr kn n a b c (f + 1) i (x - kc M fr kn a b c f i * 32) ∨ (if i = (SF M a b c).1 - 1 then LVX M fr kn n b c (f + 1) (x - kc M fr kn a b c f i * 32) else GOX M fr kn n a b c (f + 1) (i + 1) (x - kc M fr kn a b c f i * 32))) := by
  constructor
  · rintro ⟨q, v, y, h1, h2, h3, rfl⟩
    cases q with
    | zero =>
      obtain ⟨e1, rfl⟩ := h2
      refine Or.inr ?_
      rw [if_pos e1, show 32 * kc M fr kn a b c f i + y - kc M fr kn a b c f i * 32 = y by omega]
      rw [show f + ((0 : Nat) : Int) + 1 = f + 1 by omega] at h3
      exact h3
    | succ q =>
      obtain ⟨s', v', e, hp, rfl⟩ := (PT_front _ q f i _ v).mp h2
      have st := PT_st _ _ _ _ _ _ hp
      rw [show f + ((q + 1 : Nat) : Int) + 1 = f + 1 + q + 1 by omega] at h3
      have ex : 32 * (kc M fr kn a b c f i + v') + y - kc M fr kn a b c f i * 32 = 32 * v' + y := by omega
      rw [ex]
      rcases e with rfl | rfl
      · exact Or.inl ⟨q, v', y, by omega, hp, h3, rfl⟩
      · refine Or.inr ?_
        rw [if_neg (by omega)]
        exact ⟨q, v', y, by omega, hp, h3, rfl⟩
  · rintro (⟨q, v, y, h1, h2, h3, e⟩ | h)
    · exact ⟨q + 1, kc M fr kn a b c f i + v, y, by omega, (PT_front _ q f i _ _).mpr ⟨i, v, Or.inl rfl, h2, rfl⟩, by rw [show f + ((q + 1 : Nat) : Int) + 1 = f + 1 + q + 1 by omega]; exact h3, by omega⟩
    · split at h
      · rename_i e
        exact ⟨0, kc M fr kn a b c f i, _, by omega, ⟨e, rfl⟩, by rw [show f + ((0 : Nat) : Int) + 1 = f + 1 by omega]; exact h, by omega⟩
      · obtain ⟨q, v, y, h1, h2, h3, e⟩ := h
        exact ⟨q + 1, kc M fr kn a b c f i + v, y, by omega, (PT_front _ q f i _ _).mpr ⟨i + 1, v, Or.inr rfl, h2, rfl⟩, by rw [show f + ((q + 1 : Nat) : Int) + 1 = f + 1 + q + 1 by omega]; exact h3, by omega⟩
theorem GOX_th {a b c f x : Int} (hv : VS (M 135 0) a b c) (hf : 0 ≤ f) (hfn : f < n) : thX M fr kn n f a b c x ↔ GOX M fr kn n a b c f 0 x := by
  unfold thX TH GOX LVX sgX SG
  obtain ⟨v1, v2, v3⟩ := id hv
  constructor
  · intro h
    split at h
    · rename_i ec
      obtain ⟨v, ⟨h1, h2, h3⟩, rfl⟩ := h
      subst ec
      refine ⟨(n - f - 1).toNat, v, 0, by omega, h3, ?_, by omega⟩
      rw [if_pos rfl]
      exact ⟨by omega, rfl⟩
    · rename_i ec
      obtain ⟨g, s, v, y, ⟨hg, h1, h2, h3⟩, hs, hr, rfl⟩ := h
      refine ⟨(g - f - 1).toNat, v, s * (32 * M 135 3) + y, by omega, h3, ?_, by omega⟩
      rw [if_neg ec]
      exact ⟨s, y, by omega, by rw [show f + ((g - f - 1).toNat : Int) + 1 + s = g + s by omega]; exact hr, rfl⟩
  · rintro ⟨q, v, y, h1, h2, h3, rfl⟩
    split at h3
    · rename_i ec
      rw [if_pos ec]
      subst ec
      exact ⟨v, ⟨⟨⟨hf, by omega⟩, hv⟩, hfn, by rw [show (n - f - 1).toNat = q by omega]; exact h2⟩, by omega⟩
    · rename_i ec
      rw [if_neg ec]
      obtain ⟨s, y', hs, hr, rfl⟩ := h3
      exact ⟨f + q + 1, s, v, y', ⟨by omega, ⟨⟨hf, by omega⟩, hv⟩, by omega, by rw [show (f + q + 1 - f - 1).toNat = q by omega]; exact h2⟩, hs, hr, by omega⟩
theorem s_R_step {m : MT} {P : MT → Prop} {a b c f l : Int} (hd : 2 < d) (H : HX M fr kn n) (hC : CT (m 104) (M 135) fr kn n) (hv : VS (M 135 0) a b c) (hf : 0 ≤ f ∧ f < n) (T : TSs M m a b c) (hl : MN (fun y => LVX M fr kn n b c (f + 1) y) l) (hg : ∀ i : Int, 0 ≤ i → i < (SF M a b c).1 → MN (fun x => GOX M fr kn n a b c (f + 1) i x) (m 111 (trp a b c * 4 + i).toNat)) (h : ∀ u : Nat → Int, (∀ i : Int, 0 ≤ i → i < (SF M a b c).1 → MN (fun x => GOX M fr kn n a b c f i x) (u (trp a b c * 4 + i).toNat)) → (∀ j : Nat, ¬ (trp a b c * 4 ≤ j ∧ (j : Int) < trp a b c * 4 + 4) → u j = m 111 j) → P (sv m 111 u)) : c_R_step d (trp a b c) f l m P := by
  have hn := H.2.2.2.2.2.2
  have s10 := H.1.2.1
  obtain ⟨v1, v2, v3⟩ := id hv
  have SS := SOK_SF H hv
  have sz := SS.1
  have tb : 0 ≤ trp a b c ∧ trp a b c < 1210 := by unfold trp pr_; omega
  have e110 := T.1
  have L : ∀ i : Int, i ≤ (SF M a b c).1 → 0 ≤ i → ∀ u : Nat → Int, (∀ k : Int, 0 ≤ k → k < i → MN (fun x => GOX M fr kn n a b c f k x) (u (trp a b c * 4 + k).toNat)) → (∀ j : Nat, ¬ (trp a b c * 4 ≤ j ∧ (j : Int) < trp a b c * 4 + i) → u j = m 111 j) → h_R_step_22 d (trp a b c) f l (trp a b c * 4) (trp a b c * 4 + (SF M a b c).1 - 1) (trp a b c * 4 + i) (sv m 111 u) P := by
    refine upto _ (fun i hi ih i0 u u1 u2 => ?_)
    refine v_R_step_22 ⟨fun q => h u (fun k k0 k1 => u1 k k0 (by omega)) (fun j hj => u2 j (by omega)), fun q => ?_⟩
    have hi1 : i < (SF M a b c).1 := by omega
    have x109 : (sv m 111 u) 109 (trp a b c * 4 + i).toNat = (SF M a b c).2 i.toNat := T.2 i i0 hi1
    have xi : (sv m 111 u) 111 (trp a b c * 4 + i).toNat = m 111 (trp a b c * 4 + i).toNat := u2 _ (by omega)
    have xj : (sv m 111 u) 111 (trp a b c * 4 + i + 1).toNat = m 111 (trp a b c * 4 + (i + 1)).toNat := by show u _ = _; rw [show trp a b c * 4 + i + 1 = trp a b c * 4 + (i + 1) by omega]; exact u2 _ (by omega)
    have kI := kc_in (f := f) H hv ⟨i0, hi1⟩
    have G0 := hg i i0 hi1
    have ek : KF (M 135) fr kn f ((SF M a b c).2 i.toNat) = kc M fr kn a b c f i := rfl
    -- the next step
    have NX : ∀ w : Int, MN (fun x => if i = (SF M a b c).1 - 1 then LVX M fr kn n b c (f + 1) x else GOX M fr kn n a b c (f + 1) (i + 1) x) w → (∀ x, (if i = (SF M a b c).1 - 1 then LVX M fr kn n b c (f + 1) x else GOX M fr kn n a b c (f + 1) (i + 1) x) → x ≤ 48000000) → h_R_step_22 d (trp a b c) f l (trp a b c * 4) (trp a b c * 4 + (SF M a b c).1 - 1) (trp a b c * 4 + i + 1) (wt (sv m 111 u) 111 (trp a b c * 4 + i).toNat (min 268435456 (kc M fr kn a b c f i * 32 + min (m 111 (trp a b c * 4 + i).toNat) w))) P := by
      intro w hw hwb
      rw [wt_sv, show trp a b c * 4 + i + 1 = trp a b c * 4 + (i + 1) by omega]
      refine ih hi1 (by omega) _ (fun k k0 k1 => ?_) (fun j hj => by rw [svn _ _ (by omega)]; exact u2 j (by omega))
      by_cases e : k = i
      · subst e
        rw [sv_eq]
        refine MN_cg (MN_cap (MN_or G0 hw) (k := kc M fr kn a b c f k * 32) (by omega) (fun x hx => ?_)) (fun x => GOX_step H hi1 hf.2)
        rcases hx with hx | hx
        · have := GOX_in H hv (by omega) i0 hx; omega
        · have := hwb x hx; omega
      · rw [svn _ _ (by omega)]; exact u1 k k0 (by omega)
    have gb := G0.2.2
    have g0 : 0 ≤ m 111 (trp a b c * 4 + i).toNat := by
      by_cases cc : m 111 (trp a b c * 4 + i).toNat < 268435456
      · exact (GOX_in H hv (by omega) i0 (G0.1 cc)).1
      · omega
    refine ⟨fun ne => ⟨by omega, ?_⟩, fun eq => ⟨by omega, ?_⟩⟩
    · have G1 := hg (i + 1) (by omega) (by omega)
      have g1b := G1.2.2
      have g10 : 0 ≤ m 111 (trp a b c * 4 + (i + 1)).toNat := by
        by_cases cc : m 111 (trp a b c * 4 + (i + 1)).toNat < 268435456
        · exact (GOX_in H hv (by omega) (by omega) (G1.1 cc)).1
        · omega
      rw [x109]
      refine s_Fr_costOf (mi := sv m 111 u) (xs := M 5) (ys := M 6) (w := M 7) (wo := M 14) (sl := M 16) (da := M 17) (ma := M 18) (c := M 135) (fr := fr) (kn := kn) (n := n) (by omega) H.2.2.1 H.2.2.2.1 H.2.2.2.2.1 hC (by omega) (SS.2 i i0 hi1) ?_
      rw [ek, xi, xj]
      refine ⟨by omega, NX _ ?_ (fun x hx => ?_)⟩
      · simp only [if_neg (show ¬ i = (SF M a b c).1 - 1 by omega)]; exact G1
      · rw [if_neg (by omega)] at hx; exact (GOX_in H hv (by omega) (by omega) hx).2
    · have lb := hl.2.2
      have l0 : 0 ≤ l := by
        by_cases cc : l < 268435456
        · exact (LVX_in H (by omega) (hl.1 cc)).1
        · omega
      rw [x109]
      refine s_Fr_costOf (mi := sv m 111 u) (xs := M 5) (ys := M 6) (w := M 7) (wo := M 14) (sl := M 16) (da := M 17) (ma := M 18) (c := M 135) (fr := fr) (kn := kn) (n := n) (by omega) H.2.2.1 H.2.2.2.1 H.2.2.2.2.1 hC (by omega) (SS.2 i i0 hi1) ?_
      rw [ek, xi]
      refine ⟨by omega, NX _ ?_ (fun x hx => ?_)⟩
      · simp only [if_pos (show i = (SF M a b c).1 - 1 by omega)]; exact hl
      · rw [if_pos (by omega)] at hx; have := LVX_in H (by omega) hx; omega
  refine v_R_step ?_
  rw [e110]
  refine ⟨by omega, ?_⟩
  have := L 0 (by omega) (by omega) (m 111) (fun k a b => by omega) (fun _ _ => rfl)
  rw [sv_self, Int.add_zero] at this
  exact this
/-- the least key from a frame on, of a pair that leads -/
def OD (M : MT) (fr kn n : Int) (m : MT) (f a b : Int) : Prop := ∀ f' : Int, f ≤ f' → f' < n → MN (fun y => rdX M fr kn n f' a b (y + (32 * M 135 4 + 1))) (m 113 (pr_ a b * 20 + f').toNat)
theorem s_R_passing {m : MT} {P : Int → MT → Prop} {b c g : Int} (hd : 1 < d) (H : HX M fr kn n) (hb : 0 ≤ b ∧ b < M 135 0) (hc : 0 ≤ c ∧ c < M 135 0) (hg : 0 ≤ g ∧ g ≤ n) (e103 : m 103 1 = n) (e15 : m 105 15 = M 135 3 * 32) (e16 : m 105 16 = M 135 4 * 32 + 1) (hL : ∃ o : Int, LD M b c o ∧ m 106 (pr_ b c).toNat = pr_ o c) (hO : ∀ o : Int, (-1 ≤ o ∧ o < M 135 0) → LD M o c o → OD M fr kn n m g o c) (h : ∀ x : Int, MN (fun y => LVX M fr kn n b c g y) x → P x m) : c_R_passing d b c g m P := by
  have hn := H.2.2.2.2.2.2
  have pr := H.1.2.2.2.2.2
  have sl := H.1.2.2.2.1
  have s10 := H.1.2.1
  obtain ⟨o, lo, e106⟩ := hL
  have ho : -1 ≤ o ∧ o < M 135 0 := by have := lo.1; omega
  have OO := hO o ho (LD_self lo)
  have e106' : m 106 ((b + 1) * 10 + c).toNat = pr_ o c := e106
  have pb : 0 ≤ pr_ o c ∧ pr_ o c < 110 := by unfold pr_; omega
  have L : ∀ i : Int, i ≤ n → g ≤ i → i ≤ g + 4 → ∀ x : Int, MN (fun y => ∃ s y' : Int, (0 ≤ s ∧ s < i - g ∧ g + s < n) ∧ rdX M fr kn n (g + s) b c y' ∧ y = s * (32 * M 135 3) + y') x → h_R_passing_28 d b c g (pr_ o c * 20) x (M 135 4 * 32 + 1 + (i - g) * (32 * M 135 3)) i m P := by
    refine upto _ (fun i hi ih i0 i4 x hx => ?_)
    have FIN : (n ≤ i ∨ g + 3 < i) → P x m := by
      intro w
      refine h x (MN_cg hx (fun y => ?_))
      unfold LVX
      rw [if_neg (by omega)]
      constructor
      · rintro ⟨s, y', hs, r⟩; exact ⟨s, y', by omega, r⟩
      · rintro ⟨s, y', hs, r⟩; exact ⟨s, y', by omega, r⟩
    have ms := mul_in (x := i - g) (y := 32 * M 135 3) (X := 4) (Y := 32000) (by omega) (by omega)
    refine v_R_passing_28 ?_
    rw [e103, e15]
    refine ⟨fun q => FIN (Or.inl q), fun q => ⟨by omega, fun w => FIN (Or.inr w), fun w => ?_⟩⟩
    have Oi := OO i (by omega) q
    have ob := Oi.2.2
    have bd : ∀ y, rdX M fr kn n i o c (y + (32 * M 135 4 + 1)) → y + (M 135 4 * 32 + 1 + (i - g) * (32 * M 135 3)) < 268435456 := fun y hy => by have := rdX_in H (by omega) hy; omega
    have CP := MN_cap Oi (k := M 135 4 * 32 + 1 + (i - g) * (32 * M 135 3)) (by omega) bd
    have o0 : -32001 ≤ m 113 (pr_ o c * 20 + i).toNat := by
      by_cases cc : m 113 (pr_ o c * 20 + i).toNat < 268435456
      · have := rdX_in H (by omega) (Oi.1 cc); omega
      · omega
    have NX := MN_cg (T := fun y => ∃ s y' : Int, (0 ≤ s ∧ s < i + 1 - g ∧ g + s < n) ∧ rdX M fr kn n (g + s) b c y' ∧ y = s * (32 * M 135 3) + y') (MN_or hx CP) (fun y => by
      constructor
      · rintro ⟨s, y', hs, hr, e⟩
        by_cases es : s = i - g
        · subst es
          refine Or.inr ?_
          rw [show g + (i - g) = i by omega] at hr
          have := (rdX_ld H (by omega) ho lo.2.1 q).mpr hr
          show rdX M fr kn n i o c _
          rw [show y - (M 135 4 * 32 + 1 + (i - g) * (32 * M 135 3)) + (32 * M 135 4 + 1) = y' by omega]
          exact this
        · exact Or.inl ⟨s, y', by omega, hr, e⟩
      · rintro (⟨s, y', hs, r⟩ | hr)
        · exact ⟨s, y', by omega, r⟩
        · have := (rdX_ld H (a := b) (by omega) ho lo.2.1 q).mp hr
          exact ⟨i - g, _, by omega, by rw [show g + (i - g) = i by omega]; exact this, by omega⟩)
    have em : min x (min 268435456 (M 135 4 * 32 + 1 + (i - g) * (32 * M 135 3) + m 113 (pr_ o c * 20 + i).toNat)) = min x (M 135 4 * 32 + 1 + (i - g) * (32 * M 135 3) + m 113 (pr_ o c * 20 + i).toNat) := by have := hx.2.2; omega
    rw [em] at NX
    have ep : M 135 4 * 32 + 1 + (i - g) * (32 * M 135 3) + M 135 3 * 32 = M 135 4 * 32 + 1 + (i + 1 - g) * (32 * M 135 3) := by
      rw [show i + 1 - g = (i - g) + 1 by omega, Int.add_mul]; omega
    refine ⟨by omega, ?_⟩
    rw [ep]
    exact ih q (by omega) (by omega) _ NX
  refine v_R_passing ?_
  rw [e106', e16]
  refine ⟨by omega, ?_⟩
  by_cases cg : g ≤ n
  · have := L g cg (by omega) (by omega) 268435456 (MN_far (fun y ⟨s, y', hs, _⟩ => by omega))
    rw [show g - g = 0 by omega, Int.zero_mul, Int.add_zero] at this
    exact this
  · omega
end WEIGH
