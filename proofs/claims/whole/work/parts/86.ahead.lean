section AHEAD
variable {d : Nat} {M : MT} {fr kn n : Int}
/-- what it costs to come to a frame, behind one more sign -/
def AN (M : MT) (fr kn n : Int) (A : Int → Int → Prop) (a b c f' x : Int) : Prop := ∃ f g s v0 v1 : Int, A f v0 ∧ sgX M fr kn n a b c f g v1 ∧ (0 ≤ s ∧ s < 4 ∧ g + s < n) ∧ f' = g + s ∧ x = v0 + v1 + M 135 4 + s * M 135 3
def A0 (f v : Int) : Prop := f = 0 ∧ v = 0
def ABd (n : Int) (A : Int → Int → Prop) (k : Int) : Prop := ∀ f v : Int, A f v → (k ≤ f ∧ f < n) ∧ 0 ≤ v ∧ v ≤ 70000 * k
theorem ABd_0 (hn : 1 ≤ n) : ABd n A0 0 := by rintro f v ⟨rfl, rfl⟩; omega
theorem ABd_n {A : Int → Int → Prop} {k a b c : Int} (H : HX M fr kn n) (h : ABd n A k) : ABd n (AN M fr kn n A a b c) (k + 1) := by
  rintro f' x ⟨f, g, s, v0, v1, hA, hs, hb, rfl, rfl⟩
  have := h f v0 hA
  have := sgX_in H _ _ _ _ _ _ hs
  have pr := H.1.2.2.2.2.2
  have sl := H.1.2.2.2.1
  have := mul_in (x := s) (y := M 135 3) (X := 3) (Y := 1000) (by omega) sl
  omega
def AHD (m : MT) (A : Int → Int → Prop) (k : Int) (n : Int) : Prop := ∀ f : Int, 0 ≤ f → f < n → MN (fun v => A f v) (m 164 (21 * k + f).toNat)
theorem s_M_start {m : MT} {P : MT → Prop} (h : ∀ t : Nat → Int, AHD (sv m 164 t) A0 0 20 → P (sv m 164 t)) : c_M_start d m P := by
  have L : ∀ i : Int, i ≤ 21 → 0 ≤ i → ∀ t : Nat → Int, (∀ f : Int, 0 ≤ f → f < i → t f.toNat = if f = 0 then 0 else 268435456) → h_M_start_2 d i (sv m 164 t) P := by
    refine upto _ (fun i hi ih i0 t t1 => ?_)
    have NX : ∀ z : Int, (z = if i = 0 then 0 else 268435456) → i < 21 → h_M_start_2 d (i + 1) (wt (sv m 164 t) 164 i.toNat z) P := by
      intro z hz q
      rw [wt_sv]
      refine ih q (by omega) _ (fun f f0 f1 => ?_)
      by_cases e : f = i
      · subst e; rw [sv_eq]; exact hz
      · rw [svn _ _ (by omega)]; exact t1 f f0 (by omega)
    refine v_M_start_2 ⟨fun q => h t (fun f f0 f1 => ?_), fun q => ⟨fun w => ⟨by omega, NX _ (by rw [if_neg w]) (by omega)⟩, fun w => ⟨by omega, NX _ (by rw [if_pos w]) (by omega)⟩⟩⟩
    show MN _ (t (21 * 0 + f).toNat)
    rw [show (21 * 0 + f).toNat = f.toNat by omega, t1 f f0 (by omega)]
    split
    · rename_i e; exact ⟨fun _ => ⟨e, rfl⟩, fun v hv => by have := hv.2; omega, by omega⟩
    · rename_i e; exact MN_far (fun v hv => e hv.1)
  have := L 0 (by omega) (by omega) (m 164) (fun f a b => by omega)
  rw [sv_self] at this
  exact v_M_start this
def dl (f g s f' g' s' : Int) : Prop := f' < f ∨ (f' = f ∧ (g' < g ∨ (g' = g ∧ s' < s)))
/-- what some of the steps lead to -/
def PS (M : MT) (fr kn n : Int) (A : Int → Int → Prop) (a b c : Int) (D : Int → Int → Int → Prop) (f' x : Int) : Prop := ∃ f g s : Int, D f g s ∧ (0 ≤ s ∧ s < 4 ∧ g + s < n) ∧ f' = g + s ∧ ∃ v0 v1 : Int, A f v0 ∧ sgX M fr kn n a b c f g v1 ∧ x = v0 + v1 + (M 135 4 + s * M 135 3)
theorem MN_sm2 {S T : Int → Prop} {x y k : Int} (hx : MN S x) (hy : MN T y) (x1 : x < 268435456) (y1 : y < 268435456) (hb : ∀ v w : Int, S v → T w → v + w + k < 268435456) : MN (fun z => ∃ v w : Int, S v ∧ T w ∧ z = v + w + k) (x + y + k) := by
  refine ⟨fun _ => ⟨x, y, hx.1 x1, hy.1 y1, rfl⟩, ?_, by have := hb x y (hx.1 x1) (hy.1 y1); omega⟩
  rintro z ⟨v, w, hv, hw, rfl⟩
  have := hx.2.1 v hv
  have := hy.2.1 w hw
  omega
theorem s_M_goesOn {m : MT} {P : MT → Prop} {A : Int → Int → Prop} {k a b c : Int} (hd : 1 < d) (H : HX M fr kn n) (e135 : m 135 = M 135) (e40 : m 134 40 = n) (hI : RSI M fr kn n m (fun _ _ _ => True)) (hv : VS (M 135 0) a b c) (hk : 0 ≤ k ∧ k ≤ 20) (hB : ABd n A k) (hA : AHD m A k n) (h : ∀ t : Nat → Int, AHD (sv m 164 t) (AN M fr kn n A a b c) (k + 1) n → (∀ j : Nat, ¬ (21 * k + 21 ≤ j ∧ (j : Int) ≤ 21 * k + 41) → t j = m 164 j) → P (sv m 164 t)) : c_M_goesOn d k a b c m P := by
  have hn := H.2.2.2.2.2.2
  have pr := H.1.2.2.2.2.2
  have sl := H.1.2.2.2.1
  have s10 := H.1.2.1
  obtain ⟨v1, v2, v3⟩ := id hv
  have TB : ∀ f g : Int, 0 ≤ f → f < n → 0 ≤ g → g ≤ n → MN (fun v => sgX M fr kn n a b c f g v) (m 163 (tix a b c f + g).toNat) := fun f g f0 f1 g0 g1 => (hI f a b (by omega) ⟨v1, v2, Or.inl rfl⟩ trivial).2 f1 c g hv ⟨g0, g1⟩
  have AE : ∀ (t : Nat → Int) (f : Int), (∀ j : Nat, ¬ (21 * k + 21 ≤ j ∧ (j : Int) ≤ 21 * k + 41) → t j = m 164 j) → 0 ≤ f → f < n → t (21 * k + f).toNat = m 164 (21 * k + f).toNat := fun t f ht f0 f1 => ht _ (by omega)
  have LF : ∀ f : Int, f ≤ n → 0 ≤ f → ∀ t : Nat → Int, (∀ j : Nat, ¬ (21 * k + 21 ≤ j ∧ (j : Int) ≤ 21 * k + 41) → t j = m 164 j) → (∀ f' : Int, 0 ≤ f' → f' ≤ 20 → MN (fun x => PS M fr kn n A a b c (dl f 0 0) f' x) (t (21 * k + 21 + f').toNat)) → h_M_goesOn_45 d k a b c (21 * k) (21 * k + 21) f (sv m 164 t) P := by
    refine upto _ (fun f hf ihf f0 t t1 t2 => ?_)
    refine v_M_goesOn_45 ?_
    have x40 : (sv m 164 t) 134 40 = n := e40
    have xa : f < n → (sv m 164 t) 164 (21 * k + f).toNat = m 164 (21 * k + f).toNat := fun q => AE t f t1 f0 q
    rw [x40]
    refine ⟨fun q => h t (fun f' f0' f1' => ?_) t1, fun q => ⟨by omega, ?_⟩⟩
    · show MN _ (t (21 * (k + 1) + f').toNat)
      rw [show 21 * (k + 1) + f' = 21 * k + 21 + f' by omega]
      refine MN_cg (t2 f' f0' (by omega)) (fun x => ?_)
      constructor
      · rintro ⟨f1, g, s, w0, w1, hA1, hs, hb, e, e2⟩
        have := hB f1 w0 hA1
        exact ⟨f1, g, s, Or.inl (by omega), hb, e, w0, w1, hA1, hs, by omega⟩
      · rintro ⟨f1, g, s, hD, hb, e, w0, w1, hA1, hs, e2⟩
        exact ⟨f1, g, s, w0, w1, hA1, hs, hb, e, by omega⟩
    rw [xa q]
    have Af := hA f f0 q
    refine ⟨fun w => ⟨by omega, ?_⟩, fun w => ⟨by omega, ihf q (by omega) t t1 (fun f' a' b' => MN_cg (t2 f' a' b') (fun x => ?_))⟩⟩
    · have LG : ∀ g : Int, g ≤ n → f < g → ∀ t : Nat → Int, (∀ j : Nat, ¬ (21 * k + 21 ≤ j ∧ (j : Int) ≤ 21 * k + 41) → t j = m 164 j) → (∀ f' : Int, 0 ≤ f' → f' ≤ 20 → MN (fun x => PS M fr kn n A a b c (dl f g 0) f' x) (t (21 * k + 21 + f').toNat)) → h_M_goesOn_90 d k a b c (21 * k) (21 * k + 21) f (tix a b c f) g (sv m 164 t) P := by
        refine upto _ (fun g hg ihg g0 t t1 t2 => ?_)
        refine v_M_goesOn_90 ?_
        have x40 : (sv m 164 t) 134 40 = n := e40
        have xt : (sv m 164 t) 163 (tix a b c f + g).toNat = m 163 (tix a b c f + g).toNat := rfl
        have tn := tix_0 (a := a) (b := b) (c := c) (f := f) (g := g) (by omega) (by omega) (by omega) (by omega) (by omega)
        have tu : tix a b c f + g < 508200 := by unfold tix; omega
        rw [x40, xt]
        refine ⟨fun q2 => ⟨by omega, ihf q (by omega) t t1 (fun f' a' b' => MN_cg (t2 f' a' b') (fun x => ?_))⟩, fun q2 => ⟨by omega, ?_⟩⟩
        · constructor
          · rintro ⟨f1, g1, s, hD, hb, e, u0, u1, r0, r1, r2⟩
            have z1 := sgX_in H _ _ _ _ _ _ r1
            have z2 := hB f1 u0 r0
            exact ⟨f1, g1, s, by unfold dl at *; omega, hb, e, u0, u1, r0, r1, r2⟩
          · rintro ⟨f1, g1, s, hD, hb, e, r⟩
            exact ⟨f1, g1, s, by unfold dl at *; omega, hb, e, r⟩
        have Tg := TB f g f0 q (by omega) (by omega)
        refine ⟨fun w2 => ?_, fun w2 => ⟨by omega, ihg q2 (by omega) t t1 (fun f' a' b' => MN_cg (t2 f' a' b') (fun x => ?_))⟩⟩
        · have LS : ∀ s : Int, s ≤ 4 → 0 ≤ s → ∀ t : Nat → Int, (∀ j : Nat, ¬ (21 * k + 21 ≤ j ∧ (j : Int) ≤ 21 * k + 41) → t j = m 164 j) → (∀ f' : Int, 0 ≤ f' → f' ≤ 20 → MN (fun x => PS M fr kn n A a b c (dl f g s) f' x) (t (21 * k + 21 + f').toNat)) → h_M_goesOn_121 d k a b c (21 * k) (21 * k + 21) f (tix a b c f) g s (sv m 164 t) P := by
            refine upto _ (fun s hs ihs s0 t t1 t2 => ?_)
            have FIN : (4 ≤ s ∨ n ≤ g + s) → h_M_goesOn_90 d k a b c (21 * k) (21 * k + 21) f (tix a b c f) (g + 1) (sv m 164 t) P := by
              intro w3
              refine ihg q2 (by omega) t t1 (fun f' a' b' => MN_cg (t2 f' a' b') (fun x => ?_))
              constructor
              · rintro ⟨f1, g1, s1, hD, hb, e, r⟩
                exact ⟨f1, g1, s1, by unfold dl at *; omega, hb, e, r⟩
              · rintro ⟨f1, g1, s1, hD, hb, e, r⟩
                exact ⟨f1, g1, s1, by unfold dl at *; omega, hb, e, r⟩
            have ms := mul_in (x := s) (y := M 135 3) (X := 4) (Y := 1000) (by omega) sl
            have x40 : (sv m 164 t) 134 40 = n := e40
            have x135 : (sv m 164 t) 135 = M 135 := e135
            have xa : (sv m 164 t) 164 (21 * k + f).toNat = m 164 (21 * k + f).toNat := AE t f t1 f0 q
            have xt : (sv m 164 t) 163 (tix a b c f + g).toNat = m 163 (tix a b c f + g).toNat := rfl
            have xw : (sv m 164 t) 164 (21 * k + 21 + g + s).toNat = t (21 * k + 21 + (g + s)).toNat := by show t _ = _; rw [show 21 * k + 21 + g + s = 21 * k + 21 + (g + s) by omega]
            have b0 := hB f _ (Af.1 w)
            have b1 := sgX_in H _ _ _ _ _ _ (Tg.1 w2)
            refine v_M_goesOn_121 ?_
            rw [x40, x135, xa, xt, xw]
            refine ⟨fun q4 => ⟨by omega, FIN (Or.inl q4)⟩, fun q4 => ⟨by omega, fun w3 => ⟨by omega, FIN (Or.inr w3)⟩, fun w3 => ?_⟩⟩
            have T2 := t2 (g + s) (by omega) (by omega)
            have t2b := T2.2.2
            have SM := MN_sm2 (k := M 135 4 + s * M 135 3) Af Tg w w2 (fun v w hv hw => by have := hB f v hv; have := sgX_in H _ _ _ _ _ _ hw; omega)
            have EQ : ∀ x, PS M fr kn n A a b c (dl f g (s + 1)) (g + s) x ↔ (PS M fr kn n A a b c (dl f g s) (g + s) x ∨ ∃ v w : Int, A f v ∧ sgX M fr kn n a b c f g w ∧ x = v + w + (M 135 4 + s * M 135 3)) := by
              intro x
              constructor
              · rintro ⟨f1, g1, s1, hD, hb, e, r⟩
                by_cases c1 : f1 = f ∧ g1 = g ∧ s1 = s
                · obtain ⟨rfl, rfl, rfl⟩ := c1; exact Or.inr r
                · exact Or.inl ⟨f1, g1, s1, by unfold dl at *; omega, hb, e, r⟩
              · rintro (⟨f1, g1, s1, hD, hb, e, r⟩ | r)
                · exact ⟨f1, g1, s1, by unfold dl at *; omega, hb, e, r⟩
                · exact ⟨f, g, s, by unfold dl; omega, by omega, rfl, r⟩
            have OTH : ∀ f' x, f' ≠ g + s → (PS M fr kn n A a b c (dl f g (s + 1)) f' x ↔ PS M fr kn n A a b c (dl f g s) f' x) := by
              intro f' x hne
              constructor
              · rintro ⟨f1, g1, s1, hD, hb, e, r⟩
                exact ⟨f1, g1, s1, by unfold dl at *; omega, hb, e, r⟩
              · rintro ⟨f1, g1, s1, hD, hb, e, r⟩
                exact ⟨f1, g1, s1, by unfold dl at *; omega, hb, e, r⟩
            have NX := MN_cg (MN_or T2 SM) EQ
            have ee : m 164 (21 * k + f).toNat + m 163 (tix a b c f + g).toNat + M 135 4 + s * M 135 3 = m 164 (21 * k + f).toNat + m 163 (tix a b c f + g).toNat + (M 135 4 + s * M 135 3) := by omega
            rw [ee]
            refine ⟨by omega, fun w4 => ⟨by omega, ihs q4 (by omega) t t1 (fun f' a' b' => ?_)⟩, fun w4 => ⟨by omega, ?_⟩⟩
            · by_cases e : f' = g + s
              · subst e; rw [Int.min_eq_left w4] at NX; exact NX
              · exact MN_cg (t2 f' a' b') (fun x => OTH f' x e)
            · rw [wt_sv]
              refine ihs q4 (by omega) _ (fun j hj => by rw [svn _ _ (by omega)]; exact t1 j hj) (fun f' a' b' => ?_)
              by_cases e : f' = g + s
              · subst e
                rw [show 21 * k + 21 + g + s = 21 * k + 21 + (g + s) by omega, sv_eq]
                rw [Int.min_eq_right (by omega)] at NX; exact NX
              · rw [svn _ _ (by omega)]; exact MN_cg (t2 f' a' b') (fun x => OTH f' x e)
          exact LS 0 (by omega) (by omega) t t1 t2
        · have NO : ∀ v, ¬ sgX M fr kn n a b c f g v := MN_no Tg w2 (fun v hv => by have := sgX_in H _ _ _ _ _ _ hv; omega)
          constructor
          · rintro ⟨f1, g1, s, hD, hb, e, u0, u1, r0, r1, r2⟩
            by_cases c1 : f1 = f ∧ g1 = g
            · obtain ⟨rfl, rfl⟩ := c1; exact absurd r1 (NO u1)
            · exact ⟨f1, g1, s, by unfold dl at *; omega, hb, e, u0, u1, r0, r1, r2⟩
          · rintro ⟨f1, g1, s, hD, hb, e, r⟩
            exact ⟨f1, g1, s, by unfold dl at *; omega, hb, e, r⟩
      refine LG (f + 1) (by omega) (by omega) t t1 (fun f' a' b' => MN_cg (t2 f' a' b') (fun x => ?_))
      constructor
      · rintro ⟨f1, g1, s, hD, hb, e, u0, u1, r0, r1, r2⟩
        have := sgX_in H _ _ _ _ _ _ r1
        exact ⟨f1, g1, s, by unfold dl at *; omega, hb, e, u0, u1, r0, r1, r2⟩
      · rintro ⟨f1, g1, s, hD, hb, e, r⟩
        exact ⟨f1, g1, s, by unfold dl at *; omega, hb, e, r⟩
    · have NO : ∀ v, ¬ A f v := MN_no Af w (fun v hv => by have := hB f v hv; omega)
      constructor
      · rintro ⟨f1, g1, s, hD, hb, e, u0, u1, r0, r1, r2⟩
        by_cases c1 : f1 = f
        · subst c1; exact absurd r0 (NO u0)
        · have z1 := sgX_in H _ _ _ _ _ _ r1
          have z2 := hB f1 u0 r0
          exact ⟨f1, g1, s, by unfold dl at *; omega, hb, e, u0, u1, r0, r1, r2⟩
      · rintro ⟨f1, g1, s, hD, hb, e, r⟩
        exact ⟨f1, g1, s, by unfold dl at *; omega, hb, e, r⟩
  have L1 : ∀ i : Int, i ≤ 21 → 0 ≤ i → ∀ t : Nat → Int, (∀ j : Nat, ¬ (21 * k + 21 ≤ j ∧ (j : Int) ≤ 21 * k + 41) → t j = m 164 j) → (∀ f' : Int, 0 ≤ f' → f' < i → t (21 * k + 21 + f').toNat = 268435456) → h_M_goesOn_16 d k a b c (21 * k) (21 * k + 21) i (sv m 164 t) P := by
    refine upto _ (fun i hi ih i0 t t1 t2 => ?_)
    refine v_M_goesOn_16 ⟨fun q => LF 0 (by omega) (by omega) t t1 (fun f' a' b' => ?_), fun q => ⟨by omega, ?_⟩⟩
    · rw [t2 f' a' (by omega)]
      refine MN_far ?_
      rintro x ⟨f1, g1, s, hD, hb, e, u0, u1, r0, r1, r2⟩
      have := hB f1 u0 r0
      have := sgX_in H _ _ _ _ _ _ r1
      unfold dl at hD
      omega
    · rw [wt_sv]
      refine ih (by omega) (by omega) _ (fun j hj => by rw [svn _ _ (by omega)]; exact t1 j hj) (fun f' a' b' => ?_)
      by_cases e : f' = i
      · subst e; rw [sv_eq]
      · rw [svn _ _ (by omega)]; exact t2 f' a' (by omega)
  have := L1 0 (by omega) (by omega) (m 164) (fun _ _ => rfl) (fun f' a b => by omega)
  rw [sv_self] at this
  exact v_M_goesOn ⟨by omega, this⟩
/-- a row that ends -/
def EN (M : MT) (fr kn n : Int) (A : Int → Int → Prop) (a b x : Int) : Prop := ∃ f v0 v1 : Int, A f v0 ∧ sgX M fr kn n a b (-1) f n v1 ∧ x = v0 + v1 + M 135 4
theorem s_M_ending {m : MT} {P : Int → MT → Prop} {A : Int → Int → Prop} {k a b : Int} (hd : 1 < d) (H : HX M fr kn n) (e135 : m 135 = M 135) (e40 : m 134 40 = n) (hI : RSI M fr kn n m (fun _ _ _ => True)) (hv : VS (M 135 0) a b (-1)) (hk : 0 ≤ k ∧ k ≤ 20) (hB : ABd n A k) (hA : AHD m A k n) (h : ∀ x : Int, MN (fun x => EN M fr kn n A a b x) x → P x m) : c_M_ending d k a b m P := by
  have hn := H.2.2.2.2.2.2
  have pr := H.1.2.2.2.2.2
  have s10 := H.1.2.1
  obtain ⟨v1, v2, v3⟩ := id hv
  have L : ∀ f : Int, f ≤ n → 0 ≤ f → ∀ x : Int, MN (fun x => ∃ f' v0 v1 : Int, f' < f ∧ A f' v0 ∧ sgX M fr kn n a b (-1) f' n v1 ∧ x = v0 + v1 + M 135 4) x → h_M_ending_8 d k a b x f m P := by
    refine upto _ (fun f hf ih f0 x hx => ?_)
    refine v_M_ending_8 ?_
    rw [e40, e135]
    refine ⟨fun q => h x (MN_cg hx (fun y => ?_)), fun q => ⟨by omega, ?_⟩⟩
    · constructor
      · rintro ⟨f', u0, u1, r0, r1, r2⟩
        have := hB f' u0 r0
        exact ⟨f', u0, u1, by omega, r0, r1, r2⟩
      · rintro ⟨f', u0, u1, _, r0, r1, r2⟩; exact ⟨f', u0, u1, r0, r1, r2⟩
    have Af := hA f f0 q
    have Tg := (hI f a b (by omega) hv trivial).2 q (-1) n hv ⟨by omega, by omega⟩
    have et : (tix a b (-1) f + n).toNat = ((((a + 1) * 10 + b) * 11 + (-1) + 1) * 420 + 21 * f + n).toNat := rfl
    rw [et] at Tg
    refine ⟨fun w => ⟨by omega, fun w2 => ⟨by omega, ih q (by omega) x (MN_cg hx (fun y => ?_))⟩, fun w2 => ?_⟩, fun w => ⟨by omega, ih q (by omega) x (MN_cg hx (fun y => ?_))⟩⟩
    · have NO := MN_no Tg w2 (fun v hv => by have := sgX_in H _ _ _ _ _ _ hv; omega)
      constructor
      · rintro ⟨f', u0, u1, c1, r0, r1, r2⟩
        by_cases e : f' = f
        · subst e; exact absurd r1 (NO u1)
        · exact ⟨f', u0, u1, by omega, r0, r1, r2⟩
      · rintro ⟨f', u0, u1, c1, r⟩; exact ⟨f', u0, u1, by omega, r⟩
    · have b0 := hB f _ (Af.1 w)
      have b1 := sgX_in H _ _ _ _ _ _ (Tg.1 w2)
      have SM := MN_sm2 (k := M 135 4) Af Tg w w2 (fun v w hv hw => by have := hB f v hv; have := sgX_in H _ _ _ _ _ _ hw; omega)
      have NX := MN_cg (T := fun x => ∃ f' v0 v1 : Int, f' < f + 1 ∧ A f' v0 ∧ sgX M fr kn n a b (-1) f' n v1 ∧ x = v0 + v1 + M 135 4) (MN_or hx SM) (fun y => by
        constructor
        · rintro ⟨f', u0, u1, c1, r0, r1, r2⟩
          by_cases e : f' = f
          · subst e; exact Or.inr ⟨u0, u1, r0, r1, r2⟩
          · exact Or.inl ⟨f', u0, u1, by omega, r0, r1, r2⟩
        · rintro (⟨f', u0, u1, c1, r⟩ | ⟨u0, u1, r⟩)
          · exact ⟨f', u0, u1, by omega, r⟩
          · exact ⟨f, u0, u1, by omega, r⟩)
      refine ⟨by omega, fun w3 => ⟨by omega, ih q (by omega) x ?_⟩, fun w3 => ⟨by omega, ih q (by omega) _ ?_⟩⟩
      · rw [Int.min_eq_left w3] at NX; exact NX
      · rw [Int.min_eq_right (by omega)] at NX; exact NX
    · have NO := MN_no Af w (fun v hv => by have := hB f v hv; omega)
      constructor
      · rintro ⟨f', u0, u1, c1, r0, r1, r2⟩
        by_cases e : f' = f
        · subst e; exact absurd r0 (NO u0)
        · exact ⟨f', u0, u1, by omega, r0, r1, r2⟩
      · rintro ⟨f', u0, u1, c1, r⟩; exact ⟨f', u0, u1, by omega, r⟩
  exact v_M_ending (L 0 (by omega) (by omega) _ (MN_far (fun x ⟨f', u0, u1, c1, r0, _⟩ => by have := hB f' u0 r0; omega)))
end AHEAD
