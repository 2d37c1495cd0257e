section STARTS
variable {d : Nat} {M : MT} {fr kn n : Int}
/-- the class: keys with which a sign starts at a frame -/
def SX (M : MT) (A : Int → Int → Prop) (k f x : Int) : Prop := ∃ v : Int, A f v ∧ x = 32 * (v + M 135 4) + 1 + k
def SHD (M m : MT) (A : Int → Int → Prop) (k n : Int) : Prop := ∀ f : Int, 0 ≤ f → f < n → MN (fun x => SX M A k f x) (m 114 (k * 20 + f).toNat)
theorem s_R_start {m : MT} {P : MT → Prop} (hd : 0 < d) (hn : n ≤ 20) (hp : 0 ≤ M 135 4 ∧ M 135 4 ≤ 1000) (e16 : m 105 16 = M 135 4 * 32 + 1) (h : ∀ t : Nat → Int, SHD M (sv m 114 t) A0 0 n → P (sv m 114 t)) : c_R_start d m P := by
  refine v_R_start ⟨hd, s_Rs_blank (by omega) (fun t t1 t2 => ?_)⟩
  have x16 : (sv m 114 t) 105 16 = M 135 4 * 32 + 1 := e16
  rw [x16, wt_sv]
  refine h _ (fun f f0 f1 => ?_)
  show MN _ (sv t 0 (M 135 4 * 32 + 1) (0 * 20 + f).toNat)
  by_cases e : f = 0
  · subst e
    rw [show (0 * 20 + (0 : Int)).toNat = 0 from rfl, sv_eq]
    refine ⟨fun _ => ⟨0, ⟨rfl, rfl⟩, by omega⟩, ?_, by omega⟩
    rintro x ⟨v, ⟨_, rfl⟩, rfl⟩
    omega
  · rw [svn _ _ (by omega), show 0 * 20 + f = f by omega, t1 f (by omega) (by omega)]
    refine MN_far ?_
    rintro x ⟨v, ⟨h1, _⟩, _⟩
    exact e h1
theorem LD_m1 {b : Int} : LD M (-1) b (-1) := ⟨by omega, EQV.rfl' _, fun o' a1 a2 => by omega⟩
/-- the first key of a sign that stands first -/
theorem first_key {m : MT} {b : Int} (H : HX M fr kn n) (hD : DY M fr kn n m 0) (hb : 0 ≤ b ∧ b < M 135 0) : m 113 ((0 + b) * 20).toNat ≤ 268435456 ∧ -32001 ≤ m 113 ((0 + b) * 20).toNat ∧ MN (fun x => rdX M fr kn n 0 (-1) b x) (min 268435456 (M 135 4 * 32 + 1 + m 113 ((0 + b) * 20).toNat)) := by
  have hn := H.2.2.2.2.2.2
  have pr := H.1.2.2.2.2.2
  have O := hD.2 (-1) b (by omega) hb LD_m1 0 (by omega) (by omega)
  have ei : (pr_ (-1) b * 20 + 0).toNat = ((0 + b) * 20).toNat := by unfold pr_; omega
  rw [ei] at O
  have bd : ∀ y, rdX M fr kn n 0 (-1) b (y + (32 * M 135 4 + 1)) → y + (M 135 4 * 32 + 1) < 268435456 := fun y hy => by have := rdX_in H (by omega) hy; omega
  refine ⟨O.2.2, ?_, MN_cg (MN_cap O (k := M 135 4 * 32 + 1) (by omega) bd) (fun y => ?_)⟩
  · by_cases cc : m 113 ((0 + b) * 20).toNat < 268435456
    · have := rdX_in H (by omega) (O.1 cc); omega
    · omega
  · show rdX M fr kn n 0 (-1) b y ↔ rdX M fr kn n 0 (-1) b (y - (M 135 4 * 32 + 1) + (32 * M 135 4 + 1))
    rw [show y - (M 135 4 * 32 + 1) + (32 * M 135 4 + 1) = y by omega]
theorem s_R_leastKey {m : MT} {P : Int → MT → Prop} (hd : 1 < d) (H : HX M fr kn n) (e28 : m 2 8 = M 135 0) (e16 : m 105 16 = M 135 4 * 32 + 1) (hD : DY M fr kn n m 0) (h : ∀ x : Int, MN (fun v => allX M fr kn n v) x → P x m) : c_R_leastKey d m P := by
  have s10 := H.1.2.1
  have pr := H.1.2.2.2.2.2
  have L : ∀ b : Int, b ≤ M 135 0 → 0 ≤ b → ∀ x : Int, MN (fun v => ∃ b' : Int, (0 ≤ b' ∧ b' < b) ∧ rdX M fr kn n 0 (-1) b' v) x → h_R_leastKey_5 d x b m P := by
    refine upto _ (fun b hb ih b0 x hx => ?_)
    refine v_R_leastKey_5 ?_
    rw [e28, e16]
    refine ⟨fun q => h x (MN_cg hx (fun v => ⟨fun ⟨b', hb', hr⟩ => ⟨b', by omega, hr⟩, fun ⟨b', hb', hr⟩ => ⟨b', by omega, hr⟩⟩)), fun q => ?_⟩
    obtain ⟨k1, k2, K⟩ := first_key H hD ⟨b0, q⟩
    have NX := MN_cg (T := fun v => ∃ b' : Int, (0 ≤ b' ∧ b' < b + 1) ∧ rdX M fr kn n 0 (-1) b' v) (MN_or hx K) (fun v => by
      constructor
      · rintro ⟨b', hb', hr⟩
        by_cases e : b' = b
        · subst e; exact Or.inr hr
        · exact Or.inl ⟨b', by omega, hr⟩
      · rintro (⟨b', hb', hr⟩ | hr)
        · exact ⟨b', by omega, hr⟩
        · exact ⟨b, by omega, hr⟩)
    have em : min x (min 268435456 (M 135 4 * 32 + 1 + m 113 ((0 + b) * 20).toNat)) = min x (M 135 4 * 32 + 1 + m 113 ((0 + b) * 20).toNat) := by have := hx.2.2; omega
    rw [em] at NX
    exact ⟨by omega, ih q (by omega) _ NX⟩
  exact v_R_leastKey (L 0 (by omega) (by omega) _ (MN_far (fun v ⟨b', hb', _⟩ => by omega)))
/-- the least key of all rows that go on so -/
def LW (M : MT) (fr kn n : Int) (A : Int → Int → Prop) (k a b c x : Int) : Prop := ∃ f v y : Int, A f v ∧ thX M fr kn n f a b c y ∧ x = 32 * (v + M 135 4) + 1 + k + y
theorem thX_in (H : HX M fr kn n) {f a b c x : Int} (hf : 0 ≤ f) (h : thX M fr kn n f a b c x) : 0 ≤ x ∧ x ≤ 48000000 := TH_in (sgX_in H) H.1.2.2.2.2.2 H.1.2.2.2.1 hf H.2.2.2.2.2.2.2 h
theorem s_R_leastWith {m : MT} {P : Int → MT → Prop} {A : Int → Int → Prop} {k a o b c : Int} (hd : 0 < d) (H : HX M fr kn n) (e103 : m 103 1 = n) (hk : 0 ≤ k ∧ k < 20) (hB : ABd n A k) (hA : SHD M m A k n) (hv : VS (M 135 0) a b c) (lo : LD M a b o) (hD : DY M fr kn n m 0) (h : ∀ x : Int, MN (fun x => LW M fr kn n A k a b c x) x → P x m) : c_R_leastWith d k (trp o b c) m P := by
  have hn := H.2.2.2.2.2.2
  have pr := H.1.2.2.2.2.2
  have s10 := H.1.2.1
  obtain ⟨v1, v2, v3⟩ := id hv
  have ho : -1 ≤ o ∧ o < M 135 0 := by have := lo.1; omega
  have tb : 0 ≤ trp o b c ∧ trp o b c < 1210 := by unfold trp pr_; omega
  have TD0 := hD.1 o b c ho v2 (by omega) (LD_self lo)
  have L : ∀ f : Int, (f ≤ n ∨ f = k) → k ≤ f → ∀ x : Int, MN (fun x => ∃ f' v y : Int, f' < f ∧ A f' v ∧ thX M fr kn n f' a b c y ∧ x = 32 * (v + M 135 4) + 1 + k + y) x → h_R_leastWith_6 d k (trp o b c) x f m P := by
    have LL : ∀ f : Int, f ≤ n → k ≤ f → ∀ x : Int, MN (fun x => ∃ f' v y : Int, f' < f ∧ A f' v ∧ thX M fr kn n f' a b c y ∧ x = 32 * (v + M 135 4) + 1 + k + y) x → h_R_leastWith_6 d k (trp o b c) x f m P := by
      refine upto _ (fun f hf ih f0 x hx => ?_)
      refine v_R_leastWith_6 ?_
      rw [e103]
      refine ⟨fun q => h x (MN_cg hx (fun y => ?_)), fun q => ?_⟩
      · constructor
        · rintro ⟨f', v, w, r0, r1, r2⟩
          have := hB f' v r0
          exact ⟨f', v, w, by omega, r0, r1, r2⟩
        · rintro ⟨f', v, w, _, r0, r1, r2⟩; exact ⟨f', v, w, r0, r1, r2⟩
      have Sf := hA f (by omega) q
      have Tf := MN_cg (T := fun x => thX M fr kn n f a b c x) (TD0.2 f (by omega) q) (fun x => (thX_ld H (by omega) ho lo.2.1).symm)
      have sb := Sf.2.2
      have tb2 := Tf.2.2
      have s0 : 0 ≤ m 114 (k * 20 + f).toNat := by
        by_cases cc : m 114 (k * 20 + f).toNat < 268435456
        · obtain ⟨v, hv', e⟩ := Sf.1 cc
          have := hB f v hv'
          omega
        · omega
      have t0 : 0 ≤ m 112 (trp o b c * 20 + f).toNat := by
        by_cases cc : m 112 (trp o b c * 20 + f).toNat < 268435456
        · exact (thX_in H (by omega) (Tf.1 cc)).1
        · omega
      have SB : ∀ x y, SX M A k f x → thX M fr kn n f a b c y → x + y < 268435456 := by
        rintro x y ⟨v, hv', rfl⟩ hy
        have := hB f v hv'
        have := thX_in H (by omega) hy
        omega
      refine ⟨by omega, ih q (by omega) _ ?_⟩
      by_cases c1 : m 114 (k * 20 + f).toNat < 268435456 ∧ m 112 (trp o b c * 20 + f).toNat < 268435456
      · have SM := MN_sm2 (k := 0) Sf Tf c1.1 c1.2 (fun v w hv hw => by have := SB v w hv hw; omega)
        rw [Int.add_zero] at SM
        refine MN_cg (MN_or hx SM) (fun y => ?_)
        constructor
        · rintro ⟨f', v, w, r, r0, r1, r2⟩
          by_cases e : f' = f
          · subst e; exact Or.inr ⟨_, w, ⟨v, r0, rfl⟩, r1, by omega⟩
          · exact Or.inl ⟨f', v, w, by omega, r0, r1, r2⟩
        · rintro (⟨f', v, w, r, r0⟩ | ⟨x1, w, ⟨v, r0, rfl⟩, r1, r2⟩)
          · exact ⟨f', v, w, by omega, r0⟩
          · exact ⟨f, v, w, by omega, r0, r1, by omega⟩
      · have em : min x (m 114 (k * 20 + f).toNat + m 112 (trp o b c * 20 + f).toNat) = x := by have := hx.2.2; omega
        rw [em]
        refine MN_cg hx (fun y => ?_)
        constructor
        · rintro ⟨f', v, w, r, r0, r1, r2⟩
          by_cases e : f' = f
          · subst e
            exfalso
            have g1 := Sf.2.1 _ ⟨v, r0, rfl⟩
            have g2 := Tf.2.1 _ r1
            have b1 := hB f' v r0
            have b2 := thX_in H (by omega) r1
            omega
          · exact ⟨f', v, w, by omega, r0, r1, r2⟩
        · rintro ⟨f', v, w, r, r0⟩; exact ⟨f', v, w, by omega, r0⟩
    intro f hf f0 x hx
    by_cases c1 : f ≤ n
    · exact LL f c1 f0 x hx
    · refine v_R_leastWith_6 ?_
      rw [e103]
      refine ⟨fun q => h x (MN_cg hx (fun y => ?_)), fun q => by omega⟩
      constructor
      · rintro ⟨f', v, w, r0, r1, r2⟩
        have := hB f' v r0
        omega
      · rintro ⟨f', v, w, _, r0, r1, r2⟩; exact ⟨f', v, w, r0, r1, r2⟩
  refine v_R_leastWith (L k (Or.inr rfl) (Int.le_refl _) _ (MN_far ?_))
  rintro x ⟨f', v, w, r, r0, _⟩
  have := hB f' v r0
  omega
end STARTS
