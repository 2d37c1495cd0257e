section RIVALS
variable {d : Nat} {M : MT} {fr kn n : Int}
noncomputable def cb (p : Prop) : Bool := @decide p (Classical.propDecidable p)
theorem cb_iff (p : Prop) : cb p = true ↔ p := by unfold cb; exact @decide_eq_true_iff p (Classical.propDecidable p)
/-- a row that ends here is within the limit; some row that goes on with sign c is -/
def EE (M : MT) (fr kn n L : Int) (A : Int → Int → Prop) (a b : Int) : Prop := ∃ v : Int, EN M fr kn n A a b v ∧ v ≤ L
def MAY (M : MT) (fr kn n L : Int) (A : Int → Int → Prop) (a b c : Int) : Prop := ∃ f v y : Int, AN M fr kn n A a b c f v ∧ rdX M fr kn n f b c y ∧ v + y / 32 ≤ L
def cl (g : Int → Int → Int) : Nat → Int → Int → Int
  | 0, _, x => x
  | r + 1, c, x => cl g r (c + 1) (g c x)
noncomputable def rcnt (M : MT) (fr kn n L : Int) : Nat → (Int → Int → Prop) → Int → Int → Int → Int
  | 0, _, _, _, x => x
  | m + 1, A, a, b, x => cl (fun c x => if x < 1000 ∧ cb (MAY M fr kn n L A a b c) = true then rcnt M fr kn n L m (AN M fr kn n A a b c) b c x else x) (M 135 0).toNat 0 (if x < 1000 ∧ cb (EE M fr kn n L A a b) = true then x + 1 else x)
theorem cl_stop {g : Int → Int → Int} (hg : ∀ c x : Int, 1000 ≤ x → g c x = x) : ∀ (r : Nat) (c x : Int), 1000 ≤ x → cl g r c x = x
  | 0, _, _, _ => rfl
  | r + 1, c, x, hx => by simp only [cl]; rw [hg c x hx]; exact cl_stop hg r (c + 1) x hx
theorem rcnt_full {L : Int} (m : Nat) (A : Int → Int → Prop) (a b x : Int) (hx : 1000 ≤ x) : rcnt M fr kn n L m A a b x = x := by
  cases m with
  | zero => rfl
  | succ m =>
    simp only [rcnt]
    rw [if_neg (by omega)]
    exact cl_stop (fun c x hx => if_neg (by omega)) _ _ _ hx
theorem cl_le {g : Int → Int → Int} (hg : ∀ c x : Int, 0 ≤ x → x ≤ 1000 → 0 ≤ g c x ∧ g c x ≤ 1000) : ∀ (r : Nat) (c x : Int), 0 ≤ x → x ≤ 1000 → 0 ≤ cl g r c x ∧ cl g r c x ≤ 1000
  | 0, _, _, h0, h1 => ⟨h0, h1⟩
  | r + 1, c, x, h0, h1 => by simp only [cl]; exact cl_le hg r (c + 1) _ (hg c x h0 h1).1 (hg c x h0 h1).2
theorem rcnt_le {L : Int} : ∀ (m : Nat) (A : Int → Int → Prop) (a b x : Int), 0 ≤ x → x ≤ 1000 → 0 ≤ rcnt M fr kn n L m A a b x ∧ rcnt M fr kn n L m A a b x ≤ 1000 := by
  intro m
  induction m with
  | zero => intro A a b x h0 h1; exact ⟨h0, h1⟩
  | succ m ih =>
    intro A a b x h0 h1
    simp only [rcnt]
    refine cl_le (fun c x h0 h1 => ?_) _ _ _ ?_ ?_
    · split
      · exact ih _ _ _ _ h0 h1
      · exact ⟨h0, h1⟩
    · split <;> omega
    · split <;> omega
/-- a key is 32 times a cost, and a number of signs -/
theorem RD_cnt {sg : Int → Int → Int → Int → Int → Int → Prop} {S n pr sl : Int} (h0 : ∀ a b c f g v : Int, sg a b c f g v → f < g ∧ 0 ≤ v ∧ v ≤ 64000) (hp : 0 ≤ pr) (hs : 0 ≤ sl) : ∀ (m : Nat) (f a b x : Int), RD sg S n pr sl m f a b x → ∃ q r : Int, x = 32 * q + r ∧ 0 ≤ q ∧ 1 ≤ r ∧ r ≤ n - f := by
  intro m
  induction m with
  | zero => intro f a b x h; exact absurd h (by simp [RD])
  | succ m ih =>
    intro f a b x h
    rcases h with ⟨v, h1, rfl⟩ | ⟨c, g, s, v, y, hc, ⟨hg, hv⟩, hb, hr, rfl⟩
    · have := h0 _ _ _ _ _ _ h1
      exact ⟨v + pr, 1, rfl, by omega, by omega, by omega⟩
    · have := h0 _ _ _ _ _ _ hv
      obtain ⟨q, r, rfl, q0, r0, r1⟩ := ih _ _ _ _ hr
      have := Int.mul_nonneg hb.1 hs
      exact ⟨v + pr + s * sl + q, r + 1, by omega, by omega, by omega, by omega⟩
theorem rdX_cnt (H : HX M fr kn n) {f a b x : Int} (h : rdX M fr kn n f a b x) : 0 ≤ x ∧ 1 ≤ x % 32 ∧ (0 ≤ f → x % 32 ≤ n - f) := by
  obtain ⟨q, r, rfl, q0, r0, r1⟩ := RD_cnt (sgX_in H) H.1.2.2.2.2.2.1 H.1.2.2.2.1.1 _ _ _ _ _ h
  have hn := H.2.2.2.2.2.2
  by_cases c : 0 ≤ f
  · refine ⟨by omega, by omega, fun _ => by omega⟩
  · refine ⟨by omega, ?_, fun w => by omega⟩
    exfalso
    unfold rdX RDf at h
    have : f < n := by omega
    cases hm : (n - f).toNat with
    | zero => omega
    | succ m' =>
      rw [hm] at h
      rcases h with ⟨v, h1, _⟩ | ⟨c, g, s, v, y, hc, ⟨hg, hv⟩, _⟩
      · have := h1.1.1.1; omega
      · have := hv.1.1.1; omega
theorem AN_ld {A : Int → Int → Prop} {a o b c : Int} (H : HX M fr kn n) (ha : -1 ≤ a ∧ a < M 135 0) (ho : -1 ≤ o ∧ o < M 135 0) (h : EQV (SFq M o b) (SFq M a b)) : AN M fr kn n A o b c = AN M fr kn n A a b c := by
  funext f x
  refine propext ?_
  unfold AN
  exact ⟨fun ⟨f1, g, s, v0, v1, r0, r1, r⟩ => ⟨f1, g, s, v0, v1, r0, (sgX_ld H ha ho h).mp r1, r⟩, fun ⟨f1, g, s, v0, v1, r0, r1, r⟩ => ⟨f1, g, s, v0, v1, r0, (sgX_ld H ha ho h).mpr r1, r⟩⟩
/-- the class's test of a row that ends -/
theorem EE_lw {A : Int → Int → Prop} {k a b L x : Int} (H : HX M fr kn n) (hk : 0 ≤ k ∧ k < 20) (hB : ABd n A k) (hv : VS (M 135 0) a b (-1)) (hL : 0 ≤ L ∧ L ≤ 3000000) (hx : MN (fun x => LW M fr kn n A k a b (-1) x) x) : x ≤ 32 * L + 31 ↔ EE M fr kn n L A a b := by
  constructor
  · intro h
    obtain ⟨f, v, y, r0, r1, e⟩ := hx.1 (by omega)
    unfold thX TH at r1
    rw [if_pos rfl] at r1
    obtain ⟨w, r2, rfl⟩ := r1
    exact ⟨_, ⟨f, v, w, r0, r2, rfl⟩, by omega⟩
  · rintro ⟨w, ⟨f, v, u, r0, r2, rfl⟩, hw⟩
    have := hx.2.1 (32 * (v + M 135 4) + 1 + k + 32 * u) ⟨f, v, 32 * u, r0, by unfold thX TH; rw [if_pos rfl]; exact ⟨u, r2, rfl⟩, rfl⟩
    omega
theorem MAY_lw {A : Int → Int → Prop} {k a b c L x : Int} (H : HX M fr kn n) (hk : 0 ≤ k ∧ k < 20) (hB : ABd n A k) (hc : 0 ≤ c) (hL : 0 ≤ L ∧ L ≤ 3000000) (hx : MN (fun x => LW M fr kn n A k a b c x) x) : x ≤ 32 * L + 31 ↔ MAY M fr kn n L A a b c := by
  have hn := H.2.2.2.2.2.2
  constructor
  · intro h
    obtain ⟨f, v, y, r0, r1, e⟩ := hx.1 (by omega)
    unfold thX TH at r1
    rw [if_neg (by omega)] at r1
    obtain ⟨g, s, w, y', ⟨hg, r2⟩, hs, hr, rfl⟩ := r1
    have e2 : s * (32 * M 135 3) = 32 * (s * M 135 3) := by rw [Int.mul_left_comm]
    rw [e2] at e
    exact ⟨g + s, _, y', ⟨f, g, s, v, w, r0, r2, hs, rfl, rfl⟩, hr, by omega⟩
  · rintro ⟨f', u, y', ⟨f, g, s, v, w, r0, r2, hs, rfl, rfl⟩, hr, hw⟩
    have fg := sgX_in H _ _ _ _ _ _ r2
    have ab := hB f v r0
    have cn := rdX_cnt H hr
    have cn2 := cn.2.2 (by omega)
    have e2 : s * (32 * M 135 3) = 32 * (s * M 135 3) := by rw [Int.mul_left_comm]
    have := hx.2.1 (32 * (v + M 135 4) + 1 + k + (32 * w + s * (32 * M 135 3) + y')) ⟨f, v, _, r0, by unfold thX TH; rw [if_neg (by omega)]; exact ⟨g, s, w, y', ⟨fg.1, r2⟩, hs, hr, rfl⟩, rfl⟩
    rw [e2] at this
    omega
/-- what the class's search leaves -/
def CEX (k : Int) (m m1 : MT) : Prop := (∀ r : Nat, r ≠ 105 → r ≠ 114 → r ≠ 115 → m1 r = m r) ∧ (∀ j : Nat, j ≠ 18 → m1 105 j = m 105 j) ∧ ∀ j : Nat, (j : Int) < k * 20 + 20 → m1 114 j = m 114 j
theorem CEX.rfl' (k : Int) (m : MT) : CEX k m m := ⟨fun _ _ _ _ => rfl, fun _ _ => rfl, fun _ _ => rfl⟩
theorem CEX.trans {k : Int} {a b c : MT} (h1 : CEX k a b) (h2 : CEX k b c) : CEX k a c := ⟨fun r x y z => (h2.1 r x y z).trans (h1.1 r x y z), fun j x => (h2.2.1 j x).trans (h1.2.1 j x), fun j x => (h2.2.2 j x).trans (h1.2.2 j x)⟩
theorem CEX.le {k k' : Int} {a b : MT} (h : CEX k' a b) (hk : k ≤ k') : CEX k a b := ⟨h.1, h.2.1, fun j hj => h.2.2 j (by omega)⟩
/-- what the class's search rests on -/
def CS (M : MT) (fr kn n L : Int) (m : MT) : Prop := m 2 8 = M 135 0 ∧ m 103 1 = n ∧ m 105 15 = M 135 3 * 32 ∧ m 105 16 = M 135 4 * 32 + 1 ∧ m 105 17 = 32 * L + 31 ∧ CT (m 104) (M 135) fr kn n ∧ STA M m ∧ DY M fr kn n m 0
theorem CS_f {L k : Int} {m m1 : MT} (h : CS M fr kn n L m) (F : CEX k m m1) : CS M fr kn n L m1 := by
  obtain ⟨h1, h2, h3, h4, h5, h6, h7, h8⟩ := h
  have r : ∀ q : Nat, q ≠ 105 → q ≠ 114 → q ≠ 115 → m1 q = m q := F.1
  refine ⟨by rw [r 2 (by decide) (by decide) (by decide)]; exact h1, by rw [r 103 (by decide) (by decide) (by decide)]; exact h2, by rw [F.2.1 15 (by decide)]; exact h3, by rw [F.2.1 16 (by decide)]; exact h4, by rw [F.2.1 17 (by decide)]; exact h5, by rw [r 104 (by decide) (by decide) (by decide)]; exact h6, ⟨fun a b ha hb => ?_, fun a b c ha hb hc hl => ?_⟩, ⟨fun a b c ha hb hc hl => ?_, fun a b ha hb hl f' f1 f2 => ?_⟩⟩
  · rw [r 106 (by decide) (by decide) (by decide)]; exact h7.1 a b ha hb
  · have := h7.2 a b c ha hb hc hl
    exact ⟨by rw [r 110 (by decide) (by decide) (by decide)]; exact this.1, fun i i0 i1 => by rw [r 109 (by decide) (by decide) (by decide)]; exact this.2 i i0 i1⟩
  · have := h8.1 a b c ha hb hc hl
    exact ⟨fun i i0 i1 => by rw [r 111 (by decide) (by decide) (by decide)]; exact this.1 i i0 i1, fun f' f1 f2 => by rw [r 112 (by decide) (by decide) (by decide)]; exact this.2 f' f1 f2⟩
  · rw [r 113 (by decide) (by decide) (by decide)]; exact h8.2 a b ha hb hl f' f1 f2
theorem SHD_f {A : Int → Int → Prop} {k : Int} {m m1 : MT} (h : SHD M m A k n) (F : CEX k m m1) (hk : 0 ≤ k) (hn : n ≤ 20) : SHD M m1 A k n := fun f f0 f1 => by rw [F.2.2 _ (by omega)]; exact h f f0 f1
theorem s_R_explore (H : HX M fr kn n) {L : Int} (hL : 0 ≤ L ∧ L ≤ 3000000) : ∀ (q : Nat) (d : Nat) (k : Int) (A : Int → Int → Prop) (a b x : Int) (m : MT) (P : MT → Prop), k + q = 20 → 0 ≤ k → q + 6 < d → CS M fr kn n L m → VS (M 135 0) a b (-1) → ABd n A k → SHD M m A k n → m 105 18 = x → (0 ≤ x ∧ x ≤ 1000) → (∀ m1 : MT, CEX k m m1 → m1 105 18 = rcnt M fr kn n L q A a b x → P m1) → c_R_explore d k a b m P := by
  have hn := H.2.2.2.2.2.2
  have s10 := H.1.2.1
  intro q
  induction q with
  | zero =>
    intro d k A a b x m P hq k0 hd C hv hB hA ex hx h
    refine v_R_explore ⟨fun w => by omega, fun _ => h m (CEX.rfl' k m) ex⟩
  | succ q ih =>
    intro d k A a b x m P hq k0 hd C hv hB hA ex hx h
    obtain ⟨v1, v2, v3⟩ := id hv
    -- the signs behind
    have LC : ∀ c : Int, c ≤ M 135 0 → 0 ≤ c → ∀ (x : Int) (m' : MT), CEX k m m' → m' 105 18 = x → (0 ≤ x ∧ x ≤ 1000) → (∀ m1 : MT, CEX k m m1 → m1 105 18 = cl (fun c x => if x < 1000 ∧ cb (MAY M fr kn n L A a b c) = true then rcnt M fr kn n L q (AN M fr kn n A a b c) b c x else x) (M 135 0 - c).toNat c x → P m1) → h_R_explore_49 d k a b c m' P := by
      refine upto _ (fun c hc ihc c0 x m' F ex hx h => ?_)
      have C' := CS_f C F
      obtain ⟨g28, g103, g15, g16, g17, gC, gS, gD⟩ := id C'
      refine v_R_explore_49 ?_
      rw [g28, ex]
      refine ⟨fun w => h m' F ?_, fun w => ⟨fun w2 => h m' F ?_, fun w2 => ?_⟩⟩
      · rw [show (M 135 0 - c).toNat = 0 by omega]; exact ex
      · rw [cl_stop (fun c x hx => if_neg (by omega)) _ _ _ w2]; exact ex
      obtain ⟨o, lo, e106⟩ := gS.1 a b (by omega) v2
      have e106' : m' 106 ((a + 1) * 10 + b).toNat = pr_ o b := e106
      have ho : -1 ≤ o ∧ o < M 135 0 := by have := lo.1; omega
      have pb : 0 ≤ pr_ o b ∧ pr_ o b < 110 := by unfold pr_; omega
      rw [e106']
      have VC : VS (M 135 0) a b c := ⟨v1, v2, Or.inr ⟨c0, w⟩⟩
      have A' := SHD_f hA F k0 hn.2
      -- the next sign behind
      have NX : ∀ m1 : MT, CEX k m m1 → m1 105 18 = (if x < 1000 ∧ cb (MAY M fr kn n L A a b c) = true then rcnt M fr kn n L q (AN M fr kn n A a b c) b c x else x) → h_R_explore_49 d k a b (c + 1) m1 P := by
        intro m1 F1 e1
        refine ihc w (by omega) _ m1 F1 e1 ?_ (fun m2 F2 e2 => h m2 F2 ?_)
        · split
          · exact rcnt_le _ _ _ _ _ hx.1 hx.2
          · exact hx
        · rw [e2, show (M 135 0 - c).toNat = (M 135 0 - (c + 1)).toNat + 1 by omega]
          rfl
      refine ⟨by omega, ?_⟩
      refine s_R_leastWith (M := M) (fr := fr) (kn := kn) (n := n) (A := A) (a := a) (o := o) (b := b) (c := c) (by omega) H g103 (by omega) hB A' VC lo gD (fun z hz => ?_)
      have TE := MAY_lw (L := L) H (by omega) hB c0 hL hz
      rw [g17]
      refine ⟨fun w3 => ⟨by omega, NX m' F ?_⟩, fun w3 => ?_⟩
      · rw [if_neg (fun y => by have := TE.mpr ((cb_iff _).mp y.2); omega)]; exact ex
      · have my := TE.mp w3
        have ANe := AN_ld (A := A) (c := c) H (a := a) (by omega) ho lo.2.1
        refine s_R_extend (M := M) (fr := fr) (kn := kn) (n := n) (A := A) (a := o) (b := b) (c := c) (by omega) H g103 g15 g16 gC (by omega) hB A' ⟨by omega, v2, VC.2.2⟩ (gS.2 o b c ho v2 (by omega) (LD_self lo)) (fun l t hS ht => ⟨by omega, ?_⟩)
        rw [ANe] at hS
        have F2 : CEX k m' (sv (sv m' 115 l) 114 t) := ⟨fun r r1 r2 r3 => by rw [sv_ne _ _ r2, sv_ne _ _ r3], fun j _ => rfl, fun j hj => ht j (by omega)⟩
        have kn1 : k + 1 < 20 := by
          obtain ⟨f, v, y, r0, _⟩ := my
          have := ABd_n H hB f v r0
          omega
        refine ih (d - 1) (k + 1) (AN M fr kn n A a b c) b c x _ _ (by omega) (by omega) (by omega) (CS_f C' F2) ⟨Or.inr v2, ⟨c0, w⟩, Or.inl rfl⟩ (ABd_n H hB) hS ex hx (fun m3 F3 e3 => ⟨by omega, NX m3 ((F.trans F2).trans (F3.le (by omega))) ?_⟩)
        rw [if_pos ⟨w2, (cb_iff _).mpr my⟩]
        exact e3
    obtain ⟨g28, g103, g15, g16, g17, gC, gS, gD⟩ := id C
    have GO : ∀ (x1 : Int) (m' : MT), CEX k m m' → m' 105 18 = x1 → (x1 = if x < 1000 ∧ cb (EE M fr kn n L A a b) = true then x + 1 else x) → h_R_explore_49 d k a b 0 m' P := by
      intro x1 m' F e1 e2
      refine LC 0 (by omega) (by omega) x1 m' F e1 (by rw [e2]; split <;> omega) (fun m1 F1 g => h m1 F1 ?_)
      rw [g, e2, show M 135 0 - 0 = M 135 0 by omega]
      rfl
    refine v_R_explore ?_
    rw [ex]
    refine ⟨fun w => ⟨fun w2 => GO x m (CEX.rfl' k m) ex (by rw [if_neg (by omega)]), fun w2 => ?_⟩, fun w => by omega⟩
    obtain ⟨o, lo, e106⟩ := gS.1 a b (by omega) v2
    have e106' : m 106 ((a + 1) * 10 + b).toNat = pr_ o b := e106
    have ho : -1 ≤ o ∧ o < M 135 0 := by have := lo.1; omega
    have pb : 0 ≤ pr_ o b ∧ pr_ o b < 110 := by unfold pr_; omega
    rw [e106']
    refine ⟨by omega, ?_⟩
    refine s_R_leastWith (M := M) (fr := fr) (kn := kn) (n := n) (A := A) (a := a) (o := o) (b := b) (c := -1) (by omega) H g103 (by omega) hB hA hv lo gD (fun z hz => ?_)
    have TE := EE_lw (L := L) H (by omega) hB hv hL hz
    rw [g17, ex]
    refine ⟨fun w3 => GO x m (CEX.rfl' k m) ex (by rw [if_neg (fun y => by have := TE.mpr ((cb_iff _).mp y.2); omega)]), fun w3 => ⟨by omega, GO (x + 1) _ ⟨fun r r1 _ _ => wt_row _ _ r1, fun j hj => wt_ne _ _ hj, fun j _ => by rw [wt_row _ _ (by decide)]⟩ (wt_same _ _ _ _) (by rw [if_pos ⟨w2, (cb_iff _).mpr (TE.mp w3)⟩])⟩⟩
end RIVALS
