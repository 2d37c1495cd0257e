section BROW
variable {d : Nat} {M : MT} {fr kn n z : Int} {r r' : Int → Int}
def CHO (M : MT) (fr kn n z k : Int) (A : Int → Int → Prop) (a b c : Int) : Prop := ∃ f v y : Int, AN M fr kn n A a b c f v ∧ rdX M fr kn n f b c y ∧ 32 * v + (k + 1) + y = z
def ONW (M : MT) (fr kn n z k : Int) (A : Int → Int → Prop) (a b : Int) : Prop := ∃ f v y : Int, A f v ∧ rdX M fr kn n f a b y ∧ 32 * v + k + y = z
def ENZ (M : MT) (fr kn n z k : Int) (A : Int → Int → Prop) (a b : Int) : Prop := ∃ x : Int, EN M fr kn n A a b x ∧ 32 * x + (k + 1) = z
/-- the first k steps of the row that is read -/
def BRk (M : MT) (fr kn n z : Int) (r : Int → Int) (k : Nat) : Prop := ((0 ≤ r 0 ∧ r 0 < M 135 0) ∧ rdX M fr kn n 0 (-1) (r 0) z ∧ ∀ b : Int, 0 ≤ b → b < r 0 → ¬ rdX M fr kn n 0 (-1) b z) ∧ ∀ j : Nat, j < k → (0 ≤ r (j + 1) ∧ r (j + 1) < M 135 0) ∧ CHO M fr kn n z j (AHr M fr kn n r j) (ra r j) (r j) (r (j + 1)) ∧ ∀ c : Int, 0 ≤ c → c < r (j + 1) → ¬ CHO M fr kn n z j (AHr M fr kn n r j) (ra r j) (r j) c
def BR (M : MT) (fr kn n z : Int) (r : Int → Int) : Prop := BRk M fr kn n z r (z % 32 - 1).toNat
theorem least_ex {Q : Int → Prop} : ∀ (m : Nat) (c : Int), c.toNat = m → 0 ≤ c → Q c → ∃ c' : Int, (0 ≤ c' ∧ c' ≤ c) ∧ Q c' ∧ ∀ x : Int, 0 ≤ x → x < c' → ¬ Q x := by
  intro m
  induction m using Nat.strongRecOn with
  | ind m ih =>
    intro c hc c0 hQ
    by_cases e : ∃ x : Int, (0 ≤ x ∧ x < c) ∧ Q x
    · obtain ⟨x, hx, qx⟩ := e
      obtain ⟨c', h1, h2, h3⟩ := ih x.toNat (by omega) x rfl hx.1 qx
      exact ⟨c', by omega, h2, h3⟩
    · exact ⟨c, by omega, hQ, fun x x0 x1 q => e ⟨x, ⟨x0, x1⟩, q⟩⟩
theorem AHr_cg : ∀ k : Nat, (∀ j : Int, 0 ≤ j → j ≤ k → r' j = r j) → AHr M fr kn n r' k = AHr M fr kn n r k := by
  intro k
  induction k with
  | zero => intro _; rfl
  | succ k ih =>
    intro h
    have e1 : ra r' k = ra r k := by
      unfold ra
      split
      · rfl
      · rw [h (k - 1) (by omega) (by omega)]
    show AN M fr kn n (AHr M fr kn n r' k) (ra r' k) (r' k) (r' (k + 1)) = AN M fr kn n (AHr M fr kn n r k) (ra r k) (r k) (r (k + 1))
    rw [ih (fun j j0 j1 => h j j0 (by omega)), e1, h k (by omega) (by omega), h (k + 1) (by omega) (by omega)]
theorem ra_cg {k : Nat} (h : ∀ j : Int, 0 ≤ j → j ≤ k → r' j = r j) : ra r' k = ra r k := by
  unfold ra
  split
  · rfl
  · rw [h (k - 1) (by omega) (by omega)]
theorem th_c (H : HX M fr kn n) {f a b c g s v y : Int} (hc : 0 ≤ c) (r1 : sgX M fr kn n a b c f g v) (hs : 0 ≤ s ∧ s < 4 ∧ g + s < n) (hr : rdX M fr kn n (g + s) b c y) : rdX M fr kn n f a b (32 * (v + M 135 4 + s * M 135 3) + 1 + y) := by
  have fg := (sgX_in H _ _ _ _ _ _ r1).1
  have vc := r1.1.2.2.2
  have e2 : s * (32 * M 135 3) = 32 * (s * M 135 3) := by rw [Int.mul_left_comm]
  exact (rdX_iff H (by omega)).mpr ⟨c, vc, by unfold thX TH; rw [if_neg (by omega)]; exact ⟨g, s, v, y, ⟨fg, r1⟩, hs, hr, by rw [e2]; omega⟩⟩
theorem th_e (H : HX M fr kn n) {f a b v : Int} (r1 : sgX M fr kn n a b (-1) f n v) : rdX M fr kn n f a b (32 * (v + M 135 4) + 1) := by
  have fg := (sgX_in H _ _ _ _ _ _ r1).1
  exact (rdX_iff H (by omega)).mpr ⟨-1, Or.inl rfl, by unfold thX TH; rw [if_pos rfl]; exact ⟨v, r1, by omega⟩⟩
/-- a way ahead and a way on are a way -/
theorem AHr_all (H : HX M fr kn n) : ∀ (k : Nat) (f v y : Int), (∀ j : Int, 0 ≤ j → j ≤ k → 0 ≤ r j ∧ r j < M 135 0) → AHr M fr kn n r k f v → rdX M fr kn n f (ra r k) (r k) y → allX M fr kn n (32 * v + k + y) := by
  intro k
  induction k with
  | zero =>
    rintro f v y hr ⟨rfl, rfl⟩ h
    exact ⟨r 0, hr 0 (by omega) (by omega), by rw [show 32 * 0 + ((0 : Nat) : Int) + y = y by omega]; exact h⟩
  | succ k ih =>
    rintro f v y hr ⟨f0, g, s, v0, v1, hA, r1, hs, rfl, rfl⟩ h
    have e : ra r ((k + 1 : Nat) : Int) = r k := by
      unfold ra
      rw [if_neg (by omega)]
      congr 1; omega
    rw [e, show ((k + 1 : Nat) : Int) = k + 1 by omega] at h
    have := ih f0 v0 _ (fun j j0 j1 => hr j j0 (by omega)) hA (th_c H (hr (k + 1) (by omega) (by omega)).1 r1 hs h)
    rw [show 32 * (v0 + v1 + M 135 4 + s * M 135 3) + ((k + 1 : Nat) : Int) + y = 32 * v0 + k + (32 * (v1 + M 135 4 + s * M 135 3) + 1 + y) by omega]
    exact this
theorem CHO_cnt (H : HX M fr kn n) {A : Int → Int → Prop} {k a b c : Int} (k0 : 0 ≤ k) (hB : ABd n A k) (h : CHO M fr kn n z k A a b c) : k + 1 < z % 32 ∧ z % 32 ≤ n := by
  obtain ⟨f, v, y, hA, hr, e⟩ := h
  have hn := H.2.2.2.2.2.2
  have B := ABd_n H hB f v hA
  have cn := rdX_cnt H hr
  have := cn.2.2 (by omega)
  omega
theorem ENZ_cnt (H : HX M fr kn n) {A : Int → Int → Prop} {k a b : Int} (k0 : 0 ≤ k) (hB : ABd n A k) (h : ENZ M fr kn n z k A a b) : z % 32 = k + 1 ∧ k < n := by
  obtain ⟨x, ⟨f, v0, v1, hA, _⟩, e⟩ := h
  have hn := H.2.2.2.2.2.2
  have B := hB f v0 hA
  omega
theorem ONW_or (H : HX M fr kn n) {A : Int → Int → Prop} {k a b : Int} (h : ONW M fr kn n z k A a b) (hB : ABd n A k) : ENZ M fr kn n z k A a b ∨ ∃ c : Int, (0 ≤ c ∧ c < M 135 0) ∧ CHO M fr kn n z k A a b c := by
  obtain ⟨f, v, y, hA, hr, e⟩ := h
  have B := hB f v hA
  obtain ⟨c, hc, ht⟩ := (rdX_iff H (by omega)).mp hr
  unfold thX TH at ht
  by_cases c1 : c = -1
  · rw [if_pos c1] at ht
    obtain ⟨v1, r1, e1⟩ := ht
    exact Or.inl ⟨_, ⟨f, v, v1, hA, r1, rfl⟩, by omega⟩
  · rw [if_neg c1] at ht
    obtain ⟨g, s, v1, y', ⟨_, r1⟩, hs, hr', e1⟩ := ht
    have e2 : s * (32 * M 135 3) = 32 * (s * M 135 3) := by rw [Int.mul_left_comm]
    rw [e2] at e1
    exact Or.inr ⟨c, by omega, g + s, _, y', ⟨f, g, s, v, v1, hA, r1, hs, rfl, rfl⟩, hr', by omega⟩
theorem BRk_onw {k : Nat} (h : BRk M fr kn n z r k) : ∀ j : Nat, j ≤ k → ONW M fr kn n z j (AHr M fr kn n r j) (ra r j) (r j) := by
  intro j hj
  cases j with
  | zero => exact ⟨0, 0, z, ⟨rfl, rfl⟩, h.1.2.1, by omega⟩
  | succ j =>
    obtain ⟨f, v, y, hA, hr, e⟩ := (h.2 j (by omega)).2.1
    have e1 : ra r ((j + 1 : Nat) : Int) = r j := by
      unfold ra
      rw [if_neg (by omega)]
      congr 1; omega
    refine ⟨f, v, y, hA, ?_, by omega⟩
    rw [e1, show ((j + 1 : Nat) : Int) = j + 1 by omega]
    exact hr
theorem BRk_in {k : Nat} (h : BRk M fr kn n z r k) : ∀ j : Int, 0 ≤ j → j ≤ k → 0 ≤ r j ∧ r j < M 135 0 := by
  intro j j0 j1
  by_cases c : j = 0
  · rw [c]; exact h.1.1
  · have := (h.2 (j - 1).toNat (by omega)).1
    rw [show ((j - 1).toNat : Int) + 1 = j by omega] at this
    exact this
theorem BR_ex (H : HX M fr kn n) (hz : MN (fun v => allX M fr kn n v) z) (z1 : z < 268435456) : ∃ r : Int → Int, BR M fr kn n z r := by
  have hn := H.2.2.2.2.2.2
  obtain ⟨b, hb, hr⟩ := hz.1 z1
  have cn := rdX_cnt H hr
  have cn2 := cn.2.2 (by omega)
  obtain ⟨b0, q1, q2, q3⟩ := least_ex (Q := fun b => rdX M fr kn n 0 (-1) b z) b.toNat b rfl hb.1 hr
  have K : ∀ k : Nat, (k : Int) < z % 32 → ∃ r : Int → Int, BRk M fr kn n z r k := by
    intro k
    induction k with
    | zero => intro _; exact ⟨fun _ => b0, ⟨⟨by show 0 ≤ b0 ∧ b0 < M 135 0; omega, q2, q3⟩, fun j hj => by omega⟩⟩
    | succ k ih =>
      intro hk
      obtain ⟨r, h⟩ := ih (by omega)
      rcases ONW_or H (BRk_onw h k (Nat.le_refl _)) (AHr_bd H k) with e | ⟨c, hc, e⟩
      · have := ENZ_cnt H (by omega) (AHr_bd H k) e; omega
      · obtain ⟨c0, p1, p2, p3⟩ := least_ex (Q := fun c => CHO M fr kn n z k (AHr M fr kn n r k) (ra r k) (r k) c) c.toNat c rfl hc.1 e
        have er : ∀ j : Int, j ≤ k → (fun x : Int => if x = k + 1 then c0 else r x) j = r j := fun j hj => if_neg (by omega)
        have ek : (fun x : Int => if x = k + 1 then c0 else r x) (k + 1) = c0 := if_pos rfl
        generalize (fun x : Int => if x = k + 1 then c0 else r x) = r2 at er ek
        refine ⟨r2, ?_, fun j hj => ?_⟩
        · rw [er 0 (by omega)]; exact h.1
        · rw [AHr_cg (r := r) (r' := r2) j (fun i _ i1 => er i (by omega)), ra_cg (r := r) (r' := r2) (k := j) (fun i _ i1 => er i (by omega)), er j (by omega)]
          by_cases c : j = k
          · subst c
            rw [ek]
            exact ⟨by omega, p2, p3⟩
          · rw [er (j + 1) (by omega)]
            exact h.2 j (by omega)
  exact K _ (by omega)
/-- what the class's search for the best rests on -/
def CS0 (M : MT) (fr kn n : Int) (m : MT) : Prop := m 2 8 = M 135 0 ∧ m 103 1 = n ∧ m 105 15 = M 135 3 * 32 ∧ m 105 16 = M 135 4 * 32 + 1 ∧ CT (m 104) (M 135) fr kn n ∧ STA M m ∧ DY M fr kn n m 0
def CE0 (m m1 : MT) : Prop := (∀ k : Nat, k ≠ 105 → k ≠ 114 → k ≠ 115 → k ≠ 116 → m1 k = m k) ∧ ∀ j : Nat, j ≠ 14 → m1 105 j = m 105 j
theorem CE0.trans {a b c : MT} (h1 : CE0 a b) (h2 : CE0 b c) : CE0 a c := ⟨fun k x y w v => (h2.1 k x y w v).trans (h1.1 k x y w v), fun j x => (h2.2 j x).trans (h1.2 j x)⟩
theorem CS0_f {m m1 : MT} (h : CS0 M fr kn n m) (F : CE0 m m1) : CS0 M fr kn n m1 := by
  obtain ⟨h1, h2, h3, h4, h6, h7, h8⟩ := h
  have r : ∀ q : Nat, q ≠ 105 → q ≠ 114 → q ≠ 115 → q ≠ 116 → m1 q = m q := F.1
  refine ⟨by rw [r 2 (by decide) (by decide) (by decide) (by decide)]; exact h1, by rw [r 103 (by decide) (by decide) (by decide) (by decide)]; exact h2, by rw [F.2 15 (by decide)]; exact h3, by rw [F.2 16 (by decide)]; exact h4, by rw [r 104 (by decide) (by decide) (by decide) (by decide)]; exact h6, ⟨fun a b ha hb => ?_, fun a b c ha hb hc hl => ?_⟩, ⟨fun a b c ha hb hc hl => ?_, fun a b ha hb hl f' f1 f2 => ?_⟩⟩
  · rw [r 106 (by decide) (by decide) (by decide) (by decide)]; exact h7.1 a b ha hb
  · have := h7.2 a b c ha hb hc hl
    exact ⟨by rw [r 110 (by decide) (by decide) (by decide) (by decide)]; exact this.1, fun i i0 i1 => by rw [r 109 (by decide) (by decide) (by decide) (by decide)]; exact this.2 i i0 i1⟩
  · have := h8.1 a b c ha hb hc hl
    exact ⟨fun i i0 i1 => by rw [r 111 (by decide) (by decide) (by decide) (by decide)]; exact this.1 i i0 i1, fun f' f1 f2 => by rw [r 112 (by decide) (by decide) (by decide) (by decide)]; exact this.2 f' f1 f2⟩
  · rw [r 113 (by decide) (by decide) (by decide) (by decide)]; exact h8.2 a b ha hb hl f' f1 f2
theorem s_R_firstOf {m : MT} {P : Int → MT → Prop} (hd : 1 < d) (H : HX M fr kn n) (C : CS0 M fr kn n m) (hz : MN (fun v => allX M fr kn n v) z) (z1 : z < 268435456) {k : Nat} (hB : BRk M fr kn n z r k) (h : P (r 0) m) : c_R_firstOf d z m P := by
  obtain ⟨g28, g103, g15, g16, gC, gS, gD⟩ := id C
  have s10 := H.1.2.1
  have L : ∀ b : Int, b ≤ r 0 → 0 ≤ b → h_R_firstOf_2 d z b m P := by
    refine upto _ (fun b hb ih b0 => ?_)
    have rb := hB.1.1
    obtain ⟨k1, k2, k3⟩ := first_key H gD (b := b) (by omega)
    refine v_R_firstOf_2 ?_
    rw [g28, g16]
    have pr := H.1.2.2.2.2.2
    refine ⟨fun w => by omega, fun w => ⟨by omega, fun w2 => ⟨by omega, ih ?_ (by omega)⟩, fun w2 => ?_⟩⟩
    · by_cases c : b = r 0
      · exfalso
        subst c
        have a1 := k3.2.1 z hB.1.2.1
        have a2 : z ≤ min 268435456 (M 135 4 * 32 + 1 + m 113 ((0 + r 0) * 20).toNat) := by
          by_cases c : min 268435456 (M 135 4 * 32 + 1 + m 113 ((0 + r 0) * 20).toNat) < 268435456
          · exact hz.2.1 _ ⟨r 0, rb, k3.1 c⟩
          · omega
        omega
      · omega
    · by_cases c : b = r 0
      · rw [c]; exact h
      · exfalso
        refine hB.1.2.2 b b0 (by omega) ?_
        have := k3.1 (by omega)
        rw [show min 268435456 (M 135 4 * 32 + 1 + m 113 ((0 + b) * 20).toNat) = z by omega] at this
        exact this
  exact v_R_firstOf (L 0 (by have := hB.1.1; omega) (by omega))
/-- the class's test of a sign that comes behind -/
theorem LW_ge (H : HX M fr kn n) (hz : MN (fun v => allX M fr kn n v) z) {k : Nat} {c x : Int} (hr : ∀ j : Int, 0 ≤ j → j ≤ k → 0 ≤ r j ∧ r j < M 135 0) (hc : c = -1 ∨ (0 ≤ c ∧ c < M 135 0)) (h : LW M fr kn n (AHr M fr kn n r k) k (ra r k) (r k) c x) : z ≤ x := by
  obtain ⟨f, v, y, hA, ht, rfl⟩ := h
  have B := AHr_bd H k f v hA
  have R : rdX M fr kn n f (ra r k) (r k) (y + (32 * M 135 4 + 1)) := (rdX_iff H (by omega)).mpr ⟨c, hc, by rw [show y + (32 * M 135 4 + 1) - (32 * M 135 4 + 1) = y by omega]; exact ht⟩
  have := hz.2.1 _ (AHr_all H k f v _ hr hA R)
  omega
theorem LW_cho {k : Nat} {A : Int → Int → Prop} {a b c : Int} (hc : 0 ≤ c) (H : HX M fr kn n) : LW M fr kn n A k a b c z ↔ CHO M fr kn n z k A a b c := by
  constructor
  · rintro ⟨f, v, y, r0, r1, e⟩
    unfold thX TH at r1
    rw [if_neg (by omega)] at r1
    obtain ⟨g, s, w, y', ⟨hg, r2⟩, hs, hr, rfl⟩ := r1
    have e2 : s * (32 * M 135 3) = 32 * (s * M 135 3) := by rw [Int.mul_left_comm]
    rw [e2] at e
    exact ⟨g + s, _, y', ⟨f, g, s, v, w, r0, r2, hs, rfl, rfl⟩, hr, by omega⟩
  · rintro ⟨f', u, y', ⟨f, g, s, v, w, r0, r2, hs, rfl, rfl⟩, hr, e⟩
    have fg := sgX_in H _ _ _ _ _ _ r2
    have e2 : s * (32 * M 135 3) = 32 * (s * M 135 3) := by rw [Int.mul_left_comm]
    exact ⟨f, v, 32 * w + s * (32 * M 135 3) + y', r0, by unfold thX TH; rw [if_neg (by omega)]; exact ⟨g, s, w, y', ⟨fg.1, r2⟩, hs, hr, rfl⟩, by rw [e2]; omega⟩
theorem LW_enz {k : Nat} {A : Int → Int → Prop} {a b : Int} : LW M fr kn n A k a b (-1) z ↔ ENZ M fr kn n z k A a b := by
  constructor
  · rintro ⟨f, v, y, r0, r1, e⟩
    unfold thX TH at r1
    rw [if_pos rfl] at r1
    obtain ⟨w, r2, rfl⟩ := r1
    exact ⟨_, ⟨f, v, w, r0, r2, rfl⟩, by omega⟩
  · rintro ⟨w, ⟨f, v, u, r0, r2, rfl⟩, hw⟩
    exact ⟨f, v, 32 * u, r0, by unfold thX TH; rw [if_pos rfl]; exact ⟨u, r2, rfl⟩, by omega⟩
theorem s_R_followerOf {m : MT} {P : Int → MT → Prop} {k : Nat} (hd : 2 < d) (H : HX M fr kn n) (C : CS0 M fr kn n m) (hz : MN (fun v => allX M fr kn n v) z) (z1 : z < 268435456) (hBR : BR M fr kn n z r) (hk : (k : Int) < z % 32) (hA : SHD M m (AHr M fr kn n r k) k n) (h1 : z % 32 = k + 1 → P (-1) m) (h2 : (k : Int) + 1 < z % 32 → P (r (k + 1)) m) : c_R_followerOf d z k (ra r k) (r k) m P := by
  obtain ⟨g28, g103, g15, g16, gC, gS, gD⟩ := id C
  have s10 := H.1.2.1
  have hn := H.2.2.2.2.2.2
  have rin := BRk_in hBR
  have rin' : ∀ j : Int, 0 ≤ j → j ≤ k → 0 ≤ r j ∧ r j < M 135 0 := fun j j0 j1 => rin j j0 (by omega)
  have hB := AHr_bd (M := M) (fr := fr) (kn := kn) (n := n) (r := r) H k
  have O := BRk_onw hBR k (by omega)
  have k20 : (k : Int) < n := by
    obtain ⟨f, v, y, hA', _⟩ := O
    have := hB f v hA'; omega
  have v2 := rin' k (by omega) (by omega)
  have v1 : ra r k = -1 ∨ (0 ≤ ra r k ∧ ra r k < M 135 0) := by
    unfold ra
    split
    · exact Or.inl rfl
    · exact Or.inr (rin' (k - 1) (by omega) (by omega))
  obtain ⟨o, lo, e106⟩ := gS.1 (ra r k) (r k) (by omega) v2
  have e106' : m 106 ((ra r k + 1) * 10 + r k).toNat = pr_ o (r k) := e106
  have ho : -1 ≤ o ∧ o < M 135 0 := by have := lo.1; omega
  have pb : 0 ≤ pr_ o (r k) ∧ pr_ o (r k) < 110 := by unfold pr_; omega
  -- whether a sign behind is taken
  have TK : ∀ c x : Int, (c = -1 ∨ (0 ≤ c ∧ c < M 135 0)) → MN (fun x => LW M fr kn n (AHr M fr kn n r k) k (ra r k) (r k) c x) x → (x = z ↔ LW M fr kn n (AHr M fr kn n r k) k (ra r k) (r k) c z) := by
    intro c x hc hx
    constructor
    · rintro rfl; exact hx.1 z1
    · intro w
      have a1 := hx.2.1 z w
      have a2 := LW_ge H hz rin' hc (hx.1 (by omega))
      omega
  have STEP : ∀ c : Int, (c = -1 ∨ (0 ≤ c ∧ c < M 135 0)) → (LW M fr kn n (AHr M fr kn n r k) k (ra r k) (r k) c z → P c m) → (¬ LW M fr kn n (AHr M fr kn n r k) k (ra r k) (r k) c z → h_R_followerOf_3 d z k (ra r k) (r k) (c + 1) m P) → h_R_followerOf_3 d z k (ra r k) (r k) c m P := by
    intro c hc p1 p2
    refine v_R_followerOf_3 ?_
    rw [g28, e106']
    refine ⟨fun w => by omega, fun w => ⟨by omega, ?_⟩⟩
    refine s_R_leastWith (M := M) (fr := fr) (kn := kn) (n := n) (A := AHr M fr kn n r k) (a := ra r k) (o := o) (b := r k) (c := c) (by omega) H g103 (by omega) hB hA ⟨v1, v2, hc⟩ lo gD (fun x hx => ?_)
    have T := TK c x hc hx
    exact ⟨fun w2 => ⟨by omega, p2 (fun y => w2 (T.mpr y))⟩, fun w2 => p1 (T.mp w2)⟩
  refine v_R_followerOf (STEP (-1) (Or.inl rfl) (fun w => h1 (ENZ_cnt H (by omega) hB (LW_enz.mp w)).1) (fun w => ?_))
  rcases ONW_or H O hB with e | ⟨c0, _, e0⟩
  · exact absurd (LW_enz.mpr e) w
  have kc1 := (CHO_cnt H (by omega) hB e0).1
  obtain ⟨q1, q2, q3⟩ := hBR.2 k (by omega)
  have L : ∀ c : Int, c ≤ r (k + 1) → 0 ≤ c → h_R_followerOf_3 d z k (ra r k) (r k) c m P := by
    refine upto _ (fun c hc ih c0 => ?_)
    refine STEP c (Or.inr (by omega)) (fun w => ?_) (fun w => ih ?_ (by omega))
    · by_cases e : c = r (k + 1)
      · rw [e]; exact h2 kc1
      · exact absurd ((LW_cho c0 H).mp w) (q3 c c0 (by omega))
    · by_cases e : c = r (k + 1)
      · rw [e] at w; exact absurd ((LW_cho (by omega) H).mpr q2) w
      · omega
  exact L 0 (by omega) (by omega)
theorem s_R_findBest {m : MT} {P : MT → Prop} (hd : 5 < d) (H : HX M fr kn n) (C : CS0 M fr kn n m) (hz : MN (fun v => allX M fr kn n v) z) (z1 : z < 268435456) (hBR : BR M fr kn n z r) (h : ∀ m1 : MT, CE0 m m1 → m1 105 14 = z % 32 → (∀ p : Int, 0 ≤ p → p < z % 32 → m1 116 p.toNat = r p) → P m1) : c_R_findBest d m P := by
  have hn := H.2.2.2.2.2.2
  have s10 := H.1.2.1
  have pr := H.1.2.2.2.2.2
  have cn := rdX_cnt H hBR.1.2.1
  have cn2 := cn.2.2 (by omega)
  refine v_R_findBest ⟨by omega, s_R_leastKey (by omega) H C.1 C.2.2.2.1 C.2.2.2.2.2.2 (fun z2 hz2 => ?_)⟩
  have ez : z2 = z := MN_eq hz2 hz
  subst ez
  refine s_R_start (M := M) (n := n) (by omega) hn.2 pr C.2.2.2.1 (fun t hT => ?_)
  have F0 : CE0 m (wt (sv m 114 t) 105 14 0) := ⟨fun k k1 k2 _ _ => by rw [wt_row _ _ k1, sv_ne _ _ k2], fun j hj => by rw [wt_ne _ _ hj, sv_ne _ _ (by decide)]⟩
  have T0 : SHD M (wt (sv m 114 t) 105 14 0) A0 0 n := fun f f0 f1 => by rw [wt_row _ _ (by decide)]; exact hT f f0 f1
  generalize wt (sv m 114 t) 105 14 0 = m0 at *
  refine s_R_firstOf (by omega) H (CS0_f C F0) hz z1 hBR ?_
  have L : ∀ (q k : Nat), (k : Int) + q + 1 = z2 % 32 → ∀ m' : MT, CE0 m m' → SHD M m' (AHr M fr kn n r k) k n → (∀ p : Int, 0 ≤ p → p < k → m' 116 p.toNat = r p) → h_R_findBest_25 d z2 (ra r k) (r k) k m' P := by
    intro q
    induction q with
    | zero =>
      intro k hk m' F hS hw
      have rk := BRk_in hBR k (by omega) (by omega)
      refine v_R_findBest_25 ⟨fun w => by omega, fun w => ⟨fun w2 => by omega, fun w2 => ⟨by omega, ?_⟩⟩⟩
      have F1 : CE0 m' (wt (wt m' 116 (k : Int).toNat (r k)) 105 14 (k + 1)) := ⟨fun c c1 _ _ c4 => by rw [wt_row _ _ c1, wt_row _ _ c4], fun j hj => by rw [wt_ne _ _ hj, wt_row _ _ (by decide)]⟩
      refine s_R_followerOf (by omega) H (CS0_f (CS0_f C F) F1) hz z1 hBR (by omega) (fun f f0 f1 => by rw [wt_row _ _ (by decide), wt_row _ _ (by decide)]; exact hS f f0 f1) (fun _ => ?_) (fun w3 => by omega)
      refine ⟨fun _ => ?_, fun w3 => absurd rfl w3⟩
      have FIN : P (wt (wt m' 116 (k : Int).toNat (r k)) 105 14 (k + 1)) := by
        refine h _ (F.trans F1) (by rw [wt_same]; omega) (fun p p0 p1 => ?_)
        rw [wt_row _ _ (by decide)]
        by_cases c : p = k
        · subst c; exact wt_same _ _ _ _
        · rw [wt_ne _ _ (by omega)]; exact hw p p0 (by omega)
      exact v_R_findBest_25 ⟨fun _ => FIN, fun _ => ⟨fun _ => FIN, fun w5 => absurd rfl w5⟩⟩
    | succ q ih =>
      intro k hk m' F hS hw
      have rk := BRk_in hBR k (by omega) (by omega)
      have rk1 := BRk_in hBR (k + 1) (by omega) (by omega)
      refine v_R_findBest_25 ⟨fun w => by omega, fun w => ⟨fun w2 => by omega, fun w2 => ⟨by omega, ?_⟩⟩⟩
      have F1 : CE0 m' (wt (wt m' 116 (k : Int).toNat (r k)) 105 14 (k + 1)) := ⟨fun c c1 _ _ c4 => by rw [wt_row _ _ c1, wt_row _ _ c4], fun j hj => by rw [wt_ne _ _ hj, wt_row _ _ (by decide)]⟩
      have S1 : SHD M (wt (wt m' 116 (k : Int).toNat (r k)) 105 14 (k + 1)) (AHr M fr kn n r k) k n := fun f f0 f1 => by rw [wt_row _ _ (by decide), wt_row _ _ (by decide)]; exact hS f f0 f1
      have W1 : ∀ p : Int, 0 ≤ p → p < k + 1 → (wt (wt m' 116 (k : Int).toNat (r k)) 105 14 (k + 1)) 116 p.toNat = r p := by
        intro p p0 p1
        rw [wt_row _ _ (by decide)]
        by_cases c : p = k
        · subst c; exact wt_same _ _ _ _
        · rw [wt_ne _ _ (by omega)]; exact hw p p0 (by omega)
      have F01 := F.trans F1
      generalize wt (wt m' 116 (k : Int).toNat (r k)) 105 14 (k + 1) = m1 at *
      have C1 := CS0_f C F01
      refine s_R_followerOf (by omega) H C1 hz z1 hBR (by omega) S1 (fun w3 => by omega) (fun _ => ?_)
      refine ⟨fun w3 => by omega, fun _ => ?_⟩
      obtain ⟨g28, g103, g15, g16, gC, gS, gD⟩ := id C1
      have v1 : ra r k = -1 ∨ (0 ≤ ra r k ∧ ra r k < M 135 0) := by
        unfold ra
        split
        · exact Or.inl rfl
        · exact Or.inr (BRk_in hBR (k - 1) (by omega) (by omega))
      obtain ⟨o, lo, e106⟩ := gS.1 (ra r k) (r k) (by omega) rk
      have e106' : m1 106 ((ra r k + 1) * 10 + r k).toNat = pr_ o (r k) := e106
      have ho : -1 ≤ o ∧ o < M 135 0 := by have := lo.1; omega
      have pb : 0 ≤ pr_ o (r k) ∧ pr_ o (r k) < 110 := by unfold pr_; omega
      rw [e106']
      refine ⟨by omega, ?_⟩
      have ANe := AN_ld (A := AHr M fr kn n r k) (c := r (k + 1)) H (a := ra r k) (by omega) ho lo.2.1
      refine s_R_extend (M := M) (fr := fr) (kn := kn) (n := n) (A := AHr M fr kn n r k) (a := o) (b := r k) (c := r (k + 1)) (by omega) H g103 g15 g16 gC (by omega) (AHr_bd H k) S1 ⟨by omega, rk, Or.inr rk1⟩ (gS.2 o (r k) (r (k + 1)) ho rk (by omega) (LD_self lo)) (fun l t hS2 ht => ?_)
      rw [ANe] at hS2
      have e1 : ra r ((k + 1 : Nat) : Int) = r k := by
        unfold ra
        rw [if_neg (by omega)]
        congr 1; omega
      have := ih (k + 1) (by omega) (sv (sv m1 115 l) 114 t) (F01.trans ⟨fun c _ c2 c3 _ => by rw [sv_ne _ _ c2, sv_ne _ _ c3], fun j _ => rfl⟩) hS2 (fun p p0 p1 => W1 p p0 (by omega))
      rw [e1] at this
      exact this
  have := L (z2 % 32 - 1).toNat 0 (by omega) m0 F0 T0 (fun p p0 p1 => by omega)
  exact this
/-- the reference's row -/
theorem s_M_isBest {m : MT} {P : Bool → MT → Prop} {k : Nat} {c : Int} (hd : 2 < d) (H : HX M fr kn n) (C : RS3 M fr kn n m) (hz : MN (fun v => allX M fr kn n v) z) (z1 : z < 268435456) (hBR : BR M fr kn n z r) (hk : (k : Int) + 1 < z % 32) (hc : 0 ≤ c ∧ c < M 135 0) (hA : AHD m (AHr M fr kn n r k) k n) (h : ∀ t : Nat → Int, (∀ j : Nat, (j : Int) < 21 * k + 21 → t j = m 164 j) → (CHO M fr kn n z k (AHr M fr kn n r k) (ra r k) (r k) c → P true (sv m 164 t)) ∧ (¬ CHO M fr kn n z k (AHr M fr kn n r k) (ra r k) (r k) c → P false (sv m 164 t))) : c_M_isBest d (k + 1) (ra r k) (r k) c z m P := by
  have hn := H.2.2.2.2.2.2
  have s10 := H.1.2.1
  have cn := rdX_cnt H hBR.1.2.1
  have cn2 := cn.2.2 (by omega)
  have rin := BRk_in hBR
  have rk := rin k (by omega) (by omega)
  have v1 : ra r k = -1 ∨ (0 ≤ ra r k ∧ ra r k < M 135 0) := by
    unfold ra
    split
    · exact Or.inl rfl
    · exact Or.inr (rin (k - 1) (by omega) (by omega))
  have hB := AHr_bd (M := M) (fr := fr) (kn := kn) (n := n) (r := r) H k
  have BN := ABd_n (a := ra r k) (b := r k) (c := c) H hB
  refine v_M_isBest ⟨by omega, ?_⟩
  rw [show (k : Int) + 1 - 1 = k by omega]
  refine s_M_goesOn (M := M) (fr := fr) (kn := kn) (A := AHr M fr kn n r k) (by omega) H C.1 C.2.1 C.2.2 ⟨v1, rk, Or.inr hc⟩ (by omega) hB hA (fun t hT ht => ?_)
  obtain ⟨p1, p2⟩ := h t (fun j hj => ht j (by omega))
  have C2 : RS3 M fr kn n (sv m 164 t) := ⟨C.1, C.2.1, RSI_r C.2.2 rfl rfl⟩
  generalize sv m 164 t = mt at *
  have L : ∀ f : Int, f ≤ n → 0 ≤ f → (∀ f' v y : Int, f' < f → AN M fr kn n (AHr M fr kn n r k) (ra r k) (r k) c f' v → rdX M fr kn n f' (r k) c y → ¬ 32 * v + (k + 1) + y = z) → h_M_isBest_14 d (k + 1) (ra r k) (r k) c z f mt P := by
    refine upto _ (fun f hf ih f0 no => ?_)
    refine v_M_isBest_14 ?_
    rw [C2.2.1]
    refine ⟨fun w => p2 (fun ⟨f', v, y, a1, a2, a3⟩ => no f' v y (by have := BN f' v a1; omega) a1 a2 a3), fun w => ⟨by omega, ?_⟩⟩
    have Tf := hT f f0 w
    have Rf := (C2.2.2 f (r k) c (by omega) ⟨Or.inr rk, hc, Or.inl rfl⟩ trivial).1
    have ea : (atx f (r k) c).toNat = ((f * 11 + r k + 1) * 10 + c).toNat := rfl
    rw [ea] at Rf
    have STAY : (¬ ∃ v y : Int, AN M fr kn n (AHr M fr kn n r k) (ra r k) (r k) c f v ∧ rdX M fr kn n f (r k) c y ∧ 32 * v + (k + 1) + y = z) → h_M_isBest_14 d (k + 1) (ra r k) (r k) c z (f + 1) mt P := by
      intro nf
      refine ih w (by omega) (fun f' v y q1 a1 a2 a3 => ?_)
      by_cases e : f' = f
      · subst e; exact nf ⟨v, y, a1, a2, a3⟩
      · exact no f' v y (by omega) a1 a2 a3
    refine ⟨fun w5 => ⟨by omega, STAY ?_⟩, fun w5 => ⟨fun w6 => ⟨by omega, STAY ?_⟩, fun w6 => ?_⟩⟩
    · rintro ⟨v, y, r0, _⟩
      exact MN_no Tf w5 (fun v hv => by have := BN f v hv; omega) v r0
    · rintro ⟨v, y, _, r1, _⟩
      exact MN_no Rf w6 (fun v hv => by have := rdX_in H f0 hv; omega) y r1
    · have a1 := Tf.1 w5
      have a2 := Rf.1 w6
      have b0 := BN f _ a1
      have b1 := rdX_in H f0 a2
      have ra1 : ra (fun x : Int => if x = k + 1 then c else r x) ((k + 1 : Nat) : Int) = r k := by
        unfold ra
        rw [if_neg (by omega)]
        show (if (((k + 1 : Nat) : Int) - 1 = k + 1) then c else r (((k + 1 : Nat) : Int) - 1)) = r k
        rw [if_neg (by omega)]
        congr 1; omega
      have er : ∀ j : Int, j ≤ k → (fun x : Int => if x = k + 1 then c else r x) j = r j := fun j hj => if_neg (by omega)
      have ek : (fun x : Int => if x = k + 1 then c else r x) (k + 1) = c := if_pos rfl
      generalize (fun x : Int => if x = k + 1 then c else r x) = r2 at er ek ra1
      have A2 : AHr M fr kn n r2 (k + 1) = AN M fr kn n (AHr M fr kn n r k) (ra r k) (r k) c := by
        show AN M fr kn n (AHr M fr kn n r2 k) (ra r2 k) (r2 k) (r2 (k + 1)) = _
        rw [AHr_cg (r := r) (r' := r2) k (fun i _ i1 => er i (by omega)), ra_cg (r := r) (r' := r2) (k := k) (fun i _ i1 => er i (by omega)), er k (by omega), ek]
      have ge : ∀ v y : Int, AN M fr kn n (AHr M fr kn n r k) (ra r k) (r k) c f v → rdX M fr kn n f (r k) c y → z ≤ 32 * v + (k + 1) + y := by
        intro v y q1 q2
        have := hz.2.1 _ (AHr_all (r := r2) H (k + 1) f v y (fun j j0 j1 => by
          by_cases e : j = k + 1
          · rw [e, ek]; exact hc
          · rw [er j (by omega)]; exact rin j j0 (by omega)) (by rw [A2]; exact q1) (by rw [ra1, show ((k + 1 : Nat) : Int) = k + 1 by omega, ek]; exact q2))
        omega
      have g0 := ge _ _ a1 a2
      refine ⟨by omega, fun w7 => ⟨by omega, STAY ?_⟩, fun w7 => p1 ⟨f, _, _, a1, a2, by omega⟩⟩
      rintro ⟨v, y, r0, r1, r2⟩
      have := Tf.2.1 v r0
      have := Rf.2.1 y r1
      omega
  exact L 0 (by omega) (by omega) (fun f' v y q1 a1 => by have := BN f' v a1; omega)
/-- what the reference's search for the best leaves -/
def RB0 (m m1 : MT) : Prop := ∀ k : Nat, k ≠ 164 → k ≠ 165 → m1 k = m k
theorem s_M_row {m : MT} {P : Int → MT → Prop} {a1 a2 a3 : Int} (hd : 4 < d) (H : HX M fr kn n) (C : RS3 M fr kn n m) (hz : MN (fun v => allX M fr kn n v) z) (z1 : z < 268435456) (hBR : BR M fr kn n z r) (hA : AHD m A0 0 n) (h : ∀ (m1 : MT) (x y : Int), RB0 m m1 → (∀ p : Int, 0 ≤ p → p < z % 32 → m1 165 p.toNat = r p) → h_M_read_98 d a1 a2 a3 z (z % 32) x y (z % 32) m1 P) : h_M_read_64 d a1 a2 a3 z (z % 32) (-1) 0 m P := by
  have hn := H.2.2.2.2.2.2
  have s10 := H.1.2.1
  have cn := rdX_cnt H hBR.1.2.1
  have cn2 := cn.2.2 (by omega)
  have rin := BRk_in hBR
  have L0 : ∀ b : Int, b ≤ r 0 → 0 ≤ b → h_M_read_64 d a1 a2 a3 z (z % 32) (-1) b m P := by
    refine upto _ (fun b hb ih b0 => ?_)
    have rb := hBR.1.1
    have R := (C.2.2 0 (-1) b (by omega) ⟨Or.inl rfl, by omega, Or.inl rfl⟩ trivial).1
    have ea : (atx 0 (-1) b).toNat = (0 + b).toNat := by unfold atx; omega
    rw [ea] at R
    refine v_M_read_64 ⟨by omega, fun w => ?_, fun w => ⟨by omega, ih ?_ (by omega)⟩⟩
    · have eb : b = r 0 := by
        by_cases c : b = r 0
        · exact c
        · have := R.1 (by omega)
          rw [w] at this
          exact absurd this (hBR.1.2.2 b b0 (by omega))
      subst eb
      have L : ∀ (q k : Nat), (k : Int) + q + 1 = z % 32 → ∀ m' : MT, RB0 m m' → AHD m' (AHr M fr kn n r k) k n → (∀ p : Int, 0 ≤ p → p ≤ k → m' 165 p.toNat = r p) → ∀ y : Int, h_M_read_98 d a1 a2 a3 z (z % 32) (ra r k) y (k + 1) m' P := by
        intro q
        induction q with
        | zero =>
          intro k hk m' F hS hw y
          have e : (k : Int) + 1 = z % 32 := by omega
          rw [e]
          exact h m' _ y F (fun p p0 p1 => hw p p0 (by omega))
        | succ q ih =>
          intro k hk m' F hS hw y
          refine v_M_read_98 ⟨fun w => by omega, fun w => ?_⟩
          obtain ⟨q1, q2, q3⟩ := hBR.2 k (by omega)
          have LC : ∀ c : Int, c ≤ r (k + 1) → 0 ≤ c → ∀ m' : MT, RB0 m m' → AHD m' (AHr M fr kn n r k) k n → (∀ p : Int, 0 ≤ p → p ≤ k → m' 165 p.toNat = r p) → h_M_read_108 d a1 a2 a3 z (z % 32) (ra r k) y (k + 1) c m' P := by
            refine upto _ (fun c hc ihc c0 m' F hS hw => ?_)
            refine v_M_read_108 ?_
            have ew : m' 165 ((k : Int) + 1 - 1).toNat = r k := by rw [show (k : Int) + 1 - 1 = k by omega]; exact hw k (by omega) (by omega)
            rw [ew]
            have C' : RS3 M fr kn n m' := ⟨by rw [F 135 (by decide) (by decide)]; exact C.1, by rw [F 134 (by decide) (by decide)]; exact C.2.1, RSI_r C.2.2 (F 162 (by decide) (by decide)) (F 163 (by decide) (by decide))⟩
            refine ⟨by omega, s_M_isBest (by omega) H C' hz z1 hBR (by omega) (by omega) hS (fun t ht => ?_)⟩
            have F2 : RB0 m (sv m' 164 t) := fun c c1 c2 => by rw [sv_ne _ _ c1]; exact F c c1 c2
            have S2 : AHD (sv m' 164 t) (AHr M fr kn n r k) k n := fun f f0 f1 => by
              show MN _ (t _)
              rw [ht _ (by omega)]; exact hS f f0 f1
            have W2 : ∀ p : Int, 0 ≤ p → p ≤ k → (sv m' 164 t) 165 p.toNat = r p := hw
            have C2 : RS3 M fr kn n (sv m' 164 t) := ⟨C'.1, C'.2.1, RSI_r C'.2.2 rfl rfl⟩
            generalize sv m' 164 t = m2 at *
            refine ⟨fun w2 => ⟨fun _ => ?_, fun e => by cases e⟩, fun w2 => ⟨fun e => (by cases e), fun _ => ⟨by omega, ihc ?_ (by omega) m2 F2 S2 W2⟩⟩⟩
            · have ec : c = r (k + 1) := by
                by_cases e : c = r (k + 1)
                · exact e
                · exact absurd w2 (q3 c c0 (by omega))
              have ew2 : m2 165 ((k : Int) + 1 - 1).toNat = r k := by rw [show (k : Int) + 1 - 1 = k by omega]; exact W2 k (by omega) (by omega)
              rw [ew2, show (k : Int) + 1 - 1 = k by omega]
              have rk := rin k (by omega) (by omega)
              have v1 : ra r k = -1 ∨ (0 ≤ ra r k ∧ ra r k < M 135 0) := by
                unfold ra
                split
                · exact Or.inl rfl
                · exact Or.inr (rin (k - 1) (by omega) (by omega))
              refine s_M_goesOn (M := M) (fr := fr) (kn := kn) (A := AHr M fr kn n r k) (by omega) H C2.1 C2.2.1 C2.2.2 ⟨v1, rk, Or.inr (by omega)⟩ (by omega) (AHr_bd H k) S2 (fun t3 hT3 ht3 => ⟨by omega, ?_⟩)
              have e1 : ra r ((k + 1 : Nat) : Int) = r k := by
                unfold ra
                rw [if_neg (by omega)]
                congr 1; omega
              have ew3 : (sv m2 164 t3) 165 (k : Int).toNat = r k := W2 k (by omega) (by omega)
              rw [ew3]
              subst ec
              have := ih (k + 1) (by omega) (wt (sv m2 164 t3) 165 ((k : Int) + 1).toNat (r (k + 1))) (fun c c1 c2 => by rw [wt_row _ _ c2, sv_ne _ _ c1]; exact F2 c c1 c2) (fun f f0 f1 => by rw [wt_row _ _ (by decide)]; exact hT3 f f0 f1) (fun p p0 p1 => ?_) y
              · rw [e1] at this
                exact this
              · by_cases c : p = k + 1
                · subst c; exact wt_same _ _ _ _
                · rw [wt_ne _ _ (by omega)]; exact W2 p p0 (by omega)
            · by_cases e : c = r (k + 1)
              · rw [e] at w2; exact absurd q2 w2
              · omega
          exact LC 0 (by omega) (by omega) m' F hS hw
      have := L (z % 32 - 1).toNat 0 (by omega) (wt m 165 0 (r 0)) (fun c _ c2 => wt_row _ _ c2) (fun f f0 f1 => by rw [wt_row _ _ (by decide)]; exact hA f f0 f1) (fun p p0 p1 => by
        have : p = 0 := by omega
        subst this; exact wt_same _ _ _ _) (r 0)
      exact this
    · by_cases c : b = r 0
      · exfalso
        subst c
        have a1 := R.2.1 z hBR.1.2.1
        have a2 := hz.2.1 _ ⟨r 0, rb, R.1 (by omega)⟩
        omega
      · omega
  exact L0 0 (by have := hBR.1.1; omega) (by omega)
/-- what the row that is read costs -/
theorem BR_cost (H : HX M fr kn n) (hz : MN (fun v => allX M fr kn n v) z) (hBR : BR M fr kn n z r) {e : Int} (he : MN (fun x => EN M fr kn n (AHr M fr kn n r (z % 32 - 1).toNat) (ra r (z % 32 - 1)) (r (z % 32 - 1)) x) e) (e1 : e < 268435456) : e = z / 32 := by
  have hn := H.2.2.2.2.2.2
  have cn := rdX_cnt H hBR.1.2.1
  have cn2 := cn.2.2 (by omega)
  have O := BRk_onw hBR (z % 32 - 1).toNat (Nat.le_refl _)
  have hB := AHr_bd (M := M) (fr := fr) (kn := kn) (n := n) (r := r) H (z % 32 - 1).toNat
  have ek : (((z % 32 - 1).toNat : Nat) : Int) = z % 32 - 1 := by omega
  rw [ek] at O hB
  rcases ONW_or H O hB with ⟨x, hx, ex⟩ | ⟨c, _, hc⟩
  · have a1 := he.2.1 x hx
    obtain ⟨f, v0, v1, hA, r1, e2⟩ := he.1 e1
    have := hz.2.1 _ (AHr_all H (z % 32 - 1).toNat f v0 _ (fun j j0 j1 => BRk_in hBR j j0 (by omega)) hA (by rw [ek]; exact th_e H r1))
    omega
  · have := CHO_cnt H (by omega) hB hc; omega
end BROW
