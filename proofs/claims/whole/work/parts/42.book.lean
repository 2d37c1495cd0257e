section BOOK
variable {d : Nat} {mi : MT}
/-- weighted distance of two states, mark by mark -/
def wdF (c : Nat → Int) (f g : Int → Int) : Nat → Int
  | 0 => 0
  | m + 1 => wdF c f g m + c (8 + (m : Int)).toNat * dst c m (f m) (g m)
theorem wdF_in {xs ys w c : Nat → Int} (h3 : P_xy xs ys c) (h4 : P_w w c) {f g : Int → Int} (hf : ∀ m : Int, 0 ≤ m → m < 4 → 0 ≤ f m ∧ f m < mxv m) (hg : ∀ m : Int, 0 ≤ m → m < 4 → 0 ≤ g m ∧ g m < mxv m) : ∀ n : Nat, n ≤ 4 → 0 ≤ wdF c f g n ∧ wdF c f g n ≤ 800 * n := by
  intro n
  induction n with
  | zero => intro _; simp [wdF]
  | succ n ih =>
    intro hn
    have a := ih (by omega)
    have b := h4 n (by omega) (by omega)
    have m := mulb (show 0 ≤ c (8 + (n : Int)).toNat ∧ c (8 + (n : Int)).toNat ≤ 20 by omega) (dst_in h3 (m := n) (by omega) (hf n (by omega) (by omega)) (hg n (by omega) (by omega)))
    simp only [wdF]
    omega
theorem wdF_congr (c : Nat → Int) {f g f' g' : Int → Int} (hf : ∀ m : Int, 0 ≤ m → m < 4 → f m = f' m) (hg : ∀ m : Int, 0 ≤ m → m < 4 → g m = g' m) : ∀ n : Nat, n ≤ 4 → wdF c f g n = wdF c f' g' n := by
  intro n
  induction n with
  | zero => intro _; rfl
  | succ n ih => intro hn; simp only [wdF]; rw [ih (by omega), hf n (by omega) (by omega), hg n (by omega) (by omega)]
theorem s_B_statesApart {P : Int → MT → Prop} {x y : Int} (hd : 2 < d) (h3 : P_xy (mi 5) (mi 6) (mi 135)) (h4 : P_w (mi 7) (mi 135)) (hx : 0 ≤ x ∧ x < 1048576) (hy : 0 ≤ y ∧ y < 1048576) (hf : ∀ m : Int, 0 ≤ m → m < 4 → 0 ≤ mkv x m ∧ mkv x m < mxv m) (hg : ∀ m : Int, 0 ≤ m → m < 4 → 0 ≤ mkv y m ∧ mkv y m < mxv m) (h : P (wdF (mi 135) (mkv x) (mkv y) 4) mi) : c_B_statesApart d x y mi P := by
  have L : ∀ m : Int, m ≤ 4 → 0 ≤ m → h_B_statesApart_5 d x y (wdF (mi 135) (mkv x) (mkv y) m.toNat) m mi P := by
    refine upto _ (fun m hm ih h0 => ?_)
    have a := wdF_in h3 h4 hf hg m.toNat (by omega)
    refine v_B_statesApart_5 ⟨fun q => by rw [show m = 4 by omega]; exact h, fun q => ⟨by omega, s_B_distanceOf (by omega) h3 ⟨h0, q⟩ (hf m h0 q) (hg m h0 q) ?_⟩⟩
    have b := h4 m h0 q
    have e := mulb b.2 (dst_in h3 (m := m) ⟨h0, q⟩ (hf m h0 q) (hg m h0 q))
    refine ⟨by omega, ?_⟩
    have ih := ih q (by omega)
    rw [show (m + 1).toNat = m.toNat + 1 by omega] at ih
    simp only [wdF] at ih
    rw [show ((m.toNat : Nat) : Int) = m by omega, ← b.1] at ih
    exact ih
  exact v_B_statesApart (L 0 (by omega) (by omega))
/-- the marks of a sign's state, as the reference holds them -/
def rmk (c : Nat → Int) (s k m : Int) : Int := c (16 + 17 * s + 1 + 4 * k + m).toNat
theorem sgn_at {st sz c : Nat → Int} (h2 : P_sgn st sz c) (h10 : c 0 ≤ 10) {s k : Int} (hs : 0 ≤ s ∧ s < c 0) (hk : 0 ≤ k ∧ k < sz s.toNat) : (0 ≤ st (s * 4 + k).toNat ∧ st (s * 4 + k).toNat < 1048576) ∧ (∀ m : Int, 0 ≤ m → m < 4 → mkv (st (s * 4 + k).toNat) m = rmk c s k m) ∧ (∀ m : Int, 0 ≤ m → m < 4 → 0 ≤ rmk c s k m ∧ rmk c s k m < mxv m) := by
  obtain ⟨g1, g2, g3, g4⟩ := h2 s hs.1 hs.2 (by omega)
  obtain ⟨k1, k2⟩ := g3 k hk.1 hk.2
  exact ⟨k1, fun m a b => (k2 m a b).1, fun m a b => (k2 m a b).2⟩
/-- what it costs to lay a state of one sign beside one of another -/
def wij (c : Nat → Int) (a b i j : Int) : Int := wdF c (rmk c a i) (rmk c b j) 4
/-- the least way to lead two signs along one another, up to a state of each -/
def gp0 (w : Int → Int → Int) : Nat → Int
  | 0 => w 0 0
  | j + 1 => gp0 w j + w 0 (j + 1)
def gpS (w : Int → Int → Int) (i : Int) (p : Nat → Int) : Nat → Int
  | 0 => p 0 + w i 0
  | j + 1 => min (p j) (min (gpS w i p j) (p (j + 1))) + w i (j + 1)
def gp (w : Int → Int → Int) : Nat → Nat → Int
  | 0 => gp0 w
  | i + 1 => gpS w (i + 1) (gp w i)
theorem gp_in {w : Int → Int → Int} {A B : Nat} (hw : ∀ i j : Int, 0 ≤ i → i < A → 0 ≤ j → j < B → 0 ≤ w i j ∧ w i j ≤ 3200) : ∀ i j : Nat, i < A → j < B → 0 ≤ gp w i j ∧ gp w i j ≤ 3200 * (i + j + 1) := by
  intro i
  induction i with
  | zero =>
    intro j
    induction j with
    | zero => intro hi hj; have := hw 0 0 (by omega) (by omega) (by omega) (by omega); simp only [gp, gp0]; omega
    | succ j ih => intro hi hj; have := ih hi (by omega); have := hw 0 (j + 1) (by omega) (by omega) (by omega) (by omega); simp only [gp, gp0] at *; omega
  | succ i ihi =>
    intro j
    induction j with
    | zero => intro hi hj; have := ihi 0 (by omega) hj; have := hw (i + 1) 0 (by omega) (by omega) (by omega) (by omega); simp only [gp, gpS]; omega
    | succ j ih => intro hi hj; have := ih hi (by omega); have := ihi j (by omega) (by omega); have := ihi (j + 1) (by omega) hj; have := hw (i + 1) (j + 1) (by omega) (by omega) (by omega) (by omega); simp only [gp, gpS] at *; omega
def gpI (w : Int → Int → Int) (i j : Int) : Int := gp w i.toNat j.toNat
theorem gpI_0 (w : Int → Int → Int) : gpI w 0 0 = w 0 0 := rfl
theorem gpI_r (w : Int → Int → Int) {j : Int} (hj : 0 < j) : gpI w 0 j = gpI w 0 (j - 1) + w 0 j := by
  obtain ⟨n, rfl⟩ : ∃ n : Nat, j = n + 1 := ⟨(j - 1).toNat, by omega⟩
  unfold gpI
  rw [show ((n : Int) + 1).toNat = n + 1 by omega, show ((n : Int) + 1 - 1).toNat = n by omega]
  rfl
theorem gpI_c (w : Int → Int → Int) {i : Int} (hi : 0 < i) : gpI w i 0 = gpI w (i - 1) 0 + w i 0 := by
  obtain ⟨n, rfl⟩ : ∃ n : Nat, i = n + 1 := ⟨(i - 1).toNat, by omega⟩
  unfold gpI
  rw [show ((n : Int) + 1).toNat = n + 1 by omega, show ((n : Int) + 1 - 1).toNat = n by omega]
  rfl
theorem gpI_s (w : Int → Int → Int) {i j : Int} (hi : 0 < i) (hj : 0 < j) : gpI w i j = min (gpI w (i - 1) (j - 1)) (min (gpI w i (j - 1)) (gpI w (i - 1) j)) + w i j := by
  obtain ⟨n, rfl⟩ : ∃ n : Nat, i = n + 1 := ⟨(i - 1).toNat, by omega⟩
  obtain ⟨k, rfl⟩ : ∃ k : Nat, j = k + 1 := ⟨(j - 1).toNat, by omega⟩
  unfold gpI
  rw [show ((n : Int) + 1).toNat = n + 1 by omega, show ((n : Int) + 1 - 1).toNat = n by omega, show ((k : Int) + 1).toNat = k + 1 by omega, show ((k : Int) + 1 - 1).toNat = k by omega]
  rfl
theorem gpI_in {w : Int → Int → Int} {A B : Int} (hw : ∀ i j : Int, 0 ≤ i → i < A → 0 ≤ j → j < B → 0 ≤ w i j ∧ w i j ≤ 3200) (hA : A ≤ 4) (hB : B ≤ 4) {i j : Int} (hi : 0 ≤ i ∧ i < A) (hj : 0 ≤ j ∧ j < B) : 0 ≤ gpI w i j ∧ gpI w i j ≤ 22400 := by
  have := gp_in (w := w) (A := A.toNat) (B := B.toNat) (fun i j a b e f => hw i j a (by omega) e (by omega)) i.toNat j.toNat (by omega) (by omega)
  unfold gpI
  omega
theorem wij_in (hI : Base mi) {a b : Int} (ha : 0 ≤ a ∧ a < mi 135 0) (hb : 0 ≤ b ∧ b < mi 135 0) : ∀ i j : Int, 0 ≤ i → i < mi 4 a.toNat → 0 ≤ j → j < mi 4 b.toNat → 0 ≤ wij (mi 135) a b i j ∧ wij (mi 135) a b i j ≤ 3200 := by
  obtain ⟨hs, ht, h1, h2, h3, h4, h5, h6, h7, h8, h9, h10⟩ := id hI
  intro i j i0 i1 j0 j1
  have hn := h1.2.1
  have A := sgn_at h2 (by omega) ha ⟨i0, i1⟩
  have B := sgn_at h2 (by omega) hb ⟨j0, j1⟩
  exact wdF_in h3 h4 A.2.2 B.2.2 4 (by decide)
def gapv (c : Nat → Int) (a b : Int) : Int := gpI (wij c a b) (c (16 + 17 * a).toNat - 1) (c (16 + 17 * b).toNat - 1)
theorem s_B_leastGap {P : Int → MT → Prop} {a b : Int} {t0 : Nat → Int} (hd : 6 < d) (hI : Base mi) (ha : 0 ≤ a ∧ a < mi 135 0) (hb : 0 ≤ b ∧ b < mi 135 0) (h : ∀ t : Nat → Int, P (gapv (mi 135) a b) (sv mi 8 t)) : c_B_leastGap d a b (sv mi 8 t0) P := by
  have W := wij_in hI ha hb
  obtain ⟨hs, ht, h1, h2, h3, h4, h5, h6, h7, h8, h9, h10⟩ := id hI
  have hn := h1.2.1
  obtain ⟨a1, a2, a3, a4⟩ := h2 a ha.1 ha.2 (by omega)
  obtain ⟨b1, b2, b3, b4⟩ := h2 b hb.1 hb.2 (by omega)
  have G := fun (i j : Int) hi hj => gpI_in W a2.2 b2.2 (i := i) (j := j) hi hj
  generalize hw : wij (mi 135) a b = w at W G
  have hv : gapv (mi 135) a b = gpI w (mi 4 a.toNat - 1) (mi 4 b.toNat - 1) := by unfold gapv; rw [hw, ← a1, ← b1]
  -- the inner loop
  have I : ∀ i : Int, 0 ≤ i → i < mi 4 a.toNat → (∀ t : Nat → Int, (∀ k : Int, 0 ≤ k → k < mi 4 b.toNat → t k.toNat = gpI w i k) → h_B_leastGap_10 d a b (mi 4 b.toNat) (i + 1) (sv mi 8 t) P) → ∀ j : Int, j ≤ mi 4 b.toNat → 0 ≤ j → ∀ (x y : Int) (t : Nat → Int), (∀ k : Int, 0 ≤ k → k < j → t k.toNat = gpI w i k) → (0 < i → ∀ k : Int, j ≤ k → k < mi 4 b.toNat → t k.toNat = gpI w (i - 1) k) → x = (if i = 0 then (if j = 0 then 0 else 268435456) else (if j = 0 then 268435456 else gpI w (i - 1) (j - 1))) → y = (if j = 0 then 268435456 else gpI w i (j - 1)) → h_B_leastGap_41 d a b (mi 4 b.toNat) i x y j (sv mi 8 t) P := by
    intro i i0 i1 hc
    refine upto _ (fun j hj ih j0 x y t ht1 ht2 hx hy => ?_)
    refine v_B_leastGap_41 ?_
    simp only [svc, Nat.reduceEqDiff, reduceIte]
    refine ⟨fun q => ⟨by omega, hc t (fun k k0 k1 => ht1 k k0 (by omega))⟩, fun q => ?_⟩
    have A := sgn_at h2 (by omega) ha ⟨i0, i1⟩
    have B := sgn_at h2 (by omega) hb ⟨j0, q⟩
    have eW : wdF (mi 135) (mkv (mi 3 (a * 4 + i).toNat)) (mkv (mi 3 (b * 4 + j).toNat)) 4 = w i j := by
      rw [← hw]; exact wdF_congr _ A.2.1 B.2.1 4 (by decide)
    have w1 := W i j i0 i1 j0 q
    have g1 := G i j ⟨i0, i1⟩ ⟨j0, q⟩
    have hfA : ∀ m : Int, 0 ≤ m → m < 4 → 0 ≤ mkv (mi 3 (a * 4 + i).toNat) m ∧ mkv (mi 3 (a * 4 + i).toNat) m < mxv m := fun m p p2 => by rw [A.2.1 m p p2]; exact A.2.2 m p p2
    have hfB : ∀ m : Int, 0 ≤ m → m < 4 → 0 ≤ mkv (mi 3 (b * 4 + j).toNat) m ∧ mkv (mi 3 (b * 4 + j).toNat) m < mxv m := fun m p p2 => by rw [B.2.1 m p p2]; exact B.2.2 m p p2
    have nx := fun (x y : Int) (hx : x = _) (hy : y = _) => ih q (by omega) x y (sv t j.toNat (gpI w i j)) (fun k k0 k1 => by
      rw [svr]; split
      · rw [show k = j by omega]
      · exact ht1 k k0 (by omega)) (fun i2 k k0 k1 => by rw [svr, if_neg (by omega)]; exact ht2 i2 k (by omega) k1) hx hy
    have gl : 0 < j → 0 ≤ gpI w i (j - 1) ∧ gpI w i (j - 1) ≤ 22400 := fun p => G i (j - 1) ⟨i0, i1⟩ (by omega)
    refine ⟨fun z => ?_, fun z => ?_⟩
    · have tj := ht2 (by omega) j (by omega) q
      have gu := G (i - 1) j (by omega) ⟨j0, q⟩
      have gd : 0 < j → 0 ≤ gpI w (i - 1) (j - 1) ∧ gpI w (i - 1) (j - 1) ≤ 22400 := fun p => G (i - 1) (j - 1) (by omega) (by omega)
      rw [if_neg z] at hx
      have ev : min x (min y (t j.toNat)) + w i j = gpI w i j := by
        rw [tj]
        by_cases c : j = 0
        · subst c; rw [if_pos rfl] at hx hy; rw [gpI_c w (i := i) (by omega)]; omega
        · rw [if_neg c] at hx hy; have := gl (by omega); have := gd (by omega); rw [gpI_s w (i := i) (j := j) (by omega) (by omega)]; omega
      refine ⟨by omega, s_B_statesApart (mi := sv mi 8 t) (by omega) h3 h4 A.1 B.1 hfA hfB ?_⟩
      rw [show sv mi 8 t 135 = mi 135 from rfl, eW, ev, wt_sv]
      exact ⟨by omega, nx _ _ (by rw [if_neg z, if_neg (by omega), tj, show j + 1 - 1 = j by omega]) (by rw [if_neg (by omega), show j + 1 - 1 = j by omega])⟩
    · subst z
      rw [if_pos rfl] at hx
      have ev : min x (min y 268435456) + w 0 j = gpI w 0 j := by
        by_cases c : j = 0
        · subst c; rw [if_pos rfl] at hx hy; rw [gpI_0 w]; omega
        · rw [if_neg c] at hx hy; rw [gpI_r w (j := j) (by omega)]; have := gl (by omega); omega
      refine ⟨by omega, s_B_statesApart (mi := sv mi 8 t) (by omega) h3 h4 A.1 B.1 hfA hfB ?_⟩
      rw [show sv mi 8 t 135 = mi 135 from rfl, eW, ev, wt_sv]
      exact ⟨by omega, nx _ _ (by rw [if_pos rfl, if_neg (by omega)]) (by rw [if_neg (by omega), show j + 1 - 1 = j by omega])⟩
  have O : ∀ i : Int, i ≤ mi 4 a.toNat → 0 ≤ i → ∀ t : Nat → Int, (0 < i → ∀ k : Int, 0 ≤ k → k < mi 4 b.toNat → t k.toNat = gpI w (i - 1) k) → h_B_leastGap_10 d a b (mi 4 b.toNat) i (sv mi 8 t) P := by
    refine upto _ (fun i hi ih i0 t ht => ?_)
    refine v_B_leastGap_10 ?_
    simp only [svc, Nat.reduceEqDiff, reduceIte]
    refine ⟨by omega, fun q => ⟨by omega, ?_⟩, fun q => ⟨fun z => ?_, fun z => ?_⟩⟩
    · rw [ht (by omega) (mi 4 b.toNat - 1) (by omega) (by omega), show i = mi 4 a.toNat by omega, ← hv]; exact h t
    · exact I i i0 q (fun t' h' => ih q (by omega) t' (fun _ k k0 k1 => by rw [show i + 1 - 1 = i by omega]; exact h' k k0 k1)) 0 (by omega) (by omega) _ _ t (fun k k0 k1 => by omega) (fun p k k0 k1 => ht p k k0 k1) (by rw [if_neg z, if_pos rfl]) (by rw [if_pos rfl])
    · subst z
      exact I 0 i0 q (fun t' h' => ih q (by omega) t' (fun _ k k0 k1 => h' k k0 k1)) 0 (by omega) (by omega) _ _ t (fun k k0 k1 => by omega) (fun p k k0 k1 => ht p k k0 k1) (by rw [if_pos rfl, if_pos rfl]) (by rw [if_pos rfl])
  exact v_B_leastGap ⟨by omega, O 0 (by omega) (by omega) t0 (fun p => by omega)⟩
theorem s_M_gapOf {P : Int → MT → Prop} {a b : Int} {t0 : Nat → Int} (hd : 6 < d) (hI : Base mi) (ha : 0 ≤ a ∧ a < mi 135 0) (hb : 0 ≤ b ∧ b < mi 135 0) (h : ∀ t : Nat → Int, P (gapv (mi 135) a b) (sv mi 171 t)) : c_M_gapOf d a b (sv mi 171 t0) P := by
  have W := wij_in hI ha hb
  obtain ⟨hs, ht, h1, h2, h3, h4, h5, h6, h7, h8, h9, h10⟩ := id hI
  have hn := h1.2.1
  obtain ⟨a1, a2, a3, a4⟩ := h2 a ha.1 ha.2 (by omega)
  obtain ⟨b1, b2, b3, b4⟩ := h2 b hb.1 hb.2 (by omega)
  have G := fun (i j : Int) hi hj => gpI_in W a2.2 b2.2 (i := i) (j := j) hi hj
  rw [a1] at W G a2 a3 a4
  rw [b1] at W G b2 b3 b4
  generalize hw : wij (mi 135) a b = w at W G
  have hv : gapv (mi 135) a b = gpI w (mi 135 (16 + 17 * a).toNat - 1) (mi 135 (16 + 17 * b).toNat - 1) := by unfold gapv; rw [hw]
  -- the sum over marks
  have S : ∀ (i j : Int) (t : Nat → Int), 0 ≤ i → i < mi 135 (16 + 17 * a).toNat → 0 ≤ j → j < mi 135 (16 + 17 * b).toNat → h_M_gapOf_97 d a b i j (w i j) 4 (if i = 0 ∧ j = 0 then 0 else 268435456) (sv mi 171 t) P → ∀ m : Int, m ≤ 4 → 0 ≤ m → h_M_gapOf_30 d a b i j (wdF (mi 135) (rmk (mi 135) a i) (rmk (mi 135) b j) m.toNat) m (sv mi 171 t) P := by
    intro i j t i0 i1 j0 j1 hc
    have A := sgn_at h2 (by omega) ha ⟨i0, by rw [a1]; exact i1⟩
    have B := sgn_at h2 (by omega) hb ⟨j0, by rw [b1]; exact j1⟩
    refine upto _ (fun m hm ih m0 => ?_)
    have e := wdF_in h3 h4 A.2.2 B.2.2 m.toNat (by omega)
    refine v_M_gapOf_30 ?_
    simp only [svc, Nat.reduceEqDiff, reduceIte]
    refine ⟨fun q => ?_, fun q => ?_⟩
    · have e4 : m = 4 := by omega
      subst e4
      rw [show wdF (mi 135) (rmk (mi 135) a i) (rmk (mi 135) b j) (4 : Int).toNat = w i j by rw [← hw]; rfl]
      refine ⟨fun z => ?_, fun z => ⟨fun z2 => ?_, fun z2 => ?_⟩⟩
      · rw [if_neg (by omega)] at hc; exact hc
      · rw [if_neg (by omega)] at hc; exact hc
      · rw [if_pos ⟨z, z2⟩] at hc; exact hc
    · have r1 := A.2.2 m m0 q
      have r2 := B.2.2 m m0 q
      have b4 := h4 m m0 q
      refine ⟨by omega, s_M_apart (mi := sv mi 171 t) (by omega) h3 ⟨m0, q⟩ r1 r2 ?_⟩
      have pm := mulb (show 0 ≤ mi 135 (8 + m).toNat ∧ mi 135 (8 + m).toNat ≤ 20 by omega) (dst_in h3 (m := m) ⟨m0, q⟩ r1 r2)
      have ih := ih q (by omega)
      rw [show (m + 1).toNat = m.toNat + 1 by omega] at ih
      simp only [wdF] at ih
      rw [show ((m.toNat : Nat) : Int) = m by omega] at ih
      generalize hD : dst (mi 135) m (rmk (mi 135) a i m) (rmk (mi 135) b j m) = D at pm ih
      rw [show dst (sv mi 171 t 135) m (mi 135 (16 + 17 * a + 1 + 4 * i + m).toNat) (mi 135 (16 + 17 * b + 1 + 4 * j + m).toNat) = D from hD]
      exact ⟨by omega, ih⟩
  -- one step of the table
  have T : ∀ (i j : Int) (t : Nat → Int), 0 ≤ i → i < mi 135 (16 + 17 * a).toNat → 0 ≤ j → j < mi 135 (16 + 17 * b).toNat → (∀ i' j' : Int, 0 ≤ i' → 0 ≤ j' → j' < mi 135 (16 + 17 * b).toNat → (i' < i ∨ (i' = i ∧ j' < j)) → t (4 * i' + j').toNat = gpI w i' j') → h_M_gapOf_14 d a b i (j + 1) (sv mi 171 (sv t (4 * i + j).toNat (gpI w i j))) P → h_M_gapOf_97 d a b i j (w i j) 4 (if i = 0 ∧ j = 0 then 0 else 268435456) (sv mi 171 t) P := by
    intro i j t i0 i1 j0 j1 ht hc
    have w1 := W i j i0 i1 j0 j1
    have g1 := G i j ⟨i0, i1⟩ ⟨j0, j1⟩
    have gl : 0 < j → 0 ≤ gpI w i (j - 1) ∧ gpI w i (j - 1) ≤ 22400 := fun p => G i (j - 1) ⟨i0, i1⟩ (by omega)
    have gu : 0 < i → 0 ≤ gpI w (i - 1) j ∧ gpI w (i - 1) j ≤ 22400 := fun p => G (i - 1) j (by omega) ⟨j0, j1⟩
    have gd : 0 < i → 0 < j → 0 ≤ gpI w (i - 1) (j - 1) ∧ gpI w (i - 1) (j - 1) ≤ 22400 := fun p p2 => G (i - 1) (j - 1) (by omega) (by omega)
    have tl : 0 < j → t (4 * i + j - 1).toNat = gpI w i (j - 1) := fun p => by rw [show 4 * i + j - 1 = 4 * i + (j - 1) by omega]; exact ht i (j - 1) i0 (by omega) (by omega) (by omega)
    have tu : 0 < i → t (4 * (i - 1) + j).toNat = gpI w (i - 1) j := fun p => ht (i - 1) j (by omega) j0 j1 (by omega)
    have td : 0 < i → 0 < j → t (4 * (i - 1) + j - 1).toNat = gpI w (i - 1) (j - 1) := fun p p2 => by rw [show 4 * (i - 1) + j - 1 = 4 * (i - 1) + (j - 1) by omega]; exact ht (i - 1) (j - 1) (by omega) (by omega) (by omega) (by omega)
    have H220 : ∀ x : Int, x + w i j = gpI w i j → h_M_gapOf_220 d a b i j (w i j) x (sv mi 171 t) P := by
      intro x hx
      refine v_M_gapOf_220 ?_
      rw [hx, wt_sv]
      exact ⟨by omega, hc⟩
    have H174 : ∀ x : Int, x ≤ 268435456 → min x (if 0 < i ∧ 0 < j then gpI w (i - 1) (j - 1) else 268435456) + w i j = gpI w i j → h_M_gapOf_174 d a b i j (w i j) x (sv mi 171 t) P := by
      intro x hx hy
      refine v_M_gapOf_174 ?_
      simp only [svc, Nat.reduceEqDiff, reduceIte]
      refine ⟨fun q => H220 x (by rw [if_neg (by omega)] at hy; omega), fun q => ⟨fun q2 => H220 x (by rw [if_neg (by omega)] at hy; omega), fun q2 => ⟨by omega, ?_⟩⟩⟩
      rw [if_pos ⟨q, q2⟩] at hy
      rw [td q q2]
      exact ⟨fun q3 => H220 x (by omega), fun q3 => H220 _ (by omega)⟩
    have H136 : ∀ x : Int, x ≤ 268435456 → min (min x (if 0 < j then gpI w i (j - 1) else 268435456)) (if 0 < i ∧ 0 < j then gpI w (i - 1) (j - 1) else 268435456) + w i j = gpI w i j → h_M_gapOf_136 d a b i j (w i j) x (sv mi 171 t) P := by
      intro x hx hy
      refine v_M_gapOf_136 ?_
      simp only [svc, Nat.reduceEqDiff, reduceIte]
      refine ⟨fun q => H174 x hx (by rw [if_neg (by omega)] at hy; rw [show min x 268435456 = x by omega] at hy; exact hy), fun q => ⟨by omega, ?_⟩⟩
      rw [if_pos q] at hy
      rw [tl q]
      have := gl q
      exact ⟨fun q3 => H174 x hx (by rw [show min x (gpI w i (j - 1)) = x by omega] at hy; exact hy), fun q3 => H174 _ (by omega) (by rw [show min x (gpI w i (j - 1)) = gpI w i (j - 1) by omega] at hy; exact hy)⟩
    have key : min (min (min (if i = 0 ∧ j = 0 then 0 else 268435456) (if 0 < i then gpI w (i - 1) j else 268435456)) (if 0 < j then gpI w i (j - 1) else 268435456)) (if 0 < i ∧ 0 < j then gpI w (i - 1) (j - 1) else 268435456) + w i j = gpI w i j := by
      by_cases ci : i = 0 <;> by_cases cj : j = 0
      · subst ci; subst cj; rw [gpI_0, if_pos ⟨rfl, rfl⟩, if_neg (by omega), if_neg (by omega)]; omega
      · subst ci; rw [if_neg (by omega), if_neg (by omega), if_pos (by omega), if_neg (by omega), gpI_r w (j := j) (by omega)]; have := gl (by omega); omega
      · subst cj; rw [if_neg (by omega), if_pos (by omega), if_neg (by omega), if_neg (by omega), gpI_c w (i := i) (by omega)]; have := gu (by omega); omega
      · rw [if_neg (by omega), if_pos (by omega), if_pos (by omega), if_pos (by omega), gpI_s w (i := i) (j := j) (by omega) (by omega)]; have := gl (by omega); have := gu (by omega); have := gd (by omega) (by omega); omega
    generalize hs0 : (if i = 0 ∧ j = 0 then (0 : Int) else 268435456) = s0 at key ⊢
    have s0b : s0 ≤ 268435456 := by rw [← hs0]; split <;> omega
    refine v_M_gapOf_97 ?_
    simp only [svc, Nat.reduceEqDiff, reduceIte]
    refine ⟨fun q => H136 s0 s0b (by rw [if_neg (show ¬ 0 < i by omega), show min s0 268435456 = s0 by omega] at key; exact key), fun q => ⟨by omega, ?_⟩⟩
    rw [if_pos q] at key
    rw [tu q]
    have := gu q
    exact ⟨fun q3 => H136 s0 s0b (by rw [show min s0 (gpI w (i - 1) j) = s0 by omega] at key; exact key), fun q3 => H136 _ (by omega) (by rw [show min s0 (gpI w (i - 1) j) = gpI w (i - 1) j by omega] at key; exact key)⟩
  have J : ∀ i : Int, 0 ≤ i → i < mi 135 (16 + 17 * a).toNat → (∀ t : Nat → Int, (∀ i' j' : Int, 0 ≤ i' → 0 ≤ j' → j' < mi 135 (16 + 17 * b).toNat → i' < i + 1 → t (4 * i' + j').toNat = gpI w i' j') → h_M_gapOf_2 d a b (i + 1) (sv mi 171 t) P) → ∀ j : Int, j ≤ mi 135 (16 + 17 * b).toNat → 0 ≤ j → ∀ t : Nat → Int, (∀ i' j' : Int, 0 ≤ i' → 0 ≤ j' → j' < mi 135 (16 + 17 * b).toNat → (i' < i ∨ (i' = i ∧ j' < j)) → t (4 * i' + j').toNat = gpI w i' j') → h_M_gapOf_14 d a b i j (sv mi 171 t) P := by
    intro i i0 i1 hc
    refine upto _ (fun j hj ih j0 t ht => ?_)
    refine v_M_gapOf_14 ?_
    simp only [svc, Nat.reduceEqDiff, reduceIte]
    refine ⟨by omega, fun q => ⟨by omega, hc t (fun i' j' p p2 p3 p4 => ht i' j' p p2 p3 (by omega))⟩, fun q => ?_⟩
    refine S i j t i0 i1 j0 q (T i j t i0 i1 j0 q ht (ih q (by omega) _ (fun i' j' p p2 p3 p4 => ?_))) 0 (by omega) (by omega)
    rw [svr]
    split
    · rename_i e
      rw [show i' = i by omega, show j' = j by omega]
    · rename_i e
      refine ht i' j' p p2 p3 ?_
      by_cases e2 : i' = i
      · right; refine ⟨e2, ?_⟩; by_cases e3 : j' = j
        · exact absurd (by rw [e2, e3]) e
        · omega
      · left; omega
  have O : ∀ i : Int, i ≤ mi 135 (16 + 17 * a).toNat → 0 ≤ i → ∀ t : Nat → Int, (∀ i' j' : Int, 0 ≤ i' → 0 ≤ j' → j' < mi 135 (16 + 17 * b).toNat → i' < i → t (4 * i' + j').toNat = gpI w i' j') → h_M_gapOf_2 d a b i (sv mi 171 t) P := by
    refine upto _ (fun i hi ih i0 t ht => ?_)
    refine v_M_gapOf_2 ?_
    simp only [svc, Nat.reduceEqDiff, reduceIte]
    refine ⟨by omega, fun q => ⟨by omega, ?_⟩, fun q => J i i0 q (fun t' h' => ih q (by omega) t' h') 0 (by omega) (by omega) t (fun i' j' p p2 p3 p4 => ht i' j' p p2 p3 (by omega))⟩
    rw [show 4 * (mi 135 (16 + 17 * a).toNat - 1) + mi 135 (16 + 17 * b).toNat - 1 = 4 * (mi 135 (16 + 17 * a).toNat - 1) + (mi 135 (16 + 17 * b).toNat - 1) by omega, ht _ _ (by omega) (by omega) (by omega) (by omega), ← hv]
    exact h t
  exact v_M_gapOf (O 0 (by omega) (by omega) t0 (fun i' j' p p2 p3 p4 => by omega))
theorem s_B_leastGap' {P : Int → MT → Prop} {a b : Int} (hd : 6 < d) (hI : Base mi) (ha : 0 ≤ a ∧ a < mi 135 0) (hb : 0 ≤ b ∧ b < mi 135 0) (h : ∀ t : Nat → Int, P (gapv (mi 135) a b) (sv mi 8 t)) : c_B_leastGap d a b mi P := by
  have := s_B_leastGap (t0 := mi 8) hd hI ha hb h
  rwa [sv_self] at this
theorem s_M_gapOf' {P : Int → MT → Prop} {a b : Int} (hd : 6 < d) (hI : Base mi) (ha : 0 ≤ a ∧ a < mi 135 0) (hb : 0 ≤ b ∧ b < mi 135 0) (h : ∀ t : Nat → Int, P (gapv (mi 135) a b) (sv mi 171 t)) : c_M_gapOf d a b mi P := by
  have := s_M_gapOf (t0 := mi 171) hd hI ha hb h
  rwa [sv_self] at this
theorem ca_gap {a b : Int} (hI : Base mi) (hd : 20 ≤ d) : c_C_gap d a b mi (fun z m1 => c_M_gap d a b m1 (fun z' m2 => Bth z z' mi m2)) := by
  obtain ⟨hs, ht, h1, h2, h3, h4, h5, h6, h7, h8, h9, h10⟩ := id hI
  have hn := h1
  unfold P_num at hn
  refine v_C_gap ?_
  repeat' (first | (refine And.intro (by omega) ?_) | apply And.intro | intro _ | omega)
  all_goals (try (refine v_M_gap ?_))
  all_goals repeat' (first | (refine And.intro (by omega) ?_) | apply And.intro | intro _ | omega)
  all_goals (try exact Bth.mk rfl hI (Kp.rfl' _))
  refine s_B_leastGap' (by omega) hI (by omega) (by omega) (fun t => v_M_gap ?_)
  simp only [svc, Nat.reduceEqDiff, reduceIte]
  repeat' (first | (refine And.intro (by omega) ?_) | apply And.intro | intro _ | omega)
  exact s_M_gapOf' (mi := sv mi 8 t) (by omega) hI ‹_› ‹_› (fun u => Bth.mk rfl hI (by (repeat' (first | exact Kp.rfl' _ | refine Kp.w0 ?_ (by decide) | refine Kp.w134 ?_ (by decide) | refine Kp.w135 ?_ (by omega) | refine Kp.wo ?_ (by decide) | refine Kp.cp ?_ (by decide) | refine Kp.o ?_ (by decide)))))
/-- the first sign of least gap, of the first n -/
def nrF (c : Nat → Int) (s : Int) : Nat → Int
  | 0 => -1
  | n + 1 => if (n : Int) = s then nrF c s n else if nrF c s n = -1 then n else if gapv c s n < gapv c s (nrF c s n) then n else nrF c s n
theorem nrF_in (c : Nat → Int) (s : Int) : ∀ n : Nat, nrF c s n = -1 ∨ (0 ≤ nrF c s n ∧ nrF c s n < n) := by
  intro n
  induction n with
  | zero => exact Or.inl rfl
  | succ n ih => simp only [nrF]; repeat' split
                 all_goals omega
theorem s_B_nearestTo {P : Int → MT → Prop} {s : Int} (hd : 8 < d) (hI : Base mi) (hsg : 0 ≤ s ∧ s < mi 135 0) (h : ∀ t : Nat → Int, P (nrF (mi 135) s (mi 135 0).toNat) (sv mi 8 t)) : c_B_nearestTo d s mi P := by
  obtain ⟨hs, ht, h1, h2, h3, h4, h5, h6, h7, h8, h9, h10⟩ := id hI
  have hn := h1
  unfold P_num at hn
  have gb : ∀ b : Int, 0 ≤ b → b < mi 135 0 → 0 ≤ gapv (mi 135) s b ∧ gapv (mi 135) s b ≤ 22400 := by
    intro b b0 b1
    obtain ⟨a1, a2, -⟩ := h2 s hsg.1 hsg.2 (by omega)
    obtain ⟨b1', b2, -⟩ := h2 b b0 b1 (by omega)
    unfold gapv
    rw [← a1, ← b1']
    exact gpI_in (wij_in hI hsg ⟨b0, b1⟩) a2.2 b2.2 (by omega) (by omega)
  have L : ∀ i : Int, i ≤ mi 135 0 → 0 ≤ i → ∀ t : Nat → Int, h_B_nearestTo_8 d s (nrF (mi 135) s i.toNat) (if nrF (mi 135) s i.toNat = -1 then 268435456 else gapv (mi 135) s (nrF (mi 135) s i.toNat)) i (sv mi 8 t) P := by
    refine upto _ (fun i hi ih i0 t => ?_)
    have ni := nrF_in (mi 135) s i.toNat
    refine v_B_nearestTo_8 ?_
    simp only [svc, Nat.reduceEqDiff, reduceIte]
    refine ⟨fun q => by rw [show i = mi 135 0 by omega]; exact h t, fun q => ?_⟩
    have ih := fun t => ih (by omega) (by omega) t
    have es : (i + 1).toNat = i.toNat + 1 := by omega
    have ei : ((i.toNat : Nat) : Int) = i := by omega
    rw [es] at ih
    have eN : nrF (mi 135) s (i.toNat + 1) = if i = s then nrF (mi 135) s i.toNat else if nrF (mi 135) s i.toNat = -1 then i else if gapv (mi 135) s i < gapv (mi 135) s (nrF (mi 135) s i.toNat) then i else nrF (mi 135) s i.toNat := by simp only [nrF]; rw [ei]
    rw [eN] at ih
    have g := gb i i0 (by omega)
    refine ⟨fun z => ⟨by omega, ?_⟩, fun z => ⟨by omega, s_B_leastGap (by omega) hI hsg ⟨i0, by omega⟩ (fun t' => ?_)⟩⟩
    · have := ih t; rw [if_pos z] at this; exact this
    · have ih := ih t'
      rw [if_neg z] at ih
      by_cases c : nrF (mi 135) s i.toNat = -1
      · rw [if_pos c] at ih
        rw [if_neg (show ¬ i = -1 by omega)] at ih
        rw [if_pos c]
        exact ⟨fun w => by omega, fun w => ⟨by omega, ih⟩⟩
      · rw [if_neg c] at ih
        rw [if_neg c]
        refine ⟨fun w => ⟨by omega, ?_⟩, fun w => ⟨by omega, ?_⟩⟩
        · rw [if_neg (show ¬ gapv (mi 135) s i < gapv (mi 135) s (nrF (mi 135) s i.toNat) by omega), if_neg c] at ih; exact ih
        · rw [if_pos (show gapv (mi 135) s i < gapv (mi 135) s (nrF (mi 135) s i.toNat) by omega), if_neg (show ¬ i = -1 by omega)] at ih; exact ih
  have := L 0 (by omega) (by omega) (mi 8)
  rw [sv_self] at this
  exact v_B_nearestTo this
theorem ca_nearest {s : Int} (hI : Base mi) (hd : 20 ≤ d) : c_C_nearest d s mi (fun z m1 => c_M_nearest d s m1 (fun z' m2 => Bth z z' mi m2)) := by
  obtain ⟨hs, ht, h1, h2, h3, h4, h5, h6, h7, h8, h9, h10⟩ := id hI
  have hn := h1
  unfold P_num at hn
  refine v_C_nearest ?_
  repeat' (first | (refine And.intro (by omega) ?_) | apply And.intro | intro _ | omega)
  all_goals (try (refine v_M_nearest ?_))
  all_goals repeat' (first | (refine And.intro (by omega) ?_) | apply And.intro | intro _ | omega)
  all_goals (try exact Bth.mk rfl hI (Kp.rfl' _))
  refine s_B_nearestTo (by omega) hI (by omega) (fun t => v_M_nearest ?_)
  simp only [svc, Nat.reduceEqDiff, reduceIte]
  repeat' (first | (refine And.intro (by omega) ?_) | apply And.intro | intro _ | omega)
  have hs' : 0 ≤ s ∧ s < mi 135 0 := by omega
  have hB : Base (sv mi 8 t) := hI
  have hK : Kp mi (sv mi 8 t) := by (repeat' (first | exact Kp.rfl' _ | refine Kp.w0 ?_ (by decide) | refine Kp.w134 ?_ (by decide) | refine Kp.w135 ?_ (by omega) | refine Kp.wo ?_ (by decide) | refine Kp.cp ?_ (by decide) | refine Kp.o ?_ (by decide)))
  generalize hz : nrF (mi 135) s (mi 135 0).toNat = z
  have L : ∀ i : Int, i ≤ mi 135 0 → 0 ≤ i → ∀ u : Nat → Int, h_M_nearest_14 d s (nrF (mi 135) s i.toNat) i (sv (sv mi 8 t) 171 u) (fun z' m2 => Bth z z' mi m2) := by
    refine upto _ (fun i hi ih i0 u => ?_)
    have ni := nrF_in (mi 135) s i.toNat
    refine v_M_nearest_14 ?_
    simp only [svc, Nat.reduceEqDiff, reduceIte]
    refine ⟨fun q => Bth.mk (by rw [← hz, show i = mi 135 0 by omega]) hI (hK.o (by decide)), fun q => ?_⟩
    have ih := fun u => ih (by omega) (by omega) u
    have es : (i + 1).toNat = i.toNat + 1 := by omega
    have ei : ((i.toNat : Nat) : Int) = i := by omega
    rw [es] at ih
    have eN : nrF (mi 135) s (i.toNat + 1) = if i = s then nrF (mi 135) s i.toNat else if nrF (mi 135) s i.toNat = -1 then i else if gapv (mi 135) s i < gapv (mi 135) s (nrF (mi 135) s i.toNat) then i else nrF (mi 135) s i.toNat := by simp only [nrF]; rw [ei]
    rw [eN] at ih
    refine ⟨fun w => ⟨by omega, ?_⟩, fun w => ⟨fun w2 => ⟨by omega, ?_⟩, fun w2 => ⟨by omega, ?_⟩⟩⟩
    · have := ih u; rw [if_pos w] at this; exact this
    · have := ih u; rw [if_neg w, if_pos w2] at this; exact this
    · refine s_M_gapOf (mi := sv mi 8 t) (by omega) hB hs' ⟨i0, q⟩ (fun u1 => s_M_gapOf (mi := sv mi 8 t) (by omega) hB hs' (show _ ∧ nrF (mi 135) s i.toNat < mi 135 0 by omega) (fun u2 => ?_))
      have := ih u2
      rw [if_neg w, if_neg w2] at this
      refine ⟨fun w3 => ⟨by omega, ?_⟩, fun w3 => ⟨by omega, ?_⟩⟩
      · rw [if_neg (show ¬ gapv (mi 135) s i < gapv (mi 135) s (nrF (mi 135) s i.toNat) from Int.not_lt.mpr w3)] at this; exact this
      · rw [if_pos (show gapv (mi 135) s i < gapv (mi 135) s (nrF (mi 135) s i.toNat) from w3)] at this; exact this
  have := L 0 (by omega) (by omega) ((sv mi 8 t) 171)
  rw [sv_self] at this
  exact this
/-- a state of a sign has all marks told -/
def agr (c : Nat → Int) (s k a b e f : Int) : Prop := (a = -1 ∨ rmk c s k 0 = a) ∧ (b = -1 ∨ rmk c s k 1 = b) ∧ (e = -1 ∨ rmk c s k 2 = e) ∧ (f = -1 ∨ rmk c s k 3 = f)
noncomputable def lkS (c : Nat → Int) (s a b e f : Int) (x : Int) : Nat → Int
  | 0 => x
  | n + 1 => @ite Int (agr c s n a b e f) (Classical.propDecidable _) (bOr (lkS c s a b e f x n) (iShl 1 s)) (lkS c s a b e f x n)
noncomputable def lkA (c : Nat → Int) (a b e f : Int) : Nat → Int
  | 0 => 0
  | s + 1 => lkS c s a b e f (lkA c a b e f s) (c (16 + 17 * (s : Int)).toNat).toNat
theorem ca_like {a b e f : Int} (hI : Base mi) (hd : 20 ≤ d) : c_C_like d a b e f mi (fun z m1 => c_M_like d a b e f m1 (fun z' m2 => Bth z z' mi m2)) := by
  obtain ⟨hs, ht, h1, h2, h3, h4, h5, h6, h7, h8, h9, h10⟩ := id hI
  have hn := h1
  unfold P_num at hn
  refine v_C_like ?_
  repeat' (first | (refine And.intro (by omega) ?_) | apply And.intro | intro _ | omega)
  all_goals (try (refine v_M_like ?_))
  all_goals repeat' (first | (refine And.intro (by omega) ?_) | apply And.intro | intro _ | omega)
  all_goals (try exact Bth.mk rfl hI (Kp.rfl' _))
  -- the reference
  have R : c_M_like d a b e f mi (fun z' m2 => Bth (lkA (mi 135) a b e f (mi 135 0).toNat) z' mi m2) := by
    refine v_M_like ?_
    repeat' (first | (refine And.intro (by omega) ?_) | apply And.intro | intro _ | omega)
    generalize hz : lkA (mi 135) a b e f (mi 135 0).toNat = z
    have I : ∀ s : Int, 0 ≤ s → s < mi 135 0 → ∀ x : Int, h_M_like_50 d a b e f (lkS (mi 135) s a b e f x (mi 135 (16 + 17 * s).toNat).toNat) (s + 1) mi (fun z' m2 => Bth z z' mi m2) → ∀ k : Int, k ≤ mi 135 (16 + 17 * s).toNat → 0 ≤ k → h_M_like_64 d a b e f (lkS (mi 135) s a b e f x k.toNat) s k mi (fun z' m2 => Bth z z' mi m2) := by
      intro s s0 s1 x hc
      obtain ⟨g1, g2, g3, g4⟩ := h2 s s0 s1 (by omega)
      refine upto _ (fun k hk ih k0 => ?_)
      have ih := fun q => ih q (by omega)
      rw [show (k + 1).toNat = k.toNat + 1 by omega] at ih
      simp only [lkS] at ih
      rw [show ((k.toNat : Nat) : Int) = k by omega] at ih
      have Y : k < mi 135 (16 + 17 * s).toNat → agr (mi 135) s k a b e f → h_M_like_154 d a b e f (lkS (mi 135) s a b e f x k.toNat) s k 1 mi (fun z' m2 => Bth z z' mi m2) := fun q w => v_M_like_154 ⟨fun z => by omega, fun z => ⟨by omega, by have := ih q; rw [if_pos w] at this; exact this⟩⟩
      have N : k < mi 135 (16 + 17 * s).toNat → ¬ agr (mi 135) s k a b e f → h_M_like_154 d a b e f (lkS (mi 135) s a b e f x k.toNat) s k 0 mi (fun z' m2 => Bth z z' mi m2) := fun q w => v_M_like_154 ⟨fun z => ⟨by omega, by have := ih q; rw [if_neg w] at this; exact this⟩, fun z => absurd rfl z⟩
      have F129 : k < mi 135 (16 + 17 * s).toNat → (a = -1 ∨ rmk (mi 135) s k 0 = a) → (b = -1 ∨ rmk (mi 135) s k 1 = b) → (e = -1 ∨ rmk (mi 135) s k 2 = e) → h_M_like_129 d a b e f (lkS (mi 135) s a b e f x k.toNat) s k mi (fun z' m2 => Bth z z' mi m2) := fun q wa wb we => v_M_like_129 ⟨fun z => Y q ⟨wa, wb, we, Or.inl z⟩, fun z => ⟨by omega, fun z2 => N q (fun w => w.2.2.2.elim z z2), fun z2 => Y q ⟨wa, wb, we, Or.inr z2⟩⟩⟩
      have F111 : k < mi 135 (16 + 17 * s).toNat → (a = -1 ∨ rmk (mi 135) s k 0 = a) → (b = -1 ∨ rmk (mi 135) s k 1 = b) → h_M_like_111 d a b e f (lkS (mi 135) s a b e f x k.toNat) s k mi (fun z' m2 => Bth z z' mi m2) := fun q wa wb => v_M_like_111 ⟨fun z => F129 q wa wb (Or.inl z), fun z => ⟨by omega, fun z2 => N q (fun w => w.2.2.1.elim z z2), fun z2 => F129 q wa wb (Or.inr z2)⟩⟩
      have F93 : k < mi 135 (16 + 17 * s).toNat → (a = -1 ∨ rmk (mi 135) s k 0 = a) → h_M_like_93 d a b e f (lkS (mi 135) s a b e f x k.toNat) s k mi (fun z' m2 => Bth z z' mi m2) := fun q wa => v_M_like_93 ⟨fun z => F111 q wa (Or.inl z), fun z => ⟨by omega, fun z2 => N q (fun w => w.2.1.elim z z2), fun z2 => F111 q wa (Or.inr z2)⟩⟩
      refine v_M_like_64 ⟨by omega, fun q => ⟨by omega, by rw [show k = mi 135 (16 + 17 * s).toNat by omega]; exact hc⟩, fun q => ⟨fun z => F93 q (Or.inl z), fun z => ⟨by omega, fun z2 => N q (fun w => w.1.elim z z2), fun z2 => F93 q (Or.inr z2)⟩⟩⟩
    have O : ∀ s : Int, s ≤ mi 135 0 → 0 ≤ s → h_M_like_50 d a b e f (lkA (mi 135) a b e f s.toNat) s mi (fun z' m2 => Bth z z' mi m2) := by
      refine upto _ (fun s hs ih s0 => ?_)
      refine v_M_like_50 ⟨fun q => Bth.mk (by rw [← hz, show s = mi 135 0 by omega]) hI (Kp.rfl' _), fun q => ?_⟩
      have ih := ih q (by omega)
      rw [show (s + 1).toNat = s.toNat + 1 by omega] at ih
      simp only [lkA] at ih
      rw [show ((s.toNat : Nat) : Int) = s by omega] at ih
      have g := h2 s s0 q (by omega)
      exact I s s0 q _ ih 0 (by omega) (by omega)
    exact O 0 (by omega) (by omega)
  -- the class
  have I : ∀ {P : Int → MT → Prop} (s : Int), 0 ≤ s → s < mi 135 0 → ∀ x : Int, h_B_alike_6 (d - 1) a b e f (lkS (mi 135) s a b e f x (mi 135 (16 + 17 * s).toNat).toNat) (s + 1) mi P → ∀ k : Int, k ≤ mi 135 (16 + 17 * s).toNat → 0 ≤ k → h_B_alike_18 (d - 1) a b e f (lkS (mi 135) s a b e f x k.toNat) s k mi P := by
    intro P s s0 s1 x hc
    obtain ⟨g1, g2, g3, g4⟩ := h2 s s0 s1 (by omega)
    refine upto _ (fun k hk ih k0 => ?_)
    have ih := fun q => ih q (by omega)
    rw [show (k + 1).toNat = k.toNat + 1 by omega] at ih
    simp only [lkS] at ih
    rw [show ((k.toNat : Nat) : Int) = k by omega] at ih
    refine v_B_alike_18 ⟨by omega, fun q => ⟨by omega, by rw [show k = mi 135 (16 + 17 * s).toNat by omega]; exact hc⟩, fun q => ?_⟩
    have A := sgn_at h2 (by omega) ⟨s0, s1⟩ ⟨k0, q⟩
    have ih := ih (by omega)
    rw [A.2.1 0 (by decide) (by decide), A.2.1 1 (by decide) (by decide), A.2.1 2 (by decide) (by decide), A.2.1 3 (by decide) (by decide)]
    refine ⟨by omega, fun z => ⟨by omega, ?_⟩, fun z => ⟨fun z2 => ⟨by omega, ?_⟩, fun z2 => ⟨fun z3 => ⟨by omega, ?_⟩, fun z3 => ⟨fun z4 => ⟨by omega, ?_⟩, fun z4 => ⟨by omega, ?_⟩⟩⟩⟩⟩
    · rw [if_neg (fun w => z w.1)] at ih; exact ih
    · rw [if_neg (fun w => z2 w.2.1)] at ih; exact ih
    · rw [if_neg (fun w => z3 w.2.2.1)] at ih; exact ih
    · rw [if_neg (fun w => z4 w.2.2.2)] at ih; exact ih
    · rw [if_pos ⟨z, z2, z3, z4⟩] at ih; exact ih
  have O : ∀ s : Int, s ≤ mi 135 0 → 0 ≤ s → h_B_alike_6 (d - 1) a b e f (lkA (mi 135) a b e f s.toNat) s mi (fun z1 m1 => c_M_like d a b e f m1 (fun z' m2 => Bth z1 z' mi m2)) := by
    refine upto _ (fun s hs ih s0 => ?_)
    refine v_B_alike_6 ⟨fun q => by rw [show s = mi 135 0 by omega]; exact R, fun q => ?_⟩
    have ih := ih (by omega) (by omega)
    rw [show (s + 1).toNat = s.toNat + 1 by omega] at ih
    simp only [lkA] at ih
    rw [show ((s.toNat : Nat) : Int) = s by omega] at ih
    have g := h2 s s0 (by omega) (by omega)
    exact I s s0 (by omega) _ ih 0 (by omega) (by omega)
  exact v_B_alike (O 0 (by omega) (by omega))
end BOOK
