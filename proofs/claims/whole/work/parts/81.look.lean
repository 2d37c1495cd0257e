section LOOK
variable {d : Nat} {mi : MT} {c : Nat → Int}
theorem mul_in {x y X Y : Int} (hx : 0 ≤ x ∧ x ≤ X) (hy : 0 ≤ y ∧ y ≤ Y) : 0 ≤ x * y ∧ x * y ≤ X * Y :=
  ⟨Int.mul_nonneg hx.1 hy.1, Int.mul_le_mul hx.2 hy.2 hy.1 (by omega)⟩
/-- what one mark of a state costs at a frame of a span -/
def KM (c : Nat → Int) (fr kn f m v : Int) : Int := if joinF c (fr + f) m kn = -1 then 0 else c (8 + m).toNat * dst c m (joinF c (fr + f) m kn) v
def KF (c : Nat → Int) (fr kn f s : Int) : Int := KM c fr kn f 0 (mkv s 0) + KM c fr kn f 1 (mkv s 1) + KM c fr kn f 2 (mkv s 2) + KM c fr kn f 3 (mkv s 3)
theorem KM_in {xs ys w wo sl da ma : Nat → Int} (h3 : P_xy xs ys c) (h4 : P_w w c) (h6 : P_si wo sl da ma c) {fr kn f m v : Int} (hm : 0 ≤ m ∧ m < 4) (hv : 0 ≤ v ∧ v < mxv m) : 0 ≤ KM c fr kn f m v ∧ KM c fr kn f m v ≤ 800 := by
  unfold KM
  split
  · omega
  · have j := joinF_in h6 (f := fr + f) (kn := kn) hm
    have e := dst_in h3 (m := m) (a := joinF c (fr + f) m kn) (b := v) hm (by omega) hv
    have g := h4 m hm.1 hm.2
    exact mul_in (X := 20) (Y := 40) (by omega) e
theorem KF_in {xs ys w wo sl da ma : Nat → Int} (h3 : P_xy xs ys c) (h4 : P_w w c) (h6 : P_si wo sl da ma c) {fr kn f s : Int} (hs : okSt s) : 0 ≤ KF c fr kn f s ∧ KF c fr kn f s ≤ 3200 := by
  have g0 := KM_in h3 h4 h6 (fr := fr) (kn := kn) (f := f) (m := 0) (by omega) (hs.2 0 (by omega) (by omega))
  have g1 := KM_in h3 h4 h6 (fr := fr) (kn := kn) (f := f) (m := 1) (by omega) (hs.2 1 (by omega) (by omega))
  have g2 := KM_in h3 h4 h6 (fr := fr) (kn := kn) (f := f) (m := 2) (by omega) (hs.2 2 (by omega) (by omega))
  have g3 := KM_in h3 h4 h6 (fr := fr) (kn := kn) (f := f) (m := 3) (by omega) (hs.2 3 (by omega) (by omega))
  unfold KF
  omega
/-- the reference: what is joined of each frame -/
def LKM (m : MT) (c : Nat → Int) (fr kn n : Int) : Prop := m 134 40 = n ∧ ∀ f : Int, 0 ≤ f → f < n → ∀ k : Int, 0 ≤ k → k < 4 → m 159 (4 * f + k).toNat = joinF c (fr + f) k kn
theorem s_M_lays {P : MT → Prop} {a b kn : Int} (hd : 2 < d) (h6 : 0 ≤ mi 135 1 ∧ mi 135 1 ≤ 120) (hf : 0 ≤ a ∧ a ≤ b ∧ b < 20) (h : ∀ t : Nat → Int, LKM (sv (wt mi 134 40 (b - a + 1)) 159 t) (mi 135) a kn (b - a + 1) → P (sv (wt mi 134 40 (b - a + 1)) 159 t)) : c_M_lays d a b kn mi P := by
  refine v_M_lays ⟨by omega, ?_⟩
  have e40 : ∀ t : Nat → Int, (sv (wt mi 134 40 (b - a + 1)) 159 t) 134 40 = b - a + 1 := fun t => by show (wt mi 134 40 _) 134 40 = _; exact wt_same _ _ _ _
  have L : ∀ i : Int, i ≤ b - a + 1 → 0 ≤ i → ∀ t : Nat → Int, (∀ f : Int, 0 ≤ f → f < i → ∀ k : Int, 0 ≤ k → k < 4 → t (4 * f + k).toNat = joinF (mi 135) (a + f) k kn) → h_M_lays_12 d a b kn i (sv (wt mi 134 40 (b - a + 1)) 159 t) P := by
    refine upto _ (fun i hi ih i0 t t1 => ?_)
    refine v_M_lays_12 ?_
    rw [e40]
    refine ⟨fun q => h t ⟨e40 t, fun f f0 f1 k k0 k1 => t1 f f0 (by omega) k k0 k1⟩, fun q => ?_⟩
    have L2 : ∀ k : Int, k ≤ 4 → 0 ≤ k → ∀ t : Nat → Int, (∀ f : Int, 0 ≤ f → f < i → ∀ k : Int, 0 ≤ k → k < 4 → t (4 * f + k).toNat = joinF (mi 135) (a + f) k kn) → (∀ j : Int, 0 ≤ j → j < k → t (4 * i + j).toNat = joinF (mi 135) (a + i) j kn) → h_M_lays_24 d a b kn i k (sv (wt mi 134 40 (b - a + 1)) 159 t) P := by
      refine upto _ (fun k hk ihk k0 t t1 t2 => ?_)
      refine v_M_lays_24 ⟨fun q4 => ⟨by omega, ih q (by omega) t (fun f f0 f1 j j0 j1 => ?_)⟩, fun q4 => ⟨by omega, ?_⟩⟩
      · by_cases e : f = i
        · subst e; exact t2 j j0 (by omega)
        · exact t1 f f0 (by omega) j j0 j1
      · refine s_M_joinedOf (by omega) h6 (by omega) ⟨by omega, ?_⟩
        rw [wt_sv]
        refine ihk q4 (by omega) _ (fun f f0 f1 j j0 j1 => by rw [svn _ _ (by omega)]; exact t1 f f0 f1 j j0 j1) (fun j j0 j1 => ?_)
        by_cases e : j = k
        · subst e; rw [sv_eq]; rfl
        · rw [svn _ _ (by omega)]; exact t2 j j0 (by omega)
    exact L2 0 (by omega) (by omega) t t1 (fun j a b => by omega)
  have := L 0 (by omega) (by omega) (mi 159) (fun f a b => by omega)
  have e : (wt mi 134 40 (b - a + 1)) 159 = mi 159 := rfl
  rw [← e, sv_self] at this
  exact this
theorem s_M_costOf {P : Int → MT → Prop} {xs ys w wo sl da ma : Nat → Int} {fr kn n f s x : Int} (hd : 2 < d) (h3 : P_xy xs ys c) (h4 : P_w w c) (h6 : P_si wo sl da ma c) (hc : mi 135 = c) (hL : LKM mi c fr kn n) (hf : 0 ≤ f ∧ f < n ∧ n ≤ 20) (hs : 0 ≤ s ∧ s < 4) (hx : okSt x) (hm : ∀ j : Int, 0 ≤ j → j < 4 → mi 158 (4 * s + j).toNat = mkv x j) (h : P (KF c fr kn f x) mi) : c_M_costOf d f s mi P := by
  have st : ∀ (k z : Int), 0 ≤ k → k < 4 → (0 ≤ z ∧ z ≤ 2400) → h_M_costOf_5 d f s (z + KM c fr kn f k (mkv x k)) (k + 1) mi P → h_M_costOf_5 d f s z k mi P := by
    intro k z k0 k1 hz g
    have e1 := hL.2 f hf.1 hf.2.1 k k0 k1
    have e2 := hm k k0 k1
    have jn := joinF_in h6 (f := fr + f) (kn := kn) (m := k) ⟨k0, k1⟩
    have mk := hx.2 k k0 k1
    have kb := KM_in h3 h4 h6 (fr := fr) (kn := kn) (f := f) ⟨k0, k1⟩ mk
    refine v_M_costOf_5 ⟨fun q => by omega, fun q => ⟨by omega, ?_⟩⟩
    rw [e1, e2]
    refine ⟨fun q2 => ⟨by omega, ?_⟩, fun q2 => ⟨by omega, s_M_apart (xs := xs) (ys := ys) (by omega) (by rw [hc]; exact h3) ⟨k0, k1⟩ mk (by omega) ?_⟩⟩
    · unfold KM at g; rw [if_pos q2, Int.add_zero] at g; exact g
    · rw [hc, dst_sym]
      unfold KM at g kb
      rw [if_neg q2] at g kb
      exact ⟨by omega, g⟩
  have b0 := KM_in h3 h4 h6 (fr := fr) (kn := kn) (f := f) (m := 0) (by omega) (hx.2 0 (by omega) (by omega))
  have b1 := KM_in h3 h4 h6 (fr := fr) (kn := kn) (f := f) (m := 1) (by omega) (hx.2 1 (by omega) (by omega))
  have b2 := KM_in h3 h4 h6 (fr := fr) (kn := kn) (f := f) (m := 2) (by omega) (hx.2 2 (by omega) (by omega))
  refine v_M_costOf (st 0 0 (by omega) (by omega) (by omega) (st (0 + 1) _ (by omega) (by omega) (by omega) (st (0 + 1 + 1) _ (by omega) (by omega) ?_ (st (0 + 1 + 1 + 1) _ (by omega) (by omega) ?_ (v_M_costOf_5 ⟨fun _ => ?_, fun q => by omega⟩)))))
  · show 0 ≤ 0 + KM c fr kn f 0 (mkv x 0) + KM c fr kn f 1 (mkv x 1) ∧ 0 + KM c fr kn f 0 (mkv x 0) + KM c fr kn f 1 (mkv x 1) ≤ 2400; omega
  · show 0 ≤ 0 + KM c fr kn f 0 (mkv x 0) + KM c fr kn f 1 (mkv x 1) + KM c fr kn f 2 (mkv x 2) ∧ 0 + KM c fr kn f 0 (mkv x 0) + KM c fr kn f 1 (mkv x 1) + KM c fr kn f 2 (mkv x 2) ≤ 2400; omega
  · have e : 0 + KM c fr kn f 0 (mkv x 0) + KM c fr kn f (0 + 1) (mkv x (0 + 1)) + KM c fr kn f (0 + 1 + 1) (mkv x (0 + 1 + 1)) + KM c fr kn f (0 + 1 + 1 + 1) (mkv x (0 + 1 + 1 + 1)) = KF c fr kn f x := by
      show 0 + KM c fr kn f 0 (mkv x 0) + KM c fr kn f 1 (mkv x 1) + KM c fr kn f 2 (mkv x 2) + KM c fr kn f 3 (mkv x 3) = KF c fr kn f x
      unfold KF; omega
    rw [e]; exact h
/-- powers of 3, and what is left of a shape behind some fingers -/
def p3 : Nat → Int
  | 0 => 1
  | n + 1 => 3 * p3 n
def rs (x : Int) : Nat → Int
  | 0 => x
  | n + 1 => rs x n / 3
theorem rs_3 (x : Int) : ∀ n : Nat, rs (x / 3) n = rs x (n + 1) := by
  intro n
  induction n with
  | zero => rfl
  | succ n ih => show rs (x / 3) n / 3 = rs x (n + 1) / 3; rw [ih]
theorem p3_pos : ∀ n : Nat, 1 ≤ p3 n := by
  intro n
  induction n with
  | zero => simp [p3]
  | succ n ih => simp only [p3]; omega
theorem bndF_add : ∀ (n : Nat) (x b i : Int), (0 ≤ b ∧ b < 3) → (0 ≤ i ∧ i < p3 n) → bndF x (b * p3 n + i) (n + 1) = bndF x i n + ab (rs x n % 3 - b) := by
  intro n
  induction n with
  | zero =>
    intro x b i hb hi
    simp only [p3] at hi
    have e : b * p3 0 + i = b := by simp only [p3]; omega
    rw [e]
    have e2 : b % 3 = b := by omega
    simp only [bndF, rs]
    rw [e2]; omega
  | succ n ih =>
    intro x b i hb hi
    simp only [p3] at hi
    have e : b * p3 (n + 1) + i = 3 * (b * p3 n) + i := by simp only [p3]; rw [Int.mul_left_comm]
    rw [e]
    have e1 : (3 * (b * p3 n) + i) % 3 = i % 3 := by omega
    have e2 : (3 * (b * p3 n) + i) / 3 = b * p3 n + i / 3 := by omega
    show ab (x % 3 - (3 * (b * p3 n) + i) % 3) + bndF (x / 3) ((3 * (b * p3 n) + i) / 3) (n + 1) = ab (x % 3 - i % 3) + bndF (x / 3) (i / 3) n + ab (rs x (n + 1) % 3 - b)
    rw [e1, e2, ih (x / 3) b (i / 3) hb (by omega), rs_3]; omega
/-- one bend's shapes -/
theorem ss_in {P : MT → Prop} {b0 se w q re fi sb B o ap : Int} {t0 : Nat → Int} (hd : 1 < d) (hb : 0 ≤ b0 ∧ b0 + 3 * q ≤ 6240) (hq : 1 ≤ q) (hB : (B = 0 ∧ o = 0) ∨ (B = 1 ∧ o = q) ∨ (B = 2 ∧ o = 2 * q)) (ha : 0 ≤ ap ∧ ap ≤ 1000) (h0 : ∀ i : Int, 0 ≤ i → i < q → 0 ≤ t0 (b0 + i).toNat ∧ t0 (b0 + i).toNat ≤ 1000) (h : ∀ t : Nat → Int, (∀ i : Int, 0 ≤ i → i < q → t (b0 + o + i).toNat = t0 (b0 + i).toNat + ap) → (∀ j : Nat, ¬ (b0 + o ≤ j ∧ (j : Int) < b0 + o + q) → t j = t0 j) → h_Fr_spreadShapes_30 d b0 se w q re fi sb (B + (-1)) (sv mi 104 t) P) : h_Fr_spreadShapes_50 d b0 se w q re fi sb B ap 0 (sv mi 104 t0) P := by
  have eo : B * q = o := by rcases hB with ⟨rfl, rfl⟩ | ⟨rfl, rfl⟩ | ⟨rfl, rfl⟩ <;> omega
  have L : ∀ i : Int, i ≤ q → 0 ≤ i → ∀ t : Nat → Int, (∀ k : Int, 0 ≤ k → k < i → t (b0 + o + k).toNat = t0 (b0 + k).toNat + ap) → (∀ j : Nat, ¬ (b0 + o ≤ j ∧ (j : Int) < b0 + o + i) → t j = t0 j) → h_Fr_spreadShapes_50 d b0 se w q re fi sb B ap i (sv mi 104 t) P := by
    refine upto _ (fun i hi ih i0 t t1 t2 => ?_)
    refine v_Fr_spreadShapes_50 ?_
    rw [eo]
    refine ⟨fun g => ⟨by omega, h t (fun k k0 k1 => t1 k k0 (by omega)) (fun j hj => t2 j (by omega))⟩, fun g => ?_⟩
    have er : (sv mi 104 t) 104 (b0 + i).toNat = t0 (b0 + i).toNat := by
      show t (b0 + i).toNat = _
      exact t2 _ (by omega)
    have bd := h0 i i0 g
    rw [er]
    refine ⟨by omega, ?_⟩
    rw [wt_sv]
    refine ih g (by omega) _ (fun k k0 k1 => ?_) (fun j hj => by rw [svn _ _ (by omega)]; exact t2 j (by omega))
    by_cases e : k = i
    · subst e; rw [sv_eq]
    · rw [svn _ _ (by omega)]; exact t1 k k0 (by omega)
  exact L 0 (by omega) (by omega) t0 (fun k a b => by omega) (fun _ _ => rfl)
/-- one finger's shapes -/
theorem ss_fi {P : MT → Prop} {b0 se w q re fi sb : Int} {t0 : Nat → Int} (hd : 1 < d) (hb : 0 ≤ b0 ∧ b0 + 3 * q ≤ 6240) (hq : 1 ≤ q) (hs : 0 ≤ sb ∧ sb < 3) (hw : 0 ≤ w ∧ w ≤ 20) (hfi : 0 ≤ fi ∧ fi < 5) (h0 : ∀ i : Int, 0 ≤ i → i < q → 0 ≤ t0 (b0 + i).toNat ∧ t0 (b0 + i).toNat ≤ 1000) (h : ∀ t : Nat → Int, (∀ b : Int, 0 ≤ b → b < 3 → ∀ i : Int, 0 ≤ i → i < q → t (b0 + b * q + i).toNat = t0 (b0 + i).toNat + w * ab (b - sb)) → (∀ j : Nat, ¬ (b0 ≤ j ∧ (j : Int) < b0 + 3 * q) → t j = t0 j) → h_Fr_spreadShapes_9 d b0 se w (q * 3) re (fi + 1) (sv mi 104 t) P) : h_Fr_spreadShapes_30 d b0 se w q re fi sb 2 (sv mi 104 t0) P := by
  have ap : ∀ b : Int, 0 ≤ b → b < 3 → 0 ≤ w * ab (b - sb) ∧ w * ab (b - sb) ≤ 40 := fun b b0 b1 => mul_in (X := 20) (Y := 2) hw (by unfold ab; split <;> omega)
  have a2 := ap 2 (by omega) (by omega)
  have a1 := ap 1 (by omega) (by omega)
  have a0 := ap 0 (by omega) (by omega)
  refine v_Fr_spreadShapes_30 ⟨fun g => by omega, fun _ => ⟨by omega, ss_in (o := 2 * q) hd hb hq (by omega) (by omega) h0 (fun t2 x2 y2 => ?_)⟩⟩
  have z2 : ∀ i : Int, 0 ≤ i → i < q → t2 (b0 + i).toNat = t0 (b0 + i).toNat := fun i i0 i1 => y2 _ (by omega)
  refine v_Fr_spreadShapes_30 ⟨fun g => by omega, fun _ => ⟨?_, ?_⟩⟩
  · show _ ∧ _; exact (by have := a1; rw [show (2 : Int) + (-1) = 1 from rfl]; omega)
  refine ss_in (B := 2 + (-1)) (o := q) hd hb hq (by omega) (by show 0 ≤ w * ab (1 - sb) ∧ w * ab (1 - sb) ≤ 1000; omega) (fun i i0 i1 => by rw [z2 i i0 i1]; exact h0 i i0 i1) (fun t1 x1 y1 => ?_)
  have z1 : ∀ i : Int, 0 ≤ i → i < q → t1 (b0 + i).toNat = t0 (b0 + i).toNat := fun i i0 i1 => by rw [y1 _ (by omega)]; exact z2 i i0 i1
  refine v_Fr_spreadShapes_30 ⟨fun g => by omega, fun _ => ⟨?_, ?_⟩⟩
  · show _ ∧ _; exact (by have := a0; rw [show (2 : Int) + (-1) + (-1) = 0 from rfl]; omega)
  refine ss_in (B := 2 + (-1) + (-1)) (o := 0) hd hb hq (by omega) (by show 0 ≤ w * ab (0 - sb) ∧ w * ab (0 - sb) ≤ 1000; omega) (fun i i0 i1 => by rw [z1 i i0 i1]; exact h0 i i0 i1) (fun t x0 y0 => ?_)
  refine v_Fr_spreadShapes_30 ⟨fun _ => ⟨by omega, h t (fun b hb0 hb1 i i0 i1 => ?_) (fun j hj => by rw [y0 j (by omega), y1 j (by omega), y2 j (by omega)])⟩, fun g => by omega⟩
  have eb : b = 0 ∨ b = 1 ∨ b = 2 := by omega
  rcases eb with rfl | rfl | rfl
  · have := x0 i i0 i1
    rw [show b0 + 0 * q + i = b0 + 0 + i by omega, this, z1 i i0 i1]; rfl
  · rw [show b0 + 1 * q + i = b0 + q + i by omega, y0 _ (by omega), x1 i i0 i1, z2 i i0 i1]; rfl
  · rw [y0 _ (by omega), y1 _ (by omega), x2 i i0 i1]
theorem s_Fr_spreadShapes {P : MT → Prop} {b0 se w : Int} {t0 : Nat → Int} (hd : 1 < d) (hb : 0 ≤ b0 ∧ b0 + 243 ≤ 6240) (hs : 0 ≤ se ∧ se < 243) (hw : 0 ≤ w ∧ w ≤ 20) (hz : t0 b0.toNat = 0) (h : ∀ t : Nat → Int, (∀ v : Int, 0 ≤ v → v < 243 → t (b0 + v).toNat = w * bndF se v 5) → (∀ j : Nat, ¬ (b0 ≤ j ∧ (j : Int) < b0 + 243) → t j = t0 j) → P (sv mi 104 t)) : c_Fr_spreadShapes d b0 se w (sv mi 104 t0) P := by
  have rin : ∀ n : Nat, 0 ≤ rs se n ∧ rs se n < 243 := by
    intro n
    induction n with
    | zero => exact hs
    | succ n ih => show 0 ≤ rs se n / 3 ∧ rs se n / 3 < 243; omega
  have S : ∀ n : Nat, n < 5 → p3 (n + 1) ≤ 243 → (∀ t : Nat → Int, (∀ v : Int, 0 ≤ v → v < p3 (n + 1) → t (b0 + v).toNat = w * bndF se v (n + 1)) → (∀ j : Nat, ¬ (b0 ≤ j ∧ (j : Int) < b0 + 243) → t j = t0 j) → h_Fr_spreadShapes_9 d b0 se w (p3 (n + 1)) (rs se (n + 1)) ((n : Int) + 1) (sv mi 104 t) P) → ∀ t : Nat → Int, (∀ v : Int, 0 ≤ v → v < p3 n → t (b0 + v).toNat = w * bndF se v n) → (∀ j : Nat, ¬ (b0 ≤ j ∧ (j : Int) < b0 + 243) → t j = t0 j) → h_Fr_spreadShapes_9 d b0 se w (p3 n) (rs se n) (n : Int) (sv mi 104 t) P := by
    intro n hn hp g t t1 t2
    have pp := p3_pos n
    have p1 : p3 (n + 1) = 3 * p3 n := rfl
    have rn := rin n
    refine v_Fr_spreadShapes_9 ⟨fun q => by omega, fun _ => ⟨by omega, ?_⟩⟩
    refine ss_fi hd (by omega) pp (by omega) hw (by omega) (fun i i0 i1 => ?_) (fun t' x y => ?_)
    · rw [t1 i i0 i1]
      have := bndF_in n se i
      have := mul_in (x := w) (y := bndF se i n) (X := 20) (Y := 10) hw (by omega)
      omega
    · rw [show p3 n * 3 = p3 (n + 1) by rw [p1]; omega]
      refine g t' (fun v v0 v1 => ?_) (fun j hj => by rw [y j (by omega)]; exact t2 j hj)
      rw [p1] at v1
      have hb3 : ∃ b i : Int, (0 ≤ b ∧ b < 3) ∧ (0 ≤ i ∧ i < p3 n) ∧ v = b * p3 n + i := by
        by_cases c0 : v < p3 n
        · exact ⟨0, v, by omega, by omega, by omega⟩
        · by_cases c1 : v < 2 * p3 n
          · exact ⟨1, v - p3 n, by omega, by omega, by omega⟩
          · exact ⟨2, v - 2 * p3 n, by omega, by omega, by omega⟩
      obtain ⟨b, i, hb', hi, rfl⟩ := hb3
      rw [← Int.add_assoc, x b hb'.1 hb'.2 i hi.1 hi.2, t1 i hi.1 hi.2, bndF_add n se b i hb' hi, ab_sym b, ← Int.mul_add]
  refine v_Fr_spreadShapes ?_
  refine S 0 (by decide) (by decide) (S 1 (by decide) (by decide) (S 2 (by decide) (by decide) (S 3 (by decide) (by decide) (S 4 (by decide) (by decide) (fun t t1 t2 => v_Fr_spreadShapes_9 ⟨fun _ => h t t1 t2, fun q => by omega⟩))))) t0 (fun v v0 v1 => ?_) (fun _ _ => rfl)
  have : v = 0 := by simp only [p3] at v1; omega
  subst this
  rw [Int.add_zero, hz]
  simp only [bndF, Int.mul_zero]
end LOOK
