theorem svg {α : Type} (f : Nat → α) (k : Nat) (a b : α) : sv (sv f k a) k b = sv f k b := by funext j; unfold sv; split <;> rfl
theorem sv_comm1 {α : Type} (f : Nat → α) {a b : Nat} (h : a ≠ b) (s t : α) : sv (sv f a s) b t = sv (sv f b t) a s := by
  funext j; unfold sv
  by_cases e1 : j = a <;> by_cases e2 : j = b <;> simp_all
theorem mkv_dec {x : Int} (hx : 0 ≤ x ∧ x < 1048576) : x = mkv x 0 + 256 * mkv x 1 + 8192 * mkv x 2 + 65536 * mkv x 3 ∧ (0 ≤ mkv x 0 ∧ mkv x 0 < 256) ∧ (0 ≤ mkv x 1 ∧ mkv x 1 < 32) ∧ (0 ≤ mkv x 2 ∧ mkv x 2 < 8) ∧ (0 ≤ mkv x 3 ∧ mkv x 3 < 16) := by
  have e0 : mkv x 0 = x % 256 := rfl
  have e1 : mkv x 1 = x / 256 % 32 := rfl
  have e2 : mkv x 2 = x / 8192 % 8 := rfl
  have e3 : mkv x 3 = x / 65536 % 16 := rfl
  have q2 : x / 8192 = x / 256 / 32 := by omega
  have q3 : x / 65536 = x / 256 / 32 / 8 := by omega
  rw [e0, e1, e2, e3, q2, q3]
  omega
theorem mkv_enc {a b c e : Int} (ha : 0 ≤ a ∧ a < 256) (hb : 0 ≤ b ∧ b < 32) (hc : 0 ≤ c ∧ c < 8) (he : 0 ≤ e ∧ e < 16) : (0 ≤ a + 256 * b + 8192 * c + 65536 * e ∧ a + 256 * b + 8192 * c + 65536 * e < 1048576) ∧ mkv (a + 256 * b + 8192 * c + 65536 * e) 0 = a ∧ mkv (a + 256 * b + 8192 * c + 65536 * e) 1 = b ∧ mkv (a + 256 * b + 8192 * c + 65536 * e) 2 = c ∧ mkv (a + 256 * b + 8192 * c + 65536 * e) 3 = e := by
  refine ⟨by omega, ?_, ?_, ?_, ?_⟩
  · show (a + 256 * b + 8192 * c + 65536 * e) % 256 = a; omega
  · show (a + 256 * b + 8192 * c + 65536 * e) / 256 % 32 = b; omega
  · show (a + 256 * b + 8192 * c + 65536 * e) / 8192 % 8 = c; omega
  · show (a + 256 * b + 8192 * c + 65536 * e) / 65536 % 16 = e; omega
/-- a state: one number, its four marks -/
def okSt (x : Int) : Prop := (0 ≤ x ∧ x < 1048576) ∧ ∀ m : Int, 0 ≤ m → m < 4 → 0 ≤ mkv x m ∧ mkv x m < mxv m
theorem wmk_ok {x m v : Int} (hx : okSt x) (hm : 0 ≤ m ∧ m < 4) (hv : 0 ≤ v ∧ v < mxv m) : okSt (wmk x m v) ∧ mkv (wmk x m v) m = v ∧ ∀ k : Int, 0 ≤ k → k < 4 → k ≠ m → mkv (wmk x m v) k = mkv x k := by
  obtain ⟨hx1, hx2⟩ := hx
  obtain ⟨ed, d0, d1, d2, d3⟩ := mkv_dec hx1
  have m0 : mxv 0 = 243 := rfl
  have m1 : mxv 1 = 20 := rfl
  have m2 : mxv 2 = 8 := rfl
  have m3 : mxv 3 = 10 := rfl
  have g0 := hx2 0 (by decide) (by decide)
  have g1 := hx2 1 (by decide) (by decide)
  have g2 := hx2 2 (by decide) (by decide)
  have g3 := hx2 3 (by decide) (by decide)
  have fin : ∀ a b c e : Int, wmk x m v = a + 256 * b + 8192 * c + 65536 * e → (0 ≤ a ∧ a < 243) → (0 ≤ b ∧ b < 20) → (0 ≤ c ∧ c < 8) → (0 ≤ e ∧ e < 10) → (m = 0 → a = v) → (m ≠ 0 → a = mkv x 0) → (m = 1 → b = v) → (m ≠ 1 → b = mkv x 1) → (m = 2 → c = v) → (m ≠ 2 → c = mkv x 2) → (m = 3 → e = v) → (m ≠ 3 → e = mkv x 3) → okSt (wmk x m v) ∧ mkv (wmk x m v) m = v ∧ ∀ k : Int, 0 ≤ k → k < 4 → k ≠ m → mkv (wmk x m v) k = mkv x k := by
    intro a b c e hw ha hb hc he a1 a2 b1 b2 c1 c2 e1 e2
    obtain ⟨w0, w1, w2, w3, w4⟩ := mkv_enc (a := a) (b := b) (c := c) (e := e) (by omega) (by omega) (by omega) (by omega)
    rw [hw]
    have tot : ∀ k : Int, 0 ≤ k → k < 4 → (0 ≤ mkv (a + 256 * b + 8192 * c + 65536 * e) k ∧ mkv (a + 256 * b + 8192 * c + 65536 * e) k < mxv k) ∧ (k = m → mkv (a + 256 * b + 8192 * c + 65536 * e) k = v) ∧ (k ≠ m → mkv (a + 256 * b + 8192 * c + 65536 * e) k = mkv x k) := by
      intro k k0 k4
      have hk4 : k = 0 ∨ k = 1 ∨ k = 2 ∨ k = 3 := by omega
      rcases hk4 with rfl | rfl | rfl | rfl
      · rw [w1, m0]; exact ⟨ha, fun q => a1 q.symm, fun q => a2 (fun z => q z.symm)⟩
      · rw [w2, m1]; exact ⟨hb, fun q => b1 q.symm, fun q => b2 (fun z => q z.symm)⟩
      · rw [w3, m2]; exact ⟨hc, fun q => c1 q.symm, fun q => c2 (fun z => q z.symm)⟩
      · rw [w4, m3]; exact ⟨he, fun q => e1 q.symm, fun q => e2 (fun z => q z.symm)⟩
    exact ⟨⟨w0, fun k k0 k4 => (tot k k0 k4).1⟩, (tot m hm.1 hm.2).2.1 rfl, fun k k0 k4 hk => (tot k k0 k4).2.2 hk⟩
  have hm4 : m = 0 ∨ m = 1 ∨ m = 2 ∨ m = 3 := by omega
  rcases hm4 with rfl | rfl | rfl | rfl
  · have : wmk x 0 v = x - mkv x 0 * 1 + v * 1 := rfl
    exact fin v (mkv x 1) (mkv x 2) (mkv x 3) (by omega) (by omega) (by omega) (by omega) (by omega) (by omega) (by omega) (by omega) (by omega) (by omega) (by omega) (by omega) (by omega)
  · have : wmk x 1 v = x - mkv x 1 * 256 + v * 256 := rfl
    exact fin (mkv x 0) v (mkv x 2) (mkv x 3) (by omega) (by omega) (by omega) (by omega) (by omega) (by omega) (by omega) (by omega) (by omega) (by omega) (by omega) (by omega) (by omega)
  · have : wmk x 2 v = x - mkv x 2 * 8192 + v * 8192 := rfl
    exact fin (mkv x 0) (mkv x 1) v (mkv x 3) (by omega) (by omega) (by omega) (by omega) (by omega) (by omega) (by omega) (by omega) (by omega) (by omega) (by omega) (by omega) (by omega)
  · have : wmk x 3 v = x - mkv x 3 * 65536 + v * 65536 := rfl
    exact fin (mkv x 0) (mkv x 1) (mkv x 2) v (by omega) (by omega) (by omega) (by omega) (by omega) (by omega) (by omega) (by omega) (by omega) (by omega) (by omega) (by omega) (by omega)
theorem okSt_0 : okSt 0 := ⟨by decide, fun m h0 h4 => by
  have : m = 0 ∨ m = 1 ∨ m = 2 ∨ m = 3 := by omega
  rcases this with rfl | rfl | rfl | rfl <;> decide⟩
section SIGN
variable {d : Nat} {mi : MT} {r : Nat → Int} {n T : Int}
/-- the class stands at a place of the text -/
def AT (m : MT) (r : Nat → Int) (n T p : Int) : Prop := (TXT (m 91) r n ∧ m 90 3 = n ∧ TKS r n T (m 92) (m 93)) ∧ (0 ≤ m 94 4 ∧ m 94 4 ≤ T) ∧ m 92 (m 94 4).toNat = p
theorem AT_wd {p : Int} (h : AT mi r n T p) : mi 93 (mi 94 4).toNat = wd r n p ∧ (0 ≤ p ∧ p ≤ n) ∧ (p < n → mi 94 4 < T) ∧ (mi 94 4 < T → p < n ∧ mi 92 (mi 94 4 + 1).toNat = nx r n p) ∧ T ≤ 400 ∧ RB8 r n := by
  obtain ⟨⟨h1, h2, h3⟩, h4, h5⟩ := h
  have rb := TXT_rb h1
  obtain ⟨t1, t2, t3, t4, t5⟩ := h3
  by_cases c : mi 94 4 < T
  · have := t5 (mi 94 4) h4.1 c
    rw [h5] at this
    exact ⟨this.2.2.2, by omega, fun _ => c, fun _ => ⟨this.1.2, this.2.2.1⟩, t1.2, rb⟩
  · have e : mi 94 4 = T := by omega
    rw [e] at h5
    rw [e, t4]
    have : p = n := by rw [← h5]; exact t3
    subst this
    exact ⟨(wd_n r p).symm, ⟨h1.1.1, Int.le_refl _⟩, fun q => absurd q (Int.lt_irrefl _), fun q => absurd q (Int.lt_irrefl _), t1.2, rb⟩
theorem AT_adv {p : Int} (h : AT mi r n T p) (hp : p < n) : AT (wt mi 94 4 (mi 94 4 + 1)) r n T (nx r n p) := by
  obtain ⟨a1, a2, a3, a4, a5, a6⟩ := AT_wd h
  obtain ⟨h1, h4, h5⟩ := h
  refine ⟨h1, ?_, ?_⟩
  · have := a3 hp
    rw [wt_same]; omega
  · rw [wt_same]; exact (a4 (a3 hp)).2
theorem s_G_accepts {P : Bool → MT → Prop} {w p : Int} (hw : w ≠ 300) (hA : AT mi r n T p) (h1 : wd r n p = w → p < n → AT (wt mi 94 4 (mi 94 4 + 1)) r n T (nx r n p) → P true (wt mi 94 4 (mi 94 4 + 1))) (h0 : wd r n p ≠ w → P false mi) : c_G_accepts d w mi P := by
  obtain ⟨a1, a2, a3, a4, a5, a6⟩ := AT_wd hA
  have h4 := hA.2.1
  refine v_G_accepts ?_
  rw [a1]
  refine ⟨by omega, h0, fun q => ⟨fun z => absurd z hw, fun _ => ?_⟩⟩
  have pn : p < n := by
    by_cases c : p < n
    · exact c
    · rw [show p = n by omega, wd_n] at q; omega
  exact ⟨by omega, h1 q pn (AT_adv hA pn)⟩
/-- five bends -/
def is5 (r : Nat → Int) (n p : Int) : Prop := p < n ∧ te r n p - p = 5 ∧ ∀ i : Int, p ≤ i → i < p + 5 → 48 ≤ r i.toNat ∧ r i.toNat ≤ 50
def shF (r : Nat → Int) (p : Int) : Nat → Int
  | 0 => 0
  | k + 1 => 3 * shF r p k + r (p + (k : Int)).toNat - 48
theorem shF_in {p : Int} (h : is5 r n p) : ∀ k : Nat, k ≤ 5 → 0 ≤ shF r p k ∧ shF r p k < 3 ^ k := by
  intro k
  induction k with
  | zero => intro _; simp [shF]
  | succ k ih =>
    intro hk
    have a := ih (by omega)
    have b := h.2.2 (p + k) (by omega) (by omega)
    simp only [shF]
    rw [Int.pow_succ]
    omega
theorem s_T_bends {P : Int → MT → Prop} {p : Int} (hd : 3 < d) (hA : AT mi r n T p) (h1 : is5 r n p → P (shF r p 5) mi) (h0 : ¬ is5 r n p → P (-1) mi) : c_T_bends d (mi 94 4) mi P := by
  obtain ⟨a1, a2, a3, a4, a5, a6⟩ := AT_wd hA
  obtain ⟨⟨hT, hn, hK⟩, h4, h5⟩ := id hA
  refine v_T_bends ?_
  rw [a1, h5]
  refine ⟨by omega, fun q => h0 (fun z => q ((wd_301 a6 a2.1 a2.2).mpr ⟨z.1, kdf_2.mpr (by have := z.2.2 p (by omega) (by omega); omega)⟩)), fun q => ⟨by omega, ?_⟩⟩
  obtain ⟨pn, k2⟩ := (wd_301 a6 a2.1 a2.2).mp q
  have t := te_in (r := r) pn
  have b0 := hT.1
  refine s_T_reach (by omega) hT hn ⟨a2.1, pn⟩ ⟨by omega, fun q2 => ?_, fun q2 => h0 (fun z => q2 z.2.1)⟩
  have dg : ∀ i : Int, p ≤ i → i < p + 5 → (48 ≤ r i.toNat ∧ r i.toNat ≤ 57) ∧ mi 91 i.toNat = r i.toNat := by
    intro i i1 i2
    have e := te_all (r := r) pn i i1 (by omega)
    rw [k2] at e
    have e2 := kdf_2.mp e
    have e3 := hT.2 i (by omega) (by omega)
    refine ⟨e2, ?_⟩
    have := e3.2
    unfold sg8 at this
    split at this <;> omega
  have L : ∀ i : Int, i ≤ p + 5 → p ≤ i → (∀ j : Int, p ≤ j → j < i → r j.toNat ≤ 50) → (0 ≤ shF r p (i - p).toNat ∧ shF r p (i - p).toNat ≤ 1000) → h_T_bends_37 d (mi 94 4) p (shF r p (i - p).toNat) i mi P := by
    refine upto _ (fun i hi ih i0 hj hb => ?_)
    refine v_T_bends_37 ⟨by omega, fun w => ?_, fun w => ?_⟩
    · have i5 : is5 r n p := ⟨pn, q2, fun j j1 j2 => ⟨(dg j j1 j2).1.1, hj j j1 (by omega)⟩⟩
      have := h1 i5
      rw [show (i - p).toNat = 5 by omega]
      exact this
    · have g := dg i i0 w
      rw [g.2]
      refine ⟨by omega, fun y => ⟨by omega, ?_⟩, fun y => h0 (fun z => by have := z.2.2 i i0 w; omega)⟩
      have ih := ih w (by omega) (fun j j1 j2 => by
        by_cases c : j = i
        · rw [c]; exact y
        · exact hj j j1 (by omega))
      rw [show (i + 1 - p).toNat = (i - p).toNat + 1 by omega] at ih
      simp only [shF] at ih
      rw [show p + (((i - p).toNat : Nat) : Int) = i by omega] at ih
      have small : shF r p (i - p).toNat ≤ 242 := by
        have hh : ∀ k : Nat, (k : Int) ≤ i - p → 0 ≤ shF r p k ∧ shF r p k < 3 ^ k := by
          intro k
          induction k with
          | zero => intro _; simp [shF]
          | succ k ih2 =>
            intro hk
            have a := ih2 (by omega)
            have b := hj (p + k) (by omega) (by omega)
            have b2 := (dg (p + k) (by omega) (by omega)).1
            simp only [shF]
            rw [Int.pow_succ]
            omega
        have x := hh (i - p).toNat (by omega)
        have y : (3 : Int) ^ (i - p).toNat ≤ 81 := by
          have : (i - p).toNat = 0 ∨ (i - p).toNat = 1 ∨ (i - p).toNat = 2 ∨ (i - p).toNat = 3 ∨ (i - p).toNat = 4 := by omega
          rcases this with e | e | e | e | e <;> rw [e] <;> decide
        omega
      rw [show shF r p (i - p).toNat * 3 + r i.toNat - 48 = 3 * shF r p (i - p).toNat + r i.toNat - 48 by omega]
      exact ih (by omega)
  have := L p (by omega) (by omega) (fun j p1 p2 => by omega) (by rw [show (p - p).toNat = 0 by omega]; simp [shF])
  rw [show (p - p).toNat = 0 by omega] at this
  exact this
end SIGN
