section TOK2
variable {d : Nat} {mi : MT} {r : Nat → Int} {n : Int}
/-- a text's bytes lie in their range -/
def RB8 (r : Nat → Int) (n : Int) : Prop := ∀ k : Int, 0 ≤ k → k < n → -128 ≤ r k.toNat ∧ r k.toNat < 128
theorem TXT_rb {b r : Nat → Int} {n : Int} (h : TXT b r n) : RB8 r n := fun k a c => by
  have := h.2 k a c
  unfold sg8 at this
  split at this <;> omega
theorem kw_303 (r : Nat → Int) (p z : Int) : kwd r p z = 303 ↔ (z = (([105, 102] : List Int).length : Int) ∧ spl r p [105, 102] = true) := by
  unfold kwd
  simp only [spl, Bool.and_true, Bool.and_eq_true, decide_eq_true_eq, List.length_cons, List.length_nil]
  omega
theorem kw_304 (r : Nat → Int) (p z : Int) : kwd r p z = 304 ↔ (z = (([100, 111] : List Int).length : Int) ∧ spl r p [100, 111] = true) := by
  unfold kwd
  simp only [spl, Bool.and_true, Bool.and_eq_true, decide_eq_true_eq, List.length_cons, List.length_nil]
  omega
theorem kw_305 (r : Nat → Int) (p z : Int) : kwd r p z = 305 ↔ (z = (([111, 114] : List Int).length : Int) ∧ spl r p [111, 114] = true) := by
  unfold kwd
  simp only [spl, Bool.and_true, Bool.and_eq_true, decide_eq_true_eq, List.length_cons, List.length_nil]
  omega
theorem kw_306 (r : Nat → Int) (p z : Int) : kwd r p z = 306 ↔ (z = (([97, 110, 100] : List Int).length : Int) ∧ spl r p [97, 110, 100] = true) := by
  unfold kwd
  simp only [spl, Bool.and_true, Bool.and_eq_true, decide_eq_true_eq, List.length_cons, List.length_nil]
  omega
theorem kw_307 (r : Nat → Int) (p z : Int) : kwd r p z = 307 ↔ (z = (([110, 111, 116] : List Int).length : Int) ∧ spl r p [110, 111, 116] = true) := by
  unfold kwd
  simp only [spl, Bool.and_true, Bool.and_eq_true, decide_eq_true_eq, List.length_cons, List.length_nil]
  omega
theorem kw_308 (r : Nat → Int) (p z : Int) : kwd r p z = 308 ↔ (z = (([115, 101, 116] : List Int).length : Int) ∧ spl r p [115, 101, 116] = true) := by
  unfold kwd
  simp only [spl, Bool.and_true, Bool.and_eq_true, decide_eq_true_eq, List.length_cons, List.length_nil]
  omega
theorem kw_310 (r : Nat → Int) (p z : Int) : kwd r p z = 310 ↔ (z = (([101, 110, 100] : List Int).length : Int) ∧ spl r p [101, 110, 100] = true) := by
  unfold kwd
  simp only [spl, Bool.and_true, Bool.and_eq_true, decide_eq_true_eq, List.length_cons, List.length_nil]
  omega
theorem kw_309 (r : Nat → Int) (p z : Int) : kwd r p z = 309 ↔ (z = (([100, 114, 111, 112] : List Int).length : Int) ∧ spl r p [100, 114, 111, 112] = true) := by
  unfold kwd
  simp only [spl, Bool.and_true, Bool.and_eq_true, decide_eq_true_eq, List.length_cons, List.length_nil]
  omega
theorem kw_314 (r : Nat → Int) (p z : Int) : kwd r p z = 314 ↔ (z = (([116, 117, 114, 110] : List Int).length : Int) ∧ spl r p [116, 117, 114, 110] = true) := by
  unfold kwd
  simp only [spl, Bool.and_true, Bool.and_eq_true, decide_eq_true_eq, List.length_cons, List.length_nil]
  omega
theorem kw_311 (r : Nat → Int) (p z : Int) : kwd r p z = 311 ↔ (z = (([98, 101, 103, 105, 110] : List Int).length : Int) ∧ spl r p [98, 101, 103, 105, 110] = true) := by
  unfold kwd
  simp only [spl, Bool.and_true, Bool.and_eq_true, decide_eq_true_eq, List.length_cons, List.length_nil]
  omega
theorem kw_312 (r : Nat → Int) (p z : Int) : kwd r p z = 312 ↔ (z = (([115, 104, 97, 112, 101] : List Int).length : Int) ∧ spl r p [115, 104, 97, 112, 101] = true) := by
  unfold kwd
  simp only [spl, Bool.and_true, Bool.and_eq_true, decide_eq_true_eq, List.length_cons, List.length_nil]
  omega
theorem kw_313 (r : Nat → Int) (p z : Int) : kwd r p z = 313 ↔ (z = (([112, 108, 97, 99, 101] : List Int).length : Int) ∧ spl r p [112, 108, 97, 99, 101] = true) := by
  unfold kwd
  simp only [spl, Bool.and_true, Bool.and_eq_true, decide_eq_true_eq, List.length_cons, List.length_nil]
  omega
theorem kw_315 (r : Nat → Int) (p z : Int) : kwd r p z = 315 ↔ (z = (([111, 116, 104, 101, 114] : List Int).length : Int) ∧ spl r p [111, 116, 104, 101, 114] = true) := by
  unfold kwd
  simp only [spl, Bool.and_true, Bool.and_eq_true, decide_eq_true_eq, List.length_cons, List.length_nil]
  omega
theorem kw_316 (r : Nat → Int) (p z : Int) : kwd r p z = 316 ↔ (z = (([115, 116, 97, 116, 101, 115] : List Int).length : Int) ∧ spl r p [115, 116, 97, 116, 101, 115] = true) := by
  unfold kwd
  simp only [spl, Bool.and_true, Bool.and_eq_true, decide_eq_true_eq, List.length_cons, List.length_nil]
  omega
theorem wd_in {p : Int} (hR : RB8 r n) (h0 : 0 ≤ p) (hp : p < n) : (kdf (r p.toNat) = 2 ∧ wd r n p = 301) ∨ (kdf (r p.toNat) ≠ 2 ∧ te r n p - p = 1 ∧ wd r n p = u8 (r p.toNat) ∧ 0 ≤ wd r n p ∧ wd r n p < 256) ∨ (kdf (r p.toNat) = 1 ∧ 1 < te r n p - p ∧ wd r n p = kwd r p (te r n p - p) ∧ 302 ≤ wd r n p) := by
  have b := hR p h0 hp
  have t := te_in (r := r) hp
  unfold wd
  rw [if_neg (by omega)]
  by_cases c : kdf (r p.toNat) = 2
  · left; exact ⟨c, by rw [if_pos c]⟩
  · right
    rw [if_neg c]
    by_cases c1 : te r n p - p = 1
    · left; rw [if_pos c1]; refine ⟨c, c1, rfl, ?_⟩; unfold u8; split <;> omega
    · right; rw [if_neg c1]
      have k1 : kdf (r p.toNat) = 1 := by
        have := kdf_in (r p.toNat)
        rcases this with q | q | q
        · exfalso; unfold te at c1; rw [if_pos q] at c1; omega
        · exact q
        · exact absurd q c
      refine ⟨k1, by omega, rfl, ?_⟩
      unfold kwd
      repeat' split
      all_goals decide
theorem wd_n (r : Nat → Int) (n : Int) : wd r n n = 300 := by unfold wd; rw [if_pos (Int.le_refl _)]
theorem wd_300 {p : Int} (hR : RB8 r n) (h0 : 0 ≤ p) (hp : p ≤ n) : wd r n p = 300 ↔ p = n := by
  constructor
  · intro h
    by_cases c : p < n
    · have := wd_in hR h0 c
      omega
    · omega
  · intro h; subst h; exact wd_n r p
theorem wd_301 {p : Int} (hR : RB8 r n) (h0 : 0 ≤ p) (hp : p ≤ n) : wd r n p = 301 ↔ (p < n ∧ kdf (r p.toNat) = 2) := by
  constructor
  · intro h
    by_cases c : p < n
    · have := wd_in hR h0 c
      refine ⟨c, ?_⟩
      rcases this with q | q | q
      · exact q.1
      · omega
      · have e := q.2.2.1
        rw [h] at e
        unfold kwd at e
        exfalso
        repeat' split at e
        all_goals omega
    · rw [show p = n by omega, wd_n] at h; omega
  · intro h
    unfold wd
    rw [if_neg (by omega), if_pos h.2]
/-- a keyword -/
theorem wd_kw {p : Int} {code : Int} {cs : List Int} (hR : RB8 r n) (h0 : 0 ≤ p) (hp : p ≤ n) (hc : 303 ≤ code) (hl : 2 ≤ cs.length) (h1 : ∀ c ∈ cs, 97 ≤ c ∧ c ≤ 122) (hk : ∀ z : Int, kwd r p z = code ↔ (z = cs.length ∧ spl r p cs = true)) : wd r n p = code ↔ (p < n ∧ te r n p - p = cs.length ∧ spl r p cs = true) := by
  constructor
  · intro h
    by_cases c : p < n
    · refine ⟨c, ?_⟩
      rcases wd_in hR h0 c with q | q | q
      · omega
      · omega
      · rw [q.2.2.1] at h; exact (hk _).mp h
    · rw [show p = n by omega, wd_n] at h; omega
  · rintro ⟨c, h2, h3⟩
    unfold wd
    have f : kdf (r p.toNat) ≠ 2 := by
      cases cs with
      | nil => simp at hl
      | cons x xs =>
        simp only [spl, Bool.and_eq_true, decide_eq_true_eq] at h3
        have := h1 x List.mem_cons_self
        rw [h3.1]
        intro e
        have := kdf_2.mp e
        omega
    rw [if_neg (by omega), if_neg f, if_neg (by omega)]
    exact (hk _).mpr ⟨h2, h3⟩
/-- a word of one letter -/
theorem wd_1 {p : Int} {c : Int} (hR : RB8 r n) (h0 : 0 ≤ p) (hp : p ≤ n) (hc : 97 ≤ c ∧ c ≤ 122) : wd r n p = c ↔ (p < n ∧ te r n p - p = ([c] : List Int).length ∧ spl r p [c] = true) := by
  constructor
  · intro h
    by_cases q : p < n
    · have b := hR p h0 q
      refine ⟨q, ?_⟩
      rcases wd_in hR h0 q with w | w | w
      · omega
      · refine ⟨w.2.1, ?_⟩
        have := w.2.2.1
        rw [h] at this
        unfold u8 at this
        simp only [spl, Bool.and_true, decide_eq_true_eq]
        split at this <;> omega
      · omega
    · rw [show p = n by omega, wd_n] at h; omega
  · rintro ⟨q, h2, h3⟩
    simp only [spl, Bool.and_true, decide_eq_true_eq] at h3
    unfold wd
    rw [if_neg (by omega), if_neg (by rw [h3]; intro e; have := kdf_2.mp e; omega), if_pos (show te r n p - p = 1 from h2), h3]
    unfold u8
    rw [if_neg (by omega)]
/-- a sign that stands alone -/
theorem wd_c {p : Int} {c : Int} (hR : RB8 r n) (h0 : 0 ≤ p) (hp : p ≤ n) (hc : (0 ≤ c ∧ c < 128) ∧ kdf c = 0) : wd r n p = c ↔ (p < n ∧ r p.toNat = c) := by
  constructor
  · intro h
    by_cases q : p < n
    · have b := hR p h0 q
      refine ⟨q, ?_⟩
      rcases wd_in hR h0 q with w | w | w
      · omega
      · have := w.2.2.1
        rw [h] at this
        unfold u8 at this
        split at this <;> omega
      · omega
    · rw [show p = n by omega, wd_n] at h; omega
  · rintro ⟨q, h3⟩
    unfold wd te
    rw [if_neg (by omega), h3, hc.2, if_neg (by decide), if_pos rfl, if_pos (by omega)]
    unfold u8
    rw [if_neg (by omega)]
def MST (m : MT) (r : Nat → Int) (n : Int) : Prop := m 134 8 = n ∧ (0 ≤ n ∧ n ≤ 400) ∧ RB8 r n ∧ ∀ k : Int, 0 ≤ k → k < n → m 139 k.toNat = r k.toNat
def MAT (m : MT) (r : Nat → Int) (n p : Int) : Prop := MST m r n ∧ m 134 9 = p ∧ (0 ≤ p ∧ p ≤ n) ∧ m 134 10 = (if p < n then te r n p else n) ∧ (p < n → isSb r p = true)
/-- a place where no token is cut -/
def BD (r : Nat → Int) (n q : Int) : Prop := (0 ≤ q ∧ q ≤ n) ∧ (q < n → ¬ (0 < q ∧ kdf (r q.toNat) ≠ 0 ∧ kdf (r q.toNat) = kdf (r (q - 1).toNat)))
theorem BD_te {p : Int} (h0 : 0 ≤ p) (hp : p < n) : BD r n (te r n p) := by
  have t := te_in (r := r) hp
  refine ⟨by omega, fun q w => ?_⟩
  have e := te_all (r := r) hp (te r n p - 1) (by omega) (by omega)
  rw [e] at w
  exact te_end hp (by rw [← w.2.2]; exact w.2.1) q w.2.2
theorem s_M_next {P : MT → Prop} {q : Int} (hd : 1 < d) (hM : MST mi r n) (hq : mi 134 10 = q) (hB : BD r n q) (h : ∀ u : Nat → Int, (∀ j : Nat, j ≠ 9 → j ≠ 10 → u j = mi 134 j) → MAT (sv mi 134 u) r n (fs r n q) → P (sv mi 134 u)) : c_M_next d mi P := by
  obtain ⟨m1, m2, m3, m4⟩ := hM
  have MS : ∀ u : Nat → Int, (∀ j : Nat, j ≠ 9 → j ≠ 10 → u j = mi 134 j) → MST (sv mi 134 u) r n := fun u hu => ⟨by rw [show (sv mi 134 u) 134 8 = u 8 from rfl, hu 8 (by decide) (by decide)]; exact m1, m2, m3, m4⟩
  -- letters, digits
  have W1 : ∀ p : Int, 0 ≤ p → p < n → isSb r p = true → fs r n q = p → kdf (r p.toNat) = 1 → ∀ e : Int, e ≤ teV r n 1 p → p ≤ e → ∀ u : Nat → Int, (∀ j : Nat, j ≠ 9 → j ≠ 10 → u j = mi 134 j) → u 9 = p → u 10 = e → h_M_next_81 d (sv mi 134 u) P := by
    intro p p0 p1 hS hf k1
    have tv := teV_in (r := r) (n := n) (v := 1) p (by omega)
    refine upto _ (fun e he ih e0 u hu u9 u10 => ?_)
    refine v_M_next_81 ?_
    rw [wt_sv]
    simp only [svc, Nat.reduceEqDiff, reduceIte]
    rw [u10, hu 8 (by decide) (by decide), m1]
    refine ⟨by omega, fun w => h u hu ?_, fun w => ⟨by omega, ih ?_ (by omega) _ (fun j a b => by rw [svn _ _ b]; exact hu j a b) (by rw [svn _ _ (by decide)]; exact u9) (sv_eq _ _ _)⟩⟩
    · have ee : e = teV r n 1 p := by
        by_cases c : e < teV r n 1 p
        · exfalso
          have k := kdf_1.mp (tv.2.1 e e0 c)
          rw [m4 e (by omega) (by omega)] at w
          omega
        · omega
      refine ⟨MS u hu, by rw [hf]; exact u9, by omega, ?_, fun _ => by rw [hf]; exact hS⟩
      show u 10 = _
      rw [hf, if_pos p1, u10, ee]
      unfold te
      rw [if_neg (by omega), k1]
    · by_cases c : e < teV r n 1 p
      · exact c
      · exfalso
        have ee : e = teV r n 1 p := by omega
        rw [m4 e (by omega) (by omega)] at w
        have := tv.2.2 (by omega)
        rw [← ee] at this
        exact this (kdf_1.mpr (by omega))
  have W2 : ∀ p : Int, 0 ≤ p → p < n → isSb r p = true → fs r n q = p → kdf (r p.toNat) = 2 → ∀ e : Int, e ≤ teV r n 2 p → p ≤ e → ∀ u : Nat → Int, (∀ j : Nat, j ≠ 9 → j ≠ 10 → u j = mi 134 j) → u 9 = p → u 10 = e → h_M_next_124 d (sv mi 134 u) P := by
    intro p p0 p1 hS hf k1
    have tv := teV_in (r := r) (n := n) (v := 2) p (by omega)
    refine upto _ (fun e he ih e0 u hu u9 u10 => ?_)
    refine v_M_next_124 ?_
    rw [wt_sv]
    simp only [svc, Nat.reduceEqDiff, reduceIte]
    rw [u10, hu 8 (by decide) (by decide), m1]
    refine ⟨by omega, fun w => h u hu ?_, fun w => ⟨by omega, ih ?_ (by omega) _ (fun j a b => by rw [svn _ _ b]; exact hu j a b) (by rw [svn _ _ (by decide)]; exact u9) (sv_eq _ _ _)⟩⟩
    · have ee : e = teV r n 2 p := by
        by_cases c : e < teV r n 2 p
        · exfalso
          have k := kdf_2.mp (tv.2.1 e e0 c)
          rw [m4 e (by omega) (by omega)] at w
          omega
        · omega
      refine ⟨MS u hu, by rw [hf]; exact u9, by omega, ?_, fun _ => by rw [hf]; exact hS⟩
      show u 10 = _
      rw [hf, if_pos p1, u10, ee]
      unfold te
      rw [if_neg (by omega), k1]
    · by_cases c : e < teV r n 2 p
      · exact c
      · exfalso
        have ee : e = teV r n 2 p := by omega
        rw [m4 e (by omega) (by omega)] at w
        have := tv.2.2 (by omega)
        rw [← ee] at this
        exact this (kdf_2.mpr (by omega))
  -- what comes behind the blanks
  have TL : ∀ (p : Int) (u : Nat → Int), 0 ≤ p → p < n → isSb r p = true → fs r n q = p → (∀ j : Nat, j ≠ 9 → j ≠ 10 → u j = mi 134 j) → u 9 = p → ((¬ (p < n ∧ 97 ≤ mi 139 p.toNat ∧ mi 139 p.toNat ≤ 122) → ((¬ (p < n ∧ 48 ≤ mi 139 p.toNat ∧ mi 139 p.toNat ≤ 57) → ((-2147483648 ≤ p + 1 ∧ p + 1 < 2147483648) ∧ P (sv mi 134 (sv (sv u 10 p) 10 (p + 1))))) ∧ (p < n ∧ 48 ≤ mi 139 p.toNat ∧ mi 139 p.toNat ≤ 57 → h_M_next_124 d (sv mi 134 (sv u 10 p)) P))) ∧ (p < n ∧ 97 ≤ mi 139 p.toNat ∧ mi 139 p.toNat ≤ 122 → h_M_next_81 d (sv mi 134 (sv u 10 p)) P)) := by
    intro p u p0 p1 hS hf hu u9
    have hu2 : ∀ z : Int, ∀ j : Nat, j ≠ 9 → j ≠ 10 → sv u 10 z j = mi 134 j := fun z j a b => by rw [svn _ _ b]; exact hu j a b
    rw [m4 p p0 p1]
    refine ⟨fun w => ⟨fun w2 => ⟨by omega, h _ (fun j a b => by rw [svn _ _ b]; exact hu2 p j a b) ?_⟩, fun w2 => W2 p p0 p1 hS hf (kdf_2.mpr w2.2) p ?_ (Int.le_refl _) _ (hu2 p) (by rw [svn _ _ (by decide)]; exact u9) (sv_eq _ _ _)⟩, fun w => W1 p p0 p1 hS hf (kdf_1.mpr w.2) p ?_ (Int.le_refl _) _ (hu2 p) (by rw [svn _ _ (by decide)]; exact u9) (sv_eq _ _ _)⟩
    · have k0 : kdf (r p.toNat) = 0 := by
        rcases kdf_in (r p.toNat) with k | k | k
        · exact k
        · exact absurd ⟨p1, kdf_1.mp k⟩ w
        · exact absurd ⟨p1, kdf_2.mp k⟩ w2
      refine ⟨MS _ (fun j a b => by rw [svn _ _ b]; exact hu2 p j a b), ?_, by omega, ?_, fun _ => by rw [hf]; exact hS⟩
      · show sv (sv u 10 p) 10 (p + 1) 9 = _
        rw [svn _ _ (by decide), svn _ _ (by decide), hf]; exact u9
      · show sv (sv u 10 p) 10 (p + 1) 10 = _
        rw [sv_eq, hf, if_pos p1]
        unfold te
        rw [if_pos k0]
    · exact (teV_in (r := r) (n := n) (v := 2) p (by omega)).1.1
    · exact (teV_in (r := r) (n := n) (v := 1) p (by omega)).1.1
  have L : ∀ p : Int, p ≤ n → 0 ≤ p → BD r n p → fs r n q = fs r n p → ∀ u : Nat → Int, (∀ j : Nat, j ≠ 9 → j ≠ 10 → u j = mi 134 j) → u 9 = p → h_M_next_8 d (sv mi 134 u) P := by
    refine upto _ (fun p hp ih p0 hb hf u hu u9 => ?_)
    refine v_M_next_8 ?_
    simp only [wt_sv, svc, Nat.reduceEqDiff, reduceIte]
    rw [u9, hu 8 (by decide) (by decide), m1]
    refine ⟨fun w => ⟨fun w2 => by omega, fun w2 => ?_⟩, fun w => ⟨by omega, fun w2 => ⟨fun w3 => ⟨by omega, ?_⟩, fun w3 => by omega⟩, fun w2 => ⟨by omega, ?_⟩⟩⟩
    · refine h _ (fun j a b => by rw [svn _ _ b]; exact hu j a b) ⟨MS _ (fun j a b => by rw [svn _ _ b]; exact hu j a b), ?_, ?_, ?_, fun w3 => ?_⟩
      · show sv u 10 p 9 = _
        rw [svn _ _ (by decide), u9, hf, w2, fs_n]
      · rw [hf, w2, fs_n]; omega
      · show sv u 10 p 10 = _
        rw [sv_eq, hf, w2, fs_n, if_neg (by omega)]
      · rw [hf, w2, fs_n] at w3; omega
    · rw [m4 p p0 w] at w2
      have hS : isSb r p = true := isSb_t.mpr ⟨w2, hb.2 w⟩
      exact TL p u p0 w hS (by rw [hf, fs_s w, if_pos hS]) hu u9
    · rw [m4 p p0 w] at w2
      refine ih w (by omega) ⟨by omega, fun w4 w5 => ?_⟩ ?_ _ (fun j a b => by rw [svn _ _ a]; exact hu j a b) (sv_eq _ _ _)
      · rw [show p + 1 - 1 = p by omega, w2, kdf_32] at w5
        exact w5.2.1 w5.2.2
      · rw [hf, fs_s w, if_neg (by rw [Bool.not_eq_true, isSb_f, w2]; intro z; exact z.1 rfl)]
  refine v_M_next ?_
  rw [wt_s, hq]
  exact L q hB.1.2 hB.1.1 hB rfl _ (fun j a _ => svn _ _ a) (sv_eq _ _ _)
end TOK2
