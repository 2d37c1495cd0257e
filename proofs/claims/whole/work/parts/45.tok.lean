/-! texts and their tokens: r the bytes (as the reference has them), n how many -/
def isSb (r : Nat → Int) (p : Int) : Bool := decide (r p.toNat ≠ 32 ∧ ¬ (0 < p ∧ kdf (r p.toNat) ≠ 0 ∧ kdf (r p.toNat) = kdf (r (p - 1).toNat)))
theorem isSb_t {r : Nat → Int} {p : Int} : isSb r p = true ↔ (r p.toNat ≠ 32 ∧ ¬ (0 < p ∧ kdf (r p.toNat) ≠ 0 ∧ kdf (r p.toNat) = kdf (r (p - 1).toNat))) := decide_eq_true_iff
theorem isSb_f {r : Nat → Int} {p : Int} : isSb r p = false ↔ ¬ (r p.toNat ≠ 32 ∧ ¬ (0 < p ∧ kdf (r p.toNat) ≠ 0 ∧ kdf (r p.toNat) = kdf (r (p - 1).toNat))) := decide_eq_false_iff_not
def fsK (r : Nat → Int) : Nat → Int → Int
  | 0, p => p
  | k + 1, p => if isSb r p then p else fsK r k (p + 1)
def fs (r : Nat → Int) (n p : Int) : Int := fsK r (n - p).toNat p
theorem fs_n (r : Nat → Int) (n : Int) : fs r n n = n := by unfold fs; rw [show (n - n).toNat = 0 by omega]; rfl
theorem fs_s {r : Nat → Int} {n p : Int} (hp : p < n) : fs r n p = if isSb r p then p else fs r n (p + 1) := by
  unfold fs
  rw [show (n - p).toNat = (n - (p + 1)).toNat + 1 by omega]
  simp only [fsK]
theorem fs_in {r : Nat → Int} {n : Int} : ∀ p : Int, p ≤ n → (p ≤ fs r n p ∧ fs r n p ≤ n) ∧ (fs r n p < n → isSb r (fs r n p) = true) := by
  refine upto n (fun p hp ih => ?_)
  by_cases c : p = n
  · subst c; rw [fs_n]; exact ⟨⟨Int.le_refl _, Int.le_refl _⟩, fun q => absurd q (Int.lt_irrefl _)⟩
  · rw [fs_s (by omega)]
    split
    · rename_i e; exact ⟨⟨Int.le_refl _, by omega⟩, fun _ => e⟩
    · have := ih (by omega); exact ⟨by omega, this.2⟩
def teK (r : Nat → Int) (v : Int) : Nat → Int → Int
  | 0, p => p
  | k + 1, p => if kdf (r p.toNat) = v then teK r v k (p + 1) else p
def teV (r : Nat → Int) (n v p : Int) : Int := teK r v (n - p).toNat p
theorem teV_n (r : Nat → Int) (n v : Int) : teV r n v n = n := by unfold teV; rw [show (n - n).toNat = 0 by omega]; rfl
theorem teV_s {r : Nat → Int} {n v p : Int} (hp : p < n) : teV r n v p = if kdf (r p.toNat) = v then teV r n v (p + 1) else p := by
  unfold teV
  rw [show (n - p).toNat = (n - (p + 1)).toNat + 1 by omega]
  simp only [teK]
theorem teV_in {r : Nat → Int} {n v : Int} : ∀ p : Int, p ≤ n → (p ≤ teV r n v p ∧ teV r n v p ≤ n) ∧ (∀ i : Int, p ≤ i → i < teV r n v p → kdf (r i.toNat) = v) ∧ (teV r n v p < n → kdf (r (teV r n v p).toNat) ≠ v) := by
  refine upto n (fun p hp ih => ?_)
  by_cases c : p = n
  · subst c; rw [teV_n]; exact ⟨⟨Int.le_refl _, Int.le_refl _⟩, fun i a b => by omega, fun q => absurd q (Int.lt_irrefl _)⟩
  · rw [teV_s (by omega)]
    split
    · rename_i e
      have := ih (by omega)
      refine ⟨by omega, fun i a b => ?_, this.2.2⟩
      by_cases ei : i = p
      · subst ei; exact e
      · exact this.2.1 i (by omega) b
    · rename_i e
      exact ⟨⟨Int.le_refl _, by omega⟩, fun i a b => by omega, fun _ => e⟩
/-- where a token ends -/
def te (r : Nat → Int) (n p : Int) : Int := if kdf (r p.toNat) = 0 then p + 1 else teV r n (kdf (r p.toNat)) p
theorem te_in {r : Nat → Int} {n p : Int} (hp : p < n) : p < te r n p ∧ te r n p ≤ n := by
  unfold te
  split
  · omega
  · have := teV_in (r := r) (n := n) (v := kdf (r p.toNat)) (p + 1) (by omega)
    rw [teV_s hp, if_pos rfl]
    omega
theorem te_all {r : Nat → Int} {n p : Int} (hp : p < n) : ∀ i : Int, p ≤ i → i < te r n p → kdf (r i.toNat) = kdf (r p.toNat) := by
  intro i a b
  unfold te at b
  split at b
  · rw [show i = p by omega]
  · exact (teV_in (r := r) (n := n) (v := kdf (r p.toNat)) p (by omega)).2.1 i a b
theorem te_end {r : Nat → Int} {n p : Int} (hp : p < n) (hk : kdf (r p.toNat) ≠ 0) (h : te r n p < n) : kdf (r (te r n p).toNat) ≠ kdf (r p.toNat) := by
  unfold te at h ⊢
  rw [if_neg hk] at h ⊢
  exact (teV_in (r := r) (n := n) (v := kdf (r p.toNat)) p (by omega)).2.2 h
/-- the token behind -/
def nx (r : Nat → Int) (n p : Int) : Int := fs r n (te r n p)
theorem nx_in {r : Nat → Int} {n p : Int} (hp : p < n) : (p < nx r n p ∧ nx r n p ≤ n) ∧ (nx r n p < n → isSb r (nx r n p) = true) := by
  have a := te_in (r := r) hp
  have b := fs_in (r := r) (te r n p) a.2
  unfold nx
  exact ⟨by omega, b.2⟩
theorem kdf_in (v : Int) : kdf v = 0 ∨ kdf v = 1 ∨ kdf v = 2 := by unfold kdf; split <;> (try split) <;> simp
theorem kdf_32 : kdf 32 = 0 := by decide
theorem kdf_1 {v : Int} : kdf v = 1 ↔ (97 ≤ v ∧ v ≤ 122) := by
  unfold kdf
  by_cases a : 97 ≤ v ∧ v ≤ 122
  · rw [if_pos a]; exact ⟨fun _ => a, fun _ => rfl⟩
  · rw [if_neg a]; split
    · exact ⟨fun q => by omega, fun q => absurd q a⟩
    · exact ⟨fun q => by omega, fun q => absurd q a⟩
theorem kdf_2 {v : Int} : kdf v = 2 ↔ (48 ≤ v ∧ v ≤ 57) := by
  unfold kdf
  by_cases a : 97 ≤ v ∧ v ≤ 122
  · rw [if_pos a]; exact ⟨fun q => by omega, fun q => by omega⟩
  · rw [if_neg a]; split
    · exact ⟨fun _ => by assumption, fun _ => rfl⟩
    · exact ⟨fun q => by omega, fun q => by omega⟩
theorem fs_te {r : Nat → Int} {n p : Int} (h0 : 0 ≤ p) (hp : p < n) : fs r n (p + 1) = nx r n p := by
  have t := te_in (r := r) hp
  have key : ∀ q : Int, q ≤ te r n p → p + 1 ≤ q → fs r n q = nx r n p := by
    refine upto (te r n p) (fun q hq ih q1 => ?_)
    by_cases c : q = te r n p
    · subst c; rfl
    · rw [fs_s (by omega)]
      have e1 := te_all (r := r) hp q (by omega) (by omega)
      have e2 := te_all (r := r) hp (q - 1) (by omega) (by omega)
      have e3 : kdf (r p.toNat) ≠ 0 := by
        intro z
        unfold te at hq c t
        rw [if_pos z] at hq c t
        omega
      rw [if_neg (by rw [Bool.not_eq_true, isSb_f]; intro w; exact w.2 ⟨by omega, by rw [e1]; exact e3, by rw [e1, e2]⟩)]
      exact ih (by omega) (by omega)
  exact key (p + 1) (by omega) (Int.le_refl _)
def spl (r : Nat → Int) : Int → List Int → Bool
  | _, [] => true
  | p, c :: cs => decide (r p.toNat = c) && spl r (p + 1) cs
def u8 (v : Int) : Int := if v < 0 then v + 256 else v
def kwd (r : Nat → Int) (p z : Int) : Int :=
  if z = 2 then (if spl r p [105, 102] then 303 else if spl r p [100, 111] then 304 else if spl r p [111, 114] then 305 else 302)
  else if z = 3 then (if spl r p [97, 110, 100] then 306 else if spl r p [110, 111, 116] then 307 else if spl r p [115, 101, 116] then 308 else if spl r p [101, 110, 100] then 310 else 302)
  else if z = 4 then (if spl r p [100, 114, 111, 112] then 309 else if spl r p [116, 117, 114, 110] then 314 else 302)
  else if z = 5 then (if spl r p [98, 101, 103, 105, 110] then 311 else if spl r p [115, 104, 97, 112, 101] then 312 else if spl r p [112, 108, 97, 99, 101] then 313 else if spl r p [111, 116, 104, 101, 114] then 315 else 302)
  else if z = 6 then (if spl r p [115, 116, 97, 116, 101, 115] then 316 else 302)
  else 302
/-- the word of a token, as the class numbers them -/
def wd (r : Nat → Int) (n p : Int) : Int := if n ≤ p then 300 else if kdf (r p.toNat) = 2 then 301 else if te r n p - p = 1 then u8 (r p.toNat) else kwd r p (te r n p - p)
/-- the number of a token of digits -/
def nvK (r : Nat → Int) : Nat → Int → Int → Int
  | 0, _, v => v
  | k + 1, p, v => nvK r k (p + 1) (10 * v + r p.toNat - 48)
def nv (r : Nat → Int) (n p : Int) : Int := nvK r (te r n p - p).toNat p 0
theorem nvK_mono (r : Nat → Int) : ∀ (k : Nat) (p v : Int), 0 ≤ v → (∀ i : Int, p ≤ i → i < p + k → 48 ≤ r i.toNat) → v ≤ nvK r k p v := by
  intro k
  induction k with
  | zero => intro p v _ _; exact Int.le_refl _
  | succ k ih =>
    intro p v hv hr
    have := hr p (by omega) (by omega)
    have := ih (p + 1) (10 * v + r p.toNat - 48) (by omega) (fun i a b => hr i (by omega) (by omega))
    simp only [nvK]
    omega
def TXT (b r : Nat → Int) (n : Int) : Prop := (0 ≤ n ∧ n ≤ 400) ∧ ∀ k : Int, 0 ≤ k → k < n → (0 ≤ b k.toNat ∧ b k.toNat < 256) ∧ r k.toNat = sg8 (b k.toNat)
theorem kdf_sg {v : Int} (h : 0 ≤ v ∧ v < 256) : kdf (sg8 v) = kdf v := by
  unfold sg8 kdf
  repeat' split
  all_goals omega
theorem sg_eq {v c : Int} (h : 0 ≤ v ∧ v < 256) (hc : 0 ≤ c ∧ c < 128) : sg8 v = c ↔ v = c := by unfold sg8; split <;> omega
theorem u8_sg {v : Int} (h : 0 ≤ v ∧ v < 256) : u8 (sg8 v) = v := by
  unfold u8 sg8
  repeat' split
  all_goals omega
section TOK
variable {d : Nat} {mi : MT} {r : Nat → Int} {n : Int}
theorem s_T_reach {P : Int → MT → Prop} {p : Int} (hd : 0 < d) (hT : TXT (mi 91) r n) (hn : mi 90 3 = n) (hp : 0 ≤ p ∧ p < n) (h : P (te r n p) mi) : c_T_reach d p mi P := by
  obtain ⟨h1, h2⟩ := hT
  have kd : ∀ k : Int, 0 ≤ k → k < n → kdf (mi 91 k.toNat) = kdf (r k.toNat) := fun k a b => by rw [(h2 k a b).2, kdf_sg (h2 k a b).1]
  refine v_T_reach ⟨by omega, ?_⟩
  rw [kd p hp.1 hp.2]
  by_cases c : kdf (r p.toNat) = 0
  · unfold te at h
    rw [if_pos c] at h
    rw [c]
    exact v_T_reach_17 ⟨fun _ => h, fun _ => ⟨fun _ => h, fun w => absurd rfl w⟩⟩
  · have e : te r n p = teV r n (kdf (r p.toNat)) (p + 1) := by unfold te; rw [if_neg c, teV_s hp.2, if_pos rfl]
    rw [e] at h
    generalize hv : kdf (r p.toNat) = v at c h ⊢
    have L : ∀ q : Int, q ≤ n → 0 ≤ q → P (teV r n v q) mi → h_T_reach_17 d p v q q mi P := by
      refine upto n (fun q hq ih q0 hP => ?_)
      refine v_T_reach_17 ?_
      rw [hn]
      refine ⟨fun w => by rw [show q = n by omega, teV_n] at hP; rw [show q = n by omega]; exact hP, fun w => ⟨fun z => absurd z c, fun _ => ⟨by omega, ?_⟩⟩⟩
      rw [kd q q0 w]
      rw [teV_s w] at hP
      refine ⟨fun z => by rw [if_neg z] at hP; exact hP, fun z => ⟨by omega, ih w (by omega) (by rw [if_pos z] at hP; exact hP)⟩⟩
    exact L (p + 1) (by omega) (by omega) h
theorem s_T_number {P : Int → MT → Prop} {a p : Int} (hd : 0 < d) (hT : TXT (mi 91) r n) (hn : mi 90 3 = n) (ha : 0 ≤ a ∧ a ≤ 400) (hs : mi 92 a.toNat = p) (hp : 0 ≤ p ∧ p ≤ n) (hk : p < n → kdf (r p.toNat) = 2 → P (min 1000 (nv r n p)) mi) (hk0 : ¬ (p < n ∧ kdf (r p.toNat) = 2) → P 0 mi) : c_T_number d a mi P := by
  obtain ⟨h1, h2⟩ := hT
  have kd : ∀ k : Int, 0 ≤ k → k < n → kdf (mi 91 k.toNat) = kdf (r k.toNat) := fun k a b => by rw [(h2 k a b).2, kdf_sg (h2 k a b).1]
  have dg : ∀ k : Int, 0 ≤ k → k < n → kdf (r k.toNat) = 2 → (48 ≤ mi 91 k.toNat ∧ mi 91 k.toNat ≤ 57) ∧ r k.toNat = mi 91 k.toNat := by
    intro k a b e
    have w := h2 k a b
    rw [← kd k a b] at e
    have : 48 ≤ mi 91 k.toNat ∧ mi 91 k.toNat ≤ 57 := kdf_2.mp e
    refine ⟨this, ?_⟩
    rw [w.2]; unfold sg8; split <;> omega
  refine v_T_number ⟨by omega, ?_⟩
  rw [hs]
  by_cases c : p < n ∧ kdf (r p.toNat) = 2
  · have hP := hk c.1 c.2
    have e : te r n p = teV r n 2 p := by unfold te; rw [if_neg (by omega), c.2]
    have tv := teV_in (r := r) (n := n) (v := 2) p (by omega)
    unfold nv at hP
    rw [e] at hP
    have L : ∀ q : Int, q ≤ teV r n 2 p → p ≤ q → ∀ v : Int, 0 ≤ v → P (min 1000 (nvK r (teV r n 2 p - q).toNat q v)) mi → h_T_number_9 d a (min 1000 v) q mi P := by
      refine upto _ (fun q hq ih q0 v v0 hP => ?_)
      refine v_T_number_9 ?_
      rw [hn]
      by_cases ce : q = teV r n 2 p
      · rw [show (teV r n 2 p - q).toNat = 0 by omega] at hP
        refine ⟨fun w => hP, fun w => ⟨by omega, ?_⟩⟩
        rw [kd q (by omega) w]
        refine ⟨fun _ => hP, fun z => absurd z (by rw [ce]; exact tv.2.2 (by omega))⟩
      · have k2 := tv.2.1 q q0 (by omega)
        have g := dg q (by omega) (by omega) k2
        refine ⟨fun w => by omega, fun w => ⟨by omega, ?_⟩⟩
        rw [kd q (by omega) w]
        refine ⟨fun z => absurd k2 z, fun _ => ⟨by omega, ?_⟩⟩
        rw [show (teV r n 2 p - q).toNat = (teV r n 2 p - (q + 1)).toNat + 1 by omega] at hP
        simp only [nvK] at hP
        rw [g.2] at hP
        have := ih (by omega) (by omega) (10 * v + mi 91 q.toNat - 48) (by omega) hP
        rw [show min 1000 (min 1000 v * 10 + mi 91 q.toNat - 48) = min 1000 (10 * v + mi 91 q.toNat - 48) by omega]
        exact this
    have := L p tv.1.1 (by omega) 0 (by omega) hP
    exact this
  · refine v_T_number_9 ?_
    rw [hn]
    refine ⟨fun _ => hk0 c, fun w => ⟨by omega, ?_⟩⟩
    rw [kd p hp.1 w]
    exact ⟨fun _ => hk0 c, fun z => absurd ⟨w, z⟩ c⟩
end TOK
