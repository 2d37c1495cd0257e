section CMP
variable {d : Nat} {mi : MT} {r : Nat → Int} {n T : Int}
theorem bOr_1024 {a b : Int} (ha : 0 ≤ a ∧ a < 2097152) (hb : 0 ≤ b ∧ b < 1024) : bOr (a * 1024) b = a * 1024 + b := by
  obtain ⟨x, rfl⟩ : ∃ x : Nat, a = x := ⟨a.toNat, by omega⟩
  obtain ⟨y, rfl⟩ : ∃ y : Nat, b = y := ⟨b.toNat, by omega⟩
  have e := Nat.two_pow_add_eq_or_of_lt (i := 10) (b := y) (by omega) x
  rw [show (x : Int) * 1024 = ((2 ^ 10 * x : Nat) : Int) by omega, bOr_nat (by omega) (by omega), ← e]
  omega
theorem bOr_8192 {a b : Int} (ha : 0 ≤ a ∧ a < 262144) (hb : 0 ≤ b ∧ b < 8192) : bOr (a * 8192) b = a * 8192 + b := by
  obtain ⟨x, rfl⟩ : ∃ x : Nat, a = x := ⟨a.toNat, by omega⟩
  obtain ⟨y, rfl⟩ : ∃ y : Nat, b = y := ⟨b.toNat, by omega⟩
  have e := Nat.two_pow_add_eq_or_of_lt (i := 13) (b := y) (by omega) x
  rw [show (x : Int) * 8192 = ((2 ^ 13 * x : Nat) : Int) by omega, bOr_nat (by omega) (by omega), ← e]
  omega
theorem bOr_16384 {a b : Int} (ha : 0 ≤ a ∧ a < 131072) (hb : 0 ≤ b ∧ b < 16384) : bOr (a * 16384) b = a * 16384 + b := by
  obtain ⟨x, rfl⟩ : ∃ x : Nat, a = x := ⟨a.toNat, by omega⟩
  obtain ⟨y, rfl⟩ : ∃ y : Nat, b = y := ⟨b.toNat, by omega⟩
  have e := Nat.two_pow_add_eq_or_of_lt (i := 14) (b := y) (by omega) x
  rw [show (x : Int) * 16384 = ((2 ^ 14 * x : Nat) : Int) by omega, bOr_nat (by omega) (by omega), ← e]
  omega
theorem bOr_1048576 {a b : Int} (ha : 0 ≤ a ∧ a < 2048) (hb : 0 ≤ b ∧ b < 1048576) : bOr (a * 1048576) b = a * 1048576 + b := by
  obtain ⟨x, rfl⟩ : ∃ x : Nat, a = x := ⟨a.toNat, by omega⟩
  obtain ⟨y, rfl⟩ : ∃ y : Nat, b = y := ⟨b.toNat, by omega⟩
  have e := Nat.two_pow_add_eq_or_of_lt (i := 20) (b := y) (by omega) x
  rw [show (x : Int) * 1048576 = ((2 ^ 20 * x : Nat) : Int) by omega, bOr_nat (by omega) (by omega), ← e]
  omega
theorem code_eq {op a b : Int} (h1 : 0 ≤ op ∧ op < 6) (h2 : 0 ≤ a ∧ a < 1024) (h3 : 0 ≤ b ∧ b < 1024) : bOr (bOr (op * 1048576) (a * 1024)) b = op * 1048576 + a * 1024 + b := by
  rw [bOr_1048576 (by omega) (by omega), show op * 1048576 + a * 1024 = (op * 1024 + a) * 1024 by omega, bOr_1024 (by omega) h3]
theorem act_eq {q s m v : Int} (h0 : 0 ≤ q ∧ q < 100) (h1 : 0 ≤ s ∧ s < 2) (h2 : 0 ≤ m ∧ m < 8) (h3 : 0 ≤ v ∧ v < 1024) : bOr (bOr (bOr (q * 16384) (s * 8192)) (m * 1024)) v = q * 16384 + s * 8192 + m * 1024 + v := by
  rw [bOr_16384 (by omega) (by omega), show q * 16384 + s * 8192 = (q * 2 + s) * 8192 by omega, bOr_8192 (by omega) (by omega), show (q * 2 + s) * 8192 + m * 1024 = ((q * 2 + s) * 8 + m) * 1024 by omega, bOr_1024 (by omega) h3]
theorem s_U_addCode {P : MT → Prop} {op a b : Int} (h1 : 0 ≤ op ∧ op < 6) (h2 : 0 ≤ a ∧ a < 1024) (h3 : 0 ≤ b ∧ b < 1024) (h : 0 ≤ mi 96 3 ∧ mi 96 3 < 400) (hP : P (wt (wt mi 97 (mi 96 3).toNat (op * 1048576 + a * 1024 + b)) 96 3 (mi 96 3 + 1))) : c_U_addCode d op a b mi P := by
  refine v_U_addCode ⟨fun q => by omega, fun _ => ⟨by omega, ?_⟩⟩
  rw [code_eq h1 h2 h3]
  exact hP
def CMP (r : Nat → Int) (n p op a b p' : Int) : Prop := ∃ q : Int, VAL r n p a q ∧ ((wd r n q = 60 ∧ op = 0) ∨ (wd r n q = 62 ∧ op = 1) ∨ (wd r n q = 61 ∧ op = 2)) ∧ VAL r n (nx r n q) b p'
def CMPF (r : Nat → Int) (n p p' : Int) : Prop := VALF r n p p' ∨ (∃ a : Int, VAL r n p a p' ∧ wd r n p' ≠ 60 ∧ wd r n p' ≠ 62 ∧ wd r n p' ≠ 61) ∨ (∃ a q : Int, VAL r n p a q ∧ (wd r n q = 60 ∨ wd r n q = 62 ∨ wd r n q = 61) ∧ VALF r n (nx r n q) p')
theorem CMP_in {p op a b p' : Int} (hR : RB8 r n) (hp : 0 ≤ p ∧ p ≤ n) (h : CMP r n p op a b p') : (0 ≤ op ∧ op < 3) ∧ (0 ≤ a ∧ a < 1010) ∧ (0 ≤ b ∧ b < 1010) ∧ p + 3 ≤ p' ∧ p' ≤ n := by
  obtain ⟨q, h1, h2, h3⟩ := h
  have a1 := VAL_in hR hp h1
  have qn : q < n := wd_lt (r := r) a1.2.2 rfl (by omega)
  have nq := nx_in (r := r) qn
  have a2 := VAL_in hR (by omega) h3
  omega
theorem CMPF_in {p p' : Int} (hR : RB8 r n) (hp : 0 ≤ p ∧ p ≤ n) (h : CMPF r n p p') : p ≤ p' ∧ p' ≤ n := by
  rcases h with h | ⟨a, h, _⟩ | ⟨a, q, h1, h2, h3⟩
  · exact VALF_in hp h
  · have := VAL_in hR hp h; omega
  · have a1 := VAL_in hR hp h1
    have qn : q < n := wd_lt (r := r) a1.2.2 rfl (by omega)
    have nq := nx_in (r := r) qn
    have := VALF_in (by omega) h3
    omega
theorem AT_cg {m m' : MT} {p : Int} (h : AT m r n T p) (e0 : m' 90 3 = m 90 3) (e1 : m' 91 = m 91) (e2 : m' 92 = m 92) (e3 : m' 93 = m 93) (e4 : m' 94 4 = m 94 4) : AT m' r n T p := by
  unfold AT; rw [e0, e1, e2, e3, e4]; exact h
theorem MAT_cg {m m' : MT} {p : Int} (h : MAT m r n p) (e1 : m' 139 = m 139) (e8 : m' 134 8 = m 134 8) (e9 : m' 134 9 = m 134 9) (e10 : m' 134 10 = m 134 10) : MAT m' r n p := by
  unfold MAT MST; rw [e1, e8, e9, e10]; exact h
def CFT (m m1 : MT) : Prop := (∀ k : Nat, k ≠ 94 → k ≠ 96 → k ≠ 97 → m1 k = m k) ∧ (∀ j : Nat, j ≠ 4 → j ≠ 5 → m1 94 j = m 94 j) ∧ (∀ j : Nat, j ≠ 3 → m1 96 j = m 96 j)
theorem CFT.rfl' (m : MT) : CFT m m := ⟨fun _ _ _ _ => rfl, fun _ _ _ => rfl, fun _ _ => rfl⟩
theorem CFT.trans {a b c : MT} (h1 : CFT a b) (h2 : CFT b c) : CFT a c := ⟨fun k x y z => (h2.1 k x y z).trans (h1.1 k x y z), fun j x y => (h2.2.1 j x y).trans (h1.2.1 j x y), fun j x => (h2.2.2 j x).trans (h1.2.2 j x)⟩
theorem CFT.w4 (m : MT) {i : Nat} {z : Int} (h : i = 4 ∨ i = 5) : CFT m (wt m 94 i z) := ⟨fun k x _ _ => wt_row _ _ x, fun j x y => wt_ne _ _ (by omega), fun _ _ => rfl⟩
theorem CFT.w6 (m : MT) {z : Int} : CFT m (wt m 96 3 z) := ⟨fun k _ x _ => wt_row _ _ x, fun _ _ _ => rfl, fun j x => wt_ne _ _ x⟩
theorem CFT.w7 (m : MT) {i : Nat} {z : Int} : CFT m (wt m 97 i z) := ⟨fun k _ _ x => wt_row _ _ x, fun _ _ _ => rfl, fun _ _ => rfl⟩
/-- the class: a comparison -/
theorem s_G_readComparison {P : Bool → MT → Prop} {p : Int} (hd : 5 < d) (hA : AT mi r n T p) (h5 : 0 ≤ mi 94 5 ∧ mi 94 5 ≤ 40) (h3 : 0 ≤ mi 96 3 ∧ mi 96 3 < 400)
    (h1 : ∀ (op a b p' : Int) (m1 : MT), mi 94 5 < 40 → CMP r n p op a b p' → CFT mi m1 → AT m1 r n T p' → m1 94 5 = mi 94 5 + 1 → m1 96 3 = mi 96 3 + 1 → m1 97 = sv (mi 97) (mi 96 3).toNat (op * 1048576 + a * 1024 + b) → P true m1)
    (hf : ∀ (p' : Int) (m1 : MT), ((mi 94 5 = 40 ∧ p' = p) ∨ (mi 94 5 < 40 ∧ CMPF r n p p')) → CFT mi m1 → AT m1 r n T p' → (0 ≤ m1 94 5 ∧ m1 94 5 ≤ 40) → P false m1) : c_G_readComparison d mi P := by
  refine v_G_readComparison ⟨fun q => ⟨by omega, ?_⟩, fun q => hf p mi (Or.inl ⟨by omega, rfl⟩) (CFT.rfl' _) hA h5⟩
  have hR := (AT_wd hA).2.2.2.2.2
  have hp := (AT_wd hA).2.1
  have A0 : AT (wt mi 94 5 (mi 94 5 + 1)) r n T p := AT_cg hA rfl rfl rfl rfl (wt_ne _ _ (by decide))
  have F0 : CFT mi (wt mi 94 5 (mi 94 5 + 1)) := CFT.w4 _ (by omega)
  refine s_G_readValue (by omega) A0 (fun a q x hV A1 => ⟨fun _ => ?_, fun w => ?_⟩) (fun p' x hV A1 => ⟨fun w => absurd rfl w, fun _ => hf _ _ (Or.inr ⟨q, Or.inl hV⟩) (F0.trans (CFT.w4 _ (by omega))) A1 (by rw [wt_ne _ _ (by decide), wt_same]; omega)⟩)
  · have F1 : CFT mi (wt (wt mi 94 5 (mi 94 5 + 1)) 94 4 x) := F0.trans (CFT.w4 _ (by omega))
    have e5 : (wt (wt mi 94 5 (mi 94 5 + 1)) 94 4 x) 94 5 = mi 94 5 + 1 := by rw [wt_ne _ _ (by decide), wt_same]
    have va := VAL_in hR hp hV
    generalize hM1 : wt (wt mi 94 5 (mi 94 5 + 1)) 94 4 x = M1 at *
    have e63 : M1 96 3 = mi 96 3 := by rw [← hM1]; rfl
    have e97 : M1 97 = mi 97 := by rw [← hM1]; rfl
    have K : ∀ op : Int, ((wd r n q = 60 ∧ op = 0) ∨ (wd r n q = 62 ∧ op = 1) ∨ (wd r n q = 61 ∧ op = 2)) → AT (wt M1 94 4 (M1 94 4 + 1)) r n T (nx r n q) → c_G_readValue (d - 1) (wt M1 94 4 (M1 94 4 + 1)) (fun z7 m7 => (¬ z7 = -1 → c_U_addCode (d - 1) op a z7 m7 (fun m8 => P true m8)) ∧ (z7 = -1 → P false m7)) := by
      intro op ho A2
      have qn : q < n := wd_lt (r := r) va.2.2 rfl (by omega)
      have nq := nx_in (r := r) qn
      refine s_G_readValue (by omega) A2 (fun b p' y hV2 A3 => ⟨fun _ => ?_, fun w => ?_⟩) (fun p' y hV2 A3 => ⟨fun w => absurd rfl w, fun _ => hf _ _ (Or.inr ⟨‹_›, Or.inr (Or.inr ⟨a, q, hV, by omega, hV2⟩)⟩) (F1.trans ((CFT.w4 _ (by omega)).trans (CFT.w4 _ (by omega)))) A3 (by rw [wt_ne _ _ (by decide), wt_ne _ _ (by decide)]; omega)⟩)
      · have vb := VAL_in hR (by omega) hV2
        rw [wt_wt] at A3 ⊢
        refine s_U_addCode (by omega) (by omega) (by omega) (by show 0 ≤ M1 96 3 ∧ M1 96 3 < 400; omega) ?_
        refine h1 op a b p' _ ‹_› ⟨q, hV, ho, hV2⟩ (F1.trans ((CFT.w4 _ (by omega)).trans ((CFT.w7 _).trans (CFT.w6 _)))) (AT_cg A3 rfl rfl rfl rfl rfl) ?_ ?_ ?_
        · show (wt M1 94 4 y) 94 5 = _
          rw [wt_ne _ _ (by decide)]; exact e5
        · rw [wt_same]; show M1 96 3 + 1 = _; rw [e63]
        · show sv (M1 97) (M1 96 3).toNat _ = _
          rw [e97, e63]
      · have := VAL_in hR (by omega) hV2
        omega
    refine s_G_accepts (by decide) A1 (fun e pn A2 => ⟨fun q => absurd q (by decide), fun _ => K 0 (by omega) A2⟩) (fun e => ⟨fun _ => ?_, fun q => absurd q (by decide)⟩)
    refine s_G_accepts (by decide) A1 (fun e pn A2 => ⟨fun q => absurd q (by decide), fun _ => K 1 (by omega) A2⟩) (fun e2 => ⟨fun _ => ?_, fun q => absurd q (by decide)⟩)
    refine s_G_accepts (by decide) A1 (fun e pn A2 => ⟨fun q => absurd q (by decide), fun _ => K 2 (by omega) A2⟩) (fun e3 => ⟨fun _ => ?_, fun q => absurd q (by decide)⟩)
    exact hf _ _ (Or.inr ⟨‹_›, Or.inr (Or.inl ⟨a, hV, e, e2, e3⟩)⟩) F1 A1 (by omega)
  · have := VAL_in hR hp hV
    omega
def TF (m m2 : MT) : Prop := (∀ k : Nat, k ≠ 134 → (k < 146 ∨ 151 < k) → m2 k = m k) ∧ (∀ j : Nat, j ≠ 9 → j ≠ 10 → j ≠ 12 → j ≠ 16 → j ≠ 18 → j ≠ 36 → j ≠ 37 → m2 134 j = m 134 j)
theorem TF.rfl' (m : MT) : TF m m := ⟨fun _ _ _ => rfl, fun _ _ _ _ _ _ _ _ => rfl⟩
theorem TF.trans {a b c : MT} (h1 : TF a b) (h2 : TF b c) : TF a c := ⟨fun k x y => (h2.1 k x y).trans (h1.1 k x y), fun j a b c d e g h => (h2.2 j a b c d e g h).trans (h1.2 j a b c d e g h)⟩
theorem TF.u {m : MT} {u : Nat → Int} (h : ∀ j : Nat, j ≠ 9 → j ≠ 10 → j ≠ 12 → j ≠ 36 → j ≠ 37 → u j = m 134 j) : TF m (sv m 134 u) := ⟨fun k x _ => sv_ne _ _ x, fun j a b c _ _ g h' => h j a b c g h'⟩
theorem TF.w (m : MT) {i : Nat} {z : Int} (h : i = 9 ∨ i = 10 ∨ i = 12 ∨ i = 16 ∨ i = 18 ∨ i = 36 ∨ i = 37) : TF m (wt m 134 i z) := ⟨fun k x _ => wt_row _ _ x, fun j _ _ _ _ _ _ _ => wt_ne _ _ (by omega)⟩
theorem TF.row (m : MT) {c i : Nat} {z : Int} (h : 146 ≤ c ∧ c ≤ 151) : TF m (wt m c i z) := ⟨fun k _ x => wt_row _ _ (by omega), fun j _ _ _ _ _ _ _ => by rw [wt_row _ _ (by omega)]⟩
theorem TF.d19 {m m2 : MT} (h : TF m m2) : m2 134 19 = m 134 19 := h.2 19 (by decide) (by decide) (by decide) (by decide) (by decide) (by decide) (by decide)
end CMP
