section ACT
variable {d : Nat} {mi : MT} {r : Nat → Int} {n T : Int}
def SD (r : Nat → Int) (n p s : Int) : Prop := (wd r n p = 310 ∧ s = 0) ∨ (wd r n p = 311 ∧ s = 1)
def ACT (r : Nat → Int) (n p s k v p' : Int) : Prop := (wd r n p = 308 ∧ SD r n (nx r n p) s ∧ (0 ≤ k ∧ k < 4 ∧ wd r n (nx r n (nx r n p)) = 312 + k) ∧ VAL r n (nx r n (nx r n (nx r n p))) v p') ∨ (wd r n p = 309 ∧ SD r n (nx r n p) s ∧ k = 4 ∧ v = 0 ∧ p' = nx r n (nx r n p))
def ACTF (r : Nat → Int) (n p p' : Int) : Prop := (wd r n p ≠ 308 ∧ wd r n p ≠ 309 ∧ p' = p) ∨ ((wd r n p = 308 ∨ wd r n p = 309) ∧ wd r n (nx r n p) ≠ 310 ∧ wd r n (nx r n p) ≠ 311 ∧ p' = nx r n p) ∨ (wd r n p = 308 ∧ (∃ s : Int, SD r n (nx r n p) s) ∧ (wd r n (nx r n (nx r n p)) < 312 ∨ 315 < wd r n (nx r n (nx r n p))) ∧ p' = nx r n (nx r n p)) ∨ (wd r n p = 308 ∧ (∃ s : Int, SD r n (nx r n p) s) ∧ (312 ≤ wd r n (nx r n (nx r n p)) ∧ wd r n (nx r n (nx r n p)) ≤ 315) ∧ VALF r n (nx r n (nx r n (nx r n p))) p')
theorem SD_in {p s : Int} (h : SD r n p s) : (0 ≤ s ∧ s < 2) ∧ 310 ≤ wd r n p := by unfold SD at h; omega
theorem nx1 {p : Int} (hp : 0 ≤ p ∧ p ≤ n) (h : 301 ≤ wd r n p) : p < n ∧ p < nx r n p ∧ nx r n p ≤ n := by
  have pn := wd_lt (r := r) (p := p) hp.2 rfl (by omega)
  have := nx_in (r := r) pn
  omega
theorem ACT_in {p s k v p' : Int} (hR : RB8 r n) (hp : 0 ≤ p ∧ p ≤ n) (h : ACT r n p s k v p') : (0 ≤ s ∧ s < 2) ∧ (0 ≤ k ∧ k ≤ 4) ∧ (0 ≤ v ∧ v < 1010) ∧ p < p' ∧ p' ≤ n := by
  rcases h with ⟨h1, h2, h3, h4⟩ | ⟨h1, h2, h3, h4, h5⟩
  · have a := nx1 hp (by omega : 301 ≤ wd r n p)
    have s1 := SD_in h2
    have b := nx1 (r := r) (n := n) (p := nx r n p) (by omega) (by omega)
    have c := nx1 (r := r) (n := n) (p := nx r n (nx r n p)) (by omega) (by omega)
    have e := VAL_in hR (by omega) h4
    omega
  · have a := nx1 hp (by omega : 301 ≤ wd r n p)
    have s1 := SD_in h2
    have b := nx1 (r := r) (n := n) (p := nx r n p) (by omega) (by omega)
    omega
def CFA (m m1 : MT) : Prop := (∀ k : Nat, k ≠ 94 → k ≠ 96 → k ≠ 99 → m1 k = m k) ∧ (∀ j : Nat, j ≠ 4 → m1 94 j = m 94 j) ∧ (∀ j : Nat, j ≠ 4 → m1 96 j = m 96 j)
theorem CFA.rfl' (m : MT) : CFA m m := ⟨fun _ _ _ _ => rfl, fun _ _ => rfl, fun _ _ => rfl⟩
theorem CFA.trans {a b c : MT} (h1 : CFA a b) (h2 : CFA b c) : CFA a c := ⟨fun k x y z => (h2.1 k x y z).trans (h1.1 k x y z), fun j x => (h2.2.1 j x).trans (h1.2.1 j x), fun j x => (h2.2.2 j x).trans (h1.2.2 j x)⟩
theorem CFA.w4 (m : MT) {z : Int} : CFA m (wt m 94 4 z) := ⟨fun k x _ _ => wt_row _ _ x, fun j x => wt_ne _ _ x, fun _ _ => rfl⟩
theorem CFA.w6 (m : MT) {z : Int} : CFA m (wt m 96 4 z) := ⟨fun k _ x _ => wt_row _ _ x, fun _ _ => rfl, fun j x => wt_ne _ _ x⟩
theorem CFA.w9 (m : MT) {i : Nat} {z : Int} : CFA m (wt m 99 i z) := ⟨fun k _ _ x => wt_row _ _ x, fun _ _ => rfl, fun _ _ => rfl⟩
/-- the class: an act -/
theorem s_G_readAct {P : Bool → MT → Prop} {p : Int} (hd : 5 < d) (hA : AT mi r n T p) (h4 : 0 ≤ mi 96 4 ∧ mi 96 4 ≤ 40) (h5 : 0 ≤ mi 96 5 ∧ mi 96 5 ≤ 12)
    (h1 : ∀ (s k v p' : Int) (m1 : MT), mi 96 4 < 40 → ACT r n p s k v p' → CFA mi m1 → AT m1 r n T p' → m1 96 4 = mi 96 4 + 1 → m1 99 = sv (mi 99) (mi 96 4).toNat (mi 96 5 * 16384 + s * 8192 + k * 1024 + v) → P true m1)
    (hf : ∀ (p' : Int) (m1 : MT), ((mi 96 4 = 40 ∧ p' = p) ∨ (mi 96 4 < 40 ∧ ACTF r n p p')) → CFA mi m1 → AT m1 r n T p' → P false m1) : c_G_readAct d mi P := by
  refine v_G_readAct ⟨fun q => ⟨by omega, ?_⟩, fun q => hf p mi (Or.inl ⟨by omega, rfl⟩) (CFA.rfl' _) hA⟩
  have hR := (AT_wd hA).2.2.2.2.2
  have hp := (AT_wd hA).2.1
  -- an act is added
  have ADD : ∀ (N : MT) (s k v p' : Int), CFA mi N → AT N r n T p' → N 99 = mi 99 → N 96 4 = mi 96 4 → N 96 5 = mi 96 5 → ACT r n p s k v p' → c_U_addAct (d - 1) s k v N (fun m4 => P true m4) := by
    intro N s k v p' F A e99 e4 e5 hAc
    have ai := ACT_in hR hp hAc
    refine v_U_addAct ⟨fun w => by omega, fun _ => ⟨by omega, ?_⟩⟩
    rw [act_eq (by omega) (by omega) (by omega) (by omega)]
    refine h1 s k v p' _ q hAc (F.trans ((CFA.w9 _).trans (CFA.w6 _))) (AT_cg A rfl rfl rfl rfl rfl) (by rw [wt_same, e4]) ?_
    show sv (N 99) (N 96 4).toNat _ = _
    rw [e99, e4, e5]
  refine s_G_accepts (by decide) hA (fun e pn A1 => ⟨fun _ => ?_, fun w => absurd w (by decide)⟩) (fun e => ⟨fun w => absurd w (by decide), fun _ => ?_⟩)
  · -- set
    have F1 : CFA mi (wt mi 94 4 (mi 94 4 + 1)) := CFA.w4 _
    have SET : ∀ s : Int, SD r n (nx r n p) s → ∀ N : MT, CFA mi N → AT N r n T (nx r n (nx r n p)) → N 99 = mi 99 → N 96 4 = mi 96 4 → N 96 5 = mi 96 5 → ((0 ≤ N 94 4 ∧ N 94 4 < 401) ∧ (-2147483648 ≤ N 93 (N 94 4).toNat - 312 ∧ N 93 (N 94 4).toNat - 312 < 2147483648)) ∧ ((0 ≤ N 93 (N 94 4).toNat - 312 ∧ N 93 (N 94 4).toNat - 312 < 4 → ((-2147483648 ≤ N 94 4 + 1 ∧ N 94 4 + 1 < 2147483648) ∧ c_G_readValue (d - 1) (wt N 94 4 (N 94 4 + 1)) (fun z3 m3 => (¬ z3 = -1 → c_U_addAct (d - 1) s (N 93 (N 94 4).toNat - 312) z3 m3 (fun m4 => P true m4)) ∧ (z3 = -1 → P false m3)))) ∧ (¬ (0 ≤ N 93 (N 94 4).toNat - 312 ∧ N 93 (N 94 4).toNat - 312 < 4) → P false N)) := by
      intro s hs N F A e99 e4 e5
      obtain ⟨b1, b2, b3, b4, b5, b6⟩ := AT_wd A
      have h9 := A.2.1
      have wr := wd_rng b6 b2.1 b2.2
      rw [b1]
      refine ⟨by omega, fun w => ⟨by omega, ?_⟩, fun w => hf _ N (Or.inr ⟨q, Or.inr (Or.inr (Or.inl ⟨e, ⟨s, hs⟩, by omega, rfl⟩))⟩) F A⟩
      have c := nx1 b2 (by omega : 301 ≤ wd r n (nx r n (nx r n p)))
      refine s_G_readValue (by omega) (AT_adv A c.1) (fun v p' x hV A3 => ⟨fun _ => ?_, fun w2 => ?_⟩) (fun p' x hV A3 => ⟨fun w2 => absurd rfl w2, fun _ => hf _ _ (Or.inr ⟨q, Or.inr (Or.inr (Or.inr ⟨e, ⟨s, hs⟩, by omega, hV⟩))⟩) (F.trans ((CFA.w4 _).trans (CFA.w4 _))) A3⟩)
      · exact ADD _ s _ v p' (F.trans ((CFA.w4 _).trans (CFA.w4 _))) A3 e99 e4 e5 (Or.inl ⟨e, hs, by omega, hV⟩)
      · have := VAL_in b6 (by omega) hV
        omega
    refine s_G_readSide (by omega) A1 (fun e2 pn2 A2 => ⟨fun _ => ⟨fun _ => ?_, fun w => absurd w (by decide)⟩, fun w => absurd w (by decide)⟩) (fun e2 pn2 A2 => ⟨fun _ => ⟨fun _ => ?_, fun w => absurd w (by decide)⟩, fun w => absurd w (by decide)⟩) (fun e2 e3 => ⟨fun w => absurd rfl w, fun _ => hf _ _ (Or.inr ⟨q, Or.inr (Or.inl ⟨Or.inl e, e2, e3, rfl⟩)⟩) F1 A1⟩)
    · exact SET 0 (Or.inl ⟨e2, rfl⟩) _ (F1.trans (CFA.w4 _)) A2 rfl rfl rfl
    · exact SET 1 (Or.inr ⟨e2, rfl⟩) _ (F1.trans (CFA.w4 _)) A2 rfl rfl rfl
  · refine s_G_accepts (by decide) hA (fun e1 pn A1 => ⟨fun _ => ?_, fun w => absurd w (by decide)⟩) (fun e1 => ⟨fun w => absurd w (by decide), fun _ => hf p mi (Or.inr ⟨q, Or.inl ⟨e, e1, rfl⟩⟩) (CFA.rfl' _) hA⟩)
    have F1 : CFA mi (wt mi 94 4 (mi 94 4 + 1)) := CFA.w4 _
    refine s_G_readSide (by omega) A1 (fun e2 pn2 A2 => ⟨fun _ => ⟨fun w => absurd w (by decide), fun _ => ?_⟩, fun w => absurd w (by decide)⟩) (fun e2 pn2 A2 => ⟨fun _ => ⟨fun w => absurd w (by decide), fun _ => ?_⟩, fun w => absurd w (by decide)⟩) (fun e2 e3 => ⟨fun w => absurd rfl w, fun _ => hf _ _ (Or.inr ⟨q, Or.inr (Or.inl ⟨Or.inr e1, e2, e3, rfl⟩)⟩) F1 A1⟩)
    · exact ADD _ 0 4 0 _ (F1.trans (CFA.w4 _)) A2 rfl rfl rfl (Or.inr ⟨e1, Or.inl ⟨e2, rfl⟩, rfl, rfl, rfl⟩)
    · exact ADD _ 1 4 0 _ (F1.trans (CFA.w4 _)) A2 rfl rfl rfl (Or.inr ⟨e1, Or.inr ⟨e2, rfl⟩, rfl, rfl, rfl⟩)
def AF (m m2 : MT) : Prop := (∀ k : Nat, k ≠ 134 → (k < 153 ∨ 157 < k) → m2 k = m k) ∧ (∀ j : Nat, j ≠ 9 → j ≠ 10 → j ≠ 12 → j ≠ 17 → j ≠ 36 → j ≠ 37 → m2 134 j = m 134 j)
theorem AF.rfl' (m : MT) : AF m m := ⟨fun _ _ _ => rfl, fun _ _ _ _ _ _ _ => rfl⟩
theorem AF.trans {a b c : MT} (h1 : AF a b) (h2 : AF b c) : AF a c := ⟨fun k x y => (h2.1 k x y).trans (h1.1 k x y), fun j a b c d e f => (h2.2 j a b c d e f).trans (h1.2 j a b c d e f)⟩
theorem AF.u {m : MT} {u : Nat → Int} (h : ∀ j : Nat, j ≠ 9 → j ≠ 10 → j ≠ 12 → j ≠ 36 → j ≠ 37 → u j = m 134 j) : AF m (sv m 134 u) := ⟨fun k x _ => sv_ne _ _ x, fun j a b c _ g h' => h j a b c g h'⟩
theorem AF.w (m : MT) {i : Nat} {z : Int} (h : i = 9 ∨ i = 10 ∨ i = 12 ∨ i = 17 ∨ i = 36 ∨ i = 37) : AF m (wt m 134 i z) := ⟨fun k x _ => wt_row _ _ x, fun j _ _ _ _ _ _ => wt_ne _ _ (by omega)⟩
theorem AF.row (m : MT) {c i : Nat} {z : Int} (h : 153 ≤ c ∧ c ≤ 157) : AF m (wt m c i z) := ⟨fun k _ x => wt_row _ _ (by omega), fun j _ _ _ _ _ _ => by rw [wt_row _ _ (by omega)]⟩
end ACT
