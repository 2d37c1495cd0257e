section TOK3
variable {d : Nat} {mi : MT} {r : Nat → Int} {n : Int}
def encW : List Int → Int
  | [] => 0
  | c :: cs => (c - 96) + 32 * encW cs
theorem encW_nn : ∀ cs : List Int, (∀ c ∈ cs, 97 ≤ c ∧ c ≤ 122) → 0 ≤ encW cs
  | [], _ => Int.le_refl 0
  | c :: cs, h => by
    have a := encW_nn cs (fun x hx => h x (List.mem_cons_of_mem _ hx))
    have b := h c List.mem_cons_self
    simp only [encW]; omega
theorem l_M_isWord {P : Bool → MT → Prop} {w e : Int} (he : mi 134 10 = e) (he2 : e ≤ 400) : ∀ (cs : List Int) (k : Int), (∀ c ∈ cs, 97 ≤ c ∧ c ≤ 122) → encW cs < 9223372036854775808 → 0 ≤ k → k ≤ e → (∀ i : Int, k ≤ i → i < e → mi 139 i.toNat = r i.toNat) → (e - k = (cs.length : Int) ∧ spl r k cs = true → P true mi) → (¬ (e - k = (cs.length : Int) ∧ spl r k cs = true) → P false mi) → h_M_isWord_8 d w (encW cs) k mi P
  | [], k, _, _, h0, hk, _, h1, h2 => by
    refine v_M_isWord_8 ?_
    rw [he]
    exact ⟨fun _ => ⟨fun q => h2 (fun z => q (by have := z.1; simp at this; omega)), fun q => h1 ⟨by simp; omega, rfl⟩⟩, fun q => absurd q (by simp [encW])⟩
  | c :: cs, k, hc, hb, h0, hk, hr, h1, h2 => by
    have a := encW_nn cs (fun x hx => hc x (List.mem_cons_of_mem _ hx))
    have b := hc c List.mem_cons_self
    have e1 : encW (c :: cs) = (c - 96) + 32 * encW cs := rfl
    refine v_M_isWord_8 ?_
    rw [he]
    refine ⟨fun q => by omega, fun q => ⟨fun q2 => h2 (fun z => by have := z.1; simp at this; omega), fun q2 => ⟨by omega, fun q3 => ⟨by omega, ?_⟩, fun q3 => h2 (fun z => ?_)⟩⟩⟩
    · rw [show encW (c :: cs) / 32 = encW cs by omega]
      have q4 : r k.toNat = c := by rw [← hr k (Int.le_refl _) q2]; omega
      refine l_M_isWord he he2 cs (k + 1) (fun x hx => hc x (List.mem_cons_of_mem _ hx)) (by omega) (by omega) (by omega) (fun i i1 i2 => hr i (by omega) i2) (fun z => h1 ⟨by simp; omega, ?_⟩) (fun z => h2 (fun y => z ⟨by have := y.1; simp at this; omega, ?_⟩))
      · simp only [spl, Bool.and_eq_true, decide_eq_true_eq]; exact ⟨q4, z.2⟩
      · have := y.2; simp only [spl, Bool.and_eq_true, decide_eq_true_eq] at this; exact this.2
    · have := z.2
      simp only [spl, Bool.and_eq_true, decide_eq_true_eq] at this
      rw [← hr k (Int.le_refl _) q2] at this
      omega
def isKW (w code : Int) (cs : List Int) : Prop := w = encW cs ∧ (encW cs < 9223372036854775808 ∧ 1 ≤ cs.length) ∧ (∀ c ∈ cs, 97 ≤ c ∧ c ≤ 122) ∧ ∀ (r : Nat → Int) (n p : Int), RB8 r n → 0 ≤ p → p ≤ n → (wd r n p = code ↔ (p < n ∧ te r n p - p = (cs.length : Int) ∧ spl r p cs = true))
theorem s_M_takesWord {P : Bool → MT → Prop} {w code p : Int} {cs : List Int} (hd : 2 < d) (hk : isKW w code cs) (hg : mi 134 12 = -1) (hM : MAT mi r n p) (h1 : wd r n p = code → p < n → ∀ u : Nat → Int, (∀ j : Nat, j ≠ 9 → j ≠ 10 → u j = mi 134 j) → MAT (sv mi 134 u) r n (nx r n p) → P true (sv mi 134 u)) (h0 : wd r n p ≠ code → P false mi) : c_M_takesWord d w mi P := by
  obtain ⟨a1, a2, a3, a4, a5⟩ := id hM
  obtain ⟨k1, k2, k3, k4⟩ := hk
  have k5 := k4 r n p a1.2.2.1 a3.1 a3.2
  subst k1
  refine v_M_takesWord ⟨by omega, fun q => absurd hg q, fun _ => v_M_isWord ?_⟩
  rw [a2]
  have e0 : (if p < n then te r n p else n) ≤ 400 := by
    have := a1.2.1
    split
    · rename_i c; have := te_in (r := r) c; omega
    · omega
  have e1 : p ≤ (if p < n then te r n p else n) := by
    split
    · rename_i c; have := te_in (r := r) c; omega
    · omega
  have e2 : (if p < n then te r n p else n) ≤ n := by
    split
    · rename_i c; have := te_in (r := r) c; omega
    · omega
  refine l_M_isWord (r := r) a4 e0 cs p k3 k2.1 a3.1 e1 (fun i i1 i2 => a1.2.2.2 i (by omega) (by omega)) (fun z => ⟨fun q => absurd q (by decide), fun _ => ?_⟩) (fun z => ⟨fun _ => h0 (fun q => z ?_), fun q => absurd q (by decide)⟩)
  · have pn : p < n := by
      by_cases c : p < n
      · exact c
      · rw [if_neg c] at z; omega
    rw [if_pos pn] at z a4
    exact s_M_next (by omega) a1 a4 (BD_te a3.1 pn) (fun u hu hu2 => h1 (k5.mpr ⟨pn, z⟩) pn u hu hu2)
  · have := k5.mp q
    rw [if_pos this.1]
    exact this.2
theorem b_M_takesWord {P : Bool → MT → Prop} {w : Int} (hd : 2 < d) (hg : mi 134 12 ≠ -1) (h : P false mi) : c_M_takesWord d w mi P := v_M_takesWord ⟨by omega, fun _ => h, fun q => absurd q hg⟩
theorem s_M_takesSign {P : Bool → MT → Prop} {c p : Int} (hd : 2 < d) (hc : (0 ≤ c ∧ c < 128) ∧ kdf c = 0) (hg : mi 134 12 = -1) (hM : MAT mi r n p) (h1 : wd r n p = c → p < n → ∀ u : Nat → Int, (∀ j : Nat, j ≠ 9 → j ≠ 10 → u j = mi 134 j) → MAT (sv mi 134 u) r n (nx r n p) → P true (sv mi 134 u)) (h0 : wd r n p ≠ c → P false mi) : c_M_takesSign d c mi P := by
  obtain ⟨a1, a2, a3, a4, a5⟩ := id hM
  have k := wd_c a1.2.2.1 a3.1 a3.2 hc
  have a0 := a1.2.1
  refine v_M_takesSign ?_
  rw [a2, a1.1]
  refine ⟨by omega, fun q => absurd hg q, fun _ => ⟨fun q => h0 (fun z => by have := k.mp z; omega), fun q => ⟨by omega, ?_⟩⟩⟩
  rw [a1.2.2.2 p a3.1 q]
  refine ⟨fun z => h0 (fun y => z (k.mp y).2), fun z => ?_⟩
  rw [if_pos q] at a4
  exact s_M_next (by omega) a1 a4 (BD_te a3.1 q) (fun u hu hu2 => h1 (k.mpr ⟨q, z⟩) q u hu hu2)
theorem b_M_takesSign {P : Bool → MT → Prop} {c : Int} (hd : 2 < d) (hg : mi 134 12 ≠ -1) (h : P false mi) : c_M_takesSign d c mi P := v_M_takesSign ⟨by omega, fun _ => h, fun q => absurd q hg⟩
theorem s_M_faults {P : MT → Prop} (hd : 1 < d) (hg : mi 134 12 = -1) (h : P (wt mi 134 12 (mi 134 9))) : c_M_faults d mi P := v_M_faults ⟨by omega, s_M_good ⟨fun q => by simp [hg] at q, fun _ => h⟩⟩
theorem b_M_faults {P : MT → Prop} (hd : 1 < d) (hg : mi 134 12 ≠ -1) (h : P mi) : c_M_faults d mi P := v_M_faults ⟨by omega, s_M_good ⟨fun _ => h, fun q => by simp [hg] at q⟩⟩
theorem b_M_number {P : Int → MT → Prop} {w : Int} (hd : 2 < d) (hg : mi 134 12 ≠ -1) (h : P 0 mi) : c_M_number d w mi P := v_M_number ⟨by omega, fun q => absurd q hg, fun _ => h⟩
theorem s_M_number {P : Int → MT → Prop} {w p : Int} (hd : 2 < d) (hw : 0 ≤ w ∧ w ≤ 999) (hg : mi 134 12 = -1) (hM : MAT mi r n p) (h1 : wd r n p = 301 → p < n → nv r n p ≤ w → ∀ u : Nat → Int, (∀ j : Nat, j ≠ 9 → j ≠ 10 → u j = mi 134 j) → MAT (sv mi 134 u) r n (nx r n p) → P (nv r n p) (sv mi 134 u)) (h0 : ¬ (wd r n p = 301 ∧ nv r n p ≤ w) → P 0 (wt mi 134 12 p)) : c_M_number d w mi P := by
  obtain ⟨a1, a2, a3, a4, a5⟩ := id hM
  have k := wd_301 a1.2.2.1 a3.1 a3.2
  have a0 := a1.2.1
  refine v_M_number ?_
  rw [a2, a1.1]
  refine ⟨by omega, fun _ => ⟨by omega, fun q => ?_, fun q => ?_⟩, fun q => absurd hg q⟩
  · have pn := q.1
    rw [a1.2.2.2 p a3.1 pn] at q
    have kd2 : kdf (r p.toNat) = 2 := kdf_2.mpr q.2
    have w301 := k.mpr ⟨pn, kd2⟩
    rw [if_pos pn] at a4
    have t := te_in (r := r) pn
    have dg : ∀ i : Int, p ≤ i → i < te r n p → 48 ≤ r i.toNat ∧ r i.toNat ≤ 57 := fun i i1 i2 => kdf_2.mp (by rw [te_all (r := r) pn i i1 i2]; exact kd2)
    have L : ∀ i : Int, i ≤ te r n p → p ≤ i → ∀ v : Int, (0 ≤ v ∧ v ≤ w ∧ nvK r (te r n p - i).toNat i v = nv r n p) ∨ ((w < v ∧ v ≤ 10000) ∧ w < nv r n p) → h_M_number_37 d w v i mi P := by
      refine upto _ (fun i hi ih i0 v hv => ?_)
      refine v_M_number_37 ?_
      rw [a4]
      refine ⟨fun q2 => ⟨fun q3 => ⟨by omega, ?_⟩, fun q3 => ⟨by omega, s_M_faults (by omega) hg ?_⟩⟩, fun q2 => ⟨fun q3 => ?_, fun q3 => ⟨by omega, ih q2 (by omega) v ?_⟩⟩⟩
      · have e : v = nv r n p := by
          rcases hv with hv | hv
          · rw [show (te r n p - i).toNat = 0 by omega] at hv; exact hv.2.2
          · omega
        rw [e]
        exact s_M_next (by omega) a1 a4 (BD_te a3.1 pn) (fun u hu hu2 => h1 w301 pn (by omega) u hu hu2)
      · rw [a2]; exact h0 (fun z => by omega)
      · have g := dg i i0 q2
        have hv := hv.resolve_right (by omega)
        rw [a1.2.2.2 i (by omega) (by omega)]
        refine ⟨by omega, ih q2 (by omega) _ ?_⟩
        rw [show (te r n p - i).toNat = (te r n p - (i + 1)).toNat + 1 by omega] at hv
        have e := hv.2.2
        simp only [nvK] at e
        by_cases c : 10 * v + r i.toNat - 48 ≤ w
        · left; exact ⟨by omega, c, e⟩
        · right
          have := nvK_mono r (te r n p - (i + 1)).toNat (i + 1) (10 * v + r i.toNat - 48) (by omega) (fun j j1 j2 => (dg j (by omega) (by omega)).1)
          omega
      · right; omega
    exact L p (by omega) (by omega) 0 (Or.inl ⟨by omega, by omega, rfl⟩)
  · refine s_M_faults (by omega) hg ?_
    rw [a2]
    refine h0 (fun z => q ?_)
    have := k.mp z.1
    rw [a1.2.2.2 p a3.1 this.1]
    exact ⟨this.1, kdf_2.mp this.2⟩
/-- a text comes from the tape -/
theorem s_M_begins {P : MT → Prop} (h7 : 0 ≤ mi 134 7 ∧ mi 134 7 ≤ 400) (hr : RB8 r (mi 134 7)) (ht : ∀ k : Int, 0 ≤ k → k < mi 134 7 → mi 138 k.toNat = r k.toNat) (h : ∀ t u : Nat → Int, (∀ j : Nat, j ≠ 7 → j ≠ 8 → j ≠ 10 → j ≠ 12 → u j = mi 134 j) → u 7 = 0 → u 12 = -1 → u 10 = 0 → MST (sv (sv mi 139 t) 134 u) r (mi 134 7) → P (sv (sv mi 139 t) 134 u)) : c_M_begins d mi P := by
  have L : ∀ k : Int, k ≤ mi 134 7 → 0 ≤ k → ∀ t : Nat → Int, (∀ j : Int, 0 ≤ j → j < k → t j.toNat = r j.toNat) → h_M_begins_15 d k (sv (sv mi 139 t) 134 (sv (sv (mi 134) 8 (mi 134 7)) 7 0)) P := by
    refine upto _ (fun k hk ih k0 t ht2 => ?_)
    refine v_M_begins_15 ?_
    simp only [wt_sv]
    rw [sv_comm mi (show 139 ≠ 134 by decide), wt_sv, ← sv_comm mi (show 139 ≠ 134 by decide)]
    simp only [svc, svr, Nat.reduceEqDiff, reduceIte]
    refine ⟨fun q => ?_, fun q => ?_⟩
    · refine h t _ (fun j b1 b2 b3 b4 => ?_) rfl rfl rfl ⟨rfl, h7, hr, fun j j0 j1 => ?_⟩
      · rw [svn _ _ b4, svn _ _ b3, svn _ _ b1, svn _ _ b2]
      · exact ht2 j j0 (by omega)
    · have e := ht k k0 q
      have rb := hr k k0 q
      rw [e, sv_comm mi (show 134 ≠ 139 by decide)]
      refine ⟨by omega, ih q (by omega) _ (fun j j0 j1 => ?_)⟩
      rw [svr]
      split
      · rw [show j = k by omega]
      · exact ht2 j j0 (by omega)
  refine v_M_begins ?_
  have e : wt (wt mi 134 8 (mi 134 7)) 134 7 0 = sv (sv mi 139 (mi 139)) 134 (sv (sv (mi 134) 8 (mi 134 7)) 7 0) := by
    rw [sv_self mi 139, wt_s mi, wt_sv]
  rw [e]
  exact L 0 (by omega) (by omega) (mi 139) (fun j a b => by omega)
theorem iw_if : isKW 201 303 [105, 102] := ⟨by decide, by decide, by decide, fun r n p hR h0 hp => wd_kw hR h0 hp (by decide) (by decide) (by decide) (kw_303 r p)⟩
theorem iw_do : isKW 484 304 [100, 111] := ⟨by decide, by decide, by decide, fun r n p hR h0 hp => wd_kw hR h0 hp (by decide) (by decide) (by decide) (kw_304 r p)⟩
theorem iw_or : isKW 591 305 [111, 114] := ⟨by decide, by decide, by decide, fun r n p hR h0 hp => wd_kw hR h0 hp (by decide) (by decide) (by decide) (kw_305 r p)⟩
theorem iw_and : isKW 4545 306 [97, 110, 100] := ⟨by decide, by decide, by decide, fun r n p hR h0 hp => wd_kw hR h0 hp (by decide) (by decide) (by decide) (kw_306 r p)⟩
theorem iw_not : isKW 20974 307 [110, 111, 116] := ⟨by decide, by decide, by decide, fun r n p hR h0 hp => wd_kw hR h0 hp (by decide) (by decide) (by decide) (kw_307 r p)⟩
theorem iw_set : isKW 20659 308 [115, 101, 116] := ⟨by decide, by decide, by decide, fun r n p hR h0 hp => wd_kw hR h0 hp (by decide) (by decide) (by decide) (kw_308 r p)⟩
theorem iw_end : isKW 4549 310 [101, 110, 100] := ⟨by decide, by decide, by decide, fun r n p hR h0 hp => wd_kw hR h0 hp (by decide) (by decide) (by decide) (kw_310 r p)⟩
theorem iw_drop : isKW 540228 309 [100, 114, 111, 112] := ⟨by decide, by decide, by decide, fun r n p hR h0 hp => wd_kw hR h0 hp (by decide) (by decide) (by decide) (kw_309 r p)⟩
theorem iw_turn : isKW 477876 314 [116, 117, 114, 110] := ⟨by decide, by decide, by decide, fun r n p hR h0 hp => wd_kw hR h0 hp (by decide) (by decide) (by decide) (kw_314 r p)⟩
theorem iw_begin : isKW 14982306 311 [98, 101, 103, 105, 110] := ⟨by decide, by decide, by decide, fun r n p hR h0 hp => wd_kw hR h0 hp (by decide) (by decide) (by decide) (kw_311 r p)⟩
theorem iw_shape : isKW 5768467 312 [115, 104, 97, 112, 101] := ⟨by decide, by decide, by decide, fun r n p hR h0 hp => wd_kw hR h0 hp (by decide) (by decide) (by decide) (kw_312 r p)⟩
theorem iw_place : isKW 5342608 313 [112, 108, 97, 99, 101] := ⟨by decide, by decide, by decide, fun r n p hR h0 hp => wd_kw hR h0 hp (by decide) (by decide) (by decide) (kw_313 r p)⟩
theorem iw_other : isKW 19047055 315 [111, 116, 104, 101, 114] := ⟨by decide, by decide, by decide, fun r n p hR h0 hp => wd_kw hR h0 hp (by decide) (by decide) (by decide) (kw_315 r p)⟩
theorem iw_states : isKW 643434131 316 [115, 116, 97, 116, 101, 115] := ⟨by decide, by decide, by decide, fun r n p hR h0 hp => wd_kw hR h0 hp (by decide) (by decide) (by decide) (kw_316 r p)⟩
theorem iw_p : isKW 16 112 [112] := ⟨by decide, by decide, by decide, fun r n p hR h0 hp => wd_1 hR h0 hp (by decide)⟩
theorem iw_t : isKW 20 116 [116] := ⟨by decide, by decide, by decide, fun r n p hR h0 hp => wd_1 hR h0 hp (by decide)⟩
theorem iw_o : isKW 15 111 [111] := ⟨by decide, by decide, by decide, fun r n p hR h0 hp => wd_1 hR h0 hp (by decide)⟩
end TOK3
