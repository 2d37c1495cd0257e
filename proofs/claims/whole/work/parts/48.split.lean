section CUT48
variable {d : Nat} {mi : MT} {r : Nat → Int} {n : Int}
theorem s_T0_spells {P : Bool → MT → Prop} {p : Int} (hd : 15 < d) (hT : TXT (mi 91) r n) (hn : mi 90 3 = n) (hp : 0 ≤ p ∧ p + 2 ≤ n) (h : P (spl r p [105, 102]) mi) : c_T0_spells d p mi P := Jd.mk (k_spells (i := 0) (by decide) hd hT hn hp h)
theorem s_T1_spells {P : Bool → MT → Prop} {p : Int} (hd : 15 < d) (hT : TXT (mi 91) r n) (hn : mi 90 3 = n) (hp : 0 ≤ p ∧ p + 2 ≤ n) (h : P (spl r p [100, 111]) mi) : c_T1_spells d p mi P := Jd.mk (k_spells (i := 1) (by decide) hd hT hn hp h)
theorem s_T2_spells {P : Bool → MT → Prop} {p : Int} (hd : 15 < d) (hT : TXT (mi 91) r n) (hn : mi 90 3 = n) (hp : 0 ≤ p ∧ p + 2 ≤ n) (h : P (spl r p [111, 114]) mi) : c_T2_spells d p mi P := Jd.mk (k_spells (i := 2) (by decide) hd hT hn hp h)
theorem s_T3_spells {P : Bool → MT → Prop} {p : Int} (hd : 15 < d) (hT : TXT (mi 91) r n) (hn : mi 90 3 = n) (hp : 0 ≤ p ∧ p + 3 ≤ n) (h : P (spl r p [97, 110, 100]) mi) : c_T3_spells d p mi P := Jd.mk (k_spells (i := 3) (by decide) hd hT hn hp h)
theorem s_T4_spells {P : Bool → MT → Prop} {p : Int} (hd : 15 < d) (hT : TXT (mi 91) r n) (hn : mi 90 3 = n) (hp : 0 ≤ p ∧ p + 3 ≤ n) (h : P (spl r p [110, 111, 116]) mi) : c_T4_spells d p mi P := Jd.mk (k_spells (i := 4) (by decide) hd hT hn hp h)
theorem s_T5_spells {P : Bool → MT → Prop} {p : Int} (hd : 15 < d) (hT : TXT (mi 91) r n) (hn : mi 90 3 = n) (hp : 0 ≤ p ∧ p + 3 ≤ n) (h : P (spl r p [115, 101, 116]) mi) : c_T5_spells d p mi P := Jd.mk (k_spells (i := 5) (by decide) hd hT hn hp h)
theorem s_T6_spells {P : Bool → MT → Prop} {p : Int} (hd : 15 < d) (hT : TXT (mi 91) r n) (hn : mi 90 3 = n) (hp : 0 ≤ p ∧ p + 3 ≤ n) (h : P (spl r p [101, 110, 100]) mi) : c_T6_spells d p mi P := Jd.mk (k_spells (i := 6) (by decide) hd hT hn hp h)
theorem s_T7_spells {P : Bool → MT → Prop} {p : Int} (hd : 15 < d) (hT : TXT (mi 91) r n) (hn : mi 90 3 = n) (hp : 0 ≤ p ∧ p + 4 ≤ n) (h : P (spl r p [100, 114, 111, 112]) mi) : c_T7_spells d p mi P := Jd.mk (k_spells (i := 7) (by decide) hd hT hn hp h)
theorem s_T8_spells {P : Bool → MT → Prop} {p : Int} (hd : 15 < d) (hT : TXT (mi 91) r n) (hn : mi 90 3 = n) (hp : 0 ≤ p ∧ p + 4 ≤ n) (h : P (spl r p [116, 117, 114, 110]) mi) : c_T8_spells d p mi P := Jd.mk (k_spells (i := 8) (by decide) hd hT hn hp h)
theorem s_T9_spells {P : Bool → MT → Prop} {p : Int} (hd : 15 < d) (hT : TXT (mi 91) r n) (hn : mi 90 3 = n) (hp : 0 ≤ p ∧ p + 5 ≤ n) (h : P (spl r p [98, 101, 103, 105, 110]) mi) : c_T9_spells d p mi P := Jd.mk (k_spells (i := 9) (by decide) hd hT hn hp h)
theorem s_T10_spells {P : Bool → MT → Prop} {p : Int} (hd : 15 < d) (hT : TXT (mi 91) r n) (hn : mi 90 3 = n) (hp : 0 ≤ p ∧ p + 5 ≤ n) (h : P (spl r p [115, 104, 97, 112, 101]) mi) : c_T10_spells d p mi P := Jd.mk (k_spells (i := 10) (by decide) hd hT hn hp h)
theorem s_T11_spells {P : Bool → MT → Prop} {p : Int} (hd : 15 < d) (hT : TXT (mi 91) r n) (hn : mi 90 3 = n) (hp : 0 ≤ p ∧ p + 5 ≤ n) (h : P (spl r p [112, 108, 97, 99, 101]) mi) : c_T11_spells d p mi P := Jd.mk (k_spells (i := 11) (by decide) hd hT hn hp h)
theorem s_T12_spells {P : Bool → MT → Prop} {p : Int} (hd : 15 < d) (hT : TXT (mi 91) r n) (hn : mi 90 3 = n) (hp : 0 ≤ p ∧ p + 5 ≤ n) (h : P (spl r p [111, 116, 104, 101, 114]) mi) : c_T12_spells d p mi P := Jd.mk (k_spells (i := 12) (by decide) hd hT hn hp h)
theorem s_T13_spells {P : Bool → MT → Prop} {p : Int} (hd : 15 < d) (hT : TXT (mi 91) r n) (hn : mi 90 3 = n) (hp : 0 ≤ p ∧ p + 6 ≤ n) (h : P (spl r p [115, 116, 97, 116, 101, 115]) mi) : c_T13_spells d p mi P := Jd.mk (k_spells (i := 13) (by decide) hd hT hn hp h)
theorem s_T_keyword {P : Int → MT → Prop} {p z : Int} (hd : 20 < d) (hT : TXT (mi 91) r n) (hn : mi 90 3 = n) (hp : 0 ≤ p ∧ p + z ≤ n) (hz : 1 < z) (h : P (kwd r p z) mi) : c_T_keyword d p z mi P := by
  have B : ∀ {b : Bool} {A C : Prop}, (b = true → A) → (b = false → C) → (b = false → C) ∧ (b = true → A) := fun a c => ⟨c, a⟩
  unfold kwd at h
  refine v_T_keyword ⟨fun q => ?_, fun q => ?_, fun q => ?_, fun q => ?_, fun q => ?_, fun q => ?_⟩
  · subst q
    rw [if_pos rfl] at h
    refine ⟨by omega, s_T0_spells (by omega) hT hn (by omega) (B (fun e => by rw [e, if_pos rfl] at h; exact h) (fun e => ?_))⟩
    rw [e, if_neg (by decide)] at h
    refine s_T1_spells (by omega) hT hn (by omega) (B (fun e => by rw [e, if_pos rfl] at h; exact h) (fun e => ?_))
    rw [e, if_neg (by decide)] at h
    exact s_T2_spells (by omega) hT hn (by omega) (B (fun e => by rw [e, if_pos rfl] at h; exact h) (fun e => by rw [e, if_neg (by decide)] at h; exact h))
  · subst q
    rw [if_neg (by decide), if_pos rfl] at h
    refine ⟨by omega, s_T3_spells (by omega) hT hn (by omega) (B (fun e => by rw [e, if_pos rfl] at h; exact h) (fun e => ?_))⟩
    rw [e, if_neg (by decide)] at h
    refine s_T4_spells (by omega) hT hn (by omega) (B (fun e => by rw [e, if_pos rfl] at h; exact h) (fun e => ?_))
    rw [e, if_neg (by decide)] at h
    refine s_T5_spells (by omega) hT hn (by omega) (B (fun e => by rw [e, if_pos rfl] at h; exact h) (fun e => ?_))
    rw [e, if_neg (by decide)] at h
    exact s_T6_spells (by omega) hT hn (by omega) (B (fun e => by rw [e, if_pos rfl] at h; exact h) (fun e => by rw [e, if_neg (by decide)] at h; exact h))
  · subst q
    rw [if_neg (by decide), if_neg (by decide), if_pos rfl] at h
    refine ⟨by omega, s_T7_spells (by omega) hT hn (by omega) (B (fun e => by rw [e, if_pos rfl] at h; exact h) (fun e => ?_))⟩
    rw [e, if_neg (by decide)] at h
    exact s_T8_spells (by omega) hT hn (by omega) (B (fun e => by rw [e, if_pos rfl] at h; exact h) (fun e => by rw [e, if_neg (by decide)] at h; exact h))
  · subst q
    rw [if_neg (by decide), if_neg (by decide), if_neg (by decide), if_pos rfl] at h
    refine ⟨by omega, s_T9_spells (by omega) hT hn (by omega) (B (fun e => by rw [e, if_pos rfl] at h; exact h) (fun e => ?_))⟩
    rw [e, if_neg (by decide)] at h
    refine s_T10_spells (by omega) hT hn (by omega) (B (fun e => by rw [e, if_pos rfl] at h; exact h) (fun e => ?_))
    rw [e, if_neg (by decide)] at h
    refine s_T11_spells (by omega) hT hn (by omega) (B (fun e => by rw [e, if_pos rfl] at h; exact h) (fun e => ?_))
    rw [e, if_neg (by decide)] at h
    exact s_T12_spells (by omega) hT hn (by omega) (B (fun e => by rw [e, if_pos rfl] at h; exact h) (fun e => by rw [e, if_neg (by decide)] at h; exact h))
  · subst q
    rw [if_neg (by decide), if_neg (by decide), if_neg (by decide), if_neg (by decide), if_pos rfl] at h
    exact ⟨by omega, s_T13_spells (by omega) hT hn (by omega) (B (fun e => by rw [e, if_pos rfl] at h; exact h) (fun e => by rw [e, if_neg (by decide)] at h; exact h))⟩
  · rw [if_neg (by omega), if_neg (by omega), if_neg (by omega), if_neg (by omega), if_neg (by omega)] at h
    exact h
theorem s_T_wordAt {P : Int → MT → Prop} {p : Int} (hd : 22 < d) (hT : TXT (mi 91) r n) (hn : mi 90 3 = n) (hp : 0 ≤ p ∧ p < n) (h : P (wd r n p) mi) : c_T_wordAt d p mi P := by
  have a := hT.2 p hp.1 hp.2
  have b := hT.1
  have kd : kdf (mi 91 p.toNat) = kdf (r p.toNat) := by rw [a.2, kdf_sg a.1]
  have t := te_in (r := r) hp.2
  unfold wd at h
  rw [if_neg (by omega)] at h
  refine v_T_wordAt ?_
  rw [kd]
  refine ⟨by omega, fun q => ?_, fun q => by rw [if_pos q] at h; exact h⟩
  rw [if_neg q] at h
  refine s_T_reach (by omega) hT hn hp ⟨by omega, fun q2 => ?_, fun q2 => ?_⟩
  · rw [if_neg q2] at h
    exact s_T_keyword (by omega) hT hn (by omega) (by omega) h
  · rw [if_pos q2, a.2, u8_sg a.1] at h; exact h
/-- the tokens of a text as the class lays them: where they start, which words -/
def TKS (r : Nat → Int) (n T : Int) (s w : Nat → Int) : Prop := (0 ≤ T ∧ T ≤ 400) ∧ s 0 = fs r n 0 ∧ s T.toNat = n ∧ w T.toNat = 300 ∧ ∀ a : Int, 0 ≤ a → a < T → (0 ≤ s a.toNat ∧ s a.toNat < n) ∧ isSb r (s a.toNat) = true ∧ s (a + 1).toNat = nx r n (s a.toNat) ∧ w a.toNat = wd r n (s a.toNat)
theorem s_T_split {P : MT → Prop} (hd : 24 < d) (hT : TXT (mi 91) r n) (hn : mi 90 3 = n) (h : ∀ (T : Int) (s w : Nat → Int), TKS r n T s w → P (sv (sv mi 92 s) 93 w)) : c_T_split d mi P := by
  obtain ⟨n0, hb⟩ := id hT
  have kd : ∀ k : Int, 0 ≤ k → k < n → kdf (mi 91 k.toNat) = kdf (r k.toNat) := fun k a b => by rw [(hb k a b).2, kdf_sg (hb k a b).1]
  have b32 : ∀ k : Int, 0 ≤ k → k < n → (mi 91 k.toNat = 32 ↔ r k.toNat = 32) := fun k a b => by rw [(hb k a b).2, sg_eq (hb k a b).1 (by decide)]
  -- the words
  have W : ∀ (T : Int) (s : Nat → Int), (0 ≤ T ∧ T ≤ 400) → s 0 = fs r n 0 → s T.toNat = n → (∀ a : Int, 0 ≤ a → a < T → (0 ≤ s a.toNat ∧ s a.toNat < n) ∧ isSb r (s a.toNat) = true ∧ s (a + 1).toNat = nx r n (s a.toNat)) → ∀ a : Int, a ≤ T → 0 ≤ a → ∀ w : Nat → Int, (∀ j : Int, 0 ≤ j → j < a → w j.toNat = wd r n (s j.toNat)) → h_T_split_96 d T a (sv (sv mi 92 s) 93 w) P := by
    intro T s hT0 hs0 hsT hs
    refine upto _ (fun a ha ih a0 w hw => ?_)
    refine v_T_split_96 ?_
    simp only [wt_sv, svc, Nat.reduceEqDiff, reduceIte]
    refine ⟨fun q => ⟨by omega, h T s _ ⟨hT0, hs0, hsT, sv_eq _ _ _, fun j j0 j1 => ?_⟩⟩, fun q => ⟨by omega, s_T_wordAt (mi := sv (sv mi 92 s) 93 w) (by omega) hT hn (hs a a0 q).1 ⟨by omega, ?_⟩⟩⟩
    · have := hs j j0 j1
      exact ⟨this.1, this.2.1, this.2.2, by rw [svn _ _ (by omega)]; exact hw j j0 (by omega)⟩
    · rw [wt_sv]
      refine ih q (by omega) _ (fun j j0 j1 => ?_)
      rw [svr]
      split
      · rw [show j = a by omega]
      · exact hw j j0 (by omega)
  -- the starts
  have L : ∀ i : Int, i ≤ n → 0 ≤ i → ∀ (t : Int) (s : Nat → Int), (0 ≤ t ∧ t ≤ i) → (t = 0 → fs r n 0 = fs r n i) → (0 < t → s 0 = fs r n 0 ∧ fs r n (s (t - 1).toNat + 1) = fs r n i) → (∀ a : Int, 0 ≤ a → a < t → (0 ≤ s a.toNat ∧ s a.toNat < i) ∧ isSb r (s a.toNat) = true) → (∀ a : Int, 0 ≤ a → a + 1 < t → s (a + 1).toNat = nx r n (s a.toNat)) → h_T_split_4 d t i (sv mi 92 s) P := by
    refine upto _ (fun i hi ih i0 t s ht h0 h1 h2 h3 => ?_)
    have No : i < n → isSb r i = false → h_T_split_4 d t (i + 1) (sv mi 92 s) P := by
      intro q e
      have f : fs r n i = fs r n (i + 1) := by rw [fs_s q, if_neg (by rw [e]; decide)]
      exact ih q (by omega) t s (by omega) (fun z => by rw [h0 z, f]) (fun z => by rw [(h1 z).2, f]; exact ⟨(h1 z).1, rfl⟩) (fun a a0 a1 => ⟨by have := (h2 a a0 a1).1; omega, (h2 a a0 a1).2⟩) h3
    have Yes : i < n → isSb r i = true → h_T_split_4 d (t + 1) (i + 1) (sv mi 92 (sv s t.toNat i)) P := by
      intro q e
      have f : fs r n i = i := by rw [fs_s q, if_pos e]
      refine ih q (by omega) (t + 1) _ (by omega) (fun z => by omega) (fun _ => ⟨?_, by rw [show t + 1 - 1 = t by omega, sv_eq]⟩) (fun a a0 a1 => ?_) (fun a a0 a1 => ?_)
      · by_cases c : t = 0
        · subst c; rw [show sv s (0 : Int).toNat i 0 = i from sv_eq _ _ _, h0 rfl, f]
        · rw [svn _ _ (by omega)]; exact (h1 (by omega)).1
      · by_cases c : a = t
        · subst c; rw [sv_eq]; exact ⟨by omega, e⟩
        · rw [svn _ _ (by omega)]; have := h2 a a0 (by omega); exact ⟨by omega, this.2⟩
      · by_cases c : a + 1 = t
        · rw [c, sv_eq, svn _ _ (by omega)]
          have := (h1 (by omega)).2
          rw [show t - 1 = a by omega, f] at this
          have g := (h2 a a0 (by omega)).1
          rw [← fs_te g.1 (by omega), this]
        · rw [svn _ _ (by omega), svn _ _ (by omega)]; exact h3 a a0 (by omega)
    refine v_T_split_4 ?_
    simp only [wt_sv, svc, Nat.reduceEqDiff, reduceIte]
    rw [hn]
    refine ⟨fun q => ⟨by omega, ?_⟩, fun q => ⟨by omega, fun z => ?_, fun z => ?_⟩⟩
    · have ei : i = n := by omega
      subst ei
      have := W t (sv s t.toNat i) (by omega) ?_ (sv_eq _ _ _) (fun a a0 a1 => ?_) 0 (by omega) (by omega) (mi 93) (fun j p p2 => by omega)
      · rw [show (sv (sv mi 92 (sv s t.toNat i)) 93 (mi 93)) = sv mi 92 (sv s t.toNat i) from sv_self (sv mi 92 (sv s t.toNat i)) 93] at this
        exact this
      · by_cases c : t = 0
        · subst c; rw [show sv s (0 : Int).toNat i 0 = i from sv_eq _ _ _, h0 rfl, fs_n]
        · rw [svn _ _ (by omega)]; exact (h1 (by omega)).1
      · have g := h2 a a0 a1
        rw [svn _ _ (show a.toNat ≠ t.toNat by omega)]
        refine ⟨g.1, g.2, ?_⟩
        by_cases c : a + 1 = t
        · rw [c, sv_eq]
          have := (h1 (by omega)).2
          rw [show t - 1 = a by omega, fs_n] at this
          rw [← fs_te g.1.1 (by omega), this]
        · rw [svn _ _ (by omega)]; exact h3 a a0 (by omega)
    · have w := b32 i i0 q
      refine ⟨fun y => ⟨by omega, No q (isSb_f.mpr (fun x => x.1 (w.mp y)))⟩, fun y => ⟨by omega, Yes q (isSb_t.mpr ⟨fun x => y (w.mpr x), fun x => by omega⟩)⟩⟩
    · have w := b32 i i0 q
      have k1 := kd i i0 q
      have k2 := kd (i - 1) (by omega) (by omega)
      rw [k1, k2]
      refine ⟨fun y0 => ⟨fun y => ⟨by omega, No q (isSb_f.mpr (fun x => x.1 (w.mp y)))⟩, fun y => ⟨by omega, Yes q (isSb_t.mpr ⟨fun x => y (w.mpr x), fun x => x.2.1 y0⟩)⟩⟩, fun y0 => ⟨by omega, fun y1 => ⟨fun y => ⟨by omega, No q (isSb_f.mpr (fun x => x.1 (w.mp y)))⟩, fun y => ⟨by omega, Yes q (isSb_t.mpr ⟨fun x => y (w.mpr x), fun x => y1 x.2.2⟩)⟩⟩, fun y1 => ⟨fun y => ⟨by omega, No q (isSb_f.mpr (fun x => x.1 (w.mp y)))⟩, fun y => ⟨by omega, No q (isSb_f.mpr (fun x => x.2 ⟨z, y0, y1⟩))⟩⟩⟩⟩
  have := L 0 (by omega) (by omega) 0 (mi 92) (by omega) (fun _ => rfl) (fun q => by omega) (fun a p p2 => by omega) (fun a p p2 => by omega)
  rw [sv_self] at this
  exact v_T_split this
end CUT48
