section EXTEND
variable {d : Nat} {M : MT} {fr kn n : Int}
/-- keys with which frame f is led to state i of a sign that started at some frame -/
def LNX (M : MT) (fr kn : Int) (A : Int → Int → Prop) (k a b c f i x : Int) : Prop := ∃ f0 v0 v1 : Int, A f0 v0 ∧ f0 ≤ f ∧ PT (kc M fr kn a b c) f0 (f - f0).toNat 0 i v1 ∧ x = 32 * (v0 + v1 + M 135 4) + 1 + k
theorem LNX_step {A : Int → Int → Prop} {k a b c f i x : Int} (hi : 0 ≤ i) : LNX M fr kn A k a b c f i x ↔ (LNX M fr kn A k a b c (f - 1) i (x - kc M fr kn a b c f i * 32) ∨ (if i = 0 then SX M A k f (x - kc M fr kn a b c f i * 32) else LNX M fr kn A k a b c (f - 1) (i - 1) (x - kc M fr kn a b c f i * 32))) := by
  constructor
  · rintro ⟨f0, v0, v1, hA, hf, hp, rfl⟩
    by_cases e : f0 = f
    · subst e
      rw [show (f0 - f0).toNat = 0 by omega] at hp
      obtain ⟨e0, rfl⟩ := hp
      refine Or.inr ?_
      rw [if_pos e0.symm]
      subst e0
      exact ⟨v0, hA, by omega⟩
    · obtain ⟨q, hq⟩ : ∃ q : Nat, (f - f0).toNat = q + 1 := ⟨(f - f0).toNat - 1, by omega⟩
      rw [hq] at hp
      obtain ⟨t', v', hp', e', rfl⟩ := hp
      have st := PT_st _ _ _ _ _ _ hp'
      have ef : f0 + (q : Int) + 1 = f := by omega
      rw [ef]
      have eq1 : (f - 1 - f0).toNat = q := by omega
      rcases e' with rfl | e'
      · exact Or.inl ⟨f0, v0, v', hA, by omega, by rw [eq1]; exact hp', by omega⟩
      · refine Or.inr ?_
        rw [if_neg (by omega)]
        exact ⟨f0, v0, v', hA, by omega, by rw [eq1, show i - 1 = t' by omega]; exact hp', by omega⟩
  · rintro (⟨f0, v0, v1, hA, hf, hp, e⟩ | h)
    · obtain ⟨q, hq⟩ : ∃ q : Nat, (f - 1 - f0).toNat = q := ⟨_, rfl⟩
      rw [hq] at hp
      refine ⟨f0, v0, v1 + kc M fr kn a b c f i, hA, by omega, ?_, by omega⟩
      rw [show (f - f0).toNat = q + 1 by omega]
      exact ⟨i, v1, hp, Or.inl rfl, by rw [show f0 + (q : Int) + 1 = f by omega]⟩
    · split at h
      · rename_i e0
        obtain ⟨v, hA, e⟩ := h
        subst e0
        exact ⟨f, v, kc M fr kn a b c f 0, hA, Int.le_refl _, by rw [show (f - f).toNat = 0 by omega]; exact ⟨rfl, rfl⟩, by omega⟩
      · obtain ⟨f0, v0, v1, hA, hf, hp, e⟩ := h
        obtain ⟨q, hq⟩ : ∃ q : Nat, (f - 1 - f0).toNat = q := ⟨_, rfl⟩
        rw [hq] at hp
        refine ⟨f0, v0, v1 + kc M fr kn a b c f i, hA, by omega, ?_, by omega⟩
        rw [show (f - f0).toNat = q + 1 by omega]
        exact ⟨i - 1, v1, hp, Or.inr (by omega), by rw [show f0 + (q : Int) + 1 = f by omega]⟩
theorem LNX_in (H : HX M fr kn n) {A : Int → Int → Prop} {k a b c f i x : Int} (hB : ABd n A k) (hk : 0 ≤ k ∧ k < 20) (hv : VS (M 135 0) a b c) (hf : f < n) (hi : i < (SF M a b c).1) (h : LNX M fr kn A k a b c f i x) : 0 ≤ x ∧ x ≤ 60000000 := by
  obtain ⟨f0, v0, v1, hA, h1, hp, rfl⟩ := h
  have hn := H.2.2.2.2.2.2
  have pr := H.1.2.2.2.2.2
  have := hB f0 v0 hA
  have := PT_in (z := (SF M a b c).1) (m := n) (fun g i _ _ i0 i1 => kc_in H hv ⟨i0, i1⟩) _ 0 i v1 (by omega) (by omega) hi hp
  omega
/-- what the frames so far give the sign behind -/
def EXs (M : MT) (fr kn n : Int) (A : Int → Int → Prop) (k a b c : Int) (D : Int → Int → Prop) (f' x : Int) : Prop := ∃ f s y : Int, D f s ∧ f < n ∧ (0 ≤ s ∧ s < 4) ∧ f' = f + 1 + s ∧ LNX M fr kn A k a b c f ((SF M a b c).1 - 1) y ∧ x = y + (M 135 4 * 32 + 1) + s * (32 * M 135 3)
theorem s_R_extend {m : MT} {P : MT → Prop} {A : Int → Int → Prop} {k a b c : Int} (hd : 3 < d) (H : HX M fr kn n) (e103 : m 103 1 = n) (e15 : m 105 15 = M 135 3 * 32) (e16 : m 105 16 = M 135 4 * 32 + 1) (hC : CT (m 104) (M 135) fr kn n) (hk : 0 ≤ k ∧ k < 20) (hB : ABd n A k) (hA : SHD M m A k n) (hv : VS (M 135 0) a b c) (T : TSs M m a b c) (h : ∀ l t : Nat → Int, SHD M (sv (sv m 115 l) 114 t) (AN M fr kn n A a b c) (k + 1) n → (∀ j : Nat, ¬ (k * 20 + 20 ≤ j ∧ (j : Int) < k * 20 + 40) → t j = m 114 j) → P (sv (sv m 115 l) 114 t)) : c_R_extend d k (trp a b c) m P := by
  have hn := H.2.2.2.2.2.2
  have pr := H.1.2.2.2.2.2
  have sl := H.1.2.2.2.1
  have s10 := H.1.2.1
  obtain ⟨v1, v2, v3⟩ := id hv
  have SS := SOK_SF H hv
  have sz := SS.1
  have tb : 0 ≤ trp a b c ∧ trp a b c < 1210 := by unfold trp pr_; omega
  have AE : ∀ (t : Nat → Int) (f : Int), (∀ j : Nat, ¬ (k * 20 + 20 ≤ j ∧ (j : Int) < k * 20 + 40) → t j = m 114 j) → 0 ≤ f → f < n → t (k * 20 + f).toNat = m 114 (k * 20 + f).toNat := fun t f ht f0 f1 => ht _ (by omega)
  -- the frames
  have LF : ∀ f : Int, (f ≤ n ∨ f = k) → k ≤ f → ∀ l t : Nat → Int, (∀ j : Nat, ¬ (k * 20 + 20 ≤ j ∧ (j : Int) < k * 20 + 40) → t j = m 114 j) → (∀ i : Int, 0 ≤ i → i < (SF M a b c).1 → MN (fun x => LNX M fr kn A k a b c (f - 1) i x) (l i.toNat)) → (∀ f' : Int, 0 ≤ f' → f' < 20 → MN (fun x => f' < n ∧ EXs M fr kn n A k a b c (fun f1 _ => f1 < f) f' x) (t (k * 20 + 20 + f').toNat)) → h_R_extend_42 d k (trp a b c) (k * 20) (k * 20 + 20) (SF M a b c).1 f (sv (sv m 115 l) 114 t) P := by
    have FIN : ∀ f : Int, n ≤ f → k ≤ f → ∀ l t : Nat → Int, (∀ j : Nat, ¬ (k * 20 + 20 ≤ j ∧ (j : Int) < k * 20 + 40) → t j = m 114 j) → (∀ f' : Int, 0 ≤ f' → f' < 20 → MN (fun x => f' < n ∧ EXs M fr kn n A k a b c (fun f1 _ => f1 < f) f' x) (t (k * 20 + 20 + f').toNat)) → P (sv (sv m 115 l) 114 t) := by
      intro f hf hkf l t t1 t2
      refine h l t (fun f' f0 f1 => ?_) t1
      show MN _ (t ((k + 1) * 20 + f').toNat)
      rw [show (k + 1) * 20 + f' = k * 20 + 20 + f' by omega]
      refine MN_cg (t2 f' f0 (by omega)) (fun x => ?_)
      constructor
      · rintro ⟨v, ⟨f2, g, s, w0, w1, hA1, hs, hb, rfl, rfl⟩, rfl⟩
        have fg := hs.2.1
        refine ⟨f1, g - 1, s, 32 * (w0 + w1 + M 135 4) + 1 + k, by omega, by omega, by omega, by omega, ⟨f2, w0, w1, hA1, by omega, by rw [show (g - 1 - f2).toNat = (g - f2 - 1).toNat by omega]; exact hs.2.2, rfl⟩, ?_⟩
        have e2 : s * (32 * M 135 3) = 32 * (s * M 135 3) := by rw [Int.mul_left_comm]
        rw [e2]; omega
      · rintro ⟨_, f3, s, y, _, hf3, hs, e, ⟨f2, w0, w1, hA1, hf2, hp, rfl⟩, rfl⟩
        have ab := hB f2 w0 hA1
        refine ⟨w0 + w1 + M 135 4 + s * M 135 3, ⟨f2, f3 + 1, s, w0, w1, hA1, ⟨⟨⟨by omega, by omega⟩, hv⟩, by omega, by rw [show (f3 + 1 - f2 - 1).toNat = (f3 - f2).toNat by omega]; exact hp⟩, by omega, e, rfl⟩, ?_⟩
        have e2 : s * (32 * M 135 3) = 32 * (s * M 135 3) := by rw [Int.mul_left_comm]
        rw [e2]; omega
    have LL : ∀ f : Int, f ≤ n → k ≤ f → ∀ l t : Nat → Int, (∀ j : Nat, ¬ (k * 20 + 20 ≤ j ∧ (j : Int) < k * 20 + 40) → t j = m 114 j) → (∀ i : Int, 0 ≤ i → i < (SF M a b c).1 → MN (fun x => LNX M fr kn A k a b c (f - 1) i x) (l i.toNat)) → (∀ f' : Int, 0 ≤ f' → f' < 20 → MN (fun x => f' < n ∧ EXs M fr kn n A k a b c (fun f1 _ => f1 < f) f' x) (t (k * 20 + 20 + f').toNat)) → h_R_extend_42 d k (trp a b c) (k * 20) (k * 20 + 20) (SF M a b c).1 f (sv (sv m 115 l) 114 t) P := by
      refine upto _ (fun f hf ih f0 l t t1 l1 t2 => ?_)
      refine v_R_extend_42 ?_
      have x103 : (sv (sv m 115 l) 114 t) 103 1 = n := e103
      rw [x103]
      refine ⟨fun q => FIN f q f0 l t t1 t2, fun q => ⟨by omega, ?_⟩⟩
      -- the states, downwards
      have LS : ∀ i : Int, -1 ≤ i → i < (SF M a b c).1 → ∀ l' : Nat → Int, (∀ j : Int, 0 ≤ j → j ≤ i → l' j.toNat = l j.toNat) → (∀ j : Int, i < j → 0 ≤ j → j < (SF M a b c).1 → MN (fun x => LNX M fr kn A k a b c f j x) (l' j.toNat)) → h_R_extend_60 d k (trp a b c) (k * 20) (k * 20 + 20) (SF M a b c).1 f i (sv (sv m 115 l') 114 t) P := by
        refine dnto _ (fun i hi ihs hiz l' y1 y2 => ?_)
        refine v_R_extend_60 ⟨fun g => ?_, fun g => ?_⟩
        · have xl : (sv (sv m 115 l') 114 t) 115 ((SF M a b c).1 - 1).toNat = l' ((SF M a b c).1 - 1).toNat := rfl
          have x16 : (sv (sv m 115 l') 114 t) 105 16 = M 135 4 * 32 + 1 := e16
          rw [xl, x16]
          have LZ := y2 ((SF M a b c).1 - 1) (by omega) (by omega) (by omega)
          have lzb := LZ.2.2
          have lz0 : 0 ≤ l' ((SF M a b c).1 - 1).toNat := by
            by_cases cc : l' ((SF M a b c).1 - 1).toNat < 268435456
            · exact (LNX_in H hB hk hv q (by omega) (LZ.1 cc)).1
            · omega
          refine ⟨by omega, ?_⟩
          -- the slides
          have LP : ∀ s : Int, s ≤ 4 → 0 ≤ s → ∀ t : Nat → Int, (∀ j : Nat, ¬ (k * 20 + 20 ≤ j ∧ (j : Int) < k * 20 + 40) → t j = m 114 j) → (∀ f' : Int, 0 ≤ f' → f' < 20 → MN (fun x => f' < n ∧ EXs M fr kn n A k a b c (fun f1 s1 => f1 < f ∨ (f1 = f ∧ s1 < s)) f' x) (t (k * 20 + 20 + f').toNat)) → h_R_extend_172 d k (trp a b c) (k * 20) (k * 20 + 20) (SF M a b c).1 f (l' ((SF M a b c).1 - 1).toNat + (M 135 4 * 32 + 1) + s * (32 * M 135 3)) (f + 1 + s) (sv (sv m 115 l') 114 t) P := by
            refine upto _ (fun s hs ihp s0 t t1 t2 => ?_)
            have ms := mul_in (x := s) (y := 32 * M 135 3) (X := 4) (Y := 32000) (by omega) (by omega)
            have GO : (n ≤ f + 1 + s ∨ 4 ≤ s) → h_R_extend_42 d k (trp a b c) (k * 20) (k * 20 + 20) (SF M a b c).1 (f + 1) (sv (sv m 115 l') 114 t) P := by
              intro w
              refine ih q (by omega) l' t t1 (fun i i0 i1 => by rw [show f + 1 - 1 = f by omega]; exact y2 i (by omega) i0 i1) (fun f' a' b' => MN_cg (t2 f' a' b') (fun x => ?_))
              constructor
              · rintro ⟨hfn, f3, s3, y, hD, r⟩
                exact ⟨hfn, f3, s3, y, by omega, r⟩
              · rintro ⟨hfn, f3, s3, y, hD, r⟩
                exact ⟨hfn, f3, s3, y, by omega, r⟩
            refine v_R_extend_172 ?_
            have x103 : (sv (sv m 115 l') 114 t) 103 1 = n := e103
            have x15 : (sv (sv m 115 l') 114 t) 105 15 = M 135 3 * 32 := e15
            have xt : (sv (sv m 115 l') 114 t) 114 (k * 20 + 20 + (f + 1 + s)).toNat = t (k * 20 + 20 + (f + 1 + s)).toNat := rfl
            rw [x103, x15, xt]
            refine ⟨fun w => ⟨by omega, GO (Or.inl w)⟩, fun w => ⟨by omega, fun w2 => GO (Or.inr (by omega)), fun w2 => ?_⟩⟩
            have T2 := t2 (f + 1 + s) (by omega) (by omega)
            have t2b := T2.2.2
            have CP := MN_cap LZ (k := M 135 4 * 32 + 1 + s * (32 * M 135 3)) (by omega) (fun x hx => by have := LNX_in H hB hk hv q (by omega) hx; omega)
            have NX := MN_cg (T := fun x => f + 1 + s < n ∧ EXs M fr kn n A k a b c (fun f1 s1 => f1 < f ∨ (f1 = f ∧ s1 < s + 1)) (f + 1 + s) x) (MN_or T2 CP) (fun x => by
              constructor
              · rintro ⟨hfn, f3, s3, y, hD, hf3, hs3, e, hy, e2⟩
                by_cases c1 : f3 = f ∧ s3 = s
                · obtain ⟨rfl, rfl⟩ := c1
                  refine Or.inr ?_
                  show LNX _ _ _ _ _ _ _ _ _ _ _
                  rw [show x - (M 135 4 * 32 + 1 + s3 * (32 * M 135 3)) = y by omega]; exact hy
                · exact Or.inl ⟨hfn, f3, s3, y, by omega, hf3, hs3, e, hy, e2⟩
              · rintro (⟨hfn, f3, s3, y, hD, r⟩ | hy)
                · exact ⟨hfn, f3, s3, y, by omega, r⟩
                · exact ⟨w, f, s, _, by omega, q, by omega, rfl, hy, by omega⟩)
            have em : min (t (k * 20 + 20 + (f + 1 + s)).toNat) (min 268435456 (M 135 4 * 32 + 1 + s * (32 * M 135 3) + l' ((SF M a b c).1 - 1).toNat)) = min (t (k * 20 + 20 + (f + 1 + s)).toNat) (l' ((SF M a b c).1 - 1).toNat + (M 135 4 * 32 + 1) + s * (32 * M 135 3)) := by omega
            rw [em] at NX
            have ep : l' ((SF M a b c).1 - 1).toNat + (M 135 4 * 32 + 1) + s * (32 * M 135 3) + M 135 3 * 32 = l' ((SF M a b c).1 - 1).toNat + (M 135 4 * 32 + 1) + (s + 1) * (32 * M 135 3) := by rw [Int.add_mul]; omega
            refine ⟨by omega, ?_⟩
            rw [ep, wt_sv, show f + 1 + s + 1 = f + 1 + (s + 1) by omega]
            refine ihp (by omega) (by omega) _ (fun j hj => by rw [svn _ _ (by omega)]; exact t1 j hj) (fun f' a' b' => ?_)
            by_cases e : f' = f + 1 + s
            · subst e; rw [sv_eq]; exact NX
            · rw [svn _ _ (by omega)]
              refine MN_cg (t2 f' a' b') (fun x => ?_)
              constructor
              · rintro ⟨hfn, f3, s3, y, hD, hf3, hs3, e3, r⟩
                exact ⟨hfn, f3, s3, y, by omega, hf3, hs3, e3, r⟩
              · rintro ⟨hfn, f3, s3, y, hD, r⟩
                exact ⟨hfn, f3, s3, y, by omega, r⟩
          have := LP 0 (by omega) (by omega) t t1 (fun f' a' b' => MN_cg (t2 f' a' b') (fun x => by
            constructor
            · rintro ⟨hfn, f3, s3, y, hD, hf3, hs3, r⟩
              exact ⟨hfn, f3, s3, y, by omega, hf3, hs3, r⟩
            · rintro ⟨hfn, f3, s3, y, hD, r⟩
              exact ⟨hfn, f3, s3, y, by omega, r⟩))
          rw [Int.zero_mul, Int.add_zero, Int.add_zero] at this
          exact this
        · have kI := kc_in (f := f) H hv ⟨g, hiz⟩
          have ek : KF (M 135) fr kn f ((SF M a b c).2 i.toNat) = kc M fr kn a b c f i := rfl
          have x109 : (sv (sv m 115 l') 114 t) 109 (trp a b c * 4 + i).toNat = (SF M a b c).2 i.toNat := T.2 i g hiz
          have xi : (sv (sv m 115 l') 114 t) 115 i.toNat = l i.toNat := y1 i g (Int.le_refl _)
          have L0 := l1 i g hiz
          have l0b := L0.2.2
          have l00 : 0 ≤ l i.toNat := by
            by_cases cc : l i.toNat < 268435456
            · exact (LNX_in H hB hk hv (by omega) hiz (L0.1 cc)).1
            · omega
          have NX : ∀ w : Int, MN (fun x => if i = 0 then SX M A k f x else LNX M fr kn A k a b c (f - 1) (i - 1) x) w → (∀ x, (if i = 0 then SX M A k f x else LNX M fr kn A k a b c (f - 1) (i - 1) x) → x ≤ 60000000) → h_R_extend_60 d k (trp a b c) (k * 20) (k * 20 + 20) (SF M a b c).1 f (i + (-1)) (wt (sv (sv m 115 l') 114 t) 115 i.toNat (min 268435456 (kc M fr kn a b c f i * 32 + min (l i.toNat) w))) P := by
            intro w hw hwb
            rw [wt_sv2 (by decide)]
            refine ihs (by omega) (by omega) _ (fun j j0 j1 => by rw [svn _ _ (by omega)]; exact y1 j j0 (by omega)) (fun j j0 j1 j2 => ?_)
            by_cases e : j = i
            · subst e
              rw [sv_eq]
              refine MN_cg (MN_cap (MN_or L0 hw) (k := kc M fr kn a b c f j * 32) (by omega) (fun x hx => ?_)) (fun x => LNX_step g)
              rcases hx with hx | hx
              · have := LNX_in H hB hk hv (by omega) hiz hx; omega
              · have := hwb x hx; omega
            · rw [svn _ _ (by omega)]; exact y2 j (by omega) j1 j2
          refine ⟨fun ni => ⟨by omega, ?_⟩, fun ei => ⟨by omega, ⟨by omega, ?_⟩⟩⟩
          · have xj : (sv (sv m 115 l') 114 t) 115 (i - 1).toNat = l (i - 1).toNat := y1 (i - 1) (by omega) (by omega)
            have L1 := l1 (i - 1) (by omega) (by omega)
            have l1b := L1.2.2
            have l10 : 0 ≤ l (i - 1).toNat := by
              by_cases cc : l (i - 1).toNat < 268435456
              · exact (LNX_in H hB hk hv (by omega) (by omega) (L1.1 cc)).1
              · omega
            rw [x109]
            refine s_Fr_costOf (mi := sv (sv m 115 l') 114 t) (xs := M 5) (ys := M 6) (w := M 7) (wo := M 14) (sl := M 16) (da := M 17) (ma := M 18) (c := M 135) (fr := fr) (kn := kn) (n := n) (by omega) H.2.2.1 H.2.2.2.1 H.2.2.2.2.1 hC (by omega) (SS.2 i g hiz) ?_
            rw [ek, xi, xj]
            refine ⟨by omega, NX _ ?_ (fun x hx => ?_)⟩
            · simp only [if_neg ni]; exact L1
            · rw [if_neg ni] at hx; exact (LNX_in H hB hk hv (by omega) (by omega) hx).2
          · have xs : (sv (sv m 115 l') 114 t) 114 (k * 20 + f).toNat = m 114 (k * 20 + f).toNat := AE t f t1 (by omega) q
            have S0 := hA f (by omega) q
            have s0b := S0.2.2
            have SB : ∀ x, SX M A k f x → 0 ≤ x ∧ x ≤ 60000000 := by
              rintro x ⟨v, hv', rfl⟩
              have := hB f v hv'
              omega
            have s00 : 0 ≤ m 114 (k * 20 + f).toNat := by
              by_cases cc : m 114 (k * 20 + f).toNat < 268435456
              · exact (SB _ (S0.1 cc)).1
              · omega
            rw [x109]
            refine s_Fr_costOf (mi := sv (sv m 115 l') 114 t) (xs := M 5) (ys := M 6) (w := M 7) (wo := M 14) (sl := M 16) (da := M 17) (ma := M 18) (c := M 135) (fr := fr) (kn := kn) (n := n) (by omega) H.2.2.1 H.2.2.2.1 H.2.2.2.2.1 hC (by omega) (SS.2 i g hiz) ?_
            rw [ek, xi, xs]
            refine ⟨by omega, NX _ ?_ (fun x hx => ?_)⟩
            · simp only [if_pos ei]; exact S0
            · rw [if_pos ei] at hx; exact (SB x hx).2
      exact LS ((SF M a b c).1 - 1) (by omega) (by omega) l (fun _ _ _ => rfl) (fun j a1 a2 a3 => by omega)
    intro f hf f0 l t t1 l1 t2
    by_cases c1 : f ≤ n
    · exact LL f c1 f0 l t t1 l1 t2
    · refine v_R_extend_42 ?_
      have x103 : (sv (sv m 115 l) 114 t) 103 1 = n := e103
      rw [x103]
      exact ⟨fun q => FIN f q f0 l t t1 t2, fun q => by omega⟩
  have e110 := T.1
  refine v_R_extend ⟨by omega, s_Al_fill (fun l l1 => s_Rs_blank (by omega) (fun t t1 t2 => ?_))⟩
  rw [e110]
  refine LF k (Or.inr rfl) (Int.le_refl _) l t (fun j hj => t2 j (by omega)) (fun i i0 i1 => ?_) (fun f' a' b' => ?_)
  · rw [l1 _ (by omega)]
    refine MN_far ?_
    rintro x ⟨f0, v0, w1, hA1, hf, _⟩
    have := hB f0 v0 hA1
    omega
  · rw [t1 _ (by omega) (by omega)]
    refine MN_far ?_
    rintro x ⟨_, f3, s3, y, hD, hf3, hs3, e, ⟨f0, v0, w1, hA1, hf, _⟩, _⟩
    have := hB f0 v0 hA1
    omega
end EXTEND
