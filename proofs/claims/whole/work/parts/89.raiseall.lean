section RAISEALL
variable {d : Nat} {M : MT} {fr kn n : Int}
def trp (a b c : Int) : Int := pr_ a b * 11 + c + 1
/-- a triple's states, kept -/
def TSs (M m : MT) (a b c : Int) : Prop := m 110 (trp a b c).toNat = (SF M a b c).1 ∧ ∀ i : Int, 0 ≤ i → i < (SF M a b c).1 → m 109 (trp a b c * 4 + i).toNat = (SF M a b c).2 i.toNat
def TSb (m : MT) (a b c : Int) : Prop := ∀ i : Int, 0 ≤ i → i < 4 → m 111 (trp a b c * 4 + i).toNat = 268435456
def FR2 (m m1 : MT) : Prop := ∀ k : Nat, (k < 100 ∨ 102 < k) → k ≠ 109 → k ≠ 110 → k ≠ 111 → m1 k = m k
theorem s_R_raiseAll {m : MT} {P : MT → Prop} {a b : Int} (hd : 14 < d) (H : HX M fr kn n) (hC : CX M m) (hb : 0 ≤ b ∧ b < M 135 0) (ha : -1 ≤ a ∧ a < M 135 0) (B : BG M m a b)
    (h : ∀ m1 : MT, FR2 m m1 → (∀ c : Int, -1 ≤ c → c < M 135 0 → TSs M m1 a b c ∧ TSb m1 a b c) → (∀ j : Nat, ¬ (pr_ a b * 11 ≤ j ∧ (j : Int) < pr_ a b * 11 + 11) → m1 110 j = m 110 j) → (∀ j : Nat, ¬ (pr_ a b * 44 ≤ j ∧ (j : Int) < pr_ a b * 44 + 44) → m1 109 j = m 109 j ∧ m1 111 j = m 111 j) → P m1) : c_R_raiseAll d ((a + 1) * 10 + b) b m P := by
  have s10 := H.1.2.1
  have SQ := SFq_SOK (a := a) H hb
  have sz := SQ.1
  have e28 : M 2 8 = M 135 0 := H.1.1
  have L : ∀ c : Int, c ≤ M 135 0 → -1 ≤ c → ∀ m' : MT, FR2 m m' → (∀ c' : Int, -1 ≤ c' → c' < c → TSs M m' a b c' ∧ TSb m' a b c') → (∀ j : Nat, ¬ (pr_ a b * 11 ≤ j ∧ (j : Int) < pr_ a b * 11 + 11) → m' 110 j = m 110 j) → (∀ j : Nat, ¬ (pr_ a b * 44 ≤ j ∧ (j : Int) < pr_ a b * 44 + 44) → m' 109 j = m 109 j ∧ m' 111 j = m 111 j) → h_R_raiseAll_2 d ((a + 1) * 10 + b) b c m' P := by
    refine upto _ (fun c hc ih c0 m' F TT x110 x109 => ?_)
    have g28 : m' 2 8 = M 135 0 := by rw [F 2 (by decide) (by decide) (by decide) (by decide), hC 2 (by decide)]; exact e28
    have g108 : m' 108 ((a + 1) * 10 + b).toNat = (SFq M a b).1 := by rw [F 108 (by decide) (by decide) (by decide) (by decide)]; exact B.1
    have g107 : ∀ i : Int, 0 ≤ i → i < (SFq M a b).1 → m' 107 (((a + 1) * 10 + b) * 4 + i).toNat = (SFq M a b).2 i.toNat := fun i i0 i1 => by rw [F 107 (by decide) (by decide) (by decide) (by decide)]; exact B.2 i i0 i1
    refine v_R_raiseAll_2 ?_
    rw [g28, g108]
    refine ⟨fun q => h m' F (fun c' a1 a2 => TT c' a1 (by omega)) x110 x109, fun q => ⟨by omega, ?_⟩⟩
    have hpr : pr_ a b = (a + 1) * 10 + b := rfl
    have FT : FC m' (wt (cpm m' 107 102 (((a + 1) * 10 + b) * 4).toNat 0 (SFq M a b).1.toNat) 100 4 (SFq M a b).1) := ⟨fun k x _ y => by rw [wt_row _ _ x, cpm_r, if_neg y], fun j x => by rw [wt_ne _ _ x]; rfl⟩
    have ET : EQV (SFq M a b) (sur (wt (cpm m' 107 102 (((a + 1) * 10 + b) * 4).toNat 0 (SFq M a b).1.toNat) 100 4 (SFq M a b).1)) := by
      refine ⟨rfl, fun k k0 k1 => ?_⟩
      show _ = cpy (m' 107) (m' 102) (((a + 1) * 10 + b) * 4).toNat 0 (SFq M a b).1.toNat k.toNat
      rw [cpy_at, if_pos (by omega), ← g107 k k0 k1]
      congr 1; omega
    have C' : CX M m' := hC.trans (fun k hk => F k (by omega) (by omega) (by omega) (by omega))
    -- the same end on both roads
    have END : ∀ m2 : MT, FC m' m2 → EQV (SF M a b c) (sur m2) → SOK (SF M a b c) → c_Rg_blank (d - 1) ((((a + 1) * 10 + b) * 11 + c + 1) * 4) 4 (cpm (wt m2 110 (((a + 1) * 10 + b) * 11 + c + 1).toNat (m2 100 4)) 102 109 0 ((((a + 1) * 10 + b) * 11 + c + 1) * 4).toNat (m2 100 4).toNat) (fun m3 => (-2147483648 ≤ c + 1 ∧ c + 1 < 2147483648) ∧ h_R_raiseAll_2 d ((a + 1) * 10 + b) b (c + 1) m3 P) := by
      intro m2 F2 E2 SS
      have z2 : m2 100 4 = (SF M a b c).1 := E2.1.symm
      have s2 := SS.1
      rw [z2]
      have htr : trp a b c = ((a + 1) * 10 + b) * 11 + c + 1 := rfl
      rw [← htr]
      have c109 : ∀ j : Nat, (cpm (wt m2 110 (trp a b c).toNat (SF M a b c).1) 102 109 0 (trp a b c * 4).toNat (SF M a b c).1.toNat) 109 j = if (trp a b c * 4).toNat ≤ j ∧ j < (trp a b c * 4).toNat + (SF M a b c).1.toNat then m2 102 (0 + (j - (trp a b c * 4).toNat)) else m' 109 j := by
        intro j
        have := F2.1 109 (by decide) (by decide) (by decide)
        rw [← this]; rfl
      have c110 : ∀ j : Nat, (cpm (wt m2 110 (trp a b c).toNat (SF M a b c).1) 102 109 0 (trp a b c * 4).toNat (SF M a b c).1.toNat) 110 j = if j = (trp a b c).toNat then (SF M a b c).1 else m' 110 j := by
        intro j
        have := F2.1 110 (by decide) (by decide) (by decide)
        rw [← this]; rfl
      have cO : ∀ k : Nat, (k < 100 ∨ 102 < k) → k ≠ 109 → k ≠ 110 → (cpm (wt m2 110 (trp a b c).toNat (SF M a b c).1) 102 109 0 (trp a b c * 4).toNat (SF M a b c).1.toNat) k = m' k := by
        intro k k1 k2 k3
        rw [cpm_r, if_neg k2, wt_row _ _ k3]
        exact F2.1 k (by omega) (by omega) (by omega)
      generalize cpm (wt m2 110 (trp a b c).toNat (SF M a b c).1) 102 109 0 (trp a b c * 4).toNat (SF M a b c).1.toNat = mk at *
      refine s_Rg_blank (by omega) (fun t t1 t2 => ⟨by omega, ?_⟩)
      refine ih q (by omega) _ (fun k k1 k2 k3 k4 => ?_) (fun c' a1 a2 => ?_) (fun j hj => ?_) (fun j hj => ?_)
      · rw [sv_ne _ _ k4, cO k k1 k2 k3]; exact F k k1 k2 k3 k4
      · by_cases e : c' = c
        · subst e
          refine ⟨⟨?_, fun i i0 i1 => ?_⟩, fun i i0 i1 => t1 _ (by omega) (by omega)⟩
          · show mk 110 _ = _
            rw [c110, if_pos rfl]
          · show mk 109 _ = _
            rw [c109, if_pos (by omega), E2.2 i i0 i1]
            show m2 102 _ = m2 102 _
            congr 1; omega
        · obtain ⟨⟨u1, u2⟩, u3⟩ := TT c' a1 (by omega)
          have htr' : trp a b c' = ((a + 1) * 10 + b) * 11 + c' + 1 := rfl
          have sc := (SOK_SF (a := a) (b := b) (c := c') H ⟨by omega, hb, by omega⟩).1
          refine ⟨⟨?_, fun i i0 i1 => ?_⟩, fun i i0 i1 => ?_⟩
          · show mk 110 _ = _
            rw [c110, if_neg (by omega)]; exact u1
          · show mk 109 _ = _
            rw [c109, if_neg (by omega)]; exact u2 i i0 i1
          · show t _ = _
            rw [t2 _ (by omega), cO 111 (by decide) (by decide) (by decide)]; exact u3 i i0 i1
      · show mk 110 j = _
        rw [c110, if_neg (by omega)]; exact x110 j hj
      · refine ⟨?_, ?_⟩
        · show mk 109 j = _
          rw [c109, if_neg (by omega)]; exact (x109 j hj).1
        · show t j = _
          rw [t2 j (by omega), cO 111 (by decide) (by decide) (by decide)]; exact (x109 j hj).2
    refine ⟨fun e => ⟨by omega, ?_⟩, fun e => ?_⟩
    · have ES : SF M a b c = SFq M a b := by unfold SF; rw [if_pos e]
      exact END _ FT (by rw [ES]; exact ET) (by rw [ES]; exact SQ)
    · have CT' : CX M (wt (cpm m' 107 102 (((a + 1) * 10 + b) * 4).toNat 0 (SFq M a b).1.toNat) 100 4 (SFq M a b).1) := C'.trans (fun k hk => FT.1 k (by omega) (by omega) (by omega))
      refine s_change (by omega) H CT' (Or.inl rfl) hb (by omega) SQ ET (fun m2 F2 E2 => ?_)
      have ES : SF M a b c = FO M b c 0 (SFq M a b) := by unfold SF; rw [if_neg e]
      rw [← ES] at E2
      have SS : SOK (SF M a b c) := by rw [ES]; exact FO_SOK H SQ
      have z2 : m2 100 4 = (SF M a b c).1 := E2.1.symm
      have s2 := SS.1
      exact ⟨by rw [z2]; omega, END m2 (FT.trans F2) E2 SS⟩
  exact v_R_raiseAll (L (-1) (by omega) (by omega) m (fun _ _ _ _ _ => rfl) (fun c' a1 a2 => by omega) (fun _ _ => rfl) (fun _ _ => ⟨rfl, rfl⟩))
/-- what the first half of weigh leaves -/
def WI (M m : MT) (D : Int → Int → Prop) : Prop := ∀ a b : Int, (-1 ≤ a ∧ a < M 135 0) → (0 ≤ b ∧ b < M 135 0) → D a b → BG M m a b ∧ (∃ o : Int, LD M a b o ∧ m 106 (pr_ a b).toNat = pr_ o b) ∧ (LD M a b a → ∀ c : Int, -1 ≤ c → c < M 135 0 → TSs M m a b c ∧ TSb m a b c)
def FR3 (m m1 : MT) : Prop := ∀ k : Nat, (k < 100 ∨ 102 < k) → (k < 106 ∨ 111 < k) → m1 k = m k
theorem weigh_1 {m : MT} {P : MT → Prop} (hd : 16 < d) (H : HX M fr kn n) (hC : CX M m) (h : ∀ m1 : MT, FR3 m m1 → WI M m1 (fun _ _ => True) → h_R_weigh_95 d (m1 103 1 - 1) m1 P) (hn : 0 ≤ m 103 1 ∧ m 103 1 ≤ 20) : h_R_weigh_30 d 0 m P := by
  have s10 := H.1.2.1
  have e28 : M 2 8 = M 135 0 := H.1.1
  have G28 : ∀ m' : MT, FR3 m m' → m' 2 8 = M 135 0 := fun m' F => by rw [F 2 (by decide) (by decide), hC 2 (by decide)]; exact e28
  have CC : ∀ m' : MT, FR3 m m' → CX M m' := fun m' F => hC.trans (fun k hk => F k (by omega) (by omega))
  have LB : ∀ b : Int, b ≤ M 135 0 → 0 ≤ b → ∀ m' : MT, FR3 m m' → WI M m' (fun _ b' => b' < b) → h_R_weigh_30 d b m' P := by
    refine upto _ (fun b hb ihb b0 m' F W => ?_)
    refine v_R_weigh_30 ?_
    rw [G28 m' F]
    have e103 : m' 103 1 = m 103 1 := by rw [F 103 (by decide) (by decide)]
    refine ⟨fun q => ⟨by omega, h m' F (fun a' b' ha' hb' _ => W a' b' ha' hb' (by omega))⟩, fun q => ?_⟩
    have LA : ∀ a : Int, a ≤ M 135 0 → -1 ≤ a → ∀ m' : MT, FR3 m m' → WI M m' (fun a' b' => b' < b ∨ (b' = b ∧ a' < a)) → h_R_weigh_43 d b a m' P := by
      refine upto _ (fun a ha iha a0 m' F W => ?_)
      refine v_R_weigh_43 ?_
      rw [G28 m' F]
      refine ⟨fun q2 => ⟨by omega, ihb q (by omega) m' F (fun a' b' ha' hb' hD => W a' b' ha' hb' (by omega))⟩, fun q2 => ⟨by omega, ?_⟩⟩
      refine s_R_leads (by omega) H (CC m' F) ⟨b0, q⟩ ⟨a0, q2⟩ (fun o o0 o1 => (W o b ⟨o0, by omega⟩ ⟨b0, q⟩ (Or.inr ⟨rfl, o1⟩)).1) (fun t m1 o F1 B1 L1 e106 x1 x2 ht => ?_)
      have F01 : FR3 m m1 := fun k k1 k2 => by rw [F1 k k1 (by omega) (by omega) (by omega)]; exact F k k1 k2
      -- the earlier pairs stand
      have OLD : ∀ a' b' : Int, (-1 ≤ a' ∧ a' < M 135 0) → (0 ≤ b' ∧ b' < M 135 0) → (b' < b ∨ (b' = b ∧ a' < a)) → BG M m1 a' b' ∧ (∃ o : Int, LD M a' b' o ∧ m1 106 (pr_ a' b').toNat = pr_ o b') ∧ (LD M a' b' a' → ∀ c : Int, -1 ≤ c → c < M 135 0 → TSs M m1 a' b' c ∧ TSb m1 a' b' c) := by
        intro a' b' ha' hb' hD
        obtain ⟨u1, ⟨o', u2, u3⟩, u4⟩ := W a' b' ha' hb' hD
        have p1 : pr_ a b = (a + 1) * 10 + b := rfl
        have p2 : pr_ a' b' = (a' + 1) * 10 + b' := rfl
        refine ⟨BG_of u1 (x1 _ (by omega)).2 (SFq_SOK (a := a') H hb').1.2 (fun i i0 i1 => x2 _ (by omega)), ⟨o', u2, by rw [(x1 _ (by omega)).1]; exact u3⟩, fun hl c c0 c1 => ?_⟩
        obtain ⟨w1, w2⟩ := u4 hl c c0 c1
        refine ⟨⟨?_, fun i i0 i1 => ?_⟩, fun i i0 i1 => ?_⟩
        · rw [F1 110 (by decide) (by decide) (by decide) (by decide)]; exact w1.1
        · rw [F1 109 (by decide) (by decide) (by decide) (by decide)]; exact w1.2 i i0 i1
        · rw [F1 111 (by decide) (by decide) (by decide) (by decide)]; exact w2 i i0 i1
      refine ⟨fun et => ⟨by omega, iha q2 (by omega) m1 F01 (fun a' b' ha' hb' hD => ?_)⟩, fun et => ⟨by omega, ?_⟩⟩
      · by_cases e : b' = b ∧ a' = a
        · obtain ⟨rfl, rfl⟩ := e
          refine ⟨B1, ⟨o, L1, e106⟩, fun hl => ?_⟩
          have := LD_uniq L1 hl
          rw [et] at ht
          exact absurd (ht.mpr this) (by decide)
        · exact OLD a' b' ha' hb' (by omega)
      · refine s_R_raiseAll (by omega) H (CC m1 F01) ⟨b0, q⟩ ⟨a0, q2⟩ B1 (fun m2 F2 TT y1 y2 => ?_)
        refine iha q2 (by omega) m2 (fun k k1 k2 => by rw [F2 k k1 (by omega) (by omega) (by omega)]; exact F01 k k1 k2) (fun a' b' ha' hb' hD => ?_)
        have p1 : pr_ a b = (a + 1) * 10 + b := rfl
        have p2 : pr_ a' b' = (a' + 1) * 10 + b' := rfl
        have r106 : m2 106 = m1 106 := F2 106 (by decide) (by decide) (by decide) (by decide)
        have r107 : m2 107 = m1 107 := F2 107 (by decide) (by decide) (by decide) (by decide)
        have r108 : m2 108 = m1 108 := F2 108 (by decide) (by decide) (by decide) (by decide)
        by_cases e : b' = b ∧ a' = a
        · obtain ⟨rfl, rfl⟩ := e
          exact ⟨BG_of B1 (by rw [r108]) (SFq_SOK (a := a') H hb').1.2 (fun i _ _ => by rw [r107]), ⟨o, L1, by rw [r106]; exact e106⟩, fun _ c c0 c1 => TT c c0 c1⟩
        · obtain ⟨u1, ⟨o', u2, u3⟩, u4⟩ := OLD a' b' ha' hb' (by omega)
          refine ⟨BG_of u1 (by rw [r108]) (SFq_SOK (a := a') H hb').1.2 (fun i _ _ => by rw [r107]), ⟨o', u2, by rw [r106]; exact u3⟩, fun hl c c0 c1 => ?_⟩
          obtain ⟨w1, w2⟩ := u4 hl c c0 c1
          have t2 : trp a' b' c = pr_ a' b' * 11 + c + 1 := rfl
          have sc := (SOK_SF (a := a') (b := b') (c := c) H ⟨by omega, hb', by omega⟩).1
          refine ⟨⟨?_, fun i i0 i1 => ?_⟩, fun i i0 i1 => ?_⟩
          · rw [y1 _ (by omega)]; exact w1.1
          · rw [(y2 _ (by omega)).1]; exact w1.2 i i0 i1
          · rw [(y2 _ (by omega)).2]; exact w2 i i0 i1
    exact LA (-1) (by omega) (by omega) m' F (fun a' b' ha' hb' hD => W a' b' ha' hb' (by omega))
  exact LB 0 (by omega) (by omega) m (fun _ _ _ => rfl) (fun a' b' ha' hb' hD => by omega)
end RAISEALL
