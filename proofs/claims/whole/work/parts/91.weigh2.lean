section WEIGHB
variable {d : Nat} {M : MT} {fr kn n : Int}
/-- leaders and surfaces, kept -/
def STA (M m : MT) : Prop := (∀ a b : Int, (-1 ≤ a ∧ a < M 135 0) → (0 ≤ b ∧ b < M 135 0) → ∃ o : Int, LD M a b o ∧ m 106 (pr_ a b).toNat = pr_ o b) ∧ (∀ a b c : Int, (-1 ≤ a ∧ a < M 135 0) → (0 ≤ b ∧ b < M 135 0) → (-1 ≤ c ∧ c < M 135 0) → LD M a b a → TSs M m a b c)
/-- a triple that leads, from frame f on -/
def TD (M : MT) (fr kn n : Int) (m : MT) (f a b c : Int) : Prop := (∀ i : Int, 0 ≤ i → i < (SF M a b c).1 → MN (fun x => GOX M fr kn n a b c f i x) (m 111 (trp a b c * 4 + i).toNat)) ∧ ∀ f' : Int, f ≤ f' → f' < n → MN (fun x => thX M fr kn n f' a b c x) (m 112 (trp a b c * 20 + f').toNat)
def OP (M : MT) (fr kn n : Int) (m : MT) (f a b c : Int) : Prop := MN (fun y => ∃ c' : Int, ((c' = -1 ∨ (0 ≤ c' ∧ c' < M 135 0)) ∧ c' < c) ∧ thX M fr kn n f a b c' y) (m 113 (pr_ a b * 20 + f).toNat)
def d3 (b c a b' c' a' : Int) : Prop := b' < b ∨ (b' = b ∧ (c' < c ∨ (c' = c ∧ a' < a)))
def WS (M : MT) (fr kn n : Int) (m : MT) (f b c a : Int) : Prop :=
  (∀ a' b' c' : Int, (-1 ≤ a' ∧ a' < M 135 0) → (0 ≤ b' ∧ b' < M 135 0) → (-1 ≤ c' ∧ c' < M 135 0) → LD M a' b' a' → (d3 b c a b' c' a' → TD M fr kn n m f a' b' c') ∧ (¬ d3 b c a b' c' a' → TD M fr kn n m (f + 1) a' b' c')) ∧
  (∀ a' b' : Int, (-1 ≤ a' ∧ a' < M 135 0) → (0 ≤ b' ∧ b' < M 135 0) → LD M a' b' a' → OD M fr kn n m (f + 1) a' b' ∧ (b' < b → OD M fr kn n m f a' b') ∧ (b' = b → (a' < a → OP M fr kn n m f a' b (c + 1)) ∧ (a ≤ a' → -1 < c → OP M fr kn n m f a' b c)))
def FR4 (m m1 : MT) : Prop := ∀ k : Nat, k ≠ 111 → k ≠ 112 → k ≠ 113 → m1 k = m k
theorem STA_f {m m1 : MT} (h : STA M m) (F : FR4 m m1) : STA M m1 := by
  refine ⟨fun a b ha hb => ?_, fun a b c ha hb hc hl => ?_⟩
  · obtain ⟨o, h1, h2⟩ := h.1 a b ha hb
    exact ⟨o, h1, by rw [F 106 (by decide) (by decide) (by decide)]; exact h2⟩
  · have := h.2 a b c ha hb hc hl
    exact ⟨by rw [F 110 (by decide) (by decide) (by decide)]; exact this.1, fun i i0 i1 => by rw [F 109 (by decide) (by decide) (by decide)]; exact this.2 i i0 i1⟩
theorem s_R_weighSign {m : MT} {P : MT → Prop} {b f : Int} (hd : 6 < d) (H : HX M fr kn n) (e28 : m 2 8 = M 135 0) (e103 : m 103 1 = n) (e15 : m 105 15 = M 135 3 * 32) (e16 : m 105 16 = M 135 4 * 32 + 1) (hC : CT (m 104) (M 135) fr kn n) (hb : 0 ≤ b ∧ b < M 135 0) (hf : 0 ≤ f ∧ f < n) (hS : STA M m) (hW : WS M fr kn n m f b (-1) (-1)) (h : ∀ m1 : MT, FR4 m m1 → WS M fr kn n m1 f (b + 1) (-1) (-1) → P m1) : c_R_weighSign d b f m P := by
  have hn := H.2.2.2.2.2.2
  have s10 := H.1.2.1
  have LC : ∀ c : Int, c ≤ M 135 0 → -1 ≤ c → ∀ m' : MT, FR4 m m' → WS M fr kn n m' f b c (-1) → h_R_weighSign_2 d b f c m' P := by
    refine upto _ (fun c hc ihc c0 m' F W => ?_)
    have S' := STA_f hS F
    have g28 : m' 2 8 = M 135 0 := by rw [F 2 (by decide) (by decide) (by decide)]; exact e28
    have g103 : m' 103 1 = n := by rw [F 103 (by decide) (by decide) (by decide)]; exact e103
    refine v_R_weighSign_2 ?_
    rw [g28, g103]
    refine ⟨fun q => h m' F ⟨fun a' b' c' ha' hb' hc' hl => ?_, fun a' b' ha' hb' hl => ?_⟩, fun q => ?_⟩
    · obtain ⟨w1, w2⟩ := W.1 a' b' c' ha' hb' hc' hl
      exact ⟨fun hD => w1 (by unfold d3 at *; omega), fun hD => w2 (by unfold d3 at *; omega)⟩
    · obtain ⟨w1, w2, w3⟩ := W.2 a' b' ha' hb' hl
      refine ⟨w1, fun hbb => ?_, fun e => ⟨fun x => by omega, fun _ x => by omega⟩⟩
      by_cases e : b' < b
      · exact w2 e
      · have eb : b' = b := by omega
        have op := (w3 eb).2 (by omega) (by omega)
        subst eb
        intro f' f1 f2
        by_cases ef : f' = f
        · subst ef
          refine MN_cg op (fun y => ?_)
          show rdX M fr kn n f' a' b' (y + (32 * M 135 4 + 1)) ↔ _
          rw [rdX_iff H f2, show y + (32 * M 135 4 + 1) - (32 * M 135 4 + 1) = y by omega]
          exact ⟨fun ⟨c', hc', ht⟩ => ⟨c', ⟨hc', by omega⟩, ht⟩, fun ⟨c', hc', ht⟩ => ⟨c', hc'.1, ht⟩⟩
        · exact w1 f' (by omega) f2
    -- the signs ahead
    have LA : ∀ l : Int, MN (fun y => LVX M fr kn n b c (f + 1) y) l → ∀ a : Int, a ≤ M 135 0 → -1 ≤ a → ∀ m' : MT, FR4 m m' → WS M fr kn n m' f b c a → h_R_weighSign_42 d b f c l a m' P := by
      intro l hl
      refine upto _ (fun a ha iha a0 m' F W => ?_)
      have S' := STA_f hS F
      have g28 : m' 2 8 = M 135 0 := by rw [F 2 (by decide) (by decide) (by decide)]; exact e28
      refine v_R_weighSign_42 ?_
      rw [g28]
      refine ⟨fun q2 => ⟨by omega, ihc q (by omega) m' F ⟨fun a' b' c' ha' hb' hc' hl' => ?_, fun a' b' ha' hb' hl' => ?_⟩⟩, fun q2 => ⟨by omega, fun w => ?_, fun w => ⟨by omega, ?_⟩⟩⟩
      · obtain ⟨w1, w2⟩ := W.1 a' b' c' ha' hb' hc' hl'
        exact ⟨fun hD => w1 (by unfold d3 at *; omega), fun hD => w2 (by unfold d3 at *; omega)⟩
      · obtain ⟨w1, w2, w3⟩ := W.2 a' b' ha' hb' hl'
        exact ⟨w1, w2, fun e => ⟨fun x => by omega, fun _ _ => (w3 e).1 (by omega)⟩⟩
      · -- a pair that another one leads
        obtain ⟨o, lo, e106⟩ := S'.1 a b ⟨a0, q2⟩ hb
        have NL : ¬ LD M a b a := by
          intro hl'
          have := LD_uniq lo hl'
          subst this
          exact w e106
        refine iha q2 (by omega) m' F ⟨fun a' b' c' ha' hb' hc' hl' => ?_, fun a' b' ha' hb' hl' => ?_⟩
        · have ne : ¬ (a' = a ∧ b' = b) := fun e => NL (by rw [← e.1, ← e.2]; exact hl')
          obtain ⟨w1, w2⟩ := W.1 a' b' c' ha' hb' hc' hl'
          exact ⟨fun hD => w1 (by unfold d3 at *; omega), fun hD => w2 (by unfold d3 at *; omega)⟩
        · have ne : ¬ (a' = a ∧ b' = b) := fun e => NL (by rw [← e.1, ← e.2]; exact hl')
          obtain ⟨w1, w2, w3⟩ := W.2 a' b' ha' hb' hl'
          exact ⟨w1, w2, fun e => ⟨fun x => (w3 e).1 (by omega), fun x y => (w3 e).2 (by omega) y⟩⟩
      · -- a pair that leads
        obtain ⟨o, lo, e106⟩ := S'.1 a b ⟨a0, q2⟩ hb
        have LDa : LD M a b a := by
          have e1 : pr_ o b = pr_ a b := e106.symm.trans w
          have : o = a := by unfold pr_ at e1; omega
          subst this; exact lo
        have VV : VS (M 135 0) a b c := ⟨by omega, hb, by omega⟩
        have TSa := S'.2 a b c ⟨a0, q2⟩ hb ⟨c0, q⟩ LDa
        have sz := (SOK_SF H VV).1
        obtain ⟨_, td⟩ := W.1 a b c ⟨a0, q2⟩ hb ⟨c0, q⟩ LDa
        have TDa := td (by unfold d3; omega)
        have tb : 0 ≤ trp a b c ∧ trp a b c < 1210 := by unfold trp pr_; omega
        have pb : 0 ≤ pr_ a b ∧ pr_ a b < 110 := by unfold pr_; omega
        refine s_R_step (M := M) (fr := fr) (kn := kn) (n := n) (a := a) (b := b) (c := c) (by omega) H (by rw [F 104 (by decide) (by decide) (by decide)]; exact hC) VV hf TSa hl TDa.1 (fun u u1 u2 => ⟨by unfold trp pr_ at tb; unfold pr_ at pb; omega, ?_⟩)
        have K0 := u1 0 (by omega) (by omega)
        rw [Int.add_zero] at K0
        have KT : MN (fun x => thX M fr kn n f a b c x) (u (trp a b c * 4).toNat) := MN_cg K0 (fun x => GOX_th VV hf.1 hf.2)
        -- what is written keeps all
        have ADV : ∀ X : Int, MN (fun y => ∃ c' : Int, ((c' = -1 ∨ (0 ≤ c' ∧ c' < M 135 0)) ∧ c' < c + 1) ∧ thX M fr kn n f a b c' y) X → FR4 m (wt (wt (sv m' 111 u) 112 (trp a b c * 20 + f).toNat (u (trp a b c * 4).toNat)) 113 (pr_ a b * 20 + f).toNat X) ∧ WS M fr kn n (wt (wt (sv m' 111 u) 112 (trp a b c * 20 + f).toNat (u (trp a b c * 4).toNat)) 113 (pr_ a b * 20 + f).toNat X) f b c (a + 1) := by
          intro X hX
          have r111 : (wt (wt (sv m' 111 u) 112 (trp a b c * 20 + f).toNat (u (trp a b c * 4).toNat)) 113 (pr_ a b * 20 + f).toNat X) 111 = u := by rw [wt_row _ _ (by decide), wt_row _ _ (by decide), sv_eq]
          have r112 : ∀ j : Nat, (wt (wt (sv m' 111 u) 112 (trp a b c * 20 + f).toNat (u (trp a b c * 4).toNat)) 113 (pr_ a b * 20 + f).toNat X) 112 j = if j = (trp a b c * 20 + f).toNat then u (trp a b c * 4).toNat else m' 112 j := by intro j; rw [wt_row _ _ (by decide), wt_at]; rfl
          have r113 : ∀ j : Nat, (wt (wt (sv m' 111 u) 112 (trp a b c * 20 + f).toNat (u (trp a b c * 4).toNat)) 113 (pr_ a b * 20 + f).toNat X) 113 j = if j = (pr_ a b * 20 + f).toNat then X else m' 113 j := by intro j; rw [wt_at]; rfl
          refine ⟨fun k k1 k2 k3 => by rw [wt_row _ _ k3, wt_row _ _ k2, sv_ne _ _ k1]; exact F k k1 k2 k3, ?_⟩
          generalize wt (wt (sv m' 111 u) 112 (trp a b c * 20 + f).toNat (u (trp a b c * 4).toNat)) 113 (pr_ a b * 20 + f).toNat X = mm at *
          refine ⟨fun a' b' c' ha' hb' hc' hl' => ?_, fun a' b' ha' hb' hl' => ?_⟩
          · by_cases e : a' = a ∧ b' = b ∧ c' = c
            · obtain ⟨rfl, rfl, rfl⟩ := e
              refine ⟨fun _ => ⟨fun i i0 i1 => by rw [r111]; exact u1 i i0 i1, fun f' f1 f2 => ?_⟩, fun hD => absurd (by unfold d3; omega) hD⟩
              rw [r112]
              by_cases ef : f' = f
              · subst ef; rw [if_pos rfl]; exact KT
              · rw [if_neg (by omega)]; exact TDa.2 f' (by omega) f2
            · have tn : trp a' b' c' ≠ trp a b c := by unfold trp pr_; omega
              have tb' : 0 ≤ trp a' b' c' := by unfold trp pr_; omega
              have sz' := (SOK_SF (a := a') (b := b') (c := c') H ⟨by omega, hb', by omega⟩).1
              obtain ⟨w1, w2⟩ := W.1 a' b' c' ha' hb' hc' hl'
              have MV : ∀ g : Int, 0 ≤ g → TD M fr kn n m' g a' b' c' → TD M fr kn n mm g a' b' c' := by
                intro g g0 hT
                refine ⟨fun i i0 i1 => by rw [r111, u2 _ (by omega)]; exact hT.1 i i0 i1, fun f' f1 f2 => ?_⟩
                rw [r112, if_neg (by omega)]; exact hT.2 f' f1 f2
              exact ⟨fun hD => MV f hf.1 (w1 (by unfold d3 at *; omega)), fun hD => MV (f + 1) (by omega) (w2 (by unfold d3 at *; omega))⟩
          · obtain ⟨w1, w2, w3⟩ := W.2 a' b' ha' hb' hl'
            have pb' : 0 ≤ pr_ a' b' := by unfold pr_; omega
            refine ⟨fun f' f1 f2 => ?_, fun hbb f' f1 f2 => ?_, fun e => ⟨fun x => ?_, fun x y => ?_⟩⟩
            · rw [r113, if_neg (by unfold pr_; omega)]; exact w1 f' f1 f2
            · rw [r113, if_neg (by unfold pr_; omega)]; exact w2 hbb f' f1 f2
            · subst e
              by_cases ea : a' = a
              · subst ea
                unfold OP
                rw [r113, if_pos rfl]; exact hX
              · unfold OP
                rw [r113, if_neg (by unfold pr_; omega)]; exact (w3 rfl).1 (by omega)
            · subst e
              unfold OP
              rw [r113, if_neg (by unfold pr_; omega)]; exact (w3 rfl).2 (by omega) y
        have w3 := (W.2 a b ⟨a0, q2⟩ hb LDa).2.2 rfl
        refine ⟨fun nc => ⟨by unfold pr_ at pb; omega, ?_⟩, fun ec => ⟨by unfold pr_ at pb; omega, ?_⟩⟩
        · have op := w3.2 (Int.le_refl _) (by omega)
          have MX := MN_cg (T := fun y => ∃ c' : Int, ((c' = -1 ∨ (0 ≤ c' ∧ c' < M 135 0)) ∧ c' < c + 1) ∧ thX M fr kn n f a b c' y) (MN_or op KT) (fun y => by
            constructor
            · rintro ⟨c', hc', ht⟩
              by_cases e : c' = c
              · subst e; exact Or.inr ht
              · exact Or.inl ⟨c', ⟨hc'.1, by omega⟩, ht⟩
            · rintro (⟨c', hc', ht⟩ | ht)
              · exact ⟨c', ⟨hc'.1, by omega⟩, ht⟩
              · exact ⟨c, ⟨by omega, by omega⟩, ht⟩)
          obtain ⟨F1, W1⟩ := ADV _ MX
          exact iha q2 (by omega) _ F1 W1
        · have MX := MN_cg (T := fun y => ∃ c' : Int, ((c' = -1 ∨ (0 ≤ c' ∧ c' < M 135 0)) ∧ c' < c + 1) ∧ thX M fr kn n f a b c' y) KT (fun y => by
            constructor
            · rintro ⟨c', hc', ht⟩
              have : c' = c := by omega
              subst this; exact ht
            · intro ht; exact ⟨c, ⟨by omega, by omega⟩, ht⟩)
          obtain ⟨F1, W1⟩ := ADV _ MX
          exact iha q2 (by omega) _ F1 W1
    refine ⟨fun nc => ⟨by omega, ?_⟩, fun ec => ⟨by omega, ?_⟩⟩
    · refine s_R_passing (by omega) H hb (by omega) (by omega) g103 (by rw [F 105 (by decide) (by decide) (by decide)]; exact e15) (by rw [F 105 (by decide) (by decide) (by decide)]; exact e16) (S'.1 b c (by omega) (by omega)) (fun o ho hl => (W.2 o c ho (by omega) hl).1) (fun x hx => LA x hx (-1) (by omega) (by omega) m' F W)
    · refine LA _ ?_ (-1) (by omega) (by omega) m' F W
      subst ec
      by_cases e : f + 1 = n
      · rw [if_pos e]
        refine ⟨fun _ => ?_, fun y hy => ?_, by omega⟩
        · show LVX M fr kn n b (-1) (f + 1) 0
          unfold LVX; rw [if_pos rfl]; exact ⟨e, rfl⟩
        · have hy' : LVX M fr kn n b (-1) (f + 1) y := hy
          unfold LVX at hy'; rw [if_pos rfl] at hy'; omega
      · rw [if_neg e]
        refine MN_far (fun y hy => ?_)
        unfold LVX at hy; rw [if_pos rfl] at hy; exact e hy.1
  exact v_R_weighSign (LC (-1) (by omega) (by omega) m (fun _ _ _ _ => rfl) hW)
/-- all rows weighed -/
def DY (M : MT) (fr kn n : Int) (m : MT) (f : Int) : Prop := (∀ a b c : Int, (-1 ≤ a ∧ a < M 135 0) → (0 ≤ b ∧ b < M 135 0) → (-1 ≤ c ∧ c < M 135 0) → LD M a b a → TD M fr kn n m f a b c) ∧ ∀ a b : Int, (-1 ≤ a ∧ a < M 135 0) → (0 ≤ b ∧ b < M 135 0) → LD M a b a → OD M fr kn n m f a b
def FR5 (m m1 : MT) : Prop := ∀ k : Nat, (k < 100 ∨ 102 < k) → (k < 105 ∨ 113 < k) → m1 k = m k
theorem s_R_weigh {m : MT} {P : MT → Prop} (hd : 17 < d) (H : HX M fr kn n) (hX : CX M m) (e103 : m 103 1 = n) (hC : CT (m 104) (M 135) fr kn n) (h : ∀ m1 : MT, FR5 m m1 → m1 105 15 = M 135 3 * 32 → m1 105 16 = M 135 4 * 32 + 1 → STA M m1 → DY M fr kn n m1 0 → P m1) : c_R_weigh d m P := by
  have hn := H.2.2.2.2.2.2
  have s10 := H.1.2.1
  have pr := H.1.2.2.2.2.2
  have sl := H.1.2.2.2.1
  have e29 : m 2 9 = M 135 3 := by rw [hX 2 (by decide)]; exact H.1.2.2.1
  have e210 : m 2 10 = M 135 4 := by rw [hX 2 (by decide)]; exact H.1.2.2.2.2.1
  refine v_R_weigh ?_
  rw [e29, e210]
  refine ⟨by omega, ?_⟩
  have k15 : (wt (wt m 105 15 (M 135 3 * 32)) 105 16 (M 135 4 * 32 + 1)) 105 15 = M 135 3 * 32 := by rw [wt_ne _ _ (by decide), wt_same]
  have k16 : (wt (wt m 105 15 (M 135 3 * 32)) 105 16 (M 135 4 * 32 + 1)) 105 16 = M 135 4 * 32 + 1 := wt_same _ _ _ _
  have kO : ∀ k : Nat, k ≠ 105 → (wt (wt m 105 15 (M 135 3 * 32)) 105 16 (M 135 4 * 32 + 1)) k = m k := fun k hk => by rw [wt_row _ _ hk, wt_row _ _ hk]
  generalize wt (wt m 105 15 (M 135 3 * 32)) 105 16 (M 135 4 * 32 + 1) = m0 at *
  refine weigh_1 (by omega) H (hX.trans (fun k hk => kO k (by omega))) (fun m1 F1 W1 => ?_) (by rw [kO 103 (by decide), e103]; omega)
  have g103 : m1 103 1 = n := by rw [F1 103 (by decide) (by decide), kO 103 (by decide)]; exact e103
  have g104 : CT (m1 104) (M 135) fr kn n := by rw [F1 104 (by decide) (by decide), kO 104 (by decide)]; exact hC
  have g15 : m1 105 15 = M 135 3 * 32 := by rw [F1 105 (by decide) (by decide)]; exact k15
  have g16 : m1 105 16 = M 135 4 * 32 + 1 := by rw [F1 105 (by decide) (by decide)]; exact k16
  have g28 : m1 2 8 = M 135 0 := by rw [F1 2 (by decide) (by decide), kO 2 (by decide), hX 2 (by decide)]; exact H.1.1
  have S1 : STA M m1 := ⟨fun a b ha hb => (W1 a b ha hb trivial).2.1, fun a b c ha hb hc hl => ((W1 a b ha hb trivial).2.2 hl c hc.1 hc.2).1⟩
  have FF : ∀ m' : MT, FR4 m1 m' → FR5 m m' := fun m' F k k1 k2 => by rw [F k (by omega) (by omega) (by omega), F1 k k1 (by omega)]; exact kO k (by omega)
  have LF : ∀ f : Int, -1 ≤ f → f < n → ∀ m' : MT, FR4 m1 m' → DY M fr kn n m' (f + 1) → h_R_weigh_95 d f m' P := by
    refine dnto _ (fun f hf ihf hfn m' F D => ?_)
    refine v_R_weigh_95 ⟨fun q => h m' (FF m' F) (by rw [F 105 (by decide) (by decide) (by decide)]; exact g15) (by rw [F 105 (by decide) (by decide) (by decide)]; exact g16) (STA_f S1 F) (by rw [show f + 1 = 0 by omega] at D; exact D), fun q => ?_⟩
    have LB : ∀ b : Int, b ≤ M 135 0 → 0 ≤ b → ∀ m' : MT, FR4 m1 m' → WS M fr kn n m' f b (-1) (-1) → h_R_weigh_101 d f b m' P := by
      refine upto _ (fun b hb ihb b0 m' F W => ?_)
      refine v_R_weigh_101 ?_
      have x28 : m' 2 8 = M 135 0 := by rw [F 2 (by decide) (by decide) (by decide)]; exact g28
      rw [x28]
      refine ⟨fun q2 => ⟨by omega, ihf (by omega) (by omega) m' F ?_⟩, fun q2 => ⟨by omega, ?_⟩⟩
      · rw [show f + (-1) + 1 = f by omega]
        exact ⟨fun a' b' c' ha' hb' hc' hl => (W.1 a' b' c' ha' hb' hc' hl).1 (by unfold d3; omega), fun a' b' ha' hb' hl => (W.2 a' b' ha' hb' hl).2.1 (by omega)⟩
      · refine s_R_weighSign (by omega) H x28 (by rw [F 103 (by decide) (by decide) (by decide)]; exact g103) (by rw [F 105 (by decide) (by decide) (by decide)]; exact g15) (by rw [F 105 (by decide) (by decide) (by decide)]; exact g16) (by rw [F 104 (by decide) (by decide) (by decide)]; exact g104) ⟨b0, q2⟩ ⟨q, hfn⟩ (STA_f S1 F) W (fun m2 F2 W2 => ⟨by omega, ihb q2 (by omega) m2 (fun k k1 k2 k3 => by rw [F2 k k1 k2 k3]; exact F k k1 k2 k3) W2⟩)
    refine LB 0 (by omega) (by omega) m' F ⟨fun a' b' c' ha' hb' hc' hl => ⟨fun hD => by unfold d3 at hD; omega, fun _ => D.1 a' b' c' ha' hb' hc' hl⟩, fun a' b' ha' hb' hl => ⟨D.2 a' b' ha' hb' hl, fun x => by omega, fun _ => ⟨fun x => by omega, fun _ x => by omega⟩⟩⟩
  rw [g103]
  refine LF (n - 1) (by omega) (by omega) m1 (fun _ _ _ _ => rfl) ⟨fun a b c ha hb hc hl => ⟨fun i i0 i1 => ?_, fun f' f1 f2 => by omega⟩, fun a b ha hb hl f' f1 f2 => by omega⟩
  have sz := (SOK_SF (a := a) (b := b) (c := c) H ⟨by omega, hb, by omega⟩).1
  rw [((W1 a b ha hb trivial).2.2 hl c hc.1 hc.2).2 i i0 (by omega)]
  exact MN_far (fun x ⟨q, v, y, h1, _⟩ => by omega)
end WEIGHB
