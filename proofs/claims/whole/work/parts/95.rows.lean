section RWM
variable {d : Nat} {M : MT} {fr kn n : Int}
/-- what the reference's search leaves -/
def REX (k : Int) (m m1 : MT) : Prop := (∀ r : Nat, r ≠ 134 → r ≠ 164 → m1 r = m r) ∧ (∀ j : Nat, j ≠ 56 → m1 134 j = m 134 j) ∧ ∀ j : Nat, (j : Int) < 21 * k + 21 → m1 164 j = m 164 j
theorem REX.rfl' (k : Int) (m : MT) : REX k m m := ⟨fun _ _ _ => rfl, fun _ _ => rfl, fun _ _ => rfl⟩
theorem REX.trans {k : Int} {a b c : MT} (h1 : REX k a b) (h2 : REX k b c) : REX k a c := ⟨fun r x y => (h2.1 r x y).trans (h1.1 r x y), fun j x => (h2.2.1 j x).trans (h1.2.1 j x), fun j x => (h2.2.2 j x).trans (h1.2.2 j x)⟩
theorem REX.le {k k' : Int} {a b : MT} (h : REX k' a b) (hk : k ≤ k') : REX k a b := ⟨h.1, h.2.1, fun j hj => h.2.2 j (by omega)⟩
theorem RSI_r {m m1 : MT} {D : Int → Int → Int → Prop} (h : RSI M fr kn n m D) (e1 : m1 162 = m 162) (e2 : m1 163 = m 163) : RSI M fr kn n m1 D := fun f a b hf hv hD => by rw [e1, e2]; exact h f a b hf hv hD
theorem AHD_r {A : Int → Int → Prop} {k : Int} {m m1 : MT} (h : AHD m A k n) (F : REX k m m1) (hk : 0 ≤ k) (hn : n ≤ 20) : AHD m1 A k n := fun f f0 f1 => by rw [F.2.2 _ (by omega)]; exact h f f0 f1
def RS3 (M : MT) (fr kn n : Int) (m : MT) : Prop := m 135 = M 135 ∧ m 134 40 = n ∧ RSI M fr kn n m (fun _ _ _ => True)
theorem RS3_f {k : Int} {m m1 : MT} (h : RS3 M fr kn n m) (F : REX k m m1) : RS3 M fr kn n m1 := ⟨by rw [F.1 135 (by decide) (by decide)]; exact h.1, by rw [F.2.1 40 (by decide)]; exact h.2.1, RSI_r h.2.2 (F.1 162 (by decide) (by decide)) (F.1 163 (by decide) (by decide))⟩
theorem rows_go (H : HX M fr kn n) {L : Int} (hL : 0 ≤ L ∧ L ≤ 3000000) {q : Nat} {k : Int} {A : Int → Int → Prop} {a b x : Int} {m : MT} {P : MT → Prop} (hq : k + q = 19) (k0 : 0 ≤ k) (hd : q + 6 < d) (C : RS3 M fr kn n m) (hv : VS (M 135 0) a b (-1)) (hB : ABd n A k) (hA : AHD m A k n) (ex : m 134 56 = x) (hx : 0 ≤ x ∧ x ≤ 1000)
    (ih : ∀ (d' : Nat) (c : Int) (m' : MT) (x' : Int) (Q : MT → Prop), d' + 1 = d → 0 ≤ c → c < M 135 0 → MAY M fr kn n L A a b c → RS3 M fr kn n m' → AHD m' (AN M fr kn n A a b c) (k + 1) n → m' 134 56 = x' → (0 ≤ x' ∧ x' ≤ 1000) → (∀ m1 : MT, REX (k + 1) m' m1 → m1 134 56 = rcnt M fr kn n L q (AN M fr kn n A a b c) b c x' → Q m1) → c_M_rows d' (k + 1) b c L m' Q)
    (h : ∀ m1 : MT, REX k m m1 → m1 134 56 = rcnt M fr kn n L (q + 1) A a b x → P m1) : c_M_rows d k a b L m P := by
  have hn := H.2.2.2.2.2.2
  have s10 := H.1.2.1
  obtain ⟨v1, v2, v3⟩ := id hv
  have LC : ∀ c : Int, c ≤ M 135 0 → 0 ≤ c → ∀ (x : Int) (m' : MT), REX k m m' → m' 134 56 = x → (0 ≤ x ∧ x ≤ 1000) → (∀ m1 : MT, REX k m m1 → m1 134 56 = cl (fun c x => if x < 1000 ∧ cb (MAY M fr kn n L A a b c) = true then rcnt M fr kn n L q (AN M fr kn n A a b c) b c x else x) (M 135 0 - c).toNat c x → P m1) → h_M_rows_36 d k a b L c m' P := by
    refine upto _ (fun c hc ihc c0 x m' F ex hx h => ?_)
    obtain ⟨g135, g40, gI⟩ := RS3_f C F
    refine v_M_rows_36 ?_
    rw [g135, ex]
    refine ⟨fun w => h m' F ?_, fun w => ⟨fun w2 => h m' F ?_, fun w2 => ⟨by omega, ?_⟩⟩⟩
    · rw [show (M 135 0 - c).toNat = 0 by omega]; exact ex
    · rw [cl_stop (fun c x hx => if_neg (by omega)) _ _ _ w2]; exact ex
    have VC : VS (M 135 0) a b c := ⟨v1, v2, Or.inr ⟨c0, w⟩⟩
    have NX : ∀ m1 : MT, REX k m m1 → m1 134 56 = (if x < 1000 ∧ cb (MAY M fr kn n L A a b c) = true then rcnt M fr kn n L q (AN M fr kn n A a b c) b c x else x) → h_M_rows_36 d k a b L (c + 1) m1 P := by
      intro m1 F1 e1
      refine ihc w (by omega) _ m1 F1 e1 ?_ (fun m2 F2 e2 => h m2 F2 ?_)
      · split
        · exact rcnt_le _ _ _ _ _ hx.1 hx.2
        · exact hx
      · rw [e2, show (M 135 0 - c).toNat = (M 135 0 - (c + 1)).toNat + 1 by omega]
        rfl
    refine s_M_goesOn (M := M) (fr := fr) (kn := kn) (A := A) (by omega) H g135 g40 gI VC (by omega) hB (AHD_r hA F k0 hn.2) (fun t hT ht => ?_)
    have F2 : REX k m' (sv m' 164 t) := ⟨fun r _ r2 => sv_ne _ _ r2, fun _ _ => rfl, fun j hj => ht j (by omega)⟩
    have C2 : RS3 M fr kn n (sv m' 164 t) := RS3_f (RS3_f C F) F2
    have ex2 : (sv m' 164 t) 134 56 = x := ex
    have F02 := F.trans F2
    have HB2 : ABd n (AN M fr kn n A a b c) (k + 1) := ABd_n H hB
    generalize sv m' 164 t = mt at *
    -- may some row be within the limit
    have LM : ∀ f : Int, f ≤ n → 0 ≤ f → ∀ fl : Int, (fl = 0 ∧ ¬ ∃ f' v y : Int, f' < f ∧ AN M fr kn n A a b c f' v ∧ rdX M fr kn n f' b c y ∧ v + y / 32 ≤ L) ∨ (fl = 1 ∧ MAY M fr kn n L A a b c) → h_M_rows_72 d k a b L c fl f mt P := by
      refine upto _ (fun f hf ihf f0 fl hfl => ?_)
      refine v_M_rows_72 ?_
      rw [C2.2.1]
      refine ⟨fun w3 => ⟨fun w4 => ⟨by omega, NX mt F02 ?_⟩, fun w4 => ⟨by omega, ?_⟩⟩, fun w3 => ⟨fun w4 => ⟨by omega, ihf w3 (by omega) 1 (Or.inr ⟨rfl, ?_⟩)⟩, fun w4 => ⟨by omega, ?_⟩⟩⟩
      · rcases hfl with ⟨_, no⟩ | ⟨e, _⟩
        · rw [if_neg ?_]
          · exact ex2
          · rintro ⟨_, y⟩
            obtain ⟨f', v, y', r0, r1, r2⟩ := (cb_iff _).mp y
            have := HB2 f' v r0
            exact no ⟨f', v, y', by omega, r0, r1, r2⟩
        · omega
      · rcases hfl with ⟨e, _⟩ | ⟨_, my⟩
        · exact absurd e w4
        · refine ih (d - 1) c mt x _ (by omega) c0 w my C2 hT ex2 hx (fun m3 F3 e3 => ⟨by omega, NX m3 (F02.trans (F3.le (by omega))) ?_⟩)
          rw [if_pos ⟨w2, (cb_iff _).mpr my⟩]
          exact e3
      · rcases hfl with ⟨e, _⟩ | ⟨_, my⟩
        · exact absurd e w4
        · exact my
      · have no : ¬ ∃ f' v y : Int, f' < f ∧ AN M fr kn n A a b c f' v ∧ rdX M fr kn n f' b c y ∧ v + y / 32 ≤ L := by
          rcases hfl with ⟨_, no⟩ | ⟨e, _⟩
          · exact no
          · omega
        have Tf := hT f f0 w3
        have Rf := (C2.2.2 f b c (by omega) ⟨Or.inr v2, ⟨c0, w⟩, Or.inl rfl⟩ trivial).1
        have ea : (atx f b c).toNat = ((f * 11 + b + 1) * 10 + c).toNat := rfl
        rw [ea] at Rf
        have STAY : (¬ ∃ v y : Int, AN M fr kn n A a b c f v ∧ rdX M fr kn n f b c y ∧ v + y / 32 ≤ L) → h_M_rows_72 d k a b L c 0 (f + 1) mt P := by
          intro nf
          refine ihf w3 (by omega) 0 (Or.inl ⟨rfl, ?_⟩)
          rintro ⟨f', v, y, c1, r⟩
          by_cases e : f' = f
          · subst e; exact nf ⟨v, y, r⟩
          · exact no ⟨f', v, y, by omega, r⟩
        refine ⟨fun w5 => ⟨by omega, STAY ?_⟩, fun w5 => ⟨by omega, fun w6 => ⟨by omega, STAY ?_⟩, fun w6 => ?_⟩⟩
        · rintro ⟨v, y, r0, _⟩
          exact MN_no Tf w5 (fun v hv => by have := HB2 f v hv; omega) v r0
        · rintro ⟨v, y, _, r1, _⟩
          exact MN_no Rf w6 (fun v hv => by have := rdX_in H f0 hv; omega) y r1
        · have b0 := HB2 f _ (Tf.1 w5)
          have b1 := rdX_in H f0 (Rf.1 w6)
          refine ⟨by omega, fun w7 => ⟨by omega, STAY ?_⟩, fun w7 => ⟨by omega, ihf w3 (by omega) 1 (Or.inr ⟨rfl, f, _, _, Tf.1 w5, Rf.1 w6, w7⟩)⟩⟩
          rintro ⟨v, y, r0, r1, r2⟩
          have := Tf.2.1 v r0
          have := Rf.2.1 y r1
          omega
    refine LM 0 (by omega) (by omega) 0 (Or.inl ⟨rfl, ?_⟩)
    rintro ⟨f', v, y, c1, r0, _⟩
    have := HB2 f' v r0
    omega
  refine v_M_rows ?_
  rw [ex]
  have FULL : 1000 ≤ x → rcnt M fr kn n L (q + 1) A a b x = x := fun w => rcnt_full _ _ _ _ _ w
  refine ⟨fun w => ⟨by omega, ?_⟩, fun w => h m (REX.rfl' k m) (by rw [FULL (by omega)]; exact ex)⟩
  refine s_M_ending (M := M) (fr := fr) (kn := kn) (A := A) (by omega) H C.1 C.2.1 C.2.2 hv (by omega) hB hA (fun z hz => ?_)
  have TE : z ≤ L ↔ EE M fr kn n L A a b := ⟨fun w => ⟨z, hz.1 (by omega), w⟩, fun ⟨v, hv, w⟩ => by have := hz.2.1 v hv; omega⟩
  have GO : ∀ (x1 : Int) (m' : MT), REX k m m' → m' 134 56 = x1 → (x1 = if x < 1000 ∧ cb (EE M fr kn n L A a b) = true then x + 1 else x) → h_M_rows_36 d k a b L 0 m' P := by
    intro x1 m' F e1 e2
    refine LC 0 (by omega) (by omega) x1 m' F e1 (by rw [e2]; split <;> omega) (fun m1 F1 g => h m1 F1 ?_)
    rw [g, e2, show M 135 0 - 0 = M 135 0 by omega]
    rfl
  refine ⟨fun w3 => GO x m (REX.rfl' k m) ex (by rw [if_neg (fun y => by have := TE.mpr ((cb_iff _).mp y.2); omega)]), fun w3 => ?_⟩
  rw [ex]
  exact ⟨by omega, GO (x + 1) _ ⟨fun r r1 _ => wt_row _ _ r1, fun j hj => wt_ne _ _ hj, fun j _ => by rw [wt_row _ _ (by decide)]⟩ (wt_same _ _ _ _) (by rw [if_pos ⟨by omega, (cb_iff _).mpr (TE.mp w3)⟩])⟩
theorem s_M_rows (H : HX M fr kn n) {L : Int} (hL : 0 ≤ L ∧ L ≤ 3000000) : ∀ (q : Nat) (d : Nat) (k : Int) (A : Int → Int → Prop) (a b x : Int) (m : MT) (P : MT → Prop), k + q = 19 → 0 ≤ k → q + 6 < d → RS3 M fr kn n m → VS (M 135 0) a b (-1) → ABd n A k → AHD m A k n → m 134 56 = x → (0 ≤ x ∧ x ≤ 1000) → (∀ m1 : MT, REX k m m1 → m1 134 56 = rcnt M fr kn n L (q + 1) A a b x → P m1) → c_M_rows d k a b L m P := by
  have hn := H.2.2.2.2.2.2
  have s10 := H.1.2.1
  intro q
  induction q with
  | zero =>
    intro d k A a b x m P hq k0 hd C hv hB hA ex hx h
    exact rows_go H hL hq k0 hd C hv hB hA ex hx (fun d' c m' x' Q hd' c0 c1 my => by obtain ⟨f, v, y, r0, _⟩ := my; have := ABd_n H hB f v r0; omega) h
  | succ q ih =>
    intro d k A a b x m P hq k0 hd C hv hB hA ex hx h
    refine rows_go H hL hq k0 hd C hv hB hA ex hx (fun d' c m' x' Q hd' c0 c1 my C' hA' ex' hx' hQ => ?_) h
    exact ih d' (k + 1) (AN M fr kn n A a b c) b c x' m' Q (by omega) (by omega) (by omega) C' ⟨Or.inr hv.2.1, ⟨c0, c1⟩, Or.inl rfl⟩ (ABd_n H hB) hA' ex' hx' hQ
end RWM
