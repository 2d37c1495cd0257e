section WATCH
variable {d : Nat} {mi : MT}
theorem s_An_fill {P : MT → Prop} {v : Int} (h : ∀ t : Nat → Int, (∀ j : Nat, j < 40 → t j = v) → P (sv mi 19 t)) : c_An_fill d v mi P := by
  have L : ∀ i : Int, i ≤ 40 → 0 ≤ i → ∀ t : Nat → Int, (∀ j : Nat, (j : Int) < i → t j = v) → h_An_fill_5 d v i 40 (sv mi 19 t) P := by
    refine upto _ (fun i hi ih h0 t ht => ?_)
    refine v_An_fill_5 ⟨fun q => h t (fun j hj => ht j (by omega)), fun q => ⟨by omega, ?_⟩⟩
    rw [wt_sv]
    refine ih q (by omega) _ (fun j hj => ?_)
    rw [svr]
    split
    · rfl
    · exact ht j (by omega)
  have := L 0 (by omega) (by omega) (mi 19) (fun j hj => by omega)
  rw [sv_self] at this
  exact v_An_fill this
theorem s_Ap_fill {P : MT → Prop} {v : Int} (h : ∀ t : Nat → Int, (∀ j : Nat, j < 6240 → t j = v) → P (sv mi 104 t)) : c_Ap_fill d v mi P := by
  have L : ∀ i : Int, i ≤ 6240 → 0 ≤ i → ∀ t : Nat → Int, (∀ j : Nat, (j : Int) < i → t j = v) → h_Ap_fill_5 d v i 6240 (sv mi 104 t) P := by
    refine upto _ (fun i hi ih h0 t ht => ?_)
    refine v_Ap_fill_5 ⟨fun q => h t (fun j hj => ht j (by omega)), fun q => ⟨by omega, ?_⟩⟩
    rw [wt_sv]
    refine ih q (by omega) _ (fun j hj => ?_)
    rw [svr]
    split
    · rfl
    · exact ht j (by omega)
  have := L 0 (by omega) (by omega) (mi 104) (fun j hj => by omega)
  rw [sv_self] at this
  exact v_Ap_fill this
theorem s_Al_fill {P : MT → Prop} {v : Int} (h : ∀ t : Nat → Int, (∀ j : Nat, j < 4 → t j = v) → P (sv mi 115 t)) : c_Al_fill d v mi P := by
  have L : ∀ i : Int, i ≤ 4 → 0 ≤ i → ∀ t : Nat → Int, (∀ j : Nat, (j : Int) < i → t j = v) → h_Al_fill_5 d v i 4 (sv mi 115 t) P := by
    refine upto _ (fun i hi ih h0 t ht => ?_)
    refine v_Al_fill_5 ⟨fun q => h t (fun j hj => ht j (by omega)), fun q => ⟨by omega, ?_⟩⟩
    rw [wt_sv]
    refine ih q (by omega) _ (fun j hj => ?_)
    rw [svr]
    split
    · rfl
    · exact ht j (by omega)
  have := L 0 (by omega) (by omega) (mi 115) (fun j hj => by omega)
  rw [sv_self] at this
  exact v_Al_fill this
/-- the newest of the first n sights that is known -/
def newF (c : Nat → Int) (w f kn : Int) : Nat → Int
  | 0 => -1
  | i + 1 => if c (226 + 7 * (i : Int)).toNat = w ∧ c (226 + 7 * (i : Int) + 1).toNat = f ∧ c (226 + 7 * (i : Int) + 6).toNat ≤ kn then (i : Int) else newF c w f kn i
theorem newF_in (c : Nat → Int) (w f kn : Int) : ∀ n : Nat, newF c w f kn n = -1 ∨ (0 ≤ newF c w f kn n ∧ newF c w f kn n < n) := by
  intro n
  induction n with
  | zero => exact Or.inl rfl
  | succ n ih =>
    simp only [newF]
    split
    · right; omega
    · omega
def NW (c : Nat → Int) (w f kn : Int) : Int := newF c w f kn (c 1).toNat
def seenF (c : Nat → Int) (w f m kn : Int) : Int := if NW c w f kn = -1 then -1 else c (226 + 7 * NW c w f kn + 2 + m).toNat
def joinF (c : Nat → Int) (f m kn : Int) : Int := if seenF c 0 f m kn = -1 then seenF c 1 f m kn else if seenF c 1 f m kn = -1 then seenF c 0 f m kn else if c 5 < c 6 then seenF c 1 f m kn else seenF c 0 f m kn
theorem seenF_in {wo sl da ma c : Nat → Int} (h6 : P_si wo sl da ma c) {w f m kn : Int} (hm : 0 ≤ m ∧ m < 4) : -1 ≤ seenF c w f m kn ∧ seenF c w f m kn < mxv m := by
  obtain ⟨u1, u2, u3⟩ := h6
  have := newF_in c w f kn (c 1).toNat
  have e : mxv m = if m = 0 then 243 else if m = 1 then 20 else if m = 2 then 8 else 10 := rfl
  unfold seenF NW
  split
  · omega
  · have := (u3 (newF c w f kn (c 1).toNat) (by omega) (by omega)).2.2.2.2.2 m hm.1 hm.2
    omega
theorem joinF_in {wo sl da ma c : Nat → Int} (h6 : P_si wo sl da ma c) {f m kn : Int} (hm : 0 ≤ m ∧ m < 4) : -1 ≤ joinF c f m kn ∧ joinF c f m kn < mxv m := by
  have a := seenF_in h6 (w := 0) (f := f) (kn := kn) hm
  have b := seenF_in h6 (w := 1) (f := f) (kn := kn) hm
  unfold joinF
  repeat' split
  all_goals assumption
def GAT (m : MT) (kn : Int) : Prop := ∀ w f : Int, 0 ≤ w → w < 2 → 0 ≤ f → f < 20 → m 19 (w * 20 + f).toNat = NW (m 135) w f kn
theorem s_W_gather {P : MT → Prop} {kn : Int} (hd : 1 < d) (h6 : P_si (mi 14) (mi 16) (mi 17) (mi 18) (mi 135)) (h : ∀ t : Nat → Int, GAT (sv mi 19 t) kn → P (sv mi 19 t)) : c_W_gather d kn mi P := by
  obtain ⟨u1, u2, u3⟩ := h6
  have L : ∀ i : Int, i ≤ mi 14 5 → 0 ≤ i → ∀ t : Nat → Int, (∀ w f : Int, 0 ≤ w → w < 2 → 0 ≤ f → f < 20 → t (w * 20 + f).toNat = newF (mi 135) w f kn i.toNat) → h_W_gather_10 d kn i (sv mi 19 t) P := by
    refine upto _ (fun i hi ih h0 t ht => ?_)
    refine v_W_gather_10 ?_
    rw [wt_sv]
    simp only [svc, Nat.reduceEqDiff, reduceIte]
    refine ⟨fun q => h t (fun w f a b a2 b2 => ?_), fun q => ?_⟩
    · rw [show sv mi 19 t 19 = t from rfl, ht w f a b a2 b2, show i = mi 135 1 by omega]; rfl
    · have e := u3 i h0 (by omega)
      have es : (i + 1).toNat = i.toNat + 1 := by omega
      have ei : ((i.toNat : Nat) : Int) = i := by omega
      refine ⟨by omega, fun w => ⟨by omega, ih q (by omega) t (fun w f a b a2 b2 => ?_)⟩, fun w => ⟨by omega, ih q (by omega) _ (fun w f a b a2 b2 => ?_)⟩⟩
      · rw [es]; simp only [newF]
        rw [ei, if_neg (by omega)]; exact ht w f a b a2 b2
      · rw [es]; simp only [newF, svr]
        rw [ei]
        by_cases c : mi 135 (226 + 7 * i).toNat = w ∧ mi 135 (226 + 7 * i + 1).toNat = f
        · rw [if_pos (by omega), if_pos (by omega)]
        · rw [if_neg (by omega), if_neg (by omega)]; exact ht w f a b a2 b2
  refine v_W_gather ⟨by omega, s_An_fill (fun t ht => ?_)⟩
  exact L 0 (by omega) (by omega) t (fun w f a b a2 b2 => ht _ (by omega))
theorem s_W_seenBy {P : Int → MT → Prop} {w f m kn : Int} (hG : GAT mi kn) (h6 : P_si (mi 14) (mi 16) (mi 17) (mi 18) (mi 135)) (hw : 0 ≤ w ∧ w < 2) (hf : 0 ≤ f ∧ f < 20) (hm : 0 ≤ m ∧ m < 4) (h : P (seenF (mi 135) w f m kn) mi) : c_W_seenBy d w f m mi P := by
  obtain ⟨u1, u2, u3⟩ := h6
  have g := hG w f hw.1 hw.2 hf.1 hf.2
  have n := newF_in (mi 135) w f kn (mi 135 1).toNat
  have e : NW (mi 135) w f kn = newF (mi 135) w f kn (mi 135 1).toNat := rfl
  unfold seenF at h
  refine v_W_seenBy ?_
  rw [g]
  refine ⟨by omega, fun q => ?_, fun q => ?_⟩
  · have := u3 (NW (mi 135) w f kn) (by omega) (by omega)
    have k := this.2.2.2.2.2 m hm.1 hm.2
    rw [if_neg q, ← k.1] at h
    exact ⟨by omega, h⟩
  · rw [if_pos q] at h; exact h
theorem s_W_join {P : Int → MT → Prop} {f m kn : Int} (hd : 1 < d) (hG : GAT mi kn) (h6 : P_si (mi 14) (mi 16) (mi 17) (mi 18) (mi 135)) (h5 : P_tr (mi 15) (mi 135)) (hf : 0 ≤ f ∧ f < 20) (hm : 0 ≤ m ∧ m < 4) (h : P (joinF (mi 135) f m kn) mi) : c_W_join d f m mi P := by
  have t0 := (h5 0 (by decide) (by decide)).1
  have t1 := (h5 1 (by decide) (by decide)).1
  have t0 : mi 15 0 = mi 135 5 := t0
  have t1 : mi 15 1 = mi 135 6 := t1
  unfold joinF at h
  refine v_W_join ⟨by omega, s_W_seenBy hG h6 (by decide) hf hm (s_W_seenBy hG h6 (by decide) hf hm ?_)⟩
  rw [t0, t1]
  refine ⟨fun q => ⟨fun q2 => ?_, fun q2 => ⟨fun q3 => ?_, fun q3 => ?_⟩⟩, fun q => ?_⟩
  · rw [if_neg q, if_pos q2] at h; exact h
  · rw [if_neg q, if_neg q2, if_neg (by omega)] at h; exact h
  · rw [if_neg q, if_neg q2, if_pos (by omega)] at h; exact h
  · rw [if_pos q] at h; exact h
theorem s_M_seen {P : Int → MT → Prop} {w f m kn : Int} (h6 : 0 ≤ mi 135 1 ∧ mi 135 1 ≤ 120) (hm : 0 ≤ m ∧ m < 4) (h : P (seenF (mi 135) w f m kn) mi) : c_M_seen d w f m kn mi P := by
  have L : ∀ n : Nat, (n : Int) ≤ mi 135 1 → P (if newF (mi 135) w f kn n = -1 then -1 else mi 135 (226 + 7 * newF (mi 135) w f kn n + 2 + m).toNat) mi → h_M_seen_10 d w f m kn ((n : Int) - 1) mi P := by
    intro n
    induction n with
    | zero => intro _ hp; exact v_M_seen_10 ⟨fun _ => hp, fun q => by omega⟩
    | succ n ih =>
      intro hn hp
      rw [show ((n + 1 : Nat) : Int) - 1 = n by omega]
      have en : ¬ (mi 135 (226 + 7 * (n : Int)).toNat = w ∧ mi 135 (226 + 7 * (n : Int) + 1).toNat = f ∧ mi 135 (226 + 7 * (n : Int) + 6).toNat ≤ kn) → newF (mi 135) w f kn (n + 1) = newF (mi 135) w f kn n := fun q => by simp only [newF]; exact if_neg q
      have ey : (mi 135 (226 + 7 * (n : Int)).toNat = w ∧ mi 135 (226 + 7 * (n : Int) + 1).toNat = f ∧ mi 135 (226 + 7 * (n : Int) + 6).toNat ≤ kn) → newF (mi 135) w f kn (n + 1) = n := fun q => by simp only [newF]; exact if_pos q
      refine v_M_seen_10 ?_
      repeat' (first | (refine And.intro (by omega) ?_) | apply And.intro | intro _ | omega)
      · rw [en (by omega)] at hp
        rw [show (n : Int) + (-1) = n - 1 by omega]
        exact ih (by omega) hp
      · rw [en (by omega)] at hp
        rw [show (n : Int) + (-1) = n - 1 by omega]
        exact ih (by omega) hp
      · rw [en (by omega)] at hp
        rw [show (n : Int) + (-1) = n - 1 by omega]
        exact ih (by omega) hp
      · rw [ey (by omega), if_neg (by omega)] at hp
        exact hp
  refine v_M_seen ⟨by omega, ?_⟩
  have := L (mi 135 1).toNat (by omega) h
  rw [show ((mi 135 1).toNat : Int) - 1 = mi 135 1 - 1 by omega] at this
  exact this
theorem s_M_joinedOf {P : Int → MT → Prop} {f m kn : Int} (hd : 1 < d) (h6 : 0 ≤ mi 135 1 ∧ mi 135 1 ≤ 120) (hm : 0 ≤ m ∧ m < 4) (h : P (joinF (mi 135) f m kn) mi) : c_M_joinedOf d f m kn mi P := by
  unfold joinF at h
  refine v_M_joinedOf ⟨by omega, s_M_seen h6 hm (s_M_seen h6 hm ?_)⟩
  refine ⟨fun q => ⟨fun q2 => absurd q q2, fun _ => ?_⟩, fun q => ⟨fun q2 => ⟨fun q3 => ?_, fun q3 => ?_⟩, fun q2 => ⟨fun _ => ?_, fun q3 => absurd q3 q⟩⟩⟩
  · rw [if_pos q] at h; exact h
  · rw [if_neg q, if_neg q2, if_neg (by omega)] at h; exact h
  · rw [if_neg q, if_neg q2, if_pos (by omega)] at h; exact h
  · rw [if_neg q, if_pos q2] at h; exact h
theorem ca_joined {f m kn : Int} (hI : Base mi) (hd : 20 ≤ d) : c_C_joined d f m kn mi (fun z m1 => c_M_joined d f m kn m1 (fun z' m2 => Bth z z' mi m2)) := by
  obtain ⟨hs, ht, h1, h2, h3, h4, h5, h6, h7, h8, h9, h10⟩ := id hI
  refine v_C_joined ?_
  repeat' (first | (refine And.intro (by omega) ?_) | apply And.intro | intro _ | omega)
  all_goals (try (refine v_M_joined ?_))
  all_goals repeat' (first | (refine And.intro (by omega) ?_) | apply And.intro | intro _ | omega)
  all_goals (try exact Bth.mk rfl hI (Kp.rfl' _))
  refine s_W_gather (by omega) h6 (fun t hG => s_W_join (by omega) hG h6 h5 (by omega) (by omega) ?_)
  have hB : Base (sv mi 19 t) := hI
  refine v_M_joined ?_
  repeat' (first | (refine And.intro (by omega) ?_) | apply And.intro | intro _ | omega)
  exact s_M_joinedOf (by omega) h6.2.1 (by omega) (Bth.mk rfl hB (by (repeat' (first | exact Kp.rfl' _ | refine Kp.w0 ?_ (by decide) | refine Kp.w134 ?_ (by decide) | refine Kp.w135 ?_ (by omega) | refine Kp.wo ?_ (by decide) | refine Kp.cp ?_ (by decide) | refine Kp.o ?_ (by decide)))))
def clsh (c : Nat → Int) (f kn m : Int) : Int := if seenF c 0 f m kn = -1 ∨ seenF c 1 f m kn = -1 ∨ seenF c 0 f m kn = seenF c 1 f m kn then 0 else 1
def clm (c : Nat → Int) (f kn : Int) : Nat → Int
  | 0 => 0
  | n + 1 => clm c f kn n + clsh c f kn n
def clf (c : Nat → Int) (f kn : Int) : Nat → Int
  | 0 => 0
  | n + 1 => clf c f kn n + clm c (f + n) kn 4
theorem clm_in (c : Nat → Int) (f kn : Int) : ∀ n : Nat, 0 ≤ clm c f kn n ∧ clm c f kn n ≤ n := by
  intro n
  induction n with
  | zero => simp [clm]
  | succ n ih => simp only [clm]; unfold clsh; split <;> omega
theorem clf_in (c : Nat → Int) (f kn : Int) : ∀ n : Nat, 0 ≤ clf c f kn n ∧ clf c f kn n ≤ 4 * n := by
  intro n
  induction n with
  | zero => simp [clf]
  | succ n ih => simp only [clf]; have := clm_in c (f + n) kn 4; omega
theorem s_W_countClashes {P : Int → MT → Prop} {a b kn : Int} (hd : 1 < d) (hG : GAT mi kn) (h6 : P_si (mi 14) (mi 16) (mi 17) (mi 18) (mi 135)) (hf : 0 ≤ a ∧ a ≤ b ∧ b < 20) (h : P (clf (mi 135) a kn (b - a + 1).toNat) mi) : c_W_countClashes d a b mi P := by
  have I : ∀ (f x : Int), 0 ≤ f → f < 20 → (0 ≤ x ∧ x ≤ 100) → h_W_countClashes_5 d a b (x + clm (mi 135) f kn 4) (f + 1) mi P → ∀ m : Int, m ≤ 4 → 0 ≤ m → h_W_countClashes_14 d a b (x + clm (mi 135) f kn m.toNat) f m mi P := by
    intro f x hf0 hf1 hx hc
    refine upto _ (fun m hm ih h0 => ?_)
    have cm := clm_in (mi 135) f kn m.toNat
    refine v_W_countClashes_14 ⟨fun q => ⟨by omega, by rw [show m = 4 by omega]; exact hc⟩, fun q => ⟨by omega, s_W_seenBy hG h6 (by decide) ⟨hf0, hf1⟩ ⟨h0, q⟩ (s_W_seenBy hG h6 (by decide) ⟨hf0, hf1⟩ ⟨h0, q⟩ ?_)⟩⟩
    have ih := ih q (by omega)
    rw [show (m + 1).toNat = m.toNat + 1 by omega] at ih
    simp only [clm] at ih
    rw [show ((m.toNat : Nat) : Int) = m by omega] at ih
    unfold clsh at ih
    refine ⟨fun q1 => ⟨by omega, ?_⟩, fun q1 => ⟨fun q2 => ⟨by omega, ?_⟩, fun q2 => ⟨fun q3 => ⟨by omega, ?_⟩, fun q3 => ⟨by omega, ?_⟩⟩⟩⟩
    · rw [if_pos (Or.inl q1), Int.add_zero] at ih; exact ih
    · rw [if_pos (Or.inr (Or.inl q2)), Int.add_zero] at ih; exact ih
    · rw [if_pos (Or.inr (Or.inr q3)), Int.add_zero] at ih; exact ih
    · rw [if_neg (by omega), ← Int.add_assoc] at ih; exact ih
  have O : ∀ f : Int, f ≤ b + 1 → a ≤ f → h_W_countClashes_5 d a b (clf (mi 135) a kn (f - a).toNat) f mi P := by
    refine upto _ (fun f hf1 ih hf0 => ?_)
    have cf := clf_in (mi 135) a kn (f - a).toNat
    refine v_W_countClashes_5 ⟨fun q => by rw [show f - a = b - a + 1 by omega]; exact h, fun q => ?_⟩
    have := I f (clf (mi 135) a kn (f - a).toNat) (by omega) (by omega) (by omega) ?_ 0 (by omega) (by omega)
    · rw [show clf (mi 135) a kn (f - a).toNat + clm (mi 135) f kn (0 : Int).toNat = clf (mi 135) a kn (f - a).toNat from Int.add_zero _] at this
      exact this
    · have ih := ih (by omega) (by omega)
      rw [show (f + 1 - a).toNat = (f - a).toNat + 1 by omega] at ih
      simp only [clf] at ih
      rw [show a + (((f - a).toNat : Nat) : Int) = f by omega] at ih
      exact ih
  have := O a (by omega) (by omega)
  rw [show (a - a).toNat = 0 by omega] at this
  exact v_W_countClashes this
theorem ca_clashes {a b kn : Int} (hI : Base mi) (hd : 20 ≤ d) : c_C_clashes d a b kn mi (fun z m1 => c_M_clashes d a b kn m1 (fun z' m2 => Bth z z' mi m2)) := by
  obtain ⟨hs, ht, h1, h2, h3, h4, h5, h6, h7, h8, h9, h10⟩ := id hI
  refine v_C_clashes ?_
  repeat' (first | (refine And.intro (by omega) ?_) | apply And.intro | intro _ | omega)
  all_goals (try (refine v_M_clashes ?_))
  all_goals repeat' (first | (refine And.intro (by omega) ?_) | apply And.intro | intro _ | omega)
  all_goals (try exact Bth.mk rfl hI (Kp.rfl' _))
  refine s_W_gather (by omega) h6 (fun t hG => s_W_countClashes (by omega) hG h6 (by omega) ?_)
  have hB : Base (sv mi 19 t) := hI
  have hK : Kp mi (sv mi 19 t) := by (repeat' (first | exact Kp.rfl' _ | refine Kp.w0 ?_ (by decide) | refine Kp.w134 ?_ (by decide) | refine Kp.w135 ?_ (by omega) | refine Kp.wo ?_ (by decide) | refine Kp.cp ?_ (by decide) | refine Kp.o ?_ (by decide)))
  refine v_M_clashes ?_
  repeat' (first | (refine And.intro (by omega) ?_) | apply And.intro | intro _ | omega)
  have h6' := h6.2.1
  generalize hm : sv mi 19 t = m1 at hB hK ⊢
  have e135 : m1 135 = mi 135 := by rw [← hm]; rfl
  rw [← e135] at h6'
  generalize hz : clf (m1 135) a kn (b - a + 1).toNat = z
  have I : ∀ (f x : Int), 0 ≤ f → f < 20 → (0 ≤ x ∧ x ≤ 100) → h_M_clashes_17 d a b kn (x + clm (m1 135) f kn 4) (f + 1) m1 (fun z' m2 => Bth z z' mi m2) → ∀ m : Int, m ≤ 4 → 0 ≤ m → h_M_clashes_26 d a b kn (x + clm (m1 135) f kn m.toNat) f m m1 (fun z' m2 => Bth z z' mi m2) := by
    intro f x hf0 hf1 hx hc
    refine upto _ (fun m hm ih h0 => ?_)
    have cm := clm_in (m1 135) f kn m.toNat
    refine v_M_clashes_26 ⟨fun q => ⟨by omega, by rw [show m = 4 by omega]; exact hc⟩, fun q => ⟨by omega, s_M_seen h6' ⟨h0, q⟩ (s_M_seen h6' ⟨h0, q⟩ ?_)⟩⟩
    have ih := ih q (by omega)
    rw [show (m + 1).toNat = m.toNat + 1 by omega] at ih
    simp only [clm] at ih
    rw [show ((m.toNat : Nat) : Int) = m by omega, ← Int.add_assoc] at ih
    unfold clsh at ih
    refine ⟨fun q1 => ⟨by omega, ?_⟩, fun q1 => ⟨fun q2 => ⟨by omega, ?_⟩, fun q2 => ⟨fun q3 => ⟨by omega, ?_⟩, fun q3 => ⟨by omega, ?_⟩⟩⟩⟩
    · rw [if_pos (Or.inl q1)] at ih; exact ih
    · rw [if_pos (Or.inr (Or.inl q2))] at ih; exact ih
    · rw [if_pos (Or.inr (Or.inr q3))] at ih; exact ih
    · rw [if_neg (by omega)] at ih; exact ih
  have O : ∀ f : Int, f ≤ b + 1 → a ≤ f → h_M_clashes_17 d a b kn (clf (m1 135) a kn (f - a).toNat) f m1 (fun z' m2 => Bth z z' mi m2) := by
    refine upto _ (fun f hf1 ih hf0 => ?_)
    have cf := clf_in (m1 135) a kn (f - a).toNat
    refine v_M_clashes_17 ⟨fun q => Bth.mk (by rw [← hz, show f - a = b - a + 1 by omega]) hB hK, fun q => ?_⟩
    have := I f (clf (m1 135) a kn (f - a).toNat) (by omega) (by omega) (by omega) ?_ 0 (by omega) (by omega)
    · rw [show clf (m1 135) a kn (f - a).toNat + clm (m1 135) f kn (0 : Int).toNat = clf (m1 135) a kn (f - a).toNat from Int.add_zero _] at this
      exact this
    · have ih := ih (by omega) (by omega)
      rw [show (f + 1 - a).toNat = (f - a).toNat + 1 by omega] at ih
      simp only [clf] at ih
      rw [show a + (((f - a).toNat : Nat) : Int) = f by omega] at ih
      exact ih
  have := O a (by omega) (by omega)
  rw [show (a - a).toNat = 0 by omega] at this
  exact this
theorem ca_sight {w f a b c e kn : Int} (hI : Base mi) (hd : 20 ≤ d) : c_C_sight d w f a b c e kn mi (fun z m1 => c_M_sight d w f a b c e kn m1 (fun z' m2 => Bth z z' mi m2)) := by
  obtain ⟨hs, ht, h1, h2, h3, h4, h5, h6, h7, h8, h9, h10⟩ := id hI
  obtain ⟨u1, u2, u3⟩ := id h6
  refine v_C_sight ?_
  repeat' (first | (refine And.intro (by omega) ?_) | apply And.intro | intro _ | omega)
  all_goals (refine v_M_sight ?_)
  all_goals (try simp only [wt_r, svr, Nat.reduceEqDiff, reduceIte, reduceCtorEq, false_implies, true_implies, true_and, and_true, eq_self, not_true_eq_false, not_false_eq_true])
  all_goals repeat' (first | (refine And.intro (by omega) ?_) | apply And.intro | intro _ | omega)
  all_goals (try exact Bth.ref (PK_ref hI _))
  all_goals (try (simp only [show ¬ 1 = (226 + 7 * mi 135 1).toNat by omega, show ¬ 1 = (226 + 7 * mi 135 1 + 1).toNat by omega, show ¬ 1 = (226 + 7 * mi 135 1 + 2).toNat by omega, show ¬ 1 = (226 + 7 * mi 135 1 + 3).toNat by omega, show ¬ 1 = (226 + 7 * mi 135 1 + 4).toNat by omega, show ¬ 1 = (226 + 7 * mi 135 1 + 5).toNat by omega, show ¬ 1 = (226 + 7 * mi 135 1 + 6).toNat by omega, reduceIte]))
  all_goals (try omega)
  rw [u1]
  refine Bth.mk rfl ?_ (by (repeat' (first | exact Kp.rfl' _ | refine Kp.w0 ?_ (by decide) | refine Kp.w134 ?_ (by decide) | refine Kp.w135 ?_ (by omega) | refine Kp.wo ?_ (by decide) | refine Kp.cp ?_ (by decide) | refine Kp.o ?_ (by decide))))
  (unfold Base Hs; simp only [wt_r, cpm_r, svc, Nat.reduceEqDiff, reduceIte]; refine ⟨?_, ?_, ?_, ?_, ?_, ?_, ?_, ?_, ?_, ?_, ?_, ?_⟩ <;> (repeat (first | assumption | exact P_stat_c ‹_› | refine P_stat_m ?_ (by decide) | refine P_stat_h ?_ (by decide) | refine P_tape_m ?_ (by decide) | refine P_num_c ?_ (by omega) | refine P_num_b ?_ (by decide) | refine P_sgn_c ?_ (by omega) | refine P_xy_c ?_ (by omega) | refine P_w_c ?_ (by omega) | refine P_tr_c ?_ (by omega) | refine P_pr_c ?_ (by omega) | refine P_si_c ?_ (by omega) | refine P_va_c ?_ (by omega) | refine P_us_c ?_ (by omega) | refine P_ud_c ?_ (by omega))))
  refine ⟨by simp only [svr, eq_self, reduceIte, Nat.reduceEqDiff], by simp only [svr, eq_self, reduceIte, Nat.reduceEqDiff]; omega, fun i hi hi2 => ?_⟩
  simp only [svr, eq_self, reduceIte, Nat.reduceEqDiff] at hi2 ⊢
  by_cases ei : i = mi 135 1
  · subst ei
    refine ⟨by omega, by omega, by omega, by omega, by omega, fun k hk hk2 => ?_⟩
    have m0 : mxv 0 = 243 := rfl
    have m1 : mxv 1 = 20 := rfl
    have m2 : mxv 2 = 8 := rfl
    have m3 : mxv 3 = 10 := rfl
    have : k = 0 ∨ k = 1 ∨ k = 2 ∨ k = 3 := by omega
    rcases this with rfl | rfl | rfl | rfl <;> omega
  · obtain ⟨g1, g2, g3, g4, g5, g6⟩ := u3 i hi (by omega)
    refine ⟨by omega, by omega, by omega, by omega, by omega, fun k hk hk2 => ?_⟩
    have := g6 k hk hk2
    omega
end WATCH
