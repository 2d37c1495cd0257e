section LEADS
variable {d : Nat} {M : MT} {fr kn n N z : Int} {r : Int → Int} {st pl nu t : Nat → Int}
theorem keys_bd (H : HX M fr kn n) (hR : REF pl st t (M 135) fr kn n z (M 135 3) (fun _ _ => True)) (hk : ∀ i f : Int, 0 ≤ i → i < z → 0 ≤ f → f < n → 0 ≤ KF (M 135) fr kn f (st i.toNat) ∧ KF (M 135) fr kn f (st i.toNat) ≤ 3200) : ∀ (q : Nat) (f : Int), n - f ≤ q → 0 ≤ f → ∀ i : Int, 0 ≤ i → i < z → kA t n i f = 268435456 ∨ (f < n ∧ 0 ≤ kA t n i f ∧ kA t n i f ≤ 3200 * (n - f)) := by
  have sl := H.1.2.2.2.1
  have hn := H.2.2.2.2.2.2
  intro q
  induction q with
  | zero => intro f hf f0 i i0 i1; exact Or.inl (kA_far (by omega))
  | succ q ih =>
    intro f hf f0 i i0 i1
    by_cases c : n ≤ f
    · exact Or.inl (kA_far c)
    · rw [kA_in (by omega)]
      have R := hR i f ⟨i0, i1⟩ ⟨f0, by omega⟩ trivial
      have kb := hk i f i0 i1 f0 (by omega)
      have a0 := ih (f + 1) (by omega) (by omega) i i0 i1
      have lv : lvF pl t n z (M 135 3) i (f + 1) = 268435456 ∨ (0 ≤ lvF pl t n z (M 135 3) i (f + 1) ∧ lvF pl t n z (M 135 3) i (f + 1) ≤ 3200 * (n - (f + 1))) := by
        unfold lvF
        split
        · split
          · exact Or.inr (by omega)
          · exact Or.inl rfl
        · have b0 := ih (f + 1) (by omega) (by omega) (i + 1) (by omega) (by omega)
          have b1 := ih (f + 1 + 1) (by omega) (by omega) (i + 1) (by omega) (by omega)
          have b2 := ih (f + 1 + 2) (by omega) (by omega) (i + 1) (by omega) (by omega)
          have b3 := ih (f + 1 + 3) (by omega) (by omega) (i + 1) (by omega) (by omega)
          split <;> omega
      omega
/-- a slide's cost: k slides, and then the next sign's first state -/
def SLD (t : Nat → Int) (n sl i j f : Int) : Int := if j = 0 then min 268435456 (min (kA t n i (f + 1) + sl) (min (kA t n i (f + 2) + 2 * sl) (kA t n i (f + 3) + 3 * sl))) else if j = 1 then min 268435456 (min (kA t n i (f + 1) + sl) (kA t n i (f + 2) + 2 * sl)) else min 268435456 (kA t n i (f + 1) + sl)
/-- the reference's table of a row: place 7 * p + s -/
def OTB (M : MT) (r : Int → Int) (N n : Int) (t : Nat → Int) (p f : Int) : Int := if p % 7 < 4 then (if p % 7 < zr M r N (p / 7) then kA t n (osn M r N (p / 7).toNat + p % 7) f else 268435456) else if p / 7 < N - 1 then SLD t n (M 135 3) (osn M r N (p / 7 + 1).toNat) (p % 7 - 4) f else 268435456
def bhF (w : Nat → Int) (N p k : Int) : Int := if 3 < p % 7 then (if k = 0 ∧ p % 7 < 6 then p + 1 else if k = 1 then 7 * (p / 7 + 1) else -1) else if k = 0 then p else if k = 1 then (if p % 7 + 1 < w (p / 7).toNat then p + 1 else -1) else if p / 7 = N - 1 ∨ p % 7 + 1 < w (p / 7).toNat then -1 else if k = 2 then 7 * (p / 7) + 4 else 7 * (p / 7 + 1)
theorem s_M_behind {m : MT} {P : Int → MT → Prop} {p k : Int} (hp : 0 ≤ p ∧ p < 140) (hk : 0 ≤ k ∧ k < 4) (hN : 1 ≤ m 134 50 ∧ m 134 50 ≤ 20) (hw : 1 ≤ m 169 (p / 7).toNat ∧ m 169 (p / 7).toNat ≤ 4) (h : ∀ v : Int, v = bhF (m 169) (m 134 50) p k → P v m) : c_M_behind d p k m P := by
  refine v_M_behind ?_
  repeat' (first | intro _ | (refine And.intro ?_ ?_) | omega | exact h _ (by unfold bhF; (repeat' split) <;> omega))
theorem s_M_costAt {m : MT} {P : Int → MT → Prop} {f p : Int} {x : Int} (hd : 3 < d) (H : HX M fr kn n) (e135 : m 135 = M 135) (hL : LKM m (M 135) fr kn n) (hf : 0 ≤ f ∧ f < n) (hp : 0 ≤ p ∧ p < 140) (hx : p % 7 ≤ 3 → okSt x ∧ ∀ j : Int, 0 ≤ j → j < 4 → m 168 (16 * (p / 7) + 4 * (p % 7) + j).toNat = mkv x j) (h1 : p % 7 ≤ 3 → ∀ u : Nat → Int, P (KF (M 135) fr kn f x) (sv m 158 u)) (h2 : 3 < p % 7 → P (M 135 3) m) : c_M_costAt d f p m P := by
  have hn := H.2.2.2.2.2.2
  refine v_M_costAt ⟨by omega, fun q => ?_, fun q => by rw [e135]; exact h2 q⟩
  have L : ∀ j : Int, j ≤ 4 → 0 ≤ j → ∀ u : Nat → Int, (∀ j' : Int, 0 ≤ j' → j' < j → u (4 * (p % 7) + j').toNat = mkv x j') → h_M_costAt_20 d f p (p % 7) j (sv m 158 u) P := by
    refine upto _ (fun j hj ih j0 u hu => ?_)
    refine v_M_costAt_20 ⟨fun w => ⟨by omega, ?_⟩, fun w => ⟨by omega, ?_⟩⟩
    · exact s_M_costOf (c := M 135) (fr := fr) (kn := kn) (n := n) (x := x) (by omega) H.2.2.1 H.2.2.2.1 H.2.2.2.2.1 e135 hL (by omega) (by omega) (hx q).1 (fun j' a b => hu j' a (by omega)) (h1 q u)
    · have e : wt (sv m 158 u) 158 (4 * (p % 7) + j).toNat ((sv m 158 u) 168 (16 * (p / 7) + 4 * (p % 7) + j).toNat) = sv m 158 (sv u (4 * (p % 7) + j).toNat (m 168 (16 * (p / 7) + 4 * (p % 7) + j).toNat)) := by
        funext k i
        simp only [wt_r, svc]
        split <;> rfl
      rw [e]
      refine ih w (by omega) _ (fun j' a b => ?_)
      by_cases c : j' = j
      · subst c; rw [sv_eq]; exact (hx q).2 j' a (by omega)
      · rw [svn _ _ (by omega)]; exact hu j' a (by omega)
  have := L 0 (by omega) (by omega) (m 158) (fun j' a b => by omega)
  rw [sv_self] at this
  exact this
/-- what the reference knows of a row -/
def LDB (M : MT) (fr kn n : Int) (r : Int → Int) (N : Int) (m : MT) : Prop := m 135 = M 135 ∧ LKM m (M 135) fr kn n ∧ m 134 50 = N ∧ ∀ p : Int, 0 ≤ p → p < N → m 169 p.toNat = zr M r N p ∧ ∀ s : Int, 0 ≤ s → s < zr M r N p → ∀ j : Int, 0 ≤ j → j < 4 → m 168 (16 * p + 4 * s + j).toNat = mkv ((sfr M r N p).2 s.toNat) j
theorem LDB_f {m m1 : MT} (h : LDB M fr kn n r N m) (e1 : m1 135 = m 135) (e2 : m1 134 = m 134) (e3 : m1 159 = m 159) (e4 : m1 168 = m 168) (e5 : m1 169 = m 169) : LDB M fr kn n r N m1 := by
  unfold LDB LKM at *
  rw [e1, e2, e3, e4, e5]
  exact h
/-- the table, where it is filled -/
def TBd (M : MT) (r : Int → Int) (N n : Int) (t : Nat → Int) (u : Nat → Int) (D : Int → Int → Prop) : Prop := ∀ f p : Int, (0 ≤ f ∧ f < n) → (0 ≤ p ∧ p < 7 * N) → D f p → u (140 * f + p).toNat = OTB M r N n t p f
/-- what is weighed behind a place -/
def vl (u : Nat → Int) (N f x : Int) : Int := if x ≠ -1 ∧ x < 7 * N then u (140 * (f + 1) + x).toNat else 268435456
theorem s_228 {m : MT} {P : MT → Prop} {e f p x k : Int} (hd : 1 < d) (B : LDB M fr kn n r N m) (hN : 1 ≤ N ∧ N ≤ 20) (hw : 1 ≤ m 169 (p / 7).toNat ∧ m 169 (p / 7).toNat ≤ 4) (hf : 0 ≤ f ∧ f + 1 < 20) (hp : 0 ≤ p ∧ p < 7 * N) (hk : 0 ≤ k ∧ k < 4) (h : h_M_leads_228 d e f p (min x (vl (m 170) N f (bhF (m 169) N p k))) (k + 1) m P) (hb : x ≤ 268435456) : h_M_leads_228 d e f p x k m P := by
  have b0 : bhF (m 169) N p k = -1 ∨ (0 ≤ bhF (m 169) N p k ∧ bhF (m 169) N p k ≤ 7 * N) := by
    unfold bhF
    (repeat' split) <;> omega
  have hp' : 0 ≤ p ∧ p < 140 := by omega
  have hN' : 1 ≤ m 134 50 ∧ m 134 50 ≤ 20 := by rw [B.2.2.1]; exact hN
  refine v_M_leads_228 ⟨fun w => by omega, fun _ => ⟨by omega, s_M_behind hp' hk hN' hw (fun v1 e1 => ?_)⟩⟩
  rw [B.2.2.1] at e1
  unfold vl at h
  rw [← e1] at h b0
  refine ⟨fun q => ⟨by omega, ?_⟩, fun q => ?_⟩
  · rw [if_neg (by omega), Int.min_eq_left hb] at h; exact h
  refine s_M_behind hp' hk hN' hw (fun v2 e2 => ?_)
  rw [B.2.2.1, ← e1] at e2
  subst e2
  rw [B.2.2.1]
  refine ⟨by omega, fun q2 => ⟨by omega, ?_⟩, fun q2 => ⟨by omega, ?_⟩⟩
  · rw [if_neg (by omega), Int.min_eq_left hb] at h; exact h
  refine s_M_behind hp' hk hN' hw (fun v3 e3 => ?_)
  rw [B.2.2.1, ← e1] at e3
  subst e3
  rw [if_pos ⟨q, q2⟩] at h
  refine ⟨by omega, fun q3 => ⟨by omega, ?_⟩, fun q3 => ?_⟩
  · rw [Int.min_eq_left q3] at h; exact h
  refine s_M_behind hp' hk hN' hw (fun v4 e4 => ?_)
  rw [B.2.2.1, ← e1] at e4
  subst e4
  rw [Int.min_eq_right (by omega)] at h
  exact ⟨by omega, h⟩
theorem s_444 {m : MT} {P : MT → Prop} {e f p x y k : Int} (hd : 1 < d) (B : LDB M fr kn n r N m) (hN : 1 ≤ N ∧ N ≤ 20) (hw : 1 ≤ m 169 (p / 7).toNat ∧ m 169 (p / 7).toNat ≤ 4) (hf : 0 ≤ f ∧ f + 1 < 20) (hp : 0 ≤ p ∧ p < 7 * N) (hk : 0 ≤ k ∧ k < 4) (hx : x < 268435456) (h : h_M_leads_444 d e p f x (if vl (m 170) N f (bhF (m 169) N p k) = x then bhF (m 169) N p k else y) (k + (-1)) m P) : h_M_leads_444 d e p f x y k m P := by
  have b0 : bhF (m 169) N p k = -1 ∨ (0 ≤ bhF (m 169) N p k ∧ bhF (m 169) N p k ≤ 7 * N) := by
    unfold bhF
    (repeat' split) <;> omega
  have hp' : 0 ≤ p ∧ p < 140 := by omega
  have hN' : 1 ≤ m 134 50 ∧ m 134 50 ≤ 20 := by rw [B.2.2.1]; exact hN
  refine v_M_leads_444 ⟨fun w => by omega, fun _ => ⟨by omega, s_M_behind hp' hk hN' hw (fun v1 e1 => ?_)⟩⟩
  rw [B.2.2.1] at e1
  rw [← e1] at h b0
  refine ⟨fun q => ⟨by omega, ?_⟩, fun q => ?_⟩
  · have ev : vl (m 170) N f v1 = 268435456 := if_neg (by omega)
    rw [ev, if_neg (by omega)] at h; exact h
  refine s_M_behind hp' hk hN' hw (fun v2 e2 => ?_)
  rw [B.2.2.1, ← e1] at e2
  subst e2
  rw [B.2.2.1]
  refine ⟨by omega, fun q2 => ⟨by omega, ?_⟩, fun q2 => ⟨by omega, ?_⟩⟩
  · have ev : vl (m 170) N f v2 = 268435456 := if_neg (by omega)
    rw [ev, if_neg (by omega)] at h; exact h
  refine s_M_behind hp' hk hN' hw (fun v3 e3 => ?_)
  rw [B.2.2.1, ← e1] at e3
  subst e3
  have ev : vl (m 170) N f v3 = m 170 (140 * (f + 1) + v3).toNat := if_pos ⟨q, q2⟩
  rw [ev] at h
  refine ⟨by omega, fun q3 => ⟨by omega, ?_⟩, fun q3 => ?_⟩
  · rw [if_neg q3] at h; exact h
  refine s_M_behind hp' hk hN' hw (fun v4 e4 => ?_)
  rw [B.2.2.1, ← e1] at e4
  subst e4
  rw [if_pos q3] at h
  exact ⟨by omega, h⟩
end LEADS
