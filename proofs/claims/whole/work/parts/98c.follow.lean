section FOLLOW
variable {d : Nat} {M : MT} {fr kn n N : Int} {r : Int → Int}
def mostF (pl t : Nat → Int) (n z sl i g : Int) : Int := if i = z - 1 ∨ ¬ pl (i + 1).toNat = pl i.toNat then (if kA t n (i + 1) (g + 3) + 3 * sl = lvF pl t n z sl i g then 3 else if kA t n (i + 1) (g + 2) + 2 * sl = lvF pl t n z sl i g then 2 else if kA t n (i + 1) (g + 1) + 1 * sl = lvF pl t n z sl i g then 1 else 0) else 0
theorem mostF_in (pl t : Nat → Int) (n z sl i g : Int) : 0 ≤ mostF pl t n z sl i g ∧ mostF pl t n z sl i g ≤ 3 := by
  unfold mostF
  (repeat' split) <;> omega
/-- where a line is led to: a state, and how many slides are left -/
def nxF (pl t : Nat → Int) (n z sl f : Int) (s : Int × Int) : Int × Int := if 0 < s.2 then (if 1 < s.2 then (s.1, s.2 - 1) else (s.1 + 1, 0)) else if s.1 < z - 1 ∧ lvF pl t n z sl s.1 (f + 1) < kA t n s.1 (f + 1) then (if 0 < mostF pl t n z sl s.1 (f + 1) then (s.1, mostF pl t n z sl s.1 (f + 1)) else (s.1 + 1, 0)) else (s.1, 0)
def trF (pl t : Nat → Int) (n z sl : Int) : Nat → Int × Int
  | 0 => (0, 0)
  | k + 1 => nxF pl t n z sl k (trF pl t n z sl k)
theorem trF_in (pl t : Nat → Int) (n z sl : Int) (hz : 1 ≤ z) : ∀ k : Nat, (0 ≤ (trF pl t n z sl k).1 ∧ (trF pl t n z sl k).1 < z) ∧ (0 ≤ (trF pl t n z sl k).2 ∧ (trF pl t n z sl k).2 ≤ 3) ∧ (0 < (trF pl t n z sl k).2 → (trF pl t n z sl k).1 < z - 1) := by
  intro k
  induction k with
  | zero => show (0 ≤ (0 : Int) ∧ (0 : Int) < z) ∧ (0 ≤ (0 : Int) ∧ (0 : Int) ≤ 3) ∧ (0 < (0 : Int) → (0 : Int) < z - 1); omega
  | succ k ih =>
    show (0 ≤ (nxF pl t n z sl k (trF pl t n z sl k)).1 ∧ (nxF pl t n z sl k (trF pl t n z sl k)).1 < z) ∧ (0 ≤ (nxF pl t n z sl k (trF pl t n z sl k)).2 ∧ (nxF pl t n z sl k (trF pl t n z sl k)).2 ≤ 3) ∧ (0 < (nxF pl t n z sl k (trF pl t n z sl k)).2 → (nxF pl t n z sl k (trF pl t n z sl k)).1 < z - 1)
    generalize trF pl t n z sl k = s at *
    have mf := mostF_in pl t n z sl s.1 (k + 1)
    unfold nxF
    (repeat' split) <;> (simp only [] at *; omega)
theorem s_L_mostSlides {m : MT} {P : Int → MT → Prop} {i g sl : Int} (hd : 3 < d) (hi : 0 ≤ i ∧ i + 1 < m 117 4) (hz : m 117 4 ≤ 20) (hg : 0 ≤ g ∧ g ≤ 20) (hn : m 117 10 ≤ 20) (hsl : 0 ≤ sl ∧ sl ≤ 1000) (hT : TBL m (i + 1) g) (h : P (mostF (m 119) (m 121) (m 117 10) (m 117 4) sl i g) m) : c_L_mostSlides d i g sl m P := by
  have kb : ∀ j : Int, 0 ≤ j → 0 ≤ kA (m 121) (m 117 10) (i + 1) (g + j) ∧ kA (m 121) (m 117 10) (i + 1) (g + j) ≤ 268435456 := by
    intro j j0
    by_cases c : g + j < m 117 10
    · rw [kA_in c]; exact hT (g + j) (by omega) c
    · rw [kA_far (by omega)]; omega
  have k1 := kb (3 + (-1) + (-1)) (by omega)
  have k2 := kb (3 + (-1)) (by omega)
  have k3 := kb 3 (by omega)
  unfold mostF at h
  refine v_L_mostSlides ⟨by omega, s_L_leaving (by omega) (by omega) hz hg hn hsl (fun _ => hT) ?_⟩
  refine s_L_isLast (by omega) hz (fun q => ⟨fun e => (by cases e), fun _ => ?_⟩) (fun q q2 => ⟨fun _ => ?_, fun e => by cases e⟩)
  · rw [if_pos q] at h
    refine v_L_mostSlides_28 ⟨fun w => by omega, fun _ => ⟨by omega, s_L_keyAt (by omega) ⟨by omega, fun w1 => ⟨by omega, ?_⟩, fun w1 => ?_⟩⟩⟩
    · rw [if_neg w1] at h
      refine v_L_mostSlides_28 ⟨fun w => by omega, fun _ => ⟨by omega, s_L_keyAt (by omega) ⟨by omega, fun w2 => ⟨by omega, ?_⟩, fun w2 => ?_⟩⟩⟩
      · rw [show g + (3 + (-1)) = g + 2 by omega, show (3 + (-1) : Int) = 2 by omega] at w2
        rw [if_neg w2] at h
        refine v_L_mostSlides_28 ⟨fun w => by omega, fun _ => ⟨by omega, s_L_keyAt (by omega) ⟨by omega, fun w3 => ⟨by omega, ?_⟩, fun w3 => ?_⟩⟩⟩
        · rw [show g + (3 + (-1) + (-1)) = g + 1 by omega, show (3 + (-1) + (-1) : Int) = 1 by omega] at w3
          rw [if_neg w3] at h
          exact v_L_mostSlides_28 ⟨fun _ => h, fun w => by omega⟩
        · rw [show g + (3 + (-1) + (-1)) = g + 1 by omega, show (3 + (-1) + (-1) : Int) = 1 by omega] at w3
          rw [if_pos w3] at h
          exact h
      · rw [show g + (3 + (-1)) = g + 2 by omega, show (3 + (-1) : Int) = 2 by omega] at w2
        rw [if_pos w2] at h
        exact h
    · rw [if_pos w1] at h
      exact h
  · rw [if_neg (by rintro (y | y); exact q y; exact y q2)] at h
    exact v_L_mostSlides_28 ⟨fun _ => h, fun w => by omega⟩
theorem s_L_follow {m : MT} {P : MT → Prop} {sl n z : Int} {pl t nu : Nat → Int} (hd : 5 < d) (en : m 117 10 = n) (ez : m 117 4 = z) (epl : m 119 = pl) (et : m 121 = t) (enu : m 120 = nu) (hn : 1 ≤ n ∧ n ≤ 20) (hz : 1 ≤ z ∧ z ≤ 20) (hsl : 0 ≤ sl ∧ sl ≤ 1000) (hT : ∀ i f : Int, 0 ≤ i → i < z → 0 ≤ f → f < n → 0 ≤ t (i * 20 + f).toNat ∧ t (i * 20 + f).toNat ≤ 268435456) (h : ∀ m1 : MT, (∀ k : Nat, k ≠ 123 → k ≠ 124 → m1 k = m k) → (∀ f : Int, 0 ≤ f → f < n → m1 123 f.toNat = pl (trF pl t n z sl f.toNat).1.toNat ∧ m1 124 f.toNat = if 0 < (trF pl t n z sl f.toNat).2 then -1 else nu (trF pl t n z sl f.toNat).1.toNat) → P m1) : c_L_follow d sl m P := by
  have L : ∀ f : Int, f ≤ n → 0 ≤ f → ∀ m' : MT, (∀ k : Nat, k ≠ 123 → k ≠ 124 → m' k = m k) → (∀ g : Int, 0 ≤ g → g < f → m' 123 g.toNat = pl (trF pl t n z sl g.toNat).1.toNat ∧ m' 124 g.toNat = if 0 < (trF pl t n z sl g.toNat).2 then -1 else nu (trF pl t n z sl g.toNat).1.toNat) → h_L_follow_7 d sl (trF pl t n z sl f.toNat).1 (trF pl t n z sl f.toNat).2 f m' P := by
    refine upto _ (fun f hf ih f0 m' F1 F2 => ?_)
    have T := trF_in pl t n z sl hz.1 f.toNat
    have eN : trF pl t n z sl (f + 1).toNat = nxF pl t n z sl f (trF pl t n z sl f.toNat) := by
      rw [show (f + 1).toNat = f.toNat + 1 by omega]
      show nxF pl t n z sl (f.toNat : Int) _ = _
      rw [show (f.toNat : Int) = f by omega]
    have x1 : m' 117 = m 117 := F1 117 (by decide) (by decide)
    have x2 : m' 119 = pl := by rw [F1 119 (by decide) (by decide)]; exact epl
    have x3 : m' 120 = nu := by rw [F1 120 (by decide) (by decide)]; exact enu
    have x4 : m' 121 = t := by rw [F1 121 (by decide) (by decide)]; exact et
    generalize hs : trF pl t n z sl f.toNat = s at *
    refine v_L_follow_7 ?_
    rw [x1, en, ez, x2, x3]
    refine ⟨fun w => h m' F1 (fun g g0 g1 => F2 g g0 (by omega)), fun w => ⟨by omega, ?_⟩⟩
    -- behind the writes
    have NX : ∀ (v : Int), (v = if 0 < s.2 then -1 else nu s.1.toNat) → ∀ i' k' : Int, nxF pl t n z sl f s = (i', k') → h_L_follow_7 d sl i' k' (f + 1) (wt (wt m' 123 f.toNat (pl s.1.toNat)) 124 f.toNat v) P := by
      intro v hv i' k' e
      have := ih w (by omega) (wt (wt m' 123 f.toNat (pl s.1.toNat)) 124 f.toNat v) (fun k k1 k2 => by rw [wt_row _ _ k2, wt_row _ _ k1]; exact F1 k k1 k2) (fun g g0 g1 => ?_)
      · rw [eN, e] at this
        exact this
      · rw [wt_row _ _ (by decide)]
        by_cases c : g = f
        · subst c
          rw [wt_same, wt_same, hs]
          exact ⟨rfl, hv⟩
        · rw [wt_ne _ _ (by omega), wt_ne _ _ (by omega), wt_row _ _ (by decide)]
          exact F2 g g0 (by omega)
    have x1' : ∀ v : Int, (wt (wt m' 123 f.toNat (pl s.1.toNat)) 124 f.toNat v) 117 = m 117 := fun v => by rw [wt_row _ _ (by decide), wt_row _ _ (by decide)]; exact x1
    have x2' : ∀ v : Int, (wt (wt m' 123 f.toNat (pl s.1.toNat)) 124 f.toNat v) 119 = pl := fun v => by rw [wt_row _ _ (by decide), wt_row _ _ (by decide)]; exact x2
    have x4' : ∀ v : Int, (wt (wt m' 123 f.toNat (pl s.1.toNat)) 124 f.toNat v) 121 = t := fun v => by rw [wt_row _ _ (by decide), wt_row _ _ (by decide)]; exact x4
    refine ⟨fun q => ⟨fun _ => ⟨fun q1 => ⟨by omega, fun q2 => ⟨by omega, ?_⟩, fun q2 => ⟨by omega, ?_⟩⟩, fun q1 => by omega⟩, fun q1 => by omega⟩, fun q => ⟨fun q1 => ⟨fun q2 => by omega, fun q2 => ⟨by omega, by omega, ?_⟩⟩, fun q1 => ⟨by omega, by omega, ?_⟩⟩⟩
    · have e0 : s.2 = 0 := by omega
      rw [e0]
      refine NX _ (by rw [if_neg (by omega)]) _ _ ?_
      unfold nxF
      rw [if_neg (by omega), if_neg (by omega)]
    · have e0 : s.2 = 0 := by omega
      have NX' := NX (nu s.1.toNat) (by rw [if_neg (by omega)])
      have y1 := x1' (nu s.1.toNat)
      have y2 := x2' (nu s.1.toNat)
      have y4 := x4' (nu s.1.toNat)
      generalize wt (wt m' 123 f.toNat (pl s.1.toNat)) 124 f.toNat (nu s.1.toNat) = m2 at *
      have TT : TBL m2 (s.1 + 1) (f + 1) := fun g g0 g1 => by rw [y1, en] at g1; rw [y4]; exact hT (s.1 + 1) g (by omega) (by omega) (by omega) g1
      refine s_L_keyAt (by rw [y1, en]; omega) ?_
      refine s_L_leaving (by omega) (by rw [y1, ez]; omega) (by rw [y1, ez]; omega) (by omega) (by rw [y1, en]; omega) hsl (fun _ => TT) ?_
      rw [y1, en, ez, y2, y4]
      refine ⟨fun q3 => ?_, fun q3 => ?_⟩
      · rw [e0]
        refine NX' _ _ ?_
        unfold nxF
        rw [if_neg (by omega), if_neg (by omega)]
      · refine s_L_mostSlides (by omega) (by rw [y1, ez]; omega) (by rw [y1, ez]; omega) (by omega) (by rw [y1, en]; omega) hsl TT ?_
        rw [y1, en, ez, y2, y4]
        have mi' := mostF_in pl t n z sl s.1 (f + 1)
        refine ⟨fun q4 => ⟨by omega, ?_⟩, fun q4 => ⟨by omega, ?_⟩⟩
        · refine NX' _ _ ?_
          unfold nxF
          rw [if_neg (by omega), if_pos ⟨q2, q3⟩, if_neg (by omega)]
          congr 1; omega
        · refine NX' _ _ ?_
          unfold nxF
          rw [if_neg (by omega), if_pos ⟨q2, q3⟩, if_pos q4]
          congr 1; omega
    · refine NX _ (by rw [if_pos q]) _ _ ?_
      unfold nxF
      rw [if_pos q, if_neg (by omega)]
    · refine NX _ (by rw [if_pos q]) _ _ ?_
      unfold nxF
      rw [if_pos q, if_pos q1]
      congr 1
  exact v_L_follow (L 0 (by omega) (by omega) m (fun _ _ _ => rfl) (fun g g0 g1 => by omega))
end FOLLOW
