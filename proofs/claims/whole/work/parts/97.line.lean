section LINE
variable {M : MT} {fr kn n N : Int} {r : Int → Int}
/-- a row of signs: what stands ahead of one, and behind it -/
def ra (r : Int → Int) (p : Int) : Int := if p = 0 then -1 else r (p - 1)
def rb (r : Int → Int) (N p : Int) : Int := if p = N - 1 then -1 else r (p + 1)
def sfr (M : MT) (r : Int → Int) (N p : Int) : Int × (Nat → Int) := SF M (ra r p) (r p) (rb r N p)
def zr (M : MT) (r : Int → Int) (N p : Int) : Int := (sfr M r N p).1
def krw (M : MT) (fr kn : Int) (r : Int → Int) (N p : Int) : Int → Int → Int := kc M fr kn (ra r p) (r p) (rb r N p)
/-- how many states come ahead of a sign -/
def osn (M : MT) (r : Int → Int) (N : Int) : Nat → Int
  | 0 => 0
  | k + 1 => osn M r N k + zr M r N k
def RVx (M : MT) (r : Int → Int) (N : Int) : Prop := (1 ≤ N ∧ N ≤ 20) ∧ ∀ p : Int, 0 ≤ p → p < N → 0 ≤ r p ∧ r p < M 135 0
theorem RV_vs (hr : RVx M r N) {p : Int} (p0 : 0 ≤ p) (p1 : p < N) : VS (M 135 0) (ra r p) (r p) (rb r N p) := by
  refine ⟨?_, hr.2 p p0 p1, ?_⟩
  · unfold ra
    split
    · exact Or.inl rfl
    · exact Or.inr (hr.2 (p - 1) (by omega) (by omega))
  · unfold rb
    split
    · exact Or.inl rfl
    · exact Or.inr (hr.2 (p + 1) (by omega) (by omega))
theorem zr_in (H : HX M fr kn n) (hr : RVx M r N) {p : Int} (p0 : 0 ≤ p) (p1 : p < N) : 1 ≤ zr M r N p ∧ zr M r N p ≤ 4 := (SOK_SF H (RV_vs hr p0 p1)).1
theorem osn_s (M : MT) (r : Int → Int) (N p : Int) (p0 : 0 ≤ p) : osn M r N (p + 1).toNat = osn M r N p.toNat + zr M r N p := by
  rw [show (p + 1).toNat = p.toNat + 1 by omega]
  show osn M r N p.toNat + zr M r N (p.toNat : Int) = _
  rw [show (p.toNat : Int) = p by omega]
theorem osn_le (H : HX M fr kn n) (hr : RVx M r N) : ∀ (q : Nat) (p : Int), 0 ≤ p → p + q ≤ N → osn M r N p.toNat + q ≤ osn M r N (p + q).toNat := by
  intro q
  induction q with
  | zero => intro p p0 _; rw [show p + ((0 : Nat) : Int) = p by omega]; omega
  | succ q ih =>
    intro p p0 h
    have := ih p p0 (by omega)
    have z := zr_in H hr (p := p + q) (by omega) (by omega)
    rw [show p + ((q + 1 : Nat) : Int) = p + q + 1 by omega, osn_s _ _ _ _ (by omega)]
    omega
theorem osn_mono (H : HX M fr kn n) (hr : RVx M r N) {p p' : Int} (p0 : 0 ≤ p) (h : p ≤ p') (h2 : p' ≤ N) : osn M r N p.toNat ≤ osn M r N p'.toNat := by
  have := osn_le H hr (p' - p).toNat p p0 (by omega)
  rw [show p + ((p' - p).toNat : Int) = p' by omega] at this
  omega
theorem osn_0 (H : HX M fr kn n) (hr : RVx M r N) {p : Int} (p0 : 0 ≤ p) (h2 : p ≤ N) : 0 ≤ osn M r N p.toNat := by
  have := osn_mono H hr (p := 0) (p' := p) (by omega) p0 h2
  exact this
/-- the ways on behind a sign with m signs to come, from frame g on -/
def LVr (M : MT) (fr kn n : Int) (r : Int → Int) (N : Int) : Nat → Int → Int → Prop
  | 0, g, y => g = n ∧ y = 0
  | m + 1, g, y => ∃ (s : Int) (q : Nat) (v y' : Int), (0 ≤ s ∧ s < 4 ∧ g + s < n) ∧ g + s + q + 1 ≤ n ∧ PT (krw M fr kn r N (N - 1 - m)) (g + s) q 0 (zr M r N (N - 1 - m) - 1) v ∧ LVr M fr kn n r N m (g + s + q + 1) y' ∧ y = s * M 135 3 + (v + y')
def GOr (M : MT) (fr kn n : Int) (r : Int → Int) (N : Int) (m : Nat) (f i x : Int) : Prop := ∃ (q : Nat) (v y : Int), f + q + 1 ≤ n ∧ PT (krw M fr kn r N (N - 1 - m)) f q i (zr M r N (N - 1 - m) - 1) v ∧ LVr M fr kn n r N m (f + q + 1) y ∧ x = v + y
theorem LVr_s {m : Nat} {g y : Int} : LVr M fr kn n r N (m + 1) g y ↔ ∃ s : Int, (0 ≤ s ∧ s < 4) ∧ GOr M fr kn n r N m (g + s) 0 (y - s * M 135 3) := by
  constructor
  · rintro ⟨s, q, v, y', hs, h1, h2, h3, rfl⟩
    exact ⟨s, ⟨hs.1, hs.2.1⟩, q, v, y', h1, h2, h3, by omega⟩
  · rintro ⟨s, hs, q, v, y', h1, h2, h3, e⟩
    exact ⟨s, q, v, y', ⟨hs.1, hs.2, by omega⟩, h1, h2, h3, by omega⟩
theorem GOr_step {m : Nat} {f i x : Int} (hi : i < zr M r N (N - 1 - m)) (hf : f < n) : GOr M fr kn n r N m f i x ↔ (GOr M fr kn n r N m (f + 1) i (x - krw M fr kn r N (N - 1 - m) f i) ∨ (if i = zr M r N (N - 1 - m) - 1 then LVr M fr kn n r N m (f + 1) (x - krw M fr kn r N (N - 1 - m) f i) else GOr M fr kn n r N m (f + 1) (i + 1) (x - krw M fr kn r N (N - 1 - m) f i))) := by
  unfold GOr
  generalize krw M fr kn r N (N - 1 - m) = k
  generalize zr M r N (N - 1 - m) = z at *
  constructor
  · rintro ⟨q, v, y, h1, h2, h3, rfl⟩
    cases q with
    | zero =>
      obtain ⟨e1, rfl⟩ := h2
      refine Or.inr ?_
      rw [if_pos e1, show k f i + y - k f i = y by omega]
      rw [show f + ((0 : Nat) : Int) + 1 = f + 1 by omega] at h3
      exact h3
    | succ q =>
      obtain ⟨s', v', e, hp, rfl⟩ := (PT_front _ q f i _ v).mp h2
      have st := PT_st _ _ _ _ _ _ hp
      rw [show f + ((q + 1 : Nat) : Int) + 1 = f + 1 + q + 1 by omega] at h3
      have ex : k f i + v' + y - k f i = v' + y := by omega
      rw [ex]
      rcases e with rfl | rfl
      · exact Or.inl ⟨q, v', y, by omega, hp, h3, rfl⟩
      · refine Or.inr ?_
        rw [if_neg (by omega)]
        exact ⟨q, v', y, by omega, hp, h3, rfl⟩
  · rintro (⟨q, v, y, h1, h2, h3, e⟩ | h)
    · exact ⟨q + 1, k f i + v, y, by omega, (PT_front _ q f i _ _).mpr ⟨i, v, Or.inl rfl, h2, rfl⟩, by rw [show f + ((q + 1 : Nat) : Int) + 1 = f + 1 + q + 1 by omega]; exact h3, by omega⟩
    · split at h
      · rename_i e
        exact ⟨0, k f i, _, by omega, ⟨e, rfl⟩, by rw [show f + ((0 : Nat) : Int) + 1 = f + 1 by omega]; exact h, by omega⟩
      · obtain ⟨q, v, y, h1, h2, h3, e⟩ := h
        exact ⟨q + 1, k f i + v, y, by omega, (PT_front _ q f i _ _).mpr ⟨i + 1, v, Or.inr rfl, h2, rfl⟩, by rw [show f + ((q + 1 : Nat) : Int) + 1 = f + 1 + q + 1 by omega]; exact h3, by omega⟩
theorem krw_in (H : HX M fr kn n) (hr : RVx M r N) {p : Int} (p0 : 0 ≤ p) (p1 : p < N) {f i : Int} (hi : 0 ≤ i ∧ i < zr M r N p) : 0 ≤ krw M fr kn r N p f i ∧ krw M fr kn r N p f i ≤ 3200 := kc_in H (RV_vs hr p0 p1) hi
theorem LVr_in (H : HX M fr kn n) (hr : RVx M r N) : ∀ (m : Nat) (g y : Int), (m : Int) < N → 0 ≤ g → LVr M fr kn n r N m g y → g ≤ n ∧ 0 ≤ y ∧ y ≤ 3200 * (n - g) := by
  intro m
  induction m with
  | zero => rintro g y _ _ ⟨rfl, rfl⟩; omega
  | succ m ih =>
    rintro g y hm hg ⟨s, q, v, y', hs, h1, h2, h3, rfl⟩
    have := ih _ _ (by omega) (by omega) h3
    have := PT_in (z := zr M r N (N - 1 - m)) (m := n) (fun g i _ _ i0 i1 => krw_in H hr (p := N - 1 - m) (by omega) (by omega) ⟨i0, i1⟩) q 0 _ v (by omega) (by omega) (by omega) h2
    have sl := H.1.2.2.2.1
    have := mul_in (x := s) (y := M 135 3) (X := s) (Y := 1000) (by omega) (by omega)
    omega
theorem GOr_in (H : HX M fr kn n) (hr : RVx M r N) {m : Nat} {f i x : Int} (hm : (m : Int) < N) (hf : 0 ≤ f) (hi : 0 ≤ i) (h : GOr M fr kn n r N m f i x) : f < n ∧ 0 ≤ x ∧ x ≤ 3200 * (n - f) := by
  obtain ⟨q, v, y, h1, h2, h3, rfl⟩ := h
  have := LVr_in H hr m _ _ hm (by omega) h3
  have := PT_in (z := zr M r N (N - 1 - m)) (m := n) (fun g i _ _ i0 i1 => krw_in H hr (p := N - 1 - m) (by omega) (by omega) ⟨i0, i1⟩) q i _ v (by omega) hi (by omega) h2
  omega
/-- a row that is too long for its frames has no way -/
theorem LVr_len (H : HX M fr kn n) (hr : RVx M r N) : ∀ (m : Nat) (g y : Int), (m : Int) < N → LVr M fr kn n r N m g y → osn M r N N.toNat - osn M r N (N - m).toNat ≤ n - g := by
  intro m
  induction m with
  | zero => rintro g y _ ⟨rfl, rfl⟩; rw [show N - ((0 : Nat) : Int) = N by omega]; omega
  | succ m ih =>
    rintro g y hm ⟨s, q, v, y', hs, h1, h2, h3, rfl⟩
    have := ih _ _ (by omega) h3
    have st := PT_st _ _ _ _ _ _ h2
    have e := osn_s M r N (N - 1 - m) (by omega)
    rw [show N - 1 - (m : Int) + 1 = N - m by omega] at e
    rw [show N - ((m + 1 : Nat) : Int) = N - 1 - m by omega]
    omega
theorem GOr_len (H : HX M fr kn n) (hr : RVx M r N) {x : Int} (h : GOr M fr kn n r N (N - 1).toNat 0 0 x) : osn M r N N.toNat ≤ n := by
  have hN := hr.1
  obtain ⟨q, v, y, h1, h2, h3, rfl⟩ := h
  have := LVr_len H hr _ _ _ (by omega) h3
  have st := PT_st _ _ _ _ _ _ h2
  rw [show N - 1 - ((N - 1).toNat : Int) = 0 by omega] at st
  rw [show N - ((N - 1).toNat : Int) = 1 by omega] at this
  have e : osn M r N (0 + 1 : Int).toNat = osn M r N (0 : Int).toNat + zr M r N 0 := osn_s M r N 0 (by omega)
  have e0 : osn M r N (0 : Int).toNat = 0 := rfl
  rw [show (0 + 1 : Int) = 1 by omega] at e
  omega
/-- the table of a line -/
def kA (t : Nat → Int) (n i f : Int) : Int := if f < n then t (i * 20 + f).toNat else 268435456
def lvF (pl t : Nat → Int) (n z sl i g : Int) : Int := if i = z - 1 then (if g = n then 0 else 268435456) else if pl (i + 1).toNat = pl i.toNat then min 268435456 (kA t n (i + 1) g) else min (min (min (min 268435456 (kA t n (i + 1) g)) (kA t n (i + 1) (g + 1) + 1 * sl)) (kA t n (i + 1) (g + 2) + 2 * sl)) (kA t n (i + 1) (g + 3) + 3 * sl)
def REF (pl st t c : Nat → Int) (fr kn n z sl : Int) (D : Int → Int → Prop) : Prop := ∀ i f : Int, (0 ≤ i ∧ i < z) → (0 ≤ f ∧ f < n) → D i f → t (i * 20 + f).toNat = min 268435456 (KF c fr kn f (st i.toNat) + min (kA t n i (f + 1)) (lvF pl t n z sl i (f + 1))) ∧ (0 ≤ t (i * 20 + f).toNat ∧ t (i * 20 + f).toNat ≤ 268435456)
def LAID (M : MT) (r : Int → Int) (N : Int) (st pl nu : Nat → Int) (z : Int) : Prop := z = osn M r N N.toNat ∧ z ≤ 20 ∧ ∀ p : Int, 0 ≤ p → p < N → ∀ s : Int, 0 ≤ s → s < zr M r N p → st (osn M r N p.toNat + s).toNat = (sfr M r N p).2 s.toNat ∧ pl (osn M r N p.toNat + s).toNat = p ∧ nu (osn M r N p.toNat + s).toNat = s
section LA
variable {st pl nu t : Nat → Int} {z : Int}
theorem LAID_i (H : HX M fr kn n) (hr : RVx M r N) (hl : LAID M r N st pl nu z) {p s : Int} (p0 : 0 ≤ p) (p1 : p < N) (s0 : 0 ≤ s) (s1 : s < zr M r N p) : (0 ≤ osn M r N p.toNat + s ∧ osn M r N p.toNat + s < z) ∧ (osn M r N p.toNat + s = z - 1 ↔ p = N - 1 ∧ s = zr M r N p - 1) ∧ (osn M r N p.toNat + s ≠ z - 1 → (pl (osn M r N p.toNat + s + 1).toNat = pl (osn M r N p.toNat + s).toNat ↔ s < zr M r N p - 1)) ∧ (s = zr M r N p - 1 → osn M r N p.toNat + s + 1 = osn M r N (p + 1).toNat) := by
  have e := osn_s M r N p p0
  have m1 := osn_mono H hr (p := p + 1) (p' := N) (by omega) (by omega) (by omega)
  have m0 := osn_0 H hr p0 (by omega)
  have hz := hl.1
  have lastN : p = N - 1 → osn M r N (p + 1).toNat = osn M r N N.toNat := fun q => by rw [q, show N - 1 + 1 = N by omega]
  have lt : p < N - 1 → osn M r N (p + 1).toNat < osn M r N N.toNat := by
    intro q
    have := osn_mono H hr (p := p + 1 + 1) (p' := N) (by omega) (by omega) (by omega)
    have e2 := osn_s M r N (p + 1) (by omega)
    have := zr_in H hr (p := p + 1) (by omega) (by omega)
    omega
  refine ⟨by omega, ⟨fun q => ?_, fun ⟨q1, q2⟩ => ?_⟩, fun q => ?_, fun q => by omega⟩
  · by_cases c : p < N - 1
    · have := lt c; omega
    · have := lastN (by omega); omega
  · have := lastN q1; omega
  · have a := (hl.2.2 p p0 p1 s s0 s1).2.1
    constructor
    · intro h
      by_cases c : s < zr M r N p - 1
      · exact c
      · by_cases c2 : p < N - 1
        · have b := (hl.2.2 (p + 1) (by omega) (by omega) 0 (by omega) (by have := zr_in H hr (p := p + 1) (by omega) (by omega); omega)).2.1
          rw [show osn M r N (p + 1).toNat + 0 = osn M r N p.toNat + s + 1 by omega, h, a] at b
          omega
        · have := lastN (by omega); omega
    · intro c
      have b := (hl.2.2 p p0 p1 (s + 1) (by omega) (by omega)).2.1
      rw [show osn M r N p.toNat + (s + 1) = osn M r N p.toNat + s + 1 by omega] at b
      rw [b, a]
theorem LAID_k (hl : LAID M r N st pl nu z) {p s f : Int} (p0 : 0 ≤ p) (p1 : p < N) (s0 : 0 ≤ s) (s1 : s < zr M r N p) : KF (M 135) fr kn f (st (osn M r N p.toNat + s).toNat) = krw M fr kn r N p f s := by
  rw [(hl.2.2 p p0 p1 s s0 s1).1]; rfl
theorem kA_far {i f : Int} (h : n ≤ f) : kA t n i f = 268435456 := if_neg (by omega)
theorem kA_in {i f : Int} (h : f < n) : kA t n i f = t (i * 20 + f).toNat := if_pos h
theorem keys_MN (H : HX M fr kn n) (hr : RVx M r N) (hl : LAID M r N st pl nu z) (hR : REF pl st t (M 135) fr kn n z (M 135 3) (fun _ _ => True)) : ∀ (q : Nat) (f : Int), n - f ≤ q → 0 ≤ f → ∀ p s : Int, 0 ≤ p → p < N → 0 ≤ s → s < zr M r N p → MN (fun x => GOr M fr kn n r N (N - 1 - p).toNat f s x) (kA t n (osn M r N p.toNat + s) f) := by
  have hn := H.2.2.2.2.2.2
  intro q
  induction q with
  | zero =>
    intro f hf f0 p s p0 p1 s0 s1
    rw [kA_far (by omega)]
    exact MN_far (fun v hv => by have := GOr_in H hr (by omega) f0 s0 hv; omega)
  | succ q ih =>
    intro f hf f0 p s p0 p1 s0 s1
    by_cases c : n ≤ f
    · rw [kA_far c]
      exact MN_far (fun v hv => by have := GOr_in H hr (by omega) f0 s0 hv; omega)
    have I := LAID_i H hr hl p0 p1 s0 s1
    have R := (hR (osn M r N p.toNat + s) f I.1 (by omega) trivial).1
    rw [kA_in (by omega), R, LAID_k hl p0 p1 s0 s1]
    have em : N - 1 - ((N - 1 - p).toNat : Int) = p := by omega
    have S1 := ih (f + 1) (by omega) (by omega) p s p0 p1 s0 s1
    have S2 : MN (fun y => if s = zr M r N p - 1 then LVr M fr kn n r N (N - 1 - p).toNat (f + 1) y else GOr M fr kn n r N (N - 1 - p).toNat (f + 1) (s + 1) y) (lvF pl t n z (M 135 3) (osn M r N p.toNat + s) (f + 1)) := by
      unfold lvF
      by_cases cs : s = zr M r N p - 1
      · by_cases cp : p = N - 1
        · rw [if_pos (I.2.1.mpr ⟨cp, cs⟩)]
          have e0 : (N - 1 - p).toNat = 0 := by omega
          simp only [if_pos cs, e0]
          by_cases eg : f + 1 = n
          · rw [if_pos eg]
            exact ⟨fun _ => ⟨eg, rfl⟩, fun v hv => by have h2 : v = 0 := hv.2; omega, by omega⟩
          · rw [if_neg eg]
            exact MN_far (fun v hv => eg hv.1)
        · have ne : ¬ osn M r N p.toNat + s = z - 1 := fun h => cp (I.2.1.mp h).1
          have np : ¬ pl (osn M r N p.toNat + s + 1).toNat = pl (osn M r N p.toNat + s).toNat := fun h => by have := (I.2.2.1 ne).mp h; omega
          rw [if_neg ne, if_neg np, I.2.2.2 cs]
          obtain ⟨m', hm'⟩ : ∃ m' : Nat, (N - 1 - p).toNat = m' + 1 := ⟨(N - 1 - p).toNat - 1, by omega⟩
          have em' : (N - 1 - (p + 1)).toNat = m' := by omega
          have z1 := zr_in H hr (p := p + 1) (by omega) (by omega)
          have sl := H.1.2.2.2.1
          have T : ∀ j : Int, 0 ≤ j → j < 4 → MN (fun y => GOr M fr kn n r N m' (f + 1 + j) 0 (y - j * M 135 3)) (min 268435456 (j * M 135 3 + kA t n (osn M r N (p + 1).toNat) (f + 1 + j))) := by
            intro j j0 j1
            have A := ih (f + 1 + j) (by omega) (by omega) (p + 1) 0 (by omega) (by omega) (by omega) (by omega)
            rw [em', show osn M r N (p + 1).toNat + 0 = osn M r N (p + 1).toNat by omega] at A
            have mj := mul_in (x := j) (y := M 135 3) (X := 3) (Y := 1000) (by omega) (by omega)
            exact MN_cap A mj.1 (fun v hv => by have := GOr_in H hr (by omega) (by omega) (by omega) hv; omega)
          have T0 := T 0 (by omega) (by omega)
          have T1 := T 1 (by omega) (by omega)
          have T2 := T 2 (by omega) (by omega)
          have T3 := T 3 (by omega) (by omega)
          have U := MN_or (MN_or (MN_or T0 T1) T2) T3
          have ev : min (min (min (min 268435456 (kA t n (osn M r N (p + 1).toNat) (f + 1))) (kA t n (osn M r N (p + 1).toNat) (f + 1 + 1) + 1 * M 135 3)) (kA t n (osn M r N (p + 1).toNat) (f + 1 + 2) + 2 * M 135 3)) (kA t n (osn M r N (p + 1).toNat) (f + 1 + 3) + 3 * M 135 3) = min (min (min (min 268435456 (0 * M 135 3 + kA t n (osn M r N (p + 1).toNat) (f + 1 + 0))) (min 268435456 (1 * M 135 3 + kA t n (osn M r N (p + 1).toNat) (f + 1 + 1)))) (min 268435456 (2 * M 135 3 + kA t n (osn M r N (p + 1).toNat) (f + 1 + 2)))) (min 268435456 (3 * M 135 3 + kA t n (osn M r N (p + 1).toNat) (f + 1 + 3))) := by
            rw [show f + 1 + (0 : Int) = f + 1 by omega]; omega
          rw [ev]
          refine MN_cg U (fun v => ?_)
          simp only [if_pos cs]
          rw [hm']
          rw [LVr_s]
          constructor
          · rintro ⟨j, hj, h⟩
            have : j = 0 ∨ j = 1 ∨ j = 2 ∨ j = 3 := by omega
            rcases this with rfl | rfl | rfl | rfl
            · exact Or.inl (Or.inl (Or.inl h))
            · exact Or.inl (Or.inl (Or.inr h))
            · exact Or.inl (Or.inr h)
            · exact Or.inr h
          · rintro (((h | h) | h) | h)
            · exact ⟨0, by omega, h⟩
            · exact ⟨1, by omega, h⟩
            · exact ⟨2, by omega, h⟩
            · exact ⟨3, by omega, h⟩
      · have ne : ¬ osn M r N p.toNat + s = z - 1 := fun h => cs (I.2.1.mp h).2
        rw [if_neg ne, if_pos ((I.2.2.1 ne).mpr (by omega))]
        have A := ih (f + 1) (by omega) (by omega) p (s + 1) p0 p1 (by omega) (by omega)
        rw [show osn M r N p.toNat + (s + 1) = osn M r N p.toNat + s + 1 by omega] at A
        have e : min 268435456 (kA t n (osn M r N p.toNat + s + 1) (f + 1)) = kA t n (osn M r N p.toNat + s + 1) (f + 1) := by have := A.2.2; omega
        rw [e]
        refine MN_cg A (fun v => ?_)
        simp only [if_neg cs]
    have kb := krw_in H hr p0 p1 (f := f) ⟨s0, s1⟩
    have U := MN_cap (MN_or S1 S2) kb.1 (fun v hv => by
      rcases hv with hv | hv
      · have := GOr_in H hr (by omega) (by omega) s0 hv; omega
      · split at hv
        · have := LVr_in H hr _ _ _ (by omega) (by omega) hv; omega
        · have := GOr_in H hr (by omega) (by omega) (by omega) hv; omega)
    refine MN_cg U (fun v => ?_)
    have G := GOr_step (M := M) (fr := fr) (kn := kn) (n := n) (N := N) (r := r) (m := (N - 1 - p).toNat) (f := f) (i := s) (x := v) (by rw [em]; exact s1) (by omega)
    rw [em] at G
    exact G
/-- where the frames suffice there is a way -/
theorem keys_ok (hR : REF pl st t (M 135) fr kn n z (M 135 3) (fun _ _ => True)) (hk : ∀ i f : Int, 0 ≤ i → i < z → 0 ≤ f → f < n → 0 ≤ KF (M 135) fr kn f (st i.toNat) ∧ KF (M 135) fr kn f (st i.toNat) ≤ 3200) (hn : n ≤ 20) : ∀ (q : Nat) (f : Int), n - f ≤ q → 0 ≤ f → f < n → ∀ i : Int, 0 ≤ i → i < z → z - i ≤ n - f → t (i * 20 + f).toNat ≤ 3200 * (n - f) := by
  intro q
  induction q with
  | zero => intro f hf f0 f1; omega
  | succ q ih =>
    intro f hf f0 f1 i i0 i1 hi
    have R := (hR i f ⟨i0, i1⟩ ⟨f0, f1⟩ trivial).1
    have kb := hk i f i0 i1 f0 f1
    by_cases c : i = z - 1
    · by_cases c2 : f + 1 = n
      · have : lvF pl t n z (M 135 3) i (f + 1) = 0 := by unfold lvF; rw [if_pos c, if_pos c2]
        omega
      · have A := ih (f + 1) (by omega) (by omega) (by omega) i i0 i1 (by omega)
        have := kA_in (t := t) (i := i) (f := f + 1) (n := n) (by omega)
        omega
    · have A := ih (f + 1) (by omega) (by omega) (by omega) (i + 1) (by omega) (by omega) (by omega)
      have e := kA_in (t := t) (i := i + 1) (f := f + 1) (n := n) (by omega)
      have : lvF pl t n z (M 135 3) i (f + 1) ≤ kA t n (i + 1) (f + 1) := by
        unfold lvF
        rw [if_neg c]
        split <;> omega
      omega
end LA
/-- the ways ahead of the k-th sign of a row -/
def AHr (M : MT) (fr kn n : Int) (r : Int → Int) : Nat → Int → Int → Prop
  | 0 => A0
  | k + 1 => AN M fr kn n (AHr M fr kn n r k) (ra r k) (r k) (r (k + 1))
theorem AHr_bd (H : HX M fr kn n) : ∀ k : Nat, ABd n (AHr M fr kn n r k) k := by
  intro k
  induction k with
  | zero => exact ABd_0 H.2.2.2.2.2.2.1
  | succ k ih => exact ABd_n H ih
/-- the ways through a whole row, by way of the k-th sign -/
def PHI (M : MT) (fr kn n : Int) (r : Int → Int) (N : Int) (k : Nat) (x : Int) : Prop := ∃ f v y : Int, AHr M fr kn n r k f v ∧ GOr M fr kn n r N (N - 1 - k).toNat f 0 y ∧ x = v + y + (N - k) * M 135 4
theorem PHI_s (H : HX M fr kn n) (hr : RVx M r N) {k : Nat} {x : Int} (hk : (k : Int) + 1 < N) : PHI M fr kn n r N k x ↔ PHI M fr kn n r N (k + 1) x := by
  have ep : (N - (k : Int)) * M 135 4 = (N - ((k + 1 : Nat) : Int)) * M 135 4 + M 135 4 := by rw [show N - (k : Int) = (N - ((k + 1 : Nat) : Int)) + 1 by omega, Int.add_mul, Int.one_mul]
  obtain ⟨m, hm⟩ : ∃ m : Nat, (N - 1 - (k : Int)).toNat = m + 1 := ⟨(N - 1 - (k : Int)).toNat - 1, by omega⟩
  have hm2 : (N - 1 - ((k + 1 : Nat) : Int)).toNat = m := by omega
  have eb : rb r N k = r (k + 1) := if_neg (by omega)
  have ek : N - 1 - ((m + 1 : Nat) : Int) = k := by omega
  have V := RV_vs hr (p := (k : Int)) (by omega) (by omega)
  rw [eb] at V
  unfold PHI
  rw [hm, hm2, ep]
  constructor
  · rintro ⟨f, v, y, hA, ⟨q, v1, y1, h1, h2, h3, rfl⟩, rfl⟩
    have B := AHr_bd H k f v hA
    obtain ⟨s, hs, hG⟩ := LVr_s.mp h3
    rw [ek] at h2
    have G := hG
    obtain ⟨q', v', y', g1, _⟩ := hG
    refine ⟨f + q + 1 + s, v + v1 + M 135 4 + s * M 135 3, y1 - s * M 135 3, ⟨f, f + q + 1, s, v, v1, hA, ⟨⟨⟨by omega, by omega⟩, V⟩, by omega, ?_⟩, ⟨hs.1, hs.2, by omega⟩, rfl, rfl⟩, G, by omega⟩
    rw [show (f + (q : Int) + 1 - f - 1).toNat = q by omega]
    unfold krw zr sfr at h2
    rw [eb] at h2
    exact h2
  · rintro ⟨f', v', y, ⟨f, g, s, v, v1, hA, ⟨hfg, hlt, hP⟩, hs, rfl, rfl⟩, hG, rfl⟩
    have B := AHr_bd H k f v hA
    refine ⟨f, v, v1 + (s * M 135 3 + y), hA, ⟨(g - f - 1).toNat, v1, s * M 135 3 + y, by omega, ?_, ?_, rfl⟩, by omega⟩
    · rw [ek]
      unfold krw zr sfr
      rw [eb]
      exact hP
    · rw [show f + ((g - f - 1).toNat : Int) + 1 = g by omega]
      exact LVr_s.mpr ⟨s, ⟨hs.1, hs.2.1⟩, by rw [show s * M 135 3 + y - s * M 135 3 = y by omega]; exact hG⟩
theorem PHI_all (H : HX M fr kn n) (hr : RVx M r N) {x : Int} : ∀ k : Nat, (k : Int) < N → (PHI M fr kn n r N k x ↔ PHI M fr kn n r N 0 x) := by
  intro k
  induction k with
  | zero => intro _; exact Iff.rfl
  | succ k ih => intro hk; exact (PHI_s H hr (by omega)).symm.trans (ih (by omega))
theorem EN_GO (H : HX M fr kn n) (hr : RVx M r N) {x : Int} : EN M fr kn n (AHr M fr kn n r (N - 1).toNat) (ra r (N - 1)) (r (N - 1)) x ↔ GOr M fr kn n r N (N - 1).toNat 0 0 (x - N * M 135 4) := by
  have hN := hr.1
  have A := PHI_all H hr (x := x) (N - 1).toNat (by omega)
  have e1 : PHI M fr kn n r N 0 x ↔ GOr M fr kn n r N (N - 1).toNat 0 0 (x - N * M 135 4) := by
    unfold PHI
    rw [show (N - 1 - ((0 : Nat) : Int)).toNat = (N - 1).toNat by omega, show N - ((0 : Nat) : Int) = N by omega]
    constructor
    · rintro ⟨f, v, y, ⟨rfl, rfl⟩, h, rfl⟩
      rw [show 0 + y + N * M 135 4 - N * M 135 4 = y by omega]; exact h
    · intro h
      exact ⟨0, 0, _, ⟨rfl, rfl⟩, h, by omega⟩
  rw [← e1, ← A]
  unfold PHI
  have ek : N - 1 - (((N - 1).toNat : Nat) : Int) = 0 := by omega
  have e1' : (N - (((N - 1).toNat : Nat) : Int)) = 1 := by omega
  rw [ek, e1', Int.one_mul]
  have V := RV_vs hr (p := N - 1) (by omega) (by omega)
  have eb : rb r N (N - 1) = -1 := if_pos rfl
  rw [eb] at V
  constructor
  · rintro ⟨f, v0, v1, hA, ⟨hfg, hlt, hP⟩, rfl⟩
    refine ⟨f, v0, v1, hA, ⟨(n - f - 1).toNat, v1, 0, by omega, ?_, ⟨by omega, rfl⟩, by omega⟩, by omega⟩
    unfold krw zr sfr
    rw [show N - 1 - (((0 : Int).toNat : Nat) : Int) = N - 1 by omega, eb]
    exact hP
  · rintro ⟨f, v, y, hA, ⟨q, v1, y1, h1, h2, ⟨h3, rfl⟩, rfl⟩, rfl⟩
    have B := AHr_bd H _ f v hA
    refine ⟨f, v, v1, hA, ⟨⟨⟨by omega, by omega⟩, V⟩, by omega, ?_⟩, by omega⟩
    rw [show (n - f - 1).toNat = q by omega]
    unfold krw zr sfr at h2
    rw [show N - 1 - (((0 : Int).toNat : Nat) : Int) = N - 1 by omega, eb] at h2
    exact h2
end LINE
