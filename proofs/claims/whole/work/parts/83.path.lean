section PATH
/-- least of a set of numbers, FAR where there is none -/
def MN (S : Int → Prop) (x : Int) : Prop := (x < 268435456 → S x) ∧ (∀ v, S v → x ≤ v) ∧ x ≤ 268435456
theorem MN_eq {S : Int → Prop} {x y : Int} (h1 : MN S x) (h2 : MN S y) : x = y := by
  by_cases c : x < 268435456
  · have a := h2.2.1 x (h1.1 c)
    have b := h1.2.1 y (h2.1 (by omega))
    omega
  · by_cases e : y < 268435456
    · have := h1.2.1 y (h2.1 e); omega
    · have := h1.2.2; have := h2.2.2; omega
theorem MN_cg {S T : Int → Prop} {x : Int} (h : MN S x) (e : ∀ v, T v ↔ S v) : MN T x := ⟨fun c => (e x).mpr (h.1 c), fun v hv => h.2.1 v ((e v).mp hv), h.2.2⟩
theorem MN_far {S : Int → Prop} (h : ∀ v, ¬ S v) : MN S 268435456 := ⟨fun c => by omega, fun v hv => absurd hv (h v), by omega⟩
theorem MN_no {S : Int → Prop} {x : Int} (h : MN S x) (hx : 268435456 ≤ x) (hb : ∀ v, S v → v < 268435456) : ∀ v, ¬ S v := fun v hv => by have := h.2.1 v hv; have := hb v hv; omega
theorem MN_or {S T : Int → Prop} {x y : Int} (h1 : MN S x) (h2 : MN T y) : MN (fun v => S v ∨ T v) (min x y) := by
  obtain ⟨a1, a2, a3⟩ := h1
  obtain ⟨b1, b2, b3⟩ := h2
  refine ⟨fun c => ?_, fun v hv => ?_, by omega⟩
  · by_cases e : x ≤ y
    · rw [Int.min_eq_left e] at *; exact Or.inl (a1 c)
    · rw [Int.min_eq_right (by omega)] at *; exact Or.inr (b1 c)
  · rcases hv with hv | hv
    · have := a2 v hv; omega
    · have := b2 v hv; omega
/-- a number put to each -/
theorem MN_add {S : Int → Prop} {x k : Int} (h : MN S x) (hk : 0 ≤ k) (hb : ∀ v, S v → v + k < 268435456) : MN (fun v => S (v - k)) (if x < 268435456 then x + k else 268435456) := by
  obtain ⟨a1, a2, a3⟩ := h
  split
  · rename_i c
    refine ⟨fun _ => ?_, fun v hv => by have := a2 _ hv; omega, by have := hb x (a1 c); omega⟩
    show S (x + k - k)
    rw [show x + k - k = x by omega]; exact a1 c
  · refine ⟨fun e => by omega, fun v hv => ?_, by omega⟩
    have := a2 _ hv; have := hb _ hv; omega
theorem MN_cap {S : Int → Prop} {x k : Int} (h : MN S x) (hk : 0 ≤ k) (hb : ∀ v, S v → v + k < 268435456) : MN (fun v => S (v - k)) (min 268435456 (k + x)) := by
  have := MN_add h hk hb
  have e : (if x < 268435456 then x + k else 268435456) = min 268435456 (k + x) := by
    have a3 := h.2.2
    split
    · rename_i c; have := hb x (h.1 c); omega
    · omega
  rw [e] at this; exact this
/-- n + 1 frames from f on, led from state s to state t, at a cost of v -/
def PT (k : Int → Int → Int) (f : Int) : Nat → Int → Int → Int → Prop
  | 0, s, t, v => s = t ∧ v = k f s
  | n + 1, s, t, v => ∃ t' v' : Int, PT k f n s t' v' ∧ (t' = t ∨ t' + 1 = t) ∧ v = v' + k (f + n + 1) t
theorem PT_front (k : Int → Int → Int) : ∀ (n : Nat) (f s t v : Int), PT k f (n + 1) s t v ↔ ∃ s' v' : Int, (s' = s ∨ s' = s + 1) ∧ PT k (f + 1) n s' t v' ∧ v = k f s + v' := by
  intro n
  induction n with
  | zero =>
    intro f s t v
    constructor
    · rintro ⟨t', v', ⟨rfl, rfl⟩, h, rfl⟩
      exact ⟨t, k (f + 1) t, by omega, ⟨rfl, rfl⟩, by rw [show f + ((0 : Nat) : Int) + 1 = f + 1 by omega]⟩
    · rintro ⟨s', v', h, ⟨rfl, rfl⟩, rfl⟩
      exact ⟨s, k f s, ⟨rfl, rfl⟩, by omega, by rw [show f + ((0 : Nat) : Int) + 1 = f + 1 by omega]⟩
  | succ n ih =>
    intro f s t v
    constructor
    · rintro ⟨t', v', h, e, rfl⟩
      obtain ⟨s', v2, e2, h2, rfl⟩ := (ih f s t' v').mp h
      refine ⟨s', v2 + k (f + 1 + n + 1) t, e2, ⟨t', v2, h2, e, rfl⟩, ?_⟩
      rw [show f + ((n + 1 : Nat) : Int) + 1 = f + 1 + n + 1 by omega]; omega
    · rintro ⟨s', v', e, ⟨t', v2, h2, e2, rfl⟩, rfl⟩
      refine ⟨t', k f s + v2, (ih f s t' _).mpr ⟨s', v2, e, h2, rfl⟩, e2, ?_⟩
      rw [show f + ((n + 1 : Nat) : Int) + 1 = f + 1 + n + 1 by omega]; omega
theorem PT_st (k : Int → Int → Int) (f : Int) : ∀ (n : Nat) (s t v : Int), PT k f n s t v → s ≤ t ∧ t ≤ s + n := by
  intro n
  induction n with
  | zero => rintro s t v ⟨rfl, _⟩; omega
  | succ n ih => rintro s t v ⟨t', v', h, e, _⟩; have := ih s t' v' h; omega
theorem PT_in {k : Int → Int → Int} {z : Int} {f m : Int} (hk : ∀ g i : Int, f ≤ g → g < m → 0 ≤ i → i < z → 0 ≤ k g i ∧ k g i ≤ 3200) : ∀ (n : Nat) (s t v : Int), f + n < m → 0 ≤ s → t < z → PT k f n s t v → 0 ≤ v ∧ v ≤ 3200 * (n + 1) := by
  intro n
  induction n with
  | zero => rintro s t v hm hs ht ⟨rfl, rfl⟩; have := hk f s (by omega) (by omega) hs ht; omega
  | succ n ih =>
    rintro s t v hm hs ht ⟨t', v', h, e, rfl⟩
    have st := PT_st k f n s t' v' h
    have := ih s t' v' (by omega) hs (by omega) h
    have := hk (f + n + 1) t (by omega) (by omega) (by omega) ht
    omega
theorem PT_cg {k k' : Int → Int → Int} {z f m : Int} (hk : ∀ g i : Int, f ≤ g → g < m → 0 ≤ i → i < z → k' g i = k g i) : ∀ (n : Nat) (s t v : Int), f + n < m → 0 ≤ s → t < z → (PT k' f n s t v ↔ PT k f n s t v) := by
  intro n
  induction n with
  | zero => intro s t v hm hs ht; constructor <;> (rintro ⟨rfl, rfl⟩; exact ⟨rfl, by rw [hk f s (by omega) (by omega) hs ht]⟩)
  | succ n ih =>
    intro s t v hm hs ht
    constructor
    · rintro ⟨t', v', h, e, rfl⟩
      have st := PT_st _ _ _ _ _ _ h
      exact ⟨t', v', (ih s t' v' (by omega) hs (by omega)).mp h, e, by rw [hk _ t (by omega) (by omega) (by omega) ht]⟩
    · rintro ⟨t', v', h, e, rfl⟩
      have st := PT_st _ _ _ _ _ _ h
      exact ⟨t', v', (ih s t' v' (by omega) hs (by omega)).mpr h, e, by rw [hk _ t (by omega) (by omega) (by omega) ht]⟩
/-- frames f .. g - 1 led through all z states -/
def SG (k : Int → Int → Int) (z f g v : Int) : Prop := f < g ∧ PT k f (g - f - 1).toNat 0 (z - 1) v
theorem SG_in {k : Int → Int → Int} {z f g m v : Int} (hk : ∀ g i : Int, f ≤ g → g < m → 0 ≤ i → i < z → 0 ≤ k g i ∧ k g i ≤ 3200) (hm : g ≤ m ∧ m ≤ 20) (hf : 0 ≤ f) (h : SG k z f g v) : 0 ≤ v ∧ v ≤ 64000 := by
  have := PT_in hk _ 0 (z - 1) v (by have := h.1; omega) (by omega) (by omega) h.2
  have := h.1
  omega
/-- all ways on from frame f, at sign b behind sign a: 32 times what it costs, and the number of signs -/
def RD (sg : Int → Int → Int → Int → Int → Int → Prop) (S n pr sl : Int) : Nat → Int → Int → Int → Int → Prop
  | 0, _, _, _, _ => False
  | m + 1, f, a, b, x => (∃ v : Int, sg a b (-1) f n v ∧ x = 32 * (v + pr) + 1) ∨ ∃ c g s v y : Int, (0 ≤ c ∧ c < S) ∧ (f < g ∧ sg a b c f g v) ∧ (0 ≤ s ∧ s < 4 ∧ g + s < n) ∧ RD sg S n pr sl m (g + s) b c y ∧ x = 32 * (v + pr + s * sl) + 1 + y
theorem RD_fuel {sg : Int → Int → Int → Int → Int → Int → Prop} {S n pr sl : Int} (h0 : ∀ a b c f g v : Int, sg a b c f g v → f < g) : ∀ (m m' : Nat) (f a b x : Int), n - f ≤ m → n - f ≤ m' → RD sg S n pr sl m f a b x → RD sg S n pr sl m' f a b x := by
  intro m
  induction m with
  | zero => intro m' f a b x _ _ h; exact absurd h (by simp [RD])
  | succ m ih =>
    intro m' f a b x e1 e2 h
    rcases h with ⟨v, h1, h2⟩ | ⟨c, g, s, v, y, hc, ⟨hg, hs⟩, hb, hr, hx⟩
    · have := h0 _ _ _ _ _ _ h1
      cases m' with
      | zero => omega
      | succ m' => exact Or.inl ⟨v, h1, h2⟩
    · cases m' with
      | zero => omega
      | succ m' => exact Or.inr ⟨c, g, s, v, y, hc, ⟨hg, hs⟩, hb, ih m' (g + s) b c y (by omega) (by omega) hr, hx⟩
def RDf (sg : Int → Int → Int → Int → Int → Int → Prop) (S n pr sl f a b x : Int) : Prop := RD sg S n pr sl (n - f).toNat f a b x
/-- the ways on by way of sign c, or by none -/
def TH (sg : Int → Int → Int → Int → Int → Int → Prop) (S n pr sl f a b c x : Int) : Prop := if c = -1 then ∃ v : Int, sg a b (-1) f n v ∧ x = 32 * v else ∃ g s v y : Int, (f < g ∧ sg a b c f g v) ∧ (0 ≤ s ∧ s < 4 ∧ g + s < n) ∧ RDf sg S n pr sl (g + s) b c y ∧ x = 32 * v + s * (32 * sl) + y
theorem RDf_iff {sg : Int → Int → Int → Int → Int → Int → Prop} {S n pr sl : Int} (h0 : ∀ a b c f g v : Int, sg a b c f g v → f < g) {f a b x : Int} (hf : f < n) : RDf sg S n pr sl f a b x ↔ ∃ c : Int, (c = -1 ∨ (0 ≤ c ∧ c < S)) ∧ TH sg S n pr sl f a b c (x - (32 * pr + 1)) := by
  obtain ⟨m, hm⟩ : ∃ m : Nat, (n - f).toNat = m + 1 := ⟨(n - f).toNat - 1, by omega⟩
  unfold RDf
  rw [hm]
  constructor
  · rintro (⟨v, h1, h2⟩ | ⟨c, g, s, v, y, hc, hg, hb, hr, hx⟩)
    · exact ⟨-1, Or.inl rfl, by unfold TH; rw [if_pos rfl]; exact ⟨v, h1, by omega⟩⟩
    · refine ⟨c, Or.inr hc, ?_⟩
      unfold TH; rw [if_neg (by omega)]
      refine ⟨g, s, v, y, hg, hb, RD_fuel h0 _ _ _ _ _ _ (by omega) (by omega) hr, ?_⟩
      have e : s * (32 * sl) = 32 * (s * sl) := by rw [Int.mul_left_comm]
      rw [e]; omega
  · rintro ⟨c, hc, h⟩
    unfold TH at h
    rcases hc with rfl | hc
    · rw [if_pos rfl] at h
      obtain ⟨v, h1, h2⟩ := h
      exact Or.inl ⟨v, h1, by omega⟩
    · rw [if_neg (by omega)] at h
      obtain ⟨g, s, v, y, hg, hb, hr, hx⟩ := h
      have e : s * (32 * sl) = 32 * (s * sl) := by rw [Int.mul_left_comm]
      rw [e] at hx
      exact Or.inr ⟨c, g, s, v, y, hc, hg, hb, RD_fuel h0 _ _ _ _ _ _ (by omega) (by omega) hr, by omega⟩
theorem RDf_no {sg : Int → Int → Int → Int → Int → Int → Prop} {S n pr sl : Int} {f a b x : Int} (hf : n ≤ f) : ¬ RDf sg S n pr sl f a b x := by
  unfold RDf
  rw [show (n - f).toNat = 0 by omega]
  simp [RD]
/-- how large a key can be -/
theorem RD_in {sg : Int → Int → Int → Int → Int → Int → Prop} {S n pr sl : Int} (h0 : ∀ a b c f g v : Int, sg a b c f g v → f < g ∧ 0 ≤ v ∧ v ≤ 64000) (hp : 0 ≤ pr ∧ pr ≤ 1000) (hs : 0 ≤ sl ∧ sl ≤ 1000) : ∀ (m : Nat) (f a b x : Int), RD sg S n pr sl m f a b x → 1 ≤ x ∧ x ≤ 2200000 * m := by
  intro m
  induction m with
  | zero => intro f a b x h; exact absurd h (by simp [RD])
  | succ m ih =>
    intro f a b x h
    rcases h with ⟨v, h1, rfl⟩ | ⟨c, g, s, v, y, hc, ⟨hg, hv⟩, hb, hr, rfl⟩
    · have := h0 _ _ _ _ _ _ h1; omega
    · have := h0 _ _ _ _ _ _ hv
      have := ih _ _ _ _ hr
      have := mul_in (x := s) (y := sl) (X := 3) (Y := 1000) (by omega) hs
      omega
theorem RDf_in {sg : Int → Int → Int → Int → Int → Int → Prop} {S n pr sl : Int} (h0 : ∀ a b c f g v : Int, sg a b c f g v → f < g ∧ 0 ≤ v ∧ v ≤ 64000) (hp : 0 ≤ pr ∧ pr ≤ 1000) (hs : 0 ≤ sl ∧ sl ≤ 1000) {f a b x : Int} (hf : 0 ≤ f) (hn : n ≤ 20) (h : RDf sg S n pr sl f a b x) : 1 ≤ x ∧ x ≤ 44000000 := by
  have := RD_in h0 hp hs _ _ _ _ _ h
  by_cases c : f < n
  · omega
  · exact absurd h (RDf_no (by omega))
theorem TH_in {sg : Int → Int → Int → Int → Int → Int → Prop} {S n pr sl : Int} (h0 : ∀ a b c f g v : Int, sg a b c f g v → f < g ∧ 0 ≤ v ∧ v ≤ 64000) (hp : 0 ≤ pr ∧ pr ≤ 1000) (hs : 0 ≤ sl ∧ sl ≤ 1000) {f a b c x : Int} (hf : 0 ≤ f) (hn : n ≤ 20) (h : TH sg S n pr sl f a b c x) : 0 ≤ x ∧ x ≤ 48000000 := by
  unfold TH at h
  split at h
  · obtain ⟨v, h1, rfl⟩ := h; have := h0 _ _ _ _ _ _ h1; omega
  · obtain ⟨g, s, v, y, ⟨hg, hv⟩, hb, hr, rfl⟩ := h
    have := h0 _ _ _ _ _ _ hv
    have := RDf_in h0 hp hs (by omega) hn hr
    have := mul_in (x := s) (y := 32 * sl) (X := 3) (Y := 32000) (by omega) (by omega)
    omega
end PATH
