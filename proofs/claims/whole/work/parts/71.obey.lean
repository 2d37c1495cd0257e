section OBEY
variable {d : Nat} {mi : MT}
/-- what an act does to a surface -/
def ob (t : Nat → Int) (side z : Int) (p : Int × (Nat → Int)) : Int × (Nat → Int) :=
  if z / 1024 % 8 = 4 then (if 1 < p.1 then (p.1 - 1, if side = 1 then cpy p.2 p.2 1 0 (p.1 - 1).toNat else p.2) else p)
  else if 0 ≤ amtv t (z % 1024) ∧ amtv t (z % 1024) < mxv (z / 1024 % 8) then (p.1, sv p.2 (if side = 0 then p.1 - 1 else 0).toNat (wmk (p.2 (if side = 0 then p.1 - 1 else 0).toNat) (z / 1024 % 8) (amtv t (z % 1024)))) else p
def SOK (p : Int × (Nat → Int)) : Prop := (1 ≤ p.1 ∧ p.1 ≤ 4) ∧ ∀ k : Int, 0 ≤ k → k < p.1 → okSt (p.2 k.toNat)
theorem SOK_ob {t : Nat → Int} {side z : Int} {p : Int × (Nat → Int)} (h : SOK p) (hz : 0 ≤ z / 1024 % 8 ∧ z / 1024 % 8 ≤ 4) : SOK (ob t side z p) := by
  unfold ob
  split
  · split
    · refine ⟨by have := h.1; show 1 ≤ p.1 - 1 ∧ p.1 - 1 ≤ 4; omega, fun k k0 k1 => ?_⟩
      have k1' : k < p.1 - 1 := k1
      show okSt ((if side = 1 then cpy p.2 p.2 1 0 (p.1 - 1).toNat else p.2) k.toNat)
      split
      · rw [cpy_at, if_pos (by omega), show 1 + (k.toNat - 0) = (k + 1).toNat by omega]
        exact h.2 (k + 1) (by omega) (by omega)
      · exact h.2 k k0 (by omega)
    · exact h
  · rename_i n4
    split
    · rename_i w
      refine ⟨h.1, fun k k0 k1 => ?_⟩
      have k1' : k < p.1 := k1
      have h1 := h.1
      show okSt (sv p.2 (if side = 0 then p.1 - 1 else 0).toNat _ k.toNat)
      by_cases c : k.toNat = (if side = 0 then p.1 - 1 else 0).toNat
      · rw [← c, sv_eq]
        exact (wmk_ok (h.2 k k0 k1') (by omega) w).1
      · rw [svn _ _ c]; exact h.2 k k0 k1'
    · exact h
def FB (m m1 : MT) : Prop := (∀ k : Nat, k ≠ 100 → k ≠ 102 → m1 k = m k) ∧ ∀ j : Nat, j ≠ 4 → m1 100 j = m 100 j
theorem FB.rfl' (m : MT) : FB m m := ⟨fun _ _ _ => rfl, fun _ _ => rfl⟩
theorem FB.trans {a b c : MT} (h1 : FB a b) (h2 : FB b c) : FB a c := ⟨fun k x y => (h2.1 k x y).trans (h1.1 k x y), fun j x => (h2.2 j x).trans (h1.2 j x)⟩
theorem FB.w0 (m : MT) {z : Int} : FB m (wt m 100 4 z) := ⟨fun k x _ => wt_row _ _ x, fun j x => wt_ne _ _ x⟩
theorem FB.w2 (m : MT) {i : Nat} {z : Int} : FB m (wt m 102 i z) := ⟨fun k _ x => wt_row _ _ x, fun _ _ => rfl⟩
def sur (m : MT) : Int × (Nat → Int) := (m 100 4, m 102)
/-- the class: an act obeyed -/
theorem s_S_obey {P : MT → Prop} {z side : Int} (hd : 3 < d) (hz : 0 ≤ z ∧ z < 1000000) (hz4 : z / 1024 % 8 ≤ 4) (hs : side = 0 ∨ side = 1) (hS : SOK (sur mi)) (h : ∀ m1 : MT, FB mi m1 → sur m1 = ob (mi 101) side z (sur mi) → P m1) : c_S_obey d z side mi P := by
  obtain ⟨⟨s1, s2⟩, s3⟩ := id hS
  have s1' : 1 ≤ mi 100 4 := s1
  have s2' : mi 100 4 ≤ 4 := s2
  have s3' : ∀ k : Int, 0 ≤ k → k < mi 100 4 → okSt (mi 102 k.toNat) := s3
  refine v_S_obey ⟨by omega, fun n4 => ⟨by omega, fun q => ⟨fun w => h mi (FB.rfl' _) ?_, fun w => ⟨⟨(s3' 0 (by omega) (by omega)).1, w.1, w.2⟩, h _ (FB.w2 _) ?_⟩⟩, fun q => ⟨by omega, fun w => h mi (FB.rfl' _) ?_, fun w => ⟨⟨by omega, (s3' (mi 100 4 - 1) (by omega) (by omega)).1, w.1, w.2⟩, h _ (FB.w2 _) ?_⟩⟩⟩, fun e4 => ?_⟩
  · unfold ob; rw [if_neg n4, if_neg (fun y => w ⟨by omega, y⟩)]
  · unfold ob; rw [if_neg n4, if_pos w.2, if_neg q]; rfl
  · unfold ob; rw [if_neg n4, if_neg (fun y => w ⟨by omega, y⟩)]
  · unfold ob; rw [if_neg n4, if_pos w.2, if_pos q]; rfl
  · refine v_S_drop ⟨fun q => ⟨by omega, fun w => h _ (FB.w0 _) ?_, fun w => ⟨by omega, h _ ⟨fun k k1 k2 => ?_, fun j hj => ?_⟩ ?_⟩⟩, fun q => h mi (FB.rfl' _) ?_⟩
    · unfold ob
      rw [if_pos e4, if_pos (show 1 < (sur mi).1 from q), if_neg w]
      rfl
    · rw [cpm_r, if_neg k2, wt_row _ _ k1]
    · rw [cpm_r, if_neg (by decide), wt_ne _ _ hj]
    · unfold ob
      rw [if_pos e4, if_pos (show 1 < (sur mi).1 from q), if_pos w]
      rfl
    · unfold ob
      rw [if_pos e4, if_neg (show ¬ 1 < (sur mi).1 by show ¬ 1 < mi 100 4; omega)]
/-- all acts of a side -/
def fo (t : Nat → Int) (side : Int) (acs : Nat → Int) (F : Int → Bool) : Nat → Int → Int × (Nat → Int) → Int × (Nat → Int)
  | 0, _, p => p
  | k + 1, i, p => fo t side acs F k (i + 1) (if acs i.toNat / 8192 % 2 = side ∧ F (acs i.toNat / 16384) = true then ob t side (acs i.toNat) p else p)
theorem fo_add {t : Nat → Int} {side : Int} {acs : Nat → Int} {F : Int → Bool} : ∀ (k k2 : Nat) (i : Int) (p : Int × (Nat → Int)), fo t side acs F (k + k2) i p = fo t side acs F k2 (i + k) (fo t side acs F k i p) := by
  intro k
  induction k with
  | zero => intro k2 i p; rw [Nat.zero_add, show i + ((0 : Nat) : Int) = i by omega]; rfl
  | succ k ih =>
    intro k2 i p
    rw [show k + 1 + k2 = (k + k2) + 1 by omega]
    simp only [fo]
    rw [ih, show i + 1 + (k : Int) = i + ((k + 1 : Nat) : Int) by omega]
theorem l_S_change {P : MT → Prop} {a b side ac M : Int} {F : Int → Bool} {t acs : Nat → Int} (hd : 6 < d) (hs : side = 0 ∨ side = 1) (hac : 0 ≤ ac ∧ ac ≤ 40) (hz : ∀ i : Int, 0 ≤ i → i < ac → (0 ≤ acs i.toNat ∧ acs i.toNat < 1000000) ∧ acs i.toNat / 1024 % 8 ≤ 4) (hM : ∀ i : Int, 0 ≤ i → i < ac → (iShr M (acs i.toNat / 16384) % 2 = 1 ↔ F (acs i.toNat / 16384) = true)) : ∀ (k : Nat) (i : Int) (mi : MT), ac = i + k → 0 ≤ i → mi 10 4 = ac → mi 13 = acs → mi 101 = t → SOK (sur mi) → (∀ m1 : MT, FB mi m1 → SOK (sur m1) → sur m1 = fo t side acs F k i (sur mi) → P m1) → h_S_change_72 d a b side M i mi P := by
  intro k
  induction k with
  | zero =>
    intro i mi hi i0 h4 h13 ht hS h
    exact v_S_change_72 ⟨fun _ => h mi (FB.rfl' _) hS rfl, fun q => by omega⟩
  | succ k ih =>
    intro i mi hi i0 h4 h13 ht hS h
    have z := hz i i0 (by omega)
    refine v_S_change_72 ?_
    rw [h4, h13]
    simp only [fo] at h
    refine ⟨fun q => by omega, fun _ => ⟨by omega, fun q => ⟨by omega, ?_⟩, fun q => ⟨fun w => ⟨by omega, ?_⟩, fun w => ?_⟩⟩⟩
    · refine ih (i + 1) mi (by omega) (by omega) h4 h13 ht hS (fun m1 F1 S1 e => h m1 F1 S1 ?_)
      rw [if_neg (fun y => q y.1)]; exact e
    · refine ih (i + 1) mi (by omega) (by omega) h4 h13 ht hS (fun m1 F1 S1 e => h m1 F1 S1 ?_)
      rw [if_neg (fun y => w ((hM i i0 (by omega)).mpr y.2))]; exact e
    · refine s_S_obey (by omega) z.1 z.2 hs hS (fun m1 F1 e1 => ⟨by omega, ?_⟩)
      have S1 : SOK (sur m1) := by rw [e1]; exact SOK_ob hS ⟨by omega, z.2⟩
      refine ih (i + 1) m1 (by omega) (by omega) (by rw [F1.1 10 (by decide) (by decide)]; exact h4) (by rw [F1.1 13 (by decide) (by decide)]; exact h13) (by rw [F1.1 101 (by decide) (by decide)]; exact ht) S1 (fun m2 F2 S2 e2 => h m2 (F1.trans F2) S2 ?_)
      rw [if_pos ⟨q, (hM i i0 (by omega)).mp w⟩, ← ht, ← e1, ht]; exact e2
end OBEY
