section CHANGES
variable {d : Nat}
/-- the reference's surface -/
def SR (p : Int × (Nat → Int)) (m : MT) : Prop := m 134 39 = p.1 ∧ ∀ k : Int, 0 ≤ k → k < p.1 → ∀ j : Int, 0 ≤ j → j < 4 → m 158 (4 * k + j).toNat = mkv (p.2 k.toNat) j
def FM (m m2 : MT) : Prop := (∀ k : Nat, k ≠ 134 → k ≠ 152 → k ≠ 158 → m2 k = m k) ∧ ∀ j : Nat, j ≠ 39 → m2 134 j = m 134 j
theorem FM.rfl' (m : MT) : FM m m := ⟨fun _ _ _ _ => rfl, fun _ _ => rfl⟩
theorem FM.trans {a b c : MT} (h1 : FM a b) (h2 : FM b c) : FM a c := ⟨fun k x y z => (h2.1 k x y z).trans (h1.1 k x y z), fun j x => (h2.2 j x).trans (h1.2 j x)⟩
theorem s_M_drops {mi : MT} {P : MT → Prop} {side : Int} {p : Int × (Nat → Int)} (hR : SR p mi) (hp : 1 < p.1 ∧ p.1 ≤ 4) (h : ∀ m1 : MT, FM mi m1 → SR (p.1 - 1, if side = 1 then cpy p.2 p.2 1 0 (p.1 - 1).toNat else p.2) m1 → P m1) : c_M_drops d side mi P := by
  obtain ⟨r1, r2⟩ := hR
  have F0 : FM mi (wt mi 134 39 (mi 134 39 - 1)) := ⟨fun k a _ _ => wt_row _ _ a, fun j a => wt_ne _ _ a⟩
  refine v_M_drops ⟨by omega, fun q => h _ F0 ⟨?_, fun k k0 k1 j j0 j1 => ?_⟩, fun q => ?_⟩
  · rw [wt_same, r1]
  · rw [if_neg q]
    have k1' : k < p.1 - 1 := k1
    exact r2 k k0 (by omega) j j0 j1
  · have e39 : (wt mi 134 39 (mi 134 39 - 1)) 134 39 = p.1 - 1 := by rw [wt_same, r1]
    have L : ∀ i : Int, i ≤ 4 * (p.1 - 1) → 0 ≤ i → ∀ t : Nat → Int, (∀ x : Int, 0 ≤ x → x < i → t x.toNat = mi 158 (x + 4).toNat) → (∀ x : Int, i ≤ x → t x.toNat = mi 158 x.toNat) → h_M_drops_17 d side i (sv (wt mi 134 39 (mi 134 39 - 1)) 158 t) P := by
      refine upto _ (fun i hi ih i0 t t1 t2 => ?_)
      refine v_M_drops_17 ?_
      have e39' : (sv (wt mi 134 39 (mi 134 39 - 1)) 158 t) 134 39 = p.1 - 1 := e39
      rw [e39']
      refine ⟨by omega, fun w => h _ ⟨fun k a b c => by rw [sv_ne _ _ c]; exact F0.1 k a b c, fun j a => F0.2 j a⟩ ⟨e39', fun k k0 k1 j j0 j1 => ?_⟩, fun w => ⟨by omega, ?_⟩⟩
      · have k1' : k < p.1 - 1 := k1
        rw [if_pos q]
        show t (4 * k + j).toNat = mkv (cpy p.2 p.2 1 0 (p.1 - 1).toNat k.toNat) j
        rw [t1 _ (by omega) (by omega), cpy_at, if_pos (by omega), show 1 + (k.toNat - 0) = (k + 1).toNat by omega, ← r2 (k + 1) (by omega) (by omega) j j0 j1]
        congr 1; omega
      · rw [wt_sv]
        refine ih w (by omega) _ (fun x x0 x1 => ?_) (fun x x1 => ?_)
        · by_cases c : x = i
          · subst c; rw [sv_eq]; show t _ = _; exact t2 _ (by omega)
          · rw [svn _ _ (by omega)]; exact t1 x x0 (by omega)
        · rw [svn _ _ (by omega)]; exact t2 x (by omega)
    have := L 0 (by omega) (by omega) (mi 158) (fun x a b => by omega) (fun x _ => rfl)
    have e : (wt mi 134 39 (mi 134 39 - 1)) 158 = mi 158 := rfl
    rw [← e, sv_self] at this
    exact this
/-- the reference: the acts of one rule that fires -/
theorem l_M_acts {P : MT → Prop} {a b side q e : Int} {F : Int → Bool} {acs c : Nat → Int} (hd : 4 < d) (hs : side = 0 ∨ side = 1) (hq : 0 ≤ q ∧ q < 12) (he : e ≤ 40) (ha : 0 ≤ a ∧ a < 10) (hb : 0 ≤ b ∧ b < 10) (hn : 1 ≤ c (16 + 17 * a).toNat ∧ c (16 + 17 * a).toNat ≤ 4) (hF : F q = true) : ∀ (k : Nat) (i : Int) (p : Int × (Nat → Int)) (mi : MT), e = i + k → 0 ≤ i → mi 135 = c → mi 145 q.toNat = e → (∀ x : Int, i ≤ x → x < e → aRel (acs x.toNat) mi x ∧ acs x.toNat / 16384 = q) → SOK p → SR p mi → (∀ m1 : MT, FM mi m1 → SR (fo (td c a b) side acs F k i p) m1 → h_M_changes_3 d a b side (q + 1) m1 P) → h_M_changes_35 d a b side q i mi P := by
  intro k
  induction k with
  | zero =>
    intro i p mi hi i0 h135 h145 hz hS hR h
    refine v_M_changes_35 ?_
    rw [h145]
    exact ⟨by omega, fun _ => ⟨by omega, h mi (FM.rfl' _) hR⟩, fun w => by omega⟩
  | succ k ih =>
    intro i p mi hi i0 h135 h145 hz hS hR h
    obtain ⟨⟨q', s, kk, v, z1, z2, z3, z4, z5⟩, z6⟩ := hz i (by omega) (by omega)
    have vb : 0 ≤ v ∧ v < 1024 := by
      rcases z5 with z5 | z5
      · omega
      · have := z5.2.2.2; unfold vRel at this; omega
    have kb : 0 ≤ kk ∧ kk ≤ 4 := by omega
    have d1 : acs i.toNat / 8192 % 2 = s := by omega
    have d2 : acs i.toNat / 1024 % 8 = kk := by omega
    have d3 : acs i.toNat % 1024 = v := by omega
    simp only [fo] at h
    rw [d1, z6, hF] at h
    have S1 := SOK_ob (t := td c a b) (side := side) (z := acs i.toNat) hS (by omega)
    -- the rest
    have K : ∀ m1 : MT, FM mi m1 → SR (if s = side ∧ true = true then ob (td c a b) side (acs i.toNat) p else p) m1 → h_M_changes_35 d a b side q (i + 1) m1 P := by
      intro m1 F1 R1
      refine ih (i + 1) _ m1 (by omega) (by omega) (by rw [F1.1 135 (by decide) (by decide) (by decide)]; exact h135) (by rw [F1.1 145 (by decide) (by decide) (by decide)]; exact h145) (fun x x1 x2 => ?_) ?_ R1 (fun m2 F2 R2 => h m2 (F1.trans F2) R2)
      · have := hz x (by omega) x2
        exact ⟨aRel_cg this.1 (fun c c1 c2 => by rw [F1.1 c (by omega) (by omega) (by omega)]), this.2⟩
      · split
        · exact S1
        · exact hS
    have r39 := hR.1
    have p4 := hS.1
    refine v_M_changes_35 ?_
    rw [h145]
    refine ⟨by omega, fun w => by omega, fun _ => ⟨by omega, fun w => ⟨fun w0 => ⟨by omega, ?_⟩, fun w0 => ?_⟩, fun w => ⟨by omega, K mi (FM.rfl' _) (by rw [if_neg (fun y => w (z3.trans y.1))]; exact hR)⟩⟩⟩
    · -- set
      have es : s = side := z3.symm.trans w
      rcases z5 with z5 | ⟨y1, y2, y3, y4⟩
      · omega
      refine s_M_valueOf (v := v) (by omega) y4 ha hb (by rw [h135]; exact hn) ⟨by omega, ?_⟩
      rw [h135, y3]
      have OB : ob (td c a b) side (acs i.toNat) p = if 0 ≤ amtv (td c a b) v ∧ amtv (td c a b) v < mxv kk then (p.1, sv p.2 (if side = 0 then p.1 - 1 else 0).toNat (wmk (p.2 (if side = 0 then p.1 - 1 else 0).toNat) kk (amtv (td c a b) v))) else p := by
        unfold ob; rw [d2, d3, if_neg (by omega)]
      rw [if_pos ⟨es, rfl⟩, OB] at K
      refine ⟨fun w1 => ⟨by omega, K mi (FM.rfl' _) (by rw [if_neg w1]; exact hR)⟩, fun w1 => ?_⟩
      rw [if_pos w1] at K
      have SET : ∀ x : Int, x = (if side = 0 then p.1 - 1 else 0) → SR (p.1, sv p.2 (if side = 0 then p.1 - 1 else 0).toNat (wmk (p.2 (if side = 0 then p.1 - 1 else 0).toNat) kk (amtv (td c a b) v))) (wt mi 158 (4 * x + kk).toNat (amtv (td c a b) v)) := by
        intro x hx
        rw [← hx]
        have x0 : 0 ≤ x ∧ x < p.1 := by rw [hx]; split <;> omega
        obtain ⟨o1, o2, o3⟩ := wmk_ok (hS.2 x x0.1 x0.2) (m := kk) (v := amtv (td c a b) v) (by omega) w1
        refine ⟨r39, fun k2 k0 k1 j j0 j1 => ?_⟩
        show (wt mi 158 (4 * x + kk).toNat (amtv (td c a b) v)) 158 (4 * k2 + j).toNat = mkv (sv p.2 x.toNat _ k2.toNat) j
        by_cases cx : k2 = x
        · subst cx
          rw [sv_eq]
          by_cases cj : j = kk
          · subst cj; rw [wt_same, o2]
          · rw [wt_ne _ _ (by omega), o3 j j0 j1 cj]; exact hR.2 k2 k0 k1 j j0 j1
        · rw [svn _ _ (by omega), wt_ne _ _ (by omega)]; exact hR.2 k2 k0 k1 j j0 j1
      have FW : ∀ (x z : Int), FM mi (wt mi 158 x.toNat z) := fun x z => ⟨fun k _ _ c => wt_row _ _ c, fun _ _ => rfl⟩
      refine ⟨fun w2 => ⟨by omega, ?_⟩, fun w2 => ⟨by omega, by omega, ?_⟩⟩
      · have := K _ (FW _ _) (SET 0 (by rw [if_neg w2]))
        rw [show (4 * 0 + kk : Int) = 0 + kk by omega] at this
        exact this
      · have := K _ (FW _ _) (SET (p.1 - 1) (by rw [if_pos w2]))
        rw [r39]
        exact this
    · -- drop
      have es : s = side := z3.symm.trans w
      rcases z5 with ⟨y1, y2, y3⟩ | ⟨y1, y2, y3, y4⟩
      · have OB : ob (td c a b) side (acs i.toNat) p = if 1 < p.1 then (p.1 - 1, if side = 1 then cpy p.2 p.2 1 0 (p.1 - 1).toNat else p.2) else p := by
          unfold ob; rw [d2, if_pos y1]
        rw [if_pos ⟨es, rfl⟩, OB] at K
        refine ⟨fun w1 => ⟨by omega, K mi (FM.rfl' _) (by rw [if_neg (by omega)]; exact hR)⟩, fun w1 => ⟨by omega, ?_⟩⟩
        rw [if_pos (by omega)] at K
        exact s_M_drops hR (by omega) (fun m1 F1 R1 => ⟨by omega, K m1 F1 R1⟩)
      · omega
end CHANGES
