section CHANGES2
variable {d : Nat}
theorem amtv_cg {t t' : Nat → Int} (h : ∀ j : Nat, j < 10 → t' j = t j) (v : Int) : amtv t' v = amtv t v := by
  unfold amtv
  split
  · exact h _ (by omega)
  · rfl
theorem cmpB_cg {t t' : Nat → Int} (h : ∀ j : Nat, j < 10 → t' j = t j) (z : Int) : cmpB t' z = cmpB t z := by
  unfold cmpB; simp only [amtv_cg h]
theorem exe_cg {t t' co : Nat → Int} (h : ∀ j : Nat, j < 10 → t' j = t j) : ∀ (k : Nat) (i : Int) (s : List Bool), exe t' co k i s = exe t co k i s
  | 0, _, _ => rfl
  | k + 1, i, s => by simp only [exe, st1, cmpB_cg h]; exact exe_cg h k _ _
theorem fires_cg {t t' co en : Nat → Int} (h : ∀ j : Nat, j < 10 → t' j = t j) (q : Int) : fires t' co en q = fires t co en q := by
  unfold fires; rw [exe_cg h]
theorem ob_cg {t t' : Nat → Int} (h : ∀ j : Nat, j < 10 → t' j = t j) (side z : Int) (p : Int × (Nat → Int)) : ob t' side z p = ob t side z p := by
  unfold ob; simp only [amtv_cg h]
theorem fo_cg {t t' acs : Nat → Int} {side : Int} {F F' : Int → Bool} (h : ∀ j : Nat, j < 10 → t' j = t j) (hF : ∀ q : Int, F' q = F q) : ∀ (k : Nat) (i : Int) (p : Int × (Nat → Int)), fo t' side acs F' k i p = fo t side acs F k i p
  | 0, _, _ => rfl
  | k + 1, i, p => by simp only [fo, ob_cg h, hF]; exact fo_cg h hF k _ _
theorem fo_id {t acs : Nat → Int} {side : Int} {F : Int → Bool} : ∀ (k : Nat) (i : Int) (p : Int × (Nat → Int)), (∀ x : Int, i ≤ x → x < i + k → F (acs x.toNat / 16384) = false) → fo t side acs F k i p = p
  | 0, _, _, _ => rfl
  | k + 1, i, p, h => by
    simp only [fo]
    rw [if_neg (fun y => by rw [h i (by omega) (by omega)] at y; exact absurd y.2 (by decide))]
    exact fo_id k (i + 1) p (fun x a b => h x (by omega) (by omega))
theorem SOK_fo {t acs : Nat → Int} {side : Int} {F : Int → Bool} : ∀ (k : Nat) (i : Int) (p : Int × (Nat → Int)), SOK p → (∀ x : Int, i ≤ x → x < i + k → acs x.toNat / 1024 % 8 ≤ 4) → SOK (fo t side acs F k i p)
  | 0, _, _, h, _ => h
  | k + 1, i, p, h, hz => by
    simp only [fo]
    refine SOK_fo k (i + 1) _ ?_ (fun x a b => hz x (by omega) (by omega))
    split
    · exact SOK_ob h ⟨by omega, hz i (by omega) (by omega)⟩
    · exact h
theorem aRel_z {z i : Int} {m : MT} (h : aRel z m i) : (0 ≤ z ∧ z < 1000000) ∧ z / 1024 % 8 ≤ 4 ∧ z / 16384 ≤ 12 := by
  obtain ⟨q, s, k, v, h1, h2, h3, h4, h5⟩ := h
  have vb : 0 ≤ v ∧ v < 1024 := by
    rcases h5 with h5 | h5
    · omega
    · have := h5.2.2.2; unfold vRel at this; omega
  omega
theorem cRl_z {z s : Int} {m : MT} (h : cRl z m s) : 0 ≤ z ∧ z < 6291456 := by
  rcases h with h | h | h | ⟨h1, a, b, h2, h3, h4, h5⟩
  · omega
  · omega
  · omega
  · unfold vRel at h2 h3; omega
theorem RulR_fm {cc ac hh : Int} {co en acs : Nat → Int} {m m' : MT} (h : RulR cc ac hh co en acs m) (F : FM m m') : RulR cc ac hh co en acs m' := RulR_m h (F.2 15 (by decide)) (fun k hk => F.1 k (by omega) (by omega) (by omega))
theorem l_M_changes {P : MT → Prop} {a b side cc ac hh : Int} {co en acs c E : Nat → Int} {p0 : Int × (Nat → Int)} (hd : 6 < d) (hs : side = 0 ∨ side = 1) (ha : 0 ≤ a ∧ a < 10) (hb : 0 ≤ b ∧ b < 10) (hn : 1 ≤ c (16 + 17 * a).toNat ∧ c (16 + 17 * a).toNat ≤ 4) (hh12 : 0 ≤ hh ∧ hh ≤ 12) (hS : SOK p0) : ∀ q : Int, q ≤ hh → 0 ≤ q → ∀ mi : MT, RulR cc ac hh co en acs mi → mi 145 = E → mi 135 = c → SR (fo (td c a b) side acs (fires (td c a b) co en) (lo E q).toNat 0 p0) mi → (∀ m1 : MT, FM mi m1 → SR (fo (td c a b) side acs (fires (td c a b) co en) ac.toNat 0 p0) m1 → P m1) → h_M_changes_3 d a b side q mi P := by
  refine upto _ (fun q hq ih q0 mi hU hE hc hR h => ?_)
  obtain ⟨⟨hcc, hac⟩, hco, hacs, ⟨h15, _⟩, hQ, hlc, hla⟩ := id hU
  rw [hE] at hla
  refine v_M_changes_3 ?_
  rw [h15]
  refine ⟨fun w => h mi (FM.rfl' _) ?_, fun w => ⟨by omega, ?_⟩⟩
  · rw [show q = hh by omega, hla] at hR; exact hR
  · obtain ⟨⟨x1, x2, x3, x4, x5⟩, ⟨y1, y2, y3, y4, y5⟩, zz⟩ := hQ q q0 w
    rw [hE] at y1 y2 y3 y4 y5
    have ln : lo E (q + 1) = E q.toNat := by unfold lo; rw [if_neg (by omega), show (q + 1 - 1).toNat = q.toNat by omega]
    have SP : SOK (fo (td c a b) side acs (fires (td c a b) co en) (lo E q).toNat 0 p0) := SOK_fo _ _ _ hS (fun x a b => (aRel_z (hacs x a (by omega))).2.1)
    have AD : fo (td c a b) side acs (fires (td c a b) co en) (lo E (q + 1)).toNat 0 p0 = fo (td c a b) side acs (fires (td c a b) co en) (E q.toNat - lo E q).toNat (lo E q) (fo (td c a b) side acs (fires (td c a b) co en) (lo E q).toNat 0 p0) := by
      rw [ln, show (E q.toNat).toNat = (lo E q).toNat + (E q.toNat - lo E q).toNat by omega, fo_add, show (0 : Int) + ((lo E q).toNat : Int) = lo E q by omega]
    -- behind the question
    have G : ∀ (bb : Bool) (m1 : MT), fires (td c a b) co en q = bb → FM mi m1 → m1 158 = mi 158 → m1 134 39 = mi 134 39 → (bb = true → ((0 ≤ q ∧ q < 13) ∧ h_M_changes_35 d a b side q (m1 144 q.toNat) m1 P)) ∧ (bb = false → ((-2147483648 ≤ q + 1 ∧ q + 1 < 2147483648) ∧ h_M_changes_3 d a b side (q + 1) m1 P)) := by
      intro bb m1 hf F1 e158 e39
      have R1 : SR (fo (td c a b) side acs (fires (td c a b) co en) (lo E q).toNat 0 p0) m1 := by
        unfold SR; rw [e158, e39]; exact hR
      have U1 := RulR_fm hU F1
      have E1 : m1 145 = E := (F1.1 145 (by decide) (by decide) (by decide)).trans hE
      have C1 : m1 135 = c := (F1.1 135 (by decide) (by decide) (by decide)).trans hc
      refine ⟨fun eb => ⟨by omega, ?_⟩, fun eb => ⟨by omega, ?_⟩⟩
      · have e144 : m1 144 q.toNat = lo E q := by rw [F1.1 144 (by decide) (by decide) (by decide)]; exact y1
        rw [e144]
        refine l_M_acts (e := E q.toNat) (F := fires (td c a b) co en) (acs := acs) (c := c) (by omega) hs (by omega) (by omega) ha hb hn (hf.trans eb) (E q.toNat - lo E q).toNat (lo E q) _ m1 (by omega) y2 C1 (by rw [E1]) (fun x a1 a2 => ⟨U1.2.2.1 x (by omega) (by omega), y5 x a1 a2⟩) SP R1 (fun m2 F2 R2 => ?_)
        exact ih w (by omega) m2 (RulR_fm U1 F2) (by rw [F2.1 145 (by decide) (by decide) (by decide)]; exact E1) (by rw [F2.1 135 (by decide) (by decide) (by decide)]; exact C1) (by rw [AD]; exact R2) (fun m3 F3 R3 => h m3 ((F1.trans F2).trans F3) R3)
      · refine ih w (by omega) m1 U1 E1 C1 ?_ (fun m3 F3 R3 => h m3 (F1.trans F3) R3)
        rw [AD, fo_id _ _ _ (fun x a1 a2 => by rw [y5 x a1 (by omega), hf]; exact eb)]
        exact R1
    refine v_M_isSo ⟨by omega, fun w2 => ?_, fun w2 => ?_⟩
    · rw [x1]
      have BLq : BL co (lo en q) (en q.toNat) 0 1 := by
        rcases zz with zz | zz
        · exact absurd (x1.trans (zz.trans x2.symm)) w2
        · exact zz
      have := l_M_isSo (mi := mi) (P := fun b1 m1 => (b1 = true → ((0 ≤ q ∧ q < 13) ∧ h_M_changes_35 d a b side q (m1 144 q.toNat) m1 P)) ∧ (b1 = false → ((-2147483648 ≤ q + 1 ∧ q + 1 < 2147483648) ∧ h_M_changes_3 d a b side (q + 1) m1 P))) (d := d - 1) (q := q) (a := a) (b := b) (j := en q.toNat) (co := co) (by omega) (by omega) (by omega) x2 ha hb (by rw [hc]; exact hn) (en q.toNat - lo en q).toNat (lo en q) [] (mi 152) (by omega) x3 (fun x a1 a2 => hco x (by omega) (by omega)) BLq.2 (by simp) trivial (fun g => by rw [hc]; exact G _ _ rfl ⟨fun k _ x _ => sv_ne _ _ x, fun _ _ => rfl⟩ rfl rfl)
      rw [sv_self] at this
      exact this
    · have f1 : fires (td c a b) co en q = true := by
        unfold fires
        rw [show (en q.toNat - lo en q).toNat = 0 by omega]; rfl
      exact G true mi f1 (FM.rfl' _) rfl rfl
end CHANGES2
