section LEADSB
variable {d : Nat} {M : MT} {fr kn n N z : Int} {r : Int → Int} {st pl nu t u w : Nat → Int} {P q j f : Int}
theorem OTB_s (hP : 0 ≤ P) (hq : 0 ≤ q ∧ q < zr M r N P) (h4 : zr M r N P ≤ 4) : OTB M r N n t (7 * P + q) f = kA t n (osn M r N P.toNat + q) f := by
  unfold OTB
  rw [show (7 * P + q) % 7 = q by omega, show (7 * P + q) / 7 = P by omega, if_pos (by omega), if_pos hq.2]
theorem OTB_o (hP : 0 ≤ P) (hq : 0 ≤ q ∧ q < 4) (h4 : zr M r N P ≤ q) : OTB M r N n t (7 * P + q) f = 268435456 := by
  unfold OTB
  rw [show (7 * P + q) % 7 = q by omega, show (7 * P + q) / 7 = P by omega, if_pos (by omega), if_neg (by omega)]
theorem OTB_l (hP : 0 ≤ P ∧ P < N - 1) (hj : 0 ≤ j ∧ j < 3) : OTB M r N n t (7 * P + (4 + j)) f = SLD t n (M 135 3) (osn M r N (P + 1).toNat) j f := by
  unfold OTB
  rw [show (7 * P + (4 + j)) % 7 = 4 + j by omega, show (7 * P + (4 + j)) / 7 = P by omega, if_neg (by omega), if_pos hP.2, show 4 + j - 4 = j by omega]
theorem OTB_n (hP : 0 ≤ P ∧ P = N - 1) (hj : 0 ≤ j ∧ j < 3) : OTB M r N n t (7 * P + (4 + j)) f = 268435456 := by
  unfold OTB
  rw [show (7 * P + (4 + j)) % 7 = 4 + j by omega, show (7 * P + (4 + j)) / 7 = P by omega, if_neg (by omega), if_neg (by omega)]
theorem vl_no {x : Int} (h : x = -1 ∨ 7 * N ≤ x) : vl u N f x = 268435456 := if_neg (by omega)
theorem vl_in {x : Int} (hU : ∀ p : Int, 0 ≤ p → p < 7 * N → u (140 * (f + 1) + p).toNat = OTB M r N n t p (f + 1)) (h : 0 ≤ x ∧ x < 7 * N) : vl u N f x = OTB M r N n t x (f + 1) := by
  unfold vl
  rw [if_pos (by omega)]
  exact hU x h.1 h.2
section VS4
variable (H : HX M fr kn n) (hr : RVx M r N) (hU : ∀ p : Int, 0 ≤ p → p < 7 * N → u (140 * (f + 1) + p).toNat = OTB M r N n t p (f + 1))
theorem V_in (H : HX M fr kn n) (hr : RVx M r N) (hU : ∀ p : Int, 0 ≤ p → p < 7 * N → u (140 * (f + 1) + p).toNat = OTB M r N n t p (f + 1)) (hP : 0 ≤ P ∧ P < N) (hq : 0 ≤ q ∧ q + 1 < zr M r N P) (hw : w P.toNat = zr M r N P) : (bhF w N (7 * P + q) 0 = 7 * P + q ∧ bhF w N (7 * P + q) 1 = 7 * P + (q + 1)) ∧ vl u N f (bhF w N (7 * P + q) 0) = kA t n (osn M r N P.toNat + q) (f + 1) ∧ vl u N f (bhF w N (7 * P + q) 1) = kA t n (osn M r N P.toNat + q + 1) (f + 1) ∧ vl u N f (bhF w N (7 * P + q) 2) = 268435456 ∧ vl u N f (bhF w N (7 * P + q) 3) = 268435456 := by
  have z4 := zr_in H hr hP.1 hP.2
  have e1 : (7 * P + q) % 7 = q := by omega
  have e2 : (7 * P + q) / 7 = P := by omega
  have b0 : bhF w N (7 * P + q) 0 = 7 * P + q := by unfold bhF; rw [e1, if_neg (by omega), if_pos rfl]
  have b1 : bhF w N (7 * P + q) 1 = 7 * P + (q + 1) := by unfold bhF; rw [e1, e2, hw, if_neg (by omega), if_neg (by omega), if_pos rfl, if_pos hq.2]; omega
  have b2 : bhF w N (7 * P + q) 2 = -1 := by unfold bhF; rw [e1, e2, hw, if_neg (by omega), if_neg (by omega), if_neg (by omega), if_pos (Or.inr hq.2)]
  have b3 : bhF w N (7 * P + q) 3 = -1 := by unfold bhF; rw [e1, e2, hw, if_neg (by omega), if_neg (by omega), if_neg (by omega), if_pos (Or.inr hq.2)]
  refine ⟨⟨b0, b1⟩, ?_, ?_, ?_, ?_⟩
  · rw [b0, vl_in hU (by omega), OTB_s hP.1 (by omega) z4.2]
  · rw [b1, vl_in hU (by omega), OTB_s hP.1 (by omega) z4.2, show osn M r N P.toNat + (q + 1) = osn M r N P.toNat + q + 1 by omega]
  · rw [b2]; exact vl_no (Or.inl rfl)
  · rw [b3]; exact vl_no (Or.inl rfl)
theorem V_end (H : HX M fr kn n) (hr : RVx M r N) (hU : ∀ p : Int, 0 ≤ p → p < 7 * N → u (140 * (f + 1) + p).toNat = OTB M r N n t p (f + 1)) (hP : 0 ≤ P ∧ P = N - 1) (hq : 0 ≤ q ∧ q + 1 = zr M r N P) (hw : w P.toNat = zr M r N P) : bhF w N (7 * P + q) 0 = 7 * P + q ∧ vl u N f (bhF w N (7 * P + q) 0) = kA t n (osn M r N P.toNat + q) (f + 1) ∧ vl u N f (bhF w N (7 * P + q) 1) = 268435456 ∧ vl u N f (bhF w N (7 * P + q) 2) = 268435456 ∧ vl u N f (bhF w N (7 * P + q) 3) = 268435456 := by
  have z4 := zr_in H hr (p := P) hP.1 (by omega)
  have e1 : (7 * P + q) % 7 = q := by omega
  have e2 : (7 * P + q) / 7 = P := by omega
  have b0 : bhF w N (7 * P + q) 0 = 7 * P + q := by unfold bhF; rw [e1, if_neg (by omega), if_pos rfl]
  have b1 : bhF w N (7 * P + q) 1 = -1 := by unfold bhF; rw [e1, e2, hw, if_neg (by omega), if_neg (by omega), if_pos rfl, if_neg (by omega)]
  have b2 : bhF w N (7 * P + q) 2 = -1 := by unfold bhF; rw [e1, e2, hw, if_neg (by omega), if_neg (by omega), if_neg (by omega), if_pos (Or.inl hP.2)]
  have b3 : bhF w N (7 * P + q) 3 = -1 := by unfold bhF; rw [e1, e2, hw, if_neg (by omega), if_neg (by omega), if_neg (by omega), if_pos (Or.inl hP.2)]
  refine ⟨b0, ?_, ?_, ?_, ?_⟩
  · rw [b0, vl_in hU (by omega), OTB_s hP.1 (by omega) z4.2]
  · rw [b1]; exact vl_no (Or.inl rfl)
  · rw [b2]; exact vl_no (Or.inl rfl)
  · rw [b3]; exact vl_no (Or.inl rfl)
theorem V_last (H : HX M fr kn n) (hr : RVx M r N) (hU : ∀ p : Int, 0 ≤ p → p < 7 * N → u (140 * (f + 1) + p).toNat = OTB M r N n t p (f + 1)) (hP : 0 ≤ P ∧ P < N - 1) (hq : 0 ≤ q ∧ q + 1 = zr M r N P) (hw : w P.toNat = zr M r N P) : (bhF w N (7 * P + q) 0 = 7 * P + q ∧ bhF w N (7 * P + q) 2 = 7 * P + (4 + 0) ∧ bhF w N (7 * P + q) 3 = 7 * (P + 1) + 0) ∧ vl u N f (bhF w N (7 * P + q) 0) = kA t n (osn M r N P.toNat + q) (f + 1) ∧ vl u N f (bhF w N (7 * P + q) 1) = 268435456 ∧ vl u N f (bhF w N (7 * P + q) 2) = SLD t n (M 135 3) (osn M r N (P + 1).toNat) 0 (f + 1) ∧ vl u N f (bhF w N (7 * P + q) 3) = kA t n (osn M r N (P + 1).toNat) (f + 1) := by
  have z4 := zr_in H hr (p := P) hP.1 (by omega)
  have z5 := zr_in H hr (p := P + 1) (by omega) (by omega)
  have e1 : (7 * P + q) % 7 = q := by omega
  have e2 : (7 * P + q) / 7 = P := by omega
  have b0 : bhF w N (7 * P + q) 0 = 7 * P + q := by unfold bhF; rw [e1, if_neg (by omega), if_pos rfl]
  have b1 : bhF w N (7 * P + q) 1 = -1 := by unfold bhF; rw [e1, e2, hw, if_neg (by omega), if_neg (by omega), if_pos rfl, if_neg (by omega)]
  have b2 : bhF w N (7 * P + q) 2 = 7 * P + (4 + 0) := by unfold bhF; rw [e1, e2, hw, if_neg (by omega), if_neg (by omega), if_neg (by omega), if_neg (by omega), if_pos rfl]; omega
  have b3 : bhF w N (7 * P + q) 3 = 7 * (P + 1) + 0 := by unfold bhF; rw [e1, e2, hw, if_neg (by omega), if_neg (by omega), if_neg (by omega), if_neg (by omega), if_neg (by omega)]; omega
  refine ⟨⟨b0, b2, b3⟩, ?_, ?_, ?_, ?_⟩
  · rw [b0, vl_in hU (by omega), OTB_s hP.1 (by omega) z4.2]
  · rw [b1]; exact vl_no (Or.inl rfl)
  · rw [b2, vl_in hU (by omega), OTB_l hP (by omega)]
  · rw [b3, vl_in hU (by omega), OTB_s (by omega) (by omega) z5.2, show osn M r N (P + 1).toNat + 0 = osn M r N (P + 1).toNat by omega]
theorem V_sl (H : HX M fr kn n) (hr : RVx M r N) (hU : ∀ p : Int, 0 ≤ p → p < 7 * N → u (140 * (f + 1) + p).toNat = OTB M r N n t p (f + 1)) (hP : 0 ≤ P ∧ P < N - 1) (hj : 0 ≤ j ∧ j < 3) : (j < 2 → bhF w N (7 * P + (4 + j)) 0 = 7 * P + (4 + (j + 1))) ∧ bhF w N (7 * P + (4 + j)) 1 = 7 * (P + 1) + 0 ∧ vl u N f (bhF w N (7 * P + (4 + j)) 0) = (if j < 2 then SLD t n (M 135 3) (osn M r N (P + 1).toNat) (j + 1) (f + 1) else 268435456) ∧ vl u N f (bhF w N (7 * P + (4 + j)) 1) = kA t n (osn M r N (P + 1).toNat) (f + 1) ∧ vl u N f (bhF w N (7 * P + (4 + j)) 2) = 268435456 ∧ vl u N f (bhF w N (7 * P + (4 + j)) 3) = 268435456 := by
  have z5 := zr_in H hr (p := P + 1) (by omega) (by omega)
  have e1 : (7 * P + (4 + j)) % 7 = 4 + j := by omega
  have e2 : (7 * P + (4 + j)) / 7 = P := by omega
  have b0 : j < 2 → bhF w N (7 * P + (4 + j)) 0 = 7 * P + (4 + (j + 1)) := by intro c; unfold bhF; rw [e1, if_pos (by omega), if_pos (by omega)]; omega
  have b0' : ¬ j < 2 → bhF w N (7 * P + (4 + j)) 0 = -1 := by intro c; unfold bhF; rw [e1, if_pos (by omega), if_neg (by omega), if_neg (by omega)]
  have b1 : bhF w N (7 * P + (4 + j)) 1 = 7 * (P + 1) + 0 := by unfold bhF; rw [e1, e2, if_pos (by omega), if_neg (by omega), if_pos rfl]; omega
  have b2 : bhF w N (7 * P + (4 + j)) 2 = -1 := by unfold bhF; rw [e1, if_pos (by omega), if_neg (by omega), if_neg (by omega)]
  have b3 : bhF w N (7 * P + (4 + j)) 3 = -1 := by unfold bhF; rw [e1, if_pos (by omega), if_neg (by omega), if_neg (by omega)]
  refine ⟨b0, b1, ?_, ?_, ?_, ?_⟩
  · split
    · rename_i c; rw [b0 c, vl_in hU (by omega), OTB_l hP (by omega)]
    · rename_i c; rw [b0' c]; exact vl_no (Or.inl rfl)
  · rw [b1, vl_in hU (by omega), OTB_s (by omega) (by omega) z5.2, show osn M r N (P + 1).toNat + 0 = osn M r N (P + 1).toNat by omega]
  · rw [b2]; exact vl_no (Or.inl rfl)
  · rw [b3]; exact vl_no (Or.inl rfl)
theorem V_sn (hU : ∀ p : Int, 0 ≤ p → p < 7 * N → u (140 * (f + 1) + p).toNat = OTB M r N n t p (f + 1)) (hP : 0 ≤ P ∧ P = N - 1) (hj : 0 ≤ j ∧ j < 3) : vl u N f (bhF w N (7 * P + (4 + j)) 0) = 268435456 ∧ vl u N f (bhF w N (7 * P + (4 + j)) 1) = 268435456 ∧ vl u N f (bhF w N (7 * P + (4 + j)) 2) = 268435456 ∧ vl u N f (bhF w N (7 * P + (4 + j)) 3) = 268435456 := by
  have e1 : (7 * P + (4 + j)) % 7 = 4 + j := by omega
  have e2 : (7 * P + (4 + j)) / 7 = P := by omega
  have b0 : j < 2 → bhF w N (7 * P + (4 + j)) 0 = 7 * P + (4 + (j + 1)) := by intro c; unfold bhF; rw [e1, if_pos (by omega), if_pos (by omega)]; omega
  have b0' : ¬ j < 2 → bhF w N (7 * P + (4 + j)) 0 = -1 := by intro c; unfold bhF; rw [e1, if_pos (by omega), if_neg (by omega), if_neg (by omega)]
  have b1 : bhF w N (7 * P + (4 + j)) 1 = 7 * (P + 1) := by unfold bhF; rw [e1, e2, if_pos (by omega), if_neg (by omega), if_pos rfl]
  have b2 : bhF w N (7 * P + (4 + j)) 2 = -1 := by unfold bhF; rw [e1, if_pos (by omega), if_neg (by omega), if_neg (by omega)]
  have b3 : bhF w N (7 * P + (4 + j)) 3 = -1 := by unfold bhF; rw [e1, if_pos (by omega), if_neg (by omega), if_neg (by omega)]
  refine ⟨?_, ?_, ?_, ?_⟩
  · by_cases c : j < 2
    · rw [b0 c, vl_in hU (by omega), OTB_n hP (by omega)]
    · rw [b0' c]; exact vl_no (Or.inl rfl)
  · rw [b1]; exact vl_no (Or.inr (by omega))
  · rw [b2]; exact vl_no (Or.inl rfl)
  · rw [b3]; exact vl_no (Or.inl rfl)
end VS4
theorem SLD_0 {sl i : Int} : SLD t n sl i 0 f = min 268435456 (min (kA t n i (f + 1) + sl) (min (kA t n i (f + 2) + 2 * sl) (kA t n i (f + 3) + 3 * sl))) := if_pos rfl
theorem SLD_1 {sl i : Int} : SLD t n sl i 1 f = min 268435456 (min (kA t n i (f + 1) + sl) (kA t n i (f + 2) + 2 * sl)) := by
  unfold SLD; rw [if_neg (by omega), if_pos rfl]
theorem SLD_2 {sl i : Int} : SLD t n sl i 2 f = min 268435456 (kA t n i (f + 1) + sl) := by
  unfold SLD; rw [if_neg (by omega), if_neg (by omega)]
/-- what is weighed behind a place, all together -/
def tt4 (u w : Nat → Int) (N f p : Int) : Int := min (min (min (min 268435456 (vl u N f (bhF w N p 0))) (vl u N f (bhF w N p 1))) (vl u N f (bhF w N p 2))) (vl u N f (bhF w N p 3))
/-- what a row's table rests on -/
def TBB (M : MT) (fr kn n : Int) (r : Int → Int) (N : Int) (st pl nu t : Nat → Int) (z : Int) : Prop := HX M fr kn n ∧ RVx M r N ∧ LAID M r N st pl nu z ∧ REF pl st t (M 135) fr kn n z (M 135 3) (fun _ _ => True)
theorem TBB_b (h : TBB M fr kn n r N st pl nu t z) {i g : Int} (i0 : 0 ≤ i) (i1 : i < z) (g0 : 0 ≤ g) : kA t n i g = 268435456 ∨ (g < n ∧ 0 ≤ kA t n i g ∧ kA t n i g ≤ 64000) := by
  obtain ⟨H, hr, hl, hR⟩ := h
  have hn := H.2.2.2.2.2.2
  have := keys_bd H hR (fun i f i0 i1 _ _ => KF_in H.2.2.1 H.2.2.2.1 H.2.2.2.2.1 (LAID_ok H hr hl i0 i1)) 20 g (by omega) g0 i i0 i1
  omega
theorem TBB_r (h : TBB M fr kn n r N st pl nu t z) (hP : 0 ≤ P ∧ P < N) (hq : 0 ≤ q ∧ q < zr M r N P) (hf : 0 ≤ f ∧ f < n) : kA t n (osn M r N P.toNat + q) f = min 268435456 (krw M fr kn r N P f q + min (kA t n (osn M r N P.toNat + q) (f + 1)) (lvF pl t n z (M 135 3) (osn M r N P.toNat + q) (f + 1))) := by
  obtain ⟨H, hr, hl, hR⟩ := h
  have I := LAID_i H hr hl hP.1 hP.2 hq.1 hq.2
  rw [kA_in hf.2, (hR _ f I.1 hf trivial).1, LAID_k hl hP.1 hP.2 hq.1 hq.2]
/-- the ways on of a state: the class's and the reference's -/
theorem tt4_lv (h : TBB M fr kn n r N st pl nu t z) (hU : ∀ p : Int, 0 ≤ p → p < 7 * N → u (140 * (f + 1) + p).toNat = OTB M r N n t p (f + 1)) (hP : 0 ≤ P ∧ P < N) (hq : 0 ≤ q ∧ q < zr M r N P) (hw : w P.toNat = zr M r N P) (hf : 0 ≤ f ∧ f + 1 < n) : tt4 u w N f (7 * P + q) = min (kA t n (osn M r N P.toNat + q) (f + 1)) (lvF pl t n z (M 135 3) (osn M r N P.toNat + q) (f + 1)) := by
  obtain ⟨H, hr, hl, hR⟩ := id h
  have sl := H.1.2.2.2.1
  have I := LAID_i H hr hl hP.1 hP.2 hq.1 hq.2
  have k0 := TBB_b h I.1.1 I.1.2 (g := f + 1) (by omega)
  unfold tt4
  by_cases c : q + 1 < zr M r N P
  · obtain ⟨_, v0, v1, v2, v3⟩ := V_in (w := w) H hr hU hP ⟨hq.1, c⟩ hw
    rw [v0, v1, v2, v3]
    have ne : ¬ osn M r N P.toNat + q = z - 1 := fun y => by have := (I.2.1.mp y).2; omega
    unfold lvF
    rw [if_neg ne, if_pos ((I.2.2.1 ne).mpr (by omega))]
    omega
  · by_cases c2 : P = N - 1
    · obtain ⟨_, v0, v1, v2, v3⟩ := V_end (w := w) H hr hU ⟨hP.1, c2⟩ (q := q) (by omega) hw
      rw [v0, v1, v2, v3]
      unfold lvF
      rw [if_pos (I.2.1.mpr ⟨c2, by omega⟩), if_neg (by omega)]
      omega
    · obtain ⟨_, v0, v1, v2, v3⟩ := V_last (w := w) H hr hU (P := P) (by omega) (q := q) (by omega) hw
      rw [v0, v1, v2, v3]
      have ne : ¬ osn M r N P.toNat + q = z - 1 := fun y => c2 (I.2.1.mp y).1
      have np : ¬ pl (osn M r N P.toNat + q + 1).toNat = pl (osn M r N P.toNat + q).toNat := fun y => by have := (I.2.2.1 ne).mp y; omega
      unfold lvF
      rw [if_neg ne, if_neg np, I.2.2.2 (by omega)]
      unfold SLD
      rw [if_pos rfl]
      omega
theorem tt4_sl (h : TBB M fr kn n r N st pl nu t z) (hU : ∀ p : Int, 0 ≤ p → p < 7 * N → u (140 * (f + 1) + p).toNat = OTB M r N n t p (f + 1)) (hP : 0 ≤ P ∧ P < N) (hj : 0 ≤ j ∧ j < 3) (hf : 0 ≤ f ∧ f + 1 < n) : OTB M r N n t (7 * P + (4 + j)) f = if tt4 u w N f (7 * P + (4 + j)) < 268435456 then tt4 u w N f (7 * P + (4 + j)) + M 135 3 else 268435456 := by
  obtain ⟨H, hr, hl, hR⟩ := id h
  have sl := H.1.2.2.2.1
  unfold tt4
  by_cases c2 : P = N - 1
  · obtain ⟨v0, v1, v2, v3⟩ := V_sn (w := w) hU ⟨hP.1, c2⟩ hj
    rw [v0, v1, v2, v3, OTB_n ⟨hP.1, c2⟩ hj]
    split <;> omega
  · obtain ⟨_, _, v0, v1, v2, v3⟩ := V_sl (w := w) H hr hU (P := P) (by omega) hj
    rw [v1, v2, v3, OTB_l (by omega) hj]
    have z5 := zr_in H hr (p := P + 1) (by omega) (by omega)
    have I := LAID_i H hr hl (p := P + 1) (s := 0) (by omega) (by omega) (by omega) (by omega)
    rw [show osn M r N (P + 1).toNat + 0 = osn M r N (P + 1).toNat by omega] at I
    have b1 := TBB_b h I.1.1 I.1.2 (g := f + 1) (by omega)
    have b2 := TBB_b h I.1.1 I.1.2 (g := f + 2) (by omega)
    have b3 := TBB_b h I.1.1 I.1.2 (g := f + 3) (by omega)
    have g1 : f + 1 + 1 = f + 2 := by omega
    have g2 : f + 1 + 2 = f + 3 := by omega
    have : j = 0 ∨ j = 1 ∨ j = 2 := by omega
    rcases this with rfl | rfl | rfl
    · have w0 : vl u N f (bhF w N (7 * P + (4 + 0)) 0) = SLD t n (M 135 3) (osn M r N (P + 1).toNat) 1 (f + 1) := by rw [v0, if_pos (by omega)]; rfl
      rw [w0, SLD_0, SLD_1, g1, g2]
      split <;> omega
    · have w0 : vl u N f (bhF w N (7 * P + (4 + 1)) 0) = SLD t n (M 135 3) (osn M r N (P + 1).toNat) 2 (f + 1) := by rw [v0, if_pos (by omega)]; rfl
      rw [w0, SLD_1, SLD_2, g1]
      split <;> omega
    · have w0 : vl u N f (bhF w N (7 * P + (4 + 2)) 0) = 268435456 := by rw [v0, if_neg (by omega)]
      rw [w0, SLD_2]
      split <;> omega
/-- the last frame -/
theorem OTB_z (h : TBB M fr kn n r N st pl nu t z) (hP : 0 ≤ P ∧ P < N) (hq : 0 ≤ q ∧ q < zr M r N P) : OTB M r N n t (7 * P + q) (n - 1) = if 7 * P + q = 7 * (N - 1) + zr M r N (N - 1) - 1 then krw M fr kn r N P (n - 1) q else 268435456 := by
  obtain ⟨H, hr, hl, hR⟩ := id h
  have hn := H.2.2.2.2.2.2
  have z4 := zr_in H hr hP.1 hP.2
  have sl := H.1.2.2.2.1
  have I := LAID_i H hr hl hP.1 hP.2 hq.1 hq.2
  have kb := krw_in H hr hP.1 hP.2 (f := n - 1) hq
  rw [OTB_s hP.1 hq z4.2, TBB_r h hP hq (by omega), kA_far (by omega)]
  unfold lvF
  by_cases c : P = N - 1 ∧ q = zr M r N P - 1
  · rw [if_pos (I.2.1.mpr c), if_pos (by omega)]
    rw [if_pos (by obtain ⟨rfl, c2⟩ := c; omega)]
    omega
  · have ne : ¬ osn M r N P.toNat + q = z - 1 := fun y => c (I.2.1.mp y)
    have c' : ¬ 7 * P + q = 7 * (N - 1) + zr M r N (N - 1) - 1 := by
      intro y
      have z6 := zr_in H hr (p := N - 1) (by have := hr.1; omega) (by omega)
      have : P = N - 1 := by omega
      subst this
      exact c ⟨rfl, by omega⟩
    rw [if_neg ne, if_neg c', kA_far (by omega), kA_far (by omega), kA_far (by omega), kA_far (by omega)]
    split <;> omega
theorem OTB_zl (h : TBB M fr kn n r N st pl nu t z) (hP : 0 ≤ P ∧ P < N) (hj : 0 ≤ j ∧ j < 3) : OTB M r N n t (7 * P + (4 + j)) (n - 1) = 268435456 := by
  have sl := h.1.1.2.2.2.1
  by_cases c2 : P = N - 1
  · exact OTB_n ⟨hP.1, c2⟩ hj
  · rw [OTB_l (by omega) hj]
    unfold SLD
    rw [kA_far (by omega), kA_far (by omega), kA_far (by omega)]
    (repeat' split) <;> omega
end LEADSB
