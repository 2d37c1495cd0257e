/-- a stretch of f laid over g -/
def cpy (f g : Nat → Int) (sp dp n : Nat) : Nat → Int := fun j => if dp ≤ j ∧ j < dp + n then f (sp + (j - dp)) else g j
section SC
variable {y d b pc : Nat} {L : List (Option AV)} {S : List AV} {M : Mem} {Q : Option AV → Mem → Prop}
theorem so_copy {idx h0 h1 n0 n1 : Nat} {sp dp n : Int} (hd : decode (m_bt y) pc = .ok (.invokestatic idx, 3)) (hm : (m_ow y, idx) ∈ acT) (hk0 : kd h0 = (0, n0)) (hk1 : kd h1 = (0, n1)) (hs0 : 0 ≤ sp) (hd0 : 0 ≤ dp) (hn0 : 0 ≤ n) (hs1 : sp + n ≤ n0) (hd1 : dp + n ≤ n1) (hcat : (S.map cg).sum ≤ 8) (hdd : 1 ≤ d)
    (hh : WP y d b (pc + 3) L S (sv M.1 h1 (cpy (M.1 h0) (M.1 h1) sp.toNat dp.toNat n.toNat), M.2.1, M.2.2) Q) : WP y d b pc L (vI n :: vI dp :: vR (some h1) :: vI sp :: vR (some h0) :: S) M Q := by
  intro X p l e R s m args below meth c H locs Qf ls na0 hC hM hS hL hW hl hn hR
  have hts := hC.2.2.2.2.2.1
  have hRf := hC.2.2.2.2.2.2.2.2.1
  have hRl := hC.2.2.2.2.2.2.2.2.2.1
  have hE := hC.2.2.2.2.2.2.2.2.2.2.2.2
  have hcs := cat_sum (X := X) hcat
  have in1 : ir n := okS_hd hS
  have id1 : ir dp := okS_hd2 hS
  have is1 : ir sp := okS_hd2 (okS_tl (okS_tl hS))
  have o1 := okS_hd2 (okS_tl hS)
  have o0 := okS_hd2 (okS_tl (okS_tl (okS_tl hS)))
  have lt1 : h1 < M.2.2 := ref_lt o1 (by simp [hk1])
  have lt0 : h0 < M.2.2 := ref_lt o0 (by simp [hk0])
  have h1172 : h1 < 172 := kd_lt (by simp [hk1])
  have h0172 : h0 < 172 := kd_lt (by simp [hk0])
  have hc0 := arr_at hW lt0 hk0 (by decide)
  have hc1 := arr_at hW lt1 hk1 (by decide)
  have v0 : (fun j => rv X (ctv M h0 j)) = (fun j => Value.int (i3 (M.1 h0 j))) := funext fun j => by unfold ctv; rw [ctc_arr hk0 (by decide)]; rfl
  have v1 : (fun j => rv X (ctv M h1 j)) = (fun j => Value.int (i3 (M.1 h1 j))) := funext fun j => by unfold ctv; rw [ctc_arr hk1 (by decide)]; rfl
  rw [v0] at hc0
  rw [v1] at hc1
  have cls := i3_clamp is1
  have cld := i3_clamp id1
  have cln := i3_clamp in1
  have hnw : nativeFrameWords "java/lang/System" "arraycopy" 5 + 11 ≤ 40 := by decide +kernel
  intro T hT Xs
  obtain ⟨-, k0, hkk0, cm0, hkk0'⟩ := (hE.1.2 0 _ rfl).1 n0 (fun j => .int (i3 (M.1 h0 j)))
  obtain ⟨-, k1, hkk1, cm1, hkk1'⟩ := (hE.1.2 0 _ rfl).1 n1 (fun j => .int (i3 (M.1 h1 j)))
  obtain ⟨vm', X', step⟩ := Xs.arraycopy hC.1 hC.2.2.2.2.1 (hts _ (acT_ok _ hm)) (hts _ ac_nat) (hts _ ac_stat) (hts _ ac_ini) (src := X.1.size + h0) (dst := X.1.size + h1) (cs := arrV (X.2.2.2.1 0) n0 (fun j => .int (i3 (M.1 h0 j)))) (cd := arrV (X.2.2.2.1 0) n1 (fun j => .int (i3 (M.1 h1 j)))) (srcPos := i3 sp) (destPos := i3 dp) (n := i3 n) (by rw [hT]; exact hc0) (by rw [hT]; exact hc1)
    (fun _ h => by cases h) (fun _ h => by cases h) (fun h => by cases h) (fun h => by cases h) hkk0 hkk1 hkk0' hkk1' (by simp [refKind]) (by rw [← i3_0, i3_lti is1 ir0]; omega) (by rw [← i3_0, i3_lti id1 ir0]; omega) (by rw [← i3_0, i3_lti in1 ir0]; omega)
    (by rw [i3_val is1, i3_val in1, arrV_size]; omega) (by rw [i3_val id1, i3_val in1, arrV_size]; omega)
    (fun vm₁ _ i hi => by
      have e : (arrV (X.2.2.2.1 0) n0 (fun j => Value.int (i3 (M.1 h0 j)))).slots.getD ((i3 sp).toNatClampNeg + i) .null = .int (i3 (M.1 h0 ((i3 sp).toNatClampNeg + i))) := by
        rw [Array.getD_eq_getD_getElem?, arrV_read _ _ (by rw [cls]; rw [cln] at hi; omega)]
        rfl
      refine ⟨?_, ?_⟩
      · rw [e]; rfl
      · rw [e]; exact trivial)
    (g := F0 m pc ls ((vI n :: vI dp :: vR (some h1) :: vI sp :: vR (some h0) :: S).map (rv X))) rfl (hL.2.2.choose_spec.1.1.trans hC.2.2.2.1.symm) (rest := S.map (rv X)) (by simp only [List.map_cons, rv]; rw [ad_lt h1172, ad_lt h0172]) (by rw [hC.2.1]; exact hd) (by omega) (by show 2 * 0 + _ + _ ≤ _; omega)
  have e1 : copied (arrV (X.2.2.2.1 0) n0 (fun j => Value.int (i3 (M.1 h0 j)))) (arrV (X.2.2.2.1 0) n1 (fun j => Value.int (i3 (M.1 h1 j)))) (i3 sp) (i3 dp) (i3 n) = arrV (X.2.2.2.1 0) n1 (fun j => Value.int (i3 (cpy (M.1 h0) (M.1 h1) sp.toNat dp.toNat n.toNat j))) := by
    have := va_copied (fun z : Int32 => Value.int z) (X.2.2.2.1 0) (X.2.2.2.1 0) (n0 := n0) (n1 := n1) (sp := (i3 sp).toNatClampNeg) (dp := (i3 dp).toNatClampNeg) (n := (i3 n).toNatClampNeg) (fun j => i3 (M.1 h0 j)) (fun j => i3 (M.1 h1 j)) (by rw [cls, cln]; omega)
    refine Eq.trans this ?_
    congr 1
    funext j
    simp only [va_cpy, cpy, cls, cld, cln]
    split <;> rfl
  rw [e1] at X' step
  have hlt : X.1.size + h1 < H.size := (Array.getElem?_eq_some_iff.mp hc1).1
  generalize hnew : (cpy (M.1 h0) (M.1 h1) sp.toNat dp.toNat n.toNat) = nr at *
  have hheap : ((T.setVm vm').setCell (X.1.size + h1) (arrV (X.2.2.2.1 0) n1 (fun j => Value.int (i3 (nr j))))).heap = H.setIfInBounds (X.1.size + h1) (arrV (X.2.2.2.1 0) n1 (fun j => Value.int (i3 (nr j)))) := by rw [← hT]; rfl
  have hct : ∀ j, ctv (sv M.1 h1 nr, M.2.1, M.2.2) h1 j = vI (nr j) := fun j => by unfold ctv; rw [ctc_arr hk1 (by decide)]; simp [fcv, sv]
  have hcn : ∀ k j, k ≠ h1 → ctv (sv M.1 h1 nr, M.2.1, M.2.2) k j = ctv M k j := fun k j hk => by simp [ctv, fcv, sv, hk]
  have hir : ∀ j, ir (nr j) := fun j => by
    rw [← hnew]
    unfold cpy
    have g0 : ∀ j, ir (M.1 h0 j) := fun j => by
      have := hM.1 h0 j lt0
      unfold ctv at this
      rw [ctc_arr hk0 (by decide)] at this
      exact this
    have g1 : ∀ j, ir (M.1 h1 j) := fun j => by
      have := hM.1 h1 j lt1
      unfold ctv at this
      rw [ctc_arr hk1 (by decide)] at this
      exact this
    split
    · exact g0 _
    · exact g1 _
  have hM' : okM X (sv M.1 h1 nr, M.2.1, M.2.2) := by
    obtain ⟨m1, m2, m3, m4, m5⟩ := hM
    refine ⟨fun k j hk => ?_, fun k j hk hk2 => ?_, m3, ?_, fun j => ?_⟩
    · by_cases hkh : k = h1
      · subst hkh; rw [hct]; exact hir j
      · rw [hcn k j hkh]; exact m1 k j hk
    · have hne : k ≠ h1 := by have : M.2.2 ≤ k := hk; omega
      simpa [sv, hne] using m2 k j hk hk2
    · have hne : (1000 : Nat) ≠ h1 := by omega
      simpa [sv, hne] using m4
    · have hne : (1000 : Nat) ≠ h1 := by omega
      simpa [sv, hne] using m5 j
  have hWd : Wd X (sv M.1 h1 nr, M.2.1, M.2.2) (H.setIfInBounds (X.1.size + h1) (arrV (X.2.2.2.1 0) n1 (fun j => Value.int (i3 (nr j))))) := by
    refine Wd_put (h := h1) hW rfl hcn (by simp) (fun q hq => by simp [Array.getElem?_setIfInBounds, Ne.symm hq]) ⟨fun h5 => by simp [hk1] at h5, fun _ => ?_⟩
    rw [hk1]
    simp only [hct]
    simp [Array.getElem?_setIfInBounds, hlt, rv]
  obtain ⟨t, a1, b1⟩ := hh X p l e R s m args below meth c _ (locs ++ _) Qf ls na0 hC hM' (okS_tl (okS_tl (okS_tl (okS_tl (okS_tl hS))))) hL hWd (fun q hq => by
    rcases List.mem_append.mp hq with h | h
    · exact hl q h
    · obtain ⟨z, -, hz⟩ := List.mem_map.mp h
      rw [← hz]
      show X.1.size ≤ X.1.size + h1
      omega) hn hR _ hheap X'
  exact ⟨t, step t a1, b1⟩
end SC
