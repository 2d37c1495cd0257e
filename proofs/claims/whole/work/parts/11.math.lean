section SM
variable {y d b pc : Nat} {L : List (Option AV)} {S : List AV} {M : Mem} {Q : Option AV → Mem → Prop}
theorem so_min {idx : Nat} {x z : Int} (hd : decode (m_bt y) pc = .ok (.invokestatic idx, 3)) (hm : (m_ow y, idx) ∈ mminT) (hcat : (S.map cg).sum ≤ 8) (hdd : 1 ≤ d) (hh : WP y d b (pc + 3) L (vI (if z < x then z else x) :: S) M Q) : WP y d b pc L (vI z :: vI x :: S) M Q := by
  intro X p l e R s m args below meth c H locs Qf ls na0 hC hM hS hL hW hl hn hR
  have hts := hC.2.2.2.2.2.1
  have hRf := hC.2.2.2.2.2.2.2.2.1
  have hRl := hC.2.2.2.2.2.2.2.2.2.1
  have hRc := hC.2.2.2.2.2.2.2.2.2.2.1
  have hRs := hC.2.2.2.2.2.2.2.2.2.2.2.1
  have hmb := nsu_mono hn.2
  have hcs := cat_sum (X := X) hcat
  have hz : ir z := okS_hd hS
  have hx : ir x := okS_hd2 hS
  refine va_mmin (rest := S.map (rv X)) (x := i3 x) (y := i3 z) hC.1 hC.2.1 (hC.2.2.2.1.trans hL.2.2.choose_spec.1.1.symm) hC.2.2.2.2.1 (hts _ (mminT_ok _ hm)) (hts _ mmin_stat) (hts _ math_ini) (hts _ mmin_code) (by omega) (by omega) (by omega) (by omega) hd ?_
  have he : (if i3 z < i3 x then i3 z else i3 x) = i3 (if z < x then z else x) := by
    by_cases h : z < x
    · rw [if_pos h, if_pos ((i3_lti hz hx).mpr h)]
    · rw [if_neg h, if_neg (fun q => h ((i3_lti hz hx).mp q))]
  rw [he]
  exact hh X p l e R s m args below meth c H locs Qf ls na0 hC hM (okS_cons (v := vI (if z < x then z else x)) (by show ir _; split <;> assumption) (okS_tl (okS_tl hS))) hL hW hl hn hR
theorem so_abs {idx : Nat} {x : Int} (hd : decode (m_bt y) pc = .ok (.invokestatic idx, 3)) (hm : (m_ow y, idx) ∈ mabsT) (hcat : (S.map cg).sum ≤ 8) (hdd : 1 ≤ d) (hh : WP y d b (pc + 3) L (vI (if 0 ≤ x then x else wr (-x)) :: S) M Q) : WP y d b pc L (vI x :: S) M Q := by
  intro X p l e R s m args below meth c H locs Qf ls na0 hC hM hS hL hW hl hn hR
  have hts := hC.2.2.2.2.2.1
  have hRf := hC.2.2.2.2.2.2.2.2.1
  have hRl := hC.2.2.2.2.2.2.2.2.2.1
  have hRc := hC.2.2.2.2.2.2.2.2.2.2.1
  have hRs := hC.2.2.2.2.2.2.2.2.2.2.2.1
  have hmb := nsu_mono hn.2
  have hcs := cat_sum (X := X) hcat
  have hx : ir x := okS_hd hS
  refine va_mabs (rest := S.map (rv X)) (x := i3 x) hC.1 hC.2.1 (hC.2.2.2.1.trans hL.2.2.choose_spec.1.1.symm) hC.2.2.2.2.1 (hts _ (mabsT_ok _ hm)) (hts _ mabs_stat) (hts _ math_ini) (hts _ mabs_code) (by omega) (by omega) (by omega) (by omega) hd ?_
  have he : (if 0 ≤ i3 x then i3 x else 0 - i3 x) = i3 (if 0 ≤ x then x else wr (-x)) := by
    have g : (0 : Int32) ≤ i3 x ↔ 0 ≤ x := i3_lei ir0 hx
    by_cases h : 0 ≤ x
    · rw [if_pos h, if_pos (g.mpr h)]
    · rw [if_neg h, if_neg (fun q => h (g.mp q)), ← i3_0, i3_sub]
      congr 2
      omega
  rw [he]
  exact hh X p l e R s m args below meth c H locs Qf ls na0 hC hM (okS_cons (v := vI (if 0 ≤ x then x else wr (-x))) (by show ir _; split <;> first | assumption | exact ir_wr _) (okS_tl hS)) hL hW hl hn hR
end SM
