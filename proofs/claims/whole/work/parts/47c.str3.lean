section STRC
variable {y d b pc : Nat} {L : List (Option AV)} {S : List AV} {M : Mem} {Q : Option AV → Mem → Prop}
theorem mk_292 : MLok (14, 1059, 292, 1) := ⟨⟨(mem_3 64 (by decide +kernel) rfl), (mem_1 17 (by decide +kernel) rfl), ⟨by decide +kernel, by decide +kernel⟩, by decide +kernel, by decide +kernel, by decide +kernel⟩, fun h => absurd h (by decide), fun _ => ⟨(mem_3 62 (by decide +kernel) rfl), (mem_3 63 (by decide +kernel) rfl)⟩, fun h => absurd h (by decide), fun h => absurd h (by decide), fun h => absurd h (by decide)⟩
theorem sn_fmt {i n : Int} (h0 : 0 ≤ i) (h1 : i < n) (hdd : 1 ≤ d) (hcat : (S.map cg).sum ≤ 8) (hh : WPn 285 d b 9 L S M Q) : WPn 285 d b 2 L (vI n :: vI i :: S) M Q := by
  intro X p l e R s m args below meth c H locs Qf ls na0 hC hM hS hL hW hl hn hR
  have hE := hC.2.2.2.2.2.2.2.2.2.2.2.2
  have hts := hC.2.2.2.2.2.1
  have ho2 := hC.2.2.2.2.1
  obtain ⟨v, hv, cf, kf, fi, f, a, cell, g1, g2, g3, g4, g5, g6, g7, g8⟩ := hE.2.2.2.2.2.2.2
  refine W.gets (g := F0 m 2 ls ((vI n :: vI i :: S).map (rv X))) (v := v) hC.1 hC.2.1 (by rw [show clN (m_ow 285) = "java/lang/String" by decide +kernel] at ho2; exact ho2) (hts (Cond.fieldLink "java/lang/String" 1053 "jdk/internal/util/Preconditions" "SIOOBE_FORMATTER" "Ljava/util/function/BiFunction;") (mem_3 60 (by decide +kernel) rfl)) g1 g2 g3 g4 (ext_at hW g5) (fun e => by rw [e] at g6; cases g6) g7 rfl (show decode (m_bt 285) 2 = .ok (.getstatic 1053, 3) by decide +kernel) ?_
  have ML := mk_292
  obtain ⟨k1, k2⟩ := ML.2.2.1 rfl
  have CA : CAL 292 := ML.1
  obtain ⟨c1, c2, c3, c4, c5, c6⟩ := CA
  have hRf := hC.2.2.2.2.2.2.2.2.1
  have hRl := hC.2.2.2.2.2.2.2.2.2.1
  have hml3 : m_ml 292 = 3 := by decide +kernel
  refine run_step (S := S) (X := X) (b' := M.2.2) (Q' := fun r M' => r = some (vI i) ∧ M' = M) (va_runS (y := m_nm 292) (rm := rmY 292 (d - 1)) (As := [.int (i3 i), .int (i3 n), v]) (rest := S.map (rv X)) (nL := m_ml 285) ⟨hC.1, hC.2.1, hC.2.2.2.1, hC.2.2.2.2.1, hts⟩ (k_pre (X := X) (l := l) (b := M.2.2) (d := d - 1) (M := M) h0 h1 ⟨rfl, rfl⟩) (va_cwS 3 hts (wds_good (fun w hw => ?_)) (show wsY 292 = Cond.code (m_nm 292) (m_bt 292) (m_ml 292) (m_rt 292) :: Wds from rfl) rfl rfl ⟨c3.1, c3.2, c4⟩ ⟨?_, ?_⟩) ⟨pc_b2 X M.2.2 i n M, fun U hU hWm => ⟨⟨v, hv, rfl⟩, hE.warm hWm, hM, ⟨okS_hd2 hS, okS_hd hS⟩, by rw [hU]; exact hW, rfl⟩⟩ rfl rfl ?_ ?_ (lv_room (cat_sum hcat)) (show decode (m_bt 285) 5 = .ok (.invokestatic 1059, 3) by decide +kernel) ⟨?_, ?_⟩) hl (fun r M' H' locs' hq hM' hok hW' hl' hb' => ?_)
  · unfold va_wsS at hw
    rcases List.mem_append.mp hw with h1 | h1
    · simp only [List.mem_cons, List.not_mem_nil, or_false] at h1
      rcases h1 with rfl | rfl | rfl
      · exact k1
      · exact k2
      · exact c2
    · rcases List.mem_cons.mp h1 with rfl | h2
      · exact c1
      · exact h2
  · show d - 1 + 1 ≤ _; omega
  · show 8 + (m_ml 292 + 11) + 64 * (d - 1) ≤ _; omega
  · exact hL.2.2.choose_spec.1.1
  · rfl
  · exact Nat.le_trans (by show M.2.2 - na0 + 0 ≤ b - na0; omega) hC.2.2.2.2.2.2.2.2.2.2.1
  · have := nsu_mono hn.2
    exact Nat.le_trans (by show nsu M.2.2 - nsu na0 + 0 ≤ nsu b - nsu na0; omega) hC.2.2.2.2.2.2.2.2.2.2.2.1
  · obtain ⟨rfl, rfl⟩ := hq
    exact lv_pop hC.1 hC.2.1 (show decode (m_bt 285) 8 = .ok (.pop, 1) by decide +kernel) rfl (hh X p l e R s m args below meth c H' locs' Qf ls na0 hC hM' (okS_tl (okS_tl hS)) hL hW' hl' hn hR)
theorem k_check {i n : Int} (h0 : 0 ≤ i) (h1 : i < n) (hd : 1 ≤ d) (hb : M.2.2 = b) (h : Q none M) : WPc 285 d b [vI i, vI n] M Q := by
  refine WPc_ofn [some (vI i), some (vI n)] (by decide +kernel) (by decide +kernel) (Nat.le_of_ble_eq_true rfl) rfl ?_
  refine sn_iload_n (k := 0) (by decide +kernel) rfl ?_
  refine sn_iload_n (k := 1) (by decide +kernel) rfl ?_
  refine sn_fmt h0 h1 hd (Nat.zero_le _) ?_
  exact sn_return (by decide +kernel) (by decide +kernel) hb h
theorem k_chr1 {i : Nat} {j : Int} (hi : i < 14) (h0 : 0 ≤ j) (h1 : j < sln i) (hd : 2 ≤ d) (hb : M.2.2 = b) (h : Q (some (vI (sby i j.toNat))) M) : WPc 286 d b [vR (some (1040 + i)), vI j] M Q := by
  have l6 := (sln_i i hi).2.1
  have B := sby_i i hi j.toNat (by omega)
  refine WPc_ofn [some (vR (some (1040 + i))), some (vI j)] (by decide +kernel) (by decide +kernel) (Nat.le_of_ble_eq_true rfl) rfl ?_
  refine sn_iload_n (k := 1) (by decide +kernel) rfl ?_
  refine sn_aload_n (k := 0) (by decide +kernel) rfl ?_
  refine sn_aln hi (by decide +kernel) ?_
  refine sn_callS (as := [vI j, vI (sln i : Int)]) (S := []) (y' := 285) (d' := d - 1) (b' := M.2.2) (idx := 9) (by decide +kernel) mk_285 (by show 2 = m_na 285; decide +kernel) (Nat.zero_le _) (by decide +kernel) (by omega) (by rw [(by decide +kernel : m_mc 285 = 0)]; rfl) (by omega) (by rw [(by decide +kernel : m_ms 285 = 0)]; rfl) ?_
  refine k_check h0 h1 (by omega) rfl ?_
  refine sn_aload_n (k := 0) (by decide +kernel) rfl ?_
  refine sn_iload_n (k := 1) (by decide +kernel) rfl ?_
  refine sn_bld hi h0 h1 (by decide +kernel) ?_
  refine sn_sipush (n := 255) (by decide +kernel) (by unfold ir; omega) rfl ?_
  refine sn_iand (by decide +kernel) ?_
  rw [B.2.2.1]
  refine sn_i2c hi (by omega) (by decide +kernel) ?_
  exact sn_iretn (by decide +kernel) (Or.inr ⟨by decide +kernel, B.2.2.2.2⟩) hb h
theorem k_charAt {i : Nat} {j : Int} (hi : i < 14) (h0 : 0 ≤ j) (h1 : j < sln i) (hd : 3 ≤ d) (hb : M.2.2 = b) (h : Q (some (vI (sby i j.toNat))) M) : WPc 282 d b [vR (some (1010 + i)), vI j] M Q := by
  have l6 := (sln_i i hi).2.1
  have B := sby_i i hi j.toNat (by omega)
  refine WPc_ofn [some (vR (some (1010 + i))), some (vI j)] (by decide +kernel) (by decide +kernel) (Nat.le_of_ble_eq_true rfl) rfl ?_
  refine sn_aload_n (k := 0) (by decide +kernel) rfl ?_
  refine sn_callT (as := []) (S := []) (y' := 284) (d' := d - 1) (b' := M.2.2) (idx := 492) (by decide +kernel) mk_284 hi (by decide +kernel) (by decide +kernel) (Nat.zero_le _) (by decide +kernel) (by omega) (by rw [(by decide +kernel : m_mc 284 = 0)]; rfl) (by omega) (by rw [(by decide +kernel : m_ms 284 = 0)]; rfl) ?_
  refine k_latin hi rfl ?_
  refine sn_if (tgt := 16) (by decide +kernel : decode (m_bt 282) 4 = .ok (.ifCond .eq 12, 3)) rfl (fun q => absurd q (show ¬ (1 : Int) = 0 by decide)) (fun _ => ?_)
  refine sn_aload_n (k := 0) (by decide +kernel) rfl ?_
  refine sn_gva hi (by decide +kernel) (by decide +kernel) ?_
  refine sn_iload_n (k := 1) (by decide +kernel) rfl ?_
  refine sn_callS (as := [vR (some (1040 + i)), vI j]) (S := []) (y' := 286) (d' := d - 1) (b' := M.2.2) (idx := 495) (by decide +kernel) mk_286 (by show 2 = m_na 286; decide +kernel) (Nat.zero_le _) (by decide +kernel) (by omega) (by rw [(by decide +kernel : m_mc 286 = 0)]; rfl) (by omega) (by rw [(by decide +kernel : m_ms 286 = 0)]; rfl) ?_
  refine k_chr1 hi h0 h1 (by omega) rfl ?_
  exact sn_iretn (by decide +kernel) (Or.inr ⟨by decide +kernel, B.2.2.2.2⟩) hb h
end STRC
