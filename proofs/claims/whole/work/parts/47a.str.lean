section STR
/-- as WP, for methods that give back bytes or chars too -/
def rtn (y : Nat) (r : Option AV) (i : Instr) : Prop := rti y r i ∨ (i = .ireturn ∧ ∃ z : Int, r = some (vI z) ∧ ((m_rt y = some .byte ∧ z = 0) ∨ (m_rt y = some .char ∧ narrow .char (.int (i3 z)) = .int (i3 z))))
def Rtn (X : Cx) (y b : Nat) (p : Program) (l : Launch) (e : Env) (R : Room) (s : State) (m : MethodId) (args : Array Value) (below : List Frame) (meth : Method) (c : Code) (Qf : State → Prop) (na0 : Nat) (Q : Option AV → Mem → Prop) : Prop :=
  ∀ (r : Option AV) (M : Mem) (H : Heap) (locs : List Loc) (pc : Nat) (ls : Array Slot) (i : Instr), Q r M → okM X M → okr M.2.2 r → Wd X M H → (∀ q ∈ locs, X.1.size ≤ q.base) → M.2.2 = b → rtn y r i → decode (m_bt y) pc = .ok (i, 1) →
    W p l e R s m args below meth c H locs (b - na0) (nsu b - nsu na0) Qf (F0 m pc ls (r.toList.map (rv X)))
def WPn (y d b pc : Nat) (L : List (Option AV)) (S : List AV) (M : Mem) (Q : Option AV → Mem → Prop) : Prop :=
  ∀ (X : Cx) (p : Program) (l : Launch) (e : Env) (R : Room) (s : State) (m : MethodId) (args : Array Value) (below : List Frame) (meth : Method) (c : Code) (H : Heap) (locs : List Loc) (Qf : State → Prop) (ls : Array Slot) (na0 : Nat),
    Cn X y d b p R s m args meth c na0 → okM X M → okS M.2.2 S → okL X L M.2.2 ls (m_ml y) → Wd X M H → (∀ q ∈ locs, X.1.size ≤ q.base) → na0 ≤ M.2.2 ∧ M.2.2 ≤ b →
    Rtn X y b p l e R s m args below meth c Qf na0 Q →
    W p l e R s m args below meth c H locs (M.2.2 - na0) (nsu M.2.2 - nsu na0) Qf (F0 m pc ls (S.map (rv X)))
variable {y d b pc : Nat} {L : List (Option AV)} {S : List AV} {M : Mem} {Q : Option AV → Mem → Prop}
theorem sn_iconst {n : Int} (hd : decode (m_bt y) pc = .ok (.iconst n, 1)) (hn0 : ir n) (h : WPn y d b (pc + 1) L (vI n :: S) M Q) : WPn y d b pc L S M Q := by
  intro X p l e R s m args below meth c H locs Qf ls na0 hC hM hS hL hW hl hn hR
  exact lv_iconst hC.1 hC.2.1 hd rfl (h X p l e R s m args below meth c H locs Qf ls na0 hC hM (okS_cons (v := vI n) hn0 hS) hL hW hl hn hR)
theorem sn_sipush {n : Int} (hd : decode (m_bt y) pc = .ok (.sipush n, 3)) (hn0 : ir n) (he : (Int16.ofInt n).toInt32 = i3 n) (h : WPn y d b (pc + 3) L (vI n :: S) M Q) : WPn y d b pc L S M Q := by
  intro X p l e R s m args below meth c H locs Qf ls na0 hC hM hS hL hW hl hn hR
  exact lv_sipush hC.1 hC.2.1 hd he (h X p l e R s m args below meth c H locs Qf ls na0 hC hM (okS_cons (v := vI n) hn0 hS) hL hW hl hn hR)
theorem sn_iload_n {k : Fin 4} {x : Int} (hd : decode (m_bt y) pc = .ok (.iload_n k, 1)) (hg : gL L k.val = some (vI x)) (h : WPn y d b (pc + 1) L (vI x :: S) M Q) : WPn y d b pc L S M Q := by
  intro X p l e R s m args below meth c H locs Qf ls na0 hC hM hS hL hW hl hn hR
  exact lv_iload_n hC.1 hC.2.1 hd rfl (okL_at hL hg) (h X p l e R s m args below meth c H locs Qf ls na0 hC hM (okS_cons (okL_ok hL hg) hS) hL hW hl hn hR)
theorem sn_aload_n {k : Fin 4} {x : Nat} (hd : decode (m_bt y) pc = .ok (.aload_n k, 1)) (hg : gL L k.val = some (vR (some x))) (h : WPn y d b (pc + 1) L (vR (some x) :: S) M Q) : WPn y d b pc L S M Q := by
  intro X p l e R s m args below meth c H locs Qf ls na0 hC hM hS hL hW hl hn hR
  exact lv_aload_n hC.1 hC.2.1 hd rfl (okL_at hL hg) (h X p l e R s m args below meth c H locs Qf ls na0 hC hM (okS_cons (okL_ok hL hg) hS) hL hW hl hn hR)
theorem sn_iand {x z : Int} (hd : decode (m_bt y) pc = .ok (.iand, 1)) (h : WPn y d b (pc + 1) L (vI (bAnd x z) :: S) M Q) : WPn y d b pc L (vI z :: vI x :: S) M Q := by
  intro X p l e R s m args below meth c H locs Qf ls na0 hC hM hS hL hW hl hn hR
  refine lv_iand hC.1 hC.2.1 hd ?_
  have hk := (h X p l e R s m args below meth c H locs Qf ls na0 hC hM (okS_cons (v := vI (bAnd x z)) (ir_toInt _) (okS_tl (okS_tl hS))) hL hW hl hn hR)
  simp only [List.map_cons, rv, bAnd, ← i3_of] at hk
  exact hk
theorem sn_ishr {x z : Int} (hd : decode (m_bt y) pc = .ok (.ishr, 1)) (h : WPn y d b (pc + 1) L (vI (iShr x z) :: S) M Q) : WPn y d b pc L (vI z :: vI x :: S) M Q := by
  intro X p l e R s m args below meth c H locs Qf ls na0 hC hM hS hL hW hl hn hR
  refine lv_ishr hC.1 hC.2.1 hd ?_
  have hk := (h X p l e R s m args below meth c H locs Qf ls na0 hC hM (okS_cons (v := vI (iShr x z)) (ir_toInt _) (okS_tl (okS_tl hS))) hL hW hl hn hR)
  simp only [List.map_cons, rv, iShr, ← i3_of] at hk
  exact hk
theorem sn_pop {v : AV} (hd : decode (m_bt y) pc = .ok (.pop, 1)) (hv : cg v = 1) (h : WPn y d b (pc + 1) L S M Q) : WPn y d b pc L (v :: S) M Q := by
  intro X p l e R s m args below meth c H locs Qf ls na0 hC hM hS hL hW hl hn hR
  exact lv_pop hC.1 hC.2.1 hd (by rw [cg_rv]; exact hv) (h X p l e R s m args below meth c H locs Qf ls na0 hC hM (okS_tl hS) hL hW hl hn hR)
theorem sn_if {cn : ClassFile.Cond} {off x : Int} {tgt : Nat} (hd : decode (m_bt y) pc = .ok (.ifCond cn off, 3)) (ht : (pc : Int) + off = (tgt : Int)) (h1 : cnd cn x 0 → WPn y d b tgt L S M Q) (h2 : ¬ cnd cn x 0 → WPn y d b (pc + 3) L S M Q) : WPn y d b pc L (vI x :: S) M Q := by
  intro X p l e R s m args below meth c H locs Qf ls na0 hC hM hS hL hW hl hn hR
  have hx : ir x := okS_hd hS
  have g1 := fun q => h1 q X p l e R s m args below meth c H locs Qf ls na0 hC hM (okS_tl hS) hL hW hl hn hR
  have g2 := fun q => h2 q X p l e R s m args below meth c H locs Qf ls na0 hC hM (okS_tl hS) hL hW hl hn hR
  cases cn with
  | eq => exact lv_if_eq hC.1 hC.2.1 hd ht (fun q => g1 ((i3_eqi hx ir0).mp q)) (fun q => g2 (fun q0 => q (by have q := q0; exact ((i3_eqi hx ir0).mpr q))))
  | ne => exact lv_if_ne hC.1 hC.2.1 hd ht (fun q => g1 (fun z => q ((i3_eqi hx ir0).mpr z))) (fun q => g2 (fun z0 => z0 ((i3_eqi hx ir0).mp q)))
  | lt => exact lv_if_lt hC.1 hC.2.1 hd ht (fun q => g1 ((i3_lti hx ir0).mp q)) (fun q => g2 (fun q0 => q (by have q := q0; exact ((i3_lti hx ir0).mpr q))))
  | ge => exact lv_if_ge hC.1 hC.2.1 hd ht (fun q => g1 ((i3_lei ir0 hx).mp q)) (fun q => g2 (fun q0 => q (by have q := q0; exact ((i3_lei ir0 hx).mpr q))))
  | gt => exact lv_if_gt hC.1 hC.2.1 hd ht (fun q => g1 ((i3_lti ir0 hx).mp q)) (fun q => g2 (fun q0 => q (by have q := q0; exact ((i3_lti ir0 hx).mpr q))))
  | le => exact lv_if_le hC.1 hC.2.1 hd ht (fun q => g1 ((i3_lei hx ir0).mp q)) (fun q => g2 (fun q0 => q (by have q := q0; exact ((i3_lei hx ir0).mpr q))))
theorem sn_icmp {cn : ClassFile.Cond} {off x z : Int} {tgt : Nat} (hd : decode (m_bt y) pc = .ok (.if_icmp cn off, 3)) (ht : (pc : Int) + off = (tgt : Int)) (h1 : cnd cn x z → WPn y d b tgt L S M Q) (h2 : ¬ cnd cn x z → WPn y d b (pc + 3) L S M Q) : WPn y d b pc L (vI z :: vI x :: S) M Q := by
  intro X p l e R s m args below meth c H locs Qf ls na0 hC hM hS hL hW hl hn hR
  have hz : ir z := okS_hd hS
  have hx : ir x := okS_hd2 hS
  have g1 := fun q => h1 q X p l e R s m args below meth c H locs Qf ls na0 hC hM (okS_tl (okS_tl hS)) hL hW hl hn hR
  have g2 := fun q => h2 q X p l e R s m args below meth c H locs Qf ls na0 hC hM (okS_tl (okS_tl hS)) hL hW hl hn hR
  cases cn with
  | eq => exact lv_icmp_eq hC.1 hC.2.1 hd ht (fun q => g1 ((i3_eqi hx hz).mp q)) (fun q => g2 (fun q0 => q (by have q := q0; exact ((i3_eqi hx hz).mpr q))))
  | ne => exact lv_icmp_ne hC.1 hC.2.1 hd ht (fun q => g1 (fun z => q ((i3_eqi hx hz).mpr z))) (fun q => g2 (fun z0 => z0 ((i3_eqi hx hz).mp q)))
  | lt => exact lv_icmp_lt hC.1 hC.2.1 hd ht (fun q => g1 ((i3_lti hx hz).mp q)) (fun q => g2 (fun q0 => q (by have q := q0; exact ((i3_lti hx hz).mpr q))))
  | ge => exact lv_icmp_ge hC.1 hC.2.1 hd ht (fun q => g1 ((i3_lei hz hx).mp q)) (fun q => g2 (fun q0 => q (by have q := q0; exact ((i3_lei hz hx).mpr q))))
  | gt => exact lv_icmp_gt hC.1 hC.2.1 hd ht (fun q => g1 ((i3_lti hz hx).mp q)) (fun q => g2 (fun q0 => q (by have q := q0; exact ((i3_lti hz hx).mpr q))))
  | le => exact lv_icmp_le hC.1 hC.2.1 hd ht (fun q => g1 ((i3_lei hx hz).mp q)) (fun q => g2 (fun q0 => q (by have q := q0; exact ((i3_lei hx hz).mpr q))))
theorem sn_goto {off : Int} {tgt : Nat} (hd : decode (m_bt y) pc = .ok (.goto off, 3)) (ht : (pc : Int) + off = (tgt : Int)) (h : WPn y d b tgt L S M Q) : WPn y d b pc L S M Q := by
  intro X p l e R s m args below meth c H locs Qf ls na0 hC hM hS hL hW hl hn hR
  exact lv_goto hC.1 hC.2.1 hd ht (h X p l e R s m args below meth c H locs Qf ls na0 hC hM hS hL hW hl hn hR)
theorem after_calln {X : Cx} {p : Program} {l : Launch} {e : Env} {R : Room} {s : State} {m : MethodId} {args : Array Value} {below : List Frame} {meth : Method} {c : Code} {Qf : State → Prop} {ls : Array Slot} {na0 y' b' : Nat}
    (hC : Cn X y d b p R s m args meth c na0) (hS : okS M.2.2 S) (hL : okL X L M.2.2 ls (m_ml y)) (hn : na0 ≤ M.2.2 ∧ M.2.2 ≤ b) (hR : Rtn X y b p l e R s m args below meth c Qf na0 Q) (hb : M.2.2 + m_mc y' = b') (hb2 : b' ≤ b) (hns : nsu b' = nsu M.2.2 + m_ms y') :
    ∀ (r : Option AV) (M' : Mem) (H' : Heap) (locs' : List Loc), WPn y d b (pc + 3) L (r.toList ++ S) M' Q → okM X M' → okr M'.2.2 r → Wd X M' H' → (∀ q ∈ locs', X.1.size ≤ q.base) → M'.2.2 = b' → W p l e R s m args below meth c H' locs' (M.2.2 - na0 + m_mc y') (nsu M.2.2 - nsu na0 + m_ms y') Qf (F0 m (pc + 3) ls ((r.toList ++ S).map (rv X))) := by
  intro r M' H' locs' hw hM' hok hW' hl' hb'
  have hm := nsu_mono hn.1
  have := hw X p l e R s m args below meth c H' locs' Qf ls na0 hC hM' (fun v hv => by
    rcases List.mem_append.mp hv with h | h
    · cases r with
      | none => cases h
      | some w => simp at h; subst h; exact hok v rfl
    · exact okv_mono (by omega) (hS v h)) (okL_mono (by omega) hL) hW' hl' ⟨by omega, by omega⟩ hR
  rw [hb', show b' - na0 = M.2.2 - na0 + m_mc y' by omega, show nsu b' - nsu na0 = nsu M.2.2 - nsu na0 + m_ms y' by omega] at this
  exact this
theorem sn_callS {idx y' d' b' : Nat} {as : List AV} (hd : decode (m_bt y) pc = .ok (.invokestatic idx, 3)) (ML : MLok (m_ow y, idx, y', 1)) (hlen : as.length = m_na y') (hcat : (S.map cg).sum ≤ 8) (hml : m_ml y' ≤ 45) (hdd : d' + 1 ≤ d) (hb : M.2.2 + m_mc y' = b') (hb2 : b' ≤ b) (hns : nsu b' = nsu M.2.2 + m_ms y')
    (hh : WPc y' d' b' as M (fun r M' => WPn y d b (pc + 3) L (r.toList ++ S) M' Q)) : WPn y d b pc L (as.reverse ++ S) M Q := by
  intro X p l e R s m args below meth c H locs Qf ls na0 hC hM hS hL hW hl hn hR
  obtain ⟨k1, k2⟩ := ML.2.2.1 rfl
  have CA : CAL y' := ML.1
  obtain ⟨c1, c2, c3, c4, c5, c6⟩ := CA
  have hE := hC.2.2.2.2.2.2.2.2.2.2.2.2
  have hts := hC.2.2.2.2.2.1
  obtain ⟨hS1, hS2⟩ := okS_app hS
  have hm0 := nsu_mono hn.1
  have hmb := nsu_mono hb2
  have hRc := hC.2.2.2.2.2.2.2.2.2.2.1
  have hRs := hC.2.2.2.2.2.2.2.2.2.2.2.1
  have hRf := hC.2.2.2.2.2.2.2.2.1
  have hRl := hC.2.2.2.2.2.2.2.2.2.1
  refine run_step (S := S) (va_runS (As := as.map (rv X)) (rest := S.map (rv X)) (nL := m_ml y) ⟨hC.1, hC.2.1, hC.2.2.2.1, hC.2.2.2.2.1, hts⟩ (hh X l) (va_cwS (m_na y') hts (wds_good (fun w hw => ?_)) (show wsY y' = Cond.code (m_nm y') (m_bt y') (m_ml y') (m_rt y') :: Wds from rfl) rfl rfl ⟨c3.1, c3.2, c4⟩ ⟨?_, ?_⟩) ⟨pc_blind X y' b' _ M, fun U hU hWm => ⟨rfl, hE.warm hWm, hM, fun v hv => hS1 v (List.mem_reverse.mpr hv), by rw [hU]; exact hW, hb, hns⟩⟩ rfl (by rw [List.length_map]; exact hlen) ?_ ?_ (lv_room (cat_sum hcat)) hd ⟨?_, ?_⟩) hl (after_calln hC hS2 hL hn hR hb hb2 hns)
  · unfold va_wsS at hw
    rcases List.mem_append.mp hw with h1 | h1
    · simp only [List.mem_cons, List.not_mem_nil, or_false] at h1
      rcases h1 with rfl | rfl | rfl
      · exact k1
      · exact k2
      · exact c2
    · rcases List.mem_cons.mp h1 with rfl | h2
      · exact c1
      · exact h2
  · show d' + 1 ≤ _; omega
  · show 8 + (m_ml y' + 11) + 64 * d' ≤ _; omega
  · exact hL.2.2.choose_spec.1.1
  · simp only [List.map_append, List.map_reverse]
  · show M.2.2 - na0 + m_mc y' ≤ _; omega
  · show nsu M.2.2 - nsu na0 + m_ms y' ≤ _; omega
theorem so_callT {idx y' i d' b' : Nat} {as : List AV} (hd : decode (m_bt y) pc = .ok (.invokevirtual idx, 3)) (ML : MLok (m_ow y, idx, y', 0)) (hi14 : i < 14) (hc0 : (m_nm y').cls = "java/lang/String") (hlen : as.length = m_na y') (hcat : (S.map cg).sum ≤ 8) (hml : m_ml y' ≤ 45) (hdd : d' + 1 ≤ d) (hb : M.2.2 + m_mc y' = b') (hb2 : b' ≤ b) (hns : nsu b' = nsu M.2.2 + m_ms y')
    (hh : WPc y' d' b' (vR (some (1010 + i)) :: as) M (fun r M' => WP y d b (pc + 3) L (r.toList ++ S) M' Q)) : WP y d b pc L (as.reverse ++ vR (some (1010 + i)) :: S) M Q := by
  intro X p l e R s m args below meth c H locs Qf ls na0 hC hM hS hL hW hl hn hR
  obtain ⟨k1, k2, k3⟩ := ML.2.1 rfl
  have CA : CAL y' := ML.1
  obtain ⟨c1, c2, c3, c4, c5, c6⟩ := CA
  have hE := hC.2.2.2.2.2.2.2.2.2.2.2.2
  have hts := hC.2.2.2.2.2.1
  obtain ⟨hS1, hS2⟩ := okS_app hS
  obtain ⟨cell, q1, q2, q3, q4⟩ := (hE.2.2.2.2.2.1.1.1 i hi14).1
  have hadd : ad X (1010 + i) = X.2.2.2.2.1 (1010 + i) := by unfold ad; rw [if_neg (by omega)]
  have hm0 := nsu_mono hn.1
  have hmb := nsu_mono hb2
  have hRc := hC.2.2.2.2.2.2.2.2.2.2.1
  have hRs := hC.2.2.2.2.2.2.2.2.2.2.2.1
  have hRf := hC.2.2.2.2.2.2.2.2.1
  have hRl := hC.2.2.2.2.2.2.2.2.2.1
  refine run_step (S := S) (va_runV (As := as.map (rv X)) (rest := S.map (rv X)) (b := X.2.2.2.2.1 (1010 + i)) (C := (m_nm y').cls) (nL := m_ml y) ⟨hC.1, hC.2.1, hC.2.2.2.1, hC.2.2.2.2.1, hts⟩ (hh X l) (cwV (m_na y') hts (wds_good (fun w hw => ?_)) (show wsY y' = Cond.code (m_nm y') (m_bt y') (m_ml y') (m_rt y') :: Wds from rfl) rfl rfl ⟨rfl, c3.1, c3.2, c4⟩ ⟨?_, ?_⟩) ⟨pc_blind X y' b' _ M, ⟨cell, ext_at hW q1, q2, ?_⟩, fun U hU hWm => ⟨?_, hE.warm hWm, hM, okS_cons (okS_hd hS2) (fun v hv => hS1 v (List.mem_reverse.mpr hv)), by rw [hU]; exact hW, hb, hns⟩⟩ rfl (by rw [List.length_map]; exact hlen) ?_ ?_ (lv_room (cat_sum hcat)) hd ⟨?_, ?_⟩) hl (after_call hC (okS_tl hS2) hL hn hR hb hb2 hns)
  · unfold wsV at hw
    rcases List.mem_append.mp hw with h1 | h1
    · simp only [List.mem_cons, List.not_mem_nil, or_false] at h1
      rcases h1 with rfl | rfl | rfl | rfl
      · exact k1
      · exact k2
      · exact k3
      · exact c2
    · rcases List.mem_cons.mp h1 with rfl | h2
      · exact c1
      · exact h2
  · show d' + 1 ≤ _; omega
  · show 8 + (m_ml y' + 11) + 64 * d' ≤ _; omega
  · rw [hc0]; exact q3
  · simp only [List.map_cons, rv]; rw [hadd]
  · exact hL.2.2.choose_spec.1.1
  · simp only [List.map_append, List.map_reverse, List.map_cons, rv]; rw [hadd]
  · show M.2.2 - na0 + m_mc y' ≤ _; omega
  · show nsu M.2.2 - nsu na0 + m_ms y' ≤ _; omega
theorem sn_callT {idx y' i d' b' : Nat} {as : List AV} (hd : decode (m_bt y) pc = .ok (.invokevirtual idx, 3)) (ML : MLok (m_ow y, idx, y', 0)) (hi14 : i < 14) (hc0 : (m_nm y').cls = "java/lang/String") (hlen : as.length = m_na y') (hcat : (S.map cg).sum ≤ 8) (hml : m_ml y' ≤ 45) (hdd : d' + 1 ≤ d) (hb : M.2.2 + m_mc y' = b') (hb2 : b' ≤ b) (hns : nsu b' = nsu M.2.2 + m_ms y')
    (hh : WPc y' d' b' (vR (some (1010 + i)) :: as) M (fun r M' => WPn y d b (pc + 3) L (r.toList ++ S) M' Q)) : WPn y d b pc L (as.reverse ++ vR (some (1010 + i)) :: S) M Q := by
  intro X p l e R s m args below meth c H locs Qf ls na0 hC hM hS hL hW hl hn hR
  obtain ⟨k1, k2, k3⟩ := ML.2.1 rfl
  have CA : CAL y' := ML.1
  obtain ⟨c1, c2, c3, c4, c5, c6⟩ := CA
  have hE := hC.2.2.2.2.2.2.2.2.2.2.2.2
  have hts := hC.2.2.2.2.2.1
  obtain ⟨hS1, hS2⟩ := okS_app hS
  obtain ⟨cell, q1, q2, q3, q4⟩ := (hE.2.2.2.2.2.1.1.1 i hi14).1
  have hadd : ad X (1010 + i) = X.2.2.2.2.1 (1010 + i) := by unfold ad; rw [if_neg (by omega)]
  have hm0 := nsu_mono hn.1
  have hmb := nsu_mono hb2
  have hRc := hC.2.2.2.2.2.2.2.2.2.2.1
  have hRs := hC.2.2.2.2.2.2.2.2.2.2.2.1
  have hRf := hC.2.2.2.2.2.2.2.2.1
  have hRl := hC.2.2.2.2.2.2.2.2.2.1
  refine run_step (S := S) (va_runV (As := as.map (rv X)) (rest := S.map (rv X)) (b := X.2.2.2.2.1 (1010 + i)) (C := (m_nm y').cls) (nL := m_ml y) ⟨hC.1, hC.2.1, hC.2.2.2.1, hC.2.2.2.2.1, hts⟩ (hh X l) (cwV (m_na y') hts (wds_good (fun w hw => ?_)) (show wsY y' = Cond.code (m_nm y') (m_bt y') (m_ml y') (m_rt y') :: Wds from rfl) rfl rfl ⟨rfl, c3.1, c3.2, c4⟩ ⟨?_, ?_⟩) ⟨pc_blind X y' b' _ M, ⟨cell, ext_at hW q1, q2, ?_⟩, fun U hU hWm => ⟨?_, hE.warm hWm, hM, okS_cons (okS_hd hS2) (fun v hv => hS1 v (List.mem_reverse.mpr hv)), by rw [hU]; exact hW, hb, hns⟩⟩ rfl (by rw [List.length_map]; exact hlen) ?_ ?_ (lv_room (cat_sum hcat)) hd ⟨?_, ?_⟩) hl (after_calln hC (okS_tl hS2) hL hn hR hb hb2 hns)
  · unfold wsV at hw
    rcases List.mem_append.mp hw with h1 | h1
    · simp only [List.mem_cons, List.not_mem_nil, or_false] at h1
      rcases h1 with rfl | rfl | rfl | rfl
      · exact k1
      · exact k2
      · exact k3
      · exact c2
    · rcases List.mem_cons.mp h1 with rfl | h2
      · exact c1
      · exact h2
  · show d' + 1 ≤ _; omega
  · show 8 + (m_ml y' + 11) + 64 * d' ≤ _; omega
  · rw [hc0]; exact q3
  · simp only [List.map_cons, rv]; rw [hadd]
  · exact hL.2.2.choose_spec.1.1
  · simp only [List.map_append, List.map_reverse, List.map_cons, rv]; rw [hadd]
  · show M.2.2 - na0 + m_mc y' ≤ _; omega
  · show nsu M.2.2 - nsu na0 + m_ms y' ≤ _; omega
theorem WPc_ofn {y d b : Nat} {as : List AV} {M : Mem} {Q : Option AV → Mem → Prop} (L : List (Option AV)) (hp : plainName (m_nm y).cls = true) (ho : (m_nm y).cls = clN (m_ow y)) (hlen : (eL as).length ≤ m_ml y) (hL : L = eL as ++ List.replicate (m_ml y - (eL as).length) none) (h : WPn y d b 0 L [] M Q) : WPc y d b as M Q := by
  intro X l
  refine Met.ofW (cc := m_bt y) (maxL := m_ml y) (ret := m_rt y) hp rfl ?_
  intro p e s m args below meth c s₁ B hml hv
  obtain ⟨rfl, hE, hM, hS, hW, hb1, hb2⟩ := hv
  have hts := atoms_spec (ws := wsY y) B.pre
  have hown : s.vm.findClass (m_nm y).cls = some m.cls := findClass_of_methodNamed B.named
  rw [ho] at hown
  have hin : meth.name = (m_nm y).name := (name_of_methodNamed B.named B.method).1
  have hent := lv_entry (as.map (rv X)) (n := m_ml y) (by rw [lg_len]; exact hlen)
  rw [lg_entry_eq]
  have hC : Cn X y d b p (headSpec (wsY y) (rmY y d)).room s m (as.map (rv X)).toArray meth c M.2.2 :=
    ⟨B.exec, B.bytes, B.returns, hml, hown, fun w hw => hts w (List.mem_cons_of_mem _ hw), B.notSynchronized, fun hi => by rw [hin, hi], Nat.le_refl _, Nat.le_refl _, by show b - M.2.2 ≤ m_mc y; omega, by show nsu b - nsu M.2.2 ≤ m_ms y; omega, hE⟩
  have hokL : okL X L M.2.2 ((lg_sl (as.map (rv X)) ++ List.replicate (m_ml y - (lg_sl (as.map (rv X))).length) Slot.unset).toArray) (m_ml y) := by
    refine ⟨by rw [hL]; simp; omega, fun i v hv => ?_, _, hent, fun i v hv => ?_⟩
    · rw [hL] at hv
      rcases Nat.lt_or_ge i (eL as).length with q | q
      · rw [List.getElem?_append_left q] at hv
        exact eL_ok as hS i v hv
      · rw [List.getElem?_append_right q] at hv
        have := List.eq_of_mem_replicate (List.mem_of_getElem? hv)
        cases this
    · rw [hL] at hv
      rcases Nat.lt_or_ge i (eL as).length with q | q
      · rw [List.getElem?_append_left q] at hv
        have := eL_args X as 0 i v hv
        rwa [Nat.zero_add] at this
      · rw [List.getElem?_append_right q] at hv
        have := List.eq_of_mem_replicate (List.mem_of_getElem? hv)
        cases this
  have hRt : Rtn X y b p l e (headSpec (wsY y) (rmY y d)).room s m (as.map (rv X)).toArray below meth c (MQ below (QcY X b Q) (as.map (rv X)).toArray s (m_mc y) (m_ms y) (Anew X)) M.2.2 Q := by
    intro r M' H' locs' pc' ls' i hQ hM' hokr hW' hl' hb' hri hdec
    rw [show b - M.2.2 = m_mc y by omega, show nsu b - nsu M.2.2 = m_ms y by omega]
    have hq : ∀ t : State, t.heap = H' → s.WarmedH t.vm → QcY X b Q (as.map (rv X)).toArray s (.returned (r.map (rv X))) t := fun t ht _ => ⟨r, M', rfl, hQ, hM', hokr, by rw [ht]; exact hW', hb'⟩
    have hlocks := B.notSynchronized
    rcases hri with hri | ⟨rfl, z, rfl, hz⟩
    rotate_left
    · rcases hz with ⟨hr, rfl⟩ | ⟨hr, hn⟩
      · exact W.zret (hlocks := hlocks) B.exec B.bytes (B.returns.trans hr) rfl hq hl' hdec
      · exact W.zret (hlocks := hlocks) B.exec B.bytes (B.returns.trans hr) hn hq hl' hdec
    rcases r with _ | (z | z | r)
    · obtain ⟨rfl, hr⟩ := hri
      exact W.vret (hlocks := hlocks) B.exec B.bytes (B.returns.trans hr) hq hl' hdec
    · obtain ⟨rfl, hr⟩ := hri
      rcases hr with hr | ⟨hr, hz⟩
      · exact W.iret (hlocks := hlocks) B.exec B.bytes (B.returns.trans hr) hq hl' hdec
      · exact W.zret (hlocks := hlocks) B.exec B.bytes (B.returns.trans hr) (by rcases hz with rfl | rfl <;> rfl) hq hl' hdec
    · obtain ⟨rfl, hr⟩ := hri
      exact W.lret (hlocks := hlocks) B.exec B.bytes (B.returns.trans hr) hq hl' hdec
    · exact hri.elim
  have := h X p l e (headSpec (wsY y) (rmY y d)).room s m (as.map (rv X)).toArray below meth c s.heap [] _ _ M.2.2 hC hM (fun v hv => by cases hv) hokL hW (fun q hq => by cases hq) ⟨Nat.le_refl _, by omega⟩ hRt
  rw [Nat.sub_self, Nat.sub_self] at this
  exact this
end STR
