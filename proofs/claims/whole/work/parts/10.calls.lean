theorem kd_obj_all : ∀ q ∈ kdL, q.1 = 5 → q.2 < 13 := by decide +kernel
theorem kd_obj (h : Nat) (hk : (kd h).1 = 5) : (kd h).2 < 13 := by
  unfold kd at hk ⊢
  rw [List.getD_eq_getElem?_getD] at hk ⊢
  cases hq : kdL[h]? with
  | none => rw [hq] at hk; simp at hk
  | some q =>
    rw [hq] at hk
    exact kd_obj_all q (List.mem_of_getElem? hq) hk
theorem cl_name : ∀ ci, ci < 13 → clN ci = (cT ci).1 := by decide +kernel
theorem met_mono {l : Launch} {y : MethodName} {ws : List Cond} {rm : Room} {Pc : Array Value → State → Prop} {Qc Qc' : Array Value → State → Outcome → State → Prop} {mc ms : Nat} {free : Addr → Prop} (h : Met l y ws rm Pc Qc mc ms free) (hq : ∀ a s o t, Qc a s o t → Qc' a s o t) : Met l y ws rm Pc Qc' mc ms free := by
  intro p e ha hc hk s m args below hf happ hP hK
  obtain ⟨n, o, h1, h2, h3, hQ, hF⟩ := h p e ha hc hk s m args below hf happ hP hK
  exact ⟨n, o, h1, h2, h3, hq _ _ _ _ hQ, hF⟩
/-! contracts and calls -/
def wsY (y : Nat) : List Cond := Cond.code (m_nm y) (m_bt y) (m_ml y) (m_rt y) :: Wds
def rmY (y d : Nat) : Room := { frames := d, cells := m_mc y, slots := m_ms y, locals := 64 * d }
def PcY (X : Cx) (y b : Nat) (as : List AV) (M : Mem) : Array Value → State → Prop := fun v U => v = (as.map (rv X)).toArray ∧ Ev X U ∧ okM X M ∧ okS M.2.2 as ∧ Wd X M U.heap ∧ M.2.2 + m_mc y = b ∧ nsu b = nsu M.2.2 + m_ms y
def QcY (X : Cx) (b : Nat) (Q : Option AV → Mem → Prop) : Array Value → State → Outcome → State → Prop := fun _ _ o t => ∃ (r : Option AV) (M' : Mem), o = .returned (r.map (rv X)) ∧ Q r M' ∧ okM X M' ∧ okr M'.2.2 r ∧ Wd X M' t.heap ∧ M'.2.2 = b
def WPc (y d b : Nat) (as : List AV) (M : Mem) (Q : Option AV → Mem → Prop) : Prop := ∀ (X : Cx) (l : Launch), Met l (m_nm y) (wsY y) (rmY y d) (PcY X y b as M) (QcY X b Q) (m_mc y) (m_ms y) (Anew X)
def eL : List AV → List (Option AV)
  | [] => []
  | v :: t => some v :: (if cg v = 2 then none :: eL t else eL t)
theorem lg_len (X : Cx) : ∀ as : List AV, (lg_sl (as.map (rv X))).length = (eL as).length
  | [] => rfl
  | v :: t => by
    have ih := lg_len X t
    simp only [List.map_cons, lg_sl, List.flatMap_cons, List.length_append] at ih ⊢
    rw [cg_rv, ih]
    simp only [eL]
    by_cases hc : cg v = 2
    · simp [hc]; omega
    · simp [hc]; omega
theorem eL_args (X : Cx) : ∀ (as : List AV) (n i : Nat) (v : AV), (eL as)[i]? = some (some v) → (n + i, rv X v) ∈ lv_args n (as.map (rv X))
  | [], _, _, _, h => by simp [eL] at h
  | w :: t, n, 0, v, h => by
    simp [eL] at h
    subst h
    simp [lv_args]
  | w :: t, n, i + 1, v, h => by
    simp only [eL, List.getElem?_cons_succ] at h
    simp only [List.map_cons, lv_args, cg_rv]
    refine List.mem_cons_of_mem _ ?_
    split
    · rename_i hc
      rw [if_pos hc] at h
      rcases i with _ | i
      · simp at h
      · have := eL_args X t (n + 2) i v (by simpa using h)
        rw [show n + (i + 1 + 1) = n + 2 + i by omega]
        exact this
    · rename_i hc
      rw [if_neg hc] at h
      have := eL_args X t (n + 1) i v h
      rw [show n + (i + 1) = n + 1 + i by omega]
      exact this
theorem eL_ok {n : Nat} : ∀ (as : List AV), okS n as → ∀ (i : Nat) (v : AV), (eL as)[i]? = some (some v) → okv n v
  | [], _, _, _, h => by simp [eL] at h
  | w :: t, hS, 0, v, h => by simp [eL] at h; subst h; exact okS_hd hS
  | w :: t, hS, i + 1, v, h => by
    simp only [eL, List.getElem?_cons_succ] at h
    split at h
    · rcases i with _ | i
      · simp at h
      · exact eL_ok t (okS_tl hS) i v (by simpa using h)
    · exact eL_ok t (okS_tl hS) i v h
theorem wds_good {ws : List Cond} (h : ∀ w ∈ ws, w ∈ Wds) : GoodIn Wds ws := fun w hw => ⟨h w hw, good_of_word (List.mem_filter.mp (h w hw)).2⟩
theorem pc_blind (X : Cx) (y b : Nat) (as : List AV) (M : Mem) : FrameBlind (PcY X y b as M) := fun a U g mk h => ⟨h.1, Ev.same (s := U) rfl h.2.1, h.2.2⟩
theorem WPc_of {y d b : Nat} {as : List AV} {M : Mem} {Q : Option AV → Mem → Prop} (L : List (Option AV)) (hp : plainName (m_nm y).cls = true) (ho : (m_nm y).cls = clN (m_ow y)) (hlen : (eL as).length ≤ m_ml y) (hL : L = eL as ++ List.replicate (m_ml y - (eL as).length) none) (h : WP y d b 0 L [] M Q) : WPc y d b as M Q := by
  intro X l
  refine Met.ofW (cc := m_bt y) (maxL := m_ml y) (ret := m_rt y) hp rfl ?_
  intro p e s m args below meth c s₁ B hml hv
  obtain ⟨rfl, hE, hM, hS, hW, hb1, hb2⟩ := hv
  have hts := atoms_spec (ws := wsY y) B.pre
  have hown : s.vm.findClass (m_nm y).cls = some m.cls := findClass_of_methodNamed B.named
  rw [ho] at hown
  have hin : meth.name = (m_nm y).name := (name_of_methodNamed B.named B.method).1
  have hent := lv_entry (as.map (rv X)) (n := m_ml y) (by rw [lg_len]; exact hlen)
  rw [lg_entry_eq]
  have hC : Cn X y d b p (headSpec (wsY y) (rmY y d)).room s m (as.map (rv X)).toArray meth c M.2.2 :=
    ⟨B.exec, B.bytes, B.returns, hml, hown, fun w hw => hts w (List.mem_cons_of_mem _ hw), B.notSynchronized, fun hi => by rw [hin, hi], Nat.le_refl _, Nat.le_refl _, by show b - M.2.2 ≤ m_mc y; omega, by show nsu b - nsu M.2.2 ≤ m_ms y; omega, hE⟩
  have hokL : okL X L M.2.2 ((lg_sl (as.map (rv X)) ++ List.replicate (m_ml y - (lg_sl (as.map (rv X))).length) Slot.unset).toArray) (m_ml y) := by
    refine ⟨by rw [hL]; simp; omega, fun i v hv => ?_, _, hent, fun i v hv => ?_⟩
    · rw [hL] at hv
      rcases Nat.lt_or_ge i (eL as).length with q | q
      · rw [List.getElem?_append_left q] at hv
        exact eL_ok as hS i v hv
      · rw [List.getElem?_append_right q] at hv
        have := List.eq_of_mem_replicate (List.mem_of_getElem? hv)
        cases this
    · rw [hL] at hv
      rcases Nat.lt_or_ge i (eL as).length with q | q
      · rw [List.getElem?_append_left q] at hv
        have := eL_args X as 0 i v hv
        rwa [Nat.zero_add] at this
      · rw [List.getElem?_append_right q] at hv
        have := List.eq_of_mem_replicate (List.mem_of_getElem? hv)
        cases this
  have hRt : Rt X y b p l e (headSpec (wsY y) (rmY y d)).room s m (as.map (rv X)).toArray below meth c (MQ below (QcY X b Q) (as.map (rv X)).toArray s (m_mc y) (m_ms y) (Anew X)) M.2.2 Q := by
    intro r M' H' locs' pc' ls' i hQ hM' hokr hW' hl' hb' hri hdec
    rw [show b - M.2.2 = m_mc y by omega, show nsu b - nsu M.2.2 = m_ms y by omega]
    have hq : ∀ t : State, t.heap = H' → s.WarmedH t.vm → QcY X b Q (as.map (rv X)).toArray s (.returned (r.map (rv X))) t := fun t ht _ => ⟨r, M', rfl, hQ, hM', hokr, by rw [ht]; exact hW', hb'⟩
    have hlocks := B.notSynchronized
    rcases r with _ | (z | z | r)
    · obtain ⟨rfl, hr⟩ := hri
      exact W.vret (hlocks := hlocks) B.exec B.bytes (B.returns.trans hr) hq hl' hdec
    · obtain ⟨rfl, hr⟩ := hri
      rcases hr with hr | ⟨hr, hz⟩
      · exact W.iret (hlocks := hlocks) B.exec B.bytes (B.returns.trans hr) hq hl' hdec
      · exact W.zret (hlocks := hlocks) B.exec B.bytes (B.returns.trans hr) (by rcases hz with rfl | rfl <;> rfl) hq hl' hdec
    · obtain ⟨rfl, hr⟩ := hri
      exact W.lret (hlocks := hlocks) B.exec B.bytes (B.returns.trans hr) hq hl' hdec
    · exact hri.elim
  have := h X p l e (headSpec (wsY y) (rmY y d)).room s m (as.map (rv X)).toArray below meth c s.heap [] _ _ M.2.2 hC hM (fun v hv => by cases hv) hokL hW (fun q hq => by cases hq) ⟨Nat.le_refl _, by omega⟩ hRt
  rw [Nat.sub_self, Nat.sub_self] at this
  exact this
theorem run_step {p : Program} {l : Launch} {e : Env} {R : Room} {s : State} {m : MethodId} {args : Array Value} {below : List Frame} {meth : Method} {c : Code} {H : Heap} {locs : List Loc} {cells slots mc ms : Nat} {Qf : State → Prop} {pc : Nat} {ls : Array Slot} {st0 : List Value} {X : Cx} {S : List AV} {b' : Nat} {Q' : Option AV → Mem → Prop} {a : Array Value}
    (hr : va_Run p l e R s m args below meth c H locs cells slots mc ms (F0 m pc ls st0) (S.map (rv X)) (QcY X b' Q' a) (Anew X)) (hl : ∀ q ∈ locs, X.1.size ≤ q.base)
    (kk : ∀ (r : Option AV) (M' : Mem) (H' : Heap) (locs' : List Loc), Q' r M' → okM X M' → okr M'.2.2 r → Wd X M' H' → (∀ q ∈ locs', X.1.size ≤ q.base) → M'.2.2 = b' → W p l e R s m args below meth c H' locs' (cells + mc) (slots + ms) Qf (F0 m (pc + 3) ls ((r.toList ++ S).map (rv X)))) :
    W p l e R s m args below meth c H locs cells slots Qf (F0 m pc ls st0) := by
  intro T hT Xs
  obtain ⟨v, st₀, t, T', L, h0, X', hL, e1, e2, ⟨r, M', hv, hQ, hM', hok, hW', hb'⟩, st⟩ := hr T hT Xs
  cases hv
  obtain ⟨t2, a1, b1⟩ := kk r M' T'.heap (locs ++ L) hQ hM' hok (by rw [e1]; exact hW') (fun q hq => by
    rcases List.mem_append.mp hq with h | h
    · exact hl q h
    · exact hL q h) hb' T' rfl X'
  refine ⟨t2, st t2 ?_, b1⟩
  have he : (r.toList ++ S).map (rv X) = (r.map (rv X)).toList ++ S.map (rv X) := by cases r <;> simp
  rw [he] at a1
  exact a1
section SK
variable {y d b pc : Nat} {L : List (Option AV)} {S : List AV} {M : Mem} {Q : Option AV → Mem → Prop}
theorem cat_sum {X : Cx} {S : List AV} (h : (S.map cg).sum ≤ 8) : ((S.map (rv X)).map fun v => v.category).sum ≤ 8 := by
  rw [List.map_map]
  have : ((fun v : Value => v.category) ∘ rv X) = cg := funext fun v => cg_rv X v
  rw [this]; exact h
theorem after_call {X : Cx} {p : Program} {l : Launch} {e : Env} {R : Room} {s : State} {m : MethodId} {args : Array Value} {below : List Frame} {meth : Method} {c : Code} {Qf : State → Prop} {ls : Array Slot} {na0 y' b' : Nat}
    (hC : Cn X y d b p R s m args meth c na0) (hS : okS M.2.2 S) (hL : okL X L M.2.2 ls (m_ml y)) (hn : na0 ≤ M.2.2 ∧ M.2.2 ≤ b) (hR : Rt X y b p l e R s m args below meth c Qf na0 Q) (hb : M.2.2 + m_mc y' = b') (hb2 : b' ≤ b) (hns : nsu b' = nsu M.2.2 + m_ms y') :
    ∀ (r : Option AV) (M' : Mem) (H' : Heap) (locs' : List Loc), WP y d b (pc + 3) L (r.toList ++ S) M' Q → okM X M' → okr M'.2.2 r → Wd X M' H' → (∀ q ∈ locs', X.1.size ≤ q.base) → M'.2.2 = b' → W p l e R s m args below meth c H' locs' (M.2.2 - na0 + m_mc y') (nsu M.2.2 - nsu na0 + m_ms y') Qf (F0 m (pc + 3) ls ((r.toList ++ S).map (rv X))) := by
  intro r M' H' locs' hw hM' hok hW' hl' hb'
  have hm := nsu_mono hn.1
  have := hw X p l e R s m args below meth c H' locs' Qf ls na0 hC hM' (fun v hv => by
    rcases List.mem_append.mp hv with h | h
    · cases r with
      | none => cases h
      | some w => simp at h; subst h; exact hok v rfl
    · exact okv_mono (by omega) (hS v h)) (okL_mono (by omega) hL) hW' hl' ⟨by omega, by omega⟩ hR
  rw [hb', show b' - na0 = M.2.2 - na0 + m_mc y' by omega, show nsu b' - nsu na0 = nsu M.2.2 - nsu na0 + m_ms y' by omega] at this
  exact this
theorem okS_app {n : Nat} {A B : List AV} (h : okS n (A ++ B)) : okS n A ∧ okS n B := ⟨fun v hv => h v (List.mem_append_left _ hv), fun v hv => h v (List.mem_append_right _ hv)⟩
theorem so_callV {idx y' h d' b' : Nat} {as : List AV} (hd : decode (m_bt y) pc = .ok (.invokevirtual idx, 3)) (hm : (m_ow y, idx, y', 0) ∈ mlT) (hk : kd h = (5, m_ow y')) (hlen : as.length = m_na y') (hcat : (S.map cg).sum ≤ 8) (hml : m_ml y' ≤ 45) (hdd : d' + 1 ≤ d) (hb : M.2.2 + m_mc y' = b') (hb2 : b' ≤ b) (hns : nsu b' = nsu M.2.2 + m_ms y')
    (hh : WPc y' d' b' (vR (some h) :: as) M (fun r M' => WP y d b (pc + 3) L (r.toList ++ S) M' Q)) : WP y d b pc L (as.reverse ++ vR (some h) :: S) M Q := by
  intro X p l e R s m args below meth c H locs Qf ls na0 hC hM hS hL hW hl hn hR
  have ML := mlT_ok _ hm
  obtain ⟨k1, k2, k3⟩ := ML.2.1 rfl
  have CA : CAL y' := ML.1
  obtain ⟨c1, c2, c3, c4, c5, c6⟩ := CA
  have hE := hC.2.2.2.2.2.2.2.2.2.2.2.2
  have hts := hC.2.2.2.2.2.1
  obtain ⟨hS1, hS2⟩ := okS_app hS
  have hlt : h < M.2.2 := ref_lt (okS_hd hS2) (by simp [hk])
  have h172 : h < 172 := kd_lt (by simp [hk])
  have hw := (hW.2.2 h hlt).1 (by rw [hk])
  rw [hk] at hw
  obtain ⟨cell, q1, q2, q3, q4⟩ := hw
  have hci : m_ow y' < 13 := by
    have := kd_obj h (by rw [hk])
    rw [hk] at this
    exact this
  have CL := CLok_all (m_ow y') hci
  have hcn : clN (m_ow y') = (cT (m_ow y')).1 := cl_name _ hci
  have hm0 := nsu_mono hn.1
  have hmb := nsu_mono hb2
  have hRc := hC.2.2.2.2.2.2.2.2.2.2.1
  have hRs := hC.2.2.2.2.2.2.2.2.2.2.2.1
  have hRf := hC.2.2.2.2.2.2.2.2.1
  have hRl := hC.2.2.2.2.2.2.2.2.2.1
  refine run_step (S := S) (va_runV (As := as.map (rv X)) (rest := S.map (rv X)) (b := X.1.size + h) (C := (m_nm y').cls) (nL := m_ml y) ⟨hC.1, hC.2.1, hC.2.2.2.1, hC.2.2.2.2.1, hts⟩ (hh X l) (cwV (m_na y') hts (wds_good (fun w hw => ?_)) (show wsY y' = Cond.code (m_nm y') (m_bt y') (m_ml y') (m_rt y') :: Wds from rfl) rfl rfl ⟨rfl, c3.1, c3.2, c4⟩ ⟨?_, ?_⟩) ⟨pc_blind X y' b' _ M, ⟨cell, q1, by rw [q3]; rfl, ?_⟩, fun U hU hWm => ⟨?_, hE.warm hWm, hM, okS_cons (okS_hd hS2) (fun v hv => hS1 v (List.mem_reverse.mpr hv)), by rw [hU]; exact hW, hb, hns⟩⟩ rfl (by rw [List.length_map]; exact hlen) ?_ ?_ (lv_room (cat_sum hcat)) hd ⟨?_, ?_⟩) hl (after_call hC (okS_tl hS2) hL hn hR hb hb2 hns)
  · unfold wsV at hw
    rcases List.mem_append.mp hw with h1 | h1
    · simp only [List.mem_cons, List.not_mem_nil, or_false] at h1
      rcases h1 with rfl | rfl | rfl | rfl
      · exact k1
      · exact k2
      · exact k3
      · exact c2
    · rcases List.mem_cons.mp h1 with rfl | h2
      · exact c1
      · exact h2
  · show d' + 1 ≤ _; omega
  · show 8 + (m_ml y' + 11) + 64 * d' ≤ _; omega
  · rw [q2, c6, hcn]; exact (hE.1.1 _ _ CL.2.2.2.2.2).2.1
  · simp only [List.map_cons, rv]; rw [ad_lt h172]
  · exact hL.2.2.choose_spec.1.1
  · simp only [List.map_append, List.map_reverse, List.map_cons, rv]; rw [ad_lt h172]
  · show M.2.2 - na0 + m_mc y' ≤ _; omega
  · show nsu M.2.2 - nsu na0 + m_ms y' ≤ _; omega
theorem so_callS {idx y' d' b' : Nat} {as : List AV} (hd : decode (m_bt y) pc = .ok (.invokestatic idx, 3)) (hm : (m_ow y, idx, y', 1) ∈ mlT) (hlen : as.length = m_na y') (hcat : (S.map cg).sum ≤ 8) (hml : m_ml y' ≤ 45) (hdd : d' + 1 ≤ d) (hb : M.2.2 + m_mc y' = b') (hb2 : b' ≤ b) (hns : nsu b' = nsu M.2.2 + m_ms y')
    (hh : WPc y' d' b' as M (fun r M' => WP y d b (pc + 3) L (r.toList ++ S) M' Q)) : WP y d b pc L (as.reverse ++ S) M Q := by
  intro X p l e R s m args below meth c H locs Qf ls na0 hC hM hS hL hW hl hn hR
  have ML := mlT_ok _ hm
  obtain ⟨k1, k2⟩ := ML.2.2.1 rfl
  have CA : CAL y' := ML.1
  obtain ⟨c1, c2, c3, c4, c5, c6⟩ := CA
  have hE := hC.2.2.2.2.2.2.2.2.2.2.2.2
  have hts := hC.2.2.2.2.2.1
  obtain ⟨hS1, hS2⟩ := okS_app hS
  have hm0 := nsu_mono hn.1
  have hmb := nsu_mono hb2
  have hRc := hC.2.2.2.2.2.2.2.2.2.2.1
  have hRs := hC.2.2.2.2.2.2.2.2.2.2.2.1
  have hRf := hC.2.2.2.2.2.2.2.2.1
  have hRl := hC.2.2.2.2.2.2.2.2.2.1
  refine run_step (S := S) (va_runS (As := as.map (rv X)) (rest := S.map (rv X)) (nL := m_ml y) ⟨hC.1, hC.2.1, hC.2.2.2.1, hC.2.2.2.2.1, hts⟩ (hh X l) (va_cwS (m_na y') hts (wds_good (fun w hw => ?_)) (show wsY y' = Cond.code (m_nm y') (m_bt y') (m_ml y') (m_rt y') :: Wds from rfl) rfl rfl ⟨c3.1, c3.2, c4⟩ ⟨?_, ?_⟩) ⟨pc_blind X y' b' _ M, fun U hU hWm => ⟨rfl, hE.warm hWm, hM, fun v hv => hS1 v (List.mem_reverse.mpr hv), by rw [hU]; exact hW, hb, hns⟩⟩ rfl (by rw [List.length_map]; exact hlen) ?_ ?_ (lv_room (cat_sum hcat)) hd ⟨?_, ?_⟩) hl (after_call hC hS2 hL hn hR hb hb2 hns)
  · unfold va_wsS at hw
    rcases List.mem_append.mp hw with h1 | h1
    · simp only [List.mem_cons, List.not_mem_nil, or_false] at h1
      rcases h1 with rfl | rfl | rfl
      · exact k1
      · exact k2
      · exact c2
    · rcases List.mem_cons.mp h1 with rfl | h2
      · exact c1
      · exact h2
  · show d' + 1 ≤ _; omega
  · show 8 + (m_ml y' + 11) + 64 * d' ≤ _; omega
  · exact hL.2.2.choose_spec.1.1
  · simp only [List.map_append, List.map_reverse]
  · show M.2.2 - na0 + m_mc y' ≤ _; omega
  · show nsu M.2.2 - nsu na0 + m_ms y' ≤ _; omega
theorem so_callSN {idx y' d' b' : Nat} {as : List AV} (hd : decode (m_bt y) pc = .ok (.invokestatic idx, 3)) (hm : (m_ow y, idx, y', 4) ∈ mlT) (hnst : Cond.methodLinkNest (clN (m_ow y)) idx (m_nm y') "HandTongue" ∈ nstL) (hlen : as.length = m_na y') (hcat : (S.map cg).sum ≤ 8) (hml : m_ml y' ≤ 45) (hdd : d' + 1 ≤ d) (hb : M.2.2 + m_mc y' = b') (hb2 : b' ≤ b) (hns : nsu b' = nsu M.2.2 + m_ms y')
    (hh : WPc y' d' b' as M (fun r M' => WP y d b (pc + 3) L (r.toList ++ S) M' Q)) : WP y d b pc L (as.reverse ++ S) M Q := by
  intro X p l e R s m args below meth c H locs Qf ls na0 hC hM hS hL hW hl hn hR
  have ML := mlT_ok _ hm
  have k2 := ML.2.2.2.2.2 rfl
  have CA : CAL y' := ML.1
  obtain ⟨c1, c2, c3, c4, c5, c6⟩ := CA
  have hE := hC.2.2.2.2.2.2.2.2.2.2.2.2
  have hts := hC.2.2.2.2.2.1
  obtain ⟨hS1, hS2⟩ := okS_app hS
  have hm0 := nsu_mono hn.1
  have hmb := nsu_mono hb2
  have hRc := hC.2.2.2.2.2.2.2.2.2.2.1
  have hRs := hC.2.2.2.2.2.2.2.2.2.2.2.1
  have hRf := hC.2.2.2.2.2.2.2.2.1
  have hRl := hC.2.2.2.2.2.2.2.2.2.1
  refine run_step (S := S) (va_runSN (As := as.map (rv X)) (rest := S.map (rv X)) (nL := m_ml y) ⟨hC.1, hC.2.1, hC.2.2.2.1, hC.2.2.2.2.1, hts⟩ (hh X l) ⟨va_cnB (m_na y') hts (wds_good (fun w hw => ?_)) (show wsY y' = Cond.code (m_nm y') (m_bt y') (m_ml y') (m_rt y') :: Wds from rfl) rfl rfl (hE.2.1 _ hnst) (hts _ c2) ⟨c3.1, c3.2, c4⟩ ⟨?_, ?_⟩, hts _ k2, trivial⟩ ⟨pc_blind X y' b' _ M, fun U hU hWm => ⟨rfl, hE.warm hWm, hM, fun v hv => hS1 v (List.mem_reverse.mpr hv), by rw [hU]; exact hW, hb, hns⟩⟩ rfl (by rw [List.length_map]; exact hlen) ?_ ?_ (lv_room (cat_sum hcat)) hd ⟨?_, ?_⟩) hl (after_call hC hS2 hL hn hR hb hb2 hns)
  · rcases List.mem_cons.mp hw with rfl | h2
    · exact c1
    · exact h2
  · show d' + 1 ≤ _; omega
  · show 8 + (m_ml y' + 11) + 64 * d' ≤ _; omega
  · exact hL.2.2.choose_spec.1.1
  · simp only [List.map_append, List.map_reverse]
  · show M.2.2 - na0 + m_mc y' ≤ _; omega
  · show nsu M.2.2 - nsu na0 + m_ms y' ≤ _; omega
theorem so_callI {idx y' h d' b' : Nat} {as : List AV} (hd : decode (m_bt y) pc = .ok (.invokespecial idx, 3)) (hm : (m_ow y, idx, y', 2) ∈ mlT) (hh172 : h < 172) (hlen : as.length = m_na y') (hcat : (S.map cg).sum ≤ 8) (hml : m_ml y' ≤ 45) (hdd : d' + 1 ≤ d) (hb : M.2.2 + m_mc y' = b') (hb2 : b' ≤ b) (hns : nsu b' = nsu M.2.2 + m_ms y')
    (hh : WPc y' d' b' (vR (some h) :: as) M (fun r M' => WP y d b (pc + 3) L (r.toList ++ S) M' Q)) : WP y d b pc L (as.reverse ++ vR (some h) :: S) M Q := by
  intro X p l e R s m args below meth c H locs Qf ls na0 hC hM hS hL hW hl hn hR
  have ML := mlT_ok _ hm
  obtain ⟨k1, k2, k3, k4⟩ := ML.2.2.2.1 rfl
  have CA : CAL y' := ML.1
  obtain ⟨c1, c2, c3, c4, c5, c6⟩ := CA
  have hE := hC.2.2.2.2.2.2.2.2.2.2.2.2
  have hts := hC.2.2.2.2.2.1
  obtain ⟨hS1, hS2⟩ := okS_app hS
  have hm0 := nsu_mono hn.1
  have hmb := nsu_mono hb2
  have hRc := hC.2.2.2.2.2.2.2.2.2.2.1
  have hRs := hC.2.2.2.2.2.2.2.2.2.2.2.1
  have hRf := hC.2.2.2.2.2.2.2.2.1
  have hRl := hC.2.2.2.2.2.2.2.2.2.1
  have hws : wsY y' = Cond.code (m_nm y') (m_bt y') (m_ml y') none :: Wds := by unfold wsY; rw [show m_rt y' = none from k4]
  refine run_step (S := S) (va_runI (As := as.map (rv X)) (rest := S.map (rv X)) (b := X.1.size + h) (nL := m_ml y) ⟨hC.1, hC.2.1, hC.2.2.2.1, hC.2.2.2.2.1, hts⟩ (hh X l) (cwI (m_na y') hts (wds_good (fun w hw => ?_)) hws rfl rfl (hts _ c2) (hts _ k1) (hts _ k2) k3 ⟨c3.1, c3.2, c4⟩ ⟨?_, ?_⟩) ⟨pc_blind X y' b' _ M, fun U hU hWm => ⟨?_, hE.warm hWm, hM, okS_cons (okS_hd hS2) (fun v hv => hS1 v (List.mem_reverse.mpr hv)), by rw [hU]; exact hW, hb, hns⟩⟩ rfl (by rw [List.length_map]; exact hlen) ?_ ?_ (lv_room (cat_sum hcat)) hd ⟨?_, ?_⟩) hl (after_call hC (okS_tl hS2) hL hn hR hb hb2 hns)
  · rcases List.mem_cons.mp hw with rfl | h2
    · exact c1
    · exact h2
  · show d' + 1 ≤ _; omega
  · show 8 + (m_ml y' + 11) + 64 * d' ≤ _; omega
  · simp only [List.map_cons, rv]; rw [ad_lt hh172]
  · exact hL.2.2.choose_spec.1.1
  · simp only [List.map_append, List.map_reverse, List.map_cons, rv]; rw [ad_lt hh172]
  · show M.2.2 - na0 + m_mc y' ≤ _; omega
  · show nsu M.2.2 - nsu na0 + m_ms y' ≤ _; omega
theorem so_callIN {idx y' h d' b' : Nat} {as : List AV} (hd : decode (m_bt y) pc = .ok (.invokespecial idx, 3)) (hm : (m_ow y, idx, y', 3) ∈ mlT) (hnst : Cond.methodLinkNest (clN (m_ow y)) idx (m_nm y') "HandTongue" ∈ nstL) (hh172 : h < 172) (hlen : as.length = m_na y') (hcat : (S.map cg).sum ≤ 8) (hml : m_ml y' ≤ 45) (hdd : d' + 1 ≤ d) (hb : M.2.2 + m_mc y' = b') (hb2 : b' ≤ b) (hns : nsu b' = nsu M.2.2 + m_ms y')
    (hh : WPc y' d' b' (vR (some h) :: as) M (fun r M' => WP y d b (pc + 3) L (r.toList ++ S) M' Q)) : WP y d b pc L (as.reverse ++ vR (some h) :: S) M Q := by
  intro X p l e R s m args below meth c H locs Qf ls na0 hC hM hS hL hW hl hn hR
  have ML := mlT_ok _ hm
  obtain ⟨k2, k3, k4⟩ := ML.2.2.2.2.1 rfl
  have CA : CAL y' := ML.1
  obtain ⟨c1, c2, c3, c4, c5, c6⟩ := CA
  have hE := hC.2.2.2.2.2.2.2.2.2.2.2.2
  have hts := hC.2.2.2.2.2.1
  obtain ⟨hS1, hS2⟩ := okS_app hS
  have hm0 := nsu_mono hn.1
  have hmb := nsu_mono hb2
  have hRc := hC.2.2.2.2.2.2.2.2.2.2.1
  have hRs := hC.2.2.2.2.2.2.2.2.2.2.2.1
  have hRf := hC.2.2.2.2.2.2.2.2.1
  have hRl := hC.2.2.2.2.2.2.2.2.2.1
  have hws : wsY y' = Cond.code (m_nm y') (m_bt y') (m_ml y') none :: Wds := by unfold wsY; rw [show m_rt y' = none from k4]
  refine run_step (S := S) (va_runIN (As := as.map (rv X)) (rest := S.map (rv X)) (b := X.1.size + h) (nL := m_ml y) ⟨hC.1, hC.2.1, hC.2.2.2.1, hC.2.2.2.2.1, hts⟩ (hh X l) ⟨va_cnB (m_na y') hts (wds_good (fun w hw => ?_)) hws rfl rfl (hE.2.1 _ hnst) (hts _ c2) ⟨c3.1, c3.2, c4⟩ ⟨?_, ?_⟩, k3, hts _ k2⟩ ⟨pc_blind X y' b' _ M, fun U hU hWm => ⟨?_, hE.warm hWm, hM, okS_cons (okS_hd hS2) (fun v hv => hS1 v (List.mem_reverse.mpr hv)), by rw [hU]; exact hW, hb, hns⟩⟩ rfl (by rw [List.length_map]; exact hlen) ?_ ?_ (lv_room (cat_sum hcat)) hd ⟨?_, ?_⟩) hl (after_call hC (okS_tl hS2) hL hn hR hb hb2 hns)
  · rcases List.mem_cons.mp hw with rfl | h2
    · exact c1
    · exact h2
  · show d' + 1 ≤ _; omega
  · show 8 + (m_ml y' + 11) + 64 * d' ≤ _; omega
  · simp only [List.map_cons, rv]; rw [ad_lt hh172]
  · exact hL.2.2.choose_spec.1.1
  · simp only [List.map_append, List.map_reverse, List.map_cons, rv]; rw [ad_lt hh172]
  · show M.2.2 - na0 + m_mc y' ≤ _; omega
  · show nsu M.2.2 - nsu na0 + m_ms y' ≤ _; omega
theorem so_objInit {idx h : Nat} (hd : decode (m_bt y) pc = .ok (.invokespecial idx, 3)) (hm : (m_ow y, idx) ∈ obT) (hcat : (S.map cg).sum ≤ 8) (hdd : 1 ≤ d) (hh : WP y d b (pc + 3) L S M Q) : WP y d b pc L (vR (some h) :: S) M Q := by
  intro X p l e R s m args below meth c H locs Qf ls na0 hC hM hS hL hW hl hn hR
  have hts := hC.2.2.2.2.2.1
  have hRf := hC.2.2.2.2.2.2.2.2.1
  have hRl := hC.2.2.2.2.2.2.2.2.2.1
  have hcs := cat_sum (X := X) hcat
  refine W.objInit (g := F0 m pc ls ((vR (some h) :: S).map (rv X))) (a := ad X h) (rest := S.map (rv X)) hC.1 hC.2.1 hC.2.2.2.2.1 (hts _ (obT_ok _ hm)) (hts _ ob_inst) (hts _ ob_code) rfl (hL.2.2.choose_spec.1.1.trans hC.2.2.2.1.symm) rfl hd (by omega) (by show 2 * 0 + _ + 12 ≤ _; omega) (hh X p l e R s m args below meth c H locs Qf ls na0 hC hM (okS_tl hS) hL hW hl hn hR)
theorem WPc.mono {as : List AV} {Q' : Option AV → Mem → Prop} (h : WPc y d b as M Q) (hq : ∀ r M', Q r M' → Q' r M') : WPc y d b as M Q' := by
  intro X l
  exact met_mono (h X l) (fun a s o t hQ => by
    obtain ⟨r, M', h1, h2, h3⟩ := hQ
    exact ⟨r, M', h1, hq r M' h2, h3⟩)
theorem WP.mono {Q' : Option AV → Mem → Prop} (h : WP y d b pc L S M Q) (hq : ∀ r M', Q r M' → Q' r M') : WP y d b pc L S M Q' := by
  intro X p l e R s m args below meth c H locs Qf ls na0 hC hM hS hL hW hl hn hR
  exact h X p l e R s m args below meth c H locs Qf ls na0 hC hM hS hL hW hl hn (fun r M' H' locs' pc' ls' i hQ => hR r M' H' locs' pc' ls' i (hq r M' hQ))
end SK
