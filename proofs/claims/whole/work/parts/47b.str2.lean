section STRB
variable {y d b pc : Nat} {L : List (Option AV)} {S : List AV} {M : Mem} {Q : Option AV → Mem → Prop}
theorem sn_ireturn {z : Int} (hd : decode (m_bt y) pc = .ok (.ireturn, 1)) (hr : m_rt y = some .int ∨ (m_rt y = some .boolean ∧ (z = 0 ∨ z = 1))) (hb : M.2.2 = b) (h : Q (some (vI z)) M) : WPn y d b pc L [vI z] M Q := by
  intro X p l e R s m args below meth c H locs Qf ls na0 hC hM hS hL hW hl hn hR
  subst hb
  exact hR (some (vI z)) M H locs pc ls .ireturn h hM (fun v hv => by cases hv; exact okS_hd hS) hW hl rfl (Or.inl ⟨rfl, hr⟩) hd
theorem sn_iretn {z : Int} (hd : decode (m_bt y) pc = .ok (.ireturn, 1)) (hr : (m_rt y = some .byte ∧ z = 0) ∨ (m_rt y = some .char ∧ narrow .char (.int (i3 z)) = .int (i3 z))) (hb : M.2.2 = b) (h : Q (some (vI z)) M) : WPn y d b pc L [vI z] M Q := by
  intro X p l e R s m args below meth c H locs Qf ls na0 hC hM hS hL hW hl hn hR
  subst hb
  exact hR (some (vI z)) M H locs pc ls .ireturn h hM (fun v hv => by cases hv; exact okS_hd hS) hW hl rfl (Or.inr ⟨rfl, z, rfl, hr⟩) hd
theorem sn_return (hd : decode (m_bt y) pc = .ok (.return_, 1)) (hr : m_rt y = none) (hb : M.2.2 = b) (h : Q none M) : WPn y d b pc L [] M Q := by
  intro X p l e R s m args below meth c H locs Qf ls na0 hC hM hS hL hW hl hn hR
  subst hb
  exact hR none M H locs pc ls .return_ h hM (fun v hv => by cases hv) hW hl rfl (Or.inl ⟨rfl, hr⟩) hd
theorem ad_o (X : Cx) {k : Nat} (h : 1000 ≤ k) : ad X k = X.2.2.2.2.1 k := by unfold ad; rw [if_neg (by omega)]
theorem okv_o {n k : Nat} (h : 1000 ≤ k) : okv n (vR (some k)) := fun k' hk => by cases hk; right; exact h
theorem sn_gcs (hd : decode (m_bt y) pc = .ok (.getstatic 38, 3)) (ho : clN (m_ow y) = "java/lang/String") (hh : WPn y d b (pc + 3) L (vI 1 :: S) M Q) : WPn y d b pc L S M Q := by
  intro X p l e R s m args below meth c H locs Qf ls na0 hC hM hS hL hW hl hn hR
  have hE := hC.2.2.2.2.2.2.2.2.2.2.2.2
  have ho2 := hC.2.2.2.2.1
  rw [ho] at ho2
  obtain ⟨cf, kf, fi, f, a, cell, h1, h2, h3, h4, h5, h6, h7, h8⟩ := hE.2.2.2.2.2.2.1
  have := hh X p l e R s m args below meth c H locs Qf ls na0 hC hM (okS_cons (v := vI 1) (by show ir 1; unfold ir; omega) hS) hL hW hl hn hR
  exact W.gets (g := F0 m pc ls (S.map (rv X))) hC.1 hC.2.1 ho2 (hC.2.2.2.2.2.1 _ (mem_3 44 (by decide +kernel) rfl)) h1 h2 h3 h4 (ext_at hW h5) (fun e => by rw [e] at h6; cases h6) h7 rfl hd this
theorem sn_gco {i : Nat} (hi : i < 14) (hd : decode (m_bt y) pc = .ok (.getfield 15, 3)) (ho : clN (m_ow y) = "java/lang/String") (hh : WPn y d b (pc + 3) L (vI 0 :: S) M Q) : WPn y d b pc L (vR (some (1010 + i)) :: S) M Q := by
  intro X p l e R s m args below meth c H locs Qf ls na0 hC hM hS hL hW hl hn hR
  have hE := hC.2.2.2.2.2.2.2.2.2.2.2.2
  have ho2 := hC.2.2.2.2.1
  rw [ho] at ho2
  obtain ⟨cf, k, fi, f, cell, h1, h2, h3, h4, h5, h6⟩ := (hE.2.2.2.2.2.1.1.1 i hi).2.1
  have := hh X p l e R s m args below meth c H locs Qf ls na0 hC hM (okS_cons (v := vI 0) (by show ir 0; unfold ir; omega) (okS_tl hS)) hL hW hl hn hR
  simp only [List.map_cons, rv] at this ⊢
  rw [ad_o X (by omega)]
  exact W.getf hC.1 hC.2.1 ho2 (hC.2.2.2.2.2.1 _ (mem_8 143 (by decide +kernel) rfl)) h1 h2 (ext_at hW h3) h4 (v := .int 0) h5 rfl rfl hd this
theorem sn_gva {i : Nat} (hi : i < 14) (hd : decode (m_bt y) pc = .ok (.getfield 9, 3)) (ho : clN (m_ow y) = "java/lang/String") (hh : WPn y d b (pc + 3) L (vR (some (1040 + i)) :: S) M Q) : WPn y d b pc L (vR (some (1010 + i)) :: S) M Q := by
  intro X p l e R s m args below meth c H locs Qf ls na0 hC hM hS hL hW hl hn hR
  have hE := hC.2.2.2.2.2.2.2.2.2.2.2.2
  have ho2 := hC.2.2.2.2.1
  rw [ho] at ho2
  obtain ⟨cf, k, fi, f, cell, h1, h2, h3, h4, h5, h6⟩ := (hE.2.2.2.2.2.1.1.1 i hi).2.2.1
  have := hh X p l e R s m args below meth c H locs Qf ls na0 hC hM (okS_cons (v := vR (some (1040 + i))) (okv_o (by omega)) (okS_tl hS)) hL hW hl hn hR
  simp only [List.map_cons, rv] at this ⊢
  rw [ad_o X (by omega)] at this ⊢
  exact W.getf hC.1 hC.2.1 ho2 (hC.2.2.2.2.2.1 _ (mem_8 142 (by decide +kernel) rfl)) h1 h2 (ext_at hW h3) h4 (v := .ref (X.2.2.2.2.1 (1040 + i))) h5 rfl rfl hd this
/-- a word's length and bytes -/
def sln (i : Nat) : Nat := (stA i).2.2.length
def sby (i j : Nat) : Int := (stA i).2.2.getD j 0
theorem sln_i : ∀ i : Nat, i < 14 → (strL.map fun q => q.2.2.length).getD i 0 = sln i ∧ sln i ≤ 6 ∧ Int32.ofNat (sln i) = i3 (sln i : Int) := by decide +kernel
theorem sby_i : ∀ i : Nat, i < 14 → ∀ j : Nat, j < 6 → ((strL.map fun q => q.2.2.map i3).getD i []).getD j 0 = i3 (sby i j) ∧ (0 ≤ sby i j ∧ sby i j < 128) ∧ bAnd (sby i j) 255 = sby i j ∧ ((i3 (sby i j)).toUInt32 % 65536).toInt32 = i3 (sby i j) ∧ narrow .char (.int (i3 (sby i j))) = .int (i3 (sby i j)) := by decide +kernel
theorem sn_aln {i : Nat} (hi : i < 14) (hd : decode (m_bt y) pc = .ok (.arraylength, 1)) (hh : WPn y d b (pc + 1) L (vI (sln i : Int) :: S) M Q) : WPn y d b pc L (vR (some (1040 + i)) :: S) M Q := by
  intro X p l e R s m args below meth c H locs Qf ls na0 hC hM hS hL hW hl hn hR
  have hE := hC.2.2.2.2.2.2.2.2.2.2.2.2
  obtain ⟨cell, g1, g2, g3, g4, g5, g6, g7⟩ := (hE.2.2.2.2.2.1.1.1 i hi).2.2.2
  obtain ⟨l1, l2, l3⟩ := sln_i i hi
  rw [l1, l3] at g5
  have := hh X p l e R s m args below meth c H locs Qf ls na0 hC hM (okS_cons (v := vI (sln i : Int)) (by show ir _; unfold ir; omega) (okS_tl hS)) hL hW hl hn hR
  simp only [List.map_cons, rv] at this ⊢
  rw [ad_o X (by omega)]
  exact W.alen (g := F0 m pc ls (Value.ref (X.2.2.2.2.1 (1040 + i)) :: S.map (rv X))) (n := i3 (sln i : Int)) hC.1 hC.2.1 (ext_at hW g1) g2 g5 rfl rfl hd this
theorem sn_bld {i : Nat} {j : Int} (hi : i < 14) (h0 : 0 ≤ j) (h1 : j < sln i) (hd : decode (m_bt y) pc = .ok (.baload, 1)) (hh : WPn y d b (pc + 1) L (vI (sby i j.toNat) :: S) M Q) : WPn y d b pc L (vI j :: vR (some (1040 + i)) :: S) M Q := by
  intro X p l e R s m args below meth c H locs Qf ls na0 hC hM hS hL hW hl hn hR
  have hE := hC.2.2.2.2.2.2.2.2.2.2.2.2
  obtain ⟨cell, g1, g2, g3, g4, g5, g6, g7⟩ := (hE.2.2.2.2.2.1.1.1 i hi).2.2.2
  obtain ⟨l1, l2, l3⟩ := sln_i i hi
  have B := sby_i i hi j.toNat (by omega)
  have hj : ir j := okS_hd hS
  have hcl := i3_clamp hj
  rw [l1] at g4 g6
  have ge : cell.slots[j.toNat]? = some (.int (i3 (sby i j.toNat))) := by rw [g6 j.toNat (by omega), ← B.1]
  have := hh X p l e R s m args below meth c H locs Qf ls na0 hC hM (okS_cons (v := vI (sby i j.toNat)) (by show ir _; unfold ir; omega) (okS_tl (okS_tl hS))) hL hW hl hn hR
  simp only [List.map_cons, rv] at this ⊢
  rw [ad_o X (by omega)]
  exact W.bald (g := F0 m pc ls (Value.int (i3 j) :: Value.ref (X.2.2.2.2.1 (1040 + i)) :: S.map (rv X))) (j := i3 j) (v := .int (i3 (sby i j.toNat))) hC.1 hC.2.1 (ext_at hW g1) g2 g3 (fun q => i3_in (n := sln i) hj h0 h1 (q.imp id (fun q => Nat.le_trans g4 q))) (by rw [hcl]; exact ge) rfl rfl hd this
theorem sn_i2c {i j : Nat} (hi : i < 14) (hj : j < 6) (hd : decode (m_bt y) pc = .ok (.i2c, 1)) (hh : WPn y d b (pc + 1) L (vI (sby i j) :: S) M Q) : WPn y d b pc L (vI (sby i j) :: S) M Q := by
  intro X p l e R s m args below meth c H locs Qf ls na0 hC hM hS hL hW hl hn hR
  exact lv_i2c hC.1 hC.2.1 hd (sby_i i hi j hj).2.2.2.1 (hh X p l e R s m args below meth c H locs Qf ls na0 hC hM hS hL hW hl hn hR)
/-! the JDK's methods -/
theorem mk_283 : MLok (14, 335, 283, 0) := ⟨⟨(mem_3 43 (by decide +kernel) rfl), (mem_1 15 (by decide +kernel) rfl), ⟨by decide +kernel, by decide +kernel⟩, by decide +kernel, by decide +kernel, by decide +kernel⟩, fun _ => ⟨(mem_3 40 (by decide +kernel) rfl), (mem_3 41 (by decide +kernel) rfl), (mem_3 42 (by decide +kernel) rfl)⟩, fun h => absurd h (by decide), fun h => absurd h (by decide), fun h => absurd h (by decide), fun h => absurd h (by decide)⟩
theorem mk_284 : MLok (14, 492, 284, 0) := ⟨⟨(mem_3 53 (by decide +kernel) rfl), (mem_1 15 (by decide +kernel) rfl), ⟨by decide +kernel, by decide +kernel⟩, by decide +kernel, by decide +kernel, by decide +kernel⟩, fun _ => ⟨(mem_3 50 (by decide +kernel) rfl), (mem_3 51 (by decide +kernel) rfl), (mem_3 52 (by decide +kernel) rfl)⟩, fun h => absurd h (by decide), fun h => absurd h (by decide), fun h => absurd h (by decide), fun h => absurd h (by decide)⟩
theorem mk_286 : MLok (14, 495, 286, 1) := ⟨⟨(mem_3 56 (by decide +kernel) rfl), (mem_1 16 (by decide +kernel) rfl), ⟨by decide +kernel, by decide +kernel⟩, by decide +kernel, by decide +kernel, by decide +kernel⟩, fun h => absurd h (by decide), fun _ => ⟨(mem_3 54 (by decide +kernel) rfl), (mem_3 55 (by decide +kernel) rfl)⟩, fun h => absurd h (by decide), fun h => absurd h (by decide), fun h => absurd h (by decide)⟩
theorem mk_285 : MLok (15, 9, 285, 1) := ⟨⟨(mem_3 59 (by decide +kernel) rfl), (mem_1 15 (by decide +kernel) rfl), ⟨by decide +kernel, by decide +kernel⟩, by decide +kernel, by decide +kernel, by decide +kernel⟩, fun h => absurd h (by decide), fun _ => ⟨(mem_3 57 (by decide +kernel) rfl), (mem_3 58 (by decide +kernel) rfl)⟩, fun h => absurd h (by decide), fun h => absurd h (by decide), fun h => absurd h (by decide)⟩
theorem k_coder {i : Nat} (hi : i < 14) (hb : M.2.2 = b) (h : Q (some (vI 0)) M) : WPc 283 d b [vR (some (1010 + i))] M Q := by
  refine WPc_ofn [some (vR (some (1010 + i)))] (by decide +kernel) (by decide +kernel) (Nat.le_of_ble_eq_true rfl) rfl ?_
  refine sn_gcs (by decide +kernel) (by decide +kernel) ?_
  refine sn_if (tgt := 13) (by decide +kernel : decode (m_bt 283) 3 = .ok (.ifCond .eq 10, 3)) rfl (fun q => absurd q (show ¬ (1 : Int) = 0 by decide)) (fun _ => ?_)
  refine sn_aload_n (k := 0) (by decide +kernel) rfl ?_
  refine sn_gco hi (by decide +kernel) (by decide +kernel) ?_
  refine sn_goto (tgt := 14) (by decide +kernel : decode (m_bt 283) 10 = .ok (.goto 4, 3)) rfl ?_
  exact sn_iretn (by decide +kernel) (Or.inl ⟨by decide +kernel, rfl⟩) hb h
theorem k_latin {i : Nat} (hi : i < 14) (hb : M.2.2 = b) (h : Q (some (vI 1)) M) : WPc 284 d b [vR (some (1010 + i))] M Q := by
  refine WPc_ofn [some (vR (some (1010 + i)))] (by decide +kernel) (by decide +kernel) (Nat.le_of_ble_eq_true rfl) rfl ?_
  refine sn_gcs (by decide +kernel) (by decide +kernel) ?_
  refine sn_if (tgt := 17) (by decide +kernel : decode (m_bt 284) 3 = .ok (.ifCond .eq 14, 3)) rfl (fun q => absurd q (show ¬ (1 : Int) = 0 by decide)) (fun _ => ?_)
  refine sn_aload_n (k := 0) (by decide +kernel) rfl ?_
  refine sn_gco hi (by decide +kernel) (by decide +kernel) ?_
  refine sn_if (tgt := 17) (by decide +kernel : decode (m_bt 284) 10 = .ok (.ifCond .ne 7, 3)) rfl (fun q => absurd rfl q) (fun _ => ?_)
  refine sn_iconst (n := 1) (by decide +kernel) (by unfold ir; omega) ?_
  refine sn_goto (tgt := 18) (by decide +kernel : decode (m_bt 284) 14 = .ok (.goto 4, 3)) rfl ?_
  exact sn_ireturn (by decide +kernel) (Or.inr ⟨by decide +kernel, Or.inr rfl⟩) hb h
theorem shr0 : ∀ i : Nat, i < 14 → iShr (sln i : Int) 0 = sln i := by decide +kernel
theorem k_length {i : Nat} (hi : i < 14) (hd : 1 ≤ d) (hb : M.2.2 = b) (h : Q (some (vI (sln i : Int))) M) : WPc 281 d b [vR (some (1010 + i))] M Q := by
  refine WPc_ofn [some (vR (some (1010 + i)))] (by decide +kernel) (by decide +kernel) (Nat.le_of_ble_eq_true rfl) rfl ?_
  refine sn_aload_n (k := 0) (by decide +kernel) rfl ?_
  refine sn_gva hi (by decide +kernel) (by decide +kernel) ?_
  refine sn_aln hi (by decide +kernel) ?_
  refine sn_aload_n (k := 0) (by decide +kernel) rfl ?_
  refine sn_callT (as := []) (S := [vI (sln i : Int)]) (y' := 283) (d' := d - 1) (b' := M.2.2) (idx := 335) (by decide +kernel) mk_283 hi (by decide +kernel) (by decide +kernel) (Nat.le_of_ble_eq_true rfl) (by decide +kernel) (by omega) (by rw [(by decide +kernel : m_mc 283 = 0)]; rfl) (by omega) (by rw [(by decide +kernel : m_ms 283 = 0)]; rfl) ?_
  refine k_coder hi rfl ?_
  refine sn_ishr (by decide +kernel) ?_
  rw [shr0 i hi]
  exact sn_ireturn (by decide +kernel) (Or.inl (by decide +kernel)) hb h
/-- Preconditions.checkIndex, where the index is right -/
def Pc292 (X : Cx) (b : Nat) (i n : Int) (M : Mem) : Array Value → State → Prop := fun v U => (∃ f : Value, (f = .null ∨ ∃ a, f = .ref a) ∧ v = #[.int (i3 i), .int (i3 n), f]) ∧ Ev X U ∧ okM X M ∧ (ir i ∧ ir n) ∧ Wd X M U.heap ∧ M.2.2 = b
theorem pc_b2 (X : Cx) (b : Nat) (i n : Int) (M : Mem) : FrameBlind (Pc292 X b i n M) := fun a U g mk h => ⟨h.1, Ev.same (s := U) rfl h.2.1, h.2.2⟩
theorem k_pre {X : Cx} {l : Launch} {i n : Int} (h0 : 0 ≤ i) (h1 : i < n) (h : Q (some (vI i)) M) : Met l (m_nm 292) (wsY 292) (rmY 292 d) (Pc292 X b i n M) (QcY X b Q) 0 0 (Anew X) := by
  have hWP : WPn 292 d b 0 [some (vI i), some (vI n), none] [] M Q ∨ ¬ M.2.2 = b := by
    by_cases hb : M.2.2 = b
    · refine Or.inl ?_
      refine sn_iload_n (k := 0) (by decide +kernel) rfl ?_
      refine sn_if (tgt := 9) (by decide +kernel : decode (m_bt 292) 1 = .ok (.ifCond .lt 8, 3)) rfl (fun q => absurd q (show ¬ i < 0 by omega)) (fun _ => ?_)
      refine sn_iload_n (k := 0) (by decide +kernel) rfl ?_
      refine sn_iload_n (k := 1) (by decide +kernel) rfl ?_
      refine sn_icmp (tgt := 16) (by decide +kernel : decode (m_bt 292) 6 = .ok (.if_icmp .lt 10, 3)) rfl (fun _ => ?_) (fun q => absurd (show i < n from h1) q)
      refine sn_iload_n (k := 0) (by decide +kernel) rfl ?_
      exact sn_ireturn (by decide +kernel) (Or.inl (by decide +kernel)) hb h
    · exact Or.inr hb
  refine Met.ofW (cc := m_bt 292) (maxL := m_ml 292) (ret := m_rt 292) (by decide +kernel) rfl ?_
  intro p e s m args below meth c s₁ B hml hv
  obtain ⟨⟨f, hf, rfl⟩, hE, hM, hir, hW, hb⟩ := hv
  have hWP := hWP.resolve_right (fun q => q hb)
  have hts := atoms_spec (ws := wsY 292) B.pre
  have hown : s.vm.findClass (m_nm 292).cls = some m.cls := findClass_of_methodNamed B.named
  rw [show (m_nm 292).cls = clN (m_ow 292) by decide +kernel] at hown
  have hin : meth.name = (m_nm 292).name := (name_of_methodNamed B.named B.method).1
  have e1 : #[Value.int (i3 i), Value.int (i3 n), f] = ([Value.int (i3 i), Value.int (i3 n), f] : List Value).toArray := rfl
  have hC : Cn X 292 d b p (headSpec (wsY 292) (rmY 292 d)).room s m #[Value.int (i3 i), Value.int (i3 n), f] meth c M.2.2 :=
    ⟨B.exec, B.bytes, B.returns, hml, hown, fun w hw => hts w (List.mem_cons_of_mem _ hw), B.notSynchronized, fun hi => by rw [hin, hi], Nat.le_refl _, Nat.le_refl _, by rw [hb, Nat.sub_self]; exact Nat.zero_le _, by rw [hb, Nat.sub_self]; exact Nat.zero_le _, hE⟩
  have hlen : (lg_sl [Value.int (i3 i), Value.int (i3 n), f]).length ≤ m_ml 292 := by
    rcases hf with rfl | ⟨a, rfl⟩ <;> exact Nat.le_of_ble_eq_true rfl
  have hent := lv_entry ([Value.int (i3 i), Value.int (i3 n), f]) (n := m_ml 292) hlen
  rw [e1, lg_entry_eq]
  have hokL : okL X [some (vI i), some (vI n), none] M.2.2 ((lg_sl [Value.int (i3 i), Value.int (i3 n), f] ++ List.replicate (m_ml 292 - (lg_sl [Value.int (i3 i), Value.int (i3 n), f]).length) Slot.unset).toArray) (m_ml 292) := by
    refine ⟨rfl, fun k v hv => ?_, _, hent, fun k v hv => ?_⟩
    · match k, hv with
      | 0, hv => simp at hv; subst hv; exact hir.1
      | 1, hv => simp at hv; subst hv; exact hir.2
      | 2, hv => simp at hv
      | k + 3, hv => simp at hv
    · match k, hv with
      | 0, hv => simp at hv; subst hv; exact List.mem_cons_self
      | 1, hv => simp at hv; subst hv; exact List.mem_cons_of_mem _ List.mem_cons_self
      | 2, hv => simp at hv
      | k + 3, hv => simp at hv
  have hRt : Rtn X 292 b p l e (headSpec (wsY 292) (rmY 292 d)).room s m #[Value.int (i3 i), Value.int (i3 n), f] below meth c (MQ below (QcY X b Q) #[Value.int (i3 i), Value.int (i3 n), f] s 0 0 (Anew X)) M.2.2 Q := by
    intro r M' H' locs' pc' ls' ii hQ hM' hokr hW' hl' hb' hri hdec
    rw [hb, Nat.sub_self, Nat.sub_self]
    have hq : ∀ t : State, t.heap = H' → s.WarmedH t.vm → QcY X b Q #[Value.int (i3 i), Value.int (i3 n), f] s (.returned (r.map (rv X))) t := fun t ht _ => ⟨r, M', rfl, hQ, hM', hokr, by rw [ht]; exact hW', hb'⟩
    have hlocks := B.notSynchronized
    have hrt : m_rt 292 = some .int := by decide +kernel
    rcases hri with hri | ⟨rfl, z, rfl, hz⟩
    · rcases r with _ | (z | z | r)
      · rw [hri.2] at hrt; cases hrt
      · obtain ⟨rfl, hr⟩ := hri
        exact W.iret (hlocks := hlocks) B.exec B.bytes (B.returns.trans hrt) hq hl' hdec
      · rw [hri.2] at hrt; cases hrt
      · exact hri.elim
    · exact W.iret (hlocks := hlocks) B.exec B.bytes (B.returns.trans hrt) hq hl' hdec
  have := hWP X p l e (headSpec (wsY 292) (rmY 292 d)).room s m #[Value.int (i3 i), Value.int (i3 n), f] below meth c s.heap [] _ _ M.2.2 hC hM (fun v hv => by cases hv) hokL hW (fun q hq => by cases hq) ⟨Nat.le_refl _, by omega⟩ hRt
  rw [Nat.sub_self, Nat.sub_self] at this
  exact this
end STRB
