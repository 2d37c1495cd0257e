section LAW
variable {Q : Option AV → Mem → Prop}
abbrev LL (i : Int) : Lc := [some (aR 1000), some (aR 0), some (aR 134), some (vI i)]
theorem WPc.row {y d b : Nat} {as : List AV} {M : Mem} {Q : Option AV → Mem → Prop} (h : WPc y d b as M Q) : WPc y d b as M (fun r M' => M'.1 1000 = M.1 1000 ∧ Q r M') := by
  intro X l p e ha hc hk s m args below hf happ hP hK
  obtain ⟨n, o, h1, h2, h3, ⟨r, M', q1, q2, q3, q4⟩, hF⟩ := h X l p e ha hc hk s m args below hf happ hP hK
  refine ⟨n, o, h1, h2, h3, ⟨r, M', q1, ⟨?_, q2⟩, q3, q4⟩, hF⟩
  have a := hP.2.2.1
  funext j
  cases j with
  | zero => rw [q3.2.2.2.1, a.2.2.2.1]
  | succ j => rw [q3.2.2.2.2 j, a.2.2.2.2 j]
theorem lw_arg {X : Nat → Int} {pc : Nat} {i k : Int} {S : List AV} {m : MT} (h1 : decode (m_bt 0) pc = .ok (.aload_n 0, 1)) (h2 : decode (m_bt 0) (pc + 1) = .ok (.iload_n 3, 1)) (h3 : decode (m_bt 0) (pc + 1 + 1) = .ok (.iconst k, 1)) (h4 : decode (m_bt 0) (pc + 1 + 1 + 1) = .ok (.iadd, 1)) (h5 : decode (m_bt 0) (pc + 1 + 1 + 1 + 1) = .ok (.iaload, 1)) (hX : m 1000 = X) (hi : (0 ≤ i ∧ i + 8 ≤ X 0) ∧ X 0 ≤ 4096) (hk : 0 ≤ k ∧ k < 8) (h : WP 0 1000 172 (pc + 1 + 1 + 1 + 1 + 1) (LL i) (vI (X ((i + k).toNat + 1)) :: S) (G m) Q) : WP 0 1000 172 pc (LL i) S (G m) Q := by
  subst hX
  refine so_aload_n (k := 0) h1 rfl ?_
  refine so_iload_n (k := 3) h2 rfl ?_
  refine so_iconst (n := k) h3 (by unfold ir; omega) ?_
  refine so_iadd h4 ?_
  rw [wr_id (by omega)]
  exact so_ialoadX (M := G m) h5 (by omega) (by show i + k < m 1000 0; omega) h
theorem lw_ar6 {X : Nat → Int} {pc : Nat} {i k : Int} {S : List AV} {m : MT} (h1 : decode (m_bt 0) pc = .ok (.aload_n 0, 1)) (h2 : decode (m_bt 0) (pc + 1) = .ok (.iload_n 3, 1)) (h3 : decode (m_bt 0) (pc + 1 + 1) = .ok (.bipush k, 2)) (h4 : decode (m_bt 0) (pc + 1 + 1 + 2) = .ok (.iadd, 1)) (h5 : decode (m_bt 0) (pc + 1 + 1 + 2 + 1) = .ok (.iaload, 1)) (hX : m 1000 = X) (hi : (0 ≤ i ∧ i + 8 ≤ X 0) ∧ X 0 ≤ 4096) (hk : 0 ≤ k ∧ k < 8) (he : (Int8.ofInt k).toInt32 = i3 k) (h : WP 0 1000 172 (pc + 1 + 1 + 2 + 1 + 1) (LL i) (vI (X ((i + k).toNat + 1)) :: S) (G m) Q) : WP 0 1000 172 pc (LL i) S (G m) Q := by
  subst hX
  refine so_aload_n (k := 0) h1 rfl ?_
  refine so_iload_n (k := 3) h2 rfl ?_
  refine so_bipush (n := k) h3 (by unfold ir; omega) he ?_
  refine so_iadd h4 ?_
  rw [wr_id (by omega)]
  exact so_ialoadX (M := G m) h5 (by omega) (by show i + k < m 1000 0; omega) h
/-- on to the next call -/
theorem lw_next {i : Int} {m : MT} (hi : 0 ≤ i ∧ i + 8 ≤ 4096) (h : WP 0 1000 172 18 (LL (i + 8)) [] (G m) Q) : WP 0 1000 172 1547 (LL i) [] (G m) Q := by
  refine so_iinc (k := 3) (n := 8) (by decide +kernel) rfl ?_
  rw [wr_id (by omega)]
  exact so_goto (tgt := 18) (by decide +kernel : decode (m_bt 0) 1550 = .ok (.goto (-1532), 3)) rfl h
theorem lc_0 {mi : MT} {i : Int} (hV : Inv mi) (hi : (0 ≤ i ∧ i + 8 ≤ mi 1000 0) ∧ mi 1000 0 ≤ 4096) (NX : ∀ m2 : MT, Inv m2 → m2 1000 = mi 1000 → WP 0 1000 172 18 (LL (i + 8)) [] (G m2) Q) : WP 0 1000 172 192 (LL i) [] (G mi) Q := by
  refine so_aload_n (k := 1) (by decide +kernel) rfl ?_
  refine lw_arg (k := 1) (by decide +kernel) (by decide +kernel) (by decide +kernel) (by decide +kernel) (by decide +kernel) rfl hi (by omega) ?_
  refine lw_arg (k := 2) (by decide +kernel) (by decide +kernel) (by decide +kernel) (by decide +kernel) (by decide +kernel) rfl hi (by omega) ?_
  refine lw_arg (k := 3) (by decide +kernel) (by decide +kernel) (by decide +kernel) (by decide +kernel) (by decide +kernel) rfl hi (by omega) ?_
  refine lw_arg (k := 4) (by decide +kernel) (by decide +kernel) (by decide +kernel) (by decide +kernel) (by decide +kernel) rfl hi (by omega) ?_
  refine lw_arg (k := 5) (by decide +kernel) (by decide +kernel) (by decide +kernel) (by decide +kernel) (by decide +kernel) rfl hi (by omega) ?_
  refine so_callV (idx := 13) (y' := 130) (h := 0) (d' := 999) (b' := 172) (as := [vI (mi 1000 ((i + 1).toNat + 1)), vI (mi 1000 ((i + 2).toNat + 1)), vI (mi 1000 ((i + 3).toNat + 1)), vI (mi 1000 ((i + 4).toNat + 1)), vI (mi 1000 ((i + 5).toNat + 1))]) (S := []) (by decide +kernel) (by decide +kernel) (by decide +kernel) (show 5 = m_na 130 by decide +kernel) (Nat.le_of_ble_eq_true rfl) (by decide +kernel) (by decide) (by rw [(by decide +kernel : m_mc 130 = 0)]) (by decide) (by rw [(by decide +kernel : m_ms 130 = 0), Nat.add_zero]) ?_
  refine WPc.mono (WPc.row (Jd.get (ca_feed (d := 999) hV.1 (by omega)))) ?_
  rintro r M' ⟨er, z, m1, rfl, rfl, hz⟩
  refine so_aload_n (k := 2) (by decide +kernel) rfl ?_
  refine lw_arg (k := 1) (by decide +kernel) (by decide +kernel) (by decide +kernel) (by decide +kernel) (by decide +kernel) er hi (by omega) ?_
  refine lw_arg (k := 2) (by decide +kernel) (by decide +kernel) (by decide +kernel) (by decide +kernel) (by decide +kernel) er hi (by omega) ?_
  refine lw_arg (k := 3) (by decide +kernel) (by decide +kernel) (by decide +kernel) (by decide +kernel) (by decide +kernel) er hi (by omega) ?_
  refine lw_arg (k := 4) (by decide +kernel) (by decide +kernel) (by decide +kernel) (by decide +kernel) (by decide +kernel) er hi (by omega) ?_
  refine lw_arg (k := 5) (by decide +kernel) (by decide +kernel) (by decide +kernel) (by decide +kernel) (by decide +kernel) er hi (by omega) ?_
  refine so_callV (idx := 17) (y' := 182) (h := 134) (d' := 999) (b' := 172) (as := [vI (mi 1000 ((i + 1).toNat + 1)), vI (mi 1000 ((i + 2).toNat + 1)), vI (mi 1000 ((i + 3).toNat + 1)), vI (mi 1000 ((i + 4).toNat + 1)), vI (mi 1000 ((i + 5).toNat + 1))]) (S := [vI z]) (by decide +kernel) (by decide +kernel) (by decide +kernel) (show 5 = m_na 182 by decide +kernel) (Nat.le_of_ble_eq_true rfl) (by decide +kernel) (by decide) (by rw [(by decide +kernel : m_mc 182 = 0)]) (by decide) (by rw [(by decide +kernel : m_ms 182 = 0), Nat.add_zero]) ?_
  refine WPc.mono (Jd.get hz) ?_
  rintro r M' ⟨z', m2, rfl, rfl, hb⟩
  obtain ⟨ez, b, k⟩ := Jd.get hb
  subst ez
  exact so_icmp (tgt := 1547) (x := z) (z := z) (by decide +kernel : decode (m_bt 0) 250 = .ok (.if_icmp .eq 1297, 3)) rfl (fun _ => lw_next (by omega) (NX m2 (Inv_kp hV b k) (k.1 1000 rfl))) (fun w => absurd rfl w)
theorem lc_1 {mi : MT} {i : Int} (hV : Inv mi) (hi : (0 ≤ i ∧ i + 8 ≤ mi 1000 0) ∧ mi 1000 0 ≤ 4096) (NX : ∀ m2 : MT, Inv m2 → m2 1000 = mi 1000 → WP 0 1000 172 18 (LL (i + 8)) [] (G m2) Q) : WP 0 1000 172 255 (LL i) [] (G mi) Q := by
  refine so_aload_n (k := 1) (by decide +kernel) rfl ?_
  refine lw_arg (k := 1) (by decide +kernel) (by decide +kernel) (by decide +kernel) (by decide +kernel) (by decide +kernel) rfl hi (by omega) ?_
  refine so_callV (idx := 18) (y' := 131) (h := 0) (d' := 999) (b' := 172) (as := [vI (mi 1000 ((i + 1).toNat + 1))]) (S := []) (by decide +kernel) (by decide +kernel) (by decide +kernel) (show 1 = m_na 131 by decide +kernel) (Nat.le_of_ble_eq_true rfl) (by decide +kernel) (by decide) (by rw [(by decide +kernel : m_mc 131 = 0)]) (by decide) (by rw [(by decide +kernel : m_ms 131 = 0), Nat.add_zero]) ?_
  refine WPc.mono (WPc.row (Jd.get (ca_end (d := 999) hV.1 (by omega)))) ?_
  rintro r M' ⟨er, z, m1, rfl, rfl, hz⟩
  refine so_aload_n (k := 2) (by decide +kernel) rfl ?_
  refine lw_arg (k := 1) (by decide +kernel) (by decide +kernel) (by decide +kernel) (by decide +kernel) (by decide +kernel) er hi (by omega) ?_
  refine so_callV (idx := 22) (y' := 183) (h := 134) (d' := 999) (b' := 172) (as := [vI (mi 1000 ((i + 1).toNat + 1))]) (S := [vI z]) (by decide +kernel) (by decide +kernel) (by decide +kernel) (show 1 = m_na 183 by decide +kernel) (Nat.le_of_ble_eq_true rfl) (by decide +kernel) (by decide) (by rw [(by decide +kernel : m_mc 183 = 0)]) (by decide) (by rw [(by decide +kernel : m_ms 183 = 0), Nat.add_zero]) ?_
  refine WPc.mono (Jd.get hz) ?_
  rintro r M' ⟨z', m2, rfl, rfl, hb⟩
  obtain ⟨ez, b, k⟩ := Jd.get hb
  subst ez
  exact so_icmp (tgt := 1547) (x := z) (z := z) (by decide +kernel : decode (m_bt 0) 273 = .ok (.if_icmp .eq 1274, 3)) rfl (fun _ => lw_next (by omega) (NX m2 (Inv_kp hV b k) (k.1 1000 rfl))) (fun w => absurd rfl w)
theorem lc_2 {mi : MT} {i : Int} (hV : Inv mi) (hi : (0 ≤ i ∧ i + 8 ≤ mi 1000 0) ∧ mi 1000 0 ≤ 4096) (NX : ∀ m2 : MT, Inv m2 → m2 1000 = mi 1000 → WP 0 1000 172 18 (LL (i + 8)) [] (G m2) Q) : WP 0 1000 172 278 (LL i) [] (G mi) Q := by
  refine so_aload_n (k := 1) (by decide +kernel) rfl ?_
  refine so_callV (idx := 23) (y' := 132) (h := 0) (d' := 999) (b' := 172) (as := []) (S := []) (by decide +kernel) (by decide +kernel) (by decide +kernel) (show 0 = m_na 132 by decide +kernel) (Nat.le_of_ble_eq_true rfl) (by decide +kernel) (by decide) (by rw [(by decide +kernel : m_mc 132 = 0)]) (by decide) (by rw [(by decide +kernel : m_ms 132 = 0), Nat.add_zero]) ?_
  refine WPc.mono (WPc.row (Jd.get (ca_sign (d := 999) hV.1 (by omega)))) ?_
  rintro r M' ⟨er, z, m1, rfl, rfl, hz⟩
  refine so_aload_n (k := 2) (by decide +kernel) rfl ?_
  refine so_callV (idx := 27) (y' := 194) (h := 134) (d' := 999) (b' := 172) (as := []) (S := [vI z]) (by decide +kernel) (by decide +kernel) (by decide +kernel) (show 0 = m_na 194 by decide +kernel) (Nat.le_of_ble_eq_true rfl) (by decide +kernel) (by decide) (by rw [(by decide +kernel : m_mc 194 = 0)]) (by decide) (by rw [(by decide +kernel : m_ms 194 = 0), Nat.add_zero]) ?_
  refine WPc.mono (Jd.get hz) ?_
  rintro r M' ⟨z', m2, rfl, rfl, hb⟩
  obtain ⟨ez, b, k⟩ := Jd.get hb
  subst ez
  exact so_icmp (tgt := 1547) (x := z) (z := z) (by decide +kernel : decode (m_bt 0) 286 = .ok (.if_icmp .eq 1261, 3)) rfl (fun _ => lw_next (by omega) (NX m2 (Inv_kp hV b k) (k.1 1000 rfl))) (fun w => absurd rfl w)
theorem lc_3 {mi : MT} {i : Int} (hV : Inv mi) (hi : (0 ≤ i ∧ i + 8 ≤ mi 1000 0) ∧ mi 1000 0 ≤ 4096) (NX : ∀ m2 : MT, Inv m2 → m2 1000 = mi 1000 → WP 0 1000 172 18 (LL (i + 8)) [] (G m2) Q) : WP 0 1000 172 291 (LL i) [] (G mi) Q := by
  refine so_aload_n (k := 1) (by decide +kernel) rfl ?_
  refine so_callV (idx := 28) (y' := 133) (h := 0) (d' := 999) (b' := 172) (as := []) (S := []) (by decide +kernel) (by decide +kernel) (by decide +kernel) (show 0 = m_na 133 by decide +kernel) (Nat.le_of_ble_eq_true rfl) (by decide +kernel) (by decide) (by rw [(by decide +kernel : m_mc 133 = 0)]) (by decide) (by rw [(by decide +kernel : m_ms 133 = 0), Nat.add_zero]) ?_
  refine WPc.mono (WPc.row (Jd.get (ca_rules (d := 999) hV.1 hV.2.1 (by omega)))) ?_
  rintro r M' ⟨er, z, m1, rfl, rfl, hz⟩
  refine so_aload_n (k := 2) (by decide +kernel) rfl ?_
  refine so_callV (idx := 31) (y' := 210) (h := 134) (d' := 999) (b' := 172) (as := []) (S := [vI z]) (by decide +kernel) (by decide +kernel) (by decide +kernel) (show 0 = m_na 210 by decide +kernel) (Nat.le_of_ble_eq_true rfl) (by decide +kernel) (by decide) (by rw [(by decide +kernel : m_mc 210 = 0)]) (by decide) (by rw [(by decide +kernel : m_ms 210 = 0), Nat.add_zero]) ?_
  refine WPc.mono (Jd.get hz) ?_
  rintro r M' ⟨z', m2, rfl, rfl, hb⟩
  obtain ⟨ez, b, u, k⟩ := Jd.get hb
  subst ez
  exact so_icmp (tgt := 1547) (x := z) (z := z) (by decide +kernel : decode (m_bt 0) 299 = .ok (.if_icmp .eq 1248, 3)) rfl (fun _ => lw_next (by omega) (NX m2 ⟨b, u, Lat_kr hV.2.2.1 k, Img_kr hV.2.2.2 k⟩ (k.1 1000 rfl (by omega) (by omega)))) (fun w => absurd rfl w)
theorem lc_4 {mi : MT} {i : Int} (hV : Inv mi) (hi : (0 ≤ i ∧ i + 8 ≤ mi 1000 0) ∧ mi 1000 0 ≤ 4096) (NX : ∀ m2 : MT, Inv m2 → m2 1000 = mi 1000 → WP 0 1000 172 18 (LL (i + 8)) [] (G m2) Q) : WP 0 1000 172 304 (LL i) [] (G mi) Q := by
  refine so_aload_n (k := 1) (by decide +kernel) rfl ?_
  refine so_callV (idx := 32) (y' := 134) (h := 0) (d' := 999) (b' := 172) (as := []) (S := []) (by decide +kernel) (by decide +kernel) (by decide +kernel) (show 0 = m_na 134 by decide +kernel) (Nat.le_of_ble_eq_true rfl) (by decide +kernel) (by decide) (by rw [(by decide +kernel : m_mc 134 = 0)]) (by decide) (by rw [(by decide +kernel : m_ms 134 = 0), Nat.add_zero]) ?_
  refine WPc.mono (WPc.row (Jd.get (ca_fault (d := 999) hV.1))) ?_
  rintro r M' ⟨er, z, m1, rfl, rfl, hz⟩
  refine so_aload_n (k := 2) (by decide +kernel) rfl ?_
  refine so_callV (idx := 35) (y' := 211) (h := 134) (d' := 999) (b' := 172) (as := []) (S := [vI z]) (by decide +kernel) (by decide +kernel) (by decide +kernel) (show 0 = m_na 211 by decide +kernel) (Nat.le_of_ble_eq_true rfl) (by decide +kernel) (by decide) (by rw [(by decide +kernel : m_mc 211 = 0)]) (by decide) (by rw [(by decide +kernel : m_ms 211 = 0), Nat.add_zero]) ?_
  refine WPc.mono (Jd.get hz) ?_
  rintro r M' ⟨z', m2, rfl, rfl, hb⟩
  obtain ⟨ez, b, k⟩ := Jd.get hb
  subst ez
  exact so_icmp (tgt := 1547) (x := z) (z := z) (by decide +kernel : decode (m_bt 0) 312 = .ok (.if_icmp .eq 1235, 3)) rfl (fun _ => lw_next (by omega) (NX m2 (Inv_kp hV b k) (k.1 1000 rfl))) (fun w => absurd rfl w)
theorem lc_5 {mi : MT} {i : Int} (hV : Inv mi) (hi : (0 ≤ i ∧ i + 8 ≤ mi 1000 0) ∧ mi 1000 0 ≤ 4096) (NX : ∀ m2 : MT, Inv m2 → m2 1000 = mi 1000 → WP 0 1000 172 18 (LL (i + 8)) [] (G m2) Q) : WP 0 1000 172 317 (LL i) [] (G mi) Q := by
  refine so_aload_n (k := 1) (by decide +kernel) rfl ?_
  refine lw_arg (k := 1) (by decide +kernel) (by decide +kernel) (by decide +kernel) (by decide +kernel) (by decide +kernel) rfl hi (by omega) ?_
  refine lw_arg (k := 2) (by decide +kernel) (by decide +kernel) (by decide +kernel) (by decide +kernel) (by decide +kernel) rfl hi (by omega) ?_
  refine lw_arg (k := 3) (by decide +kernel) (by decide +kernel) (by decide +kernel) (by decide +kernel) (by decide +kernel) rfl hi (by omega) ?_
  refine so_callV (idx := 36) (y' := 135) (h := 0) (d' := 999) (b' := 172) (as := [vI (mi 1000 ((i + 1).toNat + 1)), vI (mi 1000 ((i + 2).toNat + 1)), vI (mi 1000 ((i + 3).toNat + 1))]) (S := []) (by decide +kernel) (by decide +kernel) (by decide +kernel) (show 3 = m_na 135 by decide +kernel) (Nat.le_of_ble_eq_true rfl) (by decide +kernel) (by decide) (by rw [(by decide +kernel : m_mc 135 = 0)]) (by decide) (by rw [(by decide +kernel : m_ms 135 = 0), Nat.add_zero]) ?_
  refine WPc.mono (WPc.row (Jd.get (ca_place (d := 999) hV.1 (by omega)))) ?_
  rintro r M' ⟨er, z, m1, rfl, rfl, hz⟩
  refine so_aload_n (k := 2) (by decide +kernel) rfl ?_
  refine lw_arg (k := 1) (by decide +kernel) (by decide +kernel) (by decide +kernel) (by decide +kernel) (by decide +kernel) er hi (by omega) ?_
  refine lw_arg (k := 2) (by decide +kernel) (by decide +kernel) (by decide +kernel) (by decide +kernel) (by decide +kernel) er hi (by omega) ?_
  refine lw_arg (k := 3) (by decide +kernel) (by decide +kernel) (by decide +kernel) (by decide +kernel) (by decide +kernel) er hi (by omega) ?_
  refine so_callV (idx := 40) (y' := 218) (h := 134) (d' := 999) (b' := 172) (as := [vI (mi 1000 ((i + 1).toNat + 1)), vI (mi 1000 ((i + 2).toNat + 1)), vI (mi 1000 ((i + 3).toNat + 1))]) (S := [vI z]) (by decide +kernel) (by decide +kernel) (by decide +kernel) (show 3 = m_na 218 by decide +kernel) (Nat.le_of_ble_eq_true rfl) (by decide +kernel) (by decide) (by rw [(by decide +kernel : m_mc 218 = 0)]) (by decide) (by rw [(by decide +kernel : m_ms 218 = 0), Nat.add_zero]) ?_
  refine WPc.mono (Jd.get hz) ?_
  rintro r M' ⟨z', m2, rfl, rfl, hb⟩
  obtain ⟨ez, b, k⟩ := Jd.get hb
  subst ez
  exact so_icmp (tgt := 1547) (x := z) (z := z) (by decide +kernel : decode (m_bt 0) 355 = .ok (.if_icmp .eq 1192, 3)) rfl (fun _ => lw_next (by omega) (NX m2 (Inv_kp hV b k) (k.1 1000 rfl))) (fun w => absurd rfl w)
theorem lc_6 {mi : MT} {i : Int} (hV : Inv mi) (hi : (0 ≤ i ∧ i + 8 ≤ mi 1000 0) ∧ mi 1000 0 ≤ 4096) (NX : ∀ m2 : MT, Inv m2 → m2 1000 = mi 1000 → WP 0 1000 172 18 (LL (i + 8)) [] (G m2) Q) : WP 0 1000 172 360 (LL i) [] (G mi) Q := by
  refine so_aload_n (k := 1) (by decide +kernel) rfl ?_
  refine lw_arg (k := 1) (by decide +kernel) (by decide +kernel) (by decide +kernel) (by decide +kernel) (by decide +kernel) rfl hi (by omega) ?_
  refine lw_arg (k := 2) (by decide +kernel) (by decide +kernel) (by decide +kernel) (by decide +kernel) (by decide +kernel) rfl hi (by omega) ?_
  refine so_callV (idx := 41) (y' := 136) (h := 0) (d' := 999) (b' := 172) (as := [vI (mi 1000 ((i + 1).toNat + 1)), vI (mi 1000 ((i + 2).toNat + 1))]) (S := []) (by decide +kernel) (by decide +kernel) (by decide +kernel) (show 2 = m_na 136 by decide +kernel) (Nat.le_of_ble_eq_true rfl) (by decide +kernel) (by decide) (by rw [(by decide +kernel : m_mc 136 = 0)]) (by decide) (by rw [(by decide +kernel : m_ms 136 = 0), Nat.add_zero]) ?_
  refine WPc.mono (WPc.row (Jd.get (ca_weight (d := 999) hV.1 (by omega)))) ?_
  rintro r M' ⟨er, z, m1, rfl, rfl, hz⟩
  refine so_aload_n (k := 2) (by decide +kernel) rfl ?_
  refine lw_arg (k := 1) (by decide +kernel) (by decide +kernel) (by decide +kernel) (by decide +kernel) (by decide +kernel) er hi (by omega) ?_
  refine lw_arg (k := 2) (by decide +kernel) (by decide +kernel) (by decide +kernel) (by decide +kernel) (by decide +kernel) er hi (by omega) ?_
  refine so_callV (idx := 45) (y' := 219) (h := 134) (d' := 999) (b' := 172) (as := [vI (mi 1000 ((i + 1).toNat + 1)), vI (mi 1000 ((i + 2).toNat + 1))]) (S := [vI z]) (by decide +kernel) (by decide +kernel) (by decide +kernel) (show 2 = m_na 219 by decide +kernel) (Nat.le_of_ble_eq_true rfl) (by decide +kernel) (by decide) (by rw [(by decide +kernel : m_mc 219 = 0)]) (by decide) (by rw [(by decide +kernel : m_ms 219 = 0), Nat.add_zero]) ?_
  refine WPc.mono (Jd.get hz) ?_
  rintro r M' ⟨z', m2, rfl, rfl, hb⟩
  obtain ⟨ez, b, k⟩ := Jd.get hb
  subst ez
  exact so_icmp (tgt := 1547) (x := z) (z := z) (by decide +kernel : decode (m_bt 0) 388 = .ok (.if_icmp .eq 1159, 3)) rfl (fun _ => lw_next (by omega) (NX m2 (Inv_kp hV b k) (k.1 1000 rfl))) (fun w => absurd rfl w)
theorem lc_7 {mi : MT} {i : Int} (hV : Inv mi) (hi : (0 ≤ i ∧ i + 8 ≤ mi 1000 0) ∧ mi 1000 0 ≤ 4096) (NX : ∀ m2 : MT, Inv m2 → m2 1000 = mi 1000 → WP 0 1000 172 18 (LL (i + 8)) [] (G m2) Q) : WP 0 1000 172 393 (LL i) [] (G mi) Q := by
  refine so_aload_n (k := 1) (by decide +kernel) rfl ?_
  refine lw_arg (k := 1) (by decide +kernel) (by decide +kernel) (by decide +kernel) (by decide +kernel) (by decide +kernel) rfl hi (by omega) ?_
  refine lw_arg (k := 2) (by decide +kernel) (by decide +kernel) (by decide +kernel) (by decide +kernel) (by decide +kernel) rfl hi (by omega) ?_
  refine so_callV (idx := 46) (y' := 137) (h := 0) (d' := 999) (b' := 172) (as := [vI (mi 1000 ((i + 1).toNat + 1)), vI (mi 1000 ((i + 2).toNat + 1))]) (S := []) (by decide +kernel) (by decide +kernel) (by decide +kernel) (show 2 = m_na 137 by decide +kernel) (Nat.le_of_ble_eq_true rfl) (by decide +kernel) (by decide) (by rw [(by decide +kernel : m_mc 137 = 0)]) (by decide) (by rw [(by decide +kernel : m_ms 137 = 0), Nat.add_zero]) ?_
  refine WPc.mono (WPc.row (Jd.get (ca_prices (d := 999) hV.1 (by omega)))) ?_
  rintro r M' ⟨er, z, m1, rfl, rfl, hz⟩
  refine so_aload_n (k := 2) (by decide +kernel) rfl ?_
  refine lw_arg (k := 1) (by decide +kernel) (by decide +kernel) (by decide +kernel) (by decide +kernel) (by decide +kernel) er hi (by omega) ?_
  refine lw_arg (k := 2) (by decide +kernel) (by decide +kernel) (by decide +kernel) (by decide +kernel) (by decide +kernel) er hi (by omega) ?_
  refine so_callV (idx := 49) (y' := 220) (h := 134) (d' := 999) (b' := 172) (as := [vI (mi 1000 ((i + 1).toNat + 1)), vI (mi 1000 ((i + 2).toNat + 1))]) (S := [vI z]) (by decide +kernel) (by decide +kernel) (by decide +kernel) (show 2 = m_na 220 by decide +kernel) (Nat.le_of_ble_eq_true rfl) (by decide +kernel) (by decide) (by rw [(by decide +kernel : m_mc 220 = 0)]) (by decide) (by rw [(by decide +kernel : m_ms 220 = 0), Nat.add_zero]) ?_
  refine WPc.mono (Jd.get hz) ?_
  rintro r M' ⟨z', m2, rfl, rfl, hb⟩
  obtain ⟨ez, b, k⟩ := Jd.get hb
  subst ez
  exact so_icmp (tgt := 1547) (x := z) (z := z) (by decide +kernel : decode (m_bt 0) 421 = .ok (.if_icmp .eq 1126, 3)) rfl (fun _ => lw_next (by omega) (NX m2 (Inv_kp hV b k) (k.1 1000 rfl))) (fun w => absurd rfl w)
theorem lc_8 {mi : MT} {i : Int} (hV : Inv mi) (hi : (0 ≤ i ∧ i + 8 ≤ mi 1000 0) ∧ mi 1000 0 ≤ 4096) (NX : ∀ m2 : MT, Inv m2 → m2 1000 = mi 1000 → WP 0 1000 172 18 (LL (i + 8)) [] (G m2) Q) : WP 0 1000 172 426 (LL i) [] (G mi) Q := by
  refine so_aload_n (k := 1) (by decide +kernel) rfl ?_
  refine lw_arg (k := 1) (by decide +kernel) (by decide +kernel) (by decide +kernel) (by decide +kernel) (by decide +kernel) rfl hi (by omega) ?_
  refine lw_arg (k := 2) (by decide +kernel) (by decide +kernel) (by decide +kernel) (by decide +kernel) (by decide +kernel) rfl hi (by omega) ?_
  refine lw_arg (k := 3) (by decide +kernel) (by decide +kernel) (by decide +kernel) (by decide +kernel) (by decide +kernel) rfl hi (by omega) ?_
  refine so_callV (idx := 50) (y' := 138) (h := 0) (d' := 999) (b' := 172) (as := [vI (mi 1000 ((i + 1).toNat + 1)), vI (mi 1000 ((i + 2).toNat + 1)), vI (mi 1000 ((i + 3).toNat + 1))]) (S := []) (by decide +kernel) (by decide +kernel) (by decide +kernel) (show 3 = m_na 138 by decide +kernel) (Nat.le_of_ble_eq_true rfl) (by decide +kernel) (by decide) (by rw [(by decide +kernel : m_mc 138 = 0)]) (by decide) (by rw [(by decide +kernel : m_ms 138 = 0), Nat.add_zero]) ?_
  refine WPc.mono (WPc.row (Jd.get (ca_mark (d := 999) hV.1 (by omega)))) ?_
  rintro r M' ⟨er, z, m1, rfl, rfl, hz⟩
  refine so_aload_n (k := 2) (by decide +kernel) rfl ?_
  refine lw_arg (k := 1) (by decide +kernel) (by decide +kernel) (by decide +kernel) (by decide +kernel) (by decide +kernel) er hi (by omega) ?_
  refine lw_arg (k := 2) (by decide +kernel) (by decide +kernel) (by decide +kernel) (by decide +kernel) (by decide +kernel) er hi (by omega) ?_
  refine lw_arg (k := 3) (by decide +kernel) (by decide +kernel) (by decide +kernel) (by decide +kernel) (by decide +kernel) er hi (by omega) ?_
  refine so_callV (idx := 53) (y' := 197) (h := 134) (d' := 999) (b' := 172) (as := [vI (mi 1000 ((i + 1).toNat + 1)), vI (mi 1000 ((i + 2).toNat + 1)), vI (mi 1000 ((i + 3).toNat + 1))]) (S := [vI z]) (by decide +kernel) (by decide +kernel) (by decide +kernel) (show 3 = m_na 197 by decide +kernel) (Nat.le_of_ble_eq_true rfl) (by decide +kernel) (by decide) (by rw [(by decide +kernel : m_mc 197 = 0)]) (by decide) (by rw [(by decide +kernel : m_ms 197 = 0), Nat.add_zero]) ?_
  refine WPc.mono (Jd.get hz) ?_
  rintro r M' ⟨z', m2, rfl, rfl, hb⟩
  obtain ⟨ez, b, k⟩ := Jd.get hb
  subst ez
  exact so_icmp (tgt := 1547) (x := z) (z := z) (by decide +kernel : decode (m_bt 0) 464 = .ok (.if_icmp .eq 1083, 3)) rfl (fun _ => lw_next (by omega) (NX m2 (Inv_kp hV b k) (k.1 1000 rfl))) (fun w => absurd rfl w)
theorem lc_9 {mi : MT} {i : Int} (hV : Inv mi) (hi : (0 ≤ i ∧ i + 8 ≤ mi 1000 0) ∧ mi 1000 0 ≤ 4096) (NX : ∀ m2 : MT, Inv m2 → m2 1000 = mi 1000 → WP 0 1000 172 18 (LL (i + 8)) [] (G m2) Q) : WP 0 1000 172 469 (LL i) [] (G mi) Q := by
  refine so_aload_n (k := 1) (by decide +kernel) rfl ?_
  refine lw_arg (k := 1) (by decide +kernel) (by decide +kernel) (by decide +kernel) (by decide +kernel) (by decide +kernel) rfl hi (by omega) ?_
  refine lw_arg (k := 2) (by decide +kernel) (by decide +kernel) (by decide +kernel) (by decide +kernel) (by decide +kernel) rfl hi (by omega) ?_
  refine lw_arg (k := 3) (by decide +kernel) (by decide +kernel) (by decide +kernel) (by decide +kernel) (by decide +kernel) rfl hi (by omega) ?_
  refine lw_arg (k := 4) (by decide +kernel) (by decide +kernel) (by decide +kernel) (by decide +kernel) (by decide +kernel) rfl hi (by omega) ?_
  refine lw_arg (k := 5) (by decide +kernel) (by decide +kernel) (by decide +kernel) (by decide +kernel) (by decide +kernel) rfl hi (by omega) ?_
  refine so_callV (idx := 54) (y' := 139) (h := 0) (d' := 999) (b' := 172) (as := [vI (mi 1000 ((i + 1).toNat + 1)), vI (mi 1000 ((i + 2).toNat + 1)), vI (mi 1000 ((i + 3).toNat + 1)), vI (mi 1000 ((i + 4).toNat + 1)), vI (mi 1000 ((i + 5).toNat + 1))]) (S := []) (by decide +kernel) (by decide +kernel) (by decide +kernel) (show 5 = m_na 139 by decide +kernel) (Nat.le_of_ble_eq_true rfl) (by decide +kernel) (by decide) (by rw [(by decide +kernel : m_mc 139 = 0)]) (by decide) (by rw [(by decide +kernel : m_ms 139 = 0), Nat.add_zero]) ?_
  refine WPc.mono (WPc.row (Jd.get (ca_surface (d := 999) hV.1 hV.2.1 (by omega)))) ?_
  rintro r M' ⟨er, z, m1, rfl, rfl, hz⟩
  refine so_aload_n (k := 2) (by decide +kernel) rfl ?_
  refine lw_arg (k := 1) (by decide +kernel) (by decide +kernel) (by decide +kernel) (by decide +kernel) (by decide +kernel) er hi (by omega) ?_
  refine lw_arg (k := 2) (by decide +kernel) (by decide +kernel) (by decide +kernel) (by decide +kernel) (by decide +kernel) er hi (by omega) ?_
  refine lw_arg (k := 3) (by decide +kernel) (by decide +kernel) (by decide +kernel) (by decide +kernel) (by decide +kernel) er hi (by omega) ?_
  refine lw_arg (k := 4) (by decide +kernel) (by decide +kernel) (by decide +kernel) (by decide +kernel) (by decide +kernel) er hi (by omega) ?_
  refine lw_arg (k := 5) (by decide +kernel) (by decide +kernel) (by decide +kernel) (by decide +kernel) (by decide +kernel) er hi (by omega) ?_
  refine so_callV (idx := 57) (y' := 217) (h := 134) (d' := 999) (b' := 172) (as := [vI (mi 1000 ((i + 1).toNat + 1)), vI (mi 1000 ((i + 2).toNat + 1)), vI (mi 1000 ((i + 3).toNat + 1)), vI (mi 1000 ((i + 4).toNat + 1)), vI (mi 1000 ((i + 5).toNat + 1))]) (S := [vI z]) (by decide +kernel) (by decide +kernel) (by decide +kernel) (show 5 = m_na 217 by decide +kernel) (Nat.le_of_ble_eq_true rfl) (by decide +kernel) (by decide) (by rw [(by decide +kernel : m_mc 217 = 0)]) (by decide) (by rw [(by decide +kernel : m_ms 217 = 0), Nat.add_zero]) ?_
  refine WPc.mono (Jd.get hz) ?_
  rintro r M' ⟨z', m2, rfl, rfl, hb⟩
  obtain ⟨ez, b, k⟩ := Jd.get hb
  subst ez
  exact so_icmp (tgt := 1547) (x := z) (z := z) (by decide +kernel : decode (m_bt 0) 527 = .ok (.if_icmp .eq 1020, 3)) rfl (fun _ => lw_next (by omega) (NX m2 (Inv_kp hV b k) (k.1 1000 rfl))) (fun w => absurd rfl w)
theorem lc_10 {mi : MT} {i : Int} (hV : Inv mi) (hi : (0 ≤ i ∧ i + 8 ≤ mi 1000 0) ∧ mi 1000 0 ≤ 4096) (NX : ∀ m2 : MT, Inv m2 → m2 1000 = mi 1000 → WP 0 1000 172 18 (LL (i + 8)) [] (G m2) Q) : WP 0 1000 172 532 (LL i) [] (G mi) Q := by
  refine so_aload_n (k := 1) (by decide +kernel) rfl ?_
  refine lw_arg (k := 1) (by decide +kernel) (by decide +kernel) (by decide +kernel) (by decide +kernel) (by decide +kernel) rfl hi (by omega) ?_
  refine lw_arg (k := 2) (by decide +kernel) (by decide +kernel) (by decide +kernel) (by decide +kernel) (by decide +kernel) rfl hi (by omega) ?_
  refine lw_arg (k := 3) (by decide +kernel) (by decide +kernel) (by decide +kernel) (by decide +kernel) (by decide +kernel) rfl hi (by omega) ?_
  refine so_callV (idx := 58) (y' := 140) (h := 0) (d' := 999) (b' := 172) (as := [vI (mi 1000 ((i + 1).toNat + 1)), vI (mi 1000 ((i + 2).toNat + 1)), vI (mi 1000 ((i + 3).toNat + 1))]) (S := []) (by decide +kernel) (by decide +kernel) (by decide +kernel) (show 3 = m_na 140 by decide +kernel) (Nat.le_of_ble_eq_true rfl) (by decide +kernel) (by decide) (by rw [(by decide +kernel : m_mc 140 = 0)]) (by decide) (by rw [(by decide +kernel : m_ms 140 = 0), Nat.add_zero]) ?_
  refine WPc.mono (WPc.row (Jd.get (ca_distance (d := 999) hV.1 (by omega)))) ?_
  rintro r M' ⟨er, z, m1, rfl, rfl, hz⟩
  refine so_aload_n (k := 2) (by decide +kernel) rfl ?_
  refine lw_arg (k := 1) (by decide +kernel) (by decide +kernel) (by decide +kernel) (by decide +kernel) (by decide +kernel) er hi (by omega) ?_
  refine lw_arg (k := 2) (by decide +kernel) (by decide +kernel) (by decide +kernel) (by decide +kernel) (by decide +kernel) er hi (by omega) ?_
  refine lw_arg (k := 3) (by decide +kernel) (by decide +kernel) (by decide +kernel) (by decide +kernel) (by decide +kernel) er hi (by omega) ?_
  refine so_callV (idx := 61) (y' := 222) (h := 134) (d' := 999) (b' := 172) (as := [vI (mi 1000 ((i + 1).toNat + 1)), vI (mi 1000 ((i + 2).toNat + 1)), vI (mi 1000 ((i + 3).toNat + 1))]) (S := [vI z]) (by decide +kernel) (by decide +kernel) (by decide +kernel) (show 3 = m_na 222 by decide +kernel) (Nat.le_of_ble_eq_true rfl) (by decide +kernel) (by decide) (by rw [(by decide +kernel : m_mc 222 = 0)]) (by decide) (by rw [(by decide +kernel : m_ms 222 = 0), Nat.add_zero]) ?_
  refine WPc.mono (Jd.get hz) ?_
  rintro r M' ⟨z', m2, rfl, rfl, hb⟩
  obtain ⟨ez, b, k⟩ := Jd.get hb
  subst ez
  exact so_icmp (tgt := 1547) (x := z) (z := z) (by decide +kernel : decode (m_bt 0) 570 = .ok (.if_icmp .eq 977, 3)) rfl (fun _ => lw_next (by omega) (NX m2 (Inv_kp hV b k) (k.1 1000 rfl))) (fun w => absurd rfl w)
theorem lc_11 {mi : MT} {i : Int} (hV : Inv mi) (hi : (0 ≤ i ∧ i + 8 ≤ mi 1000 0) ∧ mi 1000 0 ≤ 4096) (NX : ∀ m2 : MT, Inv m2 → m2 1000 = mi 1000 → WP 0 1000 172 18 (LL (i + 8)) [] (G m2) Q) : WP 0 1000 172 575 (LL i) [] (G mi) Q := by
  refine so_aload_n (k := 1) (by decide +kernel) rfl ?_
  refine lw_arg (k := 1) (by decide +kernel) (by decide +kernel) (by decide +kernel) (by decide +kernel) (by decide +kernel) rfl hi (by omega) ?_
  refine lw_arg (k := 2) (by decide +kernel) (by decide +kernel) (by decide +kernel) (by decide +kernel) (by decide +kernel) rfl hi (by omega) ?_
  refine lw_arg (k := 3) (by decide +kernel) (by decide +kernel) (by decide +kernel) (by decide +kernel) (by decide +kernel) rfl hi (by omega) ?_
  refine lw_arg (k := 4) (by decide +kernel) (by decide +kernel) (by decide +kernel) (by decide +kernel) (by decide +kernel) rfl hi (by omega) ?_
  refine lw_arg (k := 5) (by decide +kernel) (by decide +kernel) (by decide +kernel) (by decide +kernel) (by decide +kernel) rfl hi (by omega) ?_
  refine lw_ar6 (k := 6) (by decide +kernel) (by decide +kernel) (by decide +kernel) (by decide +kernel) (by decide +kernel) rfl hi (by omega) rfl ?_
  refine lw_ar6 (k := 7) (by decide +kernel) (by decide +kernel) (by decide +kernel) (by decide +kernel) (by decide +kernel) rfl hi (by omega) rfl ?_
  refine so_callV (idx := 62) (y' := 141) (h := 0) (d' := 999) (b' := 172) (as := [vI (mi 1000 ((i + 1).toNat + 1)), vI (mi 1000 ((i + 2).toNat + 1)), vI (mi 1000 ((i + 3).toNat + 1)), vI (mi 1000 ((i + 4).toNat + 1)), vI (mi 1000 ((i + 5).toNat + 1)), vI (mi 1000 ((i + 6).toNat + 1)), vI (mi 1000 ((i + 7).toNat + 1))]) (S := []) (by decide +kernel) (by decide +kernel) (by decide +kernel) (show 7 = m_na 141 by decide +kernel) (Nat.le_of_ble_eq_true rfl) (by decide +kernel) (by decide) (by rw [(by decide +kernel : m_mc 141 = 0)]) (by decide) (by rw [(by decide +kernel : m_ms 141 = 0), Nat.add_zero]) ?_
  refine WPc.mono (WPc.row (Jd.get (ca_sight (d := 999) hV.1 (by omega)))) ?_
  rintro r M' ⟨er, z, m1, rfl, rfl, hz⟩
  refine so_aload_n (k := 2) (by decide +kernel) rfl ?_
  refine lw_arg (k := 1) (by decide +kernel) (by decide +kernel) (by decide +kernel) (by decide +kernel) (by decide +kernel) er hi (by omega) ?_
  refine lw_arg (k := 2) (by decide +kernel) (by decide +kernel) (by decide +kernel) (by decide +kernel) (by decide +kernel) er hi (by omega) ?_
  refine lw_arg (k := 3) (by decide +kernel) (by decide +kernel) (by decide +kernel) (by decide +kernel) (by decide +kernel) er hi (by omega) ?_
  refine lw_arg (k := 4) (by decide +kernel) (by decide +kernel) (by decide +kernel) (by decide +kernel) (by decide +kernel) er hi (by omega) ?_
  refine lw_arg (k := 5) (by decide +kernel) (by decide +kernel) (by decide +kernel) (by decide +kernel) (by decide +kernel) er hi (by omega) ?_
  refine lw_ar6 (k := 6) (by decide +kernel) (by decide +kernel) (by decide +kernel) (by decide +kernel) (by decide +kernel) er hi (by omega) rfl ?_
  refine lw_ar6 (k := 7) (by decide +kernel) (by decide +kernel) (by decide +kernel) (by decide +kernel) (by decide +kernel) er hi (by omega) rfl ?_
  refine so_callV (idx := 66) (y' := 223) (h := 134) (d' := 999) (b' := 172) (as := [vI (mi 1000 ((i + 1).toNat + 1)), vI (mi 1000 ((i + 2).toNat + 1)), vI (mi 1000 ((i + 3).toNat + 1)), vI (mi 1000 ((i + 4).toNat + 1)), vI (mi 1000 ((i + 5).toNat + 1)), vI (mi 1000 ((i + 6).toNat + 1)), vI (mi 1000 ((i + 7).toNat + 1))]) (S := [vI z]) (by decide +kernel) (by decide +kernel) (by decide +kernel) (show 7 = m_na 223 by decide +kernel) (Nat.le_of_ble_eq_true rfl) (by decide +kernel) (by decide) (by rw [(by decide +kernel : m_mc 223 = 0)]) (by decide) (by rw [(by decide +kernel : m_ms 223 = 0), Nat.add_zero]) ?_
  refine WPc.mono (Jd.get hz) ?_
  rintro r M' ⟨z', m2, rfl, rfl, hb⟩
  obtain ⟨ez, b, k⟩ := Jd.get hb
  subst ez
  exact so_icmp (tgt := 1547) (x := z) (z := z) (by decide +kernel : decode (m_bt 0) 657 = .ok (.if_icmp .eq 890, 3)) rfl (fun _ => lw_next (by omega) (NX m2 (Inv_kp hV b k) (k.1 1000 rfl))) (fun w => absurd rfl w)
theorem lc_12 {mi : MT} {i : Int} (hV : Inv mi) (hi : (0 ≤ i ∧ i + 8 ≤ mi 1000 0) ∧ mi 1000 0 ≤ 4096) (NX : ∀ m2 : MT, Inv m2 → m2 1000 = mi 1000 → WP 0 1000 172 18 (LL (i + 8)) [] (G m2) Q) : WP 0 1000 172 662 (LL i) [] (G mi) Q := by
  refine so_aload_n (k := 1) (by decide +kernel) rfl ?_
  refine lw_arg (k := 1) (by decide +kernel) (by decide +kernel) (by decide +kernel) (by decide +kernel) (by decide +kernel) rfl hi (by omega) ?_
  refine lw_arg (k := 2) (by decide +kernel) (by decide +kernel) (by decide +kernel) (by decide +kernel) (by decide +kernel) rfl hi (by omega) ?_
  refine so_callV (idx := 67) (y' := 142) (h := 0) (d' := 999) (b' := 172) (as := [vI (mi 1000 ((i + 1).toNat + 1)), vI (mi 1000 ((i + 2).toNat + 1))]) (S := []) (by decide +kernel) (by decide +kernel) (by decide +kernel) (show 2 = m_na 142 by decide +kernel) (Nat.le_of_ble_eq_true rfl) (by decide +kernel) (by decide) (by rw [(by decide +kernel : m_mc 142 = 0)]) (by decide) (by rw [(by decide +kernel : m_ms 142 = 0), Nat.add_zero]) ?_
  refine WPc.mono (WPc.row (Jd.get (ca_trust (d := 999) hV.1 (by omega)))) ?_
  rintro r M' ⟨er, z, m1, rfl, rfl, hz⟩
  refine so_aload_n (k := 2) (by decide +kernel) rfl ?_
  refine lw_arg (k := 1) (by decide +kernel) (by decide +kernel) (by decide +kernel) (by decide +kernel) (by decide +kernel) er hi (by omega) ?_
  refine lw_arg (k := 2) (by decide +kernel) (by decide +kernel) (by decide +kernel) (by decide +kernel) (by decide +kernel) er hi (by omega) ?_
  refine so_callV (idx := 70) (y' := 224) (h := 134) (d' := 999) (b' := 172) (as := [vI (mi 1000 ((i + 1).toNat + 1)), vI (mi 1000 ((i + 2).toNat + 1))]) (S := [vI z]) (by decide +kernel) (by decide +kernel) (by decide +kernel) (show 2 = m_na 224 by decide +kernel) (Nat.le_of_ble_eq_true rfl) (by decide +kernel) (by decide) (by rw [(by decide +kernel : m_mc 224 = 0)]) (by decide) (by rw [(by decide +kernel : m_ms 224 = 0), Nat.add_zero]) ?_
  refine WPc.mono (Jd.get hz) ?_
  rintro r M' ⟨z', m2, rfl, rfl, hb⟩
  obtain ⟨ez, b, k⟩ := Jd.get hb
  subst ez
  exact so_icmp (tgt := 1547) (x := z) (z := z) (by decide +kernel : decode (m_bt 0) 690 = .ok (.if_icmp .eq 857, 3)) rfl (fun _ => lw_next (by omega) (NX m2 (Inv_kp hV b k) (k.1 1000 rfl))) (fun w => absurd rfl w)
theorem lc_13 {mi : MT} {i : Int} (hV : Inv mi) (hi : (0 ≤ i ∧ i + 8 ≤ mi 1000 0) ∧ mi 1000 0 ≤ 4096) (NX : ∀ m2 : MT, Inv m2 → m2 1000 = mi 1000 → WP 0 1000 172 18 (LL (i + 8)) [] (G m2) Q) : WP 0 1000 172 695 (LL i) [] (G mi) Q := by
  refine so_aload_n (k := 1) (by decide +kernel) rfl ?_
  refine lw_arg (k := 1) (by decide +kernel) (by decide +kernel) (by decide +kernel) (by decide +kernel) (by decide +kernel) rfl hi (by omega) ?_
  refine lw_arg (k := 2) (by decide +kernel) (by decide +kernel) (by decide +kernel) (by decide +kernel) (by decide +kernel) rfl hi (by omega) ?_
  refine lw_arg (k := 3) (by decide +kernel) (by decide +kernel) (by decide +kernel) (by decide +kernel) (by decide +kernel) rfl hi (by omega) ?_
  refine so_callV (idx := 71) (y' := 143) (h := 0) (d' := 999) (b' := 172) (as := [vI (mi 1000 ((i + 1).toNat + 1)), vI (mi 1000 ((i + 2).toNat + 1)), vI (mi 1000 ((i + 3).toNat + 1))]) (S := []) (by decide +kernel) (by decide +kernel) (by decide +kernel) (show 3 = m_na 143 by decide +kernel) (Nat.le_of_ble_eq_true rfl) (by decide +kernel) (by decide) (by rw [(by decide +kernel : m_mc 143 = 0)]) (by decide) (by rw [(by decide +kernel : m_ms 143 = 0), Nat.add_zero]) ?_
  refine WPc.mono (WPc.row (Jd.get (ca_joined (d := 999) hV.1 (by omega)))) ?_
  rintro r M' ⟨er, z, m1, rfl, rfl, hz⟩
  refine so_aload_n (k := 2) (by decide +kernel) rfl ?_
  refine lw_arg (k := 1) (by decide +kernel) (by decide +kernel) (by decide +kernel) (by decide +kernel) (by decide +kernel) er hi (by omega) ?_
  refine lw_arg (k := 2) (by decide +kernel) (by decide +kernel) (by decide +kernel) (by decide +kernel) (by decide +kernel) er hi (by omega) ?_
  refine lw_arg (k := 3) (by decide +kernel) (by decide +kernel) (by decide +kernel) (by decide +kernel) (by decide +kernel) er hi (by omega) ?_
  refine so_callV (idx := 74) (y' := 227) (h := 134) (d' := 999) (b' := 172) (as := [vI (mi 1000 ((i + 1).toNat + 1)), vI (mi 1000 ((i + 2).toNat + 1)), vI (mi 1000 ((i + 3).toNat + 1))]) (S := [vI z]) (by decide +kernel) (by decide +kernel) (by decide +kernel) (show 3 = m_na 227 by decide +kernel) (Nat.le_of_ble_eq_true rfl) (by decide +kernel) (by decide) (by rw [(by decide +kernel : m_mc 227 = 0)]) (by decide) (by rw [(by decide +kernel : m_ms 227 = 0), Nat.add_zero]) ?_
  refine WPc.mono (Jd.get hz) ?_
  rintro r M' ⟨z', m2, rfl, rfl, hb⟩
  obtain ⟨ez, b, k⟩ := Jd.get hb
  subst ez
  exact so_icmp (tgt := 1547) (x := z) (z := z) (by decide +kernel : decode (m_bt 0) 733 = .ok (.if_icmp .eq 814, 3)) rfl (fun _ => lw_next (by omega) (NX m2 (Inv_kp hV b k) (k.1 1000 rfl))) (fun w => absurd rfl w)
theorem lc_14 {mi : MT} {i : Int} (hV : Inv mi) (hi : (0 ≤ i ∧ i + 8 ≤ mi 1000 0) ∧ mi 1000 0 ≤ 4096) (NX : ∀ m2 : MT, Inv m2 → m2 1000 = mi 1000 → WP 0 1000 172 18 (LL (i + 8)) [] (G m2) Q) : WP 0 1000 172 738 (LL i) [] (G mi) Q := by
  refine so_aload_n (k := 1) (by decide +kernel) rfl ?_
  refine lw_arg (k := 1) (by decide +kernel) (by decide +kernel) (by decide +kernel) (by decide +kernel) (by decide +kernel) rfl hi (by omega) ?_
  refine lw_arg (k := 2) (by decide +kernel) (by decide +kernel) (by decide +kernel) (by decide +kernel) (by decide +kernel) rfl hi (by omega) ?_
  refine lw_arg (k := 3) (by decide +kernel) (by decide +kernel) (by decide +kernel) (by decide +kernel) (by decide +kernel) rfl hi (by omega) ?_
  refine so_callV (idx := 75) (y' := 144) (h := 0) (d' := 999) (b' := 172) (as := [vI (mi 1000 ((i + 1).toNat + 1)), vI (mi 1000 ((i + 2).toNat + 1)), vI (mi 1000 ((i + 3).toNat + 1))]) (S := []) (by decide +kernel) (by decide +kernel) (by decide +kernel) (show 3 = m_na 144 by decide +kernel) (Nat.le_of_ble_eq_true rfl) (by decide +kernel) (by decide) (by rw [(by decide +kernel : m_mc 144 = 0)]) (by decide) (by rw [(by decide +kernel : m_ms 144 = 0), Nat.add_zero]) ?_
  refine WPc.mono (WPc.row (Jd.get (ca_clashes (d := 999) hV.1 (by omega)))) ?_
  rintro r M' ⟨er, z, m1, rfl, rfl, hz⟩
  refine so_aload_n (k := 2) (by decide +kernel) rfl ?_
  refine lw_arg (k := 1) (by decide +kernel) (by decide +kernel) (by decide +kernel) (by decide +kernel) (by decide +kernel) er hi (by omega) ?_
  refine lw_arg (k := 2) (by decide +kernel) (by decide +kernel) (by decide +kernel) (by decide +kernel) (by decide +kernel) er hi (by omega) ?_
  refine lw_arg (k := 3) (by decide +kernel) (by decide +kernel) (by decide +kernel) (by decide +kernel) (by decide +kernel) er hi (by omega) ?_
  refine so_callV (idx := 78) (y' := 229) (h := 134) (d' := 999) (b' := 172) (as := [vI (mi 1000 ((i + 1).toNat + 1)), vI (mi 1000 ((i + 2).toNat + 1)), vI (mi 1000 ((i + 3).toNat + 1))]) (S := [vI z]) (by decide +kernel) (by decide +kernel) (by decide +kernel) (show 3 = m_na 229 by decide +kernel) (Nat.le_of_ble_eq_true rfl) (by decide +kernel) (by decide) (by rw [(by decide +kernel : m_mc 229 = 0)]) (by decide) (by rw [(by decide +kernel : m_ms 229 = 0), Nat.add_zero]) ?_
  refine WPc.mono (Jd.get hz) ?_
  rintro r M' ⟨z', m2, rfl, rfl, hb⟩
  obtain ⟨ez, b, k⟩ := Jd.get hb
  subst ez
  exact so_icmp (tgt := 1547) (x := z) (z := z) (by decide +kernel : decode (m_bt 0) 776 = .ok (.if_icmp .eq 771, 3)) rfl (fun _ => lw_next (by omega) (NX m2 (Inv_kp hV b k) (k.1 1000 rfl))) (fun w => absurd rfl w)
theorem lc_15 {mi : MT} {i : Int} (hV : Inv mi) (hi : (0 ≤ i ∧ i + 8 ≤ mi 1000 0) ∧ mi 1000 0 ≤ 4096) (NX : ∀ m2 : MT, Inv m2 → m2 1000 = mi 1000 → WP 0 1000 172 18 (LL (i + 8)) [] (G m2) Q) : WP 0 1000 172 781 (LL i) [] (G mi) Q := by
  refine so_aload_n (k := 1) (by decide +kernel) rfl ?_
  refine lw_arg (k := 1) (by decide +kernel) (by decide +kernel) (by decide +kernel) (by decide +kernel) (by decide +kernel) rfl hi (by omega) ?_
  refine lw_arg (k := 2) (by decide +kernel) (by decide +kernel) (by decide +kernel) (by decide +kernel) (by decide +kernel) rfl hi (by omega) ?_
  refine lw_arg (k := 3) (by decide +kernel) (by decide +kernel) (by decide +kernel) (by decide +kernel) (by decide +kernel) rfl hi (by omega) ?_
  refine so_callV (idx := 79) (y' := 145) (h := 0) (d' := 999) (b' := 172) (as := [vI (mi 1000 ((i + 1).toNat + 1)), vI (mi 1000 ((i + 2).toNat + 1)), vI (mi 1000 ((i + 3).toNat + 1))]) (S := []) (by decide +kernel) (by decide +kernel) (by decide +kernel) (show 3 = m_na 145 by decide +kernel) (Nat.le_of_ble_eq_true rfl) (by decide +kernel) (by decide) (by rw [(by decide +kernel : m_mc 145 = 0)]) (by decide) (by rw [(by decide +kernel : m_ms 145 = 0), Nat.add_zero]) ?_
  refine WPc.mono (WPc.row (Jd.get (ca_read (d := 999) hV (by omega)))) ?_
  rintro r M' ⟨er, z, m1, rfl, rfl, hz⟩
  refine so_aload_n (k := 2) (by decide +kernel) rfl ?_
  refine lw_arg (k := 1) (by decide +kernel) (by decide +kernel) (by decide +kernel) (by decide +kernel) (by decide +kernel) er hi (by omega) ?_
  refine lw_arg (k := 2) (by decide +kernel) (by decide +kernel) (by decide +kernel) (by decide +kernel) (by decide +kernel) er hi (by omega) ?_
  refine lw_arg (k := 3) (by decide +kernel) (by decide +kernel) (by decide +kernel) (by decide +kernel) (by decide +kernel) er hi (by omega) ?_
  refine so_callV (idx := 82) (y' := 242) (h := 134) (d' := 999) (b' := 172) (as := [vI (mi 1000 ((i + 1).toNat + 1)), vI (mi 1000 ((i + 2).toNat + 1)), vI (mi 1000 ((i + 3).toNat + 1))]) (S := [vI z]) (by decide +kernel) (by decide +kernel) (by decide +kernel) (show 3 = m_na 242 by decide +kernel) (Nat.le_of_ble_eq_true rfl) (by decide +kernel) (by decide) (by rw [(by decide +kernel : m_mc 242 = 0)]) (by decide) (by rw [(by decide +kernel : m_ms 242 = 0), Nat.add_zero]) ?_
  refine WPc.mono (Jd.get hz) ?_
  rintro r M' ⟨z', m2, rfl, rfl, hb⟩
  obtain ⟨ez, v, k⟩ := Jd.get hb
  subst ez
  exact so_icmp (tgt := 1547) (x := z) (z := z) (by decide +kernel : decode (m_bt 0) 819 = .ok (.if_icmp .eq 728, 3)) rfl (fun _ => lw_next (by omega) (NX m2 v k)) (fun w => absurd rfl w)
theorem lc_16 {mi : MT} {i : Int} (hV : Inv mi) (hi : (0 ≤ i ∧ i + 8 ≤ mi 1000 0) ∧ mi 1000 0 ≤ 4096) (NX : ∀ m2 : MT, Inv m2 → m2 1000 = mi 1000 → WP 0 1000 172 18 (LL (i + 8)) [] (G m2) Q) : WP 0 1000 172 824 (LL i) [] (G mi) Q := by
  refine so_aload_n (k := 1) (by decide +kernel) rfl ?_
  refine lw_arg (k := 1) (by decide +kernel) (by decide +kernel) (by decide +kernel) (by decide +kernel) (by decide +kernel) rfl hi (by omega) ?_
  refine so_callV (idx := 83) (y' := 146) (h := 0) (d' := 999) (b' := 172) (as := [vI (mi 1000 ((i + 1).toNat + 1))]) (S := []) (by decide +kernel) (by decide +kernel) (by decide +kernel) (show 1 = m_na 146 by decide +kernel) (Nat.le_of_ble_eq_true rfl) (by decide +kernel) (by decide) (by rw [(by decide +kernel : m_mc 146 = 0)]) (by decide) (by rw [(by decide +kernel : m_ms 146 = 0), Nat.add_zero]) ?_
  refine WPc.mono (WPc.row (Jd.get (ca_best (d := 999) hV.1 hV.2.2.1 (by omega)))) ?_
  rintro r M' ⟨er, z, m1, rfl, rfl, hz⟩
  refine so_aload_n (k := 2) (by decide +kernel) rfl ?_
  refine lw_arg (k := 1) (by decide +kernel) (by decide +kernel) (by decide +kernel) (by decide +kernel) (by decide +kernel) er hi (by omega) ?_
  refine so_callV (idx := 86) (y' := 247) (h := 134) (d' := 999) (b' := 172) (as := [vI (mi 1000 ((i + 1).toNat + 1))]) (S := [vI z]) (by decide +kernel) (by decide +kernel) (by decide +kernel) (show 1 = m_na 247 by decide +kernel) (Nat.le_of_ble_eq_true rfl) (by decide +kernel) (by decide) (by rw [(by decide +kernel : m_mc 247 = 0)]) (by decide) (by rw [(by decide +kernel : m_ms 247 = 0), Nat.add_zero]) ?_
  refine WPc.mono (Jd.get hz) ?_
  rintro r M' ⟨z', m2, rfl, rfl, hb⟩
  obtain ⟨ez, b, k⟩ := Jd.get hb
  subst ez
  exact so_icmp (tgt := 1547) (x := z) (z := z) (by decide +kernel : decode (m_bt 0) 842 = .ok (.if_icmp .eq 705, 3)) rfl (fun _ => lw_next (by omega) (NX m2 (Inv_kp hV b k) (k.1 1000 rfl))) (fun w => absurd rfl w)
theorem lc_17 {mi : MT} {i : Int} (hV : Inv mi) (hi : (0 ≤ i ∧ i + 8 ≤ mi 1000 0) ∧ mi 1000 0 ≤ 4096) (NX : ∀ m2 : MT, Inv m2 → m2 1000 = mi 1000 → WP 0 1000 172 18 (LL (i + 8)) [] (G m2) Q) : WP 0 1000 172 847 (LL i) [] (G mi) Q := by
  refine so_aload_n (k := 1) (by decide +kernel) rfl ?_
  refine lw_arg (k := 1) (by decide +kernel) (by decide +kernel) (by decide +kernel) (by decide +kernel) (by decide +kernel) rfl hi (by omega) ?_
  refine lw_arg (k := 2) (by decide +kernel) (by decide +kernel) (by decide +kernel) (by decide +kernel) (by decide +kernel) rfl hi (by omega) ?_
  refine so_callV (idx := 87) (y' := 147) (h := 0) (d' := 999) (b' := 172) (as := [vI (mi 1000 ((i + 1).toNat + 1)), vI (mi 1000 ((i + 2).toNat + 1))]) (S := []) (by decide +kernel) (by decide +kernel) (by decide +kernel) (show 2 = m_na 147 by decide +kernel) (Nat.le_of_ble_eq_true rfl) (by decide +kernel) (by decide) (by rw [(by decide +kernel : m_mc 147 = 0)]) (by decide) (by rw [(by decide +kernel : m_ms 147 = 0), Nat.add_zero]) ?_
  refine WPc.mono (WPc.row (Jd.get (ca_led (d := 999) hV.1 hV.2.2.1 (by omega)))) ?_
  rintro r M' ⟨er, z, m1, rfl, rfl, hz⟩
  refine so_aload_n (k := 2) (by decide +kernel) rfl ?_
  refine lw_arg (k := 1) (by decide +kernel) (by decide +kernel) (by decide +kernel) (by decide +kernel) (by decide +kernel) er hi (by omega) ?_
  refine lw_arg (k := 2) (by decide +kernel) (by decide +kernel) (by decide +kernel) (by decide +kernel) (by decide +kernel) er hi (by omega) ?_
  refine so_callV (idx := 90) (y' := 248) (h := 134) (d' := 999) (b' := 172) (as := [vI (mi 1000 ((i + 1).toNat + 1)), vI (mi 1000 ((i + 2).toNat + 1))]) (S := [vI z]) (by decide +kernel) (by decide +kernel) (by decide +kernel) (show 2 = m_na 248 by decide +kernel) (Nat.le_of_ble_eq_true rfl) (by decide +kernel) (by decide) (by rw [(by decide +kernel : m_mc 248 = 0)]) (by decide) (by rw [(by decide +kernel : m_ms 248 = 0), Nat.add_zero]) ?_
  refine WPc.mono (Jd.get hz) ?_
  rintro r M' ⟨z', m2, rfl, rfl, hb⟩
  obtain ⟨ez, b, k⟩ := Jd.get hb
  subst ez
  exact so_icmp (tgt := 1547) (x := z) (z := z) (by decide +kernel : decode (m_bt 0) 875 = .ok (.if_icmp .eq 672, 3)) rfl (fun _ => lw_next (by omega) (NX m2 (Inv_kp hV b k) (k.1 1000 rfl))) (fun w => absurd rfl w)
theorem lc_18 {mi : MT} {i : Int} (hV : Inv mi) (hi : (0 ≤ i ∧ i + 8 ≤ mi 1000 0) ∧ mi 1000 0 ≤ 4096) (NX : ∀ m2 : MT, Inv m2 → m2 1000 = mi 1000 → WP 0 1000 172 18 (LL (i + 8)) [] (G m2) Q) : WP 0 1000 172 880 (LL i) [] (G mi) Q := by
  refine so_aload_n (k := 1) (by decide +kernel) rfl ?_
  refine lw_arg (k := 1) (by decide +kernel) (by decide +kernel) (by decide +kernel) (by decide +kernel) (by decide +kernel) rfl hi (by omega) ?_
  refine lw_arg (k := 2) (by decide +kernel) (by decide +kernel) (by decide +kernel) (by decide +kernel) (by decide +kernel) rfl hi (by omega) ?_
  refine lw_arg (k := 3) (by decide +kernel) (by decide +kernel) (by decide +kernel) (by decide +kernel) (by decide +kernel) rfl hi (by omega) ?_
  refine lw_arg (k := 4) (by decide +kernel) (by decide +kernel) (by decide +kernel) (by decide +kernel) (by decide +kernel) rfl hi (by omega) ?_
  refine so_callV (idx := 91) (y' := 148) (h := 0) (d' := 999) (b' := 172) (as := [vI (mi 1000 ((i + 1).toNat + 1)), vI (mi 1000 ((i + 2).toNat + 1)), vI (mi 1000 ((i + 3).toNat + 1)), vI (mi 1000 ((i + 4).toNat + 1))]) (S := []) (by decide +kernel) (by decide +kernel) (by decide +kernel) (show 4 = m_na 148 by decide +kernel) (Nat.le_of_ble_eq_true rfl) (by decide +kernel) (by decide) (by rw [(by decide +kernel : m_mc 148 = 0)]) (by decide) (by rw [(by decide +kernel : m_ms 148 = 0), Nat.add_zero]) ?_
  refine WPc.mono (WPc.row (Jd.get (ca_rivals (d := 999) hV.1 hV.2.1 (by omega)))) ?_
  rintro r M' ⟨er, z, m1, rfl, rfl, hz⟩
  refine so_aload_n (k := 2) (by decide +kernel) rfl ?_
  refine lw_arg (k := 1) (by decide +kernel) (by decide +kernel) (by decide +kernel) (by decide +kernel) (by decide +kernel) er hi (by omega) ?_
  refine lw_arg (k := 2) (by decide +kernel) (by decide +kernel) (by decide +kernel) (by decide +kernel) (by decide +kernel) er hi (by omega) ?_
  refine lw_arg (k := 3) (by decide +kernel) (by decide +kernel) (by decide +kernel) (by decide +kernel) (by decide +kernel) er hi (by omega) ?_
  refine lw_arg (k := 4) (by decide +kernel) (by decide +kernel) (by decide +kernel) (by decide +kernel) (by decide +kernel) er hi (by omega) ?_
  refine so_callV (idx := 95) (y' := 250) (h := 134) (d' := 999) (b' := 172) (as := [vI (mi 1000 ((i + 1).toNat + 1)), vI (mi 1000 ((i + 2).toNat + 1)), vI (mi 1000 ((i + 3).toNat + 1)), vI (mi 1000 ((i + 4).toNat + 1))]) (S := [vI z]) (by decide +kernel) (by decide +kernel) (by decide +kernel) (show 4 = m_na 250 by decide +kernel) (Nat.le_of_ble_eq_true rfl) (by decide +kernel) (by decide) (by rw [(by decide +kernel : m_mc 250 = 0)]) (by decide) (by rw [(by decide +kernel : m_ms 250 = 0), Nat.add_zero]) ?_
  refine WPc.mono (Jd.get hz) ?_
  rintro r M' ⟨z', m2, rfl, rfl, hb⟩
  obtain ⟨ez, b, k⟩ := Jd.get hb
  subst ez
  exact so_icmp (tgt := 1547) (x := z) (z := z) (by decide +kernel : decode (m_bt 0) 928 = .ok (.if_icmp .eq 619, 3)) rfl (fun _ => lw_next (by omega) (NX m2 (Inv_kp hV b k) (k.1 1000 rfl))) (fun w => absurd rfl w)
theorem lc_19 {mi : MT} {i : Int} (hV : Inv mi) (hi : (0 ≤ i ∧ i + 8 ≤ mi 1000 0) ∧ mi 1000 0 ≤ 4096) (NX : ∀ m2 : MT, Inv m2 → m2 1000 = mi 1000 → WP 0 1000 172 18 (LL (i + 8)) [] (G m2) Q) : WP 0 1000 172 933 (LL i) [] (G mi) Q := by
  refine so_aload_n (k := 1) (by decide +kernel) rfl ?_
  refine lw_arg (k := 1) (by decide +kernel) (by decide +kernel) (by decide +kernel) (by decide +kernel) (by decide +kernel) rfl hi (by omega) ?_
  refine lw_arg (k := 2) (by decide +kernel) (by decide +kernel) (by decide +kernel) (by decide +kernel) (by decide +kernel) rfl hi (by omega) ?_
  refine lw_arg (k := 3) (by decide +kernel) (by decide +kernel) (by decide +kernel) (by decide +kernel) (by decide +kernel) rfl hi (by omega) ?_
  refine lw_arg (k := 4) (by decide +kernel) (by decide +kernel) (by decide +kernel) (by decide +kernel) (by decide +kernel) rfl hi (by omega) ?_
  refine lw_arg (k := 5) (by decide +kernel) (by decide +kernel) (by decide +kernel) (by decide +kernel) (by decide +kernel) rfl hi (by omega) ?_
  refine lw_ar6 (k := 6) (by decide +kernel) (by decide +kernel) (by decide +kernel) (by decide +kernel) (by decide +kernel) rfl hi (by omega) rfl ?_
  refine so_callV (idx := 96) (y' := 149) (h := 0) (d' := 999) (b' := 172) (as := [vI (mi 1000 ((i + 1).toNat + 1)), vI (mi 1000 ((i + 2).toNat + 1)), vI (mi 1000 ((i + 3).toNat + 1)), vI (mi 1000 ((i + 4).toNat + 1)), vI (mi 1000 ((i + 5).toNat + 1)), vI (mi 1000 ((i + 6).toNat + 1))]) (S := []) (by decide +kernel) (by decide +kernel) (by decide +kernel) (show 6 = m_na 149 by decide +kernel) (Nat.le_of_ble_eq_true rfl) (by decide +kernel) (by decide) (by rw [(by decide +kernel : m_mc 149 = 0)]) (by decide) (by rw [(by decide +kernel : m_ms 149 = 0), Nat.add_zero]) ?_
  refine WPc.mono (WPc.row (Jd.get (ca_cost (d := 999) hV.1 hV.2.1 (by omega)))) ?_
  rintro r M' ⟨er, z, m1, rfl, rfl, hz⟩
  refine so_aload_n (k := 2) (by decide +kernel) rfl ?_
  refine lw_arg (k := 1) (by decide +kernel) (by decide +kernel) (by decide +kernel) (by decide +kernel) (by decide +kernel) er hi (by omega) ?_
  refine lw_arg (k := 2) (by decide +kernel) (by decide +kernel) (by decide +kernel) (by decide +kernel) (by decide +kernel) er hi (by omega) ?_
  refine lw_arg (k := 3) (by decide +kernel) (by decide +kernel) (by decide +kernel) (by decide +kernel) (by decide +kernel) er hi (by omega) ?_
  refine lw_arg (k := 4) (by decide +kernel) (by decide +kernel) (by decide +kernel) (by decide +kernel) (by decide +kernel) er hi (by omega) ?_
  refine lw_arg (k := 5) (by decide +kernel) (by decide +kernel) (by decide +kernel) (by decide +kernel) (by decide +kernel) er hi (by omega) ?_
  refine lw_ar6 (k := 6) (by decide +kernel) (by decide +kernel) (by decide +kernel) (by decide +kernel) (by decide +kernel) er hi (by omega) rfl ?_
  refine so_callV (idx := 100) (y' := 251) (h := 134) (d' := 999) (b' := 172) (as := [vI (mi 1000 ((i + 1).toNat + 1)), vI (mi 1000 ((i + 2).toNat + 1)), vI (mi 1000 ((i + 3).toNat + 1)), vI (mi 1000 ((i + 4).toNat + 1)), vI (mi 1000 ((i + 5).toNat + 1)), vI (mi 1000 ((i + 6).toNat + 1))]) (S := [vI z]) (by decide +kernel) (by decide +kernel) (by decide +kernel) (show 6 = m_na 251 by decide +kernel) (Nat.le_of_ble_eq_true rfl) (by decide +kernel) (by decide) (by rw [(by decide +kernel : m_mc 251 = 0)]) (by decide) (by rw [(by decide +kernel : m_ms 251 = 0), Nat.add_zero]) ?_
  refine WPc.mono (Jd.get hz) ?_
  rintro r M' ⟨z', m2, rfl, rfl, hb⟩
  obtain ⟨ez, b, k⟩ := Jd.get hb
  subst ez
  exact so_icmp (tgt := 1547) (x := z) (z := z) (by decide +kernel : decode (m_bt 0) 1003 = .ok (.if_icmp .eq 544, 3)) rfl (fun _ => lw_next (by omega) (NX m2 (Inv_kp hV b k) (k.1 1000 rfl))) (fun w => absurd rfl w)
theorem lc_20 {mi : MT} {i : Int} (hV : Inv mi) (hi : (0 ≤ i ∧ i + 8 ≤ mi 1000 0) ∧ mi 1000 0 ≤ 4096) (NX : ∀ m2 : MT, Inv m2 → m2 1000 = mi 1000 → WP 0 1000 172 18 (LL (i + 8)) [] (G m2) Q) : WP 0 1000 172 1008 (LL i) [] (G mi) Q := by
  refine so_aload_n (k := 1) (by decide +kernel) rfl ?_
  refine lw_arg (k := 1) (by decide +kernel) (by decide +kernel) (by decide +kernel) (by decide +kernel) (by decide +kernel) rfl hi (by omega) ?_
  refine lw_arg (k := 2) (by decide +kernel) (by decide +kernel) (by decide +kernel) (by decide +kernel) (by decide +kernel) rfl hi (by omega) ?_
  refine so_callV (idx := 101) (y' := 150) (h := 0) (d' := 999) (b' := 172) (as := [vI (mi 1000 ((i + 1).toNat + 1)), vI (mi 1000 ((i + 2).toNat + 1))]) (S := []) (by decide +kernel) (by decide +kernel) (by decide +kernel) (show 2 = m_na 150 by decide +kernel) (Nat.le_of_ble_eq_true rfl) (by decide +kernel) (by decide) (by rw [(by decide +kernel : m_mc 150 = 0)]) (by decide) (by rw [(by decide +kernel : m_ms 150 = 0), Nat.add_zero]) ?_
  refine WPc.mono (WPc.row (Jd.get (ca_near (d := 999) hV.1 (by omega)))) ?_
  rintro r M' ⟨er, z, m1, rfl, rfl, hz⟩
  refine so_aload_n (k := 2) (by decide +kernel) rfl ?_
  refine lw_arg (k := 1) (by decide +kernel) (by decide +kernel) (by decide +kernel) (by decide +kernel) (by decide +kernel) er hi (by omega) ?_
  refine lw_arg (k := 2) (by decide +kernel) (by decide +kernel) (by decide +kernel) (by decide +kernel) (by decide +kernel) er hi (by omega) ?_
  refine so_callV (idx := 104) (y' := 252) (h := 134) (d' := 999) (b' := 172) (as := [vI (mi 1000 ((i + 1).toNat + 1)), vI (mi 1000 ((i + 2).toNat + 1))]) (S := [vI z]) (by decide +kernel) (by decide +kernel) (by decide +kernel) (show 2 = m_na 252 by decide +kernel) (Nat.le_of_ble_eq_true rfl) (by decide +kernel) (by decide) (by rw [(by decide +kernel : m_mc 252 = 0)]) (by decide) (by rw [(by decide +kernel : m_ms 252 = 0), Nat.add_zero]) ?_
  refine WPc.mono (Jd.get hz) ?_
  rintro r M' ⟨z', m2, rfl, rfl, hb⟩
  obtain ⟨ez, b, k⟩ := Jd.get hb
  subst ez
  exact so_icmp (tgt := 1547) (x := z) (z := z) (by decide +kernel : decode (m_bt 0) 1036 = .ok (.if_icmp .eq 511, 3)) rfl (fun _ => lw_next (by omega) (NX m2 (Inv_kp hV b k) (k.1 1000 rfl))) (fun w => absurd rfl w)
theorem lc_21 {mi : MT} {i : Int} (hV : Inv mi) (hi : (0 ≤ i ∧ i + 8 ≤ mi 1000 0) ∧ mi 1000 0 ≤ 4096) (NX : ∀ m2 : MT, Inv m2 → m2 1000 = mi 1000 → WP 0 1000 172 18 (LL (i + 8)) [] (G m2) Q) : WP 0 1000 172 1041 (LL i) [] (G mi) Q := by
  refine so_aload_n (k := 1) (by decide +kernel) rfl ?_
  refine lw_arg (k := 1) (by decide +kernel) (by decide +kernel) (by decide +kernel) (by decide +kernel) (by decide +kernel) rfl hi (by omega) ?_
  refine lw_arg (k := 2) (by decide +kernel) (by decide +kernel) (by decide +kernel) (by decide +kernel) (by decide +kernel) rfl hi (by omega) ?_
  refine so_callV (idx := 105) (y' := 151) (h := 0) (d' := 999) (b' := 172) (as := [vI (mi 1000 ((i + 1).toNat + 1)), vI (mi 1000 ((i + 2).toNat + 1))]) (S := []) (by decide +kernel) (by decide +kernel) (by decide +kernel) (show 2 = m_na 151 by decide +kernel) (Nat.le_of_ble_eq_true rfl) (by decide +kernel) (by decide) (by rw [(by decide +kernel : m_mc 151 = 0)]) (by decide) (by rw [(by decide +kernel : m_ms 151 = 0), Nat.add_zero]) ?_
  refine WPc.mono (WPc.row (Jd.get (ca_gap (d := 999) hV.1 (by omega)))) ?_
  rintro r M' ⟨er, z, m1, rfl, rfl, hz⟩
  refine so_aload_n (k := 2) (by decide +kernel) rfl ?_
  refine lw_arg (k := 1) (by decide +kernel) (by decide +kernel) (by decide +kernel) (by decide +kernel) (by decide +kernel) er hi (by omega) ?_
  refine lw_arg (k := 2) (by decide +kernel) (by decide +kernel) (by decide +kernel) (by decide +kernel) (by decide +kernel) er hi (by omega) ?_
  refine so_callV (idx := 108) (y' := 254) (h := 134) (d' := 999) (b' := 172) (as := [vI (mi 1000 ((i + 1).toNat + 1)), vI (mi 1000 ((i + 2).toNat + 1))]) (S := [vI z]) (by decide +kernel) (by decide +kernel) (by decide +kernel) (show 2 = m_na 254 by decide +kernel) (Nat.le_of_ble_eq_true rfl) (by decide +kernel) (by decide) (by rw [(by decide +kernel : m_mc 254 = 0)]) (by decide) (by rw [(by decide +kernel : m_ms 254 = 0), Nat.add_zero]) ?_
  refine WPc.mono (Jd.get hz) ?_
  rintro r M' ⟨z', m2, rfl, rfl, hb⟩
  obtain ⟨ez, b, k⟩ := Jd.get hb
  subst ez
  exact so_icmp (tgt := 1547) (x := z) (z := z) (by decide +kernel : decode (m_bt 0) 1069 = .ok (.if_icmp .eq 478, 3)) rfl (fun _ => lw_next (by omega) (NX m2 (Inv_kp hV b k) (k.1 1000 rfl))) (fun w => absurd rfl w)
theorem lc_22 {mi : MT} {i : Int} (hV : Inv mi) (hi : (0 ≤ i ∧ i + 8 ≤ mi 1000 0) ∧ mi 1000 0 ≤ 4096) (NX : ∀ m2 : MT, Inv m2 → m2 1000 = mi 1000 → WP 0 1000 172 18 (LL (i + 8)) [] (G m2) Q) : WP 0 1000 172 1074 (LL i) [] (G mi) Q := by
  refine so_aload_n (k := 1) (by decide +kernel) rfl ?_
  refine lw_arg (k := 1) (by decide +kernel) (by decide +kernel) (by decide +kernel) (by decide +kernel) (by decide +kernel) rfl hi (by omega) ?_
  refine so_callV (idx := 109) (y' := 152) (h := 0) (d' := 999) (b' := 172) (as := [vI (mi 1000 ((i + 1).toNat + 1))]) (S := []) (by decide +kernel) (by decide +kernel) (by decide +kernel) (show 1 = m_na 152 by decide +kernel) (Nat.le_of_ble_eq_true rfl) (by decide +kernel) (by decide) (by rw [(by decide +kernel : m_mc 152 = 0)]) (by decide) (by rw [(by decide +kernel : m_ms 152 = 0), Nat.add_zero]) ?_
  refine WPc.mono (WPc.row (Jd.get (ca_nearest (d := 999) hV.1 (by omega)))) ?_
  rintro r M' ⟨er, z, m1, rfl, rfl, hz⟩
  refine so_aload_n (k := 2) (by decide +kernel) rfl ?_
  refine lw_arg (k := 1) (by decide +kernel) (by decide +kernel) (by decide +kernel) (by decide +kernel) (by decide +kernel) er hi (by omega) ?_
  refine so_callV (idx := 112) (y' := 255) (h := 134) (d' := 999) (b' := 172) (as := [vI (mi 1000 ((i + 1).toNat + 1))]) (S := [vI z]) (by decide +kernel) (by decide +kernel) (by decide +kernel) (show 1 = m_na 255 by decide +kernel) (Nat.le_of_ble_eq_true rfl) (by decide +kernel) (by decide) (by rw [(by decide +kernel : m_mc 255 = 0)]) (by decide) (by rw [(by decide +kernel : m_ms 255 = 0), Nat.add_zero]) ?_
  refine WPc.mono (Jd.get hz) ?_
  rintro r M' ⟨z', m2, rfl, rfl, hb⟩
  obtain ⟨ez, b, k⟩ := Jd.get hb
  subst ez
  exact so_icmp (tgt := 1547) (x := z) (z := z) (by decide +kernel : decode (m_bt 0) 1092 = .ok (.if_icmp .eq 455, 3)) rfl (fun _ => lw_next (by omega) (NX m2 (Inv_kp hV b k) (k.1 1000 rfl))) (fun w => absurd rfl w)
theorem lc_23 {mi : MT} {i : Int} (hV : Inv mi) (hi : (0 ≤ i ∧ i + 8 ≤ mi 1000 0) ∧ mi 1000 0 ≤ 4096) (NX : ∀ m2 : MT, Inv m2 → m2 1000 = mi 1000 → WP 0 1000 172 18 (LL (i + 8)) [] (G m2) Q) : WP 0 1000 172 1097 (LL i) [] (G mi) Q := by
  refine so_aload_n (k := 1) (by decide +kernel) rfl ?_
  refine so_callV (idx := 113) (y' := 153) (h := 0) (d' := 999) (b' := 172) (as := []) (S := []) (by decide +kernel) (by decide +kernel) (by decide +kernel) (show 0 = m_na 153 by decide +kernel) (Nat.le_of_ble_eq_true rfl) (by decide +kernel) (by decide) (by rw [(by decide +kernel : m_mc 153 = 0)]) (by decide) (by rw [(by decide +kernel : m_ms 153 = 0), Nat.add_zero]) ?_
  refine WPc.mono (WPc.row (Jd.get (ca_parting (d := 999) hV.1 (by omega)))) ?_
  rintro r M' ⟨er, z, m1, rfl, rfl, hz⟩
  refine so_aload_n (k := 2) (by decide +kernel) rfl ?_
  refine so_callV (idx := 116) (y' := 259) (h := 134) (d' := 999) (b' := 172) (as := []) (S := [vI z]) (by decide +kernel) (by decide +kernel) (by decide +kernel) (show 0 = m_na 259 by decide +kernel) (Nat.le_of_ble_eq_true rfl) (by decide +kernel) (by decide) (by rw [(by decide +kernel : m_mc 259 = 0)]) (by decide) (by rw [(by decide +kernel : m_ms 259 = 0), Nat.add_zero]) ?_
  refine WPc.mono (Jd.get hz) ?_
  rintro r M' ⟨z', m2, rfl, rfl, hb⟩
  obtain ⟨ez, b, k⟩ := Jd.get hb
  subst ez
  exact so_icmp (tgt := 1547) (x := z) (z := z) (by decide +kernel : decode (m_bt 0) 1105 = .ok (.if_icmp .eq 442, 3)) rfl (fun _ => lw_next (by omega) (NX m2 (Inv_kp hV b k) (k.1 1000 rfl))) (fun w => absurd rfl w)
theorem lc_24 {mi : MT} {i : Int} (hV : Inv mi) (hi : (0 ≤ i ∧ i + 8 ≤ mi 1000 0) ∧ mi 1000 0 ≤ 4096) (NX : ∀ m2 : MT, Inv m2 → m2 1000 = mi 1000 → WP 0 1000 172 18 (LL (i + 8)) [] (G m2) Q) : WP 0 1000 172 1110 (LL i) [] (G mi) Q := by
  refine so_aload_n (k := 1) (by decide +kernel) rfl ?_
  refine lw_arg (k := 1) (by decide +kernel) (by decide +kernel) (by decide +kernel) (by decide +kernel) (by decide +kernel) rfl hi (by omega) ?_
  refine lw_arg (k := 2) (by decide +kernel) (by decide +kernel) (by decide +kernel) (by decide +kernel) (by decide +kernel) rfl hi (by omega) ?_
  refine lw_arg (k := 3) (by decide +kernel) (by decide +kernel) (by decide +kernel) (by decide +kernel) (by decide +kernel) rfl hi (by omega) ?_
  refine lw_arg (k := 4) (by decide +kernel) (by decide +kernel) (by decide +kernel) (by decide +kernel) (by decide +kernel) rfl hi (by omega) ?_
  refine so_callV (idx := 117) (y' := 154) (h := 0) (d' := 999) (b' := 172) (as := [vI (mi 1000 ((i + 1).toNat + 1)), vI (mi 1000 ((i + 2).toNat + 1)), vI (mi 1000 ((i + 3).toNat + 1)), vI (mi 1000 ((i + 4).toNat + 1))]) (S := []) (by decide +kernel) (by decide +kernel) (by decide +kernel) (show 4 = m_na 154 by decide +kernel) (Nat.le_of_ble_eq_true rfl) (by decide +kernel) (by decide) (by rw [(by decide +kernel : m_mc 154 = 0)]) (by decide) (by rw [(by decide +kernel : m_ms 154 = 0), Nat.add_zero]) ?_
  refine WPc.mono (WPc.row (Jd.get (ca_like (d := 999) hV.1 (by omega)))) ?_
  rintro r M' ⟨er, z, m1, rfl, rfl, hz⟩
  refine so_aload_n (k := 2) (by decide +kernel) rfl ?_
  refine lw_arg (k := 1) (by decide +kernel) (by decide +kernel) (by decide +kernel) (by decide +kernel) (by decide +kernel) er hi (by omega) ?_
  refine lw_arg (k := 2) (by decide +kernel) (by decide +kernel) (by decide +kernel) (by decide +kernel) (by decide +kernel) er hi (by omega) ?_
  refine lw_arg (k := 3) (by decide +kernel) (by decide +kernel) (by decide +kernel) (by decide +kernel) (by decide +kernel) er hi (by omega) ?_
  refine lw_arg (k := 4) (by decide +kernel) (by decide +kernel) (by decide +kernel) (by decide +kernel) (by decide +kernel) er hi (by omega) ?_
  refine so_callV (idx := 120) (y' := 260) (h := 134) (d' := 999) (b' := 172) (as := [vI (mi 1000 ((i + 1).toNat + 1)), vI (mi 1000 ((i + 2).toNat + 1)), vI (mi 1000 ((i + 3).toNat + 1)), vI (mi 1000 ((i + 4).toNat + 1))]) (S := [vI z]) (by decide +kernel) (by decide +kernel) (by decide +kernel) (show 4 = m_na 260 by decide +kernel) (Nat.le_of_ble_eq_true rfl) (by decide +kernel) (by decide) (by rw [(by decide +kernel : m_mc 260 = 0)]) (by decide) (by rw [(by decide +kernel : m_ms 260 = 0), Nat.add_zero]) ?_
  refine WPc.mono (Jd.get hz) ?_
  rintro r M' ⟨z', m2, rfl, rfl, hb⟩
  obtain ⟨ez, b, k⟩ := Jd.get hb
  subst ez
  exact so_icmp (tgt := 1547) (x := z) (z := z) (by decide +kernel : decode (m_bt 0) 1158 = .ok (.if_icmp .eq 389, 3)) rfl (fun _ => lw_next (by omega) (NX m2 (Inv_kp hV b k) (k.1 1000 rfl))) (fun w => absurd rfl w)
theorem lc_25 {mi : MT} {i : Int} (hV : Inv mi) (hi : (0 ≤ i ∧ i + 8 ≤ mi 1000 0) ∧ mi 1000 0 ≤ 4096) (NX : ∀ m2 : MT, Inv m2 → m2 1000 = mi 1000 → WP 0 1000 172 18 (LL (i + 8)) [] (G m2) Q) : WP 0 1000 172 1163 (LL i) [] (G mi) Q := by
  refine so_aload_n (k := 1) (by decide +kernel) rfl ?_
  refine lw_arg (k := 1) (by decide +kernel) (by decide +kernel) (by decide +kernel) (by decide +kernel) (by decide +kernel) rfl hi (by omega) ?_
  refine lw_arg (k := 2) (by decide +kernel) (by decide +kernel) (by decide +kernel) (by decide +kernel) (by decide +kernel) rfl hi (by omega) ?_
  refine so_callV (idx := 121) (y' := 155) (h := 0) (d' := 999) (b' := 172) (as := [vI (mi 1000 ((i + 1).toNat + 1)), vI (mi 1000 ((i + 2).toNat + 1))]) (S := []) (by decide +kernel) (by decide +kernel) (by decide +kernel) (show 2 = m_na 155 by decide +kernel) (Nat.le_of_ble_eq_true rfl) (by decide +kernel) (by decide) (by rw [(by decide +kernel : m_mc 155 = 0)]) (by decide) (by rw [(by decide +kernel : m_ms 155 = 0), Nat.add_zero]) ?_
  refine WPc.mono (WPc.row (Jd.get (ca_variant (d := 999) hV.1 (by omega)))) ?_
  rintro r M' ⟨er, z, m1, rfl, rfl, hz⟩
  refine so_aload_n (k := 2) (by decide +kernel) rfl ?_
  refine lw_arg (k := 1) (by decide +kernel) (by decide +kernel) (by decide +kernel) (by decide +kernel) (by decide +kernel) er hi (by omega) ?_
  refine lw_arg (k := 2) (by decide +kernel) (by decide +kernel) (by decide +kernel) (by decide +kernel) (by decide +kernel) er hi (by omega) ?_
  refine so_callV (idx := 124) (y' := 262) (h := 134) (d' := 999) (b' := 172) (as := [vI (mi 1000 ((i + 1).toNat + 1)), vI (mi 1000 ((i + 2).toNat + 1))]) (S := [vI z]) (by decide +kernel) (by decide +kernel) (by decide +kernel) (show 2 = m_na 262 by decide +kernel) (Nat.le_of_ble_eq_true rfl) (by decide +kernel) (by decide) (by rw [(by decide +kernel : m_mc 262 = 0)]) (by decide) (by rw [(by decide +kernel : m_ms 262 = 0), Nat.add_zero]) ?_
  refine WPc.mono (Jd.get hz) ?_
  rintro r M' ⟨z', m2, rfl, rfl, hb⟩
  obtain ⟨ez, b, k⟩ := Jd.get hb
  subst ez
  exact so_icmp (tgt := 1547) (x := z) (z := z) (by decide +kernel : decode (m_bt 0) 1191 = .ok (.if_icmp .eq 356, 3)) rfl (fun _ => lw_next (by omega) (NX m2 (Inv_kp hV b k) (k.1 1000 rfl))) (fun w => absurd rfl w)
theorem lc_26 {mi : MT} {i : Int} (hV : Inv mi) (hi : (0 ≤ i ∧ i + 8 ≤ mi 1000 0) ∧ mi 1000 0 ≤ 4096) (NX : ∀ m2 : MT, Inv m2 → m2 1000 = mi 1000 → WP 0 1000 172 18 (LL (i + 8)) [] (G m2) Q) : WP 0 1000 172 1196 (LL i) [] (G mi) Q := by
  refine so_aload_n (k := 1) (by decide +kernel) rfl ?_
  refine lw_arg (k := 1) (by decide +kernel) (by decide +kernel) (by decide +kernel) (by decide +kernel) (by decide +kernel) rfl hi (by omega) ?_
  refine lw_arg (k := 2) (by decide +kernel) (by decide +kernel) (by decide +kernel) (by decide +kernel) (by decide +kernel) rfl hi (by omega) ?_
  refine lw_arg (k := 3) (by decide +kernel) (by decide +kernel) (by decide +kernel) (by decide +kernel) (by decide +kernel) rfl hi (by omega) ?_
  refine lw_arg (k := 4) (by decide +kernel) (by decide +kernel) (by decide +kernel) (by decide +kernel) (by decide +kernel) rfl hi (by omega) ?_
  refine so_callV (idx := 125) (y' := 156) (h := 0) (d' := 999) (b' := 172) (as := [vI (mi 1000 ((i + 1).toNat + 1)), vI (mi 1000 ((i + 2).toNat + 1)), vI (mi 1000 ((i + 3).toNat + 1)), vI (mi 1000 ((i + 4).toNat + 1))]) (S := []) (by decide +kernel) (by decide +kernel) (by decide +kernel) (show 4 = m_na 156 by decide +kernel) (Nat.le_of_ble_eq_true rfl) (by decide +kernel) (by decide) (by rw [(by decide +kernel : m_mc 156 = 0)]) (by decide) (by rw [(by decide +kernel : m_ms 156 = 0), Nat.add_zero]) ?_
  refine WPc.mono (WPc.row (Jd.get (ca_use (d := 999) hV.1 (by omega)))) ?_
  rintro r M' ⟨er, z, m1, rfl, rfl, hz⟩
  refine so_aload_n (k := 2) (by decide +kernel) rfl ?_
  refine lw_arg (k := 1) (by decide +kernel) (by decide +kernel) (by decide +kernel) (by decide +kernel) (by decide +kernel) er hi (by omega) ?_
  refine lw_arg (k := 2) (by decide +kernel) (by decide +kernel) (by decide +kernel) (by decide +kernel) (by decide +kernel) er hi (by omega) ?_
  refine lw_arg (k := 3) (by decide +kernel) (by decide +kernel) (by decide +kernel) (by decide +kernel) (by decide +kernel) er hi (by omega) ?_
  refine lw_arg (k := 4) (by decide +kernel) (by decide +kernel) (by decide +kernel) (by decide +kernel) (by decide +kernel) er hi (by omega) ?_
  refine so_callV (idx := 128) (y' := 263) (h := 134) (d' := 999) (b' := 172) (as := [vI (mi 1000 ((i + 1).toNat + 1)), vI (mi 1000 ((i + 2).toNat + 1)), vI (mi 1000 ((i + 3).toNat + 1)), vI (mi 1000 ((i + 4).toNat + 1))]) (S := [vI z]) (by decide +kernel) (by decide +kernel) (by decide +kernel) (show 4 = m_na 263 by decide +kernel) (Nat.le_of_ble_eq_true rfl) (by decide +kernel) (by decide) (by rw [(by decide +kernel : m_mc 263 = 0)]) (by decide) (by rw [(by decide +kernel : m_ms 263 = 0), Nat.add_zero]) ?_
  refine WPc.mono (Jd.get hz) ?_
  rintro r M' ⟨z', m2, rfl, rfl, hb⟩
  obtain ⟨ez, b, k⟩ := Jd.get hb
  subst ez
  exact so_icmp (tgt := 1547) (x := z) (z := z) (by decide +kernel : decode (m_bt 0) 1244 = .ok (.if_icmp .eq 303, 3)) rfl (fun _ => lw_next (by omega) (NX m2 (Inv_kp hV b k) (k.1 1000 rfl))) (fun w => absurd rfl w)
theorem lc_27 {mi : MT} {i : Int} (hV : Inv mi) (hi : (0 ≤ i ∧ i + 8 ≤ mi 1000 0) ∧ mi 1000 0 ≤ 4096) (NX : ∀ m2 : MT, Inv m2 → m2 1000 = mi 1000 → WP 0 1000 172 18 (LL (i + 8)) [] (G m2) Q) : WP 0 1000 172 1249 (LL i) [] (G mi) Q := by
  refine so_aload_n (k := 1) (by decide +kernel) rfl ?_
  refine lw_arg (k := 1) (by decide +kernel) (by decide +kernel) (by decide +kernel) (by decide +kernel) (by decide +kernel) rfl hi (by omega) ?_
  refine lw_arg (k := 2) (by decide +kernel) (by decide +kernel) (by decide +kernel) (by decide +kernel) (by decide +kernel) rfl hi (by omega) ?_
  refine so_callV (idx := 129) (y' := 157) (h := 0) (d' := 999) (b' := 172) (as := [vI (mi 1000 ((i + 1).toNat + 1)), vI (mi 1000 ((i + 2).toNat + 1))]) (S := []) (by decide +kernel) (by decide +kernel) (by decide +kernel) (show 2 = m_na 157 by decide +kernel) (Nat.le_of_ble_eq_true rfl) (by decide +kernel) (by decide) (by rw [(by decide +kernel : m_mc 157 = 0)]) (by decide) (by rw [(by decide +kernel : m_ms 157 = 0), Nat.add_zero]) ?_
  refine WPc.mono (WPc.row (Jd.get (ca_prior (d := 999) hV.1 (by omega)))) ?_
  rintro r M' ⟨er, z, m1, rfl, rfl, hz⟩
  refine so_aload_n (k := 2) (by decide +kernel) rfl ?_
  refine lw_arg (k := 1) (by decide +kernel) (by decide +kernel) (by decide +kernel) (by decide +kernel) (by decide +kernel) er hi (by omega) ?_
  refine lw_arg (k := 2) (by decide +kernel) (by decide +kernel) (by decide +kernel) (by decide +kernel) (by decide +kernel) er hi (by omega) ?_
  refine so_callV (idx := 132) (y' := 264) (h := 134) (d' := 999) (b' := 172) (as := [vI (mi 1000 ((i + 1).toNat + 1)), vI (mi 1000 ((i + 2).toNat + 1))]) (S := [vI z]) (by decide +kernel) (by decide +kernel) (by decide +kernel) (show 2 = m_na 264 by decide +kernel) (Nat.le_of_ble_eq_true rfl) (by decide +kernel) (by decide) (by rw [(by decide +kernel : m_mc 264 = 0)]) (by decide) (by rw [(by decide +kernel : m_ms 264 = 0), Nat.add_zero]) ?_
  refine WPc.mono (Jd.get hz) ?_
  rintro r M' ⟨z', m2, rfl, rfl, hb⟩
  obtain ⟨ez, b, k⟩ := Jd.get hb
  subst ez
  exact so_icmp (tgt := 1547) (x := z) (z := z) (by decide +kernel : decode (m_bt 0) 1277 = .ok (.if_icmp .eq 270, 3)) rfl (fun _ => lw_next (by omega) (NX m2 (Inv_kp hV b k) (k.1 1000 rfl))) (fun w => absurd rfl w)
theorem lc_28 {mi : MT} {i : Int} (hV : Inv mi) (hi : (0 ≤ i ∧ i + 8 ≤ mi 1000 0) ∧ mi 1000 0 ≤ 4096) (NX : ∀ m2 : MT, Inv m2 → m2 1000 = mi 1000 → WP 0 1000 172 18 (LL (i + 8)) [] (G m2) Q) : WP 0 1000 172 1282 (LL i) [] (G mi) Q := by
  refine so_aload_n (k := 1) (by decide +kernel) rfl ?_
  refine lw_arg (k := 1) (by decide +kernel) (by decide +kernel) (by decide +kernel) (by decide +kernel) (by decide +kernel) rfl hi (by omega) ?_
  refine lw_arg (k := 2) (by decide +kernel) (by decide +kernel) (by decide +kernel) (by decide +kernel) (by decide +kernel) rfl hi (by omega) ?_
  refine lw_arg (k := 3) (by decide +kernel) (by decide +kernel) (by decide +kernel) (by decide +kernel) (by decide +kernel) rfl hi (by omega) ?_
  refine lw_arg (k := 4) (by decide +kernel) (by decide +kernel) (by decide +kernel) (by decide +kernel) (by decide +kernel) rfl hi (by omega) ?_
  refine so_callV (idx := 133) (y' := 158) (h := 0) (d' := 999) (b' := 172) (as := [vI (mi 1000 ((i + 1).toNat + 1)), vI (mi 1000 ((i + 2).toNat + 1)), vI (mi 1000 ((i + 3).toNat + 1)), vI (mi 1000 ((i + 4).toNat + 1))]) (S := []) (by decide +kernel) (by decide +kernel) (by decide +kernel) (show 4 = m_na 158 by decide +kernel) (Nat.le_of_ble_eq_true rfl) (by decide +kernel) (by decide) (by rw [(by decide +kernel : m_mc 158 = 0)]) (by decide) (by rw [(by decide +kernel : m_ms 158 = 0), Nat.add_zero]) ?_
  refine WPc.mono (WPc.row (Jd.get (ca_used (d := 999) hV.1 (by omega)))) ?_
  rintro r M' ⟨er, z, m1, rfl, rfl, hz⟩
  refine so_aload_n (k := 2) (by decide +kernel) rfl ?_
  refine lw_arg (k := 1) (by decide +kernel) (by decide +kernel) (by decide +kernel) (by decide +kernel) (by decide +kernel) er hi (by omega) ?_
  refine lw_arg (k := 2) (by decide +kernel) (by decide +kernel) (by decide +kernel) (by decide +kernel) (by decide +kernel) er hi (by omega) ?_
  refine lw_arg (k := 3) (by decide +kernel) (by decide +kernel) (by decide +kernel) (by decide +kernel) (by decide +kernel) er hi (by omega) ?_
  refine lw_arg (k := 4) (by decide +kernel) (by decide +kernel) (by decide +kernel) (by decide +kernel) (by decide +kernel) er hi (by omega) ?_
  refine so_callV (idx := 136) (y' := 265) (h := 134) (d' := 999) (b' := 172) (as := [vI (mi 1000 ((i + 1).toNat + 1)), vI (mi 1000 ((i + 2).toNat + 1)), vI (mi 1000 ((i + 3).toNat + 1)), vI (mi 1000 ((i + 4).toNat + 1))]) (S := [vI z]) (by decide +kernel) (by decide +kernel) (by decide +kernel) (show 4 = m_na 265 by decide +kernel) (Nat.le_of_ble_eq_true rfl) (by decide +kernel) (by decide) (by rw [(by decide +kernel : m_mc 265 = 0)]) (by decide) (by rw [(by decide +kernel : m_ms 265 = 0), Nat.add_zero]) ?_
  refine WPc.mono (Jd.get hz) ?_
  rintro r M' ⟨z', m2, rfl, rfl, hb⟩
  obtain ⟨ez, b, k⟩ := Jd.get hb
  subst ez
  exact so_icmp (tgt := 1547) (x := z) (z := z) (by decide +kernel : decode (m_bt 0) 1330 = .ok (.if_icmp .eq 217, 3)) rfl (fun _ => lw_next (by omega) (NX m2 (Inv_kp hV b k) (k.1 1000 rfl))) (fun w => absurd rfl w)
theorem lc_29 {mi : MT} {i : Int} (hV : Inv mi) (hi : (0 ≤ i ∧ i + 8 ≤ mi 1000 0) ∧ mi 1000 0 ≤ 4096) (NX : ∀ m2 : MT, Inv m2 → m2 1000 = mi 1000 → WP 0 1000 172 18 (LL (i + 8)) [] (G m2) Q) : WP 0 1000 172 1335 (LL i) [] (G mi) Q := by
  refine so_aload_n (k := 1) (by decide +kernel) rfl ?_
  refine lw_arg (k := 1) (by decide +kernel) (by decide +kernel) (by decide +kernel) (by decide +kernel) (by decide +kernel) rfl hi (by omega) ?_
  refine lw_arg (k := 2) (by decide +kernel) (by decide +kernel) (by decide +kernel) (by decide +kernel) (by decide +kernel) rfl hi (by omega) ?_
  refine lw_arg (k := 3) (by decide +kernel) (by decide +kernel) (by decide +kernel) (by decide +kernel) (by decide +kernel) rfl hi (by omega) ?_
  refine so_callV (idx := 137) (y' := 159) (h := 0) (d' := 999) (b' := 172) (as := [vI (mi 1000 ((i + 1).toNat + 1)), vI (mi 1000 ((i + 2).toNat + 1)), vI (mi 1000 ((i + 3).toNat + 1))]) (S := []) (by decide +kernel) (by decide +kernel) (by decide +kernel) (show 3 = m_na 159 by decide +kernel) (Nat.le_of_ble_eq_true rfl) (by decide +kernel) (by decide) (by rw [(by decide +kernel : m_mc 159 = 0)]) (by decide) (by rw [(by decide +kernel : m_ms 159 = 0), Nat.add_zero]) ?_
  refine WPc.mono (WPc.row (Jd.get (ca_counts (d := 999) hV.1 (by omega)))) ?_
  rintro r M' ⟨er, z, m1, rfl, rfl, hz⟩
  refine so_aload_n (k := 2) (by decide +kernel) rfl ?_
  refine lw_arg (k := 1) (by decide +kernel) (by decide +kernel) (by decide +kernel) (by decide +kernel) (by decide +kernel) er hi (by omega) ?_
  refine lw_arg (k := 2) (by decide +kernel) (by decide +kernel) (by decide +kernel) (by decide +kernel) (by decide +kernel) er hi (by omega) ?_
  refine lw_arg (k := 3) (by decide +kernel) (by decide +kernel) (by decide +kernel) (by decide +kernel) (by decide +kernel) er hi (by omega) ?_
  refine so_callV (idx := 140) (y' := 267) (h := 134) (d' := 999) (b' := 172) (as := [vI (mi 1000 ((i + 1).toNat + 1)), vI (mi 1000 ((i + 2).toNat + 1)), vI (mi 1000 ((i + 3).toNat + 1))]) (S := [vI z]) (by decide +kernel) (by decide +kernel) (by decide +kernel) (show 3 = m_na 267 by decide +kernel) (Nat.le_of_ble_eq_true rfl) (by decide +kernel) (by decide) (by rw [(by decide +kernel : m_mc 267 = 0)]) (by decide) (by rw [(by decide +kernel : m_ms 267 = 0), Nat.add_zero]) ?_
  refine WPc.mono (Jd.get hz) ?_
  rintro r M' ⟨z', m2, rfl, rfl, hb⟩
  obtain ⟨ez, b, k⟩ := Jd.get hb
  subst ez
  exact so_icmp (tgt := 1547) (x := z) (z := z) (by decide +kernel : decode (m_bt 0) 1373 = .ok (.if_icmp .eq 174, 3)) rfl (fun _ => lw_next (by omega) (NX m2 (Inv_kp hV b k) (k.1 1000 rfl))) (fun w => absurd rfl w)
theorem lc_30 {mi : MT} {i : Int} (hV : Inv mi) (hi : (0 ≤ i ∧ i + 8 ≤ mi 1000 0) ∧ mi 1000 0 ≤ 4096) (NX : ∀ m2 : MT, Inv m2 → m2 1000 = mi 1000 → WP 0 1000 172 18 (LL (i + 8)) [] (G m2) Q) : WP 0 1000 172 1378 (LL i) [] (G mi) Q := by
  refine so_aload_n (k := 1) (by decide +kernel) rfl ?_
  refine lw_arg (k := 1) (by decide +kernel) (by decide +kernel) (by decide +kernel) (by decide +kernel) (by decide +kernel) rfl hi (by omega) ?_
  refine lw_arg (k := 2) (by decide +kernel) (by decide +kernel) (by decide +kernel) (by decide +kernel) (by decide +kernel) rfl hi (by omega) ?_
  refine lw_arg (k := 3) (by decide +kernel) (by decide +kernel) (by decide +kernel) (by decide +kernel) (by decide +kernel) rfl hi (by omega) ?_
  refine lw_arg (k := 4) (by decide +kernel) (by decide +kernel) (by decide +kernel) (by decide +kernel) (by decide +kernel) rfl hi (by omega) ?_
  refine so_callV (idx := 141) (y' := 160) (h := 0) (d' := 999) (b' := 172) (as := [vI (mi 1000 ((i + 1).toNat + 1)), vI (mi 1000 ((i + 2).toNat + 1)), vI (mi 1000 ((i + 3).toNat + 1)), vI (mi 1000 ((i + 4).toNat + 1))]) (S := []) (by decide +kernel) (by decide +kernel) (by decide +kernel) (show 4 = m_na 160 by decide +kernel) (Nat.le_of_ble_eq_true rfl) (by decide +kernel) (by decide) (by rw [(by decide +kernel : m_mc 160 = 0)]) (by decide) (by rw [(by decide +kernel : m_ms 160 = 0), Nat.add_zero]) ?_
  refine WPc.mono (WPc.row (Jd.get (ca_share (d := 999) hV.1 (by omega)))) ?_
  rintro r M' ⟨er, z, m1, rfl, rfl, hz⟩
  refine so_aload_n (k := 2) (by decide +kernel) rfl ?_
  refine lw_arg (k := 1) (by decide +kernel) (by decide +kernel) (by decide +kernel) (by decide +kernel) (by decide +kernel) er hi (by omega) ?_
  refine lw_arg (k := 2) (by decide +kernel) (by decide +kernel) (by decide +kernel) (by decide +kernel) (by decide +kernel) er hi (by omega) ?_
  refine lw_arg (k := 3) (by decide +kernel) (by decide +kernel) (by decide +kernel) (by decide +kernel) (by decide +kernel) er hi (by omega) ?_
  refine lw_arg (k := 4) (by decide +kernel) (by decide +kernel) (by decide +kernel) (by decide +kernel) (by decide +kernel) er hi (by omega) ?_
  refine so_callV (idx := 145) (y' := 271) (h := 134) (d' := 999) (b' := 172) (as := [vI (mi 1000 ((i + 1).toNat + 1)), vI (mi 1000 ((i + 2).toNat + 1)), vI (mi 1000 ((i + 3).toNat + 1)), vI (mi 1000 ((i + 4).toNat + 1))]) (S := [vL z]) (by decide +kernel) (by decide +kernel) (by decide +kernel) (show 4 = m_na 271 by decide +kernel) (Nat.le_of_ble_eq_true rfl) (by decide +kernel) (by decide) (by rw [(by decide +kernel : m_mc 271 = 0)]) (by decide) (by rw [(by decide +kernel : m_ms 271 = 0), Nat.add_zero]) ?_
  refine WPc.mono (Jd.get hz) ?_
  rintro r M' ⟨z', m2, rfl, rfl, hb⟩
  obtain ⟨ez, b, k⟩ := Jd.get hb
  subst ez
  refine so_lcmp (by decide +kernel) ?_
  rw [show lCmp z z = 0 by unfold lCmp; rw [if_neg (by omega), if_pos rfl]]
  exact so_if (tgt := 1547) (by decide +kernel : decode (m_bt 0) 1427 = .ok (.ifCond .eq 120, 3)) rfl (fun _ => lw_next (by omega) (NX m2 (Inv_kp hV b k) (k.1 1000 rfl))) (fun w => absurd rfl w)
theorem lc_31 {mi : MT} {i : Int} (hV : Inv mi) (hi : (0 ≤ i ∧ i + 8 ≤ mi 1000 0) ∧ mi 1000 0 ≤ 4096) (NX : ∀ m2 : MT, Inv m2 → m2 1000 = mi 1000 → WP 0 1000 172 18 (LL (i + 8)) [] (G m2) Q) : WP 0 1000 172 1432 (LL i) [] (G mi) Q := by
  refine so_aload_n (k := 1) (by decide +kernel) rfl ?_
  refine lw_arg (k := 1) (by decide +kernel) (by decide +kernel) (by decide +kernel) (by decide +kernel) (by decide +kernel) rfl hi (by omega) ?_
  refine lw_arg (k := 2) (by decide +kernel) (by decide +kernel) (by decide +kernel) (by decide +kernel) (by decide +kernel) rfl hi (by omega) ?_
  refine so_callV (idx := 146) (y' := 161) (h := 0) (d' := 999) (b' := 172) (as := [vI (mi 1000 ((i + 1).toNat + 1)), vI (mi 1000 ((i + 2).toNat + 1))]) (S := []) (by decide +kernel) (by decide +kernel) (by decide +kernel) (show 2 = m_na 161 by decide +kernel) (Nat.le_of_ble_eq_true rfl) (by decide +kernel) (by decide) (by rw [(by decide +kernel : m_mc 161 = 0)]) (by decide) (by rw [(by decide +kernel : m_ms 161 = 0), Nat.add_zero]) ?_
  refine WPc.mono (WPc.row (Jd.get (ca_region (d := 999) hV.1 (by omega)))) ?_
  rintro r M' ⟨er, z, m1, rfl, rfl, hz⟩
  refine so_aload_n (k := 2) (by decide +kernel) rfl ?_
  refine lw_arg (k := 1) (by decide +kernel) (by decide +kernel) (by decide +kernel) (by decide +kernel) (by decide +kernel) er hi (by omega) ?_
  refine lw_arg (k := 2) (by decide +kernel) (by decide +kernel) (by decide +kernel) (by decide +kernel) (by decide +kernel) er hi (by omega) ?_
  refine so_callV (idx := 149) (y' := 272) (h := 134) (d' := 999) (b' := 172) (as := [vI (mi 1000 ((i + 1).toNat + 1)), vI (mi 1000 ((i + 2).toNat + 1))]) (S := [vI z]) (by decide +kernel) (by decide +kernel) (by decide +kernel) (show 2 = m_na 272 by decide +kernel) (Nat.le_of_ble_eq_true rfl) (by decide +kernel) (by decide) (by rw [(by decide +kernel : m_mc 272 = 0)]) (by decide) (by rw [(by decide +kernel : m_ms 272 = 0), Nat.add_zero]) ?_
  refine WPc.mono (Jd.get hz) ?_
  rintro r M' ⟨z', m2, rfl, rfl, hb⟩
  obtain ⟨ez, b, k⟩ := Jd.get hb
  subst ez
  exact so_icmp (tgt := 1547) (x := z) (z := z) (by decide +kernel : decode (m_bt 0) 1460 = .ok (.if_icmp .eq 87, 3)) rfl (fun _ => lw_next (by omega) (NX m2 (Inv_kp hV b k) (k.1 1000 rfl))) (fun w => absurd rfl w)
theorem lc_32 {mi : MT} {i : Int} (hV : Inv mi) (hi : (0 ≤ i ∧ i + 8 ≤ mi 1000 0) ∧ mi 1000 0 ≤ 4096) (NX : ∀ m2 : MT, Inv m2 → m2 1000 = mi 1000 → WP 0 1000 172 18 (LL (i + 8)) [] (G m2) Q) : WP 0 1000 172 1465 (LL i) [] (G mi) Q := by
  refine so_aload_n (k := 1) (by decide +kernel) rfl ?_
  refine lw_arg (k := 1) (by decide +kernel) (by decide +kernel) (by decide +kernel) (by decide +kernel) (by decide +kernel) rfl hi (by omega) ?_
  refine so_callV (idx := 150) (y' := 162) (h := 0) (d' := 999) (b' := 172) (as := [vI (mi 1000 ((i + 1).toNat + 1))]) (S := []) (by decide +kernel) (by decide +kernel) (by decide +kernel) (show 1 = m_na 162 by decide +kernel) (Nat.le_of_ble_eq_true rfl) (by decide +kernel) (by decide) (by rw [(by decide +kernel : m_mc 162 = 0)]) (by decide) (by rw [(by decide +kernel : m_ms 162 = 0), Nat.add_zero]) ?_
  refine WPc.mono (WPc.row (Jd.get (ca_image (d := 999) hV (by omega)))) ?_
  rintro r M' ⟨er, z, m1, rfl, rfl, hz⟩
  refine so_aload_n (k := 2) (by decide +kernel) rfl ?_
  refine lw_arg (k := 1) (by decide +kernel) (by decide +kernel) (by decide +kernel) (by decide +kernel) (by decide +kernel) er hi (by omega) ?_
  refine so_callV (idx := 153) (y' := 273) (h := 134) (d' := 999) (b' := 172) (as := [vI (mi 1000 ((i + 1).toNat + 1))]) (S := [vI z]) (by decide +kernel) (by decide +kernel) (by decide +kernel) (show 1 = m_na 273 by decide +kernel) (Nat.le_of_ble_eq_true rfl) (by decide +kernel) (by decide) (by rw [(by decide +kernel : m_mc 273 = 0)]) (by decide) (by rw [(by decide +kernel : m_ms 273 = 0), Nat.add_zero]) ?_
  refine WPc.mono (Jd.get hz) ?_
  rintro r M' ⟨z', m2, rfl, rfl, hb⟩
  obtain ⟨ez, v, k⟩ := Jd.get hb
  subst ez
  exact so_icmp (tgt := 1547) (x := z) (z := z) (by decide +kernel : decode (m_bt 0) 1483 = .ok (.if_icmp .eq 64, 3)) rfl (fun _ => lw_next (by omega) (NX m2 v k)) (fun w => absurd rfl w)
theorem lc_33 {mi : MT} {i : Int} (hV : Inv mi) (hi : (0 ≤ i ∧ i + 8 ≤ mi 1000 0) ∧ mi 1000 0 ≤ 4096) (NX : ∀ m2 : MT, Inv m2 → m2 1000 = mi 1000 → WP 0 1000 172 18 (LL (i + 8)) [] (G m2) Q) : WP 0 1000 172 1488 (LL i) [] (G mi) Q := by
  refine so_aload_n (k := 1) (by decide +kernel) rfl ?_
  refine lw_arg (k := 1) (by decide +kernel) (by decide +kernel) (by decide +kernel) (by decide +kernel) (by decide +kernel) rfl hi (by omega) ?_
  refine so_callV (idx := 154) (y' := 163) (h := 0) (d' := 999) (b' := 172) (as := [vI (mi 1000 ((i + 1).toNat + 1))]) (S := []) (by decide +kernel) (by decide +kernel) (by decide +kernel) (show 1 = m_na 163 by decide +kernel) (Nat.le_of_ble_eq_true rfl) (by decide +kernel) (by decide) (by rw [(by decide +kernel : m_mc 163 = 0)]) (by decide) (by rw [(by decide +kernel : m_ms 163 = 0), Nat.add_zero]) ?_
  refine WPc.mono (WPc.row (Jd.get (ca_back (d := 999) hV (by omega)))) ?_
  rintro r M' ⟨er, z, m1, rfl, rfl, hz⟩
  refine so_aload_n (k := 2) (by decide +kernel) rfl ?_
  refine lw_arg (k := 1) (by decide +kernel) (by decide +kernel) (by decide +kernel) (by decide +kernel) (by decide +kernel) er hi (by omega) ?_
  refine so_callV (idx := 157) (y' := 274) (h := 134) (d' := 999) (b' := 172) (as := [vI (mi 1000 ((i + 1).toNat + 1))]) (S := [vI z]) (by decide +kernel) (by decide +kernel) (by decide +kernel) (show 1 = m_na 274 by decide +kernel) (Nat.le_of_ble_eq_true rfl) (by decide +kernel) (by decide) (by rw [(by decide +kernel : m_mc 274 = 0)]) (by decide) (by rw [(by decide +kernel : m_ms 274 = 0), Nat.add_zero]) ?_
  refine WPc.mono (Jd.get hz) ?_
  rintro r M' ⟨z', m2, rfl, rfl, hb⟩
  obtain ⟨ez, v, k⟩ := Jd.get hb
  subst ez
  exact so_icmp (tgt := 1547) (x := z) (z := z) (by decide +kernel : decode (m_bt 0) 1506 = .ok (.if_icmp .eq 41, 3)) rfl (fun _ => lw_next (by omega) (NX m2 v k)) (fun w => absurd rfl w)
theorem lc_34 {mi : MT} {i : Int} (hV : Inv mi) (hi : (0 ≤ i ∧ i + 8 ≤ mi 1000 0) ∧ mi 1000 0 ≤ 4096) (NX : ∀ m2 : MT, Inv m2 → m2 1000 = mi 1000 → WP 0 1000 172 18 (LL (i + 8)) [] (G m2) Q) : WP 0 1000 172 1511 (LL i) [] (G mi) Q := by
  refine so_aload_n (k := 1) (by decide +kernel) rfl ?_
  refine lw_arg (k := 1) (by decide +kernel) (by decide +kernel) (by decide +kernel) (by decide +kernel) (by decide +kernel) rfl hi (by omega) ?_
  refine so_callV (idx := 158) (y' := 164) (h := 0) (d' := 999) (b' := 172) (as := [vI (mi 1000 ((i + 1).toNat + 1))]) (S := []) (by decide +kernel) (by decide +kernel) (by decide +kernel) (show 1 = m_na 164 by decide +kernel) (Nat.le_of_ble_eq_true rfl) (by decide +kernel) (by decide) (by rw [(by decide +kernel : m_mc 164 = 0)]) (by decide) (by rw [(by decide +kernel : m_ms 164 = 0), Nat.add_zero]) ?_
  refine WPc.mono (WPc.row (Jd.get (ca_count (d := 999) hV.1 (hV.2.1.1.2.2.2.1.1.symm)))) ?_
  rintro r M' ⟨er, z, m1, rfl, rfl, hz⟩
  refine so_aload_n (k := 2) (by decide +kernel) rfl ?_
  refine lw_arg (k := 1) (by decide +kernel) (by decide +kernel) (by decide +kernel) (by decide +kernel) (by decide +kernel) er hi (by omega) ?_
  refine so_callV (idx := 161) (y' := 275) (h := 134) (d' := 999) (b' := 172) (as := [vI (mi 1000 ((i + 1).toNat + 1))]) (S := [vI z]) (by decide +kernel) (by decide +kernel) (by decide +kernel) (show 1 = m_na 275 by decide +kernel) (Nat.le_of_ble_eq_true rfl) (by decide +kernel) (by decide) (by rw [(by decide +kernel : m_mc 275 = 0)]) (by decide) (by rw [(by decide +kernel : m_ms 275 = 0), Nat.add_zero]) ?_
  refine WPc.mono (Jd.get hz) ?_
  rintro r M' ⟨z', m2, rfl, rfl, hb⟩
  obtain ⟨ez, b, k⟩ := Jd.get hb
  subst ez
  exact so_icmp (tgt := 1547) (x := z) (z := z) (by decide +kernel : decode (m_bt 0) 1529 = .ok (.if_icmp .eq 18, 3)) rfl (fun _ => lw_next (by omega) (NX m2 (Inv_kp hV b k) (k.1 1000 rfl))) (fun w => absurd rfl w)
theorem lc_35 {mi : MT} {i : Int} (hV : Inv mi) (hi : (0 ≤ i ∧ i + 8 ≤ mi 1000 0) ∧ mi 1000 0 ≤ 4096) (NX : ∀ m2 : MT, Inv m2 → m2 1000 = mi 1000 → WP 0 1000 172 18 (LL (i + 8)) [] (G m2) Q) : WP 0 1000 172 1534 (LL i) [] (G mi) Q := by
  refine so_aload_n (k := 1) (by decide +kernel) rfl ?_
  refine so_callV (idx := 162) (y' := 165) (h := 0) (d' := 999) (b' := 172) (as := []) (S := []) (by decide +kernel) (by decide +kernel) (by decide +kernel) (show 0 = m_na 165 by decide +kernel) (Nat.le_of_ble_eq_true rfl) (by decide +kernel) (by decide) (by rw [(by decide +kernel : m_mc 165 = 0)]) (by decide) (by rw [(by decide +kernel : m_ms 165 = 0), Nat.add_zero]) ?_
  refine WPc.mono (WPc.row (Jd.get (ca_status (d := 999) hV.1))) ?_
  rintro r M' ⟨er, z, m1, rfl, rfl, hz⟩
  refine so_aload_n (k := 2) (by decide +kernel) rfl ?_
  refine so_callV (idx := 165) (y' := 276) (h := 134) (d' := 999) (b' := 172) (as := []) (S := [vI z]) (by decide +kernel) (by decide +kernel) (by decide +kernel) (show 0 = m_na 276 by decide +kernel) (Nat.le_of_ble_eq_true rfl) (by decide +kernel) (by decide) (by rw [(by decide +kernel : m_mc 276 = 0)]) (by decide) (by rw [(by decide +kernel : m_ms 276 = 0), Nat.add_zero]) ?_
  refine WPc.mono (Jd.get hz) ?_
  rintro r M' ⟨z', m2, rfl, rfl, hb⟩
  obtain ⟨ez, b, k⟩ := Jd.get hb
  subst ez
  exact so_icmp (tgt := 1547) (x := z) (z := z) (by decide +kernel : decode (m_bt 0) 1542 = .ok (.if_icmp .eq 5, 3)) rfl (fun _ => lw_next (by omega) (NX m2 (Inv_kp hV b k) (k.1 1000 rfl))) (fun w => absurd rfl w)
theorem swT_c {z lo o : Int} {f : Int → Prop} {os : List Int} (h1 : z = lo → f o) (h2 : swT z f (lo + 1) os) : swT z f lo (o :: os) := ⟨h1, h2⟩
theorem lw_loop : ∀ (q : Nat) (i : Int) (mi : MT), mi 1000 0 - i ≤ q → 0 ≤ i → (0 ≤ mi 1000 0 ∧ mi 1000 0 ≤ 4096) → i ≤ 4096 + 8 → Inv mi → WP 0 1000 172 18 (LL i) [] (G mi) (fun r _ => r = some (vI 1)) := by
  intro q
  induction q with
  | zero =>
    intro i mi hq hi0 hL hi1 hV
    refine so_iload_n (k := 3) (by decide +kernel) rfl ?_
    refine so_aload_n (k := 0) (by decide +kernel) rfl ?_
    refine so_alenX (M := G mi) (by decide +kernel) ?_
    refine so_bipush (n := 8) (by decide +kernel) (by unfold ir; omega) rfl ?_
    refine so_isub (x := mi 1000 0) (by decide +kernel) ?_
    rw [wr_id (by omega)]
    refine so_icmp (tgt := 1553) (x := i) (z := mi 1000 0 - 8) (by decide +kernel : decode (m_bt 0) 24 = .ok (.if_icmp .gt 1529, 3)) rfl (fun _ => ?_) (fun w => absurd (show mi 1000 0 - 8 < i by omega) w)
    refine so_iconst (n := 1) (by decide +kernel) (by unfold ir; omega) ?_
    exact so_ireturn (by decide +kernel) (Or.inr ⟨by decide +kernel, Or.inr rfl⟩) rfl rfl
  | succ q ih =>
    intro i mi hq hi0 hL hi1 hV
    refine so_iload_n (k := 3) (by decide +kernel) rfl ?_
    refine so_aload_n (k := 0) (by decide +kernel) rfl ?_
    refine so_alenX (M := G mi) (by decide +kernel) ?_
    refine so_bipush (n := 8) (by decide +kernel) (by unfold ir; omega) rfl ?_
    refine so_isub (x := mi 1000 0) (by decide +kernel) ?_
    rw [wr_id (by omega)]
    refine so_icmp (tgt := 1553) (x := i) (z := mi 1000 0 - 8) (by decide +kernel : decode (m_bt 0) 24 = .ok (.if_icmp .gt 1529, 3)) rfl (fun _ => ?_) (fun w => ?_)
    · refine so_iconst (n := 1) (by decide +kernel) (by unfold ir; omega) ?_
      exact so_ireturn (by decide +kernel) (Or.inr ⟨by decide +kernel, Or.inr rfl⟩) rfl rfl
    · have w' : ¬ mi 1000 0 - 8 < i := w
      have hi : (0 ≤ i ∧ i + 8 ≤ mi 1000 0) ∧ mi 1000 0 ≤ 4096 := by omega
      have NX : ∀ m2 : MT, Inv m2 → m2 1000 = mi 1000 → WP 0 1000 172 18 (LL (i + 8)) [] (G m2) (fun r _ => r = some (vI 1)) := fun m2 v k => ih (i + 8) m2 (by rw [k]; omega) (by omega) (by rw [k]; exact hL) (by omega) v
      refine so_aload_n (k := 0) (by decide +kernel) rfl ?_
      refine so_iload_n (k := 3) (by decide +kernel) rfl ?_
      refine so_ialoadX (M := G mi) (by decide +kernel) hi0 (by show i < mi 1000 0; omega) ?_
      refine so_bipush (n := 63) (by decide +kernel) (by unfold ir; omega) rfl ?_
      refine so_iand (by decide +kernel) ?_
      refine so_table (pc := 33) (dflt := 1514) (lo := 0) (hi := 35) (offs := #[159, 222, 245, 258, 271, 284, 327, 360, 393, 436, 499, 542, 629, 662, 705, 748, 791, 814, 847, 900, 975, 1008, 1041, 1064, 1077, 1130, 1163, 1216, 1249, 1302, 1345, 1399, 1432, 1455, 1478, 1501]) (len := 159) (by decide +kernel) (by decide) (by decide) ?_ (fun _ => lw_next (by omega) (NX mi hV rfl))
      exact (swT_c (fun _ => lc_0 hV hi NX) (swT_c (fun _ => lc_1 hV hi NX) (swT_c (fun _ => lc_2 hV hi NX) (swT_c (fun _ => lc_3 hV hi NX) (swT_c (fun _ => lc_4 hV hi NX) (swT_c (fun _ => lc_5 hV hi NX) (swT_c (fun _ => lc_6 hV hi NX) (swT_c (fun _ => lc_7 hV hi NX) (swT_c (fun _ => lc_8 hV hi NX) (swT_c (fun _ => lc_9 hV hi NX) (swT_c (fun _ => lc_10 hV hi NX) (swT_c (fun _ => lc_11 hV hi NX) (swT_c (fun _ => lc_12 hV hi NX) (swT_c (fun _ => lc_13 hV hi NX) (swT_c (fun _ => lc_14 hV hi NX) (swT_c (fun _ => lc_15 hV hi NX) (swT_c (fun _ => lc_16 hV hi NX) (swT_c (fun _ => lc_17 hV hi NX) (swT_c (fun _ => lc_18 hV hi NX) (swT_c (fun _ => lc_19 hV hi NX) (swT_c (fun _ => lc_20 hV hi NX) (swT_c (fun _ => lc_21 hV hi NX) (swT_c (fun _ => lc_22 hV hi NX) (swT_c (fun _ => lc_23 hV hi NX) (swT_c (fun _ => lc_24 hV hi NX) (swT_c (fun _ => lc_25 hV hi NX) (swT_c (fun _ => lc_26 hV hi NX) (swT_c (fun _ => lc_27 hV hi NX) (swT_c (fun _ => lc_28 hV hi NX) (swT_c (fun _ => lc_29 hV hi NX) (swT_c (fun _ => lc_30 hV hi NX) (swT_c (fun _ => lc_31 hV hi NX) (swT_c (fun _ => lc_32 hV hi NX) (swT_c (fun _ => lc_33 hV hi NX) (swT_c (fun _ => lc_34 hV hi NX) (swT_c (fun _ => lc_35 hV hi NX) trivial))))))))))))))))))))))))))))))))))))
end LAW

