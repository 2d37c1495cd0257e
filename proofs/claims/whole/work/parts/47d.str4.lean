section STRD
variable {d : Nat} {mi : MT} {r : Nat → Int} {n : Int}
theorem drop_c {w : List Int} {j : Nat} (h : j < w.length) : w.drop j = w.getD j 0 :: w.drop (j + 1) := by
  rw [List.drop_eq_getElem_cons h, List.getD_eq_getElem?_getD, List.getElem?_eq_getElem h]; rfl
theorem k_spells {P : Bool → MT → Prop} {p : Int} {i : Nat} (hi : i < 14) (hd : 15 < d) (hT : TXT (mi 91) r n) (hn : mi 90 3 = n) (hp : 0 ≤ p ∧ p + sln i ≤ n) (h : P (spl r p (stA i).2.2) mi) : WPc 118 d 172 [aR 90, vI p, aR (1010 + i)] (G mi) (RB P) := by
  have l6 := (sln_i i hi).2.1
  have hn4 := hT.1
  refine en_118 ?_
  refine so_iconst (n := 0) (by decide +kernel) (by unfold ir; omega) ?_
  refine so_istore_n (k := 3) (by decide +kernel) (by decide +kernel) ?_
  have LP : ∀ (q j : Nat), q + j = sln i → spl r p (stA i).2.2 = spl r (p + j) ((stA i).2.2.drop j) → WP 118 d 172 2 [some (aR 90), some (vI p), some (aR (1010 + i)), some (vI (j : Int))] [] (G mi) (RB P) := by
    intro q
    induction q with
    | zero =>
      intro j hj hs
      refine so_iload_n (k := 3) (by decide +kernel) rfl ?_
      refine so_aload_n (k := 2) (by decide +kernel) rfl ?_
      refine so_callT (as := []) (S := [vI (j : Int)]) (y' := 281) (d' := d - 1) (b' := 172) (idx := 71) (by decide +kernel) mlo_27 hi (by decide +kernel) (by decide +kernel) (Nat.le_of_ble_eq_true rfl) (by decide +kernel) (by omega) (by rw [(by decide +kernel : m_mc 281 = 0)]) (by omega) (by rw [(by decide +kernel : m_ms 281 = 0), Nat.add_zero]) ?_
      refine k_length hi (by omega) rfl ?_
      refine so_icmp (tgt := 44) (by decide +kernel : decode (m_bt 118) 7 = .ok (.if_icmp .ge 37, 3)) rfl (fun _ => ?_) (fun w => absurd (show (sln i : Int) ≤ (j : Int) by omega) w)
      refine so_iconst (n := 1) (by decide +kernel) (by unfold ir; omega) ?_
      refine so_ireturn (by decide +kernel) (Or.inr ⟨by decide +kernel, Or.inr rfl⟩) rfl ⟨true, mi, rfl, rfl, ?_⟩
      have e : (stA i).2.2.drop j = [] := List.drop_eq_nil_of_le (by show sln i ≤ j; omega)
      rw [hs, e] at h
      exact h
    | succ q ih =>
      intro j hj hs
      have hjl : j < (stA i).2.2.length := by show j < sln i; omega
      have B := sby_i i hi j (by omega)
      refine so_iload_n (k := 3) (by decide +kernel) rfl ?_
      refine so_aload_n (k := 2) (by decide +kernel) rfl ?_
      refine so_callT (as := []) (S := [vI (j : Int)]) (y' := 281) (d' := d - 1) (b' := 172) (idx := 71) (by decide +kernel) mlo_27 hi (by decide +kernel) (by decide +kernel) (Nat.le_of_ble_eq_true rfl) (by decide +kernel) (by omega) (by rw [(by decide +kernel : m_mc 281 = 0)]) (by omega) (by rw [(by decide +kernel : m_ms 281 = 0), Nat.add_zero]) ?_
      refine k_length hi (by omega) rfl ?_
      refine so_icmp (tgt := 44) (by decide +kernel : decode (m_bt 118) 7 = .ok (.if_icmp .ge 37, 3)) rfl (fun w => absurd (show (sln i : Int) ≤ (j : Int) from w) (by omega)) (fun _ => ?_)
      refine so_iload_n (k := 1) (by decide +kernel) rfl ?_
      refine so_iload_n (k := 3) (by decide +kernel) rfl ?_
      refine so_iadd (by decide +kernel) ?_
      rw [wr_id (by omega)]
      refine so_aload_n (k := 0) (by decide +kernel) rfl ?_
      refine so_getfield (idx := 21) (h := 90) (ci := 9) (k := 3) (tc := 0) (fin := 0) (by decide +kernel) (by decide +kernel) (by decide +kernel) ?_
      refine so_icmp (tgt := 36) (x := p + (j : Int)) (z := mi 90 3) (by decide +kernel : decode (m_bt 118) 17 = .ok (.if_icmp .ge 19, 3)) rfl (fun w => absurd (show mi 90 3 ≤ p + (j : Int) from w) (by omega)) (fun _ => ?_)
      refine so_aload_n (k := 0) (by decide +kernel) rfl ?_
      refine so_getfield (idx := 11) (h := 90) (ci := 9) (k := 0) (tc := 4) (fin := 1) (by decide +kernel) (by decide +kernel) (by decide +kernel) ?_
      refine so_iload_n (k := 1) (by decide +kernel) rfl ?_
      refine so_iload_n (k := 3) (by decide +kernel) rfl ?_
      refine so_iadd (by decide +kernel) ?_
      rw [wr_id (by omega)]
      refine so_iaload (h := 91) (n := 400) (i := p + (j : Int)) (by decide +kernel) (by decide +kernel) (by omega) (by omega) ?_
      refine so_aload_n (k := 2) (by decide +kernel) rfl ?_
      refine so_iload_n (k := 3) (by decide +kernel) rfl ?_
      refine so_callT (as := [vI (j : Int)]) (S := [vI (mi 91 (p + (j : Int)).toNat)]) (y' := 282) (d' := d - 1) (b' := 172) (idx := 76) (by decide +kernel) mlo_28 hi (by decide +kernel) (by show 1 = m_na 282; decide +kernel) (Nat.le_of_ble_eq_true rfl) (by decide +kernel) (by omega) (by rw [(by decide +kernel : m_mc 282 = 0)]) (by omega) (by rw [(by decide +kernel : m_ms 282 = 0), Nat.add_zero]) ?_
      refine k_charAt hi (by omega) (by omega) (by omega) rfl ?_
      rw [show ((j : Int)).toNat = j by omega]
      have T := hT.2 (p + j) (by omega) (by omega)
      have dc := drop_c hjl
      have sE : spl r (p + j) ((stA i).2.2.drop j) = (decide (r (p + (j : Int)).toNat = sby i j) && spl r (p + j + 1) ((stA i).2.2.drop (j + 1))) := by rw [dc]; rfl
      have EQ : r (p + (j : Int)).toNat = sby i j ↔ mi 91 (p + (j : Int)).toNat = sby i j := by rw [T.2]; exact sg_eq T.1 B.2.1
      refine so_icmp (tgt := 38) (x := mi 91 (p + (j : Int)).toNat) (z := sby i j) (by decide +kernel : decode (m_bt 118) 33 = .ok (.if_icmp .eq 5, 3)) rfl (fun w => ?_) (fun w => ?_)
      · refine so_iinc (k := 3) (n := 1) (by decide +kernel) rfl ?_
        rw [wr_id (by omega)]
        refine so_goto (tgt := 2) (by decide +kernel : decode (m_bt 118) 41 = .ok (.goto (-39), 3)) rfl ?_
        have := ih (j + 1) (by omega) (by
          rw [hs, sE, decide_eq_true (EQ.mpr w), Bool.true_and, show p + ((j + 1 : Nat) : Int) = p + j + 1 by omega])
        rw [show ((j + 1 : Nat) : Int) = (j : Int) + 1 by omega] at this
        exact this
      · refine so_iconst (n := 0) (by decide +kernel) (by unfold ir; omega) ?_
        refine so_ireturn (by decide +kernel) (Or.inr ⟨by decide +kernel, Or.inl rfl⟩) rfl ⟨false, mi, rfl, rfl, ?_⟩
        rw [hs, sE, decide_eq_false (fun q => w (EQ.mp q)), Bool.false_and] at h
        exact h
  exact LP (sln i) 0 (by omega) (by rw [show p + ((0 : Nat) : Int) = p by omega]; rfl)
end STRD
