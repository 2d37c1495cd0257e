section CA
variable {d : Nat} {mi : Nat → Nat → Int}
/-- both refuse: only the status is another -/
theorem PK_ref (hI : Base mi) (z : Int) : PK mi (stM (stC mi z) z) := by
  obtain ⟨hs, ht, h1, h2, h3, h4, h5, h6, h7, h8, h9, h10⟩ := hI
  refine ⟨?_, ?_⟩
  · (unfold Base Hs; simp only [svc, Nat.reduceEqDiff, reduceIte]; refine ⟨?_, ?_, ?_, ?_, ?_, ?_, ?_, ?_, ?_, ?_, ?_, ?_⟩ <;> (repeat (first | assumption | exact P_stat_c ‹_› | refine P_tape_m ?_ (by decide) | refine P_num_c ?_ (by omega) | refine P_sgn_c ?_ (by omega) | refine P_xy_c ?_ (by omega) | refine P_w_c ?_ (by omega) | refine P_tr_c ?_ (by omega) | refine P_pr_c ?_ (by omega) | refine P_si_c ?_ (by omega) | refine P_va_c ?_ (by omega) | refine P_us_c ?_ (by omega) | refine P_ud_c ?_ (by omega))))
  · (repeat' (first | exact Kp.rfl' _ | refine Kp.c0 ?_ ?_ | refine Kp.c134 ?_ ?_ | refine Kp.c135 ?_ ?_ | refine Kp.o ?_ (by decide) | (intro j hj) | (simp only [svc, svr, Nat.reduceEqDiff, reduceIte]; done) | (simp only [svc, svr, Nat.reduceEqDiff, reduceIte]; (repeat rw [if_neg (by omega)])) | (repeat rw [if_neg (by omega)])))
theorem ca_place {a x y : Int} (hI : Base mi) (hd : 5 ≤ d) : Both 135 218 d [vI a, vI x, vI y] PK mi := by
  refine sp_place hd (fun h => ⟨_, _, rfl, rfl, sp_mplace hd (fun _ => ⟨_, rfl, rfl, ?_, ?_⟩) (fun h' => absurd h h')⟩) (fun h => ⟨_, _, rfl, rfl, sp_mplace hd (fun h' => absurd h' h) (fun _ => ⟨_, rfl, rfl, PK_ref hI _⟩)⟩)
  · obtain ⟨hs, ht, h1, h2, h3, h4, h5, h6, h7, h8, h9, h10⟩ := hI
    (unfold Base Hs; simp only [svc, Nat.reduceEqDiff, reduceIte]; refine ⟨?_, ?_, ?_, ?_, ?_, ?_, ?_, ?_, ?_, ?_, ?_, ?_⟩ <;> (repeat (first | assumption | exact P_stat_c ‹_› | refine P_tape_m ?_ (by decide) | refine P_num_c ?_ (by omega) | refine P_sgn_c ?_ (by omega) | refine P_xy_c ?_ (by omega) | refine P_w_c ?_ (by omega) | refine P_tr_c ?_ (by omega) | refine P_pr_c ?_ (by omega) | refine P_si_c ?_ (by omega) | refine P_va_c ?_ (by omega) | refine P_us_c ?_ (by omega) | refine P_ud_c ?_ (by omega))))
    intro k hk
    have hk3 := h3 k hk
    simp only [svr]
    repeat' (first | omega | split)
  · (repeat' (first | exact Kp.rfl' _ | refine Kp.c0 ?_ ?_ | refine Kp.c134 ?_ ?_ | refine Kp.c135 ?_ ?_ | refine Kp.o ?_ (by decide) | (intro j hj) | (simp only [svc, svr, Nat.reduceEqDiff, reduceIte]; done) | (simp only [svc, svr, Nat.reduceEqDiff, reduceIte]; (repeat rw [if_neg (by omega)])) | (repeat rw [if_neg (by omega)])))
theorem ca_weight {k x : Int} (hI : Base mi) (hd : 5 ≤ d) : Both 136 219 d [vI k, vI x] PK mi := by
  obtain ⟨hs, ht, h1, h2, h3, h4, h5, h6, h7, h8, h9, h10⟩ := id hI
  refine sp_weight hd (fun h => ⟨_, _, rfl, rfl, sp_mweight hd (fun _ => ?_) (fun h' => absurd h h')⟩) (fun h => ⟨_, _, rfl, rfl, sp_mweight hd (fun h' => absurd h' h) (fun _ => ⟨_, rfl, rfl, PK_ref hI _⟩)⟩)
  have e := (h4 k.toNat (by omega)).1
  rw [show 8 + k.toNat = (8 + k).toNat by omega] at e
  simp only [svc, Nat.reduceEqDiff, reduceIte]
  rw [← e]
  refine ⟨_, rfl, rfl, ?_, ?_⟩
  · (unfold Base Hs; simp only [svc, Nat.reduceEqDiff, reduceIte]; refine ⟨?_, ?_, ?_, ?_, ?_, ?_, ?_, ?_, ?_, ?_, ?_, ?_⟩ <;> (repeat (first | assumption | exact P_stat_c ‹_› | refine P_tape_m ?_ (by decide) | refine P_num_c ?_ (by omega) | refine P_sgn_c ?_ (by omega) | refine P_xy_c ?_ (by omega) | refine P_w_c ?_ (by omega) | refine P_tr_c ?_ (by omega) | refine P_pr_c ?_ (by omega) | refine P_si_c ?_ (by omega) | refine P_va_c ?_ (by omega) | refine P_us_c ?_ (by omega) | refine P_ud_c ?_ (by omega))))
    intro j hj
    have hk3 := h4 j hj
    simp only [svr]
    repeat' (first | omega | split)
  · (repeat' (first | exact Kp.rfl' _ | refine Kp.c0 ?_ ?_ | refine Kp.c134 ?_ ?_ | refine Kp.c135 ?_ ?_ | refine Kp.o ?_ (by decide) | (intro j hj) | (simp only [svc, svr, Nat.reduceEqDiff, reduceIte]; done) | (simp only [svc, svr, Nat.reduceEqDiff, reduceIte]; (repeat rw [if_neg (by omega)])) | (repeat rw [if_neg (by omega)])))
theorem ca_prices {k x : Int} (hI : Base mi) (hd : 5 ≤ d) : Both 137 220 d [vI k, vI x] PK mi := by
  obtain ⟨hs, ht, h1, h2, h3, h4, h5, h6, h7, h8, h9, h10⟩ := id hI
  refine sp_prices hd (fun h => ⟨_, _, rfl, rfl, sp_mprices hd (fun _ => ⟨_, rfl, rfl, ?_, ?_⟩) (fun h' => absurd h h')⟩) (fun h => ⟨_, _, rfl, rfl, sp_mprices hd (fun h' => absurd h' h) (fun _ => ⟨_, rfl, rfl, PK_ref hI _⟩)⟩)
  · (unfold Base Hs; simp only [svc, Nat.reduceEqDiff, reduceIte]; refine ⟨?_, ?_, ?_, ?_, ?_, ?_, ?_, ?_, ?_, ?_, ?_, ?_⟩ <;> (repeat (first | assumption | exact P_stat_c ‹_› | refine P_tape_m ?_ (by decide) | refine P_num_c ?_ (by omega) | refine P_sgn_c ?_ (by omega) | refine P_xy_c ?_ (by omega) | refine P_w_c ?_ (by omega) | refine P_tr_c ?_ (by omega) | refine P_pr_c ?_ (by omega) | refine P_si_c ?_ (by omega) | refine P_va_c ?_ (by omega) | refine P_us_c ?_ (by omega) | refine P_ud_c ?_ (by omega))))
    unfold P_num at h1 ⊢
    simp only [svr, Nat.reduceEqDiff, reduceIte, true_and, and_true, eq_self]
    omega
  · (repeat' (first | exact Kp.rfl' _ | refine Kp.c0 ?_ ?_ | refine Kp.c134 ?_ ?_ | refine Kp.c135 ?_ ?_ | refine Kp.o ?_ (by decide) | (intro j hj) | (simp only [svc, svr, Nat.reduceEqDiff, reduceIte]; done) | (simp only [svc, svr, Nat.reduceEqDiff, reduceIte]; (repeat rw [if_neg (by omega)])) | (repeat rw [if_neg (by omega)])))
theorem ca_trust {k x : Int} (hI : Base mi) (hd : 5 ≤ d) : Both 142 224 d [vI k, vI x] PK mi := by
  obtain ⟨hs, ht, h1, h2, h3, h4, h5, h6, h7, h8, h9, h10⟩ := id hI
  refine sp_trust hd (fun h => ⟨_, _, rfl, rfl, sp_mtrust hd (fun _ => ?_) (fun h' => absurd h h')⟩) (fun h => ⟨_, _, rfl, rfl, sp_mtrust hd (fun h' => absurd h' h) (fun _ => ⟨_, rfl, rfl, PK_ref hI _⟩)⟩)
  have e := (h5 k.toNat (by omega)).1
  rw [show 5 + k.toNat = (5 + k).toNat by omega] at e
  simp only [svc, Nat.reduceEqDiff, reduceIte]
  rw [← e]
  refine ⟨_, rfl, rfl, ?_, ?_⟩
  · (unfold Base Hs; simp only [svc, Nat.reduceEqDiff, reduceIte]; refine ⟨?_, ?_, ?_, ?_, ?_, ?_, ?_, ?_, ?_, ?_, ?_, ?_⟩ <;> (repeat (first | assumption | exact P_stat_c ‹_› | refine P_tape_m ?_ (by decide) | refine P_num_c ?_ (by omega) | refine P_sgn_c ?_ (by omega) | refine P_xy_c ?_ (by omega) | refine P_w_c ?_ (by omega) | refine P_tr_c ?_ (by omega) | refine P_pr_c ?_ (by omega) | refine P_si_c ?_ (by omega) | refine P_va_c ?_ (by omega) | refine P_us_c ?_ (by omega) | refine P_ud_c ?_ (by omega))))
    intro j hj
    have hk3 := h5 j hj
    simp only [svr]
    repeat' (first | omega | split)
  · (repeat' (first | exact Kp.rfl' _ | refine Kp.c0 ?_ ?_ | refine Kp.c134 ?_ ?_ | refine Kp.c135 ?_ ?_ | refine Kp.o ?_ (by decide) | (intro j hj) | (simp only [svc, svr, Nat.reduceEqDiff, reduceIte]; done) | (simp only [svc, svr, Nat.reduceEqDiff, reduceIte]; (repeat rw [if_neg (by omega)])) | (repeat rw [if_neg (by omega)])))
theorem ca_prior {k x : Int} (hI : Base mi) (hd : 5 ≤ d) : Both 157 264 d [vI k, vI x] PK mi := by
  obtain ⟨hs, ht, h1, h2, h3, h4, h5, h6, h7, h8, h9, h10⟩ := id hI
  refine sp_prior hd (fun h => ⟨_, _, rfl, rfl, sp_mprior hd (fun _ => ?_) (fun h' => absurd h h')⟩) (fun h => ⟨_, _, rfl, rfl, sp_mprior hd (fun h' => absurd h' h) (fun _ => ⟨_, rfl, rfl, PK_ref hI _⟩)⟩)
  have e := (h10 k.toNat (by omega)).1
  rw [show 12 + k.toNat = (12 + k).toNat by omega] at e
  simp only [svc, Nat.reduceEqDiff, reduceIte]
  rw [← e]
  refine ⟨_, rfl, rfl, ?_, ?_⟩
  · (unfold Base Hs; simp only [svc, Nat.reduceEqDiff, reduceIte]; refine ⟨?_, ?_, ?_, ?_, ?_, ?_, ?_, ?_, ?_, ?_, ?_, ?_⟩ <;> (repeat (first | assumption | exact P_stat_c ‹_› | refine P_tape_m ?_ (by decide) | refine P_num_c ?_ (by omega) | refine P_sgn_c ?_ (by omega) | refine P_xy_c ?_ (by omega) | refine P_w_c ?_ (by omega) | refine P_tr_c ?_ (by omega) | refine P_pr_c ?_ (by omega) | refine P_si_c ?_ (by omega) | refine P_va_c ?_ (by omega) | refine P_us_c ?_ (by omega) | refine P_ud_c ?_ (by omega))))
    intro j hj
    have hk3 := h10 j hj
    simp only [svr]
    repeat' (first | omega | split)
  · (repeat' (first | exact Kp.rfl' _ | refine Kp.c0 ?_ ?_ | refine Kp.c134 ?_ ?_ | refine Kp.c135 ?_ ?_ | refine Kp.o ?_ (by decide) | (intro j hj) | (simp only [svc, svr, Nat.reduceEqDiff, reduceIte]; done) | (simp only [svc, svr, Nat.reduceEqDiff, reduceIte]; (repeat rw [if_neg (by omega)])) | (repeat rw [if_neg (by omega)])))
theorem ca_end {n : Int} (hI : Base mi) (hd : 5 ≤ d) : Both 131 183 d [vI n] PK mi := by
  obtain ⟨hs, ht, h1, h2, h3, h4, h5, h6, h7, h8, h9, h10⟩ := id hI
  have e := ht.2.2.1
  refine sp_end hd (fun h => ⟨_, _, rfl, rfl, sp_mend hd (fun _ => ⟨_, rfl, rfl, ?_, ?_⟩) (fun h' => ?_)⟩) (fun h => ⟨_, _, rfl, rfl, sp_mend hd (fun h' => ?_) (fun _ => ⟨_, rfl, rfl, hI, Kp.rfl' _⟩)⟩)
  · (unfold Base Hs; simp only [svc, Nat.reduceEqDiff, reduceIte]; refine ⟨?_, ?_, ?_, ?_, ?_, ?_, ?_, ?_, ?_, ?_, ?_, ?_⟩ <;> (repeat (first | assumption | exact P_stat_c ‹_› | refine P_tape_m ?_ (by decide) | refine P_num_c ?_ (by omega) | refine P_sgn_c ?_ (by omega) | refine P_xy_c ?_ (by omega) | refine P_w_c ?_ (by omega) | refine P_tr_c ?_ (by omega) | refine P_pr_c ?_ (by omega) | refine P_si_c ?_ (by omega) | refine P_va_c ?_ (by omega) | refine P_us_c ?_ (by omega) | refine P_ud_c ?_ (by omega))))
    obtain ⟨t1, t2, t3, t4⟩ := ht
    refine ⟨by rw [sv_eq]; omega, by rw [sv_eq]; omega, by rw [sv_eq, sv_eq], fun k hk => ?_⟩
    rw [sv_eq] at hk
    exact t4 k (by omega)
  · (repeat' (first | exact Kp.rfl' _ | refine Kp.c0 ?_ ?_ | refine Kp.c134 ?_ ?_ | refine Kp.c135 ?_ ?_ | refine Kp.o ?_ (by decide) | (intro j hj) | (simp only [svc, svr, Nat.reduceEqDiff, reduceIte]; done) | (simp only [svc, svr, Nat.reduceEqDiff, reduceIte]; (repeat rw [if_neg (by omega)])) | (repeat rw [if_neg (by omega)])))
  · simp only [svc, Nat.reduceEqDiff, reduceIte] at h'; omega
  · omega
end CA
