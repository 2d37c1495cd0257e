section SIMPLE
variable {d : Nat} {mi : MT}
theorem PK_ref (hI : Base mi) (z : Int) : PK mi (wt (wt mi 0 13 (min z 0)) 134 3 (min z 0)) := by
  obtain ⟨hs, ht, h1, h2, h3, h4, h5, h6, h7, h8, h9, h10⟩ := id hI
  exact ⟨by (unfold Base Hs; simp only [wt_r, cpm_r, svc, Nat.reduceEqDiff, reduceIte]; refine ⟨?_, ?_, ?_, ?_, ?_, ?_, ?_, ?_, ?_, ?_, ?_, ?_⟩ <;> (repeat (first | assumption | exact P_stat_c ‹_› | refine P_stat_m ?_ (by decide) | refine P_stat_h ?_ (by decide) | refine P_tape_m ?_ (by decide) | refine P_num_c ?_ (by omega) | refine P_num_b ?_ (by decide) | refine P_sgn_c ?_ (by omega) | refine P_xy_c ?_ (by omega) | refine P_w_c ?_ (by omega) | refine P_tr_c ?_ (by omega) | refine P_pr_c ?_ (by omega) | refine P_si_c ?_ (by omega) | refine P_va_c ?_ (by omega) | refine P_us_c ?_ (by omega) | refine P_ud_c ?_ (by omega)))), by (repeat' (first | exact Kp.rfl' _ | refine Kp.w0 ?_ (by decide) | refine Kp.w134 ?_ (by decide) | refine Kp.w135 ?_ (by omega) | refine Kp.wo ?_ (by decide) | refine Kp.cp ?_ (by decide) | refine Kp.o ?_ (by decide)))⟩
theorem ca_status (hI : Base mi) : c_C_status d mi (fun z m1 => c_M_status d m1 (fun z' m2 => Bth z z' mi m2)) :=
  v_C_status (v_M_status (Bth.mk hI.1.1 hI (Kp.rfl' _)))
theorem ca_fault (hI : Base mi) : c_C_fault d mi (fun z m1 => c_M_fault d m1 (fun z' m2 => Bth z z' mi m2)) :=
  v_C_fault (v_M_fault (Bth.mk hI.1.2 hI (Kp.rfl' _)))
theorem ca_place {a x y : Int} (hI : Base mi) (hd : 20 ≤ d) : c_C_place d a x y mi (fun z m1 => c_M_place d a x y m1 (fun z' m2 => Bth z z' mi m2)) := by
  obtain ⟨hs, ht, h1, h2, h3, h4, h5, h6, h7, h8, h9, h10⟩ := id hI
  refine v_C_place ?_
  repeat' (first | (refine And.intro (by omega) ?_) | apply And.intro | intro _ | omega)
  all_goals (refine v_M_place ?_; repeat' (first | (refine And.intro (by omega) ?_) | apply And.intro | intro _ | omega))
  all_goals first | exact Bth.ref (PK_ref hI _) | skip
  refine Bth.mk rfl (by (unfold Base Hs; simp only [wt_r, cpm_r, svc, Nat.reduceEqDiff, reduceIte]; refine ⟨?_, ?_, ?_, ?_, ?_, ?_, ?_, ?_, ?_, ?_, ?_, ?_⟩ <;> (repeat (first | assumption | exact P_stat_c ‹_› | refine P_stat_m ?_ (by decide) | refine P_stat_h ?_ (by decide) | refine P_tape_m ?_ (by decide) | refine P_num_c ?_ (by omega) | refine P_num_b ?_ (by decide) | refine P_sgn_c ?_ (by omega) | refine P_xy_c ?_ (by omega) | refine P_w_c ?_ (by omega) | refine P_tr_c ?_ (by omega) | refine P_pr_c ?_ (by omega) | refine P_si_c ?_ (by omega) | refine P_va_c ?_ (by omega) | refine P_us_c ?_ (by omega) | refine P_ud_c ?_ (by omega)))); (intro k hk hk2; have := h3 k hk hk2; simp only [svr]; omega)) (by (repeat' (first | exact Kp.rfl' _ | refine Kp.w0 ?_ (by decide) | refine Kp.w134 ?_ (by decide) | refine Kp.w135 ?_ (by omega) | refine Kp.wo ?_ (by decide) | refine Kp.cp ?_ (by decide) | refine Kp.o ?_ (by decide))))
theorem ca_weight {k x : Int} (hI : Base mi) (hd : 20 ≤ d) : c_C_weight d k x mi (fun z m1 => c_M_weight d k x m1 (fun z' m2 => Bth z z' mi m2)) := by
  obtain ⟨hs, ht, h1, h2, h3, h4, h5, h6, h7, h8, h9, h10⟩ := id hI
  refine v_C_weight ?_
  repeat' (first | (refine And.intro (by omega) ?_) | apply And.intro | intro _ | omega)
  all_goals (refine v_M_weight ?_; repeat' (first | (refine And.intro (by omega) ?_) | apply And.intro | intro _ | omega))
  all_goals first | exact Bth.ref (PK_ref hI _) | skip
  have e := (h4 k (by omega) (by omega)).1
  rw [← show mi 7 k.toNat = wt (wt mi 7 k.toNat x) 0 13 (min (mi 7 k.toNat) 0) 135 (8 + k).toNat from e]
  refine Bth.mk rfl (by (unfold Base Hs; simp only [wt_r, cpm_r, svc, Nat.reduceEqDiff, reduceIte]; refine ⟨?_, ?_, ?_, ?_, ?_, ?_, ?_, ?_, ?_, ?_, ?_, ?_⟩ <;> (repeat (first | assumption | exact P_stat_c ‹_› | refine P_stat_m ?_ (by decide) | refine P_stat_h ?_ (by decide) | refine P_tape_m ?_ (by decide) | refine P_num_c ?_ (by omega) | refine P_num_b ?_ (by decide) | refine P_sgn_c ?_ (by omega) | refine P_xy_c ?_ (by omega) | refine P_w_c ?_ (by omega) | refine P_tr_c ?_ (by omega) | refine P_pr_c ?_ (by omega) | refine P_si_c ?_ (by omega) | refine P_va_c ?_ (by omega) | refine P_us_c ?_ (by omega) | refine P_ud_c ?_ (by omega)))); (intro k hk hk2; have := h4 k hk hk2; simp only [svr]; omega)) (by (repeat' (first | exact Kp.rfl' _ | refine Kp.w0 ?_ (by decide) | refine Kp.w134 ?_ (by decide) | refine Kp.w135 ?_ (by omega) | refine Kp.wo ?_ (by decide) | refine Kp.cp ?_ (by decide) | refine Kp.o ?_ (by decide))))
theorem ca_prices {k x : Int} (hI : Base mi) (hd : 20 ≤ d) : c_C_prices d k x mi (fun z m1 => c_M_prices d k x m1 (fun z' m2 => Bth z z' mi m2)) := by
  obtain ⟨hs, ht, h1, h2, h3, h4, h5, h6, h7, h8, h9, h10⟩ := id hI
  refine v_C_prices ?_
  repeat' (first | (refine And.intro (by omega) ?_) | apply And.intro | intro _ | omega)
  all_goals (refine v_M_prices ?_; repeat' (first | (refine And.intro (by omega) ?_) | apply And.intro | intro _ | omega))
  all_goals first | exact Bth.ref (PK_ref hI _) | skip
  refine Bth.mk rfl (by (unfold Base Hs; simp only [wt_r, cpm_r, svc, Nat.reduceEqDiff, reduceIte]; refine ⟨?_, ?_, ?_, ?_, ?_, ?_, ?_, ?_, ?_, ?_, ?_, ?_⟩ <;> (repeat (first | assumption | exact P_stat_c ‹_› | refine P_stat_m ?_ (by decide) | refine P_stat_h ?_ (by decide) | refine P_tape_m ?_ (by decide) | refine P_num_c ?_ (by omega) | refine P_num_b ?_ (by decide) | refine P_sgn_c ?_ (by omega) | refine P_xy_c ?_ (by omega) | refine P_w_c ?_ (by omega) | refine P_tr_c ?_ (by omega) | refine P_pr_c ?_ (by omega) | refine P_si_c ?_ (by omega) | refine P_va_c ?_ (by omega) | refine P_us_c ?_ (by omega) | refine P_ud_c ?_ (by omega)))); (unfold P_num at h1 ⊢; simp only [svr, Nat.reduceEqDiff, reduceIte, true_and, and_true, eq_self]; omega)) (by (repeat' (first | exact Kp.rfl' _ | refine Kp.w0 ?_ (by decide) | refine Kp.w134 ?_ (by decide) | refine Kp.w135 ?_ (by omega) | refine Kp.wo ?_ (by decide) | refine Kp.cp ?_ (by decide) | refine Kp.o ?_ (by decide))))
theorem ca_trust {k x : Int} (hI : Base mi) (hd : 20 ≤ d) : c_C_trust d k x mi (fun z m1 => c_M_trust d k x m1 (fun z' m2 => Bth z z' mi m2)) := by
  obtain ⟨hs, ht, h1, h2, h3, h4, h5, h6, h7, h8, h9, h10⟩ := id hI
  refine v_C_trust ?_
  repeat' (first | (refine And.intro (by omega) ?_) | apply And.intro | intro _ | omega)
  all_goals (refine v_M_trust ?_; repeat' (first | (refine And.intro (by omega) ?_) | apply And.intro | intro _ | omega))
  all_goals first | exact Bth.ref (PK_ref hI _) | skip
  have e := (h5 k (by omega) (by omega)).1
  rw [← show mi 15 k.toNat = wt (wt mi 15 k.toNat x) 0 13 (min (mi 15 k.toNat) 0) 135 (5 + k).toNat from e]
  refine Bth.mk rfl (by (unfold Base Hs; simp only [wt_r, cpm_r, svc, Nat.reduceEqDiff, reduceIte]; refine ⟨?_, ?_, ?_, ?_, ?_, ?_, ?_, ?_, ?_, ?_, ?_, ?_⟩ <;> (repeat (first | assumption | exact P_stat_c ‹_› | refine P_stat_m ?_ (by decide) | refine P_stat_h ?_ (by decide) | refine P_tape_m ?_ (by decide) | refine P_num_c ?_ (by omega) | refine P_num_b ?_ (by decide) | refine P_sgn_c ?_ (by omega) | refine P_xy_c ?_ (by omega) | refine P_w_c ?_ (by omega) | refine P_tr_c ?_ (by omega) | refine P_pr_c ?_ (by omega) | refine P_si_c ?_ (by omega) | refine P_va_c ?_ (by omega) | refine P_us_c ?_ (by omega) | refine P_ud_c ?_ (by omega)))); (intro k hk hk2; have := h5 k hk hk2; simp only [svr]; omega)) (by (repeat' (first | exact Kp.rfl' _ | refine Kp.w0 ?_ (by decide) | refine Kp.w134 ?_ (by decide) | refine Kp.w135 ?_ (by omega) | refine Kp.wo ?_ (by decide) | refine Kp.cp ?_ (by decide) | refine Kp.o ?_ (by decide))))
theorem ca_prior {k x : Int} (hI : Base mi) (hd : 20 ≤ d) : c_C_prior d k x mi (fun z m1 => c_M_prior d k x m1 (fun z' m2 => Bth z z' mi m2)) := by
  obtain ⟨hs, ht, h1, h2, h3, h4, h5, h6, h7, h8, h9, h10⟩ := id hI
  refine v_C_prior ?_
  repeat' (first | (refine And.intro (by omega) ?_) | apply And.intro | intro _ | omega)
  all_goals (refine v_M_prior ?_; repeat' (first | (refine And.intro (by omega) ?_) | apply And.intro | intro _ | omega))
  all_goals first | exact Bth.ref (PK_ref hI _) | skip
  have e := (h10 k (by omega) (by omega)).1
  rw [← show mi 28 k.toNat = wt (wt mi 28 k.toNat x) 0 13 (min (mi 28 k.toNat) 0) 135 (12 + k).toNat from e]
  refine Bth.mk rfl (by (unfold Base Hs; simp only [wt_r, cpm_r, svc, Nat.reduceEqDiff, reduceIte]; refine ⟨?_, ?_, ?_, ?_, ?_, ?_, ?_, ?_, ?_, ?_, ?_, ?_⟩ <;> (repeat (first | assumption | exact P_stat_c ‹_› | refine P_stat_m ?_ (by decide) | refine P_stat_h ?_ (by decide) | refine P_tape_m ?_ (by decide) | refine P_num_c ?_ (by omega) | refine P_num_b ?_ (by decide) | refine P_sgn_c ?_ (by omega) | refine P_xy_c ?_ (by omega) | refine P_w_c ?_ (by omega) | refine P_tr_c ?_ (by omega) | refine P_pr_c ?_ (by omega) | refine P_si_c ?_ (by omega) | refine P_va_c ?_ (by omega) | refine P_us_c ?_ (by omega) | refine P_ud_c ?_ (by omega)))); (intro k hk hk2; have := h10 k hk hk2; simp only [svr]; omega)) (by (repeat' (first | exact Kp.rfl' _ | refine Kp.w0 ?_ (by decide) | refine Kp.w134 ?_ (by decide) | refine Kp.w135 ?_ (by omega) | refine Kp.wo ?_ (by decide) | refine Kp.cp ?_ (by decide) | refine Kp.o ?_ (by decide))))
theorem ca_end {n : Int} (hI : Base mi) (hd : 20 ≤ d) : c_C_end d n mi (fun z m1 => c_M_end d n m1 (fun z' m2 => Bth z z' mi m2)) := by
  obtain ⟨hs, ht, h1, h2, h3, h4, h5, h6, h7, h8, h9, h10⟩ := id hI
  obtain ⟨t1, t2, t3⟩ := id ht
  refine v_C_end ?_
  repeat' (first | (refine And.intro (by omega) ?_) | apply And.intro | intro _ | omega)
  all_goals (refine v_M_end ?_)
  all_goals (try simp only [wt_r, svr, Nat.reduceEqDiff, reduceIte])
  all_goals repeat' (first | (refine And.intro (by omega) ?_) | apply And.intro | intro _ | omega)
  all_goals first | exact Bth.mk rfl hI (Kp.rfl' _) | skip
  refine Bth.mk rfl (by (unfold Base Hs; simp only [wt_r, cpm_r, svc, Nat.reduceEqDiff, reduceIte]; refine ⟨?_, ?_, ?_, ?_, ?_, ?_, ?_, ?_, ?_, ?_, ?_, ?_⟩ <;> (repeat (first | assumption | exact P_stat_c ‹_› | refine P_stat_m ?_ (by decide) | refine P_stat_h ?_ (by decide) | refine P_tape_m ?_ (by decide) | refine P_num_c ?_ (by omega) | refine P_num_b ?_ (by decide) | refine P_sgn_c ?_ (by omega) | refine P_xy_c ?_ (by omega) | refine P_w_c ?_ (by omega) | refine P_tr_c ?_ (by omega) | refine P_pr_c ?_ (by omega) | refine P_si_c ?_ (by omega) | refine P_va_c ?_ (by omega) | refine P_us_c ?_ (by omega) | refine P_ud_c ?_ (by omega)))); exact ⟨by rw [sv_eq]; omega, by rw [sv_eq, sv_eq], fun k hk hk2 => t3 k hk (by rw [sv_eq] at hk2; omega)⟩) (by (repeat' (first | exact Kp.rfl' _ | refine Kp.w0 ?_ (by decide) | refine Kp.w134 ?_ (by decide) | refine Kp.w135 ?_ (by omega) | refine Kp.wo ?_ (by decide) | refine Kp.cp ?_ (by decide) | refine Kp.o ?_ (by decide))))
end SIMPLE
