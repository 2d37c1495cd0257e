theorem swT_mono {z : Int} {f g : Int → Prop} (hf : ∀ o, f o → g o) : ∀ (os : List Int) (lo : Int), swT z f lo os → swT z g lo os
  | [], _, _ => trivial
  | _ :: os, lo, h => ⟨fun q => hf _ (h.1 q), swT_mono hf os (lo + 1) h.2⟩
theorem swL_mono {z : Int} {f g : Int → Prop} (hf : ∀ o, f o → g o) (df : Int) : ∀ (os : List (Int × Int)), swL z f df os → swL z g df os
  | [], h => hf _ h
  | _ :: os, h => ⟨fun q => hf _ (h.1 q), fun q => swL_mono hf df os (h.2 q)⟩
theorem wp_le {y d b pc : Nat} {L : Lc} {S : List AV} {M : Mem} {Q : Option AV → Mem → Prop} (h : M.2.2 ≤ b → WP y d b pc L S M Q) : WP y d b pc L S M Q := by
  intro X p l e R s m args below meth c H locs Qf ls na0 hC hM hS hL hW hl hn hR
  exact h hn.2 X p l e R s m args below meth c H locs Qf ls na0 hC hM hS hL hW hl hn hR
section ST
variable {y d b pc : Nat} {L : Lc} {S : List AV} {M : Mem} {Q : Option AV → Mem → Prop} {k : Lc → List AV → Mem → Prop} {K : Nat → Lc → List AV → Mem → Prop}
theorem lc_il {a o : Nat} (h : a < 9223372036854775808) : il (lcv a o) := by unfold lcv il; split <;> omega
theorem stp_ok (it : It) (hc : dck y pc it = true) (h : stp y d b pc it L S M k K Q) (hk : ∀ L' S' M', k L' S' M' → WP y d b (pc + it.2.1) L' S' M' Q) (hK : ∀ pc' L' S' M', K pc' L' S' M' → WP y d b pc' L' S' M' Q) : WP y d b pc L S M Q := by
  obtain ⟨i, l, a, o, c, e⟩ := it
  simp only [dck, Bool.and_eq_true, decide_eq_true_eq] at hc
  obtain ⟨hd, hi⟩ := hc
  simp only at hd hk
  cases i with
  | iconst n =>
    simp only [ick, decide_eq_true_eq] at hi
    obtain ⟨rfl, h1⟩ := hi
    exact so_iconst hd h1 (hk _ _ _ h)
  | bipush n =>
    simp only [ick, decide_eq_true_eq] at hi
    obtain ⟨rfl, h1, h2⟩ := hi
    exact so_bipush hd h1 h2 (hk _ _ _ h)
  | sipush n =>
    simp only [ick, decide_eq_true_eq] at hi
    obtain ⟨rfl, h1, h2⟩ := hi
    exact so_sipush hd h1 h2 (hk _ _ _ h)
  | lconst n =>
    simp only [ick, decide_eq_true_eq] at hi
    obtain ⟨rfl, rfl⟩ := hi
    exact so_lconst hd (hk _ _ _ h)
  | ldc n =>
    simp only [ick, decide_eq_true_eq] at hi
    obtain ⟨rfl, h1⟩ := hi
    simp only [stp] at h
    rcases h1 with ⟨rfl, h1, h2⟩ | ⟨rfl, h1, h2, h3, h4⟩
    · exact so_ldc hd h1 (by unfold ir; omega) (hk _ _ _ h)
    · have := hk _ _ _ h
      obtain ⟨j, rfl⟩ : ∃ j, a = 1010 + j := ⟨a - 1010, by omega⟩
      exact so_ldcS (i := j) hd h1 (by omega) (by rw [Nat.add_sub_cancel_left] at h4; exact h4) this
  | ldc_w n =>
    simp only [ick, decide_eq_true_eq] at hi
    obtain ⟨rfl, h1, h2⟩ := hi
    exact so_ldcw hd h1 (by unfold ir; omega) (hk _ _ _ h)
  | ldc2_w n =>
    simp only [ick, decide_eq_true_eq] at hi
    obtain ⟨rfl, h1, h2⟩ := hi
    exact so_ldc2 hd h1 (lc_il h2) (hk _ _ _ h)
  | iload_n n =>
    simp only [ick, decide_eq_true_eq] at hi
    obtain ⟨rfl, rfl⟩ := hi
    simp only [stp] at h
    cases hg : gL L n.val with
    | none => rw [hg] at h; exact h.elim
    | some v =>
      rw [hg] at h
      rcases v with z | z | (_ | r)
      · exact so_iload_n hd hg (hk _ _ _ h)
      · exact h.elim
      · exact h.elim
      · exact h.elim
  | iload n =>
    simp only [ick, decide_eq_true_eq] at hi
    obtain ⟨rfl, rfl⟩ := hi
    simp only [stp] at h
    cases hg : gL L n with
    | none => rw [hg] at h; exact h.elim
    | some v =>
      rw [hg] at h
      rcases v with z | z | (_ | r)
      · exact so_iload hd hg (hk _ _ _ h)
      · exact h.elim
      · exact h.elim
      · exact h.elim
  | lload_n n =>
    simp only [ick, decide_eq_true_eq] at hi
    obtain ⟨rfl, rfl⟩ := hi
    simp only [stp] at h
    cases hg : gL L n.val with
    | none => rw [hg] at h; exact h.elim
    | some v =>
      rw [hg] at h
      rcases v with z | z | (_ | r)
      · exact h.elim
      · exact so_lload_n hd hg (hk _ _ _ h)
      · exact h.elim
      · exact h.elim
  | lload n =>
    simp only [ick, decide_eq_true_eq] at hi
    obtain ⟨rfl, rfl⟩ := hi
    simp only [stp] at h
    cases hg : gL L n with
    | none => rw [hg] at h; exact h.elim
    | some v =>
      rw [hg] at h
      rcases v with z | z | (_ | r)
      · exact h.elim
      · exact so_lload hd hg (hk _ _ _ h)
      · exact h.elim
      · exact h.elim
  | aload_n n =>
    simp only [ick, decide_eq_true_eq] at hi
    obtain ⟨rfl, rfl⟩ := hi
    simp only [stp] at h
    cases hg : gL L n.val with
    | none => rw [hg] at h; exact h.elim
    | some v =>
      rw [hg] at h
      rcases v with z | z | (_ | r)
      · exact h.elim
      · exact h.elim
      · exact h.elim
      · exact so_aload_n hd hg (hk _ _ _ h)
  | aload n =>
    simp only [ick, decide_eq_true_eq] at hi
    obtain ⟨rfl, rfl⟩ := hi
    simp only [stp] at h
    cases hg : gL L n with
    | none => rw [hg] at h; exact h.elim
    | some v =>
      rw [hg] at h
      rcases v with z | z | (_ | r)
      · exact h.elim
      · exact h.elim
      · exact h.elim
      · exact so_aload hd hg (hk _ _ _ h)
  | istore_n n =>
    simp only [ick, decide_eq_true_eq] at hi
    obtain ⟨rfl, rfl, h1⟩ := hi
    rcases S with _ | ⟨z | z | (_ | r), t⟩
    · exact h.elim
    · exact so_istore_n hd h1 (hk _ _ _ h)
    · exact h.elim
    · exact h.elim
    · exact h.elim
  | istore n =>
    simp only [ick, decide_eq_true_eq] at hi
    obtain ⟨rfl, rfl, h1⟩ := hi
    rcases S with _ | ⟨z | z | (_ | r), t⟩
    · exact h.elim
    · exact so_istore hd h1 (hk _ _ _ h)
    · exact h.elim
    · exact h.elim
    · exact h.elim
  | lstore_n n =>
    simp only [ick, decide_eq_true_eq] at hi
    obtain ⟨rfl, rfl, h1⟩ := hi
    rcases S with _ | ⟨z | z | (_ | r), t⟩
    · exact h.elim
    · exact h.elim
    · exact so_lstore_n hd h1 (hk _ _ _ h)
    · exact h.elim
    · exact h.elim
  | lstore n =>
    simp only [ick, decide_eq_true_eq] at hi
    obtain ⟨rfl, rfl, h1⟩ := hi
    rcases S with _ | ⟨z | z | (_ | r), t⟩
    · exact h.elim
    · exact h.elim
    · exact so_lstore hd h1 (hk _ _ _ h)
    · exact h.elim
    · exact h.elim
  | astore_n n =>
    simp only [ick, decide_eq_true_eq] at hi
    obtain ⟨rfl, rfl, h1⟩ := hi
    rcases S with _ | ⟨z | z | (_ | r), t⟩
    · exact h.elim
    · exact h.elim
    · exact h.elim
    · exact h.elim
    · exact so_astore_n hd h1 (hk _ _ _ h)
  | astore n =>
    simp only [ick, decide_eq_true_eq] at hi
    obtain ⟨rfl, rfl, h1⟩ := hi
    rcases S with _ | ⟨z | z | (_ | r), t⟩
    · exact h.elim
    · exact h.elim
    · exact h.elim
    · exact h.elim
    · exact so_astore hd h1 (hk _ _ _ h)
  | iinc n z0 =>
    simp only [ick, decide_eq_true_eq] at hi
    obtain ⟨rfl, rfl⟩ := hi
    simp only [stp] at h
    cases hg : gL L n with
    | none => rw [hg] at h; exact h.elim
    | some v =>
      rw [hg] at h
      rcases v with z | z | r
      · exact so_iinc hd hg (hk _ _ _ h)
      · exact h.elim
      · exact h.elim
  | iadd =>
    have hl : l = 1 := by simpa [ick] using hi
    subst hl
    rcases S with _ | ⟨z | z | r, _ | ⟨x | x | r2, t⟩⟩
    · exact h.elim
    · exact h.elim
    · exact so_iadd hd (hk _ _ _ h)
    · exact h.elim
    · exact h.elim
    · exact h.elim
    · exact h.elim
    · exact h.elim
    · exact h.elim
    · exact h.elim
    · exact h.elim
    · exact h.elim
    · exact h.elim
  | isub =>
    have hl : l = 1 := by simpa [ick] using hi
    subst hl
    rcases S with _ | ⟨z | z | r, _ | ⟨x | x | r2, t⟩⟩
    · exact h.elim
    · exact h.elim
    · exact so_isub hd (hk _ _ _ h)
    · exact h.elim
    · exact h.elim
    · exact h.elim
    · exact h.elim
    · exact h.elim
    · exact h.elim
    · exact h.elim
    · exact h.elim
    · exact h.elim
    · exact h.elim
  | imul =>
    have hl : l = 1 := by simpa [ick] using hi
    subst hl
    rcases S with _ | ⟨z | z | r, _ | ⟨x | x | r2, t⟩⟩
    · exact h.elim
    · exact h.elim
    · exact so_imul hd (hk _ _ _ h)
    · exact h.elim
    · exact h.elim
    · exact h.elim
    · exact h.elim
    · exact h.elim
    · exact h.elim
    · exact h.elim
    · exact h.elim
    · exact h.elim
    · exact h.elim
  | iand =>
    have hl : l = 1 := by simpa [ick] using hi
    subst hl
    rcases S with _ | ⟨z | z | r, _ | ⟨x | x | r2, t⟩⟩
    · exact h.elim
    · exact h.elim
    · exact so_iand hd (hk _ _ _ h)
    · exact h.elim
    · exact h.elim
    · exact h.elim
    · exact h.elim
    · exact h.elim
    · exact h.elim
    · exact h.elim
    · exact h.elim
    · exact h.elim
    · exact h.elim
  | ior =>
    have hl : l = 1 := by simpa [ick] using hi
    subst hl
    rcases S with _ | ⟨z | z | r, _ | ⟨x | x | r2, t⟩⟩
    · exact h.elim
    · exact h.elim
    · exact so_ior hd (hk _ _ _ h)
    · exact h.elim
    · exact h.elim
    · exact h.elim
    · exact h.elim
    · exact h.elim
    · exact h.elim
    · exact h.elim
    · exact h.elim
    · exact h.elim
    · exact h.elim
  | ixor =>
    have hl : l = 1 := by simpa [ick] using hi
    subst hl
    rcases S with _ | ⟨z | z | r, _ | ⟨x | x | r2, t⟩⟩
    · exact h.elim
    · exact h.elim
    · exact so_ixor hd (hk _ _ _ h)
    · exact h.elim
    · exact h.elim
    · exact h.elim
    · exact h.elim
    · exact h.elim
    · exact h.elim
    · exact h.elim
    · exact h.elim
    · exact h.elim
    · exact h.elim
  | ishl =>
    have hl : l = 1 := by simpa [ick] using hi
    subst hl
    rcases S with _ | ⟨z | z | r, _ | ⟨x | x | r2, t⟩⟩
    · exact h.elim
    · exact h.elim
    · exact so_ishl hd (hk _ _ _ h)
    · exact h.elim
    · exact h.elim
    · exact h.elim
    · exact h.elim
    · exact h.elim
    · exact h.elim
    · exact h.elim
    · exact h.elim
    · exact h.elim
    · exact h.elim
  | ishr =>
    have hl : l = 1 := by simpa [ick] using hi
    subst hl
    rcases S with _ | ⟨z | z | r, _ | ⟨x | x | r2, t⟩⟩
    · exact h.elim
    · exact h.elim
    · exact so_ishr hd (hk _ _ _ h)
    · exact h.elim
    · exact h.elim
    · exact h.elim
    · exact h.elim
    · exact h.elim
    · exact h.elim
    · exact h.elim
    · exact h.elim
    · exact h.elim
    · exact h.elim
  | iushr =>
    have hl : l = 1 := by simpa [ick] using hi
    subst hl
    rcases S with _ | ⟨z | z | r, _ | ⟨x | x | r2, t⟩⟩
    · exact h.elim
    · exact h.elim
    · exact so_iushr hd (hk _ _ _ h)
    · exact h.elim
    · exact h.elim
    · exact h.elim
    · exact h.elim
    · exact h.elim
    · exact h.elim
    · exact h.elim
    · exact h.elim
    · exact h.elim
    · exact h.elim
  | idiv =>
    have hl : l = 1 := by simpa [ick] using hi
    subst hl
    rcases S with _ | ⟨z | z | r, _ | ⟨x | x | r2, t⟩⟩
    · exact h.elim
    · exact h.elim
    · exact so_idiv hd h.1 (hk _ _ _ h.2)
    · exact h.elim
    · exact h.elim
    · exact h.elim
    · exact h.elim
    · exact h.elim
    · exact h.elim
    · exact h.elim
    · exact h.elim
    · exact h.elim
    · exact h.elim
  | irem =>
    have hl : l = 1 := by simpa [ick] using hi
    subst hl
    rcases S with _ | ⟨z | z | r, _ | ⟨x | x | r2, t⟩⟩
    · exact h.elim
    · exact h.elim
    · exact so_irem hd h.1 (hk _ _ _ h.2)
    · exact h.elim
    · exact h.elim
    · exact h.elim
    · exact h.elim
    · exact h.elim
    · exact h.elim
    · exact h.elim
    · exact h.elim
    · exact h.elim
    · exact h.elim
  | ladd =>
    have hl : l = 1 := by simpa [ick] using hi
    subst hl
    rcases S with _ | ⟨z | z | r, _ | ⟨x | x | r2, t⟩⟩
    · exact h.elim
    · exact h.elim
    · exact h.elim
    · exact h.elim
    · exact h.elim
    · exact h.elim
    · exact h.elim
    · exact so_ladd hd (hk _ _ _ h)
    · exact h.elim
    · exact h.elim
    · exact h.elim
    · exact h.elim
    · exact h.elim
  | lsub =>
    have hl : l = 1 := by simpa [ick] using hi
    subst hl
    rcases S with _ | ⟨z | z | r, _ | ⟨x | x | r2, t⟩⟩
    · exact h.elim
    · exact h.elim
    · exact h.elim
    · exact h.elim
    · exact h.elim
    · exact h.elim
    · exact h.elim
    · exact so_lsub hd (hk _ _ _ h)
    · exact h.elim
    · exact h.elim
    · exact h.elim
    · exact h.elim
    · exact h.elim
  | lmul =>
    have hl : l = 1 := by simpa [ick] using hi
    subst hl
    rcases S with _ | ⟨z | z | r, _ | ⟨x | x | r2, t⟩⟩
    · exact h.elim
    · exact h.elim
    · exact h.elim
    · exact h.elim
    · exact h.elim
    · exact h.elim
    · exact h.elim
    · exact so_lmul hd (hk _ _ _ h)
    · exact h.elim
    · exact h.elim
    · exact h.elim
    · exact h.elim
    · exact h.elim
  | land =>
    have hl : l = 1 := by simpa [ick] using hi
    subst hl
    rcases S with _ | ⟨z | z | r, _ | ⟨x | x | r2, t⟩⟩
    · exact h.elim
    · exact h.elim
    · exact h.elim
    · exact h.elim
    · exact h.elim
    · exact h.elim
    · exact h.elim
    · exact so_land hd (hk _ _ _ h)
    · exact h.elim
    · exact h.elim
    · exact h.elim
    · exact h.elim
    · exact h.elim
  | lcmp =>
    have hl : l = 1 := by simpa [ick] using hi
    subst hl
    rcases S with _ | ⟨z | z | r, _ | ⟨x | x | r2, t⟩⟩
    · exact h.elim
    · exact h.elim
    · exact h.elim
    · exact h.elim
    · exact h.elim
    · exact h.elim
    · exact h.elim
    · exact so_lcmp hd (hk _ _ _ h)
    · exact h.elim
    · exact h.elim
    · exact h.elim
    · exact h.elim
    · exact h.elim
  | ldiv =>
    have hl : l = 1 := by simpa [ick] using hi
    subst hl
    rcases S with _ | ⟨z | z | r, _ | ⟨x | x | r2, t⟩⟩
    · exact h.elim
    · exact h.elim
    · exact h.elim
    · exact h.elim
    · exact h.elim
    · exact h.elim
    · exact h.elim
    · exact so_ldiv hd h.1 (hk _ _ _ h.2)
    · exact h.elim
    · exact h.elim
    · exact h.elim
    · exact h.elim
    · exact h.elim
  | lrem =>
    have hl : l = 1 := by simpa [ick] using hi
    subst hl
    rcases S with _ | ⟨z | z | r, _ | ⟨x | x | r2, t⟩⟩
    · exact h.elim
    · exact h.elim
    · exact h.elim
    · exact h.elim
    · exact h.elim
    · exact h.elim
    · exact h.elim
    · exact so_lrem hd h.1 (hk _ _ _ h.2)
    · exact h.elim
    · exact h.elim
    · exact h.elim
    · exact h.elim
    · exact h.elim
  | lshr =>
    have hl : l = 1 := by simpa [ick] using hi
    subst hl
    rcases S with _ | ⟨z | z | r, _ | ⟨x | x | r2, t⟩⟩
    · exact h.elim
    · exact h.elim
    · exact h.elim
    · exact so_lshr hd (hk _ _ _ h)
    · exact h.elim
    · exact h.elim
    · exact h.elim
    · exact h.elim
    · exact h.elim
    · exact h.elim
    · exact h.elim
    · exact h.elim
    · exact h.elim
  | ineg =>
    have hl : l = 1 := by simpa [ick] using hi
    subst hl
    rcases S with _ | ⟨z | z | r, t⟩
    · exact h.elim
    · exact so_ineg hd (hk _ _ _ h)
    · exact h.elim
    · exact h.elim
  | i2b =>
    have hl : l = 1 := by simpa [ick] using hi
    subst hl
    rcases S with _ | ⟨z | z | r, t⟩
    · exact h.elim
    · exact so_i2b hd (hk _ _ _ h)
    · exact h.elim
    · exact h.elim
  | i2l =>
    have hl : l = 1 := by simpa [ick] using hi
    subst hl
    rcases S with _ | ⟨z | z | r, t⟩
    · exact h.elim
    · exact so_i2l hd (hk _ _ _ h)
    · exact h.elim
    · exact h.elim
  | dup =>
    have hl : l = 1 := by simpa [ick] using hi
    subst hl
    rcases S with _ | ⟨v, t⟩
    · exact h.elim
    · exact so_dup hd h.1 (hk _ _ _ h.2)
  | pop =>
    have hl : l = 1 := by simpa [ick] using hi
    subst hl
    rcases S with _ | ⟨v, t⟩
    · exact h.elim
    · exact so_pop hd h.1 (hk _ _ _ h.2)
  | dup2 =>
    have hl : l = 1 := by simpa [ick] using hi
    subst hl
    rcases S with _ | ⟨v, _ | ⟨w, t⟩⟩
    · exact h.elim
    · exact h.elim
    · exact so_dup2 hd h.1.1 h.1.2 (hk _ _ _ h.2)
  | ifCond cn z0 =>
    simp only [ick, decide_eq_true_eq] at hi
    obtain ⟨rfl, h1⟩ := hi
    rcases S with _ | ⟨z | z | r, t⟩
    · exact h.elim
    · exact so_if hd h1 (fun q => hK _ _ _ _ (h.1 q)) (fun q => hk _ _ _ (h.2 q))
    · exact h.elim
    · exact h.elim
  | if_icmp cn z0 =>
    simp only [ick, decide_eq_true_eq] at hi
    obtain ⟨rfl, h1⟩ := hi
    rcases S with _ | ⟨z | z | r, _ | ⟨x | x | r2, t⟩⟩
    · exact h.elim
    · exact h.elim
    · exact so_icmp hd h1 (fun q => hK _ _ _ _ (h.1 q)) (fun q => hk _ _ _ (h.2 q))
    · exact h.elim
    · exact h.elim
    · exact h.elim
    · exact h.elim
    · exact h.elim
    · exact h.elim
    · exact h.elim
    · exact h.elim
    · exact h.elim
    · exact h.elim
  | goto z0 =>
    simp only [ick, decide_eq_true_eq] at hi
    obtain ⟨rfl, h1⟩ := hi
    exact so_goto hd h1 (hK _ _ _ _ h)
  | tableswitch df lo hi2 os =>
    simp only [ick, Bool.and_eq_true, decide_eq_true_eq, List.all_eq_true] at hi
    rcases S with _ | ⟨z | z | r, t⟩
    · exact h.elim
    · exact so_table hd hi.1 hi.2 (swT_mono (fun o q => hK _ _ _ _ q) _ _ h.1) (fun q => hK _ _ _ _ (h.2 q))
    · exact h.elim
    · exact h.elim
  | lookupswitch df ps =>
    simp only [ick, Bool.and_eq_true, decide_eq_true_eq] at hi
    have hi2 := hi.2
    simp only [List.all_eq_true, decide_eq_true_eq] at hi2
    rcases S with _ | ⟨z | z | r, t⟩
    · exact h.elim
    · exact so_lookup hd hi.1 hi2 (swL_mono (fun o q => hK _ _ _ _ q) _ _ h)
    · exact h.elim
    · exact h.elim
  | getfield n =>
    simp only [ick, decide_eq_true_eq] at hi
    obtain ⟨rfl, h1⟩ := hi
    rcases S with _ | ⟨z | z | (_ | r), t⟩
    · exact h.elim
    · exact h.elim
    · exact h.elim
    · exact h.elim
    · exact so_getfield hd h1 h.1 (hk _ _ _ h.2)
  | putfield n =>
    simp only [ick, decide_eq_true_eq] at hi
    obtain ⟨rfl, h1, h2⟩ := hi
    rcases S with _ | ⟨v, _ | ⟨z | z | (_ | r), t⟩⟩
    · exact h.elim
    · exact h.elim
    · exact h.elim
    · exact h.elim
    · exact h.elim
    · obtain ⟨h3, h4⟩ := h
      have F := flT_ok _ h1
      by_cases hc4 : c = 4
      · subst hc4
        simp only [if_true] at h4
        rcases v with z | z | v
        · exact h4.elim
        · exact h4.elim
        · exact so_putR hd h1 h3 h2 (hk _ _ _ h4)
      · rw [if_neg hc4] at h4
        rcases v with z | z | v
        · obtain ⟨h5, h6⟩ := h4
          have hc : c = 0 ∨ c = 3 ∨ c = 4 := F.2.2.2.2.2.2.2.1
          rcases hc with rfl | rfl | rfl
          · exact so_putI hd h1 h3 h2 (hk _ _ _ h6)
          · exact so_putZ hd h1 h3 h2 (h5.resolve_left (by decide)) (hk _ _ _ h6)
          · exact absurd rfl hc4
        · exact h4.elim
        · exact h4.elim
  | getstatic n =>
    simp only [ick, decide_eq_true_eq] at hi
    obtain ⟨rfl, h1⟩ := hi
    rcases h1 with ⟨rfl, h1⟩ | ⟨rfl, h1, h2, rfl⟩
    · exact so_gets hd h1 (hk _ _ _ h)
    · exact so_getsN hd h1 h2 (hk _ _ _ h)
  | iaload =>
    have hl : l = 1 := by simpa [ick] using hi
    subst hl
    rcases S with _ | ⟨z | z | r, _ | ⟨x | x | (_ | r2), t⟩⟩
    · exact h.elim
    · exact h.elim
    · exact h.elim
    · exact h.elim
    · exact h.elim
    · simp only [stp, pIR, lds] at h
      by_cases h1000 : r2 = 1000
      · subst h1000
        simp only [if_true] at h
        exact so_ialoadX hd h.1.1 h.1.2 (hk _ _ _ h.2)
      · rw [if_neg h1000] at h
        by_cases hgt : 1000 < r2
        · rw [if_pos hgt] at h
          exact so_ialoadS hd h.1.1 h.1.2.1 h.1.2.2 (hk _ _ _ h.2)
        · rw [if_neg hgt] at h
          exact so_iaload (n := (kd r2).2) hd (by rw [← h.1.1]) h.1.2.1 h.1.2.2 (hk _ _ _ h.2)
    · exact h.elim
    · exact h.elim
    · exact h.elim
    · exact h.elim
    · exact h.elim
    · exact h.elim
    · exact h.elim
    · exact h.elim
    · exact h.elim
    · exact h.elim
  | laload =>
    have hl : l = 1 := by simpa [ick] using hi
    subst hl
    rcases S with _ | ⟨z | z | r, _ | ⟨x | x | (_ | r2), t⟩⟩
    · exact h.elim
    · exact h.elim
    · exact h.elim
    · exact h.elim
    · exact h.elim
    · exact so_laload (n := (kd r2).2) hd (by rw [← h.1.1]) h.1.2.1 h.1.2.2 (hk _ _ _ h.2)
    · exact h.elim
    · exact h.elim
    · exact h.elim
    · exact h.elim
    · exact h.elim
    · exact h.elim
    · exact h.elim
    · exact h.elim
    · exact h.elim
    · exact h.elim
  | aaload =>
    have hl : l = 1 := by simpa [ick] using hi
    subst hl
    rcases S with _ | ⟨z | z | r, _ | ⟨x | x | (_ | r2), t⟩⟩
    · exact h.elim
    · exact h.elim
    · exact h.elim
    · exact h.elim
    · exact h.elim
    · exact so_aaload (n := (kd r2).2) hd (by rw [← h.1.1]) h.1.2.1 h.1.2.2 (hk _ _ _ h.2)
    · exact h.elim
    · exact h.elim
    · exact h.elim
    · exact h.elim
    · exact h.elim
    · exact h.elim
    · exact h.elim
    · exact h.elim
    · exact h.elim
    · exact h.elim
  | baload =>
    have hl : l = 1 := by simpa [ick] using hi
    subst hl
    rcases S with _ | ⟨z | z | r, _ | ⟨x | x | (_ | r2), t⟩⟩
    · exact h.elim
    · exact h.elim
    · exact h.elim
    · exact h.elim
    · exact h.elim
    · rcases h.1.1 with h1 | h1
      · exact so_baload (n := (kd r2).2) hd (by rw [← h1]) h.1.2.1 h.1.2.2 (hk _ _ _ h.2)
      · exact so_zaload (n := (kd r2).2) hd (by rw [← h1]) h.1.2.1 h.1.2.2 (hk _ _ _ h.2)
    · exact h.elim
    · exact h.elim
    · exact h.elim
    · exact h.elim
    · exact h.elim
    · exact h.elim
    · exact h.elim
    · exact h.elim
    · exact h.elim
    · exact h.elim
  | iastore =>
    have hl : l = 1 := by simpa [ick] using hi
    subst hl
    rcases S with _ | ⟨v, _ | ⟨z | z | r, _ | ⟨x | x | (_ | r2), t⟩⟩⟩
    · exact h.elim
    · exact h.elim
    · exact h.elim
    · exact h.elim
    · exact h.elim
    · exact h.elim
    · rcases v with v | v | v
      · exact so_iastore (n := (kd r2).2) hd (by rw [← h.1.1]) h.1.2.1 h.1.2.2 (hk _ _ _ h.2)
      · exact h.elim
      · exact h.elim
    · exact h.elim
    · exact h.elim
    · exact h.elim
    · exact h.elim
    · exact h.elim
    · exact h.elim
    · exact h.elim
    · exact h.elim
    · exact h.elim
    · exact h.elim
  | lastore =>
    have hl : l = 1 := by simpa [ick] using hi
    subst hl
    rcases S with _ | ⟨v, _ | ⟨z | z | r, _ | ⟨x | x | (_ | r2), t⟩⟩⟩
    · exact h.elim
    · exact h.elim
    · exact h.elim
    · exact h.elim
    · exact h.elim
    · exact h.elim
    · rcases v with v | v | v
      · exact h.elim
      · exact so_lastore (n := (kd r2).2) hd (by rw [← h.1.1]) h.1.2.1 h.1.2.2 (hk _ _ _ h.2)
      · exact h.elim
    · exact h.elim
    · exact h.elim
    · exact h.elim
    · exact h.elim
    · exact h.elim
    · exact h.elim
    · exact h.elim
    · exact h.elim
    · exact h.elim
    · exact h.elim
  | bastore =>
    have hl : l = 1 := by simpa [ick] using hi
    subst hl
    rcases S with _ | ⟨v, _ | ⟨z | z | r, _ | ⟨x | x | (_ | r2), t⟩⟩⟩
    · exact h.elim
    · exact h.elim
    · exact h.elim
    · exact h.elim
    · exact h.elim
    · exact h.elim
    · rcases v with v | v | v
      · rcases h.1.1 with h1 | h1
        · exact so_bastore (n := (kd r2).2) hd (by rw [← h1.1]) h.1.2.1 h.1.2.2 h1.2 (hk _ _ _ h.2)
        · exact so_zastore (n := (kd r2).2) hd (by rw [← h1.1]) h.1.2.1 h.1.2.2 h1.2 (hk _ _ _ h.2)
      · exact h.elim
      · exact h.elim
    · exact h.elim
    · exact h.elim
    · exact h.elim
    · exact h.elim
    · exact h.elim
    · exact h.elim
    · exact h.elim
    · exact h.elim
    · exact h.elim
    · exact h.elim
  | aastore =>
    have hl : l = 1 := by simpa [ick] using hi
    subst hl
    rcases S with _ | ⟨v, _ | ⟨z | z | r, _ | ⟨x | x | (_ | r2), t⟩⟩⟩
    · exact h.elim
    · exact h.elim
    · exact h.elim
    · exact h.elim
    · exact h.elim
    · exact h.elim
    · rcases v with v | v | v
      · exact h.elim
      · exact h.elim
      · rcases v with _ | v
        · exact h.elim
        · exact so_aastore (n := (kd r2).2) hd (by rw [← h.1.1]) h.1.2.1 h.1.2.2.1 h.1.2.2.2 (hk _ _ _ h.2)
    · exact h.elim
    · exact h.elim
    · exact h.elim
    · exact h.elim
    · exact h.elim
    · exact h.elim
    · exact h.elim
    · exact h.elim
    · exact h.elim
    · exact h.elim
  | arraylength =>
    have hl : l = 1 := by simpa [ick] using hi
    subst hl
    rcases S with _ | ⟨z | z | (_ | r), t⟩
    · exact h.elim
    · exact h.elim
    · exact h.elim
    · exact h.elim
    · simp only [stp, pR] at h
      by_cases h1000 : r = 1000
      · subst h1000
        simp only [if_true] at h
        exact so_alenX hd (hk _ _ _ h)
      · rw [if_neg h1000] at h
        exact so_alen (t := (kd r).1) (n := (kd r).2) hd rfl h.1 (hk _ _ _ h.2)
  | newarray ty =>
    simp only [ick, decide_eq_true_eq] at hi
    obtain ⟨rfl, h1⟩ := hi
    rcases S with _ | ⟨z | z | r, t⟩
    · exact h.elim
    · obtain ⟨⟨h2, h3, h4⟩, h5⟩ := h
      cases ty <;> simp only [tyc] at h1 h2 <;> first | omega | skip
      · exact so_newa_boolean hd h2 (by omega) h4 (hk _ _ _ h5)
      · exact so_newa_byte hd h2 (by omega) h4 (hk _ _ _ h5)
      · exact so_newa_int hd h2 (by omega) h4 (hk _ _ _ h5)
      · exact so_newa_long hd h2 (by omega) h4 (hk _ _ _ h5)
    · exact h.elim
    · exact h.elim
  | anewarray n =>
    simp only [ick, decide_eq_true_eq] at hi
    obtain ⟨rfl, h1⟩ := hi
    rcases S with _ | ⟨z | z | r, t⟩
    · exact h.elim
    · exact so_anew hd h1 h.1.1 (by have := h.1.2.1; omega) h.1.2.2 (hk _ _ _ h.2)
    · exact h.elim
    · exact h.elim
  | new n =>
    simp only [ick, decide_eq_true_eq] at hi
    obtain ⟨rfl, h1⟩ := hi
    exact so_new hd h1 h.1.1 h.1.2 (hk _ _ _ h.2)
  | ireturn =>
    simp only [ick, decide_eq_true_eq] at hi
    obtain ⟨rfl, h1⟩ := hi
    rcases S with _ | ⟨z | z | r, t⟩
    · exact h.elim
    · obtain ⟨⟨h2, h3, rfl⟩, h4⟩ := h
      exact so_ireturn hd (h1.imp (fun q => q.2) (fun q => ⟨q.2, h2 q.1⟩)) h3 h4
    · exact h.elim
    · exact h.elim
  | lreturn =>
    simp only [ick, decide_eq_true_eq] at hi
    obtain ⟨rfl, h1⟩ := hi
    rcases S with _ | ⟨z | z | r, t⟩
    · exact h.elim
    · exact h.elim
    · obtain ⟨⟨h3, rfl⟩, h4⟩ := h
      exact so_lreturn hd h1 h3 h4
    · exact h.elim
  | return_ =>
    simp only [ick, decide_eq_true_eq] at hi
    obtain ⟨rfl, h1⟩ := hi
    rcases S with _ | ⟨v, t⟩
    · exact so_return hd h1 h.1 h.2
    · exact h.elim
  | invokevirtual n =>
    simp only [ick, decide_eq_true_eq] at hi
    obtain ⟨rfl, h1, h2, h3, h4, h5, h6⟩ := hi
    obtain ⟨as, t, rfl, g2, g3, g4, g5, g6⟩ := tk_split _ _ _ _ h
    rw [List.append_nil] at g3 g6
    rcases as with _ | ⟨z | z | (_ | r), as⟩
    · exact g3.elim
    · exact g3.elim
    · exact g3.elim
    · exact g3.elim
    · have hh : WPc o (d - 1) M.2.2 (vR (some r) :: as) M (fun r M' => WP y d b (pc + 3) L (r.toList ++ t) M' Q) := g6.mono (fun r M' q => hk _ _ _ q)
      have := wp_le (fun hb => so_callV (b' := M.2.2) (S := t) hd h1 (by rw [← h3]; exact g3) (by simp at g2; omega) (by rw [← ctS_sum]; exact g4) h4 (by omega) (by omega) hb (by omega) hh)
      simpa using this
  | invokespecial n =>
    simp only [ick, decide_eq_true_eq] at hi
    obtain ⟨rfl, h1⟩ := hi
    simp only [stp] at h
    rcases h1 with ⟨rfl, h1⟩ | ⟨rfl, h1, h2, h3, h4⟩ | ⟨rfl, h1, h0, h2, h3, h4⟩
    · simp only [if_true] at h
      rcases S with _ | ⟨z | z | (_ | r), t⟩
      · exact h.elim
      · exact h.elim
      · exact h.elim
      · exact h.elim
      · exact so_objInit hd h1 (by rw [← ctS_sum]; exact h.1) h.2.1 (hk _ _ _ h.2.2)
    · rw [if_neg (by decide)] at h
      obtain ⟨as, t, rfl, g2, g3, g4, g5, g6, g7, g8⟩ := tk_split _ _ _ _ h
      rw [List.append_nil] at g3 g8
      rcases as with _ | ⟨z | z | (_ | r), as⟩
      · exact g3.elim
      · exact g3.elim
      · exact g3.elim
      · exact g3.elim
      · have hh : WPc o (d - 1) (M.2.2 + e) (vR (some r) :: as) M (fun r M' => WP y d b (pc + 3) L (r.toList ++ t) M' Q) := g8.mono (fun r M' q => hk _ _ _ q)
        have := so_callI (S := t) hd h1 g3 (by simp at g2; omega) (by rw [← ctS_sum]; exact g4) h4 (by omega) (by rw [h3]) g6 g7 hh
        simpa using this
    · rw [if_neg (by decide)] at h
      obtain ⟨as, t, rfl, g2, g3, g4, g5, g6, g7, g8⟩ := tk_split _ _ _ _ h
      rw [List.append_nil] at g3 g8
      rcases as with _ | ⟨z | z | (_ | r), as⟩
      · exact g3.elim
      · exact g3.elim
      · exact g3.elim
      · exact g3.elim
      · have hh : WPc o (d - 1) (M.2.2 + e) (vR (some r) :: as) M (fun r M' => WP y d b (pc + 3) L (r.toList ++ t) M' Q) := g8.mono (fun r M' q => hk _ _ _ q)
        have := so_callIN (S := t) hd h1 h0 g3 (by simp at g2; omega) (by rw [← ctS_sum]; exact g4) h4 (by omega) (by rw [h3]) g6 g7 hh
        simpa using this
  | invokestatic n =>
    simp only [ick, decide_eq_true_eq] at hi
    obtain ⟨rfl, h1⟩ := hi
    simp only [stp] at h
    rcases h1 with ⟨rfl, h1⟩ | ⟨rfl, h1⟩ | ⟨rfl, h1⟩ | ⟨rfl, h1, h2, h3, h4, h5⟩ | ⟨rfl, h1, h0, h2, h3, h4, h5⟩
    · simp only [if_true] at h
      rcases S with _ | ⟨z | z | r, _ | ⟨x | x | r2, t⟩⟩ <;> first | exact h.elim | skip
      exact so_min hd h1 (by rw [← ctS_sum]; exact h.1) h.2.1 (hk _ _ _ h.2.2)
    · rw [if_neg (by decide)] at h
      simp only [if_true] at h
      rcases S with _ | ⟨z | z | r, t⟩ <;> first | exact h.elim | skip
      exact so_abs hd h1 (by rw [← ctS_sum]; exact h.1) h.2.1 (hk _ _ _ h.2.2)
    · rw [if_neg (by decide), if_neg (by decide)] at h
      simp only [if_true] at h
      rcases S with _ | ⟨z | z | r, _ | ⟨x | x | r2, _ | ⟨w | w | (_ | w), _ | ⟨u | u | u, _ | ⟨v | v | (_ | v), t⟩⟩⟩⟩⟩ <;> first | exact h.elim | skip
      obtain ⟨⟨⟨g1, g2⟩, ⟨g3, g4, g5⟩, ⟨g6, g7⟩, g8, g9⟩, g10⟩ := h
      exact so_copy (n0 := (kd v).2) (n1 := (kd w).2) hd h1 (by rw [← g1]) (by rw [← g2]) g3 g4 g5 g6 g7 (by rw [← ctS_sum]; exact g8) g9 (hk _ _ _ g10)
    · rw [if_neg (by decide), if_neg (by decide), if_neg (by decide)] at h
      obtain ⟨as, t, rfl, g2, g4, g5, g6⟩ := tk_split _ _ _ _ h
      rw [List.append_nil] at g6
      have hh : WPc o (d - 1) M.2.2 as M (fun r M' => WP y d b (pc + 3) L (r.toList ++ t) M' Q) := g6.mono (fun r M' q => hk _ _ _ q)
      exact wp_le (fun hb => so_callS (b' := M.2.2) (S := t) hd h1 (by omega) (by rw [← ctS_sum]; exact g4) h3 (by omega) (by omega) hb (by omega) hh)
    · rw [if_neg (by decide), if_neg (by decide), if_neg (by decide)] at h
      obtain ⟨as, t, rfl, g2, g4, g5, g6⟩ := tk_split _ _ _ _ h
      rw [List.append_nil] at g6
      have hh : WPc o (d - 1) M.2.2 as M (fun r M' => WP y d b (pc + 3) L (r.toList ++ t) M' Q) := g6.mono (fun r M' q => hk _ _ _ q)
      exact wp_le (fun hb => so_callSN (b' := M.2.2) (S := t) hd h1 h0 (by omega) (by rw [← ctS_sum]; exact g4) h3 (by omega) (by omega) hb (by omega) hh)
  | _ =>
    exact h.elim
def wpI (y d b : Nat) (K : Nat → Lc → List AV → Mem → Prop) (Q : Option AV → Mem → Prop) : List It → Nat → Lc → List AV → Mem → Prop
  | [], pc, L, S, M => K pc L S M
  | it :: its, pc, L, S, M => stp y d b pc it L S M (fun L' S' M' => wpI y d b K Q its (pc + it.2.1) L' S' M') K Q
def chkI (y : Nat) : List It → Nat → Bool
  | [], _ => true
  | it :: its, pc => dck y pc it && chkI y its (pc + it.2.1)
theorem wpI_ok : ∀ (its : List It) (pc : Nat) (L : Lc) (S : List AV) (M : Mem), chkI y its pc = true → wpI y d b (fun pc L S M => WP y d b pc L S M Q) Q its pc L S M → WP y d b pc L S M Q
  | [], _, _, _, _, _, h => h
  | it :: its, pc, L, S, M, hc, h => by
    simp only [chkI, Bool.and_eq_true] at hc
    exact stp_ok it hc.1 h (fun L' S' M' q => wpI_ok its _ L' S' M' hc.2 q) (fun pc' L' S' M' q => q)
end ST
