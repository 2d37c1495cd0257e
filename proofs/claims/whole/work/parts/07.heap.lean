/-! heap -/
abbrev setN (M : Mem) (h j : Nat) (z : Int) : Mem := (sv M.1 h (sv (M.1 h) j z), M.2.1, M.2.2)
abbrev setR (M : Mem) (h j : Nat) (r : Option Nat) : Mem := (M.1, sv M.2.1 h (sv (M.2.1 h) j r), M.2.2)
theorem kd_lt {h : Nat} (hk : (kd h).1 ≠ 9) : h < 172 := by
  rcases Nat.lt_or_ge h 172 with q | q
  · exact q
  · exfalso; apply hk
    have : kdL[h]? = none := List.getElem?_eq_none (by have : kdL.length = 172 := rfl; omega)
    simp [kd, List.getD_eq_getElem?_getD, this]
theorem ref_lt {n h : Nat} (hv : okv n (vR (some h))) (hk : (kd h).1 ≠ 9) : h < n := by
  have h1 := hv h rfl
  have h2 := kd_lt hk
  omega
theorem ctv_ne {M : Mem} {h j k' j' : Nat} {z : Int} (hk : k' ≠ h) : ctv (setN M h j z) k' j' = ctv M k' j' := by simp [ctv, fcv, sv, hk]
theorem ctv_ne2 {M : Mem} {h j j' : Nat} {z : Int} (hj : j' ≠ j) : ctv (setN M h j z) h j' = ctv M h j' := by simp [ctv, fcv, sv, hj]
theorem ctv_neR {M : Mem} {h j k' j' : Nat} {z : Option Nat} (hk : k' ≠ h) : ctv (setR M h j z) k' j' = ctv M k' j' := by simp [ctv, fcv, sv, hk]
theorem ctv_ne2R {M : Mem} {h j j' : Nat} {z : Option Nat} (hj : j' ≠ j) : ctv (setR M h j z) h j' = ctv M h j' := by simp [ctv, fcv, sv, hj]
theorem ctv_I {M : Mem} {h j : Nat} {z : Int} (h4 : ctc h j ≠ 4) (h1 : ctc h j ≠ 1) : ctv (setN M h j z) h j = vI z := by simp [ctv, fcv, sv, h4, h1]
theorem ctv_L {M : Mem} {h j : Nat} {z : Int} (h1 : ctc h j = 1) : ctv (setN M h j z) h j = vL z := by simp [ctv, fcv, sv, h1]
theorem ctv_R {M : Mem} {h j : Nat} {z : Option Nat} (h1 : ctc h j = 4) : ctv (setR M h j z) h j = vR z := by simp [ctv, fcv, sv, h1]
theorem okM_setN {X : Cx} {M : Mem} {h j : Nat} {z : Int} (hM : okM X M) (hh : h < M.2.2) (hv : okv M.2.2 (ctv (setN M h j z) h j)) : okM X (setN M h j z) := by
  obtain ⟨h1, h2, h3, h4, h5⟩ := hM
  refine ⟨fun k' j' hk' => ?_, fun k' j' hk' hk2 => ?_, h3, ?_, fun j' => ?_⟩
  · by_cases hk : k' = h
    · subst hk
      by_cases hj : j' = j
      · subst hj; exact hv
      · rw [ctv_ne2 hj]; exact h1 k' j' hk'
    · rw [ctv_ne hk]; exact h1 k' j' hk'
  · have hne : k' ≠ h := by have : M.2.2 ≤ k' := hk'; omega
    have := h2 k' j' hk' hk2
    simpa [sv, hne] using this
  · have hne : (1000 : Nat) ≠ h := by omega
    simpa [sv, hne] using h4
  · have hne : (1000 : Nat) ≠ h := by omega
    simpa [sv, hne] using h5 j'
theorem okM_setR {X : Cx} {M : Mem} {h j : Nat} {z : Option Nat} (hM : okM X M) (hh : h < M.2.2) (hv : okv M.2.2 (ctv (setR M h j z) h j)) : okM X (setR M h j z) := by
  obtain ⟨h1, h2, h3, h4, h5⟩ := hM
  refine ⟨fun k' j' hk' => ?_, fun k' j' hk' hk2 => ?_, h3, h4, h5⟩
  · by_cases hk : k' = h
    · subst hk
      by_cases hj : j' = j
      · subst hj; exact hv
      · rw [ctv_ne2R hj]; exact h1 k' j' hk'
    · rw [ctv_neR hk]; exact h1 k' j' hk'
  · have hne : k' ≠ h := by have : M.2.2 ≤ k' := hk'; omega
    have := h2 k' j' hk' hk2
    simpa [sv, hne] using this
theorem cAt_congr {X : Cx} {M M' : Mem} {k : Nat} {H H' : Heap} (hc : ∀ j, ctv M' k j = ctv M k j) (hH : H'[X.1.size + k]? = H[X.1.size + k]?) (h : cAt X M k H) : cAt X M' k H' := by
  have e : (fun j => rv X (ctv M' k j)) = (fun j => rv X (ctv M k j)) := funext fun j => by rw [hc j]
  refine ⟨fun h5 => ?_, fun h5 => ?_⟩
  · rw [e]; exact (h.1 h5).kept hH
  · rw [e, hH]; exact h.2 h5
theorem Wd_put {X : Cx} {M M' : Mem} {h : Nat} {H H' : Heap} (hW : Wd X M H) (hn : M'.2.2 = M.2.2) (hc : ∀ k j, k ≠ h → ctv M' k j = ctv M k j) (hz : H'.size = H.size) (ho : ∀ q, q ≠ X.1.size + h → H'[q]? = H[q]?) (hh : cAt X M' h H') : Wd X M' H' := by
  obtain ⟨h1, h2, h3⟩ := hW
  refine ⟨by rw [hz, hn, h1], fun q hq => ?_, fun k hk => ?_⟩
  · rw [ho q (by omega)]; exact h2 q hq
  · by_cases hkh : k = h
    · subst hkh; exact hh
    · exact cAt_congr (fun j => hc k j hkh) (ho _ (by omega)) (h3 k (by rw [← hn]; exact hk))
theorem arr_upd {X : Cx} {M M' : Mem} {h j n t : Nat} {v : AV} (hk : kd h = (t, n)) (ht : t ≠ 5) {H' : Heap} {c0 : ClassId} (hc0 : c0 = X.2.2.2.1 t)
    (he : H'[X.1.size + h]? = some ((arrV c0 n (fun j => rv X (ctv M h j))).setSlot j (rv X v))) (h1 : ctv M' h j = v) (h2 : ∀ j', j' ≠ j → ctv M' h j' = ctv M h j') : cAt X M' h H' := by
  refine ⟨fun h5 => absurd (by rw [hk] at h5; exact h5) ht, fun _ => ?_⟩
  rw [he, arrV_store, hk, hc0]
  congr 2
  funext q
  by_cases hq : q = j
  · subst hq; simp [updV, h1]
  · simp [updV, hq, h2 q hq]
theorem ftc_eq {q : Nat × Nat × Nat × Nat × Nat × Nat} (h : FLok q) : ftc q.2.2.1 q.2.2.2.1 = q.2.2.2.2.1 := by
  obtain ⟨-, -, -, -, h0, h3, h4, hc, -⟩ := h
  unfold ftc
  rcases hc with hc | hc | hc
  · rw [h0 hc, hc]; rfl
  · rw [h3 hc, hc]; rfl
  · rw [h4 hc, hc]; rfl
theorem nsu_succ {k : Nat} (h : k < 172) : nsu (k + 1) = nsu k + nso (kd k) := by
  have hl : k < kdL.length := h
  unfold nsu kd
  rw [List.take_add_one, List.map_append, List.sum_append]
  simp [List.getElem?_eq_getElem hl]
theorem nsu_step (k : Nat) : nsu k ≤ nsu (k + 1) := by
  rcases Nat.lt_or_ge k 172 with h | h
  · rw [nsu_succ h]; omega
  · unfold nsu
    rw [List.take_of_length_le (show kdL.length ≤ k from h), List.take_of_length_le (show kdL.length ≤ k + 1 from Nat.le_succ_of_le h)]
    exact Nat.le_refl _
theorem nsu_mono {a b : Nat} (h : a ≤ b) : nsu a ≤ nsu b := by
  induction b with
  | zero => have : a = 0 := by omega
            subst this; exact Nat.le_refl _
  | succ b ih =>
    rcases Nat.lt_or_ge a (b + 1) with q | q
    · exact Nat.le_trans (ih (by omega)) (nsu_step b)
    · have : a = b + 1 := by omega
      subst this; exact Nat.le_refl _
theorem lc_put {X : Cx} {locs : List Loc} {a k : Nat} (h : ∀ q ∈ locs, X.1.size ≤ q.base) (ha : X.1.size ≤ a) : ∀ q ∈ locs ++ [(⟨a, k⟩ : Loc)], X.1.size ≤ q.base := fun q hq => by
  rcases List.mem_append.mp hq with h1 | h1
  · exact h q h1
  · rw [List.mem_singleton.mp h1]; exact ha
section SH
variable {y d b pc : Nat} {L : List (Option AV)} {S : List AV} {M : Mem} {Q : Option AV → Mem → Prop}
theorem ad_lt {X : Cx} {h : Nat} (hh : h < 172) : ad X h = X.1.size + h := by unfold ad; rw [if_pos (by omega)]
theorem so_getfield {idx h ci k tc fin : Nat} (hd : decode (m_bt y) pc = .ok (.getfield idx, 3)) (hf : (m_ow y, idx, ci, k, tc, fin) ∈ flT) (hk : kd h = (5, ci)) (hh : WP y d b (pc + 3) L (fcv M h k tc :: S) M Q) : WP y d b pc L (vR (some h) :: S) M Q := by
  intro X p l e R s m args below meth c H locs Qf ls na0 hC hM hS hL hW hl hn hR
  have F := flT_ok _ hf
  have hlt : h < M.2.2 := ref_lt (okS_hd hS) (by simp [hk])
  have h172 : h < 172 := kd_lt (by simp [hk])
  have hw := (hW.2.2 h hlt).1 (by rw [hk])
  rw [hk] at hw
  obtain ⟨cell, q1, q2, q3, q4⟩ := hw
  have CL := CLok_all ci F.2.2.2.2.2.2.2.2
  have hE := hC.2.2.2.2.2.2.2.2.2.2.2.2
  have hts := hC.2.2.2.2.2.1
  obtain ⟨hS0, hfc, kC, hkC, hkind⟩ := hE.1.1 ci _ CL.2.2.2.2.2
  obtain ⟨cf, kf, fi, f, hi, hsl⟩ := hS0 k F.2.1
  have hi2 := hi
  rw [F.2.2.1] at hi2
  have hcv : ctv M h k = fcv M h k tc := by
    unfold ctv ctc
    rw [hk]
    simp only [if_true]
    rw [show ftc ci k = tc from ftc_eq F]
  have hok : okv M.2.2 (fcv M h k tc) := by rw [← hcv]; exact hM.1 h k hlt
  refine W.getf (g := F0 m pc ls ((vR (some h) :: S).map (rv X))) hC.1 hC.2.1 hC.2.2.2.2.1 (hts _ F.1) hi2 (u_facts hfc hkC (u_lays hts CL.1 F.2.1) hi).1 q1 (by rw [q3]; exact fun h => by cases h) (v := rv X (fcv M h k tc)) ?_ rfl (by simp only [List.map_cons, rv]; rw [ad_lt h172]) hd (hh X p l e R s m args below meth c H locs Qf ls na0 hC hM (okS_cons hok (okS_tl hS)) hL hW hl hn hR)
  rw [hsl, q4 k F.2.1]
  simp only [hcv]
theorem put_gen {idx h ci k tc fin : Nat} {v : AV} {M' : Mem} (hd : decode (m_bt y) pc = .ok (.putfield idx, 3)) (hf : (m_ow y, idx, ci, k, tc, fin) ∈ flT) (hk : kd h = (5, ci)) (hin : fin = 0 ∨ ((m_nm y).name = "<init>" ∧ clN (m_ow y) = (cT ci).1))
    (hfit : ∀ X, narrow (fty ci k) (rv X v) = rv X v ∧ fits (fty ci k) (rv X v) = true)
    (hM' : ∀ X, okM X M → okv M.2.2 v → h < M.2.2 → okM X M') (hn' : M'.2.2 = M.2.2) (hc1 : ctv M' h k = v) (hc2 : ∀ j, j ≠ k → ctv M' h j = ctv M h j) (hc3 : ∀ k' j, k' ≠ h → ctv M' k' j = ctv M k' j)
    (hh : WP y d b (pc + 3) L S M' Q) : WP y d b pc L (v :: vR (some h) :: S) M Q := by
  intro X p l e R s m args below meth c H locs Qf ls na0 hC hM hS hL hW hl hn hR
  have F := flT_ok _ hf
  have hlt : h < M.2.2 := ref_lt (okS_hd2 hS) (by simp [hk])
  have h172 : h < 172 := kd_lt (by simp [hk])
  have hw := (hW.2.2 h hlt).1 (by rw [hk])
  rw [hk] at hw
  obtain ⟨cell, q1, q2, q3, q4⟩ := hw
  have CL := CLok_all ci F.2.2.2.2.2.2.2.2
  have hE := hC.2.2.2.2.2.2.2.2.2.2.2.2
  have hts := hC.2.2.2.2.2.1
  have hap := va_apart (own := clN (m_ow y)) hts CL.1 (fty ci) CL.2.2.1 CL.2.1 hE.1 CL.2.2.2.2.2
  obtain ⟨hS0, hfc, kC, hkC, hkind⟩ := hE.1.1 ci _ CL.2.2.2.2.2
  obtain ⟨cf, kf, fi, f, hi, hsl⟩ := hS0 k F.2.1
  have hi2 := hi
  rw [F.2.2.1] at hi2
  have hst := (u_facts hfc hkC (u_lays hts CL.1 F.2.1) hi).1
  have hlay := hts _ (CL.1 _ (u_in_lay F.2.1))
  have fin2 : ∀ H' : Heap, H'[X.1.size + h]? = some (cell.setSlot f.slot (rv X v)) → H'.size = H.size → (∀ q, q ≠ X.1.size + h → H'[q]? = H[q]?) → W p l e R s m args below meth c H' (locs ++ [⟨X.1.size + h, f.slot⟩]) (M.2.2 - na0) (nsu M.2.2 - nsu na0) Qf (F0 m (pc + 3) ls (S.map (rv X))) := by
    intro H' e1 e2 e3
    have hWd : Wd X M' H' := by
      refine Wd_put hW hn' (fun k' j hne => hc3 k' j hne) e2 e3 ⟨fun _ => ?_, fun h5 => absurd (by rw [hk]) h5⟩
      rw [hk]
      refine ⟨_, e1, q2, q3, fun j hj => ?_⟩
      rw [hsl, t_set q4 hap F.2.1 (rv X v) j hj]
      by_cases hjk : j = k
      · subst hjk; simp [updV, hc1]
      · simp [updV, hjk, hc2 j hjk]
    have := hh X p l e R s m args below meth c H' (locs ++ [⟨X.1.size + h, f.slot⟩]) Qf ls na0 hC (hM' X hM (okS_hd hS) hlt) (by rw [hn']; exact okS_tl (okS_tl hS)) (by rw [hn']; exact hL) hWd (lc_put hl (by omega)) (by rw [hn']; exact hn) hR
    rw [hn'] at this
    exact this
  have hstk : (v :: vR (some h) :: S).map (rv X) = rv X v :: .ref (X.1.size + h) :: S.map (rv X) := by
    simp only [List.map_cons]
    rw [show rv X (vR (some h)) = .ref (ad X h) from rfl, ad_lt h172]
  unfold u_lay at hlay
  by_cases hfin : fin = 1
  · rw [if_pos (by rw [F.2.2.2.1]; simp [hfin])] at hlay
    have hin := hin.resolve_left (by omega)
    have hcf : m.cls = cf := by
      obtain ⟨_, _, c', _, _, _, -, -, hf', -, -, -, hown2, -⟩ := Cond.laysFinal_spec hlay
      have e1 : c' = cf := by have := hi.symm.trans hf'; simp at this; exact this.1.symm
      rw [F.2.2.1, ← hin.2] at hown2
      rw [← e1]; exact Option.some.inj (hC.2.2.2.2.1.symm.trans hown2)
    have h6 := u_fits hfc hkC hkind (Or.inr hlay) hi (CL.2.2.1 k F.2.1) (hfit X).1 (hfit X).2
    exact W.putFinK (g := F0 m pc ls ((v :: vR (some h) :: S).map (rv X))) hC.1 hC.2.1 hC.2.2.2.2.1 (hts _ F.1) hi2 hst hcf (hC.2.2.2.2.2.2.2.1 hin.1) (by rw [q2]; exact h6) q1 q3 (by rw [hsl]; exact k2_hasslot (q4 k F.2.1)) rfl hstk hd fin2
  · rw [if_neg (by rw [F.2.2.2.1]; simpa using hfin)] at hlay
    have h6 := u_store hfc hkC hkind hlay hi (CL.2.2.1 k F.2.1) (hfit X).1 (hfit X).2
    exact W.putK (g := F0 m pc ls ((v :: vR (some h) :: S).map (rv X))) hC.1 hC.2.1 (f := f) ⟨hC.2.2.2.2.1, hts _ F.1, ⟨_, _, _, hi2⟩, hst⟩ (by rw [q2]; exact h6) q1 q3 (by rw [hsl]; exact k2_hasslot (q4 k F.2.1)) rfl hstk hd fin2
theorem ctc_obj {h ci k : Nat} (hk : kd h = (5, ci)) : ctc h k = ftc ci k := by unfold ctc; rw [hk]; simp
theorem so_putI {idx h ci k fin : Nat} {z : Int} (hd : decode (m_bt y) pc = .ok (.putfield idx, 3)) (hf : (m_ow y, idx, ci, k, 0, fin) ∈ flT) (hk : kd h = (5, ci)) (hin : fin = 0 ∨ ((m_nm y).name = "<init>" ∧ clN (m_ow y) = (cT ci).1)) (hh : WP y d b (pc + 3) L S (setN M h k z) Q) : WP y d b pc L (vI z :: vR (some h) :: S) M Q := by
  have F := flT_ok _ hf
  have hc : ctc h k = 0 := by rw [ctc_obj hk]; exact ftc_eq F
  have hty : fty ci k = .int := F.2.2.2.2.1 rfl
  have hcv : ctv (setN M h k z) h k = vI z := ctv_I (by omega) (by omega)
  exact put_gen hd hf hk hin (fun X => by rw [hty]; exact ⟨rfl, rfl⟩) (fun X hM hv hlt => okM_setN hM hlt (by rw [hcv]; exact hv)) rfl hcv (fun j hj => ctv_ne2 hj) (fun k' j hne => ctv_ne hne) hh
theorem so_putZ {idx h ci k fin : Nat} {z : Int} (hd : decode (m_bt y) pc = .ok (.putfield idx, 3)) (hf : (m_ow y, idx, ci, k, 3, fin) ∈ flT) (hk : kd h = (5, ci)) (hin : fin = 0 ∨ ((m_nm y).name = "<init>" ∧ clN (m_ow y) = (cT ci).1)) (hz : z = 0 ∨ z = 1) (hh : WP y d b (pc + 3) L S (setN M h k z) Q) : WP y d b pc L (vI z :: vR (some h) :: S) M Q := by
  have F := flT_ok _ hf
  have hc : ctc h k = 3 := by rw [ctc_obj hk]; exact ftc_eq F
  have hty : fty ci k = .boolean := F.2.2.2.2.2.1 rfl
  have hcv : ctv (setN M h k z) h k = vI z := ctv_I (by omega) (by omega)
  exact put_gen hd hf hk hin (fun X => by rw [hty]; rcases hz with rfl | rfl <;> exact ⟨rfl, rfl⟩) (fun X hM hv hlt => okM_setN hM hlt (by rw [hcv]; exact hv)) rfl hcv (fun j hj => ctv_ne2 hj) (fun k' j hne => ctv_ne hne) hh
theorem so_putR {idx h ci k fin : Nat} {r : Option Nat} (hd : decode (m_bt y) pc = .ok (.putfield idx, 3)) (hf : (m_ow y, idx, ci, k, 4, fin) ∈ flT) (hk : kd h = (5, ci)) (hin : fin = 0 ∨ ((m_nm y).name = "<init>" ∧ clN (m_ow y) = (cT ci).1)) (hh : WP y d b (pc + 3) L S (setR M h k r) Q) : WP y d b pc L (vR r :: vR (some h) :: S) M Q := by
  have F := flT_ok _ hf
  have hc : ctc h k = 4 := by rw [ctc_obj hk]; exact ftc_eq F
  have hty : (fty ci k).isReference = true := F.2.2.2.2.2.2.1 rfl
  have hcv : ctv (setR M h k r) h k = vR r := ctv_R hc
  refine put_gen hd hf hk hin (fun X => ?_) (fun X hM hv hlt => okM_setR hM hlt (by rw [hcv]; exact hv)) rfl hcv (fun j hj => ctv_ne2R hj) (fun k' j hne => ctv_neR hne) hh
  revert hty
  generalize fty ci k = t
  intro hty
  cases t <;> first | (rcases r with _ | r <;> exact ⟨rfl, rfl⟩) | (cases hty)
/-! arrays -/
theorem arr_at {X : Cx} {H : Heap} {h t n : Nat} (hW : Wd X M H) (hlt : h < M.2.2) (hk : kd h = (t, n)) (ht : t ≠ 5) : H[X.1.size + h]? = some (arrV (X.2.2.2.1 t) n (fun j => rv X (ctv M h j))) := by
  have := (hW.2.2 h hlt).2 (by rw [hk]; exact ht)
  rwa [hk] at this
theorem ctc_arr {h t n j : Nat} (hk : kd h = (t, n)) (ht : t ≠ 5) : ctc h j = t := by
  unfold ctc; rw [hk]
  show (if t = 5 then _ else t) = t
  rw [if_neg ht]
theorem so_iaload {h n : Nat} {i : Int} (hd : decode (m_bt y) pc = .ok (.iaload, 1)) (hk : kd h = (0, n)) (h0 : 0 ≤ i) (h1 : i < n) (hh : WP y d b (pc + 1) L (vI (M.1 h i.toNat) :: S) M Q) : WP y d b pc L (vI i :: vR (some h) :: S) M Q := by
  intro X p l e R s m args below meth c H locs Qf ls na0 hC hM hS hL hW hl hn hR
  have hi : ir i := okS_hd hS
  have hlt : h < M.2.2 := ref_lt (okS_hd2 hS) (by simp [hk])
  have h172 : h < 172 := kd_lt (by simp [hk])
  have hE := hC.2.2.2.2.2.2.2.2.2.2.2.2
  have hcv : ctv M h i.toNat = vI (M.1 h i.toNat) := by unfold ctv; rw [ctc_arr hk (by decide)]; rfl
  have hcl := i3_clamp hi
  refine W.iald (g := F0 m pc ls ((vI i :: vR (some h) :: S).map (rv X))) (j := i3 i) (v := rv X (vI (M.1 h i.toNat))) hC.1 hC.2.1 (arr_at hW hlt hk (by decide)) ((hE.1.2 0 _ rfl).1 n _) (fun q => by cases q) (by rw [arrV_size]; exact i3_in hi h0 h1) (by rw [hcl, arrV_read _ _ (by omega), hcv]) rfl (by simp only [List.map_cons, rv]; rw [ad_lt h172]) hd ?_
  exact hh X p l e R s m args below meth c H locs Qf ls na0 hC hM (okS_cons (by rw [← hcv]; exact hM.1 h _ hlt) (okS_tl (okS_tl hS))) hL hW hl hn hR
theorem so_laload {h n : Nat} {i : Int} (hd : decode (m_bt y) pc = .ok (.laload, 1)) (hk : kd h = (1, n)) (h0 : 0 ≤ i) (h1 : i < n) (hh : WP y d b (pc + 1) L (vL (M.1 h i.toNat) :: S) M Q) : WP y d b pc L (vI i :: vR (some h) :: S) M Q := by
  intro X p l e R s m args below meth c H locs Qf ls na0 hC hM hS hL hW hl hn hR
  have hi : ir i := okS_hd hS
  have hlt : h < M.2.2 := ref_lt (okS_hd2 hS) (by simp [hk])
  have h172 : h < 172 := kd_lt (by simp [hk])
  have hE := hC.2.2.2.2.2.2.2.2.2.2.2.2
  have hcv : ctv M h i.toNat = vL (M.1 h i.toNat) := by unfold ctv; rw [ctc_arr hk (by decide)]; rfl
  have hcl := i3_clamp hi
  refine W.lald (g := F0 m pc ls ((vI i :: vR (some h) :: S).map (rv X))) (j := i3 i) (v := rv X (vL (M.1 h i.toNat))) hC.1 hC.2.1 (arr_at hW hlt hk (by decide)) ((hE.1.2 1 _ rfl).1 n _) (fun q => by cases q) (by rw [arrV_size]; exact i3_in hi h0 h1) (by rw [hcl, arrV_read _ _ (by omega), hcv]) rfl (by simp only [List.map_cons, rv]; rw [ad_lt h172]) hd ?_
  exact hh X p l e R s m args below meth c H locs Qf ls na0 hC hM (okS_cons (by rw [← hcv]; exact hM.1 h _ hlt) (okS_tl (okS_tl hS))) hL hW hl hn hR
theorem so_baload {h n : Nat} {i : Int} (hd : decode (m_bt y) pc = .ok (.baload, 1)) (hk : kd h = (2, n)) (h0 : 0 ≤ i) (h1 : i < n) (hh : WP y d b (pc + 1) L (vI (M.1 h i.toNat) :: S) M Q) : WP y d b pc L (vI i :: vR (some h) :: S) M Q := by
  intro X p l e R s m args below meth c H locs Qf ls na0 hC hM hS hL hW hl hn hR
  have hi : ir i := okS_hd hS
  have hlt : h < M.2.2 := ref_lt (okS_hd2 hS) (by simp [hk])
  have h172 : h < 172 := kd_lt (by simp [hk])
  have hE := hC.2.2.2.2.2.2.2.2.2.2.2.2
  have hcv : ctv M h i.toNat = vI (M.1 h i.toNat) := by unfold ctv; rw [ctc_arr hk (by decide)]; rfl
  have hcl := i3_clamp hi
  refine W.bald (g := F0 m pc ls ((vI i :: vR (some h) :: S).map (rv X))) (j := i3 i) (v := rv X (vI (M.1 h i.toNat))) hC.1 hC.2.1 (arr_at hW hlt hk (by decide)) ((hE.1.2 2 _ rfl).1 n _) (fun q => by cases q) (by rw [arrV_size]; exact i3_in hi h0 h1) (by rw [hcl, arrV_read _ _ (by omega), hcv]) rfl (by simp only [List.map_cons, rv]; rw [ad_lt h172]) hd ?_
  exact hh X p l e R s m args below meth c H locs Qf ls na0 hC hM (okS_cons (by rw [← hcv]; exact hM.1 h _ hlt) (okS_tl (okS_tl hS))) hL hW hl hn hR
theorem so_zaload {h n : Nat} {i : Int} (hd : decode (m_bt y) pc = .ok (.baload, 1)) (hk : kd h = (3, n)) (h0 : 0 ≤ i) (h1 : i < n) (hh : WP y d b (pc + 1) L (vI (M.1 h i.toNat) :: S) M Q) : WP y d b pc L (vI i :: vR (some h) :: S) M Q := by
  intro X p l e R s m args below meth c H locs Qf ls na0 hC hM hS hL hW hl hn hR
  have hi : ir i := okS_hd hS
  have hlt : h < M.2.2 := ref_lt (okS_hd2 hS) (by simp [hk])
  have h172 : h < 172 := kd_lt (by simp [hk])
  have hE := hC.2.2.2.2.2.2.2.2.2.2.2.2
  have hcv : ctv M h i.toNat = vI (M.1 h i.toNat) := by unfold ctv; rw [ctc_arr hk (by decide)]; rfl
  have hcl := i3_clamp hi
  refine W.zald (g := F0 m pc ls ((vI i :: vR (some h) :: S).map (rv X))) (j := i3 i) (v := rv X (vI (M.1 h i.toNat))) hC.1 hC.2.1 (arr_at hW hlt hk (by decide)) ((hE.1.2 3 _ rfl).1 n _) (fun q => by cases q) (by rw [arrV_size]; exact i3_in hi h0 h1) (by rw [hcl, arrV_read _ _ (by omega), hcv]) rfl (by simp only [List.map_cons, rv]; rw [ad_lt h172]) hd ?_
  exact hh X p l e R s m args below meth c H locs Qf ls na0 hC hM (okS_cons (by rw [← hcv]; exact hM.1 h _ hlt) (okS_tl (okS_tl hS))) hL hW hl hn hR
theorem so_aaload {h n : Nat} {i : Int} (hd : decode (m_bt y) pc = .ok (.aaload, 1)) (hk : kd h = (4, n)) (h0 : 0 ≤ i) (h1 : i < n) (hh : WP y d b (pc + 1) L (vR (M.2.1 h i.toNat) :: S) M Q) : WP y d b pc L (vI i :: vR (some h) :: S) M Q := by
  intro X p l e R s m args below meth c H locs Qf ls na0 hC hM hS hL hW hl hn hR
  have hi : ir i := okS_hd hS
  have hlt : h < M.2.2 := ref_lt (okS_hd2 hS) (by simp [hk])
  have h172 : h < 172 := kd_lt (by simp [hk])
  have hE := hC.2.2.2.2.2.2.2.2.2.2.2.2
  have hcv : ctv M h i.toNat = vR (M.2.1 h i.toNat) := by unfold ctv; rw [ctc_arr hk (by decide)]; rfl
  have hcl := i3_clamp hi
  refine W.aald (g := F0 m pc ls ((vI i :: vR (some h) :: S).map (rv X))) (j := i3 i) (v := rv X (vR (M.2.1 h i.toNat))) (ty := .object "HandTongue$House") hC.1 hC.2.1 (arr_at hW hlt hk (by decide)) ((hE.1.2 4 _ rfl).1 n _) rfl (fun q => by cases q) (by rw [arrV_size]; exact i3_in hi h0 h1) (by rw [hcl, arrV_read _ _ (by omega), hcv]) rfl (by simp only [List.map_cons, rv]; rw [ad_lt h172]) hd ?_
  exact hh X p l e R s m args below meth c H locs Qf ls na0 hC hM (okS_cons (by rw [← hcv]; exact hM.1 h _ hlt) (okS_tl (okS_tl hS))) hL hW hl hn hR
end SH
