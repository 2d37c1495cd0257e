theorem kd_all : ∀ q ∈ kdL, q.2 < 1000000 := by decide +kernel
theorem kd_small {h t n : Nat} (hk : kd h = (t, n)) : n < 2147483648 := by
  unfold kd at hk
  rw [List.getD_eq_getElem?_getD] at hk
  cases hq : kdL[h]? with
  | none => rw [hq] at hk; simp at hk; omega
  | some q =>
    rw [hq] at hk
    have := kd_all q (List.mem_of_getElem? hq)
    simp at hk
    rw [hk] at this
    show n < _
    have h2 : n < 1000000 := this
    omega
theorem nar_byte {z : Int} (h0 : -128 ≤ z) (h1 : z < 128) : narrow .byte (.int (i3 z)) = .int (i3 z) := by
  show Value.int _ = _
  congr 1
  apply Int32.toInt_inj.mp
  rw [Int8.toInt_toInt32, Int32.toInt_toInt8, i3_val (by unfold ir; omega)]
  rw [Int.bmod_def]
  split <;> omega
section SI
variable {y d b pc : Nat} {L : List (Option AV)} {S : List AV} {M : Mem} {Q : Option AV → Mem → Prop}
theorem kd_big {h t n : Nat} (hk : kd h = (t, n)) : n < 1000000 := by
  unfold kd at hk
  rw [List.getD_eq_getElem?_getD] at hk
  cases hq : kdL[h]? with
  | none => rw [hq] at hk; simp at hk; omega
  | some q =>
    rw [hq] at hk
    have := kd_all q (List.mem_of_getElem? hq)
    simp at hk
    rw [hk] at this
    exact this
theorem ctv_na (k j : Nat) : ctv (M.1, M.2.1, M.2.2 + 1) k j = ctv M k j := rfl
theorem new_step {pc' : Nat} (hh : WP y d b pc' L (vR (some M.2.2) :: S) (M.1, M.2.1, M.2.2 + 1) Q) {X : Cx} {p : Program} {l : Launch} {e : Env} {R : Room} {s : State} {m : MethodId} {args : Array Value} {below : List Frame} {meth : Method} {c : Code} {H H' : Heap} {locs : List Loc} {Qf : State → Prop} {ls : Array Slot} {na0 : Nat}
    (hC : Cn X y d b p R s m args meth c na0) (hM : okM X M) (hS : okS M.2.2 S) (hL : okL X L M.2.2 ls (m_ml y)) (hW : Wd X M H) (hl : ∀ q ∈ locs, X.1.size ≤ q.base) (hn : na0 ≤ M.2.2 ∧ M.2.2 ≤ b) (hb : M.2.2 < b) (h172 : M.2.2 < 172) (hR : Rt X y b p l e R s m args below meth c Qf na0 Q)
    (e2 : H'.size = X.1.size + M.2.2 + 1) (e3 : ∀ q, q < X.1.size + M.2.2 → H'[q]? = H[q]?) (hc : cAt X (M.1, M.2.1, M.2.2 + 1) M.2.2 H') (hv : ∀ j, okv (M.2.2 + 1) (ctv (M.1, M.2.1, M.2.2 + 1) M.2.2 j)) :
    W p l e R s m args below meth c H' locs (M.2.2 + 1 - na0) (nsu (M.2.2 + 1) - nsu na0) Qf (F0 m pc' ls (.ref (X.1.size + M.2.2) :: S.map (rv X))) := by
  have hWd : Wd X (M.1, M.2.1, M.2.2 + 1) H' := by
    refine ⟨e2, fun q hq => by rw [e3 q (by omega)]; exact hW.2.1 q hq, fun k hk => ?_⟩
    have hk2 : k < M.2.2 + 1 := hk
    by_cases hkn : k = M.2.2
    · subst hkn; exact hc
    · exact cAt_congr (fun j => rfl) (e3 _ (by omega)) (hW.2.2 k (by omega))
  have hM' : okM X (M.1, M.2.1, M.2.2 + 1) := by
    refine ⟨fun k j hk => ?_, fun k j hk hk2 => hM.2.1 k j (by have : M.2.2 + 1 ≤ k := hk; omega) hk2, h172, hM.2.2.2.1, hM.2.2.2.2⟩
    have hk2 : k < M.2.2 + 1 := hk
    by_cases hkn : k = M.2.2
    · subst hkn; exact hv j
    · exact okv_mono (Nat.le_succ _) (hM.1 k j (by omega))
  have := hh X p l e R s m args below meth c H' locs Qf ls na0 hC hM' (okS_cons (v := vR (some M.2.2)) (fun k hk => by cases hk; left; exact Nat.lt_succ_self _) (okS_mono (Nat.le_succ _) hS)) (okL_mono (Nat.le_succ _) hL) hWd hl ⟨by have := hn.1; show na0 ≤ M.2.2 + 1; omega, hb⟩ hR
  simp only [List.map_cons, rv] at this
  rw [ad_lt h172] at this
  exact this
theorem so_iastore {h n : Nat} {i z : Int} (hd : decode (m_bt y) pc = .ok (.iastore, 1)) (hk : kd h = (0, n)) (h0 : 0 ≤ i) (h1 : i < n) (hh : WP y d b (pc + 1) L S (setN M h i.toNat z) Q) : WP y d b pc L (vI z :: vI i :: vR (some h) :: S) M Q := by
  intro X p l e R s m args below meth c H locs Qf ls na0 hC hM hS hL hW hl hn hR
  have hi : ir i := okS_hd2 hS
  have hv := okS_hd hS
  have hlt : h < M.2.2 := ref_lt (okS_hd2 (okS_tl hS)) (by simp [hk])
  have h172 : h < 172 := kd_lt (by simp [hk])
  have hE := hC.2.2.2.2.2.2.2.2.2.2.2.2
  have hcl := i3_clamp hi
  have hcv : ctv (setN M h i.toNat z) h i.toNat = vI z := ctv_I (by rw [ctc_arr hk (by decide)]; decide) (by rw [ctc_arr hk (by decide)]; decide)
  refine W.iast (g := F0 m pc ls ((vI z :: vI i :: vR (some h) :: S).map (rv X))) (j := i3 i) (x := i3 z) hC.1 hC.2.1 (arr_at hW hlt hk (by decide)) ((hE.1.2 0 _ rfl).1 n _) (fun q => by cases q) (by rw [arrV_size]; exact i3_in hi h0 h1) rfl (by simp only [List.map_cons, rv]; rw [ad_lt h172]) hd (fun H' e1 e2 e3 => ?_)
  rw [hcl] at e1 ⊢
  have hWd : Wd X (setN M h i.toNat z) H' := Wd_put hW rfl (fun k' j hne => ctv_ne hne) e2 e3 (arr_upd (v := vI z) hk (by decide) rfl e1 hcv (fun j' hj => ctv_ne2 hj))
  exact hh X p l e R s m args below meth c H' _ Qf ls na0 hC (okM_setN hM hlt (by rw [hcv]; exact hv)) (okS_tl (okS_tl (okS_tl hS))) hL hWd (lc_put hl (by omega)) hn hR
theorem so_lastore {h n : Nat} {i z : Int} (hd : decode (m_bt y) pc = .ok (.lastore, 1)) (hk : kd h = (1, n)) (h0 : 0 ≤ i) (h1 : i < n) (hh : WP y d b (pc + 1) L S (setN M h i.toNat z) Q) : WP y d b pc L (vL z :: vI i :: vR (some h) :: S) M Q := by
  intro X p l e R s m args below meth c H locs Qf ls na0 hC hM hS hL hW hl hn hR
  have hi : ir i := okS_hd2 hS
  have hv := okS_hd hS
  have hlt : h < M.2.2 := ref_lt (okS_hd2 (okS_tl hS)) (by simp [hk])
  have h172 : h < 172 := kd_lt (by simp [hk])
  have hE := hC.2.2.2.2.2.2.2.2.2.2.2.2
  have hcl := i3_clamp hi
  have hcv : ctv (setN M h i.toNat z) h i.toNat = vL z := ctv_L (ctc_arr hk (by decide))
  refine W.last (g := F0 m pc ls ((vL z :: vI i :: vR (some h) :: S).map (rv X))) (j := i3 i) (x := i6 z) hC.1 hC.2.1 (arr_at hW hlt hk (by decide)) ((hE.1.2 1 _ rfl).1 n _) (fun q => by cases q) (by rw [arrV_size]; exact i3_in hi h0 h1) rfl (by simp only [List.map_cons, rv]; rw [ad_lt h172]) hd (fun H' e1 e2 e3 => ?_)
  rw [hcl] at e1 ⊢
  have hWd : Wd X (setN M h i.toNat z) H' := Wd_put hW rfl (fun k' j hne => ctv_ne hne) e2 e3 (arr_upd (v := vL z) hk (by decide) rfl e1 hcv (fun j' hj => ctv_ne2 hj))
  exact hh X p l e R s m args below meth c H' _ Qf ls na0 hC (okM_setN hM hlt (by rw [hcv]; exact hv)) (okS_tl (okS_tl (okS_tl hS))) hL hWd (lc_put hl (by omega)) hn hR
theorem so_bastore {h n : Nat} {i z : Int} (hd : decode (m_bt y) pc = .ok (.bastore, 1)) (hk : kd h = (2, n)) (h0 : 0 ≤ i) (h1 : i < n) (hz : -128 ≤ z ∧ z < 128) (hh : WP y d b (pc + 1) L S (setN M h i.toNat z) Q) : WP y d b pc L (vI z :: vI i :: vR (some h) :: S) M Q := by
  intro X p l e R s m args below meth c H locs Qf ls na0 hC hM hS hL hW hl hn hR
  have hi : ir i := okS_hd2 hS
  have hv := okS_hd hS
  have hlt : h < M.2.2 := ref_lt (okS_hd2 (okS_tl hS)) (by simp [hk])
  have h172 : h < 172 := kd_lt (by simp [hk])
  have hE := hC.2.2.2.2.2.2.2.2.2.2.2.2
  have hcl := i3_clamp hi
  have hcv : ctv (setN M h i.toNat z) h i.toNat = vI z := ctv_I (by rw [ctc_arr hk (by decide)]; decide) (by rw [ctc_arr hk (by decide)]; decide)
  have hnb : narrow .byte (.int (i3 z)) = .int (i3 z) := nar_byte hz.1 hz.2
  refine W.bast (g := F0 m pc ls ((vI z :: vI i :: vR (some h) :: S).map (rv X))) (j := i3 i) (x := i3 z) hC.1 hC.2.1 (arr_at hW hlt hk (by decide)) ((hE.1.2 2 _ rfl).1 n _) (fun q => by cases q) (by rw [arrV_size]; exact i3_in hi h0 h1) rfl (by simp only [List.map_cons, rv]; rw [ad_lt h172]) hd (fun H' e1 e2 e3 => ?_)
  rw [hcl] at e1 ⊢
  rw [hnb] at e1
  have hWd : Wd X (setN M h i.toNat z) H' := Wd_put hW rfl (fun k' j hne => ctv_ne hne) e2 e3 (arr_upd (v := vI z) hk (by decide) rfl e1 hcv (fun j' hj => ctv_ne2 hj))
  exact hh X p l e R s m args below meth c H' _ Qf ls na0 hC (okM_setN hM hlt (by rw [hcv]; exact hv)) (okS_tl (okS_tl (okS_tl hS))) hL hWd (lc_put hl (by omega)) hn hR
theorem so_zastore {h n : Nat} {i z : Int} (hd : decode (m_bt y) pc = .ok (.bastore, 1)) (hk : kd h = (3, n)) (h0 : 0 ≤ i) (h1 : i < n) (hz : z = 0 ∨ z = 1) (hh : WP y d b (pc + 1) L S (setN M h i.toNat z) Q) : WP y d b pc L (vI z :: vI i :: vR (some h) :: S) M Q := by
  intro X p l e R s m args below meth c H locs Qf ls na0 hC hM hS hL hW hl hn hR
  have hi : ir i := okS_hd2 hS
  have hv := okS_hd hS
  have hlt : h < M.2.2 := ref_lt (okS_hd2 (okS_tl hS)) (by simp [hk])
  have h172 : h < 172 := kd_lt (by simp [hk])
  have hE := hC.2.2.2.2.2.2.2.2.2.2.2.2
  have hcl := i3_clamp hi
  have hcv : ctv (setN M h i.toNat z) h i.toNat = vI z := ctv_I (by rw [ctc_arr hk (by decide)]; decide) (by rw [ctc_arr hk (by decide)]; decide)
  have hnb : narrow .boolean (.int (i3 z)) = .int (i3 z) := by rcases hz with rfl | rfl <;> rfl
  refine W.zast (g := F0 m pc ls ((vI z :: vI i :: vR (some h) :: S).map (rv X))) (j := i3 i) (x := i3 z) hC.1 hC.2.1 (arr_at hW hlt hk (by decide)) ((hE.1.2 3 _ rfl).1 n _) (fun q => by cases q) (by rw [arrV_size]; exact i3_in hi h0 h1) rfl (by simp only [List.map_cons, rv]; rw [ad_lt h172]) hd (fun H' e1 e2 e3 => ?_)
  rw [hcl] at e1 ⊢
  rw [hnb] at e1
  have hWd : Wd X (setN M h i.toNat z) H' := Wd_put hW rfl (fun k' j hne => ctv_ne hne) e2 e3 (arr_upd (v := vI z) hk (by decide) rfl e1 hcv (fun j' hj => ctv_ne2 hj))
  exact hh X p l e R s m args below meth c H' _ Qf ls na0 hC (okM_setN hM hlt (by rw [hcv]; exact hv)) (okS_tl (okS_tl (okS_tl hS))) hL hWd (lc_put hl (by omega)) hn hR
theorem so_aastore {h n v : Nat} {i : Int} (hd : decode (m_bt y) pc = .ok (.aastore, 1)) (hk : kd h = (4, n)) (hkv : kd v = (5, 4)) (h0 : 0 ≤ i) (h1 : i < n) (hh : WP y d b (pc + 1) L S (setR M h i.toNat (some v)) Q) : WP y d b pc L (vR (some v) :: vI i :: vR (some h) :: S) M Q := by
  intro X p l e R s m args below meth c H locs Qf ls na0 hC hM hS hL hW hl hn hR
  have hi : ir i := okS_hd2 hS
  have hv := okS_hd hS
  have hvlt : v < M.2.2 := ref_lt hv (by simp [hkv])
  have hv172 : v < 172 := kd_lt (by simp [hkv])
  have hlt : h < M.2.2 := ref_lt (okS_hd2 (okS_tl hS)) (by simp [hk])
  have h172 : h < 172 := kd_lt (by simp [hk])
  have hE := hC.2.2.2.2.2.2.2.2.2.2.2.2
  have hcl := i3_clamp hi
  have hcv : ctv (setR M h i.toNat (some v)) h i.toNat = vR (some v) := ctv_R (ctc_arr hk (by decide))
  have hw := (hW.2.2 v hvlt).1 (by rw [hkv])
  rw [hkv] at hw
  obtain ⟨cellV, g1, g2, g3, -⟩ := hw
  have hcls := (hE.1.1 4 _ (CLok_all 4 (by decide)).2.2.2.2.2).2
  obtain ⟨kA, comp, k1, k2, k3, -⟩ := (hE.1.2 4 _ rfl).2
  have hcomp : comp = X.2.1 4 := Option.some.inj (k3.symm.trans hcls.1)
  subst hcomp
  obtain ⟨kC, hkC, hkk⟩ := hcls.2
  refine W.aast (g := F0 m pc ls ((vR (some v) :: vI i :: vR (some h) :: S).map (rv X))) (j := i3 i) hC.1 hC.2.1 (arr_at hW hlt hk (by decide)) (fun q h => by cases h) (fun h => by cases h) k1 k2 rfl hkC ⟨fun q => i3_in hi h0 h1 (Or.inl q), by rw [arrV_size, hcl]; omega⟩ g1 (fun q h => by rw [g3] at h; cases h) (by rw [g2]; exact hkC) (by rw [g2]; exact va_assign hcls) rfl (by simp only [List.map_cons, rv]; rw [ad_lt h172, ad_lt hv172]) hd (fun H' e1 e2 e3 => ?_)
  rw [hcl] at e1 ⊢
  have e1' : H'[X.1.size + h]? = some ((arrV (X.2.2.2.1 4) n (fun j => rv X (ctv M h j))).setSlot i.toNat (rv X (vR (some v)))) := by rw [e1]; simp only [rv]; rw [ad_lt hv172]
  have hWd : Wd X (setR M h i.toNat (some v)) H' := Wd_put hW rfl (fun k' j hne => ctv_neR hne) e2 e3 (arr_upd (v := vR (some v)) hk (by decide) rfl e1' hcv (fun j' hj => ctv_ne2R hj))
  exact hh X p l e R s m args below meth c H' _ Qf ls na0 hC (okM_setR hM hlt (by rw [hcv]; exact hv)) (okS_tl (okS_tl (okS_tl hS))) hL hWd (lc_put hl (by omega)) hn hR
theorem so_alen {h t n : Nat} (hd : decode (m_bt y) pc = .ok (.arraylength, 1)) (hk : kd h = (t, n)) (ht : t < 5) (hh : WP y d b (pc + 1) L (vI n :: S) M Q) : WP y d b pc L (vR (some h) :: S) M Q := by
  intro X p l e R s m args below meth c H locs Qf ls na0 hC hM hS hL hW hl hn hR
  have hlt : h < M.2.2 := ref_lt (okS_hd hS) (by rw [hk]; show t ≠ 9; omega)
  have h172 : h < 172 := kd_lt (by rw [hk]; show t ≠ 9; omega)
  have hE := hC.2.2.2.2.2.2.2.2.2.2.2.2
  have hn31 : n < 2147483648 := kd_small hk
  have ht5 : t ≠ 5 := by omega
  obtain ⟨ty, hty⟩ : ∃ ty, (tysX X)[t]? = some (X.2.2.2.1 t, ty) := by
    match t, ht with
    | 0, _ => exact ⟨_, rfl⟩
    | 1, _ => exact ⟨_, rfl⟩
    | 2, _ => exact ⟨_, rfl⟩
    | 3, _ => exact ⟨_, rfl⟩
    | 4, _ => exact ⟨_, rfl⟩
  refine W.alen (g := F0 m pc ls ((vR (some h) :: S).map (rv X))) (n := i3 n) hC.1 hC.2.1 (arr_at hW hlt hk ht5) ((hE.1.2 t _ hty).1 n _) (by rw [arrV_size]; rfl) rfl (by simp only [List.map_cons, rv]; rw [ad_lt h172]) hd ?_
  exact hh X p l e R s m args below meth c H locs Qf ls na0 hC hM (okS_cons (v := vI n) (by show ir _; unfold ir; omega) (okS_tl hS)) hL hW hl hn hR
theorem ext_at {X : Cx} {H : Heap} {a : Nat} {cell : Cell} (hW : Wd X M H) (ha : X.1[a]? = some cell) : H[a]? = some cell := by
  rw [hW.2.1 a (Array.getElem?_eq_some_iff.mp ha).1]; exact ha
theorem stv_ir : ∀ k, (k = 1001 ∨ k = 1002 ∨ k = 1003) → ∀ j, j < 4 → ir (stv k j) := by
  intro k hk j hj
  rcases hk with rfl | rfl | rfl <;> rcases (show j = 0 ∨ j = 1 ∨ j = 2 ∨ j = 3 by omega) with rfl | rfl | rfl | rfl <;> (unfold ir stv; simp)
theorem so_ialoadS {h : Nat} {i : Int} (hd : decode (m_bt y) pc = .ok (.iaload, 1)) (hk : h = 1001 ∨ h = 1002 ∨ h = 1003) (h0 : 0 ≤ i) (h1 : i < 4) (hh : WP y d b (pc + 1) L (vI (stv h i.toNat) :: S) M Q) : WP y d b pc L (vI i :: vR (some h) :: S) M Q := by
  intro X p l e R s m args below meth c H locs Qf ls na0 hC hM hS hL hW hl hn hR
  have hi : ir i := okS_hd hS
  have hE := hC.2.2.2.2.2.2.2.2.2.2.2.2
  obtain ⟨cell, g1, g2, g3, g4, -, g5, -⟩ := (hE.2.2.2.1 h hk).2
  have hcl := i3_clamp hi
  have hadd : ad X h = X.2.2.2.2.1 h := by unfold ad; rw [if_neg (by omega)]
  refine W.iald (g := F0 m pc ls ((vI i :: vR (some h) :: S).map (rv X))) (j := i3 i) (v := rv X (vI (stv h i.toNat))) hC.1 hC.2.1 (ext_at hW g1) g2 g3 (fun q => i3_in (n := 4) hi h0 h1 (q.imp id (fun q => Nat.le_trans g4 q))) (by rw [hcl]; exact g5 _ (by omega)) rfl (by simp only [List.map_cons, rv]; rw [hadd]) hd ?_
  exact hh X p l e R s m args below meth c H locs Qf ls na0 hC hM (okS_cons (v := vI (stv h i.toNat)) (stv_ir h hk _ (by omega)) (okS_tl (okS_tl hS))) hL hW hl hn hR
theorem so_ialoadX {i : Int} (hd : decode (m_bt y) pc = .ok (.iaload, 1)) (h0 : 0 ≤ i) (h1 : i < M.1 1000 0) (hh : WP y d b (pc + 1) L (vI (M.1 1000 (i.toNat + 1)) :: S) M Q) : WP y d b pc L (vI i :: vR (some 1000) :: S) M Q := by
  intro X p l e R s m args below meth c H locs Qf ls na0 hC hM hS hL hW hl hn hR
  have hi : ir i := okS_hd hS
  have hE := hC.2.2.2.2.2.2.2.2.2.2.2.2
  obtain ⟨⟨cell, g1, g2, g3, g4, g5⟩, gl, -, gr⟩ := hE.2.2.2.2.1
  have hcl := i3_clamp hi
  have hadd : ad X 1000 = X.2.2.2.2.1 1000 := rfl
  have hx := hM.2.2.2.2 i.toNat
  have hlen := hM.2.2.2.1
  refine W.iald (g := F0 m pc ls ((vI i :: vR (some 1000) :: S).map (rv X))) (j := i3 i) (v := rv X (vI (M.1 1000 (i.toNat + 1)))) hC.1 hC.2.1 (ext_at hW g1) g2 g3 (by rw [g4]; exact i3_in hi h0 (by omega)) (by rw [hcl, g5 _ (by omega), hx]; rfl) rfl (by simp only [List.map_cons, rv]; rw [hadd]) hd ?_
  exact hh X p l e R s m args below meth c H locs Qf ls na0 hC hM (okS_cons (v := vI (M.1 1000 (i.toNat + 1))) (by show ir _; rw [hx]; exact gr _) (okS_tl (okS_tl hS))) hL hW hl hn hR
theorem so_alenX (hd : decode (m_bt y) pc = .ok (.arraylength, 1)) (hh : WP y d b (pc + 1) L (vI (M.1 1000 0) :: S) M Q) : WP y d b pc L (vR (some 1000) :: S) M Q := by
  intro X p l e R s m args below meth c H locs Qf ls na0 hC hM hS hL hW hl hn hR
  have hE := hC.2.2.2.2.2.2.2.2.2.2.2.2
  obtain ⟨⟨cell, g1, g2, g3, g4, g5⟩, gl, g4096, gr⟩ := hE.2.2.2.2.1
  have hadd : ad X 1000 = X.2.2.2.2.1 1000 := rfl
  have hlen := hM.2.2.2.1
  refine W.alen (g := F0 m pc ls ((vR (some 1000) :: S).map (rv X))) (n := i3 (M.1 1000 0)) hC.1 hC.2.1 (ext_at hW g1) g2 (by rw [g4, hlen]; rfl) rfl (by simp only [List.map_cons, rv]; rw [hadd]) hd ?_
  exact hh X p l e R s m args below meth c H locs Qf ls na0 hC hM (okS_cons (v := vI (M.1 1000 0)) (by show ir _; rw [hlen]; unfold ir; omega) (okS_tl hS)) hL hW hl hn hR
theorem so_ldc {idx : Nat} {z : Int} (hd : decode (m_bt y) pc = .ok (.ldc idx, 2)) (hc : (m_ow y, idx, z, 0) ∈ ctT) (hz : ir z) (hh : WP y d b (pc + 2) L (vI z :: S) M Q) : WP y d b pc L S M Q := by
  intro X p l e R s m args below meth c H locs Qf ls na0 hC hM hS hL hW hl hn hR
  exact lv_ldc hC.1 hC.2.1 hC.2.2.2.2.1 (hC.2.2.2.2.2.1 _ ((ctT_ok _ hc).1 rfl)) hd (hh X p l e R s m args below meth c H locs Qf ls na0 hC hM (okS_cons (v := vI z) hz hS) hL hW hl hn hR)
theorem so_ldcw {idx : Nat} {z : Int} (hd : decode (m_bt y) pc = .ok (.ldc_w idx, 3)) (hc : (m_ow y, idx, z, 0) ∈ ctT) (hz : ir z) (hh : WP y d b (pc + 3) L (vI z :: S) M Q) : WP y d b pc L S M Q := by
  intro X p l e R s m args below meth c H locs Qf ls na0 hC hM hS hL hW hl hn hR
  exact lv_ldcw hC.1 hC.2.1 hC.2.2.2.2.1 (hC.2.2.2.2.2.1 _ ((ctT_ok _ hc).1 rfl)) hd (hh X p l e R s m args below meth c H locs Qf ls na0 hC hM (okS_cons (v := vI z) hz hS) hL hW hl hn hR)
theorem so_ldc2 {idx : Nat} {z : Int} (hd : decode (m_bt y) pc = .ok (.ldc2_w idx, 3)) (hc : (m_ow y, idx, z, 1) ∈ ctT) (hz : il z) (hh : WP y d b (pc + 3) L (vL z :: S) M Q) : WP y d b pc L S M Q := by
  intro X p l e R s m args below meth c H locs Qf ls na0 hC hM hS hL hW hl hn hR
  exact lv_ldc2 hC.1 hC.2.1 hC.2.2.2.2.1 (hC.2.2.2.2.2.1 _ ((ctT_ok _ hc).2 rfl)) hd (hh X p l e R s m args below meth c H locs Qf ls na0 hC hM (okS_cons (v := vL z) hz hS) hL hW hl hn hR)
theorem so_ldcS {idx i : Nat} (hd : decode (m_bt y) pc = .ok (.ldc idx, 2)) (ho : clN (m_ow y) = "HandTongue$Tape") (hi : i < 14) (hx : (stA i).1 = idx) (hh : WP y d b (pc + 2) L (vR (some (1010 + i)) :: S) M Q) : WP y d b pc L S M Q := by
  intro X p l e R s m args below meth c H locs Qf ls na0 hC hM hS hL hW hl hn hR
  have hE := hC.2.2.2.2.2.2.2.2.2.2.2.2
  have hr := hE.2.2.2.2.2.1.2 i hi
  have ho2 := hC.2.2.2.2.1
  rw [ho] at ho2
  rw [hx] at hr
  have hadd : ad X (1010 + i) = X.2.2.2.2.1 (1010 + i) := by unfold ad; rw [if_neg (by omega)]
  have := hh X p l e R s m args below meth c H locs Qf ls na0 hC hM (okS_cons (v := vR (some (1010 + i))) (fun k hk => by cases hk; right; omega) hS) hL hW hl hn hR
  simp only [List.map_cons, rv] at this
  rw [hadd] at this
  exact va_ldcS hC.1 hC.2.1 ho2 hr hd this
theorem so_gets {idx k : Nat} (hd : decode (m_bt y) pc = .ok (.getstatic idx, 3)) (hs : (m_ow y, idx, k) ∈ stT) (hh : WP y d b (pc + 3) L (vR (some k) :: S) M Q) : WP y d b pc L S M Q := by
  intro X p l e R s m args below meth c H locs Qf ls na0 hC hM hS hL hW hl hn hR
  have hE := hC.2.2.2.2.2.2.2.2.2.2.2.2
  have T := stT_ok _ hs
  obtain ⟨cf, kf, fi, f, a, cell, h1, h2, h3, h4, h5, h6, h7, h8⟩ := (hE.2.2.2.1 k T.2).1
  have hadd : ad X k = X.2.2.2.2.1 k := by unfold ad; have := T.2; rw [if_neg (by show ¬ k < 1000; have h9 : k = 1001 ∨ k = 1002 ∨ k = 1003 := T.2; omega)]
  have := hh X p l e R s m args below meth c H locs Qf ls na0 hC hM (okS_cons (v := vR (some k)) (fun k' hk => by cases hk; right; have h9 : k = 1001 ∨ k = 1002 ∨ k = 1003 := T.2; omega) hS) hL hW hl hn hR
  simp only [List.map_cons, rv] at this
  rw [hadd] at this
  exact W.gets (g := F0 m pc ls (S.map (rv X))) hC.1 hC.2.1 hC.2.2.2.2.1 (hC.2.2.2.2.2.1 _ T.1) h1 h2 h3 h4 (ext_at hW h5) (fun e => by rw [e] at h6; cases h6) h7 rfl hd this
theorem so_getsN {idx : Nat} (hd : decode (m_bt y) pc = .ok (.getstatic idx, 3)) (ho : m_ow y = 2) (hi : idx = 58) (hh : WP y d b (pc + 3) L (vR (some 1003) :: S) M Q) : WP y d b pc L S M Q := by
  intro X p l e R s m args below meth c H locs Qf ls na0 hC hM hS hL hW hl hn hR
  subst hi
  have hE := hC.2.2.2.2.2.2.2.2.2.2.2.2
  have hZ := (hE.2.2.2.1 1003 (by decide)).1
  have hw : va_Nw (.fieldLinkNest "HandTongue$Frames" 58 "HandTongue$Book" "VALUES" "[I" "HandTongue") s := hE.2.1 _ (by simp [nstL])
  have ho2 := hC.2.2.2.2.1
  rw [ho] at ho2
  have := hh X p l e R s m args below meth c H locs Qf ls na0 hC hM (okS_cons (v := vR (some 1003)) (fun k' hk => by cases hk; right; omega) hS) hL hW hl hn hR
  obtain ⟨cf, kf, fi, f, a, cell, h1, h2, h3, h4, h5, h6, h7, h8⟩ := hZ
  exact va_WgetsN (g := F0 m pc ls (S.map (rv X))) hC.1 hC.2.1 ho2 (va_Nw.use rfl hw) h1 h2 h3 h4 (ext_at hW h5) (fun e => by rw [e] at h6; cases h6) h7 rfl hd this
theorem so_newa_int {n : Nat} {z : Int} (hd : decode (m_bt y) pc = .ok (.newarray .int, 2)) (hk : kd M.2.2 = (0, n)) (hz : z = n) (hb : M.2.2 < b) (hh : WP y d b (pc + 2) L (vR (some M.2.2) :: S) (M.1, M.2.1, M.2.2 + 1) Q) : WP y d b pc L (vI z :: S) M Q := by
  intro X p l e R s m args below meth c H locs Qf ls na0 hC hM hS hL hW hl hn hR
  have hi : ir z := okS_hd hS
  have hE := hC.2.2.2.2.2.2.2.2.2.2.2.2
  have h172 : M.2.2 < 172 := kd_lt (by simp [hk])
  have hcl := i3_clamp hi
  have hsm := kd_big hk
  have hnso : nso (kd M.2.2) = n := by rw [hk]; rfl
  have hns := nsu_succ h172
  rw [hnso] at hns
  have hm1 := nsu_mono (show M.2.2 + 1 ≤ b from hb)
  have hm0 := nsu_mono hn.1
  have hRc := hC.2.2.2.2.2.2.2.2.2.2.1
  have hRs := hC.2.2.2.2.2.2.2.2.2.2.2.1
  have hts := hC.2.2.2.2.2.1
  have hby : n * componentBytes (newarray.typeOf .int) ≤ 536870912 := Nat.le_trans (Nat.mul_le_mul_left n (show componentBytes (newarray.typeOf .int) ≤ 8 by decide)) (by omega)
  refine va_newaK (atype := .int) (g := F0 m pc ls ((vI z :: S).map (rv X))) (n := i3 z) (N := n) hC.1 hC.2.1 (hts _ arc_int) rfl hd rfl (fun q => i3_in (n := n + 1) hi (by omega) (by omega) (Or.inl q)) (by rw [hcl]; omega) hby (by omega) (by omega) hW.1 (fun H' cA e1 e2 e3 e4 e5 => ?_)
  have hcA : cA = X.2.2.2.1 0 := Option.some.inj (e5.symm.trans (hE.1.2 0 _ rfl).2)
  have hfr := fun j => hM.2.1 M.2.2 j (Nat.le_refl _) (by omega)
  have := new_step (pc' := pc + 2) hh hC hM (okS_tl hS) hL hW hl hn hb h172 hR (H' := H') e2 e3 ⟨fun h5 => by simp [hk] at h5, fun _ => by
    rw [e1, hk, hcA]
    congr 2
    funext j
    have hct : ctv (M.1, M.2.1, M.2.2 + 1) M.2.2 j = vI 0 := by unfold ctv; rw [ctc_arr hk (by decide)]; simp [fcv, (hfr j).1]
    rw [hct]; rfl⟩ (fun j => by
    have hct : ctv (M.1, M.2.1, M.2.2 + 1) M.2.2 j = vI 0 := by unfold ctv; rw [ctc_arr hk (by decide)]; simp [fcv, (hfr j).1]
    rw [hct]; first | exact ir0 | exact il0)
  rw [show M.2.2 + 1 - na0 = M.2.2 - na0 + 1 by omega, show nsu (M.2.2 + 1) - nsu na0 = nsu M.2.2 - nsu na0 + n by omega] at this
  exact this
theorem so_newa_long {n : Nat} {z : Int} (hd : decode (m_bt y) pc = .ok (.newarray .long, 2)) (hk : kd M.2.2 = (1, n)) (hz : z = n) (hb : M.2.2 < b) (hh : WP y d b (pc + 2) L (vR (some M.2.2) :: S) (M.1, M.2.1, M.2.2 + 1) Q) : WP y d b pc L (vI z :: S) M Q := by
  intro X p l e R s m args below meth c H locs Qf ls na0 hC hM hS hL hW hl hn hR
  have hi : ir z := okS_hd hS
  have hE := hC.2.2.2.2.2.2.2.2.2.2.2.2
  have h172 : M.2.2 < 172 := kd_lt (by simp [hk])
  have hcl := i3_clamp hi
  have hsm := kd_big hk
  have hnso : nso (kd M.2.2) = n := by rw [hk]; rfl
  have hns := nsu_succ h172
  rw [hnso] at hns
  have hm1 := nsu_mono (show M.2.2 + 1 ≤ b from hb)
  have hm0 := nsu_mono hn.1
  have hRc := hC.2.2.2.2.2.2.2.2.2.2.1
  have hRs := hC.2.2.2.2.2.2.2.2.2.2.2.1
  have hts := hC.2.2.2.2.2.1
  have hby : n * componentBytes (newarray.typeOf .long) ≤ 536870912 := Nat.le_trans (Nat.mul_le_mul_left n (show componentBytes (newarray.typeOf .long) ≤ 8 by decide)) (by omega)
  refine va_newaK (atype := .long) (g := F0 m pc ls ((vI z :: S).map (rv X))) (n := i3 z) (N := n) hC.1 hC.2.1 (hts _ arc_long) rfl hd rfl (fun q => i3_in (n := n + 1) hi (by omega) (by omega) (Or.inl q)) (by rw [hcl]; omega) hby (by omega) (by omega) hW.1 (fun H' cA e1 e2 e3 e4 e5 => ?_)
  have hcA : cA = X.2.2.2.1 1 := Option.some.inj (e5.symm.trans (hE.1.2 1 _ rfl).2)
  have hfr := fun j => hM.2.1 M.2.2 j (Nat.le_refl _) (by omega)
  have := new_step (pc' := pc + 2) hh hC hM (okS_tl hS) hL hW hl hn hb h172 hR (H' := H') e2 e3 ⟨fun h5 => by simp [hk] at h5, fun _ => by
    rw [e1, hk, hcA]
    congr 2
    funext j
    have hct : ctv (M.1, M.2.1, M.2.2 + 1) M.2.2 j = vL 0 := by unfold ctv; rw [ctc_arr hk (by decide)]; simp [fcv, (hfr j).1]
    rw [hct]; rfl⟩ (fun j => by
    have hct : ctv (M.1, M.2.1, M.2.2 + 1) M.2.2 j = vL 0 := by unfold ctv; rw [ctc_arr hk (by decide)]; simp [fcv, (hfr j).1]
    rw [hct]; first | exact ir0 | exact il0)
  rw [show M.2.2 + 1 - na0 = M.2.2 - na0 + 1 by omega, show nsu (M.2.2 + 1) - nsu na0 = nsu M.2.2 - nsu na0 + n by omega] at this
  exact this
theorem so_newa_byte {n : Nat} {z : Int} (hd : decode (m_bt y) pc = .ok (.newarray .byte, 2)) (hk : kd M.2.2 = (2, n)) (hz : z = n) (hb : M.2.2 < b) (hh : WP y d b (pc + 2) L (vR (some M.2.2) :: S) (M.1, M.2.1, M.2.2 + 1) Q) : WP y d b pc L (vI z :: S) M Q := by
  intro X p l e R s m args below meth c H locs Qf ls na0 hC hM hS hL hW hl hn hR
  have hi : ir z := okS_hd hS
  have hE := hC.2.2.2.2.2.2.2.2.2.2.2.2
  have h172 : M.2.2 < 172 := kd_lt (by simp [hk])
  have hcl := i3_clamp hi
  have hsm := kd_big hk
  have hnso : nso (kd M.2.2) = n := by rw [hk]; rfl
  have hns := nsu_succ h172
  rw [hnso] at hns
  have hm1 := nsu_mono (show M.2.2 + 1 ≤ b from hb)
  have hm0 := nsu_mono hn.1
  have hRc := hC.2.2.2.2.2.2.2.2.2.2.1
  have hRs := hC.2.2.2.2.2.2.2.2.2.2.2.1
  have hts := hC.2.2.2.2.2.1
  have hby : n * componentBytes (newarray.typeOf .byte) ≤ 536870912 := Nat.le_trans (Nat.mul_le_mul_left n (show componentBytes (newarray.typeOf .byte) ≤ 8 by decide)) (by omega)
  refine va_newaK (atype := .byte) (g := F0 m pc ls ((vI z :: S).map (rv X))) (n := i3 z) (N := n) hC.1 hC.2.1 (hts _ arc_byte) rfl hd rfl (fun q => i3_in (n := n + 1) hi (by omega) (by omega) (Or.inl q)) (by rw [hcl]; omega) hby (by omega) (by omega) hW.1 (fun H' cA e1 e2 e3 e4 e5 => ?_)
  have hcA : cA = X.2.2.2.1 2 := Option.some.inj (e5.symm.trans (hE.1.2 2 _ rfl).2)
  have hfr := fun j => hM.2.1 M.2.2 j (Nat.le_refl _) (by omega)
  have := new_step (pc' := pc + 2) hh hC hM (okS_tl hS) hL hW hl hn hb h172 hR (H' := H') e2 e3 ⟨fun h5 => by simp [hk] at h5, fun _ => by
    rw [e1, hk, hcA]
    congr 2
    funext j
    have hct : ctv (M.1, M.2.1, M.2.2 + 1) M.2.2 j = vI 0 := by unfold ctv; rw [ctc_arr hk (by decide)]; simp [fcv, (hfr j).1]
    rw [hct]; rfl⟩ (fun j => by
    have hct : ctv (M.1, M.2.1, M.2.2 + 1) M.2.2 j = vI 0 := by unfold ctv; rw [ctc_arr hk (by decide)]; simp [fcv, (hfr j).1]
    rw [hct]; first | exact ir0 | exact il0)
  rw [show M.2.2 + 1 - na0 = M.2.2 - na0 + 1 by omega, show nsu (M.2.2 + 1) - nsu na0 = nsu M.2.2 - nsu na0 + n by omega] at this
  exact this
theorem so_newa_boolean {n : Nat} {z : Int} (hd : decode (m_bt y) pc = .ok (.newarray .boolean, 2)) (hk : kd M.2.2 = (3, n)) (hz : z = n) (hb : M.2.2 < b) (hh : WP y d b (pc + 2) L (vR (some M.2.2) :: S) (M.1, M.2.1, M.2.2 + 1) Q) : WP y d b pc L (vI z :: S) M Q := by
  intro X p l e R s m args below meth c H locs Qf ls na0 hC hM hS hL hW hl hn hR
  have hi : ir z := okS_hd hS
  have hE := hC.2.2.2.2.2.2.2.2.2.2.2.2
  have h172 : M.2.2 < 172 := kd_lt (by simp [hk])
  have hcl := i3_clamp hi
  have hsm := kd_big hk
  have hnso : nso (kd M.2.2) = n := by rw [hk]; rfl
  have hns := nsu_succ h172
  rw [hnso] at hns
  have hm1 := nsu_mono (show M.2.2 + 1 ≤ b from hb)
  have hm0 := nsu_mono hn.1
  have hRc := hC.2.2.2.2.2.2.2.2.2.2.1
  have hRs := hC.2.2.2.2.2.2.2.2.2.2.2.1
  have hts := hC.2.2.2.2.2.1
  have hby : n * componentBytes (newarray.typeOf .boolean) ≤ 536870912 := Nat.le_trans (Nat.mul_le_mul_left n (show componentBytes (newarray.typeOf .boolean) ≤ 8 by decide)) (by omega)
  refine va_newaK (atype := .boolean) (g := F0 m pc ls ((vI z :: S).map (rv X))) (n := i3 z) (N := n) hC.1 hC.2.1 (hts _ arc_boolean) rfl hd rfl (fun q => i3_in (n := n + 1) hi (by omega) (by omega) (Or.inl q)) (by rw [hcl]; omega) hby (by omega) (by omega) hW.1 (fun H' cA e1 e2 e3 e4 e5 => ?_)
  have hcA : cA = X.2.2.2.1 3 := Option.some.inj (e5.symm.trans (hE.1.2 3 _ rfl).2)
  have hfr := fun j => hM.2.1 M.2.2 j (Nat.le_refl _) (by omega)
  have := new_step (pc' := pc + 2) hh hC hM (okS_tl hS) hL hW hl hn hb h172 hR (H' := H') e2 e3 ⟨fun h5 => by simp [hk] at h5, fun _ => by
    rw [e1, hk, hcA]
    congr 2
    funext j
    have hct : ctv (M.1, M.2.1, M.2.2 + 1) M.2.2 j = vI 0 := by unfold ctv; rw [ctc_arr hk (by decide)]; simp [fcv, (hfr j).1]
    rw [hct]; rfl⟩ (fun j => by
    have hct : ctv (M.1, M.2.1, M.2.2 + 1) M.2.2 j = vI 0 := by unfold ctv; rw [ctc_arr hk (by decide)]; simp [fcv, (hfr j).1]
    rw [hct]; first | exact ir0 | exact il0)
  rw [show M.2.2 + 1 - na0 = M.2.2 - na0 + 1 by omega, show nsu (M.2.2 + 1) - nsu na0 = nsu M.2.2 - nsu na0 + n by omega] at this
  exact this
end SI
