theorem fld_known : ∀ ci, ci < 13 → ∀ j, j < (cT ci).2.2 → fty ci j = .int ∨ fty ci j = .boolean ∨ (fty ci j).isReference = true := by decide +kernel
theorem dv_ref {t : FieldType} (h : t.isReference = true) {X : Cx} : defaultValue t = rv X (fcv ((fun _ _ => 0), (fun _ _ => none), 0) 0 0 4) := by
  cases t <;> first | rfl | (cases h)
section SJ
variable {y d b pc : Nat} {L : List (Option AV)} {S : List AV} {M : Mem} {Q : Option AV → Mem → Prop}
theorem so_new {idx ci : Nat} (hd : decode (m_bt y) pc = .ok (.new idx, 3)) (hl : (m_ow y, idx, ci) ∈ lkT) (hk : kd M.2.2 = (5, ci)) (hb : M.2.2 < b) (hh : WP y d b (pc + 3) L (vR (some M.2.2) :: S) (M.1, M.2.1, M.2.2 + 1) Q) : WP y d b pc L S M Q := by
  intro X p l e R s m args below meth c H locs Qf ls na0 hC hM hS hL hW hlc hn hR
  have hE := hC.2.2.2.2.2.2.2.2.2.2.2.2
  have LK := lkT_ok _ hl
  have CL := CLok_all ci LK.2
  have h172 : M.2.2 < 172 := kd_lt (by simp [hk])
  have hnso : nso (kd M.2.2) = (cT ci).2.2 := by rw [hk]; rfl
  have hns := nsu_succ h172
  rw [hnso] at hns
  have hm1 := nsu_mono (show M.2.2 + 1 ≤ b from hb)
  have hm0 := nsu_mono hn.1
  have hRc := hC.2.2.2.2.2.2.2.2.2.2.1
  have hRs := hC.2.2.2.2.2.2.2.2.2.2.2.1
  have hts := hC.2.2.2.2.2.1
  have hKn := hE.1.1 ci _ CL.2.2.2.2.2
  refine W.newcK (g := F0 m pc ls (S.map (rv X))) (C := (cT ci).1) (n := (cT ci).2.2) hC.1 hC.2.1 hC.2.2.2.2.1 (hts _ LK.1) (hts _ CL.2.2.2.1) (hts _ CL.2.2.2.2.1) rfl hd (by omega) (by omega) hKn.2.1 hW.1 (fun H' kC hkC e1 e2 e3 => ?_)
  have hfr := fun j => hM.2.1 M.2.2 j (Nat.le_refl _) (by omega)
  have hborn := u_born (fty ci) hts CL.1 hKn hkC e1 CL.2.2.1
  have hct : ∀ j, ctv (M.1, M.2.1, M.2.2 + 1) M.2.2 j = fcv ((fun _ _ => 0), (fun _ _ => none), 0) 0 0 (ftc ci j) := fun j => by
    unfold ctv; rw [ctc_obj hk]; simp [fcv, (hfr j).1, (hfr j).2]
  have := new_step (pc' := pc + 3) hh hC hM hS hL hW hlc hn hb h172 hR (H' := H') e2 e3 ⟨fun _ => by
    rw [hk]
    refine hborn.to (fun j hj => ?_)
    rw [hct j]
    have hfl := fld_known ci LK.2 j hj
    unfold ftc
    rcases hfl with h | h | h
    · rw [h]; rfl
    · rw [h]; rfl
    · rw [if_pos h]; exact dv_ref h, fun h5 => absurd (by rw [hk]) h5⟩ (fun j => by
    rw [hct j]
    unfold fcv
    split
    · intro k hk; cases hk
    · split
      · exact il0
      · exact ir0)
  rw [show M.2.2 + 1 - na0 = M.2.2 - na0 + 1 by omega, show nsu (M.2.2 + 1) - nsu na0 = nsu M.2.2 - nsu na0 + (cT ci).2.2 by omega] at this
  exact this
theorem so_anew {idx n : Nat} {z : Int} (hd : decode (m_bt y) pc = .ok (.anewarray idx, 3)) (hl : (m_ow y, idx, 4) ∈ lkT) (hk : kd M.2.2 = (4, n)) (hz : z = n) (hb : M.2.2 < b) (hh : WP y d b (pc + 3) L (vR (some M.2.2) :: S) (M.1, M.2.1, M.2.2 + 1) Q) : WP y d b pc L (vI z :: S) M Q := by
  intro X p l e R s m args below meth c H locs Qf ls na0 hC hM hS hL hW hlc hn hR
  have hE := hC.2.2.2.2.2.2.2.2.2.2.2.2
  have LK := lkT_ok _ hl
  have hi : ir z := okS_hd hS
  have h172 : M.2.2 < 172 := kd_lt (by simp [hk])
  have hcl := i3_clamp hi
  have hsm := kd_big hk
  have hnso : nso (kd M.2.2) = n := by rw [hk]; rfl
  have hns := nsu_succ h172
  rw [hnso] at hns
  have hm1 := nsu_mono (show M.2.2 + 1 ≤ b from hb)
  have hm0 := nsu_mono hn.1
  have hRc := hC.2.2.2.2.2.2.2.2.2.2.1
  have hRs := hC.2.2.2.2.2.2.2.2.2.2.2.1
  have hts := hC.2.2.2.2.2.1
  have hzn : z.toNat = n := by omega
  refine W.anew (C := "HandTongue$House") (g := F0 m pc ls ((vI z :: S).map (rv X))) (n := i3 z) hC.1 hC.2.1 hC.2.2.2.2.1 (hts _ LK.1) (va_AO.use hE.2.2.1) rfl hd rfl (fun q => i3_in (n := n + 1) hi (by omega) (by omega) (Or.inl q)) (by rw [hcl]; omega) (by omega) (by rw [hcl]; omega) (fun cA kA comp f1 f2 f3 f4 => ?_)
  rw [hcl, hzn]
  generalize hH1 : H.push ({ cls := cA, slots := Array.replicate n .null, vm := .none } : Cell) = H'
  have e2 : H'.size = X.1.size + M.2.2 + 1 := by rw [← hH1, Array.size_push, hW.1]
  have e1 : H'[X.1.size + M.2.2]? = some (arrV cA n (fun _ => .null)) := by rw [← hW.1, ← hH1, Array.getElem?_push_size, ← arrV_new]
  have e3 : ∀ q : Nat, q < X.1.size + M.2.2 → H'[q]? = H[q]? := fun q hq => by rw [← hH1, Array.getElem?_push, if_neg (by rw [hW.1]; omega)]
  have hcA : cA = X.2.2.2.1 4 := by
    obtain ⟨kA', comp', -, -, -, g4⟩ := (hE.1.2 4 _ rfl).2
    exact Option.some.inj (f1.symm.trans g4)
  have hfr := fun j => hM.2.1 M.2.2 j (Nat.le_refl _) (by omega)
  have hct : ∀ j, ctv (M.1, M.2.1, M.2.2 + 1) M.2.2 j = vR none := fun j => by unfold ctv; rw [ctc_arr hk (by decide)]; simp [fcv, (hfr j).2]
  have := new_step (pc' := pc + 3) hh hC hM (okS_tl hS) hL hW hlc hn hb h172 hR (H' := H') e2 e3 ⟨fun h5 => by simp [hk] at h5, fun _ => by
    rw [e1, hk, hcA]
    congr 2
    funext j
    rw [hct]; rfl⟩ (fun j => by
    rw [hct]; intro k hk; cases hk)
  rw [show M.2.2 + 1 - na0 = M.2.2 - na0 + 1 by omega, show nsu (M.2.2 + 1) - nsu na0 = nsu M.2.2 - nsu na0 + n by omega] at this
  rw [hW.1]
  exact this
/-! ends -/
theorem so_ireturn {z : Int} (hd : decode (m_bt y) pc = .ok (.ireturn, 1)) (hr : m_rt y = some .int ∨ (m_rt y = some .boolean ∧ (z = 0 ∨ z = 1))) (hb : M.2.2 = b) (h : Q (some (vI z)) M) : WP y d b pc L [vI z] M Q := by
  intro X p l e R s m args below meth c H locs Qf ls na0 hC hM hS hL hW hl hn hR
  subst hb
  exact hR (some (vI z)) M H locs pc ls .ireturn h hM (fun v hv => by cases hv; exact okS_hd hS) hW hl rfl ⟨rfl, hr⟩ hd
theorem so_lreturn {z : Int} (hd : decode (m_bt y) pc = .ok (.lreturn, 1)) (hr : m_rt y = some .long) (hb : M.2.2 = b) (h : Q (some (vL z)) M) : WP y d b pc L [vL z] M Q := by
  intro X p l e R s m args below meth c H locs Qf ls na0 hC hM hS hL hW hl hn hR
  subst hb
  exact hR (some (vL z)) M H locs pc ls .lreturn h hM (fun v hv => by cases hv; exact okS_hd hS) hW hl rfl ⟨rfl, hr⟩ hd
theorem so_return (hd : decode (m_bt y) pc = .ok (.return_, 1)) (hr : m_rt y = none) (hb : M.2.2 = b) (h : Q none M) : WP y d b pc L [] M Q := by
  intro X p l e R s m args below meth c H locs Qf ls na0 hC hM hS hL hW hl hn hR
  subst hb
  exact hR none M H locs pc ls .return_ h hM (fun v hv => by cases hv) hW hl rfl ⟨rfl, hr⟩ hd
/-! switches -/
def swT (z : Int) (f : Int → Prop) : Int → List Int → Prop
  | _, [] => True
  | lo, o :: os => (z = lo → f o) ∧ swT z f (lo + 1) os
theorem swT_get {z : Int} {f : Int → Prop} : ∀ (os : List Int) (lo : Int) (i : Nat) (o : Int), swT z f lo os → os[i]? = some o → z = lo + i → f o
  | [], _, _, _, _, h, _ => by simp at h
  | o :: os, lo, 0, o', hs, h, hz => by
    simp at h; subst h
    exact hs.1 (by omega)
  | o :: os, lo, i + 1, o', hs, h, hz => swT_get os (lo + 1) i o' hs.2 (by simpa using h) (by omega)
theorem so_table {dflt lo hi z : Int} {offs : Array Int} {len : Nat} (hd : decode (m_bt y) pc = .ok (.tableswitch dflt lo hi offs, len)) (hlen : (offs.size : Int) = hi - lo + 1) (hpos : ∀ o ∈ dflt :: offs.toList, 0 ≤ (pc : Int) + o)
    (h1 : swT z (fun o => WP y d b ((pc : Int) + o).toNat L S M Q) lo offs.toList) (h2 : (z < lo ∨ hi < z) → WP y d b ((pc : Int) + dflt).toNat L S M Q) : WP y d b pc L (vI z :: S) M Q := by
  intro X p l e R s m args below meth c H locs Qf ls na0 hC hM hS hL hW hl hn hR
  have hz : ir z := okS_hd hS
  have hzv := i3_val hz
  by_cases hout : z < lo ∨ hi < z
  · exact lv_tableOut (tgt := ((pc : Int) + dflt).toNat) hC.1 hC.2.1 hd (by rw [hzv]; exact hout) (by have := hpos dflt List.mem_cons_self; omega) (h2 hout X p l e R s m args below meth c H locs Qf ls na0 hC hM (okS_tl hS) hL hW hl hn hR)
  · have hlt : (z - lo).toNat < offs.size := by omega
    have hget : offs[(z - lo).toNat]? = some offs[(z - lo).toNat] := Array.getElem?_eq_getElem hlt
    have hmem : offs[(z - lo).toNat] ∈ offs.toList := by simp
    have hw := swT_get offs.toList lo (z - lo).toNat _ h1 (by rw [Array.getElem?_toList]; exact hget) (by omega)
    exact lv_tableIn (tgt := ((pc : Int) + offs[(z - lo).toNat]).toNat) hC.1 hC.2.1 hd (by rw [hzv]; omega) (by rw [hzv]; omega) (by rw [hzv]; exact hget) (by have := hpos _ (List.mem_cons_of_mem _ hmem); omega) (hw X p l e R s m args below meth c H locs Qf ls na0 hC hM (okS_tl hS) hL hW hl hn hR)
def swL (z : Int) (f : Int → Prop) (dflt : Int) : List (Int × Int) → Prop
  | [] => f dflt
  | o :: os => (z = o.1 → f o.2) ∧ (z ≠ o.1 → swL z f dflt os)
theorem so_lookup {dflt z : Int} {ps : Array (Int × Int)} {len : Nat} (hd : decode (m_bt y) pc = .ok (.lookupswitch dflt ps, len)) (hp : (ps.toList.zip (ps.toList.drop 1)).all (fun (a, next) => a.1 < next.1) = true) (hpos : ∀ o ∈ dflt :: ps.toList.map (·.2), 0 ≤ (pc : Int) + o)
    (h1 : swL z (fun o => WP y d b ((pc : Int) + o).toNat L S M Q) dflt ps.toList) : WP y d b pc L (vI z :: S) M Q := by
  intro X p l e R s m args below meth c H locs Qf ls na0 hC hM hS hL hW hl hn hR
  have hz : ir z := okS_hd hS
  have hzv := i3_val hz
  have key : ∀ (os : List (Int × Int)), (∀ o ∈ os, o ∈ ps.toList) → swL z (fun o => WP y d b ((pc : Int) + o).toNat L S M Q) dflt os → ∃ off, Op.lookupswitch.offset os dflt z = off ∧ 0 ≤ (pc : Int) + off ∧ WP y d b ((pc : Int) + off).toNat L S M Q := by
    intro os
    induction os with
    | nil => intro _ h; exact ⟨dflt, rfl, hpos dflt List.mem_cons_self, h⟩
    | cons o os ih =>
      intro hm h
      obtain ⟨a, c2⟩ := o
      rw [Op.lookupswitch.offset_cons]
      by_cases hza : z = a
      · exact ⟨c2, by rw [if_pos hza.symm], hpos c2 (List.mem_cons_of_mem _ (List.mem_map.mpr ⟨(a, c2), hm _ List.mem_cons_self, rfl⟩)), h.1 hza⟩
      · rw [if_neg (fun q => hza q.symm)]
        exact ih (fun o ho => hm o (List.mem_cons_of_mem _ ho)) (h.2 hza)
  obtain ⟨off, e1, e2, e3⟩ := key ps.toList (fun _ h => h) h1
  exact lv_lookup (off := off) (tgt := ((pc : Int) + off).toNat) hC.1 hC.2.1 hd hp (by rw [hzv]; exact e1) (by omega) (e3 X p l e R s m args below meth c H locs Qf ls na0 hC hM (okS_tl hS) hL hW hl hn hR)
end SJ
