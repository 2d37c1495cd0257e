section ACT2
variable {d : Nat} {mi : MT} {r : Nat → Int} {n T : Int}
theorem bIt : bI (true = true) = 1 := rfl
theorem bIf : bI (false = true) = 0 := rfl
theorem s_M_act {P : MT → Prop} {p s k v p' a : Int} (hd : 14 < d) (hg : mi 134 12 = -1) (hM : MAT mi r n p) (hA : ACT r n p s k v p') (ha : mi 134 17 = a) (ha4 : 0 ≤ a ∧ a < 40)
    (h : ∀ m2 : MT, AF mi m2 → m2 134 12 = -1 → MAT m2 r n p' → m2 134 17 = a + 1 → m2 154 a.toNat = s → ((k = 4 ∧ m2 153 a.toNat = 1) ∨ (k < 4 ∧ m2 153 a.toNat = 0 ∧ m2 155 a.toNat = k ∧ vRel v (m2 156 a.toNat) (m2 157 a.toNat))) → (∀ c : Nat, 153 ≤ c → c ≤ 157 → ∀ j : Nat, j ≠ a.toNat → m2 c j = mi c j) → P m2) : c_M_act d mi P := by
  refine v_M_act ⟨by omega, fun _ => ?_, fun q => absurd hg q⟩
  rw [ha]
  refine ⟨fun _ => ?_, fun q => by omega⟩
  rcases hA with ⟨w1, hs, hk, hV⟩ | ⟨w1, hs, hk, hv, hp'⟩
  · have s1 := SD_in hs
    refine s_M_takesWord (by omega) iw_drop hg hM (fun e => by omega) (fun _ => ?_)
    rw [bIf]
    refine ⟨by omega, fun q => absurd rfl q, fun _ => ?_⟩
    have M1 : MAT (wt mi 153 a.toNat 0) r n p := MAT_cg hM rfl rfl rfl rfl
    refine s_M_takesWord (by omega) iw_set hg M1 (fun _ _ u hu M2 => ⟨fun _ => ⟨fun _ => ?_, fun q => ?_⟩, fun q => absurd q (by decide)⟩) (fun q => absurd w1 q)
    · have u17 : (sv (wt mi 153 a.toNat 0) 134 u) 134 17 = a := (hu 17 (by decide) (by decide)).trans ha
      have u12 : u 12 = -1 := (hu 12 (by decide) (by decide)).trans hg
      rw [u17]
      refine ⟨by omega, ?_⟩
      have M3 : MAT (wt (sv (wt mi 153 a.toNat 0) 134 u) 134 17 (a + 1)) r n (nx r n p) := MAT_cg M2 rfl (wt_ne _ _ (by decide)) (wt_ne _ _ (by decide)) (wt_ne _ _ (by decide))
      refine s_M_side (by omega) (by rw [wt_ne _ _ (by decide)]; exact u12) M3 (fun s2 hs2 u2 hu2 M4 => ?_) (fun a b => by unfold SD at hs; omega)
      have es : s2 = s := by unfold SD at hs; omega
      subst es
      rw [wt_sv, svv] at M4 ⊢
      have v2 : ∀ j : Nat, j ≠ 9 → j ≠ 10 → j ≠ 17 → u2 j = mi 134 j := fun j a b c => by rw [hu2 j a b, wt_ne _ _ c]; exact hu j a b
      have v17 : u2 17 = a + 1 := by rw [hu2 17 (by decide) (by decide), wt_same]
      have z0 : (sv (wt mi 153 a.toNat 0) 134 u2) 153 a.toNat = 0 := by show sv (mi 153) a.toNat 0 a.toNat = 0; exact sv_eq _ _ _
      refine ⟨fun q => absurd z0 q, fun _ => ⟨fun _ => ?_, fun q => absurd (show u2 12 = -1 from (v2 12 (by decide) (by decide) (by decide)).trans hg) q⟩⟩
      have M5 : MAT (wt (sv (wt mi 153 a.toNat 0) 134 u2) 154 a.toNat s2) r n (nx r n (nx r n p)) := MAT_cg M4 rfl rfl rfl rfl
      refine s_M_markWord (by omega) (show u2 12 = -1 from (v2 12 (by decide) (by decide) (by decide)).trans hg) M5 (fun k2 hk2 _ u3 hu3 M6 => ?_) (fun w => by omega)
      have ek : k2 = k := by omega
      subst ek
      have v3 : ∀ j : Nat, j ≠ 9 → j ≠ 10 → j ≠ 17 → u3 j = mi 134 j := fun j a b c => by rw [hu3 j a b]; exact v2 j a b c
      have M7 : MAT (wt (sv (wt (sv (wt mi 153 a.toNat 0) 134 u2) 154 a.toNat s2) 134 u3) 155 a.toNat k2) r n (nx r n (nx r n (nx r n p))) := MAT_cg M6 rfl rfl rfl rfl
      refine s_M_value (by omega) (show u3 12 = -1 from (v3 12 (by decide) (by decide) (by decide)).trans hg) M7 hV (fun u4 hu4 vr M8 => ?_)
      have v4 : ∀ j : Nat, j ≠ 9 → j ≠ 10 → j ≠ 17 → j ≠ 36 → j ≠ 37 → u4 j = mi 134 j := fun j a b c e f => by rw [hu4 j a b e f]; exact v3 j a b c
      have v417 : u4 17 = a + 1 := by rw [hu4 17 (by decide) (by decide) (by decide) (by decide)]; show u3 17 = _; rw [hu3 17 (by decide) (by decide)]; exact v17
      refine h _ ⟨fun c c1 c2 => ?_, fun j a b c e f g => v4 j a b e f g⟩ (show u4 12 = -1 from (v4 12 (by decide) (by decide) (by decide) (by decide) (by decide)).trans hg) (MAT_cg M8 rfl rfl rfl rfl) v417 ?_ (Or.inr ⟨by omega, ?_, ?_, ?_⟩) ?_
      · rw [wt_row _ _ (by omega), wt_row _ _ (by omega), sv_ne _ _ c1, wt_row _ _ (by omega), sv_ne _ _ c1, wt_row _ _ (by omega), sv_ne _ _ c1, wt_row _ _ (by omega)]
      · show sv (mi 154) a.toNat s2 a.toNat = s2; exact sv_eq _ _ _
      · show sv (mi 153) a.toNat 0 a.toNat = 0; exact sv_eq _ _ _
      · show sv (mi 155) a.toNat k2 a.toNat = k2; exact sv_eq _ _ _
      · show vRel v (sv (mi 156) a.toNat (u4 36) a.toNat) (sv (mi 157) a.toNat (u4 37) a.toNat)
        rw [sv_eq, sv_eq]; exact vr
      · intro c c1 c2 j hj
        have : c = 153 ∨ c = 154 ∨ c = 155 ∨ c = 156 ∨ c = 157 := by omega
        rcases this with rfl | rfl | rfl | rfl | rfl
        · show sv (mi 153) a.toNat _ j = _; exact svn _ _ hj
        · show sv (mi 154) a.toNat _ j = _; exact svn _ _ hj
        · show sv (mi 155) a.toNat _ j = _; exact svn _ _ hj
        · show sv (mi 156) a.toNat _ j = _; exact svn _ _ hj
        · show sv (mi 157) a.toNat _ j = _; exact svn _ _ hj
    · exact absurd (show u 12 = -1 from (hu 12 (by decide) (by decide)).trans hg) q
  · have s1 := SD_in hs
    refine s_M_takesWord (by omega) iw_drop hg hM (fun _ _ u hu M2 => ?_) (fun q => absurd w1 q)
    rw [bIt]
    have u17 : (sv mi 134 u) 134 17 = a := (hu 17 (by decide) (by decide)).trans ha
    have u12 : u 12 = -1 := (hu 12 (by decide) (by decide)).trans hg
    rw [u17]
    refine ⟨by omega, fun _ => ⟨fun _ => ⟨by omega, ?_⟩, fun q => absurd u12 q⟩, fun q => absurd q (by decide)⟩
    have M3 : MAT (wt (wt (sv mi 134 u) 153 a.toNat 1) 134 17 (a + 1)) r n (nx r n p) := MAT_cg M2 rfl (wt_ne _ _ (by decide)) (wt_ne _ _ (by decide)) (wt_ne _ _ (by decide))
    refine s_M_side (by omega) (by rw [wt_ne _ _ (by decide)]; exact u12) M3 (fun s2 hs2 u2 hu2 M4 => ?_) (fun a b => by unfold SD at hs; omega)
    have es : s2 = s := by unfold SD at hs; omega
    subst es
    have v2 : ∀ j : Nat, j ≠ 9 → j ≠ 10 → j ≠ 17 → u2 j = mi 134 j := fun j a b c => by rw [hu2 j a b, wt_ne _ _ c]; exact hu j a b
    have v17 : u2 17 = a + 1 := by rw [hu2 17 (by decide) (by decide), wt_same]
    have z1 : (sv (wt (wt (sv mi 134 u) 153 a.toNat 1) 134 17 (a + 1)) 134 u2) 153 a.toNat = 1 := by show sv (mi 153) a.toNat 1 a.toNat = 1; exact sv_eq _ _ _
    refine ⟨fun _ => ?_, fun q => by omega⟩
    rw [← hp'] at M4
    refine h _ ⟨fun c c1 c2 => ?_, fun j a b c e f g => v2 j a b e⟩ (show u2 12 = -1 from (v2 12 (by decide) (by decide) (by decide)).trans hg) (MAT_cg M4 rfl rfl rfl rfl) v17 ?_ (Or.inl ⟨hk, z1⟩) ?_
    · rw [wt_row _ _ (by omega), sv_ne _ _ c1, wt_row _ _ c1, wt_row _ _ (by omega), sv_ne _ _ c1]
    · show sv (mi 154) a.toNat s2 a.toNat = s2; exact sv_eq _ _ _
    · intro c c1 c2 j hj
      have : c = 153 ∨ c = 154 ∨ c = 155 ∨ c = 156 ∨ c = 157 := by omega
      rcases this with rfl | rfl | rfl | rfl | rfl
      · show sv (mi 153) a.toNat _ j = _; exact svn _ _ hj
      · show sv (mi 154) a.toNat _ j = _; exact svn _ _ hj
      · rfl
      · rfl
      · rfl
theorem s_M_actF {P : MT → Prop} {p p' a : Int} (hd : 14 < d) (hg : mi 134 12 = -1) (hM : MAT mi r n p) (hA : (a = 40 ∧ p' = p) ∨ (a < 40 ∧ ACTF r n p p')) (ha : mi 134 17 = a) (ha4 : 0 ≤ a ∧ a ≤ 40)
    (h : ∀ m2 : MT, AF mi m2 → m2 134 12 = p' → P m2) : c_M_act d mi P := by
  have hR := hM.1.2.2.1
  have hp := hM.2.2.1
  refine v_M_act ⟨by omega, fun _ => ?_, fun q => absurd hg q⟩
  rw [ha]
  refine ⟨fun a40 => ?_, fun q => s_M_faults (by omega) hg (h _ (AF.w _ (by omega)) (by rw [wt_same, hM.2.1]; rcases hA with hA | hA <;> omega))⟩
  rcases hA with hA | ⟨_, hA⟩
  · exact absurd hA.1 a40
  rcases hA with ⟨e1, e2, ep⟩ | ⟨e1, e2, e3, ep⟩ | ⟨e1, ⟨s, hs⟩, e2, ep⟩ | ⟨e1, ⟨s, hs⟩, e2, hV⟩
  · refine s_M_takesWord (by omega) iw_drop hg hM (fun e => absurd e e2) (fun _ => ?_)
    rw [bIf]
    refine ⟨by omega, fun q => absurd rfl q, fun _ => ?_⟩
    have M1 : MAT (wt mi 153 a.toNat 0) r n p := MAT_cg hM rfl rfl rfl rfl
    refine s_M_takesWord (by omega) iw_set hg M1 (fun e => absurd e e1) (fun _ => ⟨fun q => absurd q (by decide), fun _ => s_M_faults (by omega) hg ?_⟩)
    have g12 : (wt (wt mi 153 a.toNat 0) 134 12 ((wt mi 153 a.toNat 0) 134 9)) 134 12 = p := by rw [wt_same]; exact hM.2.1
    refine ⟨fun q => by omega, fun _ => h _ ((AF.row _ (by omega)).trans (AF.w _ (by omega))) (by omega)⟩
  · have pq := nx1 hp (by omega : 301 ≤ wd r n p)
    by_cases c : wd r n p = 309
    · refine s_M_takesWord (by omega) iw_drop hg hM (fun _ _ u hu M2 => ?_) (fun q => absurd c q)
      rw [bIt]
      have u17 : (sv mi 134 u) 134 17 = a := (hu 17 (by decide) (by decide)).trans ha
      have u12 : u 12 = -1 := (hu 12 (by decide) (by decide)).trans hg
      rw [u17]
      refine ⟨by omega, fun _ => ⟨fun _ => ⟨by omega, ?_⟩, fun q => absurd u12 q⟩, fun q => absurd q (by decide)⟩
      have M3 : MAT (wt (wt (sv mi 134 u) 153 a.toNat 1) 134 17 (a + 1)) r n (nx r n p) := MAT_cg M2 rfl (wt_ne _ _ (by decide)) (wt_ne _ _ (by decide)) (wt_ne _ _ (by decide))
      refine s_M_side (by omega) (by rw [wt_ne _ _ (by decide)]; exact u12) M3 (fun s2 hs2 => by omega) (fun _ _ => ?_)
      have z1 : (wt (wt (wt (sv mi 134 u) 153 a.toNat 1) 134 17 (a + 1)) 134 12 (nx r n p)) 153 a.toNat = 1 := by show sv (mi 153) a.toNat 1 a.toNat = 1; exact sv_eq _ _ _
      have F : AF mi (wt (wt (wt (sv mi 134 u) 153 a.toNat 1) 134 17 (a + 1)) 134 12 (nx r n p)) := (AF.u (fun j a b _ _ _ => hu j a b)).trans ((AF.row _ (by omega)).trans ((AF.w _ (by omega)).trans (AF.w _ (by omega))))
      exact ⟨fun _ => h _ (F.trans (AF.row _ (by omega))) (by show (wt (wt (wt (sv mi 134 u) 153 a.toNat 1) 134 17 (a + 1)) 134 12 (nx r n p)) 134 12 = p'; rw [wt_same]; omega), fun q => by omega⟩
    · refine s_M_takesWord (by omega) iw_drop hg hM (fun e => absurd e c) (fun _ => ?_)
      rw [bIf]
      refine ⟨by omega, fun q => absurd rfl q, fun _ => ?_⟩
      have M1 : MAT (wt mi 153 a.toNat 0) r n p := MAT_cg hM rfl rfl rfl rfl
      refine s_M_takesWord (by omega) iw_set hg M1 (fun _ _ u hu M2 => ?_) (fun q => absurd (by omega) q)
      have u17 : (sv (wt mi 153 a.toNat 0) 134 u) 134 17 = a := (hu 17 (by decide) (by decide)).trans ha
      have u12 : u 12 = -1 := (hu 12 (by decide) (by decide)).trans hg
      rw [u17]
      refine ⟨fun _ => ⟨fun _ => ⟨by omega, ?_⟩, fun q => absurd u12 q⟩, fun q => absurd q (by decide)⟩
      have M3 : MAT (wt (sv (wt mi 153 a.toNat 0) 134 u) 134 17 (a + 1)) r n (nx r n p) := MAT_cg M2 rfl (wt_ne _ _ (by decide)) (wt_ne _ _ (by decide)) (wt_ne _ _ (by decide))
      refine s_M_side (by omega) (by rw [wt_ne _ _ (by decide)]; exact u12) M3 (fun s2 hs2 => by omega) (fun _ _ => ?_)
      have F : AF mi (wt (wt (sv (wt mi 153 a.toNat 0) 134 u) 134 17 (a + 1)) 134 12 (nx r n p)) := ((AF.row _ (by omega)).trans (AF.u (m := wt mi 153 a.toNat 0) (fun j a b _ _ _ => hu j a b))).trans ((AF.w _ (by omega)).trans (AF.w _ (by omega)))
      have z0 : (wt (wt (sv (wt mi 153 a.toNat 0) 134 u) 134 17 (a + 1)) 134 12 (nx r n p)) 153 a.toNat = 0 := by show sv (mi 153) a.toNat 0 a.toNat = 0; exact sv_eq _ _ _
      have g12 : (wt (wt (sv (wt mi 153 a.toNat 0) 134 u) 134 17 (a + 1)) 134 12 (nx r n p)) 134 12 = nx r n p := wt_same _ _ _ _
      exact ⟨fun q => absurd z0 q, fun _ => ⟨fun q => by omega, fun _ => h _ (F.trans (AF.row _ (by omega))) (by rw [ep]; exact g12)⟩⟩
  · have pq := nx1 hp (by omega : 301 ≤ wd r n p)
    have s1 := SD_in hs
    have pq2 := nx1 (r := r) (n := n) (p := nx r n p) (by omega) (by omega)
    refine s_M_takesWord (by omega) iw_drop hg hM (fun e => by omega) (fun _ => ?_)
    rw [bIf]
    refine ⟨by omega, fun q => absurd rfl q, fun _ => ?_⟩
    have M1 : MAT (wt mi 153 a.toNat 0) r n p := MAT_cg hM rfl rfl rfl rfl
    refine s_M_takesWord (by omega) iw_set hg M1 (fun _ _ u hu M2 => ?_) (fun q => absurd e1 q)
    have u17 : (sv (wt mi 153 a.toNat 0) 134 u) 134 17 = a := (hu 17 (by decide) (by decide)).trans ha
    have u12 : u 12 = -1 := (hu 12 (by decide) (by decide)).trans hg
    rw [u17]
    refine ⟨fun _ => ⟨fun _ => ⟨by omega, ?_⟩, fun q => absurd u12 q⟩, fun q => absurd q (by decide)⟩
    have M3 : MAT (wt (sv (wt mi 153 a.toNat 0) 134 u) 134 17 (a + 1)) r n (nx r n p) := MAT_cg M2 rfl (wt_ne _ _ (by decide)) (wt_ne _ _ (by decide)) (wt_ne _ _ (by decide))
    refine s_M_side (by omega) (by rw [wt_ne _ _ (by decide)]; exact u12) M3 (fun s2 hs2 u2 hu2 M4 => ?_) (fun a b => by unfold SD at hs; omega)
    have F : AF mi (sv (wt (sv (wt mi 153 a.toNat 0) 134 u) 134 17 (a + 1)) 134 u2) := (((AF.row _ (by omega)).trans (AF.u (m := wt mi 153 a.toNat 0) (fun j a b _ _ _ => hu j a b))).trans (AF.w _ (by omega))).trans (AF.u (fun j a b _ _ _ => hu2 j a b))
    have z0 : (sv (wt (sv (wt mi 153 a.toNat 0) 134 u) 134 17 (a + 1)) 134 u2) 153 a.toNat = 0 := by show sv (mi 153) a.toNat 0 a.toNat = 0; exact sv_eq _ _ _
    have v12 : u2 12 = -1 := by rw [hu2 12 (by decide) (by decide), wt_ne _ _ (by decide)]; exact u12
    refine ⟨fun q => absurd z0 q, fun _ => ⟨fun _ => ?_, fun q => absurd v12 q⟩⟩
    have M5 : MAT (wt (sv (wt (sv (wt mi 153 a.toNat 0) 134 u) 134 17 (a + 1)) 134 u2) 154 a.toNat s2) r n (nx r n (nx r n p)) := MAT_cg M4 rfl rfl rfl rfl
    refine s_M_markWord (by omega) v12 M5 (fun k2 hk2 hk3 => by have := hk3 rfl; omega) (fun _ => ?_)
    have g12 : (wt (wt (wt (sv (wt (sv (wt mi 153 a.toNat 0) 134 u) 134 17 (a + 1)) 134 u2) 154 a.toNat s2) 134 12 (nx r n (nx r n p))) 155 a.toNat 0) 134 12 = nx r n (nx r n p) := by rw [wt_row _ _ (by decide)]; exact wt_same _ _ _ _
    refine b_M_value (by omega) (by omega) (fun u3 hu3 => ?_)
    refine h _ ((F.trans ((AF.row _ (by omega)).trans ((AF.w _ (by omega)).trans (AF.row _ (by omega))))).trans ((AF.u (fun j _ _ _ a b => hu3 j a b)).trans ((AF.row _ (by omega)).trans (AF.row _ (by omega))))) ?_
    show u3 12 = p'
    rw [hu3 12 (by decide) (by decide), g12]; omega
  · have pq := nx1 hp (by omega : 301 ≤ wd r n p)
    have s1 := SD_in hs
    have pq2 := nx1 (r := r) (n := n) (p := nx r n p) (by omega) (by omega)
    refine s_M_takesWord (by omega) iw_drop hg hM (fun e => by omega) (fun _ => ?_)
    rw [bIf]
    refine ⟨by omega, fun q => absurd rfl q, fun _ => ?_⟩
    have M1 : MAT (wt mi 153 a.toNat 0) r n p := MAT_cg hM rfl rfl rfl rfl
    refine s_M_takesWord (by omega) iw_set hg M1 (fun _ _ u hu M2 => ?_) (fun q => absurd e1 q)
    have u17 : (sv (wt mi 153 a.toNat 0) 134 u) 134 17 = a := (hu 17 (by decide) (by decide)).trans ha
    have u12 : u 12 = -1 := (hu 12 (by decide) (by decide)).trans hg
    rw [u17]
    refine ⟨fun _ => ⟨fun _ => ⟨by omega, ?_⟩, fun q => absurd u12 q⟩, fun q => absurd q (by decide)⟩
    have M3 : MAT (wt (sv (wt mi 153 a.toNat 0) 134 u) 134 17 (a + 1)) r n (nx r n p) := MAT_cg M2 rfl (wt_ne _ _ (by decide)) (wt_ne _ _ (by decide)) (wt_ne _ _ (by decide))
    refine s_M_side (by omega) (by rw [wt_ne _ _ (by decide)]; exact u12) M3 (fun s2 hs2 u2 hu2 M4 => ?_) (fun a b => by unfold SD at hs; omega)
    have F : AF mi (sv (wt (sv (wt mi 153 a.toNat 0) 134 u) 134 17 (a + 1)) 134 u2) := (((AF.row _ (by omega)).trans (AF.u (m := wt mi 153 a.toNat 0) (fun j a b _ _ _ => hu j a b))).trans (AF.w _ (by omega))).trans (AF.u (fun j a b _ _ _ => hu2 j a b))
    have z0 : (sv (wt (sv (wt mi 153 a.toNat 0) 134 u) 134 17 (a + 1)) 134 u2) 153 a.toNat = 0 := by show sv (mi 153) a.toNat 0 a.toNat = 0; exact sv_eq _ _ _
    have v12 : u2 12 = -1 := by rw [hu2 12 (by decide) (by decide), wt_ne _ _ (by decide)]; exact u12
    refine ⟨fun q => absurd z0 q, fun _ => ⟨fun _ => ?_, fun q => absurd v12 q⟩⟩
    have M5 : MAT (wt (sv (wt (sv (wt mi 153 a.toNat 0) 134 u) 134 17 (a + 1)) 134 u2) 154 a.toNat s2) r n (nx r n (nx r n p)) := MAT_cg M4 rfl rfl rfl rfl
    refine s_M_markWord (by omega) v12 M5 (fun k2 hk2 _ u3 hu3 M6 => ?_) (fun w => by omega)
    have v312 : u3 12 = -1 := by rw [hu3 12 (by decide) (by decide)]; exact v12
    refine s_M_valueF (by omega) v312 (MAT_cg M6 rfl rfl rfl rfl) hV (fun u4 hu4 e12 => ?_)
    exact h _ (((F.trans (AF.row _ (by omega))).trans ((AF.u (fun j a b _ _ _ => hu3 j a b)).trans (AF.row _ (by omega)))).trans ((AF.u (fun j a b c e f => hu4 j a b c e f)).trans ((AF.row _ (by omega)).trans (AF.row _ (by omega))))) e12
theorem b_M_act {P : MT → Prop} (hd : 14 < d) (hg : mi 134 12 ≠ -1) (h : P mi) : c_M_act d mi P := v_M_act ⟨by omega, fun q => absurd q hg, fun _ => h⟩
end ACT2
