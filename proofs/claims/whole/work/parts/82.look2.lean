section LOOKB
variable {d : Nat} {mi : MT}
theorem s_Fr_spread {P : MT → Prop} {m b0 se : Int} {t0 : Nat → Int} (hd : 2 < d) (h3 : P_xy (mi 5) (mi 6) (mi 135)) (h4 : P_w (mi 7) (mi 135)) (hm : 0 ≤ m ∧ m < 4) (hb : 0 ≤ b0 ∧ b0 + mxv m ≤ 6240) (hs : -1 ≤ se ∧ se < mxv m) (hz : ∀ v : Int, 0 ≤ v → v < mxv m → t0 (b0 + v).toNat = 0) (h : ∀ t : Nat → Int, (∀ v : Int, 0 ≤ v → v < mxv m → t (b0 + v).toNat = if se = -1 then 0 else mi 135 (8 + m).toNat * dst (mi 135) m se v) → (∀ j : Nat, ¬ (b0 ≤ j ∧ (j : Int) < b0 + mxv m) → t j = t0 j) → P (sv mi 104 t)) : c_Fr_spread d m b0 se (sv mi 104 t0) P := by
  have w4 := h4 m hm.1 hm.2
  refine v_Fr_spread ⟨fun q => ?_, fun q => h t0 (fun v v0 v1 => by rw [if_pos q]; exact hz v v0 v1) (fun _ _ => rfl)⟩
  have L : ∀ i : Int, i ≤ mxv m → 0 ≤ i → ∀ t : Nat → Int, (∀ v : Int, 0 ≤ v → v < i → t (b0 + v).toNat = mi 135 (8 + m).toNat * dst (mi 135) m se v) → (∀ j : Nat, ¬ (b0 ≤ j ∧ (j : Int) < b0 + i) → t j = t0 j) → h_Fr_spread_10 d m b0 se i (sv mi 104 t) P := by
    refine upto _ (fun i hi ih i0 t t1 t2 => ?_)
    refine v_Fr_spread_10 ⟨hm, ?_⟩
    rw [stv3 hm]
    refine ⟨fun g => h t (fun v v0 v1 => by rw [if_neg q]; exact t1 v v0 (by omega)) (fun j hj => t2 j (by omega)), fun g => ⟨by omega, ?_⟩⟩
    have dd := dst_in h3 (m := m) (a := se) (b := i) hm (by omega) (by omega)
    have mm := mul_in (x := mi 135 (8 + m).toNat) (y := dst (mi 135) m se i) (X := 20) (Y := 40) (by omega) dd
    refine s_B_distanceOf (mi := sv mi 104 t) (by omega) h3 hm (by omega) (by omega) ?_
    have e7 : (sv mi 104 t) 7 m.toNat = mi 135 (8 + m).toNat := w4.1
    have e135 : (sv mi 104 t) 135 = mi 135 := rfl
    rw [e7, e135]
    refine ⟨by omega, ?_⟩
    rw [wt_sv]
    refine ih g (by omega) _ (fun v v0 v1 => ?_) (fun j hj => by rw [svn _ _ (by omega)]; exact t2 j (by omega))
    by_cases e : v = i
    · subst e; rw [sv_eq]
    · rw [svn _ _ (by omega)]; exact t1 v v0 (by omega)
  have mx : 0 ≤ mxv m := by unfold mxv; repeat' split
                            all_goals omega
  exact L 0 mx (by omega) t0 (fun v a b => by omega) (fun _ _ => rfl)
def off (m : Int) : Int := if m = 0 then 0 else if m = 1 then 256 else if m = 2 then 288 else 296
/-- the class: the costs of each frame -/
def CT (t c : Nat → Int) (fr kn n : Int) : Prop := ∀ f : Int, 0 ≤ f → f < n → ∀ m : Int, 0 ≤ m → m < 4 → ∀ v : Int, 0 ≤ v → v < mxv m → t (f * 312 + off m + v).toNat = KM c fr kn f m v
theorem s_Fr_costOf {P : Int → MT → Prop} {c xs ys w wo sl da ma : Nat → Int} {fr kn n f x : Int} (hd : 1 < d) (h3 : P_xy xs ys c) (h4 : P_w w c) (h6 : P_si wo sl da ma c) (hT : CT (mi 104) c fr kn n) (hf : 0 ≤ f ∧ f < n ∧ n ≤ 20) (hx : okSt x) (h : P (KF c fr kn f x) mi) : c_Fr_costOf d f x mi P := by
  have m0 := hx.2 0 (by omega) (by omega)
  have m1 := hx.2 1 (by omega) (by omega)
  have m2 := hx.2 2 (by omega) (by omega)
  have m3 := hx.2 3 (by omega) (by omega)
  have k0 := KM_in h3 h4 h6 (fr := fr) (kn := kn) (f := f) (m := 0) (by omega) m0
  have k1 := KM_in h3 h4 h6 (fr := fr) (kn := kn) (f := f) (m := 1) (by omega) m1
  have k2 := KM_in h3 h4 h6 (fr := fr) (kn := kn) (f := f) (m := 2) (by omega) m2
  have k3 := KM_in h3 h4 h6 (fr := fr) (kn := kn) (f := f) (m := 3) (by omega) m3
  have e0 : mi 104 (f * 312 + mkv x 0).toNat = KM c fr kn f 0 (mkv x 0) := by
    have := hT f hf.1 hf.2.1 0 (by omega) (by omega) _ m0.1 m0.2
    rw [show f * 312 + off 0 + mkv x 0 = f * 312 + mkv x 0 by unfold off; rw [if_pos rfl]; omega] at this; exact this
  have e1 : mi 104 (f * 312 + 256 + mkv x 1).toNat = KM c fr kn f 1 (mkv x 1) := hT f hf.1 hf.2.1 1 (by omega) (by omega) _ m1.1 m1.2
  have e2 : mi 104 (f * 312 + 288 + mkv x 2).toNat = KM c fr kn f 2 (mkv x 2) := hT f hf.1 hf.2.1 2 (by omega) (by omega) _ m2.1 m2.2
  have e3 : mi 104 (f * 312 + 296 + mkv x 3).toNat = KM c fr kn f 3 (mkv x 3) := hT f hf.1 hf.2.1 3 (by omega) (by omega) _ m3.1 m3.2
  have q0 : mxv 0 = 243 := rfl
  have q1 : mxv 1 = 20 := rfl
  have q2 : mxv 2 = 8 := rfl
  have q3 : mxv 3 = 10 := rfl
  have hx1 := hx.1
  refine v_Fr_costOf ?_
  rw [e0, e1, e2, e3]
  exact ⟨by omega, h⟩
theorem s_Fr_look {P : MT → Prop} {a b kn : Int} (hd : 6 < d) (h3 : P_xy (mi 5) (mi 6) (mi 135)) (h4 : P_w (mi 7) (mi 135)) (h5 : P_tr (mi 15) (mi 135)) (h6 : P_si (mi 14) (mi 16) (mi 17) (mi 18) (mi 135)) (hf : 0 ≤ a ∧ a ≤ b ∧ b < 20) (h : ∀ t1 t : Nat → Int, CT t (mi 135) a kn (b - a + 1) → P (sv (wt (sv mi 19 t1) 103 1 (b - a + 1)) 104 t)) : c_Fr_look d a b kn mi P := by
  refine v_Fr_look ⟨by omega, s_W_gather (by omega) h6 (fun t1 hG => ⟨by omega, s_Ap_fill (fun tz hz => ?_)⟩)⟩
  have hG' : ∀ t : Nat → Int, GAT (sv (wt (sv mi 19 t1) 103 1 (b - a + 1)) 104 t) kn := fun t => hG
  have en : ∀ t : Nat → Int, (sv (wt (sv mi 19 t1) 103 1 (b - a + 1)) 104 t) 103 1 = b - a + 1 := fun t => by show (wt (sv mi 19 t1) 103 1 _) 103 1 = _; exact wt_same _ _ _ _
  have e135 : (wt (sv mi 19 t1) 103 1 (b - a + 1)) 135 = mi 135 := rfl
  have e3 : P_xy ((wt (sv mi 19 t1) 103 1 (b - a + 1)) 5) ((wt (sv mi 19 t1) 103 1 (b - a + 1)) 6) ((wt (sv mi 19 t1) 103 1 (b - a + 1)) 135) := h3
  have e4 : P_w ((wt (sv mi 19 t1) 103 1 (b - a + 1)) 7) ((wt (sv mi 19 t1) 103 1 (b - a + 1)) 135) := h4
  have e5 : P_tr ((wt (sv mi 19 t1) 103 1 (b - a + 1)) 15) ((wt (sv mi 19 t1) 103 1 (b - a + 1)) 135) := h5
  have e6 : P_si ((wt (sv mi 19 t1) 103 1 (b - a + 1)) 14) ((wt (sv mi 19 t1) 103 1 (b - a + 1)) 16) ((wt (sv mi 19 t1) 103 1 (b - a + 1)) 17) ((wt (sv mi 19 t1) 103 1 (b - a + 1)) 18) ((wt (sv mi 19 t1) 103 1 (b - a + 1)) 135) := h6
  have e7 : ((wt (sv mi 19 t1) 103 1 (b - a + 1)) 7 0) = mi 135 8 := (h4 0 (by omega) (by omega)).1
  have hP : ∀ t : Nat → Int, CT t (mi 135) a kn (b - a + 1) → P (sv (wt (sv mi 19 t1) 103 1 (b - a + 1)) 104 t) := fun t => h t1 t
  clear h hG
  generalize wt (sv mi 19 t1) 103 1 (b - a + 1) = M1 at *
  have q0 : mxv 0 = 243 := rfl
  have q1 : mxv 1 = 20 := rfl
  have q2 : mxv 2 = 8 := rfl
  have q3 : mxv 3 = 10 := rfl
  have w0 := h4 0 (by omega) (by omega)
  have JN : ∀ (f m : Int), 0 ≤ m → m < 4 → -1 ≤ joinF (mi 135) f m kn ∧ joinF (mi 135) f m kn < mxv m := fun f m m0 m1 => joinF_in h6 ⟨m0, m1⟩
  have L : ∀ i : Int, i ≤ b - a + 1 → 0 ≤ i → ∀ t : Nat → Int, CT t (mi 135) a kn i → (∀ j : Nat, i * 312 ≤ j → j < 6240 → t j = 0) → h_Fr_look_39 d a b kn i (sv M1 104 t) P := by
    refine upto _ (fun i hi ih i0 t t1 t2 => ?_)
    refine v_Fr_look_39 ?_
    rw [en]
    refine ⟨fun q => hP t (by rw [show b - a + 1 = i by omega]; exact t1), fun q => ⟨by omega, ?_⟩⟩
    -- the other three marks
    have R : ∀ ts : Nat → Int, CT ts (mi 135) a kn i → (∀ v : Int, 0 ≤ v → v < 243 → ts (i * 312 + v).toNat = KM (mi 135) a kn i 0 v) → (∀ j : Nat, i * 312 + 256 ≤ j → j < 6240 → ts j = 0) → c_W_join (d - 1) (a + i) 1 (sv M1 104 ts) (fun z2 m2 => c_Fr_spread (d - 1) 1 (i * 312 + 256) z2 m2 (fun m3 => (-2147483648 ≤ i * 312 + 288 ∧ i * 312 + 288 < 2147483648) ∧ (c_W_join (d - 1) (a + i) 2 m3 (fun z4 m4 => c_Fr_spread (d - 1) 2 (i * 312 + 288) z4 m4 (fun m5 => (-2147483648 ≤ i * 312 + 296 ∧ i * 312 + 296 < 2147483648) ∧ (c_W_join (d - 1) (a + i) 3 m5 (fun z6 m6 => c_Fr_spread (d - 1) 3 (i * 312 + 296) z6 m6 (fun m7 => (-2147483648 ≤ i + 1 ∧ i + 1 < 2147483648) ∧ h_Fr_look_39 d a b kn (i + 1) m7 P)))))))) := by
      intro ts s1 s2 s3
      refine s_W_join (by omega) (hG' ts) e6 e5 (by omega) (by omega) ?_
      have x135 : ∀ u : Nat → Int, (sv M1 104 u) 135 = mi 135 := fun u => e135
      rw [x135]
      refine s_Fr_spread (by omega) e3 e4 (by omega) (by omega) (JN _ _ (by omega) (by omega)) (fun v v0 v1 => s3 _ (by omega) (by omega)) (fun u1 a1 b1 => ⟨by omega, ?_⟩)
      refine s_W_join (by omega) (hG' u1) e6 e5 (by omega) (by omega) ?_
      rw [x135]
      refine s_Fr_spread (by omega) e3 e4 (by omega) (by omega) (JN _ _ (by omega) (by omega)) (fun v v0 v1 => by rw [b1 _ (by omega)]; exact s3 _ (by omega) (by omega)) (fun u2 a2 b2 => ⟨by omega, ?_⟩)
      refine s_W_join (by omega) (hG' u2) e6 e5 (by omega) (by omega) ?_
      rw [x135]
      refine s_Fr_spread (by omega) e3 e4 (by omega) (by omega) (JN _ _ (by omega) (by omega)) (fun v v0 v1 => by rw [b2 _ (by omega), b1 _ (by omega)]; exact s3 _ (by omega) (by omega)) (fun u3 a3 b3 => ⟨by omega, ?_⟩)
      rw [e135] at a1 a2 a3
      refine ih q (by omega) u3 (fun f f0 f1 m m0 m1 v v0 v1 => ?_) (fun j j0 j1 => by rw [b3 _ (by omega), b2 _ (by omega), b1 _ (by omega)]; exact s3 _ (by omega) j1)
      have em : m = 0 ∨ m = 1 ∨ m = 2 ∨ m = 3 := by omega
      by_cases ef : f = i
      · subst ef
        rcases em with rfl | rfl | rfl | rfl
        · rw [show f * 312 + off 0 + v = f * 312 + v by unfold off; rw [if_pos rfl]; omega, b3 _ (by omega), b2 _ (by omega), b1 _ (by omega)]; exact s2 v v0 (by omega)
        · show u3 (f * 312 + 256 + v).toNat = _
          rw [b3 _ (by omega), b2 _ (by omega)]; exact a1 v v0 v1
        · show u3 (f * 312 + 288 + v).toNat = _
          rw [b3 _ (by omega)]; exact a2 v v0 v1
        · show u3 (f * 312 + 296 + v).toNat = _
          exact a3 v v0 v1
      · have ob : 0 ≤ off m ∧ off m + v < 312 := by
          rcases em with rfl | rfl | rfl | rfl
          · show (0 : Int) ≤ 0 ∧ 0 + v < 312; omega
          · show (0 : Int) ≤ 256 ∧ 256 + v < 312; omega
          · show (0 : Int) ≤ 288 ∧ 288 + v < 312; omega
          · show (0 : Int) ≤ 296 ∧ 296 + v < 312; omega
        rw [b3 _ (by omega), b2 _ (by omega), b1 _ (by omega)]
        exact s1 f f0 (by omega) m m0 m1 v v0 v1
    refine s_W_join (by omega) (hG' t) e6 e5 (by omega) (by omega) ?_
    have x135 : (sv M1 104 t) 135 = mi 135 := e135
    have x7 : (sv M1 104 t) 7 0 = mi 135 8 := e7
    rw [x135]
    refine ⟨fun z => ⟨by omega, R t t1 (fun v v0 v1 => ?_) (fun j j0 j1 => t2 j (by omega) j1)⟩, fun z => ?_⟩
    · rw [t2 _ (by omega) (by omega)]; unfold KM; rw [if_pos z]
    · have jj := JN (a + i) 0 (by omega) (by omega)
      rw [x7]
      refine s_Fr_spreadShapes (by omega) (by omega) (by omega) ?_ (t2 _ (by omega) (by omega)) (fun ts g1 g2 => ⟨by omega, R ts (fun f f0 f1 m m0 m1 v v0 v1 => ?_) (fun v v0 v1 => ?_) (fun j j0 j1 => by rw [g2 _ (by omega)]; exact t2 j (by omega) j1)⟩)
      · have e8 : mi 7 (0 : Int).toNat = mi 135 8 := w0.1
        have := w0.2
        rw [e8] at this
        exact this
      · have em : m = 0 ∨ m = 1 ∨ m = 2 ∨ m = 3 := by omega
        have ob : 0 ≤ off m ∧ off m + v < 312 := by
          rcases em with rfl | rfl | rfl | rfl
          · show (0 : Int) ≤ 0 ∧ 0 + v < 312; omega
          · show (0 : Int) ≤ 256 ∧ 256 + v < 312; omega
          · show (0 : Int) ≤ 288 ∧ 288 + v < 312; omega
          · show (0 : Int) ≤ 296 ∧ 296 + v < 312; omega
        rw [g2 _ (by omega)]; exact t1 f f0 f1 m m0 m1 v v0 v1
      · rw [g1 v v0 v1]; unfold KM; rw [if_neg z]; unfold dst; rw [if_pos rfl]; rfl
  exact L 0 (by omega) (by omega) tz (fun f f0 f1 => by omega) (fun j _ j1 => hz j j1)
end LOOKB
