section IMAGE
variable {d : Nat} {mi : MT}
theorem s_M_image_17 {P : Int → MT → Prop} {k : Int} (hd : 0 < d) (hk : 0 ≤ k ∧ k < 2) (h : ∀ t : Nat → Int, (∀ j : Int, 0 ≤ j → j < 2066 → t (2066 * k + j).toNat = mi 135 j.toNat) → (∀ j : Nat, (j : Int) < 2066 * k ∨ 2066 * k + 2066 ≤ j → t j = mi 136 j) → P 0 (wt (wt (sv mi 136 t) 137 k.toNat 1) 134 3 (min 0 0))) : h_M_image_17 d k 0 mi P := by
  have L : ∀ i : Int, i ≤ 2066 → 0 ≤ i → ∀ t : Nat → Int, (∀ j : Int, 0 ≤ j → j < i → t (2066 * k + j).toNat = mi 135 j.toNat) → (∀ j : Nat, (j : Int) < 2066 * k ∨ 2066 * k + 2066 ≤ j → t j = mi 136 j) → h_M_image_17 d k i (sv mi 136 t) P := by
    refine upto _ (fun i hi ih i0 t t1 t2 => ?_)
    refine v_M_image_17 ⟨fun q => ⟨by omega, h t (fun j j0 j1 => t1 j j0 (by omega)) t2⟩, fun q => ⟨by omega, ?_⟩⟩
    rw [wt_sv]
    refine ih q (by omega) _ (fun j j0 j1 => ?_) (fun j hj => by rw [svn _ _ (by omega)]; exact t2 j hj)
    by_cases c : j = i
    · subst c; rw [sv_eq]; rfl
    · rw [svn _ _ (by omega)]; exact t1 j j0 (by omega)
  have := L 0 (by omega) (by omega) (mi 136) (fun j a b => by omega) (fun _ _ => rfl)
  rw [sv_self] at this
  exact this
theorem s_M_back_33 {P : Int → MT → Prop} {k : Int} (hd : 0 < d) (hk : 0 ≤ k ∧ k < 2) (h : ∀ t : Nat → Int, (∀ j : Int, 0 ≤ j → j < 2066 → t j.toNat = mi 136 (2066 * k + j).toNat) → (∀ j : Nat, 2066 ≤ j → t j = mi 135 j) → c_M_readsKept (d - 1) (sv mi 135 t) (fun m1 => P 0 (wt m1 134 3 (min 0 0)))) : h_M_back_33 d k 0 mi P := by
  have L : ∀ i : Int, i ≤ 2066 → 0 ≤ i → ∀ t : Nat → Int, (∀ j : Int, 0 ≤ j → j < i → t j.toNat = mi 136 (2066 * k + j).toNat) → (∀ j : Nat, 2066 ≤ j → t j = mi 135 j) → h_M_back_33 d k i (sv mi 135 t) P := by
    refine upto _ (fun i hi ih i0 t t1 t2 => ?_)
    refine v_M_back_33 ⟨fun q => ⟨by omega, h t (fun j j0 j1 => t1 j j0 (by omega)) t2⟩, fun q => ⟨by omega, ?_⟩⟩
    rw [wt_sv]
    refine ih q (by omega) _ (fun j j0 j1 => ?_) (fun j hj => by rw [svn _ _ (by omega)]; exact t2 j hj)
    by_cases c : j = i
    · subst c; rw [sv_eq]; rfl
    · rw [svn _ _ (by omega)]; exact t1 j j0 (by omega)
  have := L 0 (by omega) (by omega) (mi 135) (fun j a b => by omega) (fun _ _ => rfl)
  rw [sv_self] at this
  exact this
end IMAGE
