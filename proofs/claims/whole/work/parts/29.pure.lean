/-! small methods of both sides, as values -/
section PU
variable {d : Nat} {mi : MT}
/-- how many values a mark has -/
def mxv (a : Int) : Int := if a = 0 then 243 else if a = 1 then 20 else if a = 2 then 8 else 10
theorem stv3 {a : Int} (h : 0 ≤ a ∧ a < 4) : stv 1003 a.toNat = mxv a := by
  have : a = 0 ∨ a = 1 ∨ a = 2 ∨ a = 3 := by omega
  rcases this with rfl | rfl | rfl | rfl <;> rfl
def kdf (v : Int) : Int := if 97 ≤ v ∧ v ≤ 122 then 1 else if 48 ≤ v ∧ v ≤ 57 then 2 else 0
def seenOk (m v : Int) : Prop := v = -1 ∨ (0 ≤ v ∧ v < mxv m)
theorem s_C_within {P : Bool → MT → Prop} {a c : Int} (h : P (decide (0 ≤ a ∧ a < c)) mi) : c_C_within d a c mi P := by
  refine v_C_within ?_
  repeat' (first | (refine And.intro (by omega) ?_) | apply And.intro | intro _ | omega)
  all_goals first | exact dF h (by omega) | exact dT h (by omega)
theorem p_C_within {a c : Int} : ∀ Q', Q' (some (vI (bI (0 ≤ a ∧ a < c)))) (G mi) → WPc 174 d 172 [vI a, vI c] (G mi) Q' := pu_B fun _ h => s_C_within h
theorem s_M_in {P : Bool → MT → Prop} {v lo hi : Int} (h : P (decide (lo ≤ v ∧ v ≤ hi)) mi) : c_M_in d v lo hi mi P := by
  refine v_M_in ?_
  repeat' (first | (refine And.intro (by omega) ?_) | apply And.intro | intro _ | omega)
  all_goals first | exact dF h (by omega) | exact dT h (by omega)
theorem p_M_in {v lo hi : Int} : ∀ Q', Q' (some (vI (bI (lo ≤ v ∧ v ≤ hi)))) (G mi) → WPc 176 d 172 [vI v, vI lo, vI hi] (G mi) Q' := pu_B fun _ h => s_M_in h
theorem s_B_fits {P : Bool → MT → Prop} {a c : Int} (hd : 0 < d) (h : P (decide ((0 ≤ a ∧ a < 4) ∧ 0 ≤ c ∧ c < mxv a)) mi) : c_B_fits d a c mi P := by
  refine v_B_fits ⟨hd, s_C_within ⟨fun q => dF h (by simp only [decide_eq_false_iff_not] at q; omega), fun q => ?_⟩⟩
  simp only [decide_eq_true_eq] at q
  refine ⟨q, s_C_within ?_⟩
  rw [stv3 q]
  exact ⟨fun w => dF h (by simp only [decide_eq_false_iff_not] at w; omega), fun w => dT h (by simp only [decide_eq_true_eq] at w; omega)⟩
theorem p_B_fits {a c : Int} (hd : 0 < d) : ∀ Q', Q' (some (vI (bI ((0 ≤ a ∧ a < 4) ∧ 0 ≤ c ∧ c < mxv a)))) (G mi) → WPc 2 d 172 [vI a, vI c] (G mi) Q' := pu_B fun _ h => s_B_fits hd h
theorem s_C_isSign {P : Bool → MT → Prop} {a : Int} (hd : 0 < d) (h : P (decide (0 ≤ a ∧ a < mi 2 8)) mi) : c_C_isSign d a mi P := v_C_isSign ⟨hd, s_C_within h⟩
theorem p_C_isSign {a : Int} (hd : 0 < d) : ∀ Q', Q' (some (vI (bI (0 ≤ a ∧ a < mi 2 8)))) (G mi) → WPc 169 d 172 [aR 0, vI a] (G mi) Q' := pu_B fun _ h => s_C_isSign hd h
theorem s_M_isSign {P : Bool → MT → Prop} {a : Int} (hd : 0 < d) (hm : 0 ≤ mi 135 0 ∧ mi 135 0 ≤ 10) (h : P (decide (0 ≤ a ∧ a < mi 135 0)) mi) : c_M_isSign d a mi P := by
  refine v_M_isSign ⟨by omega, s_M_in ?_⟩
  have e : decide (0 ≤ a ∧ a < mi 135 0) = decide (0 ≤ a ∧ a ≤ mi 135 0 - 1) := by congr 1; apply propext; omega
  rw [← e]; exact h
theorem p_M_isSign {a : Int} (hd : 0 < d) (hm : 0 ≤ mi 135 0 ∧ mi 135 0 ≤ 10) : ∀ Q', Q' (some (vI (bI (0 ≤ a ∧ a < mi 135 0)))) (G mi) → WPc 179 d 172 [aR 134, vI a] (G mi) Q' := pu_B fun _ h => s_M_isSign hd hm h
theorem s_C_isSignOrNone {P : Bool → MT → Prop} {a : Int} (hd : 1 < d) (h : P (decide (a = -1 ∨ (0 ≤ a ∧ a < mi 2 8))) mi) : c_C_isSignOrNone d a mi P := by
  refine v_C_isSignOrNone ⟨fun q => dT h (by omega), fun q => ⟨by omega, s_C_isSign (by omega) ⟨fun w => dF h (by simp only [decide_eq_false_iff_not] at w; omega), fun w => dT h (by simp only [decide_eq_true_eq] at w; omega)⟩⟩⟩
theorem p_C_isSignOrNone {a : Int} (hd : 1 < d) : ∀ Q', Q' (some (vI (bI (a = -1 ∨ (0 ≤ a ∧ a < mi 2 8))))) (G mi) → WPc 170 d 172 [aR 0, vI a] (G mi) Q' := pu_B fun _ h => s_C_isSignOrNone hd h
def spanOk (f t k : Int) : Prop := (0 ≤ f ∧ f ≤ t ∧ t < 20) ∧ 0 ≤ k ∧ k < 1000
theorem s_C_isSpan {P : Bool → MT → Prop} {f t k : Int} (hd : 0 < d) (h : P (decide ((0 ≤ f ∧ f ≤ t ∧ t < 20) ∧ 0 ≤ k ∧ k < 1000)) mi) : c_C_isSpan d f t k mi P := by
  refine v_C_isSpan ?_
  repeat' (first | (refine And.intro (by omega) ?_) | apply And.intro | intro _ | exact dF h (by omega))
  refine s_C_within ⟨fun w => dF h (by simp only [decide_eq_false_iff_not] at w; omega), fun w => dT h (by simp only [decide_eq_true_eq] at w; omega)⟩
theorem p_C_isSpan {f t k : Int} (hd : 0 < d) : ∀ Q', Q' (some (vI (bI ((0 ≤ f ∧ f ≤ t ∧ t < 20) ∧ 0 ≤ k ∧ k < 1000)))) (G mi) → WPc 171 d 172 [vI f, vI t, vI k] (G mi) Q' := pu_B fun _ h => s_C_isSpan hd h
theorem s_M_areFrames {P : Bool → MT → Prop} {f t k : Int} (hd : 0 < d) (h : P (decide ((0 ≤ f ∧ f ≤ t ∧ t < 20) ∧ 0 ≤ k ∧ k < 1000)) mi) : c_M_areFrames d f t k mi P := by
  refine v_M_areFrames ⟨hd, s_M_in ⟨fun w => dF h (by simp only [decide_eq_false_iff_not] at w; omega), fun w => ?_⟩⟩
  simp only [decide_eq_true_eq] at w
  refine ⟨fun q => dF h (by omega), fun q => s_M_in ⟨fun w => dF h (by simp only [decide_eq_false_iff_not] at w; omega), fun w => dT h (by simp only [decide_eq_true_eq] at w; omega)⟩⟩
theorem p_M_areFrames {f t k : Int} (hd : 0 < d) : ∀ Q', Q' (some (vI (bI ((0 ≤ f ∧ f ≤ t ∧ t < 20) ∧ 0 ≤ k ∧ k < 1000)))) (G mi) → WPc 228 d 172 [vI f, vI t, vI k] (G mi) Q' := pu_B fun _ h => s_M_areFrames hd h
theorem s_C_isSeen {P : Bool → MT → Prop} {m v : Int} (hd : 1 < d) (hm : 0 ≤ m ∧ m < 4) (h : P (decide (v = -1 ∨ (0 ≤ v ∧ v < mxv m))) mi) : c_C_isSeen d m v mi P := by
  refine v_C_isSeen ⟨fun q => dT h (by omega), fun q => ⟨by omega, s_B_fits (by omega) ⟨fun w => dF h (by simp only [decide_eq_false_iff_not] at w; omega), fun w => dT h (by simp only [decide_eq_true_eq] at w; omega)⟩⟩⟩
theorem p_C_isSeen {m v : Int} (hd : 1 < d) (hm : 0 ≤ m ∧ m < 4) : ∀ Q', Q' (some (vI (bI (v = -1 ∨ (0 ≤ v ∧ v < mxv m))))) (G mi) → WPc 173 d 172 [vI m, vI v] (G mi) Q' := pu_B fun _ h => s_C_isSeen hd hm h
theorem s_C_areSeen {P : Bool → MT → Prop} {a b c e : Int} (hd : 2 < d) (h : P (decide ((-1 ≤ a ∧ a < 243) ∧ (-1 ≤ b ∧ b < 20) ∧ (-1 ≤ c ∧ c < 8) ∧ (-1 ≤ e ∧ e < 10))) mi) : c_C_areSeen d a b c e mi P := by
  have m0 : mxv 0 = 243 := rfl
  have m1 : mxv 1 = 20 := rfl
  have m2 : mxv 2 = 8 := rfl
  have m3 : mxv 3 = 10 := rfl
  refine v_C_areSeen ⟨by omega, s_C_isSeen (by omega) (by decide) ⟨fun w => dF h (by simp only [decide_eq_false_iff_not] at w; omega), fun w1 => s_C_isSeen (by omega) (by decide) ⟨fun w => dF h (by simp only [decide_eq_false_iff_not] at w; omega), fun w2 => s_C_isSeen (by omega) (by decide) ⟨fun w => dF h (by simp only [decide_eq_false_iff_not] at w; omega), fun w3 => s_C_isSeen (by omega) (by decide) ⟨fun w => dF h (by simp only [decide_eq_false_iff_not] at w; omega), fun w => dT h (by simp only [decide_eq_true_eq] at w w1 w2 w3; omega)⟩⟩⟩⟩⟩
theorem p_C_areSeen {a b c e : Int} (hd : 2 < d) : ∀ Q', Q' (some (vI (bI ((-1 ≤ a ∧ a < 243) ∧ (-1 ≤ b ∧ b < 20) ∧ (-1 ≤ c ∧ c < 8) ∧ (-1 ≤ e ∧ e < 10))))) (G mi) → WPc 172 d 172 [vI a, vI b, vI c, vI e] (G mi) Q' := pu_B fun _ h => s_C_areSeen hd h
theorem s_M_mostOf {P : Int → MT → Prop} {m : Int} (h : P (mxv m - 1) mi) : c_M_mostOf d m mi P := by
  refine v_M_mostOf ?_
  have e : mxv m = if m = 0 then 243 else if m = 1 then 20 else if m = 2 then 8 else 10 := rfl
  repeat' (first | (refine And.intro (by omega) ?_) | apply And.intro | intro _ | omega)
  all_goals first | (rw [show mxv m - 1 = 242 by omega] at h; exact h) | (rw [show mxv m - 1 = 19 by omega] at h; exact h) | (rw [show mxv m - 1 = 7 by omega] at h; exact h) | (rw [show mxv m - 1 = 9 by omega] at h; exact h)
theorem p_M_mostOf {m : Int} : ∀ Q', Q' (some (vI (mxv m - 1))) (G mi) → WPc 180 d 172 [vI m] (G mi) Q' := pu_I fun _ h => s_M_mostOf h
theorem s_M_isOf {P : Bool → MT → Prop} {m v : Int} (hd : 0 < d) (h : P (decide (0 ≤ v ∧ v < mxv m)) mi) : c_M_isOf d m v mi P := by
  refine v_M_isOf ⟨hd, s_M_mostOf (s_M_in ?_)⟩
  have e : decide (0 ≤ v ∧ v < mxv m) = decide (0 ≤ v ∧ v ≤ mxv m - 1) := by congr 1; apply propext; omega
  rw [← e]; exact h
theorem p_M_isOf {m v : Int} (hd : 0 < d) : ∀ Q', Q' (some (vI (bI (0 ≤ v ∧ v < mxv m)))) (G mi) → WPc 181 d 172 [vI m, vI v] (G mi) Q' := pu_B fun _ h => s_M_isOf hd h
theorem s_M_size {P : Int → MT → Prop} {v : Int} (hv : -2147483648 < v ∧ v < 2147483648) (h : P (ab v) mi) : c_M_size d v mi P := by
  refine v_M_size ⟨fun q => ?_, fun q => ⟨by omega, ?_⟩⟩
  · rw [show ab v = v by unfold ab; omega] at h; exact h
  · rw [show ab v = -v by unfold ab; omega] at h; exact h
theorem p_M_size {v : Int} (hv : -2147483648 < v ∧ v < 2147483648) : ∀ Q', Q' (some (vI (ab v))) (G mi) → WPc 177 d 172 [vI v] (G mi) Q' := pu_I fun _ h => s_M_size hv h
theorem s_M_good {P : Bool → MT → Prop} (h : P (decide (mi 134 12 = -1)) mi) : c_M_good d mi P := by
  refine v_M_good ?_
  repeat' (first | (refine And.intro (by omega) ?_) | apply And.intro | intro _ | omega)
  all_goals first | exact dF h (by omega) | exact dT h (by omega)
theorem p_M_good : ∀ Q', Q' (some (vI (bI (mi 134 12 = -1)))) (G mi) → WPc 188 d 172 [aR 134] (G mi) Q' := pu_B fun _ h => s_M_good h
theorem s_M_ends {P : Int → MT → Prop} {v : Int} (h : P v (wt mi 134 3 (min v 0))) : c_M_ends d v mi P := by
  refine v_M_ends ?_
  repeat' (first | (refine And.intro (by omega) ?_) | apply And.intro | intro _ | omega)
  · rw [show min v 0 = 0 by omega] at h; exact h
  · rw [show min v 0 = v by omega] at h; exact h
theorem p_M_ends {v : Int} : ∀ Q', Q' (some (vI v)) (G (wt mi 134 3 (min v 0))) → WPc 178 d 172 [aR 134, vI v] (G mi) Q' := pu_I fun _ h => s_M_ends h
theorem s_R_finishing {P : Int → MT → Prop} {f : Int} (h : P (if f = mi 103 1 then 0 else 268435456) mi) : c_R_finishing d f mi P := by
  refine v_R_finishing ⟨fun q => ?_, fun q => ?_⟩
  · rw [if_neg q] at h; exact h
  · rw [if_pos q] at h; exact h
theorem p_R_finishing {f : Int} : ∀ Q', Q' (some (vI (if f = mi 103 1 then 0 else 268435456))) (G mi) → WPc 74 d 172 [aR 105, vI f] (G mi) Q' := pu_I fun _ h => s_R_finishing h
theorem s_T_kindOf {P : Int → MT → Prop} {v : Int} (h : P (kdf v) mi) : c_T_kindOf d v mi P := by
  refine v_T_kindOf ?_
  have e : kdf v = if 97 ≤ v ∧ v ≤ 122 then 1 else if 48 ≤ v ∧ v ≤ 57 then 2 else 0 := rfl
  repeat' (first | (refine And.intro (by omega) ?_) | apply And.intro | intro _ | omega)
  all_goals first | (rw [show kdf v = 1 by omega] at h; exact h) | (rw [show kdf v = 2 by omega] at h; exact h) | (rw [show kdf v = 0 by omega] at h; exact h)
theorem p_T_kindOf {v : Int} : ∀ Q', Q' (some (vI (kdf v))) (G mi) → WPc 114 d 172 [vI v] (G mi) Q' := pu_I fun _ h => s_T_kindOf h
theorem s_T_hasRoom {P : Bool → MT → Prop} (hm : 0 ≤ mi 90 3 ∧ mi 90 3 ≤ 400) (h : P (decide (mi 90 3 ≤ 380)) mi) : c_T_hasRoom d mi P := by
  refine v_T_hasRoom ?_
  repeat' (first | (refine And.intro (by omega) ?_) | apply And.intro | intro _ | omega)
  all_goals first | exact dF h (by omega) | exact dT h (by omega)
theorem p_T_hasRoom (hm : 0 ≤ mi 90 3 ∧ mi 90 3 ≤ 400) : ∀ Q', Q' (some (vI (bI (mi 90 3 ≤ 380)))) (G mi) → WPc 111 d 172 [aR 90] (G mi) Q' := pu_B fun _ h => s_T_hasRoom hm h
theorem s_M_isIn {P : Bool → MT → Prop} {k lo hi : Int} (hk : k < mi 134 8 → 0 ≤ k ∧ k < 400) (h : P (decide (k < mi 134 8 ∧ lo ≤ mi 139 k.toNat ∧ mi 139 k.toNat ≤ hi)) mi) : c_M_isIn d k lo hi mi P := by
  refine v_M_isIn ?_
  repeat' (first | (refine And.intro (by omega) ?_) | apply And.intro | intro _ | omega)
  all_goals first | exact dF h (by omega) | exact dT h (by omega)
theorem p_M_isIn {k lo hi : Int} (hk : k < mi 134 8 → 0 ≤ k ∧ k < 400) : ∀ Q', Q' (some (vI (bI (k < mi 134 8 ∧ lo ≤ mi 139 k.toNat ∧ mi 139 k.toNat ≤ hi)))) (G mi) → WPc 184 d 172 [aR 134, vI k, vI lo, vI hi] (G mi) Q' := pu_B fun _ h => s_M_isIn hk h
end PU
