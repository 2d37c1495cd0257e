/-! values, memory, world -/
abbrev AV : Type := Int ⊕ Int ⊕ Option Nat
abbrev vI (z : Int) : AV := Sum.inl z
abbrev vL (z : Int) : AV := Sum.inr (Sum.inl z)
abbrev vR (r : Option Nat) : AV := Sum.inr (Sum.inr r)
/-- numbers of cells, references of cells, how many cells -/
abbrev Mem : Type := (Nat → Nat → Int) × (Nat → Nat → Option Nat) × Nat
/-- heap of the start, class numbers, places of fields, array classes, addresses of what lies outside, the script -/
abbrev Cx : Type := Heap × (Nat → ClassId) × (Nat → Nat → Nat) × (Nat → ClassId) × (Nat → Nat) × Nat × (Nat → Int)
def ad (X : Cx) (k : Nat) : Nat := if k < 1000 then X.1.size + k else X.2.2.2.2.1 k
def rv (X : Cx) (v : AV) : Value := match v with
  | .inl z => .int (i3 z)
  | .inr (.inl z) => .long (i6 z)
  | .inr (.inr none) => .null
  | .inr (.inr (some k)) => .ref (ad X k)
def cg (v : AV) : Nat := match v with
  | .inl _ => 1
  | .inr (.inl _) => 2
  | .inr (.inr _) => 1
theorem cg_rv (X : Cx) (v : AV) : (rv X v).category = cg v := by
  rcases v with z | z | (_ | k) <;> rfl
def sv {α : Type} (f : Nat → α) (k : Nat) (x : α) : Nat → α := fun j => if j = k then x else f j
theorem sv_eq {α : Type} (f : Nat → α) (k : Nat) (x : α) : sv f k x k = x := by simp [sv]
theorem sv_ne {α : Type} (f : Nat → α) {k j : Nat} (x : α) (h : j ≠ k) : sv f k x j = f j := by simp [sv, h]
def okv (n : Nat) (v : AV) : Prop := match v with
  | .inl z => ir z
  | .inr (.inl z) => il z
  | .inr (.inr r) => ∀ k, r = some k → k < n ∨ 1000 ≤ k
theorem okv_mono {n n' : Nat} (h : n ≤ n') {v : AV} (hv : okv n v) : okv n' v := by
  rcases v with z | z | r
  · exact hv
  · exact hv
  · intro k hk
    have := hv k hk
    omega
def fcv (M : Mem) (k j c : Nat) : AV := if c = 4 then vR (M.2.1 k j) else if c = 1 then vL (M.1 k j) else vI (M.1 k j)
def ftc (ci j : Nat) : Nat := if (fty ci j).isReference = true then 4 else if fty ci j = .boolean then 3 else 0
def ctc (k j : Nat) : Nat := if (kd k).1 = 5 then ftc (kd k).2 j else (kd k).1
def ctv (M : Mem) (k j : Nat) : AV := fcv M k j (ctc k j)
def cAt (X : Cx) (M : Mem) (k : Nat) (H : Heap) : Prop :=
  ((kd k).1 = 5 → t_OB (X.1.size + k) (X.2.1 (kd k).2) (cT (kd k).2).2.2 (X.2.2.1 (kd k).2) H (fun j => rv X (ctv M k j))) ∧
  ((kd k).1 ≠ 5 → H[X.1.size + k]? = some (arrV (X.2.2.2.1 (kd k).1) (kd k).2 (fun j => rv X (ctv M k j))))
def Wd (X : Cx) (M : Mem) (H : Heap) : Prop := H.size = X.1.size + M.2.2 ∧ (∀ q, q < X.1.size → H[q]? = X.1[q]?) ∧ ∀ k, k < M.2.2 → cAt X M k H
def okM (X : Cx) (M : Mem) : Prop := (∀ k j, k < M.2.2 → okv M.2.2 (ctv M k j)) ∧ (∀ k j, M.2.2 ≤ k → k < 1000 → M.1 k j = 0 ∧ M.2.1 k j = none) ∧ M.2.2 ≤ 172 ∧ M.1 1000 0 = X.2.2.2.2.2.1 ∧ (∀ j, M.1 1000 (j + 1) = X.2.2.2.2.2.2 j)
/-- the three tables of the class -/
def stv (k j : Nat) : Int := if k = 1001 then [255, 31, 7, 15].getD j 0 else if k = 1002 then [0, 8, 13, 16].getD j 0 else [243, 20, 8, 10].getD j 0
def tyk : List FieldType := [.int, .long, .byte, .boolean, .object "HandTongue$House"]
def tysX (X : Cx) : List (ClassId × FieldType) := [(X.2.2.2.1 0, .int), (X.2.2.2.1 1, .long), (X.2.2.2.1 2, .byte), (X.2.2.2.1 3, .boolean), (X.2.2.2.1 4, .object "HandTongue$House")]
def Anew (X : Cx) : Nat → Prop := fun q => X.1.size ≤ q
/-- the words of the text that the class knows: place in the pool, text, bytes -/
def strL : List (Nat × String × List Int) := [(39, "if", [105, 102]), (45, "do", [100, 111]), (47, "or", [111, 114]), (49, "and", [97, 110, 100]), (51, "not", [110, 111, 116]), (53, "set", [115, 101, 116]), (55, "end", [101, 110, 100]), (57, "drop", [100, 114, 111, 112]), (59, "turn", [116, 117, 114, 110]), (61, "begin", [98, 101, 103, 105, 110]), (63, "shape", [115, 104, 97, 112, 101]), (65, "place", [112, 108, 97, 99, 101]), (67, "other", [111, 116, 104, 101, 114]), (69, "states", [115, 116, 97, 116, 101, 115])]
def stA (i : Nat) : Nat × String × List Int := strL.getD i (0, "", [])
/-- what the tables say, at a state's own machine -/
def Ev (X : Cx) (U : State) : Prop :=
  va_K (X.2.1, X.2.2.1) clsL (tysX X) U ∧ (∀ w ∈ nstL, va_Nw w U) ∧ va_AO "HandTongue$House" U ∧
  (∀ k, (k = 1001 ∨ k = 1002 ∨ k = 1003) → va_Z "HandTongue$Book" (stN k) "[I" (.ref (X.2.2.2.2.1 k)) (Anew X) U X.1 ∧ va_T .int (X.2.2.2.2.1 k) 4 (fun j => .int (i3 (stv k j))) (Anew X) U X.1) ∧
  (va_X (X.2.2.2.2.1 1000) X.2.2.2.2.2.1 (fun j => i3 (X.2.2.2.2.2.2 j)) U X.1 ∧ X.2.2.2.2.1 1000 < X.1.size ∧ X.2.2.2.2.2.1 ≤ 4096 ∧ ∀ j, ir (X.2.2.2.2.2.2 j)) ∧
  (vk_S 14 (strL.map fun q => q.2.2.length) (strL.map fun q => q.2.2.map i3) (fun i => X.2.2.2.2.1 (1010 + i)) (fun i => X.2.2.2.2.1 (1040 + i)) (Anew X) U X.1 ∧ (∀ i, i < 14 → vk_R "HandTongue$Tape" (stA i).1 (stA i).2.1 (X.2.2.2.2.1 (1010 + i)) U)) ∧
  (va_Z "java/lang/String" "COMPACT_STRINGS" "Z" (.int 1) (Anew X) U X.1 ∧ ∃ v : Value, (v = .null ∨ ∃ a, v = .ref a) ∧ va_Z "jdk/internal/util/Preconditions" "SIOOBE_FORMATTER" "Ljava/util/function/BiFunction;" v (Anew X) U X.1)
theorem Ev.warm {X : Cx} {s U : State} (hW : s.WarmedH U.vm) (h : Ev X s) : Ev X U := by
  obtain ⟨h1, h2, h3, h4, h5, h6, h7, v, hv, h8⟩ := h
  refine ⟨h1.moved hW.alike, fun w hw => ?_, h3.moved hW.alike, fun k hk => ⟨(h4 k hk).1.moved hW.alike, (h4 k hk).2.moved hW.alike⟩, ⟨h5.1.moved hW.alike, h5.2⟩, ⟨h6.1.moved hW.alike, fun i hi => (h6.2 i hi).warm hW⟩, h7.moved hW.alike, v, hv, h8.moved hW.alike⟩
  have hz := h2 w hw
  simp only [nstL, List.mem_cons, List.not_mem_nil, or_false] at hw
  rcases hw with rfl | rfl | rfl | rfl | rfl | rfl | rfl | rfl | rfl | rfl | rfl | rfl <;> first | exact va_Nw.warmM hW hz | exact va_Nw.warmF hW hz
theorem Ev.same {X : Cx} {s U : State} (hv : U.vm = s.vm) (h : Ev X s) : Ev X U := by
  have hA : s.vm.Alike U.vm := by rw [hv]; exact Vm.Alike.refl _
  obtain ⟨h1, h2, h3, h4, h5, h6, h7, v, hv', h8⟩ := h
  refine ⟨h1.moved hA, fun w hw => ?_, h3.moved hA, fun k hk => ⟨(h4 k hk).1.moved hA, (h4 k hk).2.moved hA⟩, ⟨h5.1.moved hA, h5.2⟩, ⟨h6.1.moved hA, fun i hi => (h6.2 i hi).same hv⟩, h7.moved hA, v, hv', h8.moved hA⟩
  have hz := h2 w hw
  simp only [nstL, List.mem_cons, List.not_mem_nil, or_false] at hw
  rcases hw with rfl | rfl | rfl | rfl | rfl | rfl | rfl | rfl | rfl | rfl | rfl | rfl <;> exact va_Nw.same rfl hv.symm hz
/-! locals -/
def okL (X : Cx) (L : List (Option AV)) (n : Nat) (ls : Array Slot) (nL : Nat) : Prop := L.length = nL ∧ (∀ (i : Nat) (v : AV), L[i]? = some (some v) → okv n v) ∧ ∃ lv, lv_has ls nL lv ∧ ∀ (i : Nat) (v : AV), L[i]? = some (some v) → (i, rv X v) ∈ lv
def okS (n : Nat) (S : List AV) : Prop := ∀ v ∈ S, okv n v
def gL : List (Option AV) → Nat → Option AV
  | [], _ => none
  | x :: _, 0 => x
  | _ :: t, n + 1 => gL t n
theorem gL_get : ∀ (L : List (Option AV)) (i : Nat) (v : AV), gL L i = some v → L[i]? = some (some v)
  | [], _, _, h => by simp [gL] at h
  | x :: _, 0, v, h => by simp [gL] at h; simp [h]
  | _ :: t, n + 1, v, h => by simpa using gL_get t n v (by simpa [gL] using h)
def kll (x : Option AV) : Option AV := match x with
  | some (.inr (.inl _)) => none
  | y => y
def setL : List (Option AV) → Nat → AV → List (Option AV)
  | [], _, _ => []
  | _ :: t, 0, v => some v :: t
  | x :: t, 1, v => kll x :: setL t 0 v
  | x :: t, n + 2, v => x :: setL t (n + 1) v
def setL2 : List (Option AV) → Nat → AV → List (Option AV)
  | [], _, _ => []
  | _ :: _ :: t, 0, v => some v :: none :: t
  | _ :: [], 0, v => some v :: []
  | x :: t, 1, v => kll x :: setL2 t 0 v
  | x :: t, n + 2, v => x :: setL2 t (n + 1) v
theorem setL_len : ∀ (L : List (Option AV)) (i : Nat) (v : AV), (setL L i v).length = L.length
  | [], _, _ => rfl
  | _ :: _, 0, _ => rfl
  | _ :: t, 1, v => by simp [setL, setL_len t 0 v]
  | _ :: t, n + 2, v => by simp [setL, setL_len t (n + 1) v]
theorem setL2_len : ∀ (L : List (Option AV)) (i : Nat) (v : AV), (setL2 L i v).length = L.length
  | [], _, _ => rfl
  | _ :: [], 0, _ => rfl
  | _ :: _ :: _, 0, _ => rfl
  | _ :: t, 1, v => by simp [setL2, setL2_len t 0 v]
  | _ :: t, n + 2, v => by simp [setL2, setL2_len t (n + 1) v]
theorem kll_some {x : Option AV} {v : AV} (h : kll x = some v) : x = some v ∧ cg v = 1 := by
  rcases x with _ | (z | z | r) <;> simp [kll] at h <;> subst h <;> simp [cg]
theorem setL_get : ∀ (L : List (Option AV)) (i : Nat) (v : AV) (j : Nat) (w : AV), (setL L i v)[j]? = some (some w) → (j = i ∧ w = v) ∨ (j ≠ i ∧ L[j]? = some (some w) ∧ (j + 1 = i → cg w = 1))
  | [], _, _, j, w, h => by simp [setL] at h
  | x :: t, 0, v, j, w, h => by
    rcases j with _ | j
    · simp [setL] at h; exact Or.inl ⟨rfl, h.symm⟩
    · simp [setL] at h; exact Or.inr ⟨by omega, by simpa using h, by omega⟩
  | x :: t, 1, v, j, w, h => by
    rcases j with _ | j
    · simp [setL] at h
      obtain ⟨h1, h2⟩ := kll_some h
      exact Or.inr ⟨by omega, by simp [h1], fun _ => h2⟩
    · simp only [setL, List.getElem?_cons_succ] at h
      rcases setL_get t 0 v j w h with ⟨h1, h2⟩ | ⟨h1, h2, h3⟩
      · exact Or.inl ⟨by omega, h2⟩
      · exact Or.inr ⟨by omega, by simpa using h2, by omega⟩
  | x :: t, n + 2, v, j, w, h => by
    rcases j with _ | j
    · simp [setL] at h
      exact Or.inr ⟨by omega, by simp [h], by omega⟩
    · simp only [setL, List.getElem?_cons_succ] at h
      rcases setL_get t (n + 1) v j w h with ⟨h1, h2⟩ | ⟨h1, h2, h3⟩
      · exact Or.inl ⟨by omega, h2⟩
      · exact Or.inr ⟨by omega, by simpa using h2, fun q => h3 (by omega)⟩
theorem setL2_get : ∀ (L : List (Option AV)) (i : Nat) (v : AV) (j : Nat) (w : AV), (setL2 L i v)[j]? = some (some w) → (j = i ∧ w = v) ∨ (j ≠ i ∧ j ≠ i + 1 ∧ L[j]? = some (some w) ∧ (j + 1 = i → cg w = 1))
  | [], _, _, j, w, h => by simp [setL2] at h
  | _ :: [], 0, v, j, w, h => by
    rcases j with _ | j
    · simp [setL2] at h; exact Or.inl ⟨rfl, h.symm⟩
    · simp [setL2] at h
  | _ :: _ :: t, 0, v, j, w, h => by
    rcases j with _ | _ | j
    · simp [setL2] at h; exact Or.inl ⟨rfl, h.symm⟩
    · simp [setL2] at h
    · simp [setL2] at h; exact Or.inr ⟨by omega, by omega, by simpa using h, by omega⟩
  | x :: t, 1, v, j, w, h => by
    rcases j with _ | j
    · simp [setL2] at h
      obtain ⟨h1, h2⟩ := kll_some h
      exact Or.inr ⟨by omega, by omega, by simp [h1], fun _ => h2⟩
    · simp only [setL2, List.getElem?_cons_succ] at h
      rcases setL2_get t 0 v j w h with ⟨h1, h2⟩ | ⟨h1, h1', h2, h3⟩
      · exact Or.inl ⟨by omega, h2⟩
      · exact Or.inr ⟨by omega, by omega, by simpa using h2, by omega⟩
  | x :: t, n + 2, v, j, w, h => by
    rcases j with _ | j
    · simp [setL2] at h
      exact Or.inr ⟨by omega, by omega, by simp [h], by omega⟩
    · simp only [setL2, List.getElem?_cons_succ] at h
      rcases setL2_get t (n + 1) v j w h with ⟨h1, h2⟩ | ⟨h1, h1', h2, h3⟩
      · exact Or.inl ⟨by omega, h2⟩
      · exact Or.inr ⟨by omega, by omega, by simpa using h2, fun q => h3 (by omega)⟩
theorem okL_at {X : Cx} {L : List (Option AV)} {n nL i : Nat} {ls : Array Slot} {v : AV} (h : okL X L n ls nL) (hg : gL L i = some v) : ls[i]? = some (.val (rv X v)) := by
  obtain ⟨-, -, lv, h1, h2⟩ := h
  exact h1.2.2 _ (h2 i v (gL_get L i v hg))
theorem okL_ok {X : Cx} {L : List (Option AV)} {n nL i : Nat} {ls : Array Slot} {v : AV} (h : okL X L n ls nL) (hg : gL L i = some v) : okv n v := h.2.1 i v (gL_get L i v hg)
theorem okL_mono {X : Cx} {L : List (Option AV)} {n n' nL : Nat} {ls : Array Slot} (hn : n ≤ n') (h : okL X L n ls nL) : okL X L n' ls nL := ⟨h.1, fun i v hv => okv_mono hn (h.2.1 i v hv), h.2.2⟩
