/-! the judgement: from this point of method y, with these locals, this stack, this memory, the method comes to its end with Q -/
def iShl (a b : Int) : Int := (i3 a <<< (i3 b &&& 31)).toInt
def iShr (a b : Int) : Int := (i3 a >>> (i3 b &&& 31)).toInt
def Cn (X : Cx) (y d b : Nat) (p : Program) (R : Room) (s : State) (m : MethodId) (args : Array Value) (meth : Method) (c : Code) (na0 : Nat) : Prop :=
  p.tables.exec = Jvm.exec ∧ c.code = m_bt y ∧ meth.sig.returnType = m_rt y ∧ c.maxLocals = m_ml y ∧ s.vm.findClass (clN (m_ow y)) = some m.cls ∧ (∀ w ∈ Wds, w.before args s = true) ∧ meth.locks = false ∧ ((m_nm y).name = "<init>" → meth.name = "<init>") ∧ d ≤ R.frames ∧ 64 * d ≤ R.locals ∧ b - na0 ≤ R.cells ∧ nsu b - nsu na0 ≤ R.slots ∧ Ev X s
def rti (y : Nat) (r : Option AV) (i : Instr) : Prop := match r with
  | none => i = .return_ ∧ m_rt y = none
  | some (.inl z) => i = .ireturn ∧ (m_rt y = some .int ∨ (m_rt y = some .boolean ∧ (z = 0 ∨ z = 1)))
  | some (.inr (.inl _)) => i = .lreturn ∧ m_rt y = some .long
  | some (.inr (.inr _)) => False
def okr (n : Nat) (r : Option AV) : Prop := ∀ v, r = some v → okv n v
def Rt (X : Cx) (y b : Nat) (p : Program) (l : Launch) (e : Env) (R : Room) (s : State) (m : MethodId) (args : Array Value) (below : List Frame) (meth : Method) (c : Code) (Qf : State → Prop) (na0 : Nat) (Q : Option AV → Mem → Prop) : Prop :=
  ∀ (r : Option AV) (M : Mem) (H : Heap) (locs : List Loc) (pc : Nat) (ls : Array Slot) (i : Instr), Q r M → okM X M → okr M.2.2 r → Wd X M H → (∀ q ∈ locs, X.1.size ≤ q.base) → M.2.2 = b → rti y r i → decode (m_bt y) pc = .ok (i, 1) →
    W p l e R s m args below meth c H locs (b - na0) (nsu b - nsu na0) Qf (F0 m pc ls (r.toList.map (rv X)))
def WP (y d b pc : Nat) (L : List (Option AV)) (S : List AV) (M : Mem) (Q : Option AV → Mem → Prop) : Prop :=
  ∀ (X : Cx) (p : Program) (l : Launch) (e : Env) (R : Room) (s : State) (m : MethodId) (args : Array Value) (below : List Frame) (meth : Method) (c : Code) (H : Heap) (locs : List Loc) (Qf : State → Prop) (ls : Array Slot) (na0 : Nat),
    Cn X y d b p R s m args meth c na0 → okM X M → okS M.2.2 S → okL X L M.2.2 ls (m_ml y) → Wd X M H → (∀ q ∈ locs, X.1.size ≤ q.base) → na0 ≤ M.2.2 ∧ M.2.2 ≤ b →
    Rt X y b p l e R s m args below meth c Qf na0 Q →
    W p l e R s m args below meth c H locs (M.2.2 - na0) (nsu M.2.2 - nsu na0) Qf (F0 m pc ls (S.map (rv X)))
theorem okS_cons {n : Nat} {v : AV} {S : List AV} (h : okv n v) (hS : okS n S) : okS n (v :: S) := fun w hw => by
  rcases List.mem_cons.mp hw with rfl | h1
  · exact h
  · exact hS w h1
theorem okS_tl {n : Nat} {v : AV} {S : List AV} (h : okS n (v :: S)) : okS n S := fun w hw => h w (List.mem_cons_of_mem _ hw)
theorem okS_hd {n : Nat} {v : AV} {S : List AV} (h : okS n (v :: S)) : okv n v := h v List.mem_cons_self
theorem okS_hd2 {n : Nat} {v w : AV} {S : List AV} (h : okS n (w :: v :: S)) : okv n v := okS_hd (okS_tl h)
theorem okS_mono {n n' : Nat} (hn : n ≤ n') {S : List AV} (h : okS n S) : okS n' S := fun v hv => okv_mono hn (h v hv)
theorem okL_set {X : Cx} {L : List (Option AV)} {n nL i : Nat} {ls' : Array Slot} {v : AV} {lv : List (Nat × Value)} (hlen : L.length = nL) (hok : ∀ (i : Nat) (v : AV), L[i]? = some (some v) → okv n v) (h2 : ∀ (i : Nat) (v : AV), L[i]? = some (some v) → (i, rv X v) ∈ lv) (hv : okv n v)
    (h : lv_has ls' nL ((i, rv X v) :: lv.filter (fun q => !(q.1 == i) && !(q.1 + 1 == i && q.2.category == 2)))) : okL X (setL L i v) n ls' nL := by
  refine ⟨by rw [setL_len]; exact hlen, fun j w hj => ?_, _, h, fun j w hj => ?_⟩
  · rcases setL_get L i v j w hj with ⟨-, rfl⟩ | ⟨-, h3, -⟩
    · exact hv
    · exact hok j w h3
  · rcases setL_get L i v j w hj with ⟨rfl, rfl⟩ | ⟨h3, h4, h5⟩
    · exact List.mem_cons_self
    · refine List.mem_cons_of_mem _ (List.mem_filter.mpr ⟨h2 j w h4, ?_⟩)
      have e1 : (j == i) = false := by simpa using h3
      simp only [e1, Bool.not_false, Bool.true_and, Bool.not_eq_true', Bool.and_eq_false_iff]
      by_cases h6 : j + 1 = i
      · right; rw [cg_rv, h5 h6]; rfl
      · left; simpa using h6
theorem okL_set2 {X : Cx} {L : List (Option AV)} {n nL i : Nat} {ls' : Array Slot} {v : AV} {lv : List (Nat × Value)} (hlen : L.length = nL) (hok : ∀ (i : Nat) (v : AV), L[i]? = some (some v) → okv n v) (h2 : ∀ (i : Nat) (v : AV), L[i]? = some (some v) → (i, rv X v) ∈ lv) (hv : okv n v)
    (h : lv_has ls' nL ((i, rv X v) :: lv.filter (fun q => !(q.1 == i) && (!(q.1 == i + 1) && !(q.1 + 1 == i && q.2.category == 2))))) : okL X (setL2 L i v) n ls' nL := by
  refine ⟨by rw [setL2_len]; exact hlen, fun j w hj => ?_, _, h, fun j w hj => ?_⟩
  · rcases setL2_get L i v j w hj with ⟨-, rfl⟩ | ⟨-, -, h3, -⟩
    · exact hv
    · exact hok j w h3
  · rcases setL2_get L i v j w hj with ⟨rfl, rfl⟩ | ⟨h3, h3', h4, h5⟩
    · exact List.mem_cons_self
    · refine List.mem_cons_of_mem _ (List.mem_filter.mpr ⟨h2 j w h4, ?_⟩)
      have e1 : (j == i) = false := by simpa using h3
      have e2 : (j == i + 1) = false := by simpa using h3'
      simp only [e1, e2, Bool.not_false, Bool.true_and, Bool.not_eq_true', Bool.and_eq_false_iff]
      by_cases h6 : j + 1 = i
      · right; rw [cg_rv, h5 h6]; rfl
      · left; simpa using h6
theorem i3_rem {x z : Int} (hx : ir x) (hz : ir z) : i3 x - i3 x / i3 z * i3 z = i3 (wr (x.tmod z)) := by
  rw [i3_div hx hz, i3_wr, i3_mul, i3_wr, i3_sub, Int.tmod_def, Int.mul_comm z]
theorem i6_rem {x z : Int} (hx : il x) (hz : il z) : i6 x - i6 x / i6 z * i6 z = i6 (wl (x.tmod z)) := by
  rw [i6_div hx hz, i6_wl, i6_mul, i6_wl, i6_sub, Int.tmod_def, Int.mul_comm z]
section SO
variable {y d b pc : Nat} {L : List (Option AV)} {S : List AV} {M : Mem} {Q : Option AV → Mem → Prop}
theorem so_iconst {n : Int} (hd : decode (m_bt y) pc = .ok (.iconst n, 1)) (hn0 : ir n) (h : WP y d b (pc + 1) L (vI n :: S) M Q) : WP y d b pc L S M Q := by
  intro X p l e R s m args below meth c H locs Qf ls na0 hC hM hS hL hW hl hn hR
  exact lv_iconst hC.1 hC.2.1 hd rfl (h X p l e R s m args below meth c H locs Qf ls na0 hC hM (okS_cons (v := vI n) hn0 hS) hL hW hl hn hR)
theorem so_bipush {n : Int} (hd : decode (m_bt y) pc = .ok (.bipush n, 2)) (hn0 : ir n) (he : (Int8.ofInt n).toInt32 = i3 n) (h : WP y d b (pc + 2) L (vI n :: S) M Q) : WP y d b pc L S M Q := by
  intro X p l e R s m args below meth c H locs Qf ls na0 hC hM hS hL hW hl hn hR
  exact lv_bipush hC.1 hC.2.1 hd he (h X p l e R s m args below meth c H locs Qf ls na0 hC hM (okS_cons (v := vI n) hn0 hS) hL hW hl hn hR)
theorem so_sipush {n : Int} (hd : decode (m_bt y) pc = .ok (.sipush n, 3)) (hn0 : ir n) (he : (Int16.ofInt n).toInt32 = i3 n) (h : WP y d b (pc + 3) L (vI n :: S) M Q) : WP y d b pc L S M Q := by
  intro X p l e R s m args below meth c H locs Qf ls na0 hC hM hS hL hW hl hn hR
  exact lv_sipush hC.1 hC.2.1 hd he (h X p l e R s m args below meth c H locs Qf ls na0 hC hM (okS_cons (v := vI n) hn0 hS) hL hW hl hn hR)
theorem so_lconst {n : Fin 2} (hd : decode (m_bt y) pc = .ok (.lconst n, 1)) (h : WP y d b (pc + 1) L (vL (n.val : Int) :: S) M Q) : WP y d b pc L S M Q := by
  intro X p l e R s m args below meth c H locs Qf ls na0 hC hM hS hL hW hl hn hR
  refine lv_lconst hC.1 hC.2.1 hd (v := i6 (n.val : Int)) (by rcases (show n = 0 ∨ n = 1 by omega) with rfl | rfl <;> rfl) (h X p l e R s m args below meth c H locs Qf ls na0 hC hM (okS_cons (v := vL (n.val : Int)) ?_ hS) hL hW hl hn hR)
  show il _
  unfold il
  omega
theorem so_iload_n {k : Fin 4} {x : Int} (hd : decode (m_bt y) pc = .ok (.iload_n k, 1)) (hg : gL L k.val = some (vI x)) (h : WP y d b (pc + 1) L (vI x :: S) M Q) : WP y d b pc L S M Q := by
  intro X p l e R s m args below meth c H locs Qf ls na0 hC hM hS hL hW hl hn hR
  exact lv_iload_n hC.1 hC.2.1 hd rfl (okL_at hL hg) (h X p l e R s m args below meth c H locs Qf ls na0 hC hM (okS_cons (okL_ok hL hg) hS) hL hW hl hn hR)
theorem so_iload {k : Nat} {x : Int} (hd : decode (m_bt y) pc = .ok (.iload k, 2)) (hg : gL L k = some (vI x)) (h : WP y d b (pc + 2) L (vI x :: S) M Q) : WP y d b pc L S M Q := by
  intro X p l e R s m args below meth c H locs Qf ls na0 hC hM hS hL hW hl hn hR
  exact lv_iload hC.1 hC.2.1 hd (okL_at hL hg) (h X p l e R s m args below meth c H locs Qf ls na0 hC hM (okS_cons (okL_ok hL hg) hS) hL hW hl hn hR)
theorem so_lload_n {k : Fin 4} {x : Int} (hd : decode (m_bt y) pc = .ok (.lload_n k, 1)) (hg : gL L k.val = some (vL x)) (h : WP y d b (pc + 1) L (vL x :: S) M Q) : WP y d b pc L S M Q := by
  intro X p l e R s m args below meth c H locs Qf ls na0 hC hM hS hL hW hl hn hR
  exact lv_lload_n hC.1 hC.2.1 hd rfl (okL_at hL hg) (h X p l e R s m args below meth c H locs Qf ls na0 hC hM (okS_cons (okL_ok hL hg) hS) hL hW hl hn hR)
theorem so_lload {k : Nat} {x : Int} (hd : decode (m_bt y) pc = .ok (.lload k, 2)) (hg : gL L k = some (vL x)) (h : WP y d b (pc + 2) L (vL x :: S) M Q) : WP y d b pc L S M Q := by
  intro X p l e R s m args below meth c H locs Qf ls na0 hC hM hS hL hW hl hn hR
  exact lv_lload hC.1 hC.2.1 hd (okL_at hL hg) (h X p l e R s m args below meth c H locs Qf ls na0 hC hM (okS_cons (okL_ok hL hg) hS) hL hW hl hn hR)
theorem so_aload_n {k : Fin 4} {x : Nat} (hd : decode (m_bt y) pc = .ok (.aload_n k, 1)) (hg : gL L k.val = some (vR (some x))) (h : WP y d b (pc + 1) L (vR (some x) :: S) M Q) : WP y d b pc L S M Q := by
  intro X p l e R s m args below meth c H locs Qf ls na0 hC hM hS hL hW hl hn hR
  exact lv_aload_n hC.1 hC.2.1 hd rfl (okL_at hL hg) (h X p l e R s m args below meth c H locs Qf ls na0 hC hM (okS_cons (okL_ok hL hg) hS) hL hW hl hn hR)
theorem so_aload {k : Nat} {x : Nat} (hd : decode (m_bt y) pc = .ok (.aload k, 2)) (hg : gL L k = some (vR (some x))) (h : WP y d b (pc + 2) L (vR (some x) :: S) M Q) : WP y d b pc L S M Q := by
  intro X p l e R s m args below meth c H locs Qf ls na0 hC hM hS hL hW hl hn hR
  exact lv_aload hC.1 hC.2.1 hd (okL_at hL hg) (h X p l e R s m args below meth c H locs Qf ls na0 hC hM (okS_cons (okL_ok hL hg) hS) hL hW hl hn hR)
theorem so_istore_n {k : Fin 4} {x : Int} (hd : decode (m_bt y) pc = .ok (.istore_n k, 1)) (hi : k.val < m_ml y) (h : WP y d b (pc + 1) (setL L k.val (vI x)) S M Q) : WP y d b pc L (vI x :: S) M Q := by
  intro X p l e R s m args below meth c H locs Qf ls na0 hC hM hS hL hW hl hn hR
  obtain ⟨h1, h2, lv, h3, h4⟩ := hL
  refine lv_istore_n hC.1 hC.2.1 hd rfl h3 hi rfl (fun ls' hl' => ?_)
  exact (h X p l e R s m args below meth c H locs Qf ls' na0 hC hM (okS_tl hS) (okL_set h1 h2 h4 (okS_hd hS) hl') hW hl hn hR)
theorem so_istore {k : Nat} {x : Int} (hd : decode (m_bt y) pc = .ok (.istore k, 2)) (hi : k < m_ml y) (h : WP y d b (pc + 2) (setL L k (vI x)) S M Q) : WP y d b pc L (vI x :: S) M Q := by
  intro X p l e R s m args below meth c H locs Qf ls na0 hC hM hS hL hW hl hn hR
  obtain ⟨h1, h2, lv, h3, h4⟩ := hL
  refine lv_istore hC.1 hC.2.1 hd h3 hi rfl (fun ls' hl' => ?_)
  exact (h X p l e R s m args below meth c H locs Qf ls' na0 hC hM (okS_tl hS) (okL_set h1 h2 h4 (okS_hd hS) hl') hW hl hn hR)
theorem so_lstore_n {k : Fin 4} {x : Int} (hd : decode (m_bt y) pc = .ok (.lstore_n k, 1)) (hi : k.val + 1 < m_ml y) (h : WP y d b (pc + 1) (setL2 L k.val (vL x)) S M Q) : WP y d b pc L (vL x :: S) M Q := by
  intro X p l e R s m args below meth c H locs Qf ls na0 hC hM hS hL hW hl hn hR
  obtain ⟨h1, h2, lv, h3, h4⟩ := hL
  refine lv_lstore_n hC.1 hC.2.1 hd rfl h3 hi rfl (fun ls' hl' => ?_)
  exact (h X p l e R s m args below meth c H locs Qf ls' na0 hC hM (okS_tl hS) (okL_set2 h1 h2 h4 (okS_hd hS) hl') hW hl hn hR)
theorem so_lstore {k : Nat} {x : Int} (hd : decode (m_bt y) pc = .ok (.lstore k, 2)) (hi : k + 1 < m_ml y) (h : WP y d b (pc + 2) (setL2 L k (vL x)) S M Q) : WP y d b pc L (vL x :: S) M Q := by
  intro X p l e R s m args below meth c H locs Qf ls na0 hC hM hS hL hW hl hn hR
  obtain ⟨h1, h2, lv, h3, h4⟩ := hL
  refine lv_lstore hC.1 hC.2.1 hd h3 hi rfl (fun ls' hl' => ?_)
  exact (h X p l e R s m args below meth c H locs Qf ls' na0 hC hM (okS_tl hS) (okL_set2 h1 h2 h4 (okS_hd hS) hl') hW hl hn hR)
theorem so_astore_n {k : Fin 4} {x : Nat} (hd : decode (m_bt y) pc = .ok (.astore_n k, 1)) (hi : k.val < m_ml y) (h : WP y d b (pc + 1) (setL L k.val (vR (some x))) S M Q) : WP y d b pc L (vR (some x) :: S) M Q := by
  intro X p l e R s m args below meth c H locs Qf ls na0 hC hM hS hL hW hl hn hR
  obtain ⟨h1, h2, lv, h3, h4⟩ := hL
  refine lv_astore_n hC.1 hC.2.1 hd rfl h3 hi rfl (fun ls' hl' => ?_)
  exact (h X p l e R s m args below meth c H locs Qf ls' na0 hC hM (okS_tl hS) (okL_set h1 h2 h4 (okS_hd hS) hl') hW hl hn hR)
theorem so_astore {k : Nat} {x : Nat} (hd : decode (m_bt y) pc = .ok (.astore k, 2)) (hi : k < m_ml y) (h : WP y d b (pc + 2) (setL L k (vR (some x))) S M Q) : WP y d b pc L (vR (some x) :: S) M Q := by
  intro X p l e R s m args below meth c H locs Qf ls na0 hC hM hS hL hW hl hn hR
  obtain ⟨h1, h2, lv, h3, h4⟩ := hL
  refine lv_astore hC.1 hC.2.1 hd h3 hi rfl (fun ls' hl' => ?_)
  exact (h X p l e R s m args below meth c H locs Qf ls' na0 hC hM (okS_tl hS) (okL_set h1 h2 h4 (okS_hd hS) hl') hW hl hn hR)
theorem so_iinc {k : Nat} {n x : Int} (hd : decode (m_bt y) pc = .ok (.iinc k n, 3)) (hg : gL L k = some (vI x)) (h : WP y d b (pc + 3) (setL L k (vI (wr (x + n)))) S M Q) : WP y d b pc L S M Q := by
  intro X p l e R s m args below meth c H locs Qf ls na0 hC hM hS hL hW hl hn hR
  obtain ⟨h1, h2, lv, h3, h4⟩ := hL
  have hm := h4 k _ (gL_get L k _ hg)
  obtain ⟨j, hj, hje⟩ := List.getElem_of_mem hm
  have hlt : k < m_ml y := by rw [← h1]; exact (List.getElem?_eq_some_iff.mp (gL_get L k _ hg)).1
  refine lv_iinc (k := j) (v := i3 (wr (x + n))) hC.1 hC.2.1 hd h3 (by rw [List.getElem?_eq_getElem hj, hje]; rfl) (i3_add x n) hlt rfl (fun ls' hl' => ?_)
  exact (h X p l e R s m args below meth c H locs Qf ls' na0 hC hM hS (okL_set h1 h2 h4 (v := vI (wr (x + n))) (ir_wr _) hl') hW hl hn hR)
theorem so_iadd {x z : Int} (hd : decode (m_bt y) pc = .ok (.iadd, 1)) (h : WP y d b (pc + 1) L (vI (wr (x + z)) :: S) M Q) : WP y d b pc L (vI z :: vI x :: S) M Q := by
  intro X p l e R s m args below meth c H locs Qf ls na0 hC hM hS hL hW hl hn hR
  refine lv_iadd hC.1 hC.2.1 hd ?_
  rw [i3_add]
  exact (h X p l e R s m args below meth c H locs Qf ls na0 hC hM (okS_cons (v := vI (wr (x + z))) (ir_wr _) (okS_tl (okS_tl hS))) hL hW hl hn hR)
theorem so_isub {x z : Int} (hd : decode (m_bt y) pc = .ok (.isub, 1)) (h : WP y d b (pc + 1) L (vI (wr (x - z)) :: S) M Q) : WP y d b pc L (vI z :: vI x :: S) M Q := by
  intro X p l e R s m args below meth c H locs Qf ls na0 hC hM hS hL hW hl hn hR
  refine lv_isub hC.1 hC.2.1 hd ?_
  rw [i3_sub]
  exact (h X p l e R s m args below meth c H locs Qf ls na0 hC hM (okS_cons (v := vI (wr (x - z))) (ir_wr _) (okS_tl (okS_tl hS))) hL hW hl hn hR)
theorem so_imul {x z : Int} (hd : decode (m_bt y) pc = .ok (.imul, 1)) (h : WP y d b (pc + 1) L (vI (wr (x * z)) :: S) M Q) : WP y d b pc L (vI z :: vI x :: S) M Q := by
  intro X p l e R s m args below meth c H locs Qf ls na0 hC hM hS hL hW hl hn hR
  refine lv_imul hC.1 hC.2.1 hd ?_
  rw [i3_mul]
  exact (h X p l e R s m args below meth c H locs Qf ls na0 hC hM (okS_cons (v := vI (wr (x * z))) (ir_wr _) (okS_tl (okS_tl hS))) hL hW hl hn hR)
theorem so_idiv {x z : Int} (hd : decode (m_bt y) pc = .ok (.idiv, 1)) (hz : z ≠ 0) (h : WP y d b (pc + 1) L (vI (wr (x.tdiv z)) :: S) M Q) : WP y d b pc L (vI z :: vI x :: S) M Q := by
  intro X p l e R s m args below meth c H locs Qf ls na0 hC hM hS hL hW hl hn hR
  have hz1 : ir z := okS_hd hS
  have hx1 : ir x := okS_hd2 hS
  refine lv_idiv hC.1 hC.2.1 hd (fun q => hz ((i3_eqi hz1 ir0).mp q)) ?_
  rw [i3_div hx1 hz1]
  exact (h X p l e R s m args below meth c H locs Qf ls na0 hC hM (okS_cons (v := vI (wr (x.tdiv z))) (ir_wr _) (okS_tl (okS_tl hS))) hL hW hl hn hR)
theorem so_irem {x z : Int} (hd : decode (m_bt y) pc = .ok (.irem, 1)) (hz : z ≠ 0) (h : WP y d b (pc + 1) L (vI (wr (x.tmod z)) :: S) M Q) : WP y d b pc L (vI z :: vI x :: S) M Q := by
  intro X p l e R s m args below meth c H locs Qf ls na0 hC hM hS hL hW hl hn hR
  have hz1 : ir z := okS_hd hS
  have hx1 : ir x := okS_hd2 hS
  refine lv_irem hC.1 hC.2.1 hd (fun q => hz ((i3_eqi hz1 ir0).mp q)) ?_
  rw [i3_rem hx1 hz1]
  exact (h X p l e R s m args below meth c H locs Qf ls na0 hC hM (okS_cons (v := vI (wr (x.tmod z))) (ir_wr _) (okS_tl (okS_tl hS))) hL hW hl hn hR)
theorem so_iand {x z : Int} (hd : decode (m_bt y) pc = .ok (.iand, 1)) (h : WP y d b (pc + 1) L (vI (bAnd x z) :: S) M Q) : WP y d b pc L (vI z :: vI x :: S) M Q := by
  intro X p l e R s m args below meth c H locs Qf ls na0 hC hM hS hL hW hl hn hR
  refine lv_iand hC.1 hC.2.1 hd ?_
  have hk := (h X p l e R s m args below meth c H locs Qf ls na0 hC hM (okS_cons (v := vI (bAnd x z)) (ir_toInt _) (okS_tl (okS_tl hS))) hL hW hl hn hR)
  simp only [List.map_cons, rv, bAnd, ← i3_of] at hk
  exact hk
theorem so_ior {x z : Int} (hd : decode (m_bt y) pc = .ok (.ior, 1)) (h : WP y d b (pc + 1) L (vI (bOr x z) :: S) M Q) : WP y d b pc L (vI z :: vI x :: S) M Q := by
  intro X p l e R s m args below meth c H locs Qf ls na0 hC hM hS hL hW hl hn hR
  refine lv_ior hC.1 hC.2.1 hd ?_
  have hk := (h X p l e R s m args below meth c H locs Qf ls na0 hC hM (okS_cons (v := vI (bOr x z)) (ir_toInt _) (okS_tl (okS_tl hS))) hL hW hl hn hR)
  simp only [List.map_cons, rv, bOr, ← i3_of] at hk
  exact hk
theorem so_ixor {x z : Int} (hd : decode (m_bt y) pc = .ok (.ixor, 1)) (h : WP y d b (pc + 1) L (vI (bXor x z) :: S) M Q) : WP y d b pc L (vI z :: vI x :: S) M Q := by
  intro X p l e R s m args below meth c H locs Qf ls na0 hC hM hS hL hW hl hn hR
  refine lv_ixor hC.1 hC.2.1 hd ?_
  have hk := (h X p l e R s m args below meth c H locs Qf ls na0 hC hM (okS_cons (v := vI (bXor x z)) (ir_toInt _) (okS_tl (okS_tl hS))) hL hW hl hn hR)
  simp only [List.map_cons, rv, bXor, ← i3_of] at hk
  exact hk
theorem so_ishl {x z : Int} (hd : decode (m_bt y) pc = .ok (.ishl, 1)) (h : WP y d b (pc + 1) L (vI (iShl x z) :: S) M Q) : WP y d b pc L (vI z :: vI x :: S) M Q := by
  intro X p l e R s m args below meth c H locs Qf ls na0 hC hM hS hL hW hl hn hR
  refine lv_ishl hC.1 hC.2.1 hd ?_
  have hk := (h X p l e R s m args below meth c H locs Qf ls na0 hC hM (okS_cons (v := vI (iShl x z)) (ir_toInt _) (okS_tl (okS_tl hS))) hL hW hl hn hR)
  simp only [List.map_cons, rv, iShl, ← i3_of] at hk
  exact hk
theorem so_ishr {x z : Int} (hd : decode (m_bt y) pc = .ok (.ishr, 1)) (h : WP y d b (pc + 1) L (vI (iShr x z) :: S) M Q) : WP y d b pc L (vI z :: vI x :: S) M Q := by
  intro X p l e R s m args below meth c H locs Qf ls na0 hC hM hS hL hW hl hn hR
  refine lv_ishr hC.1 hC.2.1 hd ?_
  have hk := (h X p l e R s m args below meth c H locs Qf ls na0 hC hM (okS_cons (v := vI (iShr x z)) (ir_toInt _) (okS_tl (okS_tl hS))) hL hW hl hn hR)
  simp only [List.map_cons, rv, iShr, ← i3_of] at hk
  exact hk
theorem so_iushr {x z : Int} (hd : decode (m_bt y) pc = .ok (.iushr, 1)) (h : WP y d b (pc + 1) L (vI (bUshr x z) :: S) M Q) : WP y d b pc L (vI z :: vI x :: S) M Q := by
  intro X p l e R s m args below meth c H locs Qf ls na0 hC hM hS hL hW hl hn hR
  refine lv_iushr hC.1 hC.2.1 hd (v := i3 (bUshr x z)) (i3_of _) ?_
  exact (h X p l e R s m args below meth c H locs Qf ls na0 hC hM (okS_cons (v := vI (bUshr x z)) (ir_toInt _) (okS_tl (okS_tl hS))) hL hW hl hn hR)
theorem so_ineg {x : Int} (hd : decode (m_bt y) pc = .ok (.ineg, 1)) (h : WP y d b (pc + 1) L (vI (wr (-x)) :: S) M Q) : WP y d b pc L (vI x :: S) M Q := by
  intro X p l e R s m args below meth c H locs Qf ls na0 hC hM hS hL hW hl hn hR
  refine lv_ineg hC.1 hC.2.1 hd ?_
  rw [i3_neg]
  exact (h X p l e R s m args below meth c H locs Qf ls na0 hC hM (okS_cons (v := vI (wr (-x))) (ir_wr _) (okS_tl hS)) hL hW hl hn hR)
theorem so_i2b {x : Int} (hd : decode (m_bt y) pc = .ok (.i2b, 1)) (h : WP y d b (pc + 1) L (vI (b2b x) :: S) M Q) : WP y d b pc L (vI x :: S) M Q := by
  intro X p l e R s m args below meth c H locs Qf ls na0 hC hM hS hL hW hl hn hR
  refine lv_i2b hC.1 hC.2.1 hd (v := i3 (b2b x)) (i3_of _) ?_
  exact (h X p l e R s m args below meth c H locs Qf ls na0 hC hM (okS_cons (v := vI (b2b x)) (ir_toInt _) (okS_tl hS)) hL hW hl hn hR)
theorem so_i2l {x : Int} (hd : decode (m_bt y) pc = .ok (.i2l, 1)) (h : WP y d b (pc + 1) L (vL x :: S) M Q) : WP y d b pc L (vI x :: S) M Q := by
  intro X p l e R s m args below meth c H locs Qf ls na0 hC hM hS hL hW hl hn hR
  have hx1 : ir x := okS_hd hS
  have hx2 : il x := by unfold il; unfold ir at hx1; omega
  refine lv_i2l hC.1 hC.2.1 hd (v := i6 x) ?_ (h X p l e R s m args below meth c H locs Qf ls na0 hC hM (okS_cons (v := vL x) hx2 (okS_tl hS)) hL hW hl hn hR)
  exact Int64.toInt_inj.mp (by rw [Int32.toInt_toInt64, i3_val hx1, i6_val hx2])
theorem so_ladd {x z : Int} (hd : decode (m_bt y) pc = .ok (.ladd, 1)) (h : WP y d b (pc + 1) L (vL (wl (x + z)) :: S) M Q) : WP y d b pc L (vL z :: vL x :: S) M Q := by
  intro X p l e R s m args below meth c H locs Qf ls na0 hC hM hS hL hW hl hn hR
  refine lv_ladd hC.1 hC.2.1 hd ?_
  rw [i6_add]
  exact (h X p l e R s m args below meth c H locs Qf ls na0 hC hM (okS_cons (v := vL (wl (x + z))) (il_wl _) (okS_tl (okS_tl hS))) hL hW hl hn hR)
theorem so_lsub {x z : Int} (hd : decode (m_bt y) pc = .ok (.lsub, 1)) (h : WP y d b (pc + 1) L (vL (wl (x - z)) :: S) M Q) : WP y d b pc L (vL z :: vL x :: S) M Q := by
  intro X p l e R s m args below meth c H locs Qf ls na0 hC hM hS hL hW hl hn hR
  refine lv_lsub hC.1 hC.2.1 hd ?_
  rw [i6_sub]
  exact (h X p l e R s m args below meth c H locs Qf ls na0 hC hM (okS_cons (v := vL (wl (x - z))) (il_wl _) (okS_tl (okS_tl hS))) hL hW hl hn hR)
theorem so_lmul {x z : Int} (hd : decode (m_bt y) pc = .ok (.lmul, 1)) (h : WP y d b (pc + 1) L (vL (wl (x * z)) :: S) M Q) : WP y d b pc L (vL z :: vL x :: S) M Q := by
  intro X p l e R s m args below meth c H locs Qf ls na0 hC hM hS hL hW hl hn hR
  refine lv_lmul hC.1 hC.2.1 hd ?_
  rw [i6_mul]
  exact (h X p l e R s m args below meth c H locs Qf ls na0 hC hM (okS_cons (v := vL (wl (x * z))) (il_wl _) (okS_tl (okS_tl hS))) hL hW hl hn hR)
theorem il0 : il 0 := by unfold il; omega
theorem so_ldiv {x z : Int} (hd : decode (m_bt y) pc = .ok (.ldiv, 1)) (hz : z ≠ 0) (h : WP y d b (pc + 1) L (vL (wl (x.tdiv z)) :: S) M Q) : WP y d b pc L (vL z :: vL x :: S) M Q := by
  intro X p l e R s m args below meth c H locs Qf ls na0 hC hM hS hL hW hl hn hR
  have hz1 : il z := okS_hd hS
  have hx1 : il x := okS_hd2 hS
  refine lv_ldiv hC.1 hC.2.1 hd (fun q => hz (by rw [← i6_val hz1, q]; rfl)) ?_
  rw [i6_div hx1 hz1]
  exact (h X p l e R s m args below meth c H locs Qf ls na0 hC hM (okS_cons (v := vL (wl (x.tdiv z))) (il_wl _) (okS_tl (okS_tl hS))) hL hW hl hn hR)
theorem so_lrem {x z : Int} (hd : decode (m_bt y) pc = .ok (.lrem, 1)) (hz : z ≠ 0) (h : WP y d b (pc + 1) L (vL (wl (x.tmod z)) :: S) M Q) : WP y d b pc L (vL z :: vL x :: S) M Q := by
  intro X p l e R s m args below meth c H locs Qf ls na0 hC hM hS hL hW hl hn hR
  have hz1 : il z := okS_hd hS
  have hx1 : il x := okS_hd2 hS
  refine lv_lrem hC.1 hC.2.1 hd (fun q => hz (by rw [← i6_val hz1, q]; rfl)) ?_
  rw [i6_rem hx1 hz1]
  exact (h X p l e R s m args below meth c H locs Qf ls na0 hC hM (okS_cons (v := vL (wl (x.tmod z))) (il_wl _) (okS_tl (okS_tl hS))) hL hW hl hn hR)
theorem so_land {x z : Int} (hd : decode (m_bt y) pc = .ok (.land, 1)) (h : WP y d b (pc + 1) L (vL (lAnd x z) :: S) M Q) : WP y d b pc L (vL z :: vL x :: S) M Q := by
  intro X p l e R s m args below meth c H locs Qf ls na0 hC hM hS hL hW hl hn hR
  refine lv_land hC.1 hC.2.1 hd ?_
  have hk := (h X p l e R s m args below meth c H locs Qf ls na0 hC hM (okS_cons (v := vL (lAnd x z)) (il_toInt _) (okS_tl (okS_tl hS))) hL hW hl hn hR)
  simp only [List.map_cons, rv, lAnd, ← i6_of] at hk
  exact hk
theorem so_lshr {x z : Int} (hd : decode (m_bt y) pc = .ok (.lshr, 1)) (h : WP y d b (pc + 1) L (vL (lShr x z) :: S) M Q) : WP y d b pc L (vI z :: vL x :: S) M Q := by
  intro X p l e R s m args below meth c H locs Qf ls na0 hC hM hS hL hW hl hn hR
  refine lv_lshr hC.1 hC.2.1 hd (v := i6 (lShr x z)) (i6_of _) ?_
  exact (h X p l e R s m args below meth c H locs Qf ls na0 hC hM (okS_cons (v := vL (lShr x z)) (il_toInt _) (okS_tl (okS_tl hS))) hL hW hl hn hR)
def lCmp (x z : Int) : Int := if z < x then 1 else if x = z then 0 else -1
theorem so_lcmp {x z : Int} (hd : decode (m_bt y) pc = .ok (.lcmp, 1)) (h : WP y d b (pc + 1) L (vI (lCmp x z) :: S) M Q) : WP y d b pc L (vL z :: vL x :: S) M Q := by
  intro X p l e R s m args below meth c H locs Qf ls na0 hC hM hS hL hW hl hn hR
  have hz1 : il z := okS_hd hS
  have hx1 : il x := okS_hd2 hS
  refine W.lcmp hC.1 hC.2.1 hd ?_
  have he : lg_cmp (i6 x) (i6 z) = i3 (lCmp x z) := by
    have g1 : i6 x > i6 z ↔ z < x := by show i6 z < i6 x ↔ _; rw [Int64.lt_iff_toInt_lt, i6_val hx1, i6_val hz1]
    have g2 : i6 x = i6 z ↔ x = z := ⟨fun q => by rw [← i6_val hx1, ← i6_val hz1, q], fun q => by rw [q]⟩
    unfold lg_cmp lCmp
    simp only [g1, g2]
    split
    · rfl
    · split <;> rfl
  rw [he]
  refine (h X p l e R s m args below meth c H locs Qf ls na0 hC hM (okS_cons (v := vI (lCmp x z)) ?_ (okS_tl (okS_tl hS))) hL hW hl hn hR)
  show ir _
  unfold lCmp ir
  split
  · omega
  · split <;> omega
theorem so_dup {v : AV} (hd : decode (m_bt y) pc = .ok (.dup, 1)) (hv : cg v = 1) (h : WP y d b (pc + 1) L (v :: v :: S) M Q) : WP y d b pc L (v :: S) M Q := by
  intro X p l e R s m args below meth c H locs Qf ls na0 hC hM hS hL hW hl hn hR
  exact lv_dup hC.1 hC.2.1 hd (by rw [cg_rv]; exact hv) (h X p l e R s m args below meth c H locs Qf ls na0 hC hM (okS_cons (okS_hd hS) hS) hL hW hl hn hR)
theorem so_pop {v : AV} (hd : decode (m_bt y) pc = .ok (.pop, 1)) (hv : cg v = 1) (h : WP y d b (pc + 1) L S M Q) : WP y d b pc L (v :: S) M Q := by
  intro X p l e R s m args below meth c H locs Qf ls na0 hC hM hS hL hW hl hn hR
  exact lv_pop hC.1 hC.2.1 hd (by rw [cg_rv]; exact hv) (h X p l e R s m args below meth c H locs Qf ls na0 hC hM (okS_tl hS) hL hW hl hn hR)
theorem so_dup2 {v w : AV} (hd : decode (m_bt y) pc = .ok (.dup2, 1)) (hv : cg v = 1) (hw : cg w = 1) (h : WP y d b (pc + 1) L (v :: w :: v :: w :: S) M Q) : WP y d b pc L (v :: w :: S) M Q := by
  intro X p l e R s m args below meth c H locs Qf ls na0 hC hM hS hL hW hl hn hR
  exact lv_dup2_11 hC.1 hC.2.1 hd (by rw [cg_rv]; exact hv) (by rw [cg_rv]; exact hw) (h X p l e R s m args below meth c H locs Qf ls na0 hC hM (okS_cons (okS_hd hS) (okS_cons (okS_hd2 hS) hS)) hL hW hl hn hR)
def cnd (c : ClassFile.Cond) (a b : Int) : Prop := match c with
  | .eq => a = b
  | .ne => a ≠ b
  | .lt => a < b
  | .ge => b ≤ a
  | .gt => b < a
  | .le => a ≤ b
theorem so_if {cn : ClassFile.Cond} {off x : Int} {tgt : Nat} (hd : decode (m_bt y) pc = .ok (.ifCond cn off, 3)) (ht : (pc : Int) + off = (tgt : Int)) (h1 : cnd cn x 0 → WP y d b tgt L S M Q) (h2 : ¬ cnd cn x 0 → WP y d b (pc + 3) L S M Q) : WP y d b pc L (vI x :: S) M Q := by
  intro X p l e R s m args below meth c H locs Qf ls na0 hC hM hS hL hW hl hn hR
  have hx : ir x := okS_hd hS
  have g1 := fun q => h1 q X p l e R s m args below meth c H locs Qf ls na0 hC hM (okS_tl hS) hL hW hl hn hR
  have g2 := fun q => h2 q X p l e R s m args below meth c H locs Qf ls na0 hC hM (okS_tl hS) hL hW hl hn hR
  cases cn with
  | eq => exact lv_if_eq hC.1 hC.2.1 hd ht (fun q => g1 ((i3_eqi hx ir0).mp q)) (fun q => g2 (fun q0 => q (by have q := q0; exact ((i3_eqi hx ir0).mpr q))))
  | ne => exact lv_if_ne hC.1 hC.2.1 hd ht (fun q => g1 (fun z => q ((i3_eqi hx ir0).mpr z))) (fun q => g2 (fun z0 => z0 ((i3_eqi hx ir0).mp q)))
  | lt => exact lv_if_lt hC.1 hC.2.1 hd ht (fun q => g1 ((i3_lti hx ir0).mp q)) (fun q => g2 (fun q0 => q (by have q := q0; exact ((i3_lti hx ir0).mpr q))))
  | ge => exact lv_if_ge hC.1 hC.2.1 hd ht (fun q => g1 ((i3_lei ir0 hx).mp q)) (fun q => g2 (fun q0 => q (by have q := q0; exact ((i3_lei ir0 hx).mpr q))))
  | gt => exact lv_if_gt hC.1 hC.2.1 hd ht (fun q => g1 ((i3_lti ir0 hx).mp q)) (fun q => g2 (fun q0 => q (by have q := q0; exact ((i3_lti ir0 hx).mpr q))))
  | le => exact lv_if_le hC.1 hC.2.1 hd ht (fun q => g1 ((i3_lei hx ir0).mp q)) (fun q => g2 (fun q0 => q (by have q := q0; exact ((i3_lei hx ir0).mpr q))))
theorem so_icmp {cn : ClassFile.Cond} {off x z : Int} {tgt : Nat} (hd : decode (m_bt y) pc = .ok (.if_icmp cn off, 3)) (ht : (pc : Int) + off = (tgt : Int)) (h1 : cnd cn x z → WP y d b tgt L S M Q) (h2 : ¬ cnd cn x z → WP y d b (pc + 3) L S M Q) : WP y d b pc L (vI z :: vI x :: S) M Q := by
  intro X p l e R s m args below meth c H locs Qf ls na0 hC hM hS hL hW hl hn hR
  have hz : ir z := okS_hd hS
  have hx : ir x := okS_hd2 hS
  have g1 := fun q => h1 q X p l e R s m args below meth c H locs Qf ls na0 hC hM (okS_tl (okS_tl hS)) hL hW hl hn hR
  have g2 := fun q => h2 q X p l e R s m args below meth c H locs Qf ls na0 hC hM (okS_tl (okS_tl hS)) hL hW hl hn hR
  cases cn with
  | eq => exact lv_icmp_eq hC.1 hC.2.1 hd ht (fun q => g1 ((i3_eqi hx hz).mp q)) (fun q => g2 (fun q0 => q (by have q := q0; exact ((i3_eqi hx hz).mpr q))))
  | ne => exact lv_icmp_ne hC.1 hC.2.1 hd ht (fun q => g1 (fun z => q ((i3_eqi hx hz).mpr z))) (fun q => g2 (fun z0 => z0 ((i3_eqi hx hz).mp q)))
  | lt => exact lv_icmp_lt hC.1 hC.2.1 hd ht (fun q => g1 ((i3_lti hx hz).mp q)) (fun q => g2 (fun q0 => q (by have q := q0; exact ((i3_lti hx hz).mpr q))))
  | ge => exact lv_icmp_ge hC.1 hC.2.1 hd ht (fun q => g1 ((i3_lei hz hx).mp q)) (fun q => g2 (fun q0 => q (by have q := q0; exact ((i3_lei hz hx).mpr q))))
  | gt => exact lv_icmp_gt hC.1 hC.2.1 hd ht (fun q => g1 ((i3_lti hz hx).mp q)) (fun q => g2 (fun q0 => q (by have q := q0; exact ((i3_lti hz hx).mpr q))))
  | le => exact lv_icmp_le hC.1 hC.2.1 hd ht (fun q => g1 ((i3_lei hx hz).mp q)) (fun q => g2 (fun q0 => q (by have q := q0; exact ((i3_lei hx hz).mpr q))))
theorem so_goto {off : Int} {tgt : Nat} (hd : decode (m_bt y) pc = .ok (.goto off, 3)) (ht : (pc : Int) + off = (tgt : Int)) (h : WP y d b tgt L S M Q) : WP y d b pc L S M Q := by
  intro X p l e R s m args below meth c H locs Qf ls na0 hC hM hS hL hW hl hn hR
  exact lv_goto hC.1 hC.2.1 hd ht (h X p l e R s m args below meth c H locs Qf ls na0 hC hM hS hL hW hl hn hR)
end SO
