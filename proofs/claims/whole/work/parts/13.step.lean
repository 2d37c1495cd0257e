/-! one instruction, as what must hold before it -/
abbrev Lc : Type := List (Option AV)
abbrev It : Type := Instr × Nat × Nat × Nat × Nat × Nat
def pI (f : Int → List AV → Prop) (S : List AV) : Prop := match S with
  | .inl z :: t => f z t
  | _ => False
def pII (f : Int → Int → List AV → Prop) (S : List AV) : Prop := match S with
  | .inl z :: .inl x :: t => f x z t
  | _ => False
def pJ (f : Int → List AV → Prop) (S : List AV) : Prop := match S with
  | .inr (.inl z) :: t => f z t
  | _ => False
def pJJ (f : Int → Int → List AV → Prop) (S : List AV) : Prop := match S with
  | .inr (.inl z) :: .inr (.inl x) :: t => f x z t
  | _ => False
def pIJ (f : Int → Int → List AV → Prop) (S : List AV) : Prop := match S with
  | .inl z :: .inr (.inl x) :: t => f x z t
  | _ => False
def pR (f : Nat → List AV → Prop) (S : List AV) : Prop := match S with
  | .inr (.inr (some h)) :: t => f h t
  | _ => False
def pIR (f : Nat → Int → List AV → Prop) (S : List AV) : Prop := match S with
  | .inl i :: .inr (.inr (some h)) :: t => f h i t
  | _ => False
def pVR (f : Nat → AV → List AV → Prop) (S : List AV) : Prop := match S with
  | v :: .inr (.inr (some h)) :: t => f h v t
  | _ => False
def pVIR (f : Nat → Int → AV → List AV → Prop) (S : List AV) : Prop := match S with
  | v :: .inl i :: .inr (.inr (some h)) :: t => f h i v t
  | _ => False
def pV (f : AV → List AV → Prop) (S : List AV) : Prop := match S with
  | v :: t => f v t
  | _ => False
def pVV (f : AV → AV → List AV → Prop) (S : List AV) : Prop := match S with
  | v :: w :: t => f v w t
  | _ => False
def pE (f : Prop) (S : List AV) : Prop := match S with
  | [] => f
  | _ => False
def pC (f : Nat → Nat → Int → Int → Int → List AV → Prop) (S : List AV) : Prop := match S with
  | .inl n :: .inl dp :: .inr (.inr (some h1)) :: .inl sp :: .inr (.inr (some h0)) :: t => f h0 h1 sp dp n t
  | _ => False
def oI (f : Int → Prop) (o : Option AV) : Prop := match o with
  | some (.inl z) => f z
  | _ => False
def oJ (f : Int → Prop) (o : Option AV) : Prop := match o with
  | some (.inr (.inl z)) => f z
  | _ => False
def oR (f : Nat → Prop) (o : Option AV) : Prop := match o with
  | some (.inr (.inr (some h))) => f h
  | _ => False
def iV (f : Int → Prop) (v : AV) : Prop := match v with
  | .inl z => f z
  | _ => False
def jV (f : Int → Prop) (v : AV) : Prop := match v with
  | .inr (.inl z) => f z
  | _ => False
def rV (f : Option Nat → Prop) (v : AV) : Prop := match v with
  | .inr (.inr r) => f r
  | _ => False
def tk : Nat → List AV → List AV → (List AV → List AV → Prop) → Prop
  | 0, acc, S, f => f acc S
  | _ + 1, _, [], _ => False
  | n + 1, acc, v :: S, f => tk n (v :: acc) S f
def rc (f : Nat → Prop) (as : List AV) : Prop := match as with
  | .inr (.inr (some h)) :: _ => f h
  | _ => False
def ctS : List AV → Nat
  | [] => 0
  | v :: t => cg v + ctS t
def lds (M : Mem) (h : Nat) (i : Int) (f : Int → Prop) : Prop :=
  if h = 1000 then (0 ≤ i ∧ i < M.1 1000 0) ∧ f (M.1 1000 (i.toNat + 1)) else if 1000 < h then ((h = 1001 ∨ h = 1002 ∨ h = 1003) ∧ 0 ≤ i ∧ i < 4) ∧ f (stv h i.toNat) else ((kd h).1 = 0 ∧ 0 ≤ i ∧ i < (kd h).2) ∧ f (M.1 h i.toNat)
def lcv (a e : Nat) : Int := if e = 0 then (a : Int) else -(a : Int)
def tyc (t : ArrayType) : Nat := match t with
  | .int => 0
  | .long => 1
  | .byte => 2
  | .boolean => 3
  | _ => 8
def stp (y d b pc : Nat) (it : It) (L : Lc) (S : List AV) (M : Mem) (k : Lc → List AV → Mem → Prop) (K : Nat → Lc → List AV → Mem → Prop) (Q : Option AV → Mem → Prop) : Prop :=
  match it with
  | (.iconst n, _) => k L (vI n :: S) M
  | (.bipush n, _) => k L (vI n :: S) M
  | (.sipush n, _) => k L (vI n :: S) M
  | (.lconst _, _, a, _) => k L (vL (a : Int) :: S) M
  | (.ldc _, _, a, o, _) => if o = 0 then k L (vI (a : Int) :: S) M else k L (vR (some a) :: S) M
  | (.ldc_w _, _, a, _) => k L (vI (a : Int) :: S) M
  | (.ldc2_w _, _, a, o, _) => k L (vL (lcv a o) :: S) M
  | (.iload_n _, _, a, _) => oI (fun z => k L (vI z :: S) M) (gL L a)
  | (.iload _, _, a, _) => oI (fun z => k L (vI z :: S) M) (gL L a)
  | (.lload_n _, _, a, _) => oJ (fun z => k L (vL z :: S) M) (gL L a)
  | (.lload _, _, a, _) => oJ (fun z => k L (vL z :: S) M) (gL L a)
  | (.aload_n _, _, a, _) => oR (fun z => k L (vR (some z) :: S) M) (gL L a)
  | (.aload _, _, a, _) => oR (fun z => k L (vR (some z) :: S) M) (gL L a)
  | (.istore_n _, _, a, _) => pI (fun z t => k (setL L a (vI z)) t M) S
  | (.istore _, _, a, _) => pI (fun z t => k (setL L a (vI z)) t M) S
  | (.lstore_n _, _, a, _) => pJ (fun z t => k (setL2 L a (vL z)) t M) S
  | (.lstore _, _, a, _) => pJ (fun z t => k (setL2 L a (vL z)) t M) S
  | (.astore_n _, _, a, _) => pR (fun z t => k (setL L a (vR (some z))) t M) S
  | (.astore _, _, a, _) => pR (fun z t => k (setL L a (vR (some z))) t M) S
  | (.iinc _ n, _, a, _) => oI (fun z => k (setL L a (vI (wr (z + n)))) S M) (gL L a)
  | (.iadd, _) => pII (fun x z t => k L (vI (wr (x + z)) :: t) M) S
  | (.isub, _) => pII (fun x z t => k L (vI (wr (x - z)) :: t) M) S
  | (.imul, _) => pII (fun x z t => k L (vI (wr (x * z)) :: t) M) S
  | (.idiv, _) => pII (fun x z t => z ≠ 0 ∧ k L (vI (wr (x.tdiv z)) :: t) M) S
  | (.irem, _) => pII (fun x z t => z ≠ 0 ∧ k L (vI (wr (x.tmod z)) :: t) M) S
  | (.iand, _) => pII (fun x z t => k L (vI (bAnd x z) :: t) M) S
  | (.ior, _) => pII (fun x z t => k L (vI (bOr x z) :: t) M) S
  | (.ixor, _) => pII (fun x z t => k L (vI (bXor x z) :: t) M) S
  | (.ishl, _) => pII (fun x z t => k L (vI (iShl x z) :: t) M) S
  | (.ishr, _) => pII (fun x z t => k L (vI (iShr x z) :: t) M) S
  | (.iushr, _) => pII (fun x z t => k L (vI (bUshr x z) :: t) M) S
  | (.ineg, _) => pI (fun x t => k L (vI (wr (-x)) :: t) M) S
  | (.i2b, _) => pI (fun x t => k L (vI (b2b x) :: t) M) S
  | (.i2l, _) => pI (fun x t => k L (vL x :: t) M) S
  | (.ladd, _) => pJJ (fun x z t => k L (vL (wl (x + z)) :: t) M) S
  | (.lsub, _) => pJJ (fun x z t => k L (vL (wl (x - z)) :: t) M) S
  | (.lmul, _) => pJJ (fun x z t => k L (vL (wl (x * z)) :: t) M) S
  | (.ldiv, _) => pJJ (fun x z t => z ≠ 0 ∧ k L (vL (wl (x.tdiv z)) :: t) M) S
  | (.lrem, _) => pJJ (fun x z t => z ≠ 0 ∧ k L (vL (wl (x.tmod z)) :: t) M) S
  | (.land, _) => pJJ (fun x z t => k L (vL (lAnd x z) :: t) M) S
  | (.lshr, _) => pIJ (fun x z t => k L (vL (lShr x z) :: t) M) S
  | (.lcmp, _) => pJJ (fun x z t => k L (vI (lCmp x z) :: t) M) S
  | (.dup, _) => pV (fun v t => cg v = 1 ∧ k L (v :: v :: t) M) S
  | (.pop, _) => pV (fun v t => cg v = 1 ∧ k L t M) S
  | (.dup2, _) => pVV (fun v w t => (cg v = 1 ∧ cg w = 1) ∧ k L (v :: w :: v :: w :: t) M) S
  | (.ifCond c _, _, a, _) => pI (fun x t => (cnd c x 0 → K a L t M) ∧ (¬ cnd c x 0 → k L t M)) S
  | (.if_icmp c _, _, a, _) => pII (fun x z t => (cnd c x z → K a L t M) ∧ (¬ cnd c x z → k L t M)) S
  | (.goto _, _, a, _) => K a L S M
  | (.tableswitch df lo hi os, _) => pI (fun z t => swT z (fun o => K ((pc : Int) + o).toNat L t M) lo os.toList ∧ ((z < lo ∨ hi < z) → K ((pc : Int) + df).toNat L t M)) S
  | (.lookupswitch df ps, _) => pI (fun z t => swL z (fun o => K ((pc : Int) + o).toNat L t M) df ps.toList) S
  | (.getfield _, _, a, o, c, _) => pR (fun h t => kd h = (5, a) ∧ k L (fcv M h o c :: t) M) S
  | (.putfield _, _, a, o, c, _) => pVR (fun h v t => kd h = (5, a) ∧ (if c = 4 then rV (fun r => k L t (setR M h o r)) v else iV (fun z => (c = 0 ∨ z = 0 ∨ z = 1) ∧ k L t (setN M h o z)) v)) S
  | (.getstatic _, _, a, _) => k L (vR (some a) :: S) M
  | (.iaload, _) => pIR (fun h i t => lds M h i (fun z => k L (vI z :: t) M)) S
  | (.laload, _) => pIR (fun h i t => ((kd h).1 = 1 ∧ 0 ≤ i ∧ i < (kd h).2) ∧ k L (vL (M.1 h i.toNat) :: t) M) S
  | (.baload, _) => pIR (fun h i t => (((kd h).1 = 2 ∨ (kd h).1 = 3) ∧ 0 ≤ i ∧ i < (kd h).2) ∧ k L (vI (M.1 h i.toNat) :: t) M) S
  | (.aaload, _) => pIR (fun h i t => ((kd h).1 = 4 ∧ 0 ≤ i ∧ i < (kd h).2) ∧ k L (vR (M.2.1 h i.toNat) :: t) M) S
  | (.iastore, _) => pVIR (fun h i v t => iV (fun z => ((kd h).1 = 0 ∧ 0 ≤ i ∧ i < (kd h).2) ∧ k L t (setN M h i.toNat z)) v) S
  | (.lastore, _) => pVIR (fun h i v t => jV (fun z => ((kd h).1 = 1 ∧ 0 ≤ i ∧ i < (kd h).2) ∧ k L t (setN M h i.toNat z)) v) S
  | (.bastore, _) => pVIR (fun h i v t => iV (fun z => ((((kd h).1 = 2 ∧ -128 ≤ z ∧ z < 128) ∨ ((kd h).1 = 3 ∧ (z = 0 ∨ z = 1))) ∧ 0 ≤ i ∧ i < (kd h).2) ∧ k L t (setN M h i.toNat z)) v) S
  | (.aastore, _) => pVIR (fun h i v t => rV (fun r => oR (fun w => ((kd h).1 = 4 ∧ kd w = (5, 4) ∧ 0 ≤ i ∧ i < (kd h).2) ∧ k L t (setR M h i.toNat (some w))) (some (vR r))) v) S
  | (.arraylength, _) => pR (fun h t => if h = 1000 then k L (vI (M.1 1000 0) :: t) M else (kd h).1 < 5 ∧ k L (vI ((kd h).2 : Int) :: t) M) S
  | (.newarray ty, _) => pI (fun z t => (kd M.2.2 = (tyc ty, z.toNat) ∧ 0 ≤ z ∧ M.2.2 < b) ∧ k L (vR (some M.2.2) :: t) (M.1, M.2.1, M.2.2 + 1)) S
  | (.anewarray _, _) => pI (fun z t => (kd M.2.2 = (4, z.toNat) ∧ 0 ≤ z ∧ M.2.2 < b) ∧ k L (vR (some M.2.2) :: t) (M.1, M.2.1, M.2.2 + 1)) S
  | (.new _, _, a, _) => (kd M.2.2 = (5, a) ∧ M.2.2 < b) ∧ k L (vR (some M.2.2) :: S) (M.1, M.2.1, M.2.2 + 1)
  | (.ireturn, _, a, _) => pI (fun z t => ((a = 1 → z = 0 ∨ z = 1) ∧ M.2.2 = b ∧ t = []) ∧ Q (some (vI z)) M) S
  | (.lreturn, _) => pJ (fun z t => (M.2.2 = b ∧ t = []) ∧ Q (some (vL z)) M) S
  | (.return_, _) => pE (M.2.2 = b ∧ Q none M) S
  | (.invokevirtual _, _, _, o, c, e) => tk (c + 1) [] S (fun as t => rc (fun h => kd h = (5, e)) as ∧ ctS t ≤ 8 ∧ 0 < d ∧ WPc o (d - 1) M.2.2 as M (fun r M' => k L (r.toList ++ t) M'))
  | (.invokespecial _, _, a, o, c, e) => if a = 8 then pR (fun _ t => ctS t ≤ 8 ∧ 0 < d ∧ k L t M) S else tk (c + 1) [] S (fun as t => rc (fun h => h < 172) as ∧ ctS t ≤ 8 ∧ 0 < d ∧ M.2.2 + e ≤ b ∧ nsu (M.2.2 + e) = nsu M.2.2 + m_ms o ∧ WPc o (d - 1) (M.2.2 + e) as M (fun r M' => k L (r.toList ++ t) M'))
  | (.invokestatic _, _, a, o, c, _) =>
    if a = 5 then pII (fun x z t => ctS t ≤ 8 ∧ 0 < d ∧ k L (vI (if z < x then z else x) :: t) M) S
    else if a = 6 then pI (fun x t => ctS t ≤ 8 ∧ 0 < d ∧ k L (vI (if 0 ≤ x then x else wr (-x)) :: t) M) S
    else if a = 7 then pC (fun h0 h1 sp dp n t => (((kd h0).1 = 0 ∧ (kd h1).1 = 0) ∧ (0 ≤ sp ∧ 0 ≤ dp ∧ 0 ≤ n) ∧ (sp + n ≤ (kd h0).2 ∧ dp + n ≤ (kd h1).2) ∧ ctS t ≤ 8 ∧ 0 < d) ∧ k L t (sv M.1 h1 (cpy (M.1 h0) (M.1 h1) sp.toNat dp.toNat n.toNat), M.2.1, M.2.2)) S
    else tk c [] S (fun as t => ctS t ≤ 8 ∧ 0 < d ∧ WPc o (d - 1) M.2.2 as M (fun r M' => k L (r.toList ++ t) M'))
  | _ => False
/-- what a program can look up of one instruction -/
def ick (y pc : Nat) (it : It) : Bool :=
  match it with
  | (.iconst n, l, _) => decide (l = 1 ∧ -2147483648 ≤ n ∧ n < 2147483648)
  | (.bipush n, l, _) => decide (l = 2 ∧ (-2147483648 ≤ n ∧ n < 2147483648) ∧ (Int8.ofInt n).toInt32 = i3 n)
  | (.sipush n, l, _) => decide (l = 3 ∧ (-2147483648 ≤ n ∧ n < 2147483648) ∧ (Int16.ofInt n).toInt32 = i3 n)
  | (.lconst n, l, a, _) => decide (l = 1 ∧ n.val = a)
  | (.ldc i, l, a, o, _) => decide (l = 2 ∧ ((o = 0 ∧ (m_ow y, i, (a : Int), 0) ∈ ctT ∧ a < 2147483648) ∨ (o = 1 ∧ clN (m_ow y) = "HandTongue$Tape" ∧ 1010 ≤ a ∧ a < 1024 ∧ (stA (a - 1010)).1 = i)))
  | (.ldc_w i, l, a, _) => decide (l = 3 ∧ (m_ow y, i, (a : Int), 0) ∈ ctT ∧ a < 2147483648)
  | (.ldc2_w i, l, a, o, _) => decide (l = 3 ∧ (m_ow y, i, lcv a o, 1) ∈ ctT ∧ a < 9223372036854775808)
  | (.iload_n n, l, a, _) => decide (l = 1 ∧ n.val = a)
  | (.iload n, l, a, _) => decide (l = 2 ∧ n = a)
  | (.lload_n n, l, a, _) => decide (l = 1 ∧ n.val = a)
  | (.lload n, l, a, _) => decide (l = 2 ∧ n = a)
  | (.aload_n n, l, a, _) => decide (l = 1 ∧ n.val = a)
  | (.aload n, l, a, _) => decide (l = 2 ∧ n = a)
  | (.istore_n n, l, a, _) => decide (l = 1 ∧ n.val = a ∧ a < m_ml y)
  | (.istore n, l, a, _) => decide (l = 2 ∧ n = a ∧ a < m_ml y)
  | (.lstore_n n, l, a, _) => decide (l = 1 ∧ n.val = a ∧ a + 1 < m_ml y)
  | (.lstore n, l, a, _) => decide (l = 2 ∧ n = a ∧ a + 1 < m_ml y)
  | (.astore_n n, l, a, _) => decide (l = 1 ∧ n.val = a ∧ a < m_ml y)
  | (.astore n, l, a, _) => decide (l = 2 ∧ n = a ∧ a < m_ml y)
  | (.iinc n _, l, a, _) => decide (l = 3 ∧ n = a)
  | (.ifCond _ o, l, a, _) => decide (l = 3 ∧ (pc : Int) + o = (a : Int))
  | (.if_icmp _ o, l, a, _) => decide (l = 3 ∧ (pc : Int) + o = (a : Int))
  | (.goto o, l, a, _) => decide (l = 3 ∧ (pc : Int) + o = (a : Int))
  | (.tableswitch df lo hi os, _) => decide ((os.size : Int) = hi - lo + 1) && (df :: os.toList).all (fun o => decide (0 ≤ (pc : Int) + o))
  | (.lookupswitch df ps, _) => (ps.toList.zip (ps.toList.drop 1)).all (fun (a, next) => a.1 < next.1) && (df :: ps.toList.map (·.2)).all (fun o => decide (0 ≤ (pc : Int) + o))
  | (.getfield i, l, a, o, c, e) => decide (l = 3 ∧ (m_ow y, i, a, o, c, e) ∈ flT)
  | (.putfield i, l, a, o, c, e) => decide (l = 3 ∧ (m_ow y, i, a, o, c, e) ∈ flT ∧ (e = 0 ∨ ((m_nm y).name = "<init>" ∧ clN (m_ow y) = (cT a).1)))
  | (.getstatic i, l, a, o, _) => decide (l = 3 ∧ ((o = 0 ∧ (m_ow y, i, a) ∈ stT) ∨ (o = 1 ∧ m_ow y = 2 ∧ i = 58 ∧ a = 1003)))
  | (.new i, l, a, _) => decide (l = 3 ∧ (m_ow y, i, a) ∈ lkT)
  | (.anewarray i, l, _) => decide (l = 3 ∧ (m_ow y, i, 4) ∈ lkT)
  | (.newarray t, l, _) => decide (l = 2 ∧ tyc t < 4)
  | (.ireturn, l, a, _) => decide (l = 1 ∧ ((a = 0 ∧ m_rt y = some .int) ∨ (a = 1 ∧ m_rt y = some .boolean)))
  | (.lreturn, l, _) => decide (l = 1 ∧ m_rt y = some .long)
  | (.return_, l, _) => decide (l = 1 ∧ m_rt y = none)
  | (.invokevirtual i, l, _, o, c, e) => decide (l = 3 ∧ (m_ow y, i, o, 0) ∈ mlT ∧ c = m_na o ∧ e = m_ow o ∧ m_ml o ≤ 45 ∧ m_mc o = 0 ∧ m_ms o = 0)
  | (.invokespecial i, l, a, o, c, e) => decide (l = 3 ∧ ((a = 8 ∧ (m_ow y, i) ∈ obT) ∨ (a = 2 ∧ (m_ow y, i, o, 2) ∈ mlT ∧ c = m_na o ∧ e = m_mc o ∧ m_ml o ≤ 45) ∨ (a = 3 ∧ (m_ow y, i, o, 3) ∈ mlT ∧ Cond.methodLinkNest (clN (m_ow y)) i (m_nm o) "HandTongue" ∈ nstL ∧ c = m_na o ∧ e = m_mc o ∧ m_ml o ≤ 45)))
  | (.invokestatic i, l, a, o, c, _) => decide (l = 3 ∧ ((a = 5 ∧ (m_ow y, i) ∈ mminT) ∨ (a = 6 ∧ (m_ow y, i) ∈ mabsT) ∨ (a = 7 ∧ (m_ow y, i) ∈ acT) ∨ (a = 1 ∧ (m_ow y, i, o, 1) ∈ mlT ∧ c = m_na o ∧ m_ml o ≤ 45 ∧ m_mc o = 0 ∧ m_ms o = 0) ∨ (a = 4 ∧ (m_ow y, i, o, 4) ∈ mlT ∧ Cond.methodLinkNest (clN (m_ow y)) i (m_nm o) "HandTongue" ∈ nstL ∧ c = m_na o ∧ m_ml o ≤ 45 ∧ m_mc o = 0 ∧ m_ms o = 0)))
  | (_, l, _) => decide (l = 1)
def dck (y pc : Nat) (it : It) : Bool := decide (decode (m_bt y) pc = .ok (it.1, it.2.1)) && ick y pc it
theorem tk_split : ∀ (n : Nat) (acc S : List AV) (f : List AV → List AV → Prop), tk n acc S f → ∃ as t, S = as.reverse ++ t ∧ as.length = n ∧ f (as ++ acc) t
  | 0, acc, S, f, h => ⟨[], S, rfl, rfl, h⟩
  | n + 1, acc, [], f, h => h.elim
  | n + 1, acc, v :: S, f, h => by
    obtain ⟨as, t, h1, h2, h3⟩ := tk_split n (v :: acc) S f h
    exact ⟨as ++ [v], t, by simp [h1], by simp [h2], by simpa using h3⟩
theorem ctS_sum : ∀ S : List AV, ctS S = (S.map cg).sum
  | [] => rfl
  | v :: t => by simp [ctS, ctS_sum t]
