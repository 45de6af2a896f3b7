def iR (x y : Int32) : Int32 := x - x / y * y
def lR (x y : Int64) : Int64 := x - x / y * y
def iShl (x y : Int32) : Int32 := x <<< (y &&& 31)
def iShr (x y : Int32) : Int32 := x >>> (y &&& 31)
def lShl (x : Int64) (y : Int32) : Int64 := x <<< (y.toInt64 &&& 63)
def lShr (x : Int64) (y : Int32) : Int64 := x >>> (y.toInt64 &&& 63)
def iMax (x y : Int32) : Int32 := if x < y then y else x
def iMin (x y : Int32) : Int32 := if y < x then y else x
def iAbs (x : Int32) : Int32 := if 0 ≤ x then x else 0 - x
def i2C (x : Int32) : Int32 := (x.toUInt32 % 65536).toInt32
theorem Rn.iconst {X : XS} {M : MD} {pc n : Nat} {ls : List (Option AV)} {st : List AV} {h : Hp} {Q : Option AV → Hp → Prop} {z : Int} {v : Int32} (d : decode M.2.1 pc = .ok (.iconst z, 1)) (hn : pc + 1 = n) (hv : Int32.ofInt z = v) (k : Rn X M n ls (vI v :: st) h Q) : Rn X M pc ls (st) h Q := by
  subst hn
  intro p l e R s m args below meth c cells slots E QQ F K H locs LS hR hS hL
  exact lv_iconst F.1 F.2.1 d hv (k p l e R s m args below meth c cells slots E QQ F K H locs LS hR hS hL)
theorem Rn.bipush {X : XS} {M : MD} {pc n : Nat} {ls : List (Option AV)} {st : List AV} {h : Hp} {Q : Option AV → Hp → Prop} {z : Int} {v : Int32} (d : decode M.2.1 pc = .ok (.bipush z, 2)) (hn : pc + 2 = n) (hv : (Int8.ofInt z).toInt32 = v) (k : Rn X M n ls (vI v :: st) h Q) : Rn X M pc ls (st) h Q := by
  subst hn
  intro p l e R s m args below meth c cells slots E QQ F K H locs LS hR hS hL
  exact lv_bipush F.1 F.2.1 d hv (k p l e R s m args below meth c cells slots E QQ F K H locs LS hR hS hL)
theorem Rn.sipush {X : XS} {M : MD} {pc n : Nat} {ls : List (Option AV)} {st : List AV} {h : Hp} {Q : Option AV → Hp → Prop} {z : Int} {v : Int32} (d : decode M.2.1 pc = .ok (.sipush z, 3)) (hn : pc + 3 = n) (hv : (Int16.ofInt z).toInt32 = v) (k : Rn X M n ls (vI v :: st) h Q) : Rn X M pc ls (st) h Q := by
  subst hn
  intro p l e R s m args below meth c cells slots E QQ F K H locs LS hR hS hL
  exact lv_sipush F.1 F.2.1 d hv (k p l e R s m args below meth c cells slots E QQ F K H locs LS hR hS hL)
theorem Rn.lconst {X : XS} {M : MD} {pc n : Nat} {ls : List (Option AV)} {st : List AV} {h : Hp} {Q : Option AV → Hp → Prop} {z : Fin 2} {v : Int64} (d : decode M.2.1 pc = .ok (.lconst z, 1)) (hn : pc + 1 = n) (hv : Int64.ofNat (z : Nat) = v) (k : Rn X M n ls (vL v :: st) h Q) : Rn X M pc ls (st) h Q := by
  subst hn
  intro p l e R s m args below meth c cells slots E QQ F K H locs LS hR hS hL
  exact lv_lconst F.1 F.2.1 d hv (k p l e R s m args below meth c cells slots E QQ F K H locs LS hR hS hL)
theorem Rn.aconst_null {X : XS} {M : MD} {pc n : Nat} {ls : List (Option AV)} {st : List AV} {h : Hp} {Q : Option AV → Hp → Prop}  (d : decode M.2.1 pc = .ok (.aconst_null, 1)) (hn : pc + 1 = n)  (k : Rn X M n ls (vN :: st) h Q) : Rn X M pc ls (st) h Q := by
  subst hn
  intro p l e R s m args below meth c cells slots E QQ F K H locs LS hR hS hL
  exact lv_null F.1 F.2.1 d  (k p l e R s m args below meth c cells slots E QQ F K H locs LS hR hS hL)
theorem Rn.ldc2 {X : XS} {M : MD} {pc n : Nat} {ls : List (Option AV)} {st : List AV} {h : Hp} {Q : Option AV → Hp → Prop} {idx : Nat} {v : Int64} (d : decode M.2.1 pc = .ok (.ldc2_w idx, 3)) (hn : pc + 3 = n) (hw : Cond.constantLong M.1.cls idx v ∈ wsG) (k : Rn X M n ls (vL v :: st) h Q) : Rn X M pc ls (st) h Q := by
  subst hn
  intro p l e R s m args below meth c cells slots E QQ F K H locs LS hR hS hL
  exact lv_ldc2 F.1 F.2.1 F.2.2.2.1 (F.2.2.2.2.1 _ hw) d (k p l e R s m args below meth c cells slots E QQ F K H locs LS hR hS hL)
theorem Rn.iadd {X : XS} {M : MD} {pc n : Nat} {ls : List (Option AV)} {st : List AV} {h : Hp} {Q : Option AV → Hp → Prop} {x y : Int32} (d : decode M.2.1 pc = .ok (.iadd, 1)) (hn : pc + 1 = n)  (k : Rn X M n ls (vI (x + y) :: st) h Q) : Rn X M pc ls (vI y :: vI x :: st) h Q := by
  subst hn
  intro p l e R s m args below meth c cells slots E QQ F K H locs LS hR hS hL
  exact lv_iadd F.1 F.2.1 d  (k p l e R s m args below meth c cells slots E QQ F K H locs LS hR hS hL)
theorem Rn.isub {X : XS} {M : MD} {pc n : Nat} {ls : List (Option AV)} {st : List AV} {h : Hp} {Q : Option AV → Hp → Prop} {x y : Int32} (d : decode M.2.1 pc = .ok (.isub, 1)) (hn : pc + 1 = n)  (k : Rn X M n ls (vI (x - y) :: st) h Q) : Rn X M pc ls (vI y :: vI x :: st) h Q := by
  subst hn
  intro p l e R s m args below meth c cells slots E QQ F K H locs LS hR hS hL
  exact lv_isub F.1 F.2.1 d  (k p l e R s m args below meth c cells slots E QQ F K H locs LS hR hS hL)
theorem Rn.imul {X : XS} {M : MD} {pc n : Nat} {ls : List (Option AV)} {st : List AV} {h : Hp} {Q : Option AV → Hp → Prop} {x y : Int32} (d : decode M.2.1 pc = .ok (.imul, 1)) (hn : pc + 1 = n)  (k : Rn X M n ls (vI (x * y) :: st) h Q) : Rn X M pc ls (vI y :: vI x :: st) h Q := by
  subst hn
  intro p l e R s m args below meth c cells slots E QQ F K H locs LS hR hS hL
  exact lv_imul F.1 F.2.1 d  (k p l e R s m args below meth c cells slots E QQ F K H locs LS hR hS hL)
theorem Rn.iand {X : XS} {M : MD} {pc n : Nat} {ls : List (Option AV)} {st : List AV} {h : Hp} {Q : Option AV → Hp → Prop} {x y : Int32} (d : decode M.2.1 pc = .ok (.iand, 1)) (hn : pc + 1 = n)  (k : Rn X M n ls (vI (x &&& y) :: st) h Q) : Rn X M pc ls (vI y :: vI x :: st) h Q := by
  subst hn
  intro p l e R s m args below meth c cells slots E QQ F K H locs LS hR hS hL
  exact lv_iand F.1 F.2.1 d  (k p l e R s m args below meth c cells slots E QQ F K H locs LS hR hS hL)
theorem Rn.ior {X : XS} {M : MD} {pc n : Nat} {ls : List (Option AV)} {st : List AV} {h : Hp} {Q : Option AV → Hp → Prop} {x y : Int32} (d : decode M.2.1 pc = .ok (.ior, 1)) (hn : pc + 1 = n)  (k : Rn X M n ls (vI (x ||| y) :: st) h Q) : Rn X M pc ls (vI y :: vI x :: st) h Q := by
  subst hn
  intro p l e R s m args below meth c cells slots E QQ F K H locs LS hR hS hL
  exact lv_ior F.1 F.2.1 d  (k p l e R s m args below meth c cells slots E QQ F K H locs LS hR hS hL)
theorem Rn.ixor {X : XS} {M : MD} {pc n : Nat} {ls : List (Option AV)} {st : List AV} {h : Hp} {Q : Option AV → Hp → Prop} {x y : Int32} (d : decode M.2.1 pc = .ok (.ixor, 1)) (hn : pc + 1 = n)  (k : Rn X M n ls (vI (x ^^^ y) :: st) h Q) : Rn X M pc ls (vI y :: vI x :: st) h Q := by
  subst hn
  intro p l e R s m args below meth c cells slots E QQ F K H locs LS hR hS hL
  exact lv_ixor F.1 F.2.1 d  (k p l e R s m args below meth c cells slots E QQ F K H locs LS hR hS hL)
theorem Rn.ishl {X : XS} {M : MD} {pc n : Nat} {ls : List (Option AV)} {st : List AV} {h : Hp} {Q : Option AV → Hp → Prop} {x y : Int32} (d : decode M.2.1 pc = .ok (.ishl, 1)) (hn : pc + 1 = n)  (k : Rn X M n ls (vI (iShl x y) :: st) h Q) : Rn X M pc ls (vI y :: vI x :: st) h Q := by
  subst hn
  intro p l e R s m args below meth c cells slots E QQ F K H locs LS hR hS hL
  exact lv_ishl F.1 F.2.1 d  (k p l e R s m args below meth c cells slots E QQ F K H locs LS hR hS hL)
theorem Rn.ishr {X : XS} {M : MD} {pc n : Nat} {ls : List (Option AV)} {st : List AV} {h : Hp} {Q : Option AV → Hp → Prop} {x y : Int32} (d : decode M.2.1 pc = .ok (.ishr, 1)) (hn : pc + 1 = n)  (k : Rn X M n ls (vI (iShr x y) :: st) h Q) : Rn X M pc ls (vI y :: vI x :: st) h Q := by
  subst hn
  intro p l e R s m args below meth c cells slots E QQ F K H locs LS hR hS hL
  exact lv_ishr F.1 F.2.1 d  (k p l e R s m args below meth c cells slots E QQ F K H locs LS hR hS hL)
theorem Rn.idiv {X : XS} {M : MD} {pc n : Nat} {ls : List (Option AV)} {st : List AV} {h : Hp} {Q : Option AV → Hp → Prop} {x y : Int32} (d : decode M.2.1 pc = .ok (.idiv, 1)) (hn : pc + 1 = n) (hy : ¬ y = 0) (k : Rn X M n ls (vI (x / y) :: st) h Q) : Rn X M pc ls (vI y :: vI x :: st) h Q := by
  subst hn
  intro p l e R s m args below meth c cells slots E QQ F K H locs LS hR hS hL
  exact lv_idiv F.1 F.2.1 d hy (k p l e R s m args below meth c cells slots E QQ F K H locs LS hR hS hL)
theorem Rn.irem {X : XS} {M : MD} {pc n : Nat} {ls : List (Option AV)} {st : List AV} {h : Hp} {Q : Option AV → Hp → Prop} {x y : Int32} (d : decode M.2.1 pc = .ok (.irem, 1)) (hn : pc + 1 = n) (hy : ¬ y = 0) (k : Rn X M n ls (vI (iR x y) :: st) h Q) : Rn X M pc ls (vI y :: vI x :: st) h Q := by
  subst hn
  intro p l e R s m args below meth c cells slots E QQ F K H locs LS hR hS hL
  exact lv_irem F.1 F.2.1 d hy (k p l e R s m args below meth c cells slots E QQ F K H locs LS hR hS hL)
theorem Rn.ineg {X : XS} {M : MD} {pc n : Nat} {ls : List (Option AV)} {st : List AV} {h : Hp} {Q : Option AV → Hp → Prop} {x : Int32} (d : decode M.2.1 pc = .ok (.ineg, 1)) (hn : pc + 1 = n)  (k : Rn X M n ls (vI (-x) :: st) h Q) : Rn X M pc ls (vI x :: st) h Q := by
  subst hn
  intro p l e R s m args below meth c cells slots E QQ F K H locs LS hR hS hL
  exact lv_ineg F.1 F.2.1 d  (k p l e R s m args below meth c cells slots E QQ F K H locs LS hR hS hL)
theorem Rn.ladd {X : XS} {M : MD} {pc n : Nat} {ls : List (Option AV)} {st : List AV} {h : Hp} {Q : Option AV → Hp → Prop} {x y : Int64} (d : decode M.2.1 pc = .ok (.ladd, 1)) (hn : pc + 1 = n)  (k : Rn X M n ls (vL (x + y) :: st) h Q) : Rn X M pc ls (vL y :: vL x :: st) h Q := by
  subst hn
  intro p l e R s m args below meth c cells slots E QQ F K H locs LS hR hS hL
  exact lv_ladd F.1 F.2.1 d  (k p l e R s m args below meth c cells slots E QQ F K H locs LS hR hS hL)
theorem Rn.lsub {X : XS} {M : MD} {pc n : Nat} {ls : List (Option AV)} {st : List AV} {h : Hp} {Q : Option AV → Hp → Prop} {x y : Int64} (d : decode M.2.1 pc = .ok (.lsub, 1)) (hn : pc + 1 = n)  (k : Rn X M n ls (vL (x - y) :: st) h Q) : Rn X M pc ls (vL y :: vL x :: st) h Q := by
  subst hn
  intro p l e R s m args below meth c cells slots E QQ F K H locs LS hR hS hL
  exact lv_lsub F.1 F.2.1 d  (k p l e R s m args below meth c cells slots E QQ F K H locs LS hR hS hL)
theorem Rn.lmul {X : XS} {M : MD} {pc n : Nat} {ls : List (Option AV)} {st : List AV} {h : Hp} {Q : Option AV → Hp → Prop} {x y : Int64} (d : decode M.2.1 pc = .ok (.lmul, 1)) (hn : pc + 1 = n)  (k : Rn X M n ls (vL (x * y) :: st) h Q) : Rn X M pc ls (vL y :: vL x :: st) h Q := by
  subst hn
  intro p l e R s m args below meth c cells slots E QQ F K H locs LS hR hS hL
  exact lv_lmul F.1 F.2.1 d  (k p l e R s m args below meth c cells slots E QQ F K H locs LS hR hS hL)
theorem Rn.land {X : XS} {M : MD} {pc n : Nat} {ls : List (Option AV)} {st : List AV} {h : Hp} {Q : Option AV → Hp → Prop} {x y : Int64} (d : decode M.2.1 pc = .ok (.land, 1)) (hn : pc + 1 = n)  (k : Rn X M n ls (vL (x &&& y) :: st) h Q) : Rn X M pc ls (vL y :: vL x :: st) h Q := by
  subst hn
  intro p l e R s m args below meth c cells slots E QQ F K H locs LS hR hS hL
  exact lv_land F.1 F.2.1 d  (k p l e R s m args below meth c cells slots E QQ F K H locs LS hR hS hL)
theorem Rn.lor {X : XS} {M : MD} {pc n : Nat} {ls : List (Option AV)} {st : List AV} {h : Hp} {Q : Option AV → Hp → Prop} {x y : Int64} (d : decode M.2.1 pc = .ok (.lor, 1)) (hn : pc + 1 = n)  (k : Rn X M n ls (vL (x ||| y) :: st) h Q) : Rn X M pc ls (vL y :: vL x :: st) h Q := by
  subst hn
  intro p l e R s m args below meth c cells slots E QQ F K H locs LS hR hS hL
  exact lv_lor F.1 F.2.1 d  (k p l e R s m args below meth c cells slots E QQ F K H locs LS hR hS hL)
theorem Rn.ldiv {X : XS} {M : MD} {pc n : Nat} {ls : List (Option AV)} {st : List AV} {h : Hp} {Q : Option AV → Hp → Prop} {x y : Int64} (d : decode M.2.1 pc = .ok (.ldiv, 1)) (hn : pc + 1 = n) (hy : ¬ y = 0) (k : Rn X M n ls (vL (x / y) :: st) h Q) : Rn X M pc ls (vL y :: vL x :: st) h Q := by
  subst hn
  intro p l e R s m args below meth c cells slots E QQ F K H locs LS hR hS hL
  exact lv_ldiv F.1 F.2.1 d hy (k p l e R s m args below meth c cells slots E QQ F K H locs LS hR hS hL)
theorem Rn.lrem {X : XS} {M : MD} {pc n : Nat} {ls : List (Option AV)} {st : List AV} {h : Hp} {Q : Option AV → Hp → Prop} {x y : Int64} (d : decode M.2.1 pc = .ok (.lrem, 1)) (hn : pc + 1 = n) (hy : ¬ y = 0) (k : Rn X M n ls (vL (lR x y) :: st) h Q) : Rn X M pc ls (vL y :: vL x :: st) h Q := by
  subst hn
  intro p l e R s m args below meth c cells slots E QQ F K H locs LS hR hS hL
  exact lv_lrem F.1 F.2.1 d hy (k p l e R s m args below meth c cells slots E QQ F K H locs LS hR hS hL)
theorem Rn.lshl {X : XS} {M : MD} {pc n : Nat} {ls : List (Option AV)} {st : List AV} {h : Hp} {Q : Option AV → Hp → Prop} {x : Int64} {y : Int32} (d : decode M.2.1 pc = .ok (.lshl, 1)) (hn : pc + 1 = n)  (k : Rn X M n ls (vL (lShl x y) :: st) h Q) : Rn X M pc ls (vI y :: vL x :: st) h Q := by
  subst hn
  intro p l e R s m args below meth c cells slots E QQ F K H locs LS hR hS hL
  exact lv_lshl F.1 F.2.1 d rfl (k p l e R s m args below meth c cells slots E QQ F K H locs LS hR hS hL)
theorem Rn.lshr {X : XS} {M : MD} {pc n : Nat} {ls : List (Option AV)} {st : List AV} {h : Hp} {Q : Option AV → Hp → Prop} {x : Int64} {y : Int32} (d : decode M.2.1 pc = .ok (.lshr, 1)) (hn : pc + 1 = n)  (k : Rn X M n ls (vL (lShr x y) :: st) h Q) : Rn X M pc ls (vI y :: vL x :: st) h Q := by
  subst hn
  intro p l e R s m args below meth c cells slots E QQ F K H locs LS hR hS hL
  exact lv_lshr F.1 F.2.1 d rfl (k p l e R s m args below meth c cells slots E QQ F K H locs LS hR hS hL)
theorem Rn.i2l {X : XS} {M : MD} {pc n : Nat} {ls : List (Option AV)} {st : List AV} {h : Hp} {Q : Option AV → Hp → Prop} {x : Int32} (d : decode M.2.1 pc = .ok (.i2l, 1)) (hn : pc + 1 = n)  (k : Rn X M n ls (vL x.toInt64 :: st) h Q) : Rn X M pc ls (vI x :: st) h Q := by
  subst hn
  intro p l e R s m args below meth c cells slots E QQ F K H locs LS hR hS hL
  exact lv_i2l F.1 F.2.1 d rfl (k p l e R s m args below meth c cells slots E QQ F K H locs LS hR hS hL)
theorem Rn.l2i {X : XS} {M : MD} {pc n : Nat} {ls : List (Option AV)} {st : List AV} {h : Hp} {Q : Option AV → Hp → Prop} {x : Int64} (d : decode M.2.1 pc = .ok (.l2i, 1)) (hn : pc + 1 = n)  (k : Rn X M n ls (vI x.toInt32 :: st) h Q) : Rn X M pc ls (vL x :: st) h Q := by
  subst hn
  intro p l e R s m args below meth c cells slots E QQ F K H locs LS hR hS hL
  exact lv_l2i F.1 F.2.1 d rfl (k p l e R s m args below meth c cells slots E QQ F K H locs LS hR hS hL)
theorem Rn.i2c {X : XS} {M : MD} {pc n : Nat} {ls : List (Option AV)} {st : List AV} {h : Hp} {Q : Option AV → Hp → Prop} {x : Int32} (d : decode M.2.1 pc = .ok (.i2c, 1)) (hn : pc + 1 = n)  (k : Rn X M n ls (vI (i2C x) :: st) h Q) : Rn X M pc ls (vI x :: st) h Q := by
  subst hn
  intro p l e R s m args below meth c cells slots E QQ F K H locs LS hR hS hL
  exact lv_i2c F.1 F.2.1 d rfl (k p l e R s m args below meth c cells slots E QQ F K H locs LS hR hS hL)
theorem Rn.lcmp {X : XS} {M : MD} {pc n : Nat} {ls : List (Option AV)} {st : List AV} {h : Hp} {Q : Option AV → Hp → Prop} {x y : Int64} (d : decode M.2.1 pc = .ok (.lcmp, 1)) (hn : pc + 1 = n)  (k : Rn X M n ls (vI (lg_cmp x y) :: st) h Q) : Rn X M pc ls (vL y :: vL x :: st) h Q := by
  subst hn
  intro p l e R s m args below meth c cells slots E QQ F K H locs LS hR hS hL
  exact W.lcmp F.1 F.2.1 d  (k p l e R s m args below meth c cells slots E QQ F K H locs LS hR hS hL)
theorem Rn.dup {X : XS} {M : MD} {pc n : Nat} {ls : List (Option AV)} {st : List AV} {h : Hp} {Q : Option AV → Hp → Prop} {v : AV} (d : decode M.2.1 pc = .ok (.dup, 1)) (hn : pc + 1 = n) (hv : isLg v = false) (k : Rn X M n ls (v :: v :: st) h Q) : Rn X M pc ls (v :: st) h Q := by
  subst hn
  intro p l e R s m args below meth c cells slots E QQ F K H locs LS hR hS hL
  exact lv_dup F.1 F.2.1 d (by rw [cat_cv, hv]; rfl) (k p l e R s m args below meth c cells slots E QQ F K H locs LS hR hS hL)
theorem Rn.dup2 {X : XS} {M : MD} {pc n : Nat} {ls : List (Option AV)} {st : List AV} {h : Hp} {Q : Option AV → Hp → Prop} {v w : AV} (d : decode M.2.1 pc = .ok (.dup2, 1)) (hn : pc + 1 = n) (hv : isLg v = false) (hw : isLg w = false) (k : Rn X M n ls (v :: w :: v :: w :: st) h Q) : Rn X M pc ls (v :: w :: st) h Q := by
  subst hn
  intro p l e R s m args below meth c cells slots E QQ F K H locs LS hR hS hL
  exact lv_dup2_11 F.1 F.2.1 d (by rw [cat_cv, hv]; rfl) (by rw [cat_cv, hw]; rfl) (k p l e R s m args below meth c cells slots E QQ F K H locs LS hR hS hL)
theorem Rn.pop {X : XS} {M : MD} {pc n : Nat} {ls : List (Option AV)} {st : List AV} {h : Hp} {Q : Option AV → Hp → Prop} {v : AV} (d : decode M.2.1 pc = .ok (.pop, 1)) (hn : pc + 1 = n) (hv : isLg v = false) (k : Rn X M n ls (st) h Q) : Rn X M pc ls (v :: st) h Q := by
  subst hn
  intro p l e R s m args below meth c cells slots E QQ F K H locs LS hR hS hL
  exact lv_pop F.1 F.2.1 d (by rw [cat_cv, hv]; rfl) (k p l e R s m args below meth c cells slots E QQ F K H locs LS hR hS hL)
theorem Rn.iload_n {X : XS} {M : MD} {pc n : Nat} {ls : List (Option AV)} {st : List AV} {h : Hp} {Q : Option AV → Hp → Prop} {kk : Fin 4} {i : Nat} {x : Int32} (d : decode M.2.1 pc = .ok (.iload_n kk, 1)) (hn : pc + 1 = n) (hi : (kk : Nat) = i) (hv : ls[i]? = some (some (vI x))) (k : Rn X M n ls (vI x :: st) h Q) : Rn X M pc ls st h Q := by
  subst hn
  intro p l e R s m args below meth c cells slots E QQ F K H locs LS hR hS hL
  exact lv_iload_n F.1 F.2.1 d hi (asc_at hL hv) (k p l e R s m args below meth c cells slots E QQ F K H locs LS hR hS hL)
theorem Rn.iload {X : XS} {M : MD} {pc n : Nat} {ls : List (Option AV)} {st : List AV} {h : Hp} {Q : Option AV → Hp → Prop} {i : Nat} {x : Int32} (d : decode M.2.1 pc = .ok (.iload i, 2)) (hn : pc + 2 = n)  (hv : ls[i]? = some (some (vI x))) (k : Rn X M n ls (vI x :: st) h Q) : Rn X M pc ls st h Q := by
  subst hn
  intro p l e R s m args below meth c cells slots E QQ F K H locs LS hR hS hL
  exact lv_iload F.1 F.2.1 d  (asc_at hL hv) (k p l e R s m args below meth c cells slots E QQ F K H locs LS hR hS hL)
theorem Rn.lload_n {X : XS} {M : MD} {pc n : Nat} {ls : List (Option AV)} {st : List AV} {h : Hp} {Q : Option AV → Hp → Prop} {kk : Fin 4} {i : Nat} {x : Int64} (d : decode M.2.1 pc = .ok (.lload_n kk, 1)) (hn : pc + 1 = n) (hi : (kk : Nat) = i) (hv : ls[i]? = some (some (vL x))) (k : Rn X M n ls (vL x :: st) h Q) : Rn X M pc ls st h Q := by
  subst hn
  intro p l e R s m args below meth c cells slots E QQ F K H locs LS hR hS hL
  exact lv_lload_n F.1 F.2.1 d hi (asc_at hL hv) (k p l e R s m args below meth c cells slots E QQ F K H locs LS hR hS hL)
theorem Rn.lload {X : XS} {M : MD} {pc n : Nat} {ls : List (Option AV)} {st : List AV} {h : Hp} {Q : Option AV → Hp → Prop} {i : Nat} {x : Int64} (d : decode M.2.1 pc = .ok (.lload i, 2)) (hn : pc + 2 = n)  (hv : ls[i]? = some (some (vL x))) (k : Rn X M n ls (vL x :: st) h Q) : Rn X M pc ls st h Q := by
  subst hn
  intro p l e R s m args below meth c cells slots E QQ F K H locs LS hR hS hL
  exact lv_lload F.1 F.2.1 d  (asc_at hL hv) (k p l e R s m args below meth c cells slots E QQ F K H locs LS hR hS hL)
theorem Rn.aload_n {X : XS} {M : MD} {pc n : Nat} {ls : List (Option AV)} {st : List AV} {h : Hp} {Q : Option AV → Hp → Prop} {kk : Fin 4} {i : Nat} {x : List Nat} (d : decode M.2.1 pc = .ok (.aload_n kk, 1)) (hn : pc + 1 = n) (hi : (kk : Nat) = i) (hv : ls[i]? = some (some (vR x))) (k : Rn X M n ls (vR x :: st) h Q) : Rn X M pc ls st h Q := by
  subst hn
  intro p l e R s m args below meth c cells slots E QQ F K H locs LS hR hS hL
  exact lv_aload_n F.1 F.2.1 d hi (asc_at hL hv) (k p l e R s m args below meth c cells slots E QQ F K H locs LS hR hS hL)
theorem Rn.aload {X : XS} {M : MD} {pc n : Nat} {ls : List (Option AV)} {st : List AV} {h : Hp} {Q : Option AV → Hp → Prop} {i : Nat} {x : List Nat} (d : decode M.2.1 pc = .ok (.aload i, 2)) (hn : pc + 2 = n)  (hv : ls[i]? = some (some (vR x))) (k : Rn X M n ls (vR x :: st) h Q) : Rn X M pc ls st h Q := by
  subst hn
  intro p l e R s m args below meth c cells slots E QQ F K H locs LS hR hS hL
  exact lv_aload F.1 F.2.1 d  (asc_at hL hv) (k p l e R s m args below meth c cells slots E QQ F K H locs LS hR hS hL)
theorem Rn.aload_nN {X : XS} {M : MD} {pc n : Nat} {ls : List (Option AV)} {st : List AV} {h : Hp} {Q : Option AV → Hp → Prop} {kk : Fin 4} {i : Nat} (d : decode M.2.1 pc = .ok (.aload_n kk, 1)) (hn : pc + 1 = n) (hi : (kk : Nat) = i) (hv : ls[i]? = some (some (vN))) (k : Rn X M n ls (vN :: st) h Q) : Rn X M pc ls st h Q := by
  subst hn
  intro p l e R s m args below meth c cells slots E QQ F K H locs LS hR hS hL
  exact lv_aload_nN F.1 F.2.1 d hi (asc_at hL hv) (k p l e R s m args below meth c cells slots E QQ F K H locs LS hR hS hL)
theorem Rn.istore_n {X : XS} {M : MD} {pc n : Nat} {ls : List (Option AV)} {st : List AV} {h : Hp} {Q : Option AV → Hp → Prop} {ls2 : List (Option AV)} {kk : Fin 4} {i : Nat} {x : Int32} (d : decode M.2.1 pc = .ok (.istore_n kk, 1)) (hn : pc + 1 = n) (hi : (kk : Nat) = i) (hb : i < M.2.2.1) (hl : st1 ls i (vI x) = ls2) (k : Rn X M n ls2 st h Q) : Rn X M pc ls (vI x :: st) h Q := by
  subst hn; subst hl
  intro p l e R s m args below meth c cells slots E QQ F K H locs LS hR hS hL
  exact lv_istore_n F.1 F.2.1 d hi hL hb rfl (fun LS2 hL2 => k p l e R s m args below meth c cells slots E QQ F K H locs LS2 hR hS (st1_has (v := vI x) hL2))
theorem Rn.istore {X : XS} {M : MD} {pc n : Nat} {ls : List (Option AV)} {st : List AV} {h : Hp} {Q : Option AV → Hp → Prop} {ls2 : List (Option AV)} {i : Nat} {x : Int32} (d : decode M.2.1 pc = .ok (.istore i, 2)) (hn : pc + 2 = n)  (hb : i < M.2.2.1) (hl : st1 ls i (vI x) = ls2) (k : Rn X M n ls2 st h Q) : Rn X M pc ls (vI x :: st) h Q := by
  subst hn; subst hl
  intro p l e R s m args below meth c cells slots E QQ F K H locs LS hR hS hL
  exact lv_istore F.1 F.2.1 d  hL hb rfl (fun LS2 hL2 => k p l e R s m args below meth c cells slots E QQ F K H locs LS2 hR hS (st1_has (v := vI x) hL2))
theorem Rn.lstore_n {X : XS} {M : MD} {pc n : Nat} {ls : List (Option AV)} {st : List AV} {h : Hp} {Q : Option AV → Hp → Prop} {ls2 : List (Option AV)} {kk : Fin 4} {i : Nat} {x : Int64} (d : decode M.2.1 pc = .ok (.lstore_n kk, 1)) (hn : pc + 1 = n) (hi : (kk : Nat) = i) (hb : i + 1 < M.2.2.1) (hl : st2 ls i (vL x) = ls2) (k : Rn X M n ls2 st h Q) : Rn X M pc ls (vL x :: st) h Q := by
  subst hn; subst hl
  intro p l e R s m args below meth c cells slots E QQ F K H locs LS hR hS hL
  exact lv_lstore_n F.1 F.2.1 d hi hL hb rfl (fun LS2 hL2 => k p l e R s m args below meth c cells slots E QQ F K H locs LS2 hR hS (st2_has (v := vL x) hL2))
theorem Rn.lstore {X : XS} {M : MD} {pc n : Nat} {ls : List (Option AV)} {st : List AV} {h : Hp} {Q : Option AV → Hp → Prop} {ls2 : List (Option AV)} {i : Nat} {x : Int64} (d : decode M.2.1 pc = .ok (.lstore i, 2)) (hn : pc + 2 = n)  (hb : i + 1 < M.2.2.1) (hl : st2 ls i (vL x) = ls2) (k : Rn X M n ls2 st h Q) : Rn X M pc ls (vL x :: st) h Q := by
  subst hn; subst hl
  intro p l e R s m args below meth c cells slots E QQ F K H locs LS hR hS hL
  exact lv_lstore F.1 F.2.1 d  hL hb rfl (fun LS2 hL2 => k p l e R s m args below meth c cells slots E QQ F K H locs LS2 hR hS (st2_has (v := vL x) hL2))
theorem Rn.astore_n {X : XS} {M : MD} {pc n : Nat} {ls : List (Option AV)} {st : List AV} {h : Hp} {Q : Option AV → Hp → Prop} {ls2 : List (Option AV)} {kk : Fin 4} {i : Nat} {x : List Nat} (d : decode M.2.1 pc = .ok (.astore_n kk, 1)) (hn : pc + 1 = n) (hi : (kk : Nat) = i) (hb : i < M.2.2.1) (hl : st1 ls i (vR x) = ls2) (k : Rn X M n ls2 st h Q) : Rn X M pc ls (vR x :: st) h Q := by
  subst hn; subst hl
  intro p l e R s m args below meth c cells slots E QQ F K H locs LS hR hS hL
  exact lv_astore_n F.1 F.2.1 d hi hL hb rfl (fun LS2 hL2 => k p l e R s m args below meth c cells slots E QQ F K H locs LS2 hR hS (st1_has (v := vR x) hL2))
theorem Rn.astore_nN {X : XS} {M : MD} {pc n : Nat} {ls : List (Option AV)} {st : List AV} {h : Hp} {Q : Option AV → Hp → Prop} {ls2 : List (Option AV)} {kk : Fin 4} {i : Nat} (d : decode M.2.1 pc = .ok (.astore_n kk, 1)) (hn : pc + 1 = n) (hi : (kk : Nat) = i) (hb : i < M.2.2.1) (hl : st1 ls i (vN) = ls2) (k : Rn X M n ls2 st h Q) : Rn X M pc ls (vN :: st) h Q := by
  subst hn; subst hl
  intro p l e R s m args below meth c cells slots E QQ F K H locs LS hR hS hL
  exact lv_astore_nN F.1 F.2.1 d hi hL hb rfl (fun LS2 hL2 => k p l e R s m args below meth c cells slots E QQ F K H locs LS2 hR hS (st1_has (v := vN) hL2))
theorem Rn.iinc {X : XS} {M : MD} {pc n : Nat} {ls : List (Option AV)} {st : List AV} {h : Hp} {Q : Option AV → Hp → Prop} {ls2 : List (Option AV)} {i : Nat} {z : Int} {x v : Int32} (d : decode M.2.1 pc = .ok (.iinc i z, 3)) (hn : pc + 3 = n) (hv : ls[i]? = some (some (vI x))) (hz : x + Int32.ofInt z = v) (hb : i < M.2.2.1) (hl : st1 ls i (vI v) = ls2) (k : Rn X M n ls2 st h Q) : Rn X M pc ls st h Q := by
  subst hn; subst hl
  intro p l e R s m args below meth c cells slots E QQ F K H locs LS hR hS hL
  have hm : (i, Value.int x) ∈ asc E ls := mem_asc.mpr ⟨vI x, hv, rfl⟩
  obtain ⟨j, hj⟩ := List.getElem?_of_mem hm
  exact lv_iinc F.1 F.2.1 d hL hj hz hb rfl (fun LS2 hL2 => k p l e R s m args below meth c cells slots E QQ F K H locs LS2 hR hS (st1_has (v := vI v) hL2))
theorem Rn.icmp_eq {X : XS} {M : MD} {pc n : Nat} {ls : List (Option AV)} {st : List AV} {h : Hp} {Q : Option AV → Hp → Prop} {t : Nat} {off : Int} {x y : Int32} (d : decode M.2.1 pc = .ok (.if_icmp .eq off, 3)) (hn : pc + 3 = n) (ht : (pc : Int) + off = (t : Int)) (kt : x = y → Rn X M t ls st h Q) (kf : ¬ x = y → Rn X M n ls st h Q) : Rn X M pc ls (vI y :: vI x :: st) h Q := by
  subst hn
  intro p l e R s m args below meth c cells slots E QQ F K H locs LS hR hS hL
  exact lv_icmp_eq F.1 F.2.1 d ht (fun z => kt z p l e R s m args below meth c cells slots E QQ F K H locs LS hR hS hL) (fun z => kf z p l e R s m args below meth c cells slots E QQ F K H locs LS hR hS hL)
theorem Rn.if_eq {X : XS} {M : MD} {pc n : Nat} {ls : List (Option AV)} {st : List AV} {h : Hp} {Q : Option AV → Hp → Prop} {t : Nat} {off : Int} {x : Int32} (d : decode M.2.1 pc = .ok (.ifCond .eq off, 3)) (hn : pc + 3 = n) (ht : (pc : Int) + off = (t : Int)) (kt : x = 0 → Rn X M t ls st h Q) (kf : ¬ x = 0 → Rn X M n ls st h Q) : Rn X M pc ls (vI x :: st) h Q := by
  subst hn
  intro p l e R s m args below meth c cells slots E QQ F K H locs LS hR hS hL
  exact lv_if_eq F.1 F.2.1 d ht (fun z => kt z p l e R s m args below meth c cells slots E QQ F K H locs LS hR hS hL) (fun z => kf z p l e R s m args below meth c cells slots E QQ F K H locs LS hR hS hL)
theorem Rn.icmp_ne {X : XS} {M : MD} {pc n : Nat} {ls : List (Option AV)} {st : List AV} {h : Hp} {Q : Option AV → Hp → Prop} {t : Nat} {off : Int} {x y : Int32} (d : decode M.2.1 pc = .ok (.if_icmp .ne off, 3)) (hn : pc + 3 = n) (ht : (pc : Int) + off = (t : Int)) (kt : ¬ x = y → Rn X M t ls st h Q) (kf : x = y → Rn X M n ls st h Q) : Rn X M pc ls (vI y :: vI x :: st) h Q := by
  subst hn
  intro p l e R s m args below meth c cells slots E QQ F K H locs LS hR hS hL
  exact lv_icmp_ne F.1 F.2.1 d ht (fun z => kt z p l e R s m args below meth c cells slots E QQ F K H locs LS hR hS hL) (fun z => kf z p l e R s m args below meth c cells slots E QQ F K H locs LS hR hS hL)
theorem Rn.if_ne {X : XS} {M : MD} {pc n : Nat} {ls : List (Option AV)} {st : List AV} {h : Hp} {Q : Option AV → Hp → Prop} {t : Nat} {off : Int} {x : Int32} (d : decode M.2.1 pc = .ok (.ifCond .ne off, 3)) (hn : pc + 3 = n) (ht : (pc : Int) + off = (t : Int)) (kt : ¬ x = 0 → Rn X M t ls st h Q) (kf : x = 0 → Rn X M n ls st h Q) : Rn X M pc ls (vI x :: st) h Q := by
  subst hn
  intro p l e R s m args below meth c cells slots E QQ F K H locs LS hR hS hL
  exact lv_if_ne F.1 F.2.1 d ht (fun z => kt z p l e R s m args below meth c cells slots E QQ F K H locs LS hR hS hL) (fun z => kf z p l e R s m args below meth c cells slots E QQ F K H locs LS hR hS hL)
theorem Rn.icmp_lt {X : XS} {M : MD} {pc n : Nat} {ls : List (Option AV)} {st : List AV} {h : Hp} {Q : Option AV → Hp → Prop} {t : Nat} {off : Int} {x y : Int32} (d : decode M.2.1 pc = .ok (.if_icmp .lt off, 3)) (hn : pc + 3 = n) (ht : (pc : Int) + off = (t : Int)) (kt : x < y → Rn X M t ls st h Q) (kf : ¬ x < y → Rn X M n ls st h Q) : Rn X M pc ls (vI y :: vI x :: st) h Q := by
  subst hn
  intro p l e R s m args below meth c cells slots E QQ F K H locs LS hR hS hL
  exact lv_icmp_lt F.1 F.2.1 d ht (fun z => kt z p l e R s m args below meth c cells slots E QQ F K H locs LS hR hS hL) (fun z => kf z p l e R s m args below meth c cells slots E QQ F K H locs LS hR hS hL)
theorem Rn.if_lt {X : XS} {M : MD} {pc n : Nat} {ls : List (Option AV)} {st : List AV} {h : Hp} {Q : Option AV → Hp → Prop} {t : Nat} {off : Int} {x : Int32} (d : decode M.2.1 pc = .ok (.ifCond .lt off, 3)) (hn : pc + 3 = n) (ht : (pc : Int) + off = (t : Int)) (kt : x < 0 → Rn X M t ls st h Q) (kf : ¬ x < 0 → Rn X M n ls st h Q) : Rn X M pc ls (vI x :: st) h Q := by
  subst hn
  intro p l e R s m args below meth c cells slots E QQ F K H locs LS hR hS hL
  exact lv_if_lt F.1 F.2.1 d ht (fun z => kt z p l e R s m args below meth c cells slots E QQ F K H locs LS hR hS hL) (fun z => kf z p l e R s m args below meth c cells slots E QQ F K H locs LS hR hS hL)
theorem Rn.icmp_ge {X : XS} {M : MD} {pc n : Nat} {ls : List (Option AV)} {st : List AV} {h : Hp} {Q : Option AV → Hp → Prop} {t : Nat} {off : Int} {x y : Int32} (d : decode M.2.1 pc = .ok (.if_icmp .ge off, 3)) (hn : pc + 3 = n) (ht : (pc : Int) + off = (t : Int)) (kt : y ≤ x → Rn X M t ls st h Q) (kf : ¬ y ≤ x → Rn X M n ls st h Q) : Rn X M pc ls (vI y :: vI x :: st) h Q := by
  subst hn
  intro p l e R s m args below meth c cells slots E QQ F K H locs LS hR hS hL
  exact lv_icmp_ge F.1 F.2.1 d ht (fun z => kt z p l e R s m args below meth c cells slots E QQ F K H locs LS hR hS hL) (fun z => kf z p l e R s m args below meth c cells slots E QQ F K H locs LS hR hS hL)
theorem Rn.if_ge {X : XS} {M : MD} {pc n : Nat} {ls : List (Option AV)} {st : List AV} {h : Hp} {Q : Option AV → Hp → Prop} {t : Nat} {off : Int} {x : Int32} (d : decode M.2.1 pc = .ok (.ifCond .ge off, 3)) (hn : pc + 3 = n) (ht : (pc : Int) + off = (t : Int)) (kt : 0 ≤ x → Rn X M t ls st h Q) (kf : ¬ 0 ≤ x → Rn X M n ls st h Q) : Rn X M pc ls (vI x :: st) h Q := by
  subst hn
  intro p l e R s m args below meth c cells slots E QQ F K H locs LS hR hS hL
  exact lv_if_ge F.1 F.2.1 d ht (fun z => kt z p l e R s m args below meth c cells slots E QQ F K H locs LS hR hS hL) (fun z => kf z p l e R s m args below meth c cells slots E QQ F K H locs LS hR hS hL)
theorem Rn.icmp_gt {X : XS} {M : MD} {pc n : Nat} {ls : List (Option AV)} {st : List AV} {h : Hp} {Q : Option AV → Hp → Prop} {t : Nat} {off : Int} {x y : Int32} (d : decode M.2.1 pc = .ok (.if_icmp .gt off, 3)) (hn : pc + 3 = n) (ht : (pc : Int) + off = (t : Int)) (kt : y < x → Rn X M t ls st h Q) (kf : ¬ y < x → Rn X M n ls st h Q) : Rn X M pc ls (vI y :: vI x :: st) h Q := by
  subst hn
  intro p l e R s m args below meth c cells slots E QQ F K H locs LS hR hS hL
  exact lv_icmp_gt F.1 F.2.1 d ht (fun z => kt z p l e R s m args below meth c cells slots E QQ F K H locs LS hR hS hL) (fun z => kf z p l e R s m args below meth c cells slots E QQ F K H locs LS hR hS hL)
theorem Rn.if_gt {X : XS} {M : MD} {pc n : Nat} {ls : List (Option AV)} {st : List AV} {h : Hp} {Q : Option AV → Hp → Prop} {t : Nat} {off : Int} {x : Int32} (d : decode M.2.1 pc = .ok (.ifCond .gt off, 3)) (hn : pc + 3 = n) (ht : (pc : Int) + off = (t : Int)) (kt : 0 < x → Rn X M t ls st h Q) (kf : ¬ 0 < x → Rn X M n ls st h Q) : Rn X M pc ls (vI x :: st) h Q := by
  subst hn
  intro p l e R s m args below meth c cells slots E QQ F K H locs LS hR hS hL
  exact lv_if_gt F.1 F.2.1 d ht (fun z => kt z p l e R s m args below meth c cells slots E QQ F K H locs LS hR hS hL) (fun z => kf z p l e R s m args below meth c cells slots E QQ F K H locs LS hR hS hL)
theorem Rn.icmp_le {X : XS} {M : MD} {pc n : Nat} {ls : List (Option AV)} {st : List AV} {h : Hp} {Q : Option AV → Hp → Prop} {t : Nat} {off : Int} {x y : Int32} (d : decode M.2.1 pc = .ok (.if_icmp .le off, 3)) (hn : pc + 3 = n) (ht : (pc : Int) + off = (t : Int)) (kt : x ≤ y → Rn X M t ls st h Q) (kf : ¬ x ≤ y → Rn X M n ls st h Q) : Rn X M pc ls (vI y :: vI x :: st) h Q := by
  subst hn
  intro p l e R s m args below meth c cells slots E QQ F K H locs LS hR hS hL
  exact lv_icmp_le F.1 F.2.1 d ht (fun z => kt z p l e R s m args below meth c cells slots E QQ F K H locs LS hR hS hL) (fun z => kf z p l e R s m args below meth c cells slots E QQ F K H locs LS hR hS hL)
theorem Rn.if_le {X : XS} {M : MD} {pc n : Nat} {ls : List (Option AV)} {st : List AV} {h : Hp} {Q : Option AV → Hp → Prop} {t : Nat} {off : Int} {x : Int32} (d : decode M.2.1 pc = .ok (.ifCond .le off, 3)) (hn : pc + 3 = n) (ht : (pc : Int) + off = (t : Int)) (kt : x ≤ 0 → Rn X M t ls st h Q) (kf : ¬ x ≤ 0 → Rn X M n ls st h Q) : Rn X M pc ls (vI x :: st) h Q := by
  subst hn
  intro p l e R s m args below meth c cells slots E QQ F K H locs LS hR hS hL
  exact lv_if_le F.1 F.2.1 d ht (fun z => kt z p l e R s m args below meth c cells slots E QQ F K H locs LS hR hS hL) (fun z => kf z p l e R s m args below meth c cells slots E QQ F K H locs LS hR hS hL)
theorem Rn.goto {X : XS} {M : MD} {pc n : Nat} {ls : List (Option AV)} {st : List AV} {h : Hp} {Q : Option AV → Hp → Prop} {off : Int} (d : decode M.2.1 pc = .ok (.goto off, 3)) (ht : (pc : Int) + off = (n : Int)) (k : Rn X M n ls st h Q) : Rn X M pc ls st h Q := by
  intro p l e R s m args below meth c cells slots E QQ F K H locs LS hR hS hL
  exact lv_goto F.1 F.2.1 d ht (k p l e R s m args below meth c cells slots E QQ F K H locs LS hR hS hL)
theorem Rn.ifnullN {X : XS} {M : MD} {pc n : Nat} {ls : List (Option AV)} {st : List AV} {h : Hp} {Q : Option AV → Hp → Prop} {x : List Nat} {off : Int} (d : decode M.2.1 pc = .ok (.ifnull off, 3)) (ht : (pc : Int) + off = (n : Int)) (k : Rn X M n ls st h Q) : Rn X M pc ls (vN :: st) h Q := by
  intro p l e R s m args below meth c cells slots E QQ F K H locs LS hR hS hL
  exact lv_ifnullN F.1 F.2.1 d ht (k p l e R s m args below meth c cells slots E QQ F K H locs LS hR hS hL)
theorem Rn.ifnonnullR {X : XS} {M : MD} {pc n : Nat} {ls : List (Option AV)} {st : List AV} {h : Hp} {Q : Option AV → Hp → Prop} {x : List Nat} {off : Int} (d : decode M.2.1 pc = .ok (.ifnonnull off, 3)) (ht : (pc : Int) + off = (n : Int)) (k : Rn X M n ls st h Q) : Rn X M pc ls (vR x :: st) h Q := by
  intro p l e R s m args below meth c cells slots E QQ F K H locs LS hR hS hL
  exact lv_ifnonnull F.1 F.2.1 d ht (k p l e R s m args below meth c cells slots E QQ F K H locs LS hR hS hL)
theorem Rn.ifnullR {X : XS} {M : MD} {pc n : Nat} {ls : List (Option AV)} {st : List AV} {h : Hp} {Q : Option AV → Hp → Prop} {x : List Nat} {off : Int} (d : decode M.2.1 pc = .ok (.ifnull off, 3)) (hn : pc + 3 = n) (k : Rn X M n ls st h Q) : Rn X M pc ls (vR x :: st) h Q := by
  subst hn
  intro p l e R s m args below meth c cells slots E QQ F K H locs LS hR hS hL
  exact lv_ifnull F.1 F.2.1 d (k p l e R s m args below meth c cells slots E QQ F K H locs LS hR hS hL)
theorem Rn.ifnonnullN {X : XS} {M : MD} {pc n : Nat} {ls : List (Option AV)} {st : List AV} {h : Hp} {Q : Option AV → Hp → Prop} {x : List Nat} {off : Int} (d : decode M.2.1 pc = .ok (.ifnonnull off, 3)) (hn : pc + 3 = n) (k : Rn X M n ls st h Q) : Rn X M pc ls (vN :: st) h Q := by
  subst hn
  intro p l e R s m args below meth c cells slots E QQ F K H locs LS hR hS hL
  exact lv_ifnonnullN F.1 F.2.1 d (k p l e R s m args below meth c cells slots E QQ F K H locs LS hR hS hL)
theorem Rn.tsw {X : XS} {M : MD} {pc n : Nat} {ls : List (Option AV)} {st : List AV} {h : Hp} {Q : Option AV → Hp → Prop} {len : Nat} {dflt lo hi : Int} {offs : Array Int} {x : Int32} (d : decode M.2.1 pc = .ok (.tableswitch dflt lo hi offs, len)) (hout : x.toInt < lo ∨ hi < x.toInt → ∃ t : Nat, (pc : Int) + dflt = (t : Int) ∧ Rn X M t ls st h Q) (hin : ∀ j : Nat, lo ≤ x.toInt → x.toInt ≤ hi → x.toInt = lo + j → ∃ (off : Int) (t : Nat), offs[j]? = some off ∧ (pc : Int) + off = (t : Int) ∧ Rn X M t ls st h Q) : Rn X M pc ls (vI x :: st) h Q := by
  intro p l e R s m args below meth c cells slots E QQ F K H locs LS hR hS hL
  by_cases h1 : x.toInt < lo ∨ hi < x.toInt
  · obtain ⟨t, ht, k⟩ := hout h1
    exact lv_tableOut F.1 F.2.1 d h1 ht (k p l e R s m args below meth c cells slots E QQ F K H locs LS hR hS hL)
  · have g1 : ¬ x.toInt < lo := fun z => h1 (Or.inl z)
    have g2 : ¬ hi < x.toInt := fun z => h1 (Or.inr z)
    obtain ⟨off, t, ho, ht, k⟩ := hin (x.toInt - lo).toNat (by omega) (by omega) (by omega)
    exact lv_tableIn F.1 F.2.1 d g1 g2 ho ht (k p l e R s m args below meth c cells slots E QQ F K H locs LS hR hS hL)
theorem Rn.iret {X : XS} {M : MD} {pc : Nat} {ls : List (Option AV)} {h : Hp} {Q : Option AV → Hp → Prop} {x : Int32} {ty : FieldType} (d : decode M.2.1 pc = .ok (.ireturn, 1)) (hty : M.2.2.2.1 = some ty) (hx : narrow ty (.int x) = .int x) (k : Q (some (vI x)) h) : Rn X M pc ls [vI x] h Q := by
  intro p l e R s m args below meth c cells slots E QQ F K H locs LS hR hS hL
  exact K _ _ k pc ⟨d, ty, hty, hx⟩ H locs LS hR hS
theorem Rn.lret {X : XS} {M : MD} {pc : Nat} {ls : List (Option AV)} {h : Hp} {Q : Option AV → Hp → Prop} {x : Int64} (d : decode M.2.1 pc = .ok (.lreturn, 1)) (hty : M.2.2.2.1 = some .long) (k : Q (some (vL x)) h) : Rn X M pc ls [vL x] h Q := by
  intro p l e R s m args below meth c cells slots E QQ F K H locs LS hR hS hL
  exact K _ _ k pc ⟨d, hty⟩ H locs LS hR hS
theorem Rn.aret {X : XS} {M : MD} {pc : Nat} {ls : List (Option AV)} {h : Hp} {Q : Option AV → Hp → Prop} {x : Option (List Nat)} (d : decode M.2.1 pc = .ok (.areturn, 1)) (hty : ∃ n, M.2.2.2.1 = some (.object n)) (k : Q (some (.inr x)) h) : Rn X M pc ls [.inr x] h Q := by
  intro p l e R s m args below meth c cells slots E QQ F K H locs LS hR hS hL
  exact K _ _ k pc ⟨d, hty⟩ H locs LS hR hS
theorem Rn.vret {X : XS} {M : MD} {pc : Nat} {ls : List (Option AV)} {h : Hp} {Q : Option AV → Hp → Prop} (d : decode M.2.1 pc = .ok (.return_, 1)) (hty : M.2.2.2.1 = none) (k : Q none h) : Rn X M pc ls [] h Q := by
  intro p l e R s m args below meth c cells slots E QQ F K H locs LS hR hS hL
  exact K _ _ k pc ⟨d, hty⟩ H locs LS hR hS
theorem Rn.loc {X : XS} {M : MD} {pc : Nat} {ls : List (Option AV)} {st : List AV} {h : Hp} {Q : Option AV → Hp → Prop} (ls2 : List (Option AV)) (hl : ∀ (k : Nat) (w : AV), ls2[k]? = some (some w) → ls[k]? = some (some w)) (k : Rn X M pc ls2 st h Q) : Rn X M pc ls st h Q := by
  intro p l e R s m args below meth c cells slots E QQ F K H locs LS hR hS hL
  exact k p l e R s m args below meth c cells slots E QQ F K H locs LS hR hS (asc_le hL hl)
theorem Rn.mono {X : XS} {M : MD} {pc : Nat} {ls : List (Option AV)} {st : List AV} {h : Hp} {Q Q2 : Option AV → Hp → Prop} (k : Rn X M pc ls st h Q) (hq : ∀ v h', Q v h' → Q2 v h') : Rn X M pc ls st h Q2 := by
  intro p l e R s m args below meth c cells slots E QQ F K H locs LS hR hS hL
  exact k p l e R s m args below meth c cells slots E QQ F (fun v h' hv => K v h' (hq v h' hv)) H locs LS hR hS hL
def cty : Nat → Nat → FieldType := fun c => match c with | 0 => tyX0 | 1 => tyX1 | 2 => tyX2 | 3 => tyX3 | 4 => tyX4 | 5 => tyX5 | 6 => tyX6 | _ => tyX7
theorem clsU_ok : ∀ (ci : Nat) (C : String) (T : u_T) (N : Nat), clsU[ci]? = some (C, T, N) → (∀ w ∈ u_ws C T N, w ∈ wsG) ∧ (∀ k, k < N → parseFieldDescriptor (T k).2.2.1 = some (cty ci k)) ∧ (∀ a, a < N → ∀ b, b < N → a ≠ b → (T a).2.1 ≠ (T b).2.1) ∧ nfl ci = N ∧ ci < 8 ∧ (∀ k, k < N → fty ci k = 0 → cty ci k = .int) ∧ (∀ k, k < N → fty ci k = 1 → cty ci k = .boolean) ∧ (∀ k, k < N → fty ci k = 3 → cty ci k = .long)
  | 0, _, _, _, h => by cases h; exact ⟨iwX0, tyX0_ok, nmX0, rfl, by decide, by decide +kernel, by decide +kernel, by decide +kernel⟩
  | 1, _, _, _, h => by cases h; exact ⟨iwX1, tyX1_ok, nmX1, rfl, by decide, by decide +kernel, by decide +kernel, by decide +kernel⟩
  | 2, _, _, _, h => by cases h; exact ⟨iwX2, tyX2_ok, nmX2, rfl, by decide, by decide +kernel, by decide +kernel, by decide +kernel⟩
  | 3, _, _, _, h => by cases h; exact ⟨iwX3, tyX3_ok, nmX3, rfl, by decide, by decide +kernel, by decide +kernel, by decide +kernel⟩
  | 4, _, _, _, h => by cases h; exact ⟨iwX4, tyX4_ok, nmX4, rfl, by decide, by decide +kernel, by decide +kernel, by decide +kernel⟩
  | 5, _, _, _, h => by cases h; exact ⟨iwX5, tyX5_ok, nmX5, rfl, by decide, by decide +kernel, by decide +kernel, by decide +kernel⟩
  | 6, _, _, _, h => by cases h; exact ⟨iwX6, tyX6_ok, nmX6, rfl, by decide, by decide +kernel, by decide +kernel, by decide +kernel⟩
  | 7, _, _, _, h => by cases h; exact ⟨iwX7, tyX7_ok, nmX7, rfl, by decide, by decide +kernel, by decide +kernel, by decide +kernel⟩
  | i + 8, _, _, _, h => by cases h
theorem celU_obj {E : EU} {h : Hp} {p : List Nat} {ci n : Nat} (hc : ci < 8) : celU E h (p, ci, n) = (EU.ad E p, .inr (ci, (List.range (nfl ci)).map (fun k => cv E (gv h p ci k)))) := by
  match ci, hc with
  | 0, _ => rfl
  | 1, _ => rfl
  | 2, _ => rfl
  | 3, _ => rfl
  | 4, _ => rfl
  | 5, _ => rfl
  | 6, _ => rfl
  | 7, _ => rfl
theorem Rn.getf {X : XS} {M : MD} {pc n : Nat} {ls : List (Option AV)} {st : List AV} {h : Hp} {Q : Option AV → Hp → Prop} {idx ci kk n0 : Nat} {p0 : List Nat} {v : AV} (d : decode M.2.1 pc = .ok (.getfield idx, 3)) (hn : pc + 3 = n) (lk : FLk M.1.cls idx ci kk) (hp : Liv p0 ci n0) (hv : gv h p0 ci kk = v) (k : Rn X M n ls (v :: st) h Q) : Rn X M pc ls (vR p0 :: st) h Q := by
  subst hn; subst hv
  intro p l e R s m args below meth c cells slots E QQ F K H locs LS hR hS hL
  obtain ⟨C, T, N, hc, hk, hw⟩ := lk
  obtain ⟨c1, c2, c3, c4, c5, -⟩ := clsU_ok ci C T N hc
  obtain ⟨i, hi, hi2⟩ := live_ix hp E h
  rw [celU_obj c5] at hi2
  exact va_get (D := E.1) (cl := clsU) (tys := tysU E) (C := C) (T := T) (N := N) F.1 F.2.1 F.2.2.2.2.1 c1 F.2.2.2.1 F.2.2.2.2.2.1.1 hR.1 i hi2 hc kk hk (F.2.2.2.2.1 _ hw) (fun _ z => z) (v := cv E (gv h p0 ci kk)) (by rw [List.getElem?_map, List.getElem?_range (by omega)]; rfl) d (k p l e R s m args below meth c cells slots E QQ F K H locs LS hR hS hL)

theorem obj_set {E : EU} {h h' : Hp} {p : List Nat} {ci kk n i : Nat} {v : Value} (hc : ci < 8) (hi : live[i]? = some (p, ci, n)) (hne : ∀ q : CU, q.1 ≠ p → celU E h' q = celU E h q) (hv : cv E (gv h' p ci kk) = v) (ho : ∀ j, j ≠ kk → gv h' p ci j = gv h p ci j) :
    (live.map (celU E h)).set i (EU.ad E p, .inr (ci, ((List.range (nfl ci)).map (fun k => cv E (gv h p ci k))).set kk v)) = live.map (celU E h') := by
  have e : ((List.range (nfl ci)).map (fun k => cv E (gv h p ci k))).set kk v = (List.range (nfl ci)).map (fun k => cv E (gv h' p ci k)) := by
    apply List.ext_getElem?
    intro j
    rw [List.getElem?_set]
    by_cases hj : kk = j
    · subst hj
      rw [if_pos rfl]
      by_cases hl : kk < nfl ci
      · rw [if_pos (by simpa using hl), List.getElem?_map, List.getElem?_range hl, ← hv]; rfl
      · rw [if_neg (by simpa using hl), List.getElem?_eq_none (by simpa using hl)]
    · rw [if_neg hj, List.getElem?_map, List.getElem?_map]
      by_cases hl : j < nfl ci
      · rw [List.getElem?_range hl]
        show some (cv E (gv h p ci j)) = some (cv E (gv h' p ci j))
        rw [ho j (fun z => hj z.symm)]
      · rw [List.getElem?_eq_none (by simpa using hl)]
        rfl
  rw [e, ← celU_obj (n := n) hc]
  exact live_set hi hne
theorem Rn.putI {X : XS} {M : MD} {pc n : Nat} {ls : List (Option AV)} {st : List AV} {h : Hp} {Q : Option AV → Hp → Prop} {idx ci kk n0 : Nat} {p0 : List Nat} {x : Int32} (d : decode M.2.1 pc = .ok (.putfield idx, 3)) (hn : pc + 3 = n) (lk : FLk M.1.cls idx ci kk) (pl : PLk ci kk) (hp : Liv p0 ci n0) (hf : fty ci kk = 0)  (k : Rn X M n ls st (hsI h p0 kk x) Q) : Rn X M pc ls (vI x :: vR p0 :: st) h Q := by
  subst hn
  intro p l e R s m args below meth c cells slots E QQ F K H locs LS hR hS hL
  obtain ⟨C, T, N, hc, hk, hw⟩ := lk
  obtain ⟨c1, c2, c3, c4, c5, t0, t1, t3⟩ := clsU_ok ci C T N hc
  obtain ⟨i, hi, hi2⟩ := live_ix hp E h
  rw [celU_obj c5] at hi2
  have e8 := obj_set (E := E) (h := h) (h' := hsI h p0 kk x) (v := cv E (vI x)) c5 hi (fun q hq => celE_congr (hsI_other hq) rfl) (by unfold gv; rw [hf]; simp [hsI]) (fun j hj => by unfold gv; simp [hsI, hj])
  refine va_put (D := E.1) (cl := clsU) (tys := tysU E) (C := C) (T := T) (N := N) (ty := cty ci kk) (v := cv E (vI x)) F.1 F.2.1 F.2.2.2.2.1 c1 (cty ci) c2 c3 F.2.2.2.1 F.2.2.2.2.2.1.1 hR.1 hR.2 hS i hi2 hc kk hk (F.2.2.2.2.1 _ hw) (fun _ z => z) (pl C T N hc) (c2 kk hk) (by rw [t0 kk hk hf]; rfl) (by rw [t0 kk hk hf]; rfl) (by simp; omega) d (fun H1 locs1 hP1 hD1 hS1 => ?_)
  rw [e8] at hP1 hD1
  exact k p l e R s m args below meth c cells slots E QQ F K H1 locs1 LS ⟨hP1, hD1⟩ hS1 hL
theorem Rn.putZ {X : XS} {M : MD} {pc n : Nat} {ls : List (Option AV)} {st : List AV} {h : Hp} {Q : Option AV → Hp → Prop} {idx ci kk n0 : Nat} {p0 : List Nat} {x : Int32} (d : decode M.2.1 pc = .ok (.putfield idx, 3)) (hn : pc + 3 = n) (lk : FLk M.1.cls idx ci kk) (pl : PLk ci kk) (hp : Liv p0 ci n0) (hf : fty ci kk = 1) (hx : x = 0 ∨ x = 1) (k : Rn X M n ls st (hsI h p0 kk x) Q) : Rn X M pc ls (vI x :: vR p0 :: st) h Q := by
  subst hn
  intro p l e R s m args below meth c cells slots E QQ F K H locs LS hR hS hL
  obtain ⟨C, T, N, hc, hk, hw⟩ := lk
  obtain ⟨c1, c2, c3, c4, c5, t0, t1, t3⟩ := clsU_ok ci C T N hc
  obtain ⟨i, hi, hi2⟩ := live_ix hp E h
  rw [celU_obj c5] at hi2
  have e8 := obj_set (E := E) (h := h) (h' := hsI h p0 kk x) (v := cv E (vI x)) c5 hi (fun q hq => celE_congr (hsI_other hq) rfl) (by unfold gv; rw [hf]; simp [hsI]) (fun j hj => by unfold gv; simp [hsI, hj])
  refine va_put (D := E.1) (cl := clsU) (tys := tysU E) (C := C) (T := T) (N := N) (ty := cty ci kk) (v := cv E (vI x)) F.1 F.2.1 F.2.2.2.2.1 c1 (cty ci) c2 c3 F.2.2.2.1 F.2.2.2.2.2.1.1 hR.1 hR.2 hS i hi2 hc kk hk (F.2.2.2.2.1 _ hw) (fun _ z => z) (pl C T N hc) (c2 kk hk) (by rw [t1 kk hk hf]; rcases hx with rfl | rfl <;> rfl) (by rw [t1 kk hk hf]; rcases hx with rfl | rfl <;> rfl) (by simp; omega) d (fun H1 locs1 hP1 hD1 hS1 => ?_)
  rw [e8] at hP1 hD1
  exact k p l e R s m args below meth c cells slots E QQ F K H1 locs1 LS ⟨hP1, hD1⟩ hS1 hL
theorem Rn.putL {X : XS} {M : MD} {pc n : Nat} {ls : List (Option AV)} {st : List AV} {h : Hp} {Q : Option AV → Hp → Prop} {idx ci kk n0 : Nat} {p0 : List Nat} {x : Int64} (d : decode M.2.1 pc = .ok (.putfield idx, 3)) (hn : pc + 3 = n) (lk : FLk M.1.cls idx ci kk) (pl : PLk ci kk) (hp : Liv p0 ci n0) (hf : fty ci kk = 3)  (k : Rn X M n ls st (hsL h p0 kk x) Q) : Rn X M pc ls (vL x :: vR p0 :: st) h Q := by
  subst hn
  intro p l e R s m args below meth c cells slots E QQ F K H locs LS hR hS hL
  obtain ⟨C, T, N, hc, hk, hw⟩ := lk
  obtain ⟨c1, c2, c3, c4, c5, t0, t1, t3⟩ := clsU_ok ci C T N hc
  obtain ⟨i, hi, hi2⟩ := live_ix hp E h
  rw [celU_obj c5] at hi2
  have e8 := obj_set (E := E) (h := h) (h' := hsL h p0 kk x) (v := cv E (vL x)) c5 hi (fun q hq => celE_congr rfl (hsL_other hq)) (by unfold gv; rw [hf]; simp [hsL]) (fun j hj => by unfold gv; simp [hsL, hj])
  refine va_put (D := E.1) (cl := clsU) (tys := tysU E) (C := C) (T := T) (N := N) (ty := cty ci kk) (v := cv E (vL x)) F.1 F.2.1 F.2.2.2.2.1 c1 (cty ci) c2 c3 F.2.2.2.1 F.2.2.2.2.2.1.1 hR.1 hR.2 hS i hi2 hc kk hk (F.2.2.2.2.1 _ hw) (fun _ z => z) (pl C T N hc) (c2 kk hk) (by rw [t3 kk hk hf]; rfl) (by rw [t3 kk hk hf]; rfl) (by simp; omega) d (fun H1 locs1 hP1 hD1 hS1 => ?_)
  rw [e8] at hP1 hD1
  exact k p l e R s m args below meth c cells slots E QQ F K H1 locs1 LS ⟨hP1, hD1⟩ hS1 hL
theorem Rn.iald {X : XS} {M : MD} {pc n : Nat} {ls : List (Option AV)} {st : List AV} {h : Hp} {Q : Option AV → Hp → Prop} {len : Nat} {p0 : List Nat} {i : Int32} {v : Int32} (d : decode M.2.1 pc = .ok (.iaload, 1)) (hn : pc + 1 = n) (hp : Liv p0 8 len) (hi : vp_in i len) (hv : h.1 p0 i.toNatClampNeg = v) (k : Rn X M n ls (vI v :: st) h Q) : Rn X M pc ls (vI i :: vR p0 :: st) h Q := by
  subst hn; subst hv
  intro p l e R s m args below meth c cells slots E QQ F K H locs LS hR hS hL
  obtain ⟨j, hj, hj2⟩ := live_ix hp E h
  exact va_iald (D := E.1) (cl := clsU) (tys := tysU E) F.1 F.2.1 F.2.2.2.2.2.1.1 hR.1 j 0 hj2 rfl hi d (k p l e R s m args below meth c cells slots E QQ F K H locs LS hR hS hL)
theorem Rn.zald {X : XS} {M : MD} {pc n : Nat} {ls : List (Option AV)} {st : List AV} {h : Hp} {Q : Option AV → Hp → Prop} {len : Nat} {p0 : List Nat} {i : Int32} {v : Int32} (d : decode M.2.1 pc = .ok (.baload, 1)) (hn : pc + 1 = n) (hp : Liv p0 9 len) (hi : vp_in i len) (hv : h.1 p0 i.toNatClampNeg = v) (k : Rn X M n ls (vI v :: st) h Q) : Rn X M pc ls (vI i :: vR p0 :: st) h Q := by
  subst hn; subst hv
  intro p l e R s m args below meth c cells slots E QQ F K H locs LS hR hS hL
  obtain ⟨j, hj, hj2⟩ := live_ix hp E h
  exact va_zald (D := E.1) (cl := clsU) (tys := tysU E) F.1 F.2.1 F.2.2.2.2.2.1.1 hR.1 j 1 hj2 rfl hi d (k p l e R s m args below meth c cells slots E QQ F K H locs LS hR hS hL)
theorem Rn.iast {X : XS} {M : MD} {pc n : Nat} {ls : List (Option AV)} {st : List AV} {h : Hp} {Q : Option AV → Hp → Prop} {len : Nat} {p0 : List Nat} {i : Int32} {x : Int32} (d : decode M.2.1 pc = .ok (.iastore, 1)) (hn : pc + 1 = n) (hp : Liv p0 8 len) (hi : vp_in i len) (k : Rn X M n ls st (hsI h p0 i.toNatClampNeg x) Q) : Rn X M pc ls (vI x :: vI i :: vR p0 :: st) h Q := by
  subst hn
  intro p l e R s m args below meth c cells slots E QQ F K H locs LS hR hS hL
  obtain ⟨j, hj, hj2⟩ := live_ix hp E h
  refine va_iast (D := E.1) (cl := clsU) (tys := tysU E) F.1 F.2.1 F.2.2.2.2.2.1.1 hR.1 hR.2 hS j 0 hj2 rfl hi d (fun H1 locs1 hP1 hD1 hS1 => ?_)
  have hu : upd (h.1 p0) i.toNatClampNeg x = (hsI h p0 i.toNatClampNeg x).1 p0 := by
    funext a
    simp [upd, hsI]
  have e8 := live_set (E := E) (h := h) (h' := hsI h p0 i.toNatClampNeg x) hj (fun q hq => celE_congr (hsI_other hq) rfl)
  rw [hu] at hP1 hD1
  rw [show celU E (hsI h p0 i.toNatClampNeg x) (p0, 8, len) = (EU.ad E p0, .inl (E.2.1.1, len, .inl ((hsI h p0 i.toNatClampNeg x).1 p0))) from rfl] at e8
  rw [e8] at hP1 hD1
  exact k p l e R s m args below meth c cells slots E QQ F K H1 locs1 LS ⟨hP1, hD1⟩ hS1 hL
theorem Rn.zast {X : XS} {M : MD} {pc n : Nat} {ls : List (Option AV)} {st : List AV} {h : Hp} {Q : Option AV → Hp → Prop} {len : Nat} {p0 : List Nat} {i : Int32} {x y : Int32} (d : decode M.2.1 pc = .ok (.bastore, 1)) (hn : pc + 1 = n) (hp : Liv p0 9 len) (hi : vp_in i len) (hx : vp_nar .boolean x = y) (k : Rn X M n ls st (hsI h p0 i.toNatClampNeg y) Q) : Rn X M pc ls (vI x :: vI i :: vR p0 :: st) h Q := by
  subst hn; subst hx
  intro p l e R s m args below meth c cells slots E QQ F K H locs LS hR hS hL
  obtain ⟨j, hj, hj2⟩ := live_ix hp E h
  refine va_zast (D := E.1) (cl := clsU) (tys := tysU E) F.1 F.2.1 F.2.2.2.2.2.1.1 hR.1 hR.2 hS j 1 hj2 rfl hi d (fun H1 locs1 hP1 hD1 hS1 => ?_)
  have hu : upd (h.1 p0) i.toNatClampNeg (vp_nar .boolean x) = (hsI h p0 i.toNatClampNeg (vp_nar .boolean x)).1 p0 := by
    funext a
    simp [upd, hsI]
  have e8 := live_set (E := E) (h := h) (h' := hsI h p0 i.toNatClampNeg (vp_nar .boolean x)) hj (fun q hq => celE_congr (hsI_other hq) rfl)
  rw [hu] at hP1 hD1
  rw [show celU E (hsI h p0 i.toNatClampNeg (vp_nar .boolean x)) (p0, 9, len) = (EU.ad E p0, .inl (E.2.1.2.1, len, .inl ((hsI h p0 i.toNatClampNeg (vp_nar .boolean x)).1 p0))) from rfl] at e8
  rw [e8] at hP1 hD1
  exact k p l e R s m args below meth c cells slots E QQ F K H1 locs1 LS ⟨hP1, hD1⟩ hS1 hL
theorem Rn.aald {X : XS} {M : MD} {pc n : Nat} {ls : List (Option AV)} {st : List AV} {h : Hp} {Q : Option AV → Hp → Prop} {len : Nat} {p0 : List Nat} {i : Int32} (d : decode M.2.1 pc = .ok (.aaload, 1)) (hn : pc + 1 = n) (hp : Liv p0 10 len) (hi : vp_in i len) (k : Rn X M n ls (vR (i.toNatClampNeg :: p0) :: st) h Q) : Rn X M pc ls (vI i :: vR p0 :: st) h Q := by
  subst hn
  intro p l e R s m args below meth c cells slots E QQ F K H locs LS hR hS hL
  obtain ⟨j, hj, hj2⟩ := live_ix hp E h
  exact va_aldq (D := E.1) (cl := clsU) (tys := tysU E) F.1 F.2.1 F.2.2.2.2.2.1.1 hR.1 j 2 hj2 rfl hi d (k p l e R s m args below meth c cells slots E QQ F K H locs LS hR hS hL)
theorem Rn.alen8 {X : XS} {M : MD} {pc n : Nat} {ls : List (Option AV)} {st : List AV} {h : Hp} {Q : Option AV → Hp → Prop} {len : Nat} {p0 : List Nat} {v : Int32} (d : decode M.2.1 pc = .ok (.arraylength, 1)) (hn : pc + 1 = n) (hp : Liv p0 8 len) (hv : Int32.ofNat len = v) (k : Rn X M n ls (vI v :: st) h Q) : Rn X M pc ls (vR p0 :: st) h Q := by
  subst hn
  intro p l e R s m args below meth c cells slots E QQ F K H locs LS hR hS hL
  obtain ⟨j, hj, hj2⟩ := live_ix hp E h
  exact va_alen (D := E.1) (cl := clsU) (tys := tysU E) F.1 F.2.1 F.2.2.2.2.2.1.1 hR.1 j 0 hj2 rfl hv d (k p l e R s m args below meth c cells slots E QQ F K H locs LS hR hS hL)
theorem Rn.alen9 {X : XS} {M : MD} {pc n : Nat} {ls : List (Option AV)} {st : List AV} {h : Hp} {Q : Option AV → Hp → Prop} {len : Nat} {p0 : List Nat} {v : Int32} (d : decode M.2.1 pc = .ok (.arraylength, 1)) (hn : pc + 1 = n) (hp : Liv p0 9 len) (hv : Int32.ofNat len = v) (k : Rn X M n ls (vI v :: st) h Q) : Rn X M pc ls (vR p0 :: st) h Q := by
  subst hn
  intro p l e R s m args below meth c cells slots E QQ F K H locs LS hR hS hL
  obtain ⟨j, hj, hj2⟩ := live_ix hp E h
  exact va_alen (D := E.1) (cl := clsU) (tys := tysU E) F.1 F.2.1 F.2.2.2.2.2.1.1 hR.1 j 1 hj2 rfl hv d (k p l e R s m args below meth c cells slots E QQ F K H locs LS hR hS hL)
theorem Rn.alen10 {X : XS} {M : MD} {pc n : Nat} {ls : List (Option AV)} {st : List AV} {h : Hp} {Q : Option AV → Hp → Prop} {len : Nat} {p0 : List Nat} {v : Int32} (d : decode M.2.1 pc = .ok (.arraylength, 1)) (hn : pc + 1 = n) (hp : Liv p0 10 len) (hv : Int32.ofNat len = v) (k : Rn X M n ls (vI v :: st) h Q) : Rn X M pc ls (vR p0 :: st) h Q := by
  subst hn
  intro p l e R s m args below meth c cells slots E QQ F K H locs LS hR hS hL
  obtain ⟨j, hj, hj2⟩ := live_ix hp E h
  exact va_alen (D := E.1) (cl := clsU) (tys := tysU E) F.1 F.2.1 F.2.2.2.2.2.1.1 hR.1 j 2 hj2 rfl hv d (k p l e R s m args below meth c cells slots E QQ F K H locs LS hR hS hL)
theorem Rn.sld {X : XS} {M : MD} {pc n : Nat} {ls : List (Option AV)} {st : List AV} {h : Hp} {Q : Option AV → Hp → Prop} {i : Int32} (d : decode M.2.1 pc = .ok (.iaload, 1)) (hn : pc + 1 = n) (hi : vp_in i X.1) (k : Rn X M n ls (vI (X.2 i.toNatClampNeg) :: st) h Q) : Rn X M pc ls (vI i :: vR [2] :: st) h Q := by
  subst hn
  intro p l e R s m args below meth c cells slots E QQ F K H locs LS hR hS hL
  obtain ⟨x1, x2, x3⟩ := F.2.2.2.2.2.1.2.1
  exact va_sld F.1 F.2.1 x1 x2 x3 hS hi d (k p l e R s m args below meth c cells slots E QQ F K H locs LS hR hS hL)
theorem Rn.slen {X : XS} {M : MD} {pc n : Nat} {ls : List (Option AV)} {st : List AV} {h : Hp} {Q : Option AV → Hp → Prop} (d : decode M.2.1 pc = .ok (.arraylength, 1)) (hn : pc + 1 = n) (k : Rn X M n ls (vI (Int32.ofNat X.1) :: st) h Q) : Rn X M pc ls (vR [2] :: st) h Q := by
  subst hn
  intro p l e R s m args below meth c cells slots E QQ F K H locs LS hR hS hL
  obtain ⟨x1, x2, x3⟩ := F.2.2.2.2.2.1.2.1
  exact va_slen F.1 F.2.1 x1 x2 x3 hS d (k p l e R s m args below meth c cells slots E QQ F K H locs LS hR hS hL)
theorem callE {p : Program} {l : Launch} {e : Env} {R : Room} {s : State} {m : MethodId} {args : Array Value} {below : List Frame} {meth : Method} {c : Code} {H : Heap} {locs : List Loc} {cells slots : Nat} {QQ : State → Prop} {E : EU} {Q' : Option AV → Hp → Prop} {pc : Nat} {LS : Array Slot} {st0 rest : List Value} {a : Array Value} {H0 : Heap}
    (hr : va_Run p l e R s m args below meth c H locs cells slots 0 0 (F0 m pc LS st0) rest (QcE E Q' a) (EU.A E)) (hS : va_S (EU.A E) H0 H locs)
    (kk : ∀ (v : Option AV) (h' : Hp) (H1 : Heap) (locs1 : List Loc), Q' v h' → RepH E h' H1 → va_S (EU.A E) H0 H1 locs1 → W p l e R s m args below meth c H1 locs1 cells slots QQ (F0 m (pc + 3) LS ((v.map (cv E)).toList ++ rest))) : W p l e R s m args below meth c H locs cells slots QQ (F0 m pc LS st0) := by
  intro T hT X
  obtain ⟨v, st₀, t, T', L, h0, X', hL, e1, e2, ⟨⟨w, h', hv, hq, hb⟩, hz, hk⟩, st⟩ := hr T hT X
  cases hv
  rw [h0] at hz hk
  obtain ⟨t2, a1, b1⟩ := kk w h' T'.heap (locs ++ L) hq (by rw [e1]; exact hb)
    ⟨Nat.le_trans hS.1 (by rw [e1]; exact hz), fun q h1 h2 => by rw [e1, hk q (Nat.lt_of_lt_of_le h1 hS.1) h2]; exact hS.2.1 q h1 h2, fun q hq => by
      rcases List.mem_append.mp hq with h | h
      · exact hS.2.2 q h
      · exact hL q h⟩ T' rfl X'
  exact ⟨t2, st t2 a1, b1⟩
def wsum : List AV → Nat
  | [] => 0
  | v :: vs => (if isLg v then 2 else 1) + wsum vs
theorem wsum_cv (E : EU) : ∀ (st : List AV), ((st.map (cv E)).map fun v => v.category).sum = wsum st
  | [] => rfl
  | v :: vs => by simp only [List.map_cons, List.sum_cons, wsum, cat_cv, wsum_cv E vs]
theorem good_wsM {z : MD} (h : Cond.code z.1 z.2.1 z.2.2.1 z.2.2.2.1 ∈ wsG) : GoodIn wsG (wsM z) := by
  intro w hw
  have hm : w ∈ wsG := by
    rcases List.mem_cons.mp hw with rfl | hw
    · exact h
    · exact hw
  exact ⟨hm, good_of_word (List.mem_filter.mp hm).2⟩
theorem blindU {X : XS} {E : EU} {av : List Value} {h : Hp} : FrameBlind (va_Pc av (fun U => WorldU X E U ∧ RepH E h U.heap)) := by
  intro a U g mk hq
  exact ⟨hq.1, WorldU.go hq.2.1 (va_S.rf (A := EU.A E) (H0 := U.heap)) rfl (State.WarmedH.refl U), hq.2.2⟩
theorem retst (E : EU) (v : Option AV) (st : List AV) : (v.map (cv E)).toList ++ st.map (cv E) = (v.toList ++ st).map (cv E) := by
  cases v <;> rfl
theorem Rn.callV {X : XS} {M : MD} {pc n : Nat} {ls : List (Option AV)} {st : List AV} {h : Hp} {Q : Option AV → Hp → Prop} {z : MD} {idx nn ci n0 : Nat} {p0 : List Nat} {av : List AV} {stk : List AV} {Q' : Option AV → Hp → Prop} {r : vw_C} (d : decode M.2.1 pc = .ok (.invokevirtual idx, 3)) (hn : pc + 3 = n) (lk : MLink M idx z) (mi : MInst z nn) (hp : Liv p0 ci n0) (hc : clsU[ci]? = some r) (hcls : r.1 = z.1.cls) (hlen : av.length = nn) (hst : stk = av.reverse ++ vR p0 :: st) (hw : wsum st ≤ 8) (ev : Ev X z (vR p0 :: av) h Q') (k : ∀ v h', Q' v h' → Rn X M n ls (v.toList ++ st) h' Q) : Rn X M pc ls stk h Q := by
  subst hn; subst hst
  intro p l e R s m args below meth c cells slots E QQ F K H locs LS hR hS hL
  obtain ⟨hx, hb, hml, hown, hts, hW, hfr, hlo, hce, hsl⟩ := id F
  obtain ⟨⟨m1, m2, m3, m4, m5⟩, m6, m7⟩ := mi
  obtain ⟨C, T, N⟩ := r
  obtain ⟨-, -, -, -, c5, -⟩ := clsU_ok ci C T N hc
  obtain ⟨i, hi, hi2⟩ := live_ix hp E h
  rw [celU_obj c5] at hi2
  have hrecv := va_recv hW.1 hR.1 hc hi2
  have cw : CallW R s args M.1.cls z.1.cls idx z.1 z.2.1 z.2.2.1 z.2.2.2.1 (wsM z) (rmM z) 0 0 nn :=
    ⟨callB_of nn hts (good_wsM m1) rfl rfl rfl (hts _ m2) (hts _ lk.1) ⟨m3, m4, m5⟩ ⟨Nat.le_trans lk.2.1 hfr, Nat.le_trans lk.2.2 hlo⟩, hts _ m6, hts _ m7⟩
  refine callE (va_runV (As := av.map (cv E)) (rest := st.map (cv E)) (b := EU.ad E p0) (C := z.1.cls) ⟨hx, hb, hml, hown, hts⟩ (ev l E) cw ⟨blindU, ?_, fun U hU hw' => ⟨rfl, WorldU.go hW hS hU hw', by rw [hU]; exact hR⟩⟩ rfl (by simpa using hlen) hL.1 ?_ (lv_room (by rw [wsum_cv]; exact hw)) d ⟨hce, hsl⟩) hS (fun v h' H1 locs1 hq hR1 hS1 => ?_)
  · rw [← hcls]; exact hrecv
  · show ((av.reverse ++ vR p0 :: st).map (cv E)) = _
    simp [cv]
  · rw [retst]
    exact k v h' hq p l e R s m args below meth c cells slots E QQ F K H1 locs1 LS hR1 hS1 hL
theorem Rn.callS {X : XS} {M : MD} {pc n : Nat} {ls : List (Option AV)} {st : List AV} {h : Hp} {Q : Option AV → Hp → Prop} {z : MD} {idx nn : Nat} {av : List AV} {stk : List AV} {Q' : Option AV → Hp → Prop} (d : decode M.2.1 pc = .ok (.invokestatic idx, 3)) (hn : pc + 3 = n) (lk : MLink M idx z) (mi : MStat z nn) (hlen : av.length = nn) (hst : stk = av.reverse ++ st) (hw : wsum st ≤ 8) (ev : Ev X z av h Q') (k : ∀ v h', Q' v h' → Rn X M n ls (v.toList ++ st) h' Q) : Rn X M pc ls stk h Q := by
  subst hn; subst hst
  intro p l e R s m args below meth c cells slots E QQ F K H locs LS hR hS hL
  obtain ⟨hx, hb, hml, hown, hts, hW, hfr, hlo, hce, hsl⟩ := id F
  obtain ⟨⟨m1, m2, m3, m4, m5⟩, m6⟩ := mi
  have cw : CallB R s args M.1.cls idx z.1 z.2.1 z.2.2.1 z.2.2.2.1 (wsM z) (rmM z) 0 0 nn ∧ (Cond.static z.1).before args s = true :=
    ⟨callB_of nn hts (good_wsM m1) rfl rfl rfl (hts _ m2) (hts _ lk.1) ⟨m3, m4, m5⟩ ⟨Nat.le_trans lk.2.1 hfr, Nat.le_trans lk.2.2 hlo⟩, hts _ m6⟩
  refine callE (va_runS (As := av.map (cv E)) (rest := st.map (cv E)) ⟨hx, hb, hml, hown, hts⟩ (ev l E) cw ⟨blindU, fun U hU hw' => ⟨rfl, WorldU.go hW hS hU hw', by rw [hU]; exact hR⟩⟩ rfl (by simpa using hlen) hL.1 ?_ (lv_room (by rw [wsum_cv]; exact hw)) d ⟨hce, hsl⟩) hS (fun v h' H1 locs1 hq hR1 hS1 => ?_)
  · show ((av.reverse ++ st).map (cv E)) = _
    simp
  · rw [retst]
    exact k v h' hq p l e R s m args below meth c cells slots E QQ F K H1 locs1 LS hR1 hS1 hL
/-- the one static method of a nest mate that is called: isNotIn -/
theorem Rn.callN {X : XS} {M : MD} {pc n : Nat} {ls : List (Option AV)} {st : List AV} {h : Hp} {Q : Option AV → Hp → Prop} {nn : Nat} {av : List AV} {stk : List AV} {Q' : Option AV → Hp → Prop} (d : decode M.2.1 pc = .ok (.invokestatic 107, 3)) (hn : pc + 3 = n) (hM : M.1.cls = "UmbrellaStreet$Text") (lk : MFits M m_Us_isNotIn) (mi : MStat m_Us_isNotIn nn) (hlen : av.length = nn) (hst : stk = av.reverse ++ st) (hw : wsum st ≤ 8) (ev : Ev X m_Us_isNotIn av h Q') (k : ∀ v h', Q' v h' → Rn X M n ls (v.toList ++ st) h' Q) : Rn X M pc ls stk h Q := by
  subst hn; subst hst
  intro p l e R s m args below meth c cells slots E QQ F K H locs LS hR hS hL
  obtain ⟨hx, hb, hml, hown, hts, hW, hfr, hlo, hce, hsl⟩ := id F
  obtain ⟨⟨m1, m2, m3, m4, m5⟩, m6⟩ := mi
  refine callE (va_runSN (As := av.map (cv E)) (rest := st.map (cv E)) (host := "UmbrellaStreet") (index := 107) (own := M.1.cls) ⟨hx, hb, hml, hown, hts⟩ (ev l E) ⟨va_cnB nn hts (good_wsM m1) rfl rfl rfl (by rw [hM]; exact hW.2.2.1) (hts _ m2) ⟨m3, m4, m5⟩ ⟨Nat.le_trans lk.1 hfr, Nat.le_trans lk.2 hlo⟩, hts _ m6, trivial⟩ ⟨blindU, fun U hU hw' => ⟨rfl, WorldU.go hW hS hU hw', by rw [hU]; exact hR⟩⟩ rfl (by simpa using hlen) hL.1 ?_ (lv_room (by rw [wsum_cv]; exact hw)) d ⟨hce, hsl⟩) hS (fun v h' H1 locs1 hq hR1 hS1 => ?_)
  · show ((av.reverse ++ st).map (cv E)) = _
    simp
  · rw [retst]
    exact k v h' hq p l e R s m args below meth c cells slots E QQ F K H1 locs1 LS hR1 hS1 hL
def EvI (X : XS) (M : MD) (av : List AV) (h : Hp) (Q : Int32 → Hp → Prop) : Prop := Ev X M av h (fun v h' => ∃ r, v = some (vI r) ∧ Q r h')
def EvL (X : XS) (M : MD) (av : List AV) (h : Hp) (Q : Int64 → Hp → Prop) : Prop := Ev X M av h (fun v h' => ∃ r, v = some (vL r) ∧ Q r h')
def EvV (X : XS) (M : MD) (av : List AV) (h : Hp) (Q : Hp → Prop) : Prop := Ev X M av h (fun v h' => v = none ∧ Q h')
def EvR (X : XS) (M : MD) (av : List AV) (h : Hp) (Q : Option (List Nat) → Hp → Prop) : Prop := Ev X M av h (fun v h' => ∃ r, v = some (.inr r) ∧ Q r h')
def LLe : List (Option AV) → List (Option AV) → Prop
  | [], _ => True
  | none :: a, _ :: b => LLe a b
  | some x :: a, y :: b => y = some x ∧ LLe a b
  | _ :: _, [] => False
theorem LLe_ok : ∀ {a b : List (Option AV)}, LLe a b → ∀ (k : Nat) (w : AV), a[k]? = some (some w) → b[k]? = some (some w)
  | [], _, _, k, w, h => by simp at h
  | none :: a, y :: b, hl, k, w, h => by
    cases k with
    | zero => simp at h
    | succ k => simpa using LLe_ok (show LLe a b from hl) k w (by simpa using h)
  | some x :: a, y :: b, hl, k, w, h => by
    cases k with
    | zero => rw [show y = some x from hl.1]; simpa using h
    | succ k => simpa using LLe_ok (show LLe a b from hl.2) k w (by simpa using h)
  | none :: a, [], hl, _, _, _ => absurd hl (by simp [LLe])
  | some _ :: a, [], hl, _, _, _ => absurd hl (by simp [LLe])
theorem nar_z {x : Int32} (h : x = 0 ∨ x = 1) : narrow .boolean (.int x) = .int x := by rcases h with rfl | rfl <;> rfl
def IsWk (w : List Nat) : Prop := Liv w 5 0 ∧ Liv (3 :: w) 8 6 ∧ Liv (4 :: w) 9 6 ∧ Liv (5 :: w) 8 6 ∧ Liv (6 :: w) 8 6 ∧ Liv (7 :: w) 8 6
def IsPl (w : List Nat) : Prop := Liv w 1 0 ∧ Liv (2 :: w) 9 48 ∧ Liv (3 :: w) 9 6 ∧ Liv (4 :: w) 8 6 ∧ Liv (5 :: w) 8 6 ∧ Liv (6 :: w) 8 6 ∧ Liv (7 :: w) 8 6 ∧ Liv (8 :: w) 8 6 ∧ Liv (9 :: w) 8 6 ∧ Liv (10 :: w) 8 60
theorem IsWk.s {w : List Nat} (h : IsWk w) : Liv w 5 0 := h.1
theorem IsWk.c3 {w : List Nat} (h : IsWk w) : Liv (3 :: w) 8 6 := h.2.1
theorem IsWk.c4 {w : List Nat} (h : IsWk w) : Liv (4 :: w) 9 6 := h.2.2.1
theorem IsWk.c5 {w : List Nat} (h : IsWk w) : Liv (5 :: w) 8 6 := h.2.2.2.1
theorem IsWk.c6 {w : List Nat} (h : IsWk w) : Liv (6 :: w) 8 6 := h.2.2.2.2.1
theorem IsWk.c7 {w : List Nat} (h : IsWk w) : Liv (7 :: w) 8 6 := h.2.2.2.2.2
theorem IsPl.s {w : List Nat} (h : IsPl w) : Liv w 1 0 := h.1
theorem IsPl.c2 {w : List Nat} (h : IsPl w) : Liv (2 :: w) 9 48 := h.2.1
theorem IsPl.c3 {w : List Nat} (h : IsPl w) : Liv (3 :: w) 9 6 := h.2.2.1
theorem IsPl.c4 {w : List Nat} (h : IsPl w) : Liv (4 :: w) 8 6 := h.2.2.2.1
theorem IsPl.c5 {w : List Nat} (h : IsPl w) : Liv (5 :: w) 8 6 := h.2.2.2.2.1
theorem IsPl.c6 {w : List Nat} (h : IsPl w) : Liv (6 :: w) 8 6 := h.2.2.2.2.2.1
theorem IsPl.c7 {w : List Nat} (h : IsPl w) : Liv (7 :: w) 8 6 := h.2.2.2.2.2.2.1
theorem IsPl.c8 {w : List Nat} (h : IsPl w) : Liv (8 :: w) 8 6 := h.2.2.2.2.2.2.2.1
theorem IsPl.c9 {w : List Nat} (h : IsPl w) : Liv (9 :: w) 8 6 := h.2.2.2.2.2.2.2.2.1
theorem IsPl.c10 {w : List Nat} (h : IsPl w) : Liv (10 :: w) 8 60 := h.2.2.2.2.2.2.2.2.2
theorem mf_Tx_reads : MFits m_Tx_reads m_Us_isNotIn := ⟨Nat.le_of_ble_eq_true rfl, Nat.le_of_ble_eq_true rfl⟩
theorem Rn.mmax {X : XS} {M : MD} {pc n : Nat} {ls : List (Option AV)} {st : List AV} {h : Hp} {Q : Option AV → Hp → Prop} {idx : Nat} {x y : Int32} (d : decode M.2.1 pc = .ok (.invokestatic idx, 3)) (hn : pc + 3 = n) (lk : MLink M idx m_Ma_max) (hw : wsum st ≤ 8) (k : Rn X M n ls (vI (iMax x y) :: st) h Q) : Rn X M pc ls (vI y :: vI x :: st) h Q := by
  subst hn
  intro p l e R s m args below meth c cells slots E QQ F K H locs LS hR hS hL
  obtain ⟨hx, hb, hml, hown, hts, hW, hfr, hlo, hce, hsl⟩ := id F
  obtain ⟨⟨m1, m2, -⟩, m6⟩ := ms_Ma_max
  have e1 : 0 + 1 ≤ M.2.2.2.2.1 := lk.2.1
  have e2 : 8 + (2 + 11) + 0 ≤ M.2.2.2.2.2 := lk.2.2
  exact va_mmax hx hb (hml.trans hL.1.symm) hown (hts _ lk.1) (hts _ m6) (hts _ m2) (hts _ m1) (by omega) (by rw [wsum_cv]; omega) hce hsl d (k p l e R s m args below meth c cells slots E QQ F K H locs LS hR hS hL)
theorem Rn.mmin {X : XS} {M : MD} {pc n : Nat} {ls : List (Option AV)} {st : List AV} {h : Hp} {Q : Option AV → Hp → Prop} {idx : Nat} {x y : Int32} (d : decode M.2.1 pc = .ok (.invokestatic idx, 3)) (hn : pc + 3 = n) (lk : MLink M idx m_Ma_min) (hw : wsum st ≤ 8) (k : Rn X M n ls (vI (iMin x y) :: st) h Q) : Rn X M pc ls (vI y :: vI x :: st) h Q := by
  subst hn
  intro p l e R s m args below meth c cells slots E QQ F K H locs LS hR hS hL
  obtain ⟨hx, hb, hml, hown, hts, hW, hfr, hlo, hce, hsl⟩ := id F
  obtain ⟨⟨m1, m2, -⟩, m6⟩ := ms_Ma_min
  have e1 : 0 + 1 ≤ M.2.2.2.2.1 := lk.2.1
  have e2 : 8 + (2 + 11) + 0 ≤ M.2.2.2.2.2 := lk.2.2
  exact va_mmin hx hb (hml.trans hL.1.symm) hown (hts _ lk.1) (hts _ m6) (hts _ m2) (hts _ m1) (by omega) (by rw [wsum_cv]; omega) hce hsl d (k p l e R s m args below meth c cells slots E QQ F K H locs LS hR hS hL)
theorem Rn.mabs {X : XS} {M : MD} {pc n : Nat} {ls : List (Option AV)} {st : List AV} {h : Hp} {Q : Option AV → Hp → Prop} {idx : Nat} {x : Int32} (d : decode M.2.1 pc = .ok (.invokestatic idx, 3)) (hn : pc + 3 = n) (lk : MLink M idx m_Ma_abs) (hw : wsum st ≤ 7) (k : Rn X M n ls (vI (iAbs x) :: st) h Q) : Rn X M pc ls (vI x :: st) h Q := by
  subst hn
  intro p l e R s m args below meth c cells slots E QQ F K H locs LS hR hS hL
  obtain ⟨hx, hb, hml, hown, hts, hW, hfr, hlo, hce, hsl⟩ := id F
  obtain ⟨⟨m1, m2, -⟩, m6⟩ := ms_Ma_abs
  have e1 : 0 + 1 ≤ M.2.2.2.2.1 := lk.2.1
  have e2 : 8 + (1 + 11) + 0 ≤ M.2.2.2.2.2 := lk.2.2
  exact va_mabs hx hb (hml.trans hL.1.symm) hown (hts _ lk.1) (hts _ m6) (hts _ m2) (hts _ m1) (by omega) (by rw [wsum_cv]; omega) hce hsl d (k p l e R s m args below meth c cells slots E QQ F K H locs LS hR hS hL)
theorem Rn.ldcS {X : XS} {M : MD} {pc n : Nat} {ls : List (Option AV)} {st : List AV} {h : Hp} {Q : Option AV → Hp → Prop} {idx i : Nat} (d : decode M.2.1 pc = .ok (.ldc idx, 2)) (hn : pc + 2 = n) (hi : i < 5) (hM : M.1.cls = "UmbrellaStreet$Text") (hx : sIx i = idx) (k : Rn X M n ls (vR [i, 3] :: st) h Q) : Rn X M pc ls st h Q := by
  subst hn; subst hx
  intro p l e R s m args below meth c cells slots E QQ F K H locs LS hR hS hL
  have hZ := F.2.2.2.2.2.1.2.2.2.1 i hi
  exact va_ldcS F.1 F.2.1 (hM ▸ F.2.2.2.1) hZ d (k p l e R s m args below meth c cells slots E QQ F K H locs LS hR hS hL)
theorem Rn.strV {X : XS} {M : MD} {pc n : Nat} {ls : List (Option AV)} {st : List AV} {h : Hp} {Q : Option AV → Hp → Prop} {idx i : Nat} (d : decode M.2.1 pc = .ok (.getfield idx, 3)) (hn : pc + 3 = n) (lk : Cond.fieldLink M.1.cls idx "java/lang/String" "value" "[B" ∈ wsG) (hi : i < 5) (k : Rn X M n ls (vR [0, i, 3] :: st) h Q) : Rn X M pc ls (vR [i, 3] :: st) h Q := by
  subst hn
  intro p l e R s m args below meth c cells slots E QQ F K H locs LS hR hS hL
  exact vk_getf F.1 F.2.1 (F.2.2.2.2.2.1.2.2.2.2.1.1 i hi).2.2.1 hS F.2.2.2.1 (F.2.2.2.2.1 _ lk) (fun _ z => z) d (k p l e R s m args below meth c cells slots E QQ F K H locs LS hR hS hL)
theorem Rn.strC {X : XS} {M : MD} {pc n : Nat} {ls : List (Option AV)} {st : List AV} {h : Hp} {Q : Option AV → Hp → Prop} {idx i : Nat} (d : decode M.2.1 pc = .ok (.getfield idx, 3)) (hn : pc + 3 = n) (lk : Cond.fieldLink M.1.cls idx "java/lang/String" "coder" "B" ∈ wsG) (hi : i < 5) (k : Rn X M n ls (vI 0 :: st) h Q) : Rn X M pc ls (vR [i, 3] :: st) h Q := by
  subst hn
  intro p l e R s m args below meth c cells slots E QQ F K H locs LS hR hS hL
  exact vk_getf F.1 F.2.1 (F.2.2.2.2.2.1.2.2.2.2.1.1 i hi).2.1 hS F.2.2.2.1 (F.2.2.2.2.1 _ lk) (fun _ z => z) d (k p l e R s m args below meth c cells slots E QQ F K H locs LS hR hS hL)
theorem Rn.getsC {X : XS} {M : MD} {pc n : Nat} {ls : List (Option AV)} {st : List AV} {h : Hp} {Q : Option AV → Hp → Prop} {idx : Nat} (d : decode M.2.1 pc = .ok (.getstatic idx, 3)) (hn : pc + 3 = n) (lk : Cond.fieldLink M.1.cls idx "java/lang/String" "COMPACT_STRINGS" "Z" ∈ wsG) (k : Rn X M n ls (vI 1 :: st) h Q) : Rn X M pc ls st h Q := by
  subst hn
  intro p l e R s m args below meth c cells slots E QQ F K H locs LS hR hS hL
  exact va_gets F.1 F.2.1 F.2.2.2.2.2.1.2.2.2.2.2.1 hS F.2.2.2.1 (F.2.2.2.2.1 _ lk) (fun _ z => z) d (k p l e R s m args below meth c cells slots E QQ F K H locs LS hR hS hL)
theorem Rn.getsF {X : XS} {M : MD} {pc n : Nat} {ls : List (Option AV)} {st : List AV} {h : Hp} {Q : Option AV → Hp → Prop} {idx : Nat} (d : decode M.2.1 pc = .ok (.getstatic idx, 3)) (hn : pc + 3 = n) (lk : Cond.fieldLink M.1.cls idx "jdk/internal/util/Preconditions" "SIOOBE_FORMATTER" "Ljava/util/function/BiFunction;" ∈ wsG) (k1 : Rn X M n ls (vN :: st) h Q) (k2 : Rn X M n ls (vR [4] :: st) h Q) : Rn X M pc ls st h Q := by
  subst hn
  intro p l e R s m args below meth c cells slots E QQ F K H locs LS hR hS hL
  rcases F.2.2.2.2.2.1.2.2.2.2.2.2 with hz | hz
  · exact va_gets F.1 F.2.1 hz hS F.2.2.2.1 (F.2.2.2.2.1 _ lk) (fun _ z => z) d (k1 p l e R s m args below meth c cells slots E QQ F K H locs LS hR hS hL)
  · exact va_gets F.1 F.2.1 hz hS F.2.2.2.1 (F.2.2.2.2.1 _ lk) (fun _ z => z) d (k2 p l e R s m args below meth c cells slots E QQ F K H locs LS hR hS hL)
theorem Rn.strL {X : XS} {M : MD} {pc n : Nat} {ls : List (Option AV)} {st : List AV} {h : Hp} {Q : Option AV → Hp → Prop} {i : Nat} (d : decode M.2.1 pc = .ok (.arraylength, 1)) (hn : pc + 1 = n) (hi : i < 5) (k : Rn X M n ls (vI (Int32.ofNat (sLen.getD i 0)) :: st) h Q) : Rn X M pc ls (vR [0, i, 3] :: st) h Q := by
  subst hn
  intro p l e R s m args below meth c cells slots E QQ F K H locs LS hR hS hL
  exact va_tlen F.1 F.2.1 (F.2.2.2.2.2.1.2.2.2.2.1.1 i hi).2.2.2 hS rfl d (k p l e R s m args below meth c cells slots E QQ F K H locs LS hR hS hL)
theorem Rn.strB {X : XS} {M : MD} {pc n : Nat} {ls : List (Option AV)} {st : List AV} {h : Hp} {Q : Option AV → Hp → Prop} {i : Nat} {j : Int32} (d : decode M.2.1 pc = .ok (.baload, 1)) (hn : pc + 1 = n) (hi : i < 5) (hj : vp_in j (sLen.getD i 0)) (k : Rn X M n ls (vI ((sByt.getD i []).getD j.toNatClampNeg 0) :: st) h Q) : Rn X M pc ls (vI j :: vR [0, i, 3] :: st) h Q := by
  subst hn
  intro p l e R s m args below meth c cells slots E QQ F K H locs LS hR hS hL
  exact va_tb F.1 F.2.1 (F.2.2.2.2.2.1.2.2.2.2.1.1 i hi).2.2.2 hS hj rfl d (k p l e R s m args below meth c cells slots E QQ F K H locs LS hR hS hL)
theorem Rn.callStr {X : XS} {M : MD} {pc n : Nat} {ls : List (Option AV)} {st : List AV} {h : Hp} {Q : Option AV → Hp → Prop} {z : MD} {idx nn i : Nat} {av : List AV} {stk : List AV} {Q' : Option AV → Hp → Prop} (d : decode M.2.1 pc = .ok (.invokevirtual idx, 3)) (hn : pc + 3 = n) (lk : MLink M idx z) (mi : MInst z nn) (hi : i < 5) (hcls : "java/lang/String" = z.1.cls) (hlen : av.length = nn) (hst : stk = av.reverse ++ vR [i, 3] :: st) (hw : wsum st ≤ 8) (ev : Ev X z (vR [i, 3] :: av) h Q') (k : ∀ v h', Q' v h' → Rn X M n ls (v.toList ++ st) h' Q) : Rn X M pc ls stk h Q := by
  subst hn; subst hst
  intro p l e R s m args below meth c cells slots E QQ F K H locs LS hR hS hL
  obtain ⟨hx, hb, hml, hown, hts, hW, hfr, hlo, hce, hsl⟩ := id F
  obtain ⟨⟨m1, m2, m3, m4, m5⟩, m6, m7⟩ := mi
  have hrecv := vk_recv hW.2.2.2.2.1 hi hS
  have cw : CallW R s args M.1.cls z.1.cls idx z.1 z.2.1 z.2.2.1 z.2.2.2.1 (wsM z) (rmM z) 0 0 nn :=
    ⟨callB_of nn hts (good_wsM m1) rfl rfl rfl (hts _ m2) (hts _ lk.1) ⟨m3, m4, m5⟩ ⟨Nat.le_trans lk.2.1 hfr, Nat.le_trans lk.2.2 hlo⟩, hts _ m6, hts _ m7⟩
  refine callE (va_runV (As := av.map (cv E)) (rest := st.map (cv E)) (b := EU.ad E [i, 3]) (C := z.1.cls) ⟨hx, hb, hml, hown, hts⟩ (ev l E) cw ⟨blindU, ?_, fun U hU hw' => ⟨rfl, WorldU.go hW hS hU hw', by rw [hU]; exact hR⟩⟩ rfl (by simpa using hlen) hL.1 ?_ (lv_room (by rw [wsum_cv]; exact hw)) d ⟨hce, hsl⟩) hS (fun v h' H1 locs1 hq hR1 hS1 => ?_)
  · rw [← hcls]; exact hrecv
  · show ((av.reverse ++ vR [i, 3] :: st).map (cv E)) = _
    simp [cv]
  · rw [retst]
    exact k v h' hq p l e R s m args below meth c cells slots E QQ F K H1 locs1 LS hR1 hS1 hL
theorem Lv_0 : Liv [0] 6 0 := by decide +kernel
theorem Lv_0_0 : Liv [0, 0] 1 0 := by decide +kernel
theorem Lv_2_0_0 : Liv [2, 0, 0] 9 48 := by decide +kernel
theorem Lv_3_0_0 : Liv [3, 0, 0] 9 6 := by decide +kernel
theorem Lv_4_0_0 : Liv [4, 0, 0] 8 6 := by decide +kernel
theorem Lv_5_0_0 : Liv [5, 0, 0] 8 6 := by decide +kernel
theorem Lv_6_0_0 : Liv [6, 0, 0] 8 6 := by decide +kernel
theorem Lv_7_0_0 : Liv [7, 0, 0] 8 6 := by decide +kernel
theorem Lv_8_0_0 : Liv [8, 0, 0] 8 6 := by decide +kernel
theorem Lv_9_0_0 : Liv [9, 0, 0] 8 6 := by decide +kernel
theorem Lv_10_0_0 : Liv [10, 0, 0] 8 60 := by decide +kernel
theorem Lv_1_0 : Liv [1, 0] 1 0 := by decide +kernel
theorem Lv_2_1_0 : Liv [2, 1, 0] 9 48 := by decide +kernel
theorem Lv_3_1_0 : Liv [3, 1, 0] 9 6 := by decide +kernel
theorem Lv_4_1_0 : Liv [4, 1, 0] 8 6 := by decide +kernel
theorem Lv_5_1_0 : Liv [5, 1, 0] 8 6 := by decide +kernel
theorem Lv_6_1_0 : Liv [6, 1, 0] 8 6 := by decide +kernel
theorem Lv_7_1_0 : Liv [7, 1, 0] 8 6 := by decide +kernel
theorem Lv_8_1_0 : Liv [8, 1, 0] 8 6 := by decide +kernel
theorem Lv_9_1_0 : Liv [9, 1, 0] 8 6 := by decide +kernel
theorem Lv_10_1_0 : Liv [10, 1, 0] 8 60 := by decide +kernel
theorem Lv_2_0 : Liv [2, 0] 3 0 := by decide +kernel
theorem Lv_0_2_0 : Liv [0, 2, 0] 8 200 := by decide +kernel
theorem Lv_1_2_0 : Liv [1, 2, 0] 8 7 := by decide +kernel
theorem Lv_3_0 : Liv [3, 0] 5 0 := by decide +kernel
theorem Lv_3_3_0 : Liv [3, 3, 0] 8 6 := by decide +kernel
theorem Lv_4_3_0 : Liv [4, 3, 0] 9 6 := by decide +kernel
theorem Lv_5_3_0 : Liv [5, 3, 0] 8 6 := by decide +kernel
theorem Lv_6_3_0 : Liv [6, 3, 0] 8 6 := by decide +kernel
theorem Lv_7_3_0 : Liv [7, 3, 0] 8 6 := by decide +kernel
theorem Lv_4_0 : Liv [4, 0] 5 0 := by decide +kernel
theorem Lv_3_4_0 : Liv [3, 4, 0] 8 6 := by decide +kernel
theorem Lv_4_4_0 : Liv [4, 4, 0] 9 6 := by decide +kernel
theorem Lv_5_4_0 : Liv [5, 4, 0] 8 6 := by decide +kernel
theorem Lv_6_4_0 : Liv [6, 4, 0] 8 6 := by decide +kernel
theorem Lv_7_4_0 : Liv [7, 4, 0] 8 6 := by decide +kernel
theorem Lv_5_0 : Liv [5, 0] 10 2 := by decide +kernel
theorem Lv_0_5_0 : Liv [0, 5, 0] 5 0 := by decide +kernel
theorem Lv_3_0_5_0 : Liv [3, 0, 5, 0] 8 6 := by decide +kernel
theorem Lv_4_0_5_0 : Liv [4, 0, 5, 0] 9 6 := by decide +kernel
theorem Lv_5_0_5_0 : Liv [5, 0, 5, 0] 8 6 := by decide +kernel
theorem Lv_6_0_5_0 : Liv [6, 0, 5, 0] 8 6 := by decide +kernel
theorem Lv_7_0_5_0 : Liv [7, 0, 5, 0] 8 6 := by decide +kernel
theorem Lv_1_5_0 : Liv [1, 5, 0] 5 0 := by decide +kernel
theorem Lv_3_1_5_0 : Liv [3, 1, 5, 0] 8 6 := by decide +kernel
theorem Lv_4_1_5_0 : Liv [4, 1, 5, 0] 9 6 := by decide +kernel
theorem Lv_5_1_5_0 : Liv [5, 1, 5, 0] 8 6 := by decide +kernel
theorem Lv_6_1_5_0 : Liv [6, 1, 5, 0] 8 6 := by decide +kernel
theorem Lv_7_1_5_0 : Liv [7, 1, 5, 0] 8 6 := by decide +kernel
theorem Lv_6_0 : Liv [6, 0] 4 0 := by decide +kernel
theorem Lv_0_6_0 : Liv [0, 6, 0] 1 0 := by decide +kernel
theorem Lv_2_0_6_0 : Liv [2, 0, 6, 0] 9 48 := by decide +kernel
theorem Lv_3_0_6_0 : Liv [3, 0, 6, 0] 9 6 := by decide +kernel
theorem Lv_4_0_6_0 : Liv [4, 0, 6, 0] 8 6 := by decide +kernel
theorem Lv_5_0_6_0 : Liv [5, 0, 6, 0] 8 6 := by decide +kernel
theorem Lv_6_0_6_0 : Liv [6, 0, 6, 0] 8 6 := by decide +kernel
theorem Lv_7_0_6_0 : Liv [7, 0, 6, 0] 8 6 := by decide +kernel
theorem Lv_8_0_6_0 : Liv [8, 0, 6, 0] 8 6 := by decide +kernel
theorem Lv_9_0_6_0 : Liv [9, 0, 6, 0] 8 6 := by decide +kernel
theorem Lv_10_0_6_0 : Liv [10, 0, 6, 0] 8 60 := by decide +kernel
theorem Lv_1_6_0 : Liv [1, 6, 0] 5 0 := by decide +kernel
theorem Lv_3_1_6_0 : Liv [3, 1, 6, 0] 8 6 := by decide +kernel
theorem Lv_4_1_6_0 : Liv [4, 1, 6, 0] 9 6 := by decide +kernel
theorem Lv_5_1_6_0 : Liv [5, 1, 6, 0] 8 6 := by decide +kernel
theorem Lv_6_1_6_0 : Liv [6, 1, 6, 0] 8 6 := by decide +kernel
theorem Lv_7_1_6_0 : Liv [7, 1, 6, 0] 8 6 := by decide +kernel
theorem Lv_2_6_0 : Liv [2, 6, 0] 8 324 := by decide +kernel
theorem Lv_7_0 : Liv [7, 0] 2 0 := by decide +kernel
theorem Lv_1_7_0 : Liv [1, 7, 0] 8 8 := by decide +kernel
theorem Lv_2_7_0 : Liv [2, 7, 0] 8 8 := by decide +kernel
theorem Lv_3_7_0 : Liv [3, 7, 0] 8 8 := by decide +kernel
theorem Lv_4_7_0 : Liv [4, 7, 0] 8 8 := by decide +kernel
theorem Lv_5_7_0 : Liv [5, 7, 0] 8 20 := by decide +kernel
theorem Lv_8_0 : Liv [8, 0] 0 0 := by decide +kernel
theorem Lv_0_8_0 : Liv [0, 8, 0] 8 72 := by decide +kernel
theorem Lv_1 : Liv [1] 7 0 := by decide +kernel
theorem Lv_4_1 : Liv [4, 1] 8 36 := by decide +kernel
theorem Lv_5_1 : Liv [5, 1] 8 60 := by decide +kernel
theorem Lv_7_1 : Liv [7, 1] 8 200 := by decide +kernel
theorem Lv_15_1 : Liv [15, 1] 8 64 := by decide +kernel
theorem Lv_18_1 : Liv [18, 1] 8 26 := by decide +kernel
theorem Lv_19_1 : Liv [19, 1] 8 26 := by decide +kernel
theorem Lv_20_1 : Liv [20, 1] 8 52 := by decide +kernel
theorem Lv_21_1 : Liv [21, 1] 9 2 := by decide +kernel
theorem Lv_22_1 : Liv [22, 1] 8 6 := by decide +kernel
theorem Lv_23_1 : Liv [23, 1] 8 360 := by decide +kernel
theorem Lv_24_1 : Liv [24, 1] 8 72 := by decide +kernel
theorem Lv_26_1 : Liv [26, 1] 8 24 := by decide +kernel
theorem Lv_27_1 : Liv [27, 1] 8 8 := by decide +kernel
theorem Lv_28_1 : Liv [28, 1] 8 20 := by decide +kernel
theorem Lv_29_1 : Liv [29, 1] 8 6 := by decide +kernel
theorem Lv_30_1 : Liv [30, 1] 8 324 := by decide +kernel
