/-! THE ROWS: an instruction each, over the abstract heap -/
section ZRULES
variable {α : Type} {enc : α → Option Value × ZH} {b0 : Nat} {Y : zY} {d pc : Nat} {lv lv2 : List (Nat × Value)} {st : List Value} {h : ZH} {r : Option α}
def zl {β γ : Type} (x : β) (k : β → γ) : γ := k x
def jrem (x y : Int32) : Int32 := x - x / y * y
def jlrem (x y : Int64) : Int64 := x - x / y * y
def jushr (x y : Int32) : Int32 := (x.toUInt32 >>> (y.toUInt32 &&& Int32.toUInt32 31)).toInt32
def jlushr (x : Int64) (y : Int32) : Int64 := (x.toUInt64 >>> (y.toInt64.toUInt64 &&& Int64.toUInt64 63)).toInt64
def jshl (x y : Int32) : Int32 := x <<< (y &&& 31)
def jshr (x y : Int32) : Int32 := x >>> (y &&& 31)
def jlshl (x : Int64) (y : Int32) : Int64 := x <<< (y.toInt64 &&& 63)
def jlshr (x : Int64) (y : Int32) : Int64 := x >>> (y.toInt64 &&& 63)
def ji2c (x : Int32) : Int32 := (x.toUInt32 % 65536).toInt32
def ji2b (x : Int32) : Int32 := x.toInt8.toInt32
def jfcmp (x y : UInt32) (op : CmpOp) : Int32 := Op.cmpValue (FP.fcmp x y) op
def zst (i : Nat) (v : Value) (lv : List (Nat × Value)) : List (Nat × Value) := (i, v) :: lv.filter (fun q => !(q.1 == i) && !(q.1 + 1 == i && q.2.category == 2))
def zst2 (i : Nat) (v : Value) (lv : List (Nat × Value)) : List (Nat × Value) := (i, v) :: lv.filter (fun q => !(q.1 == i) && (!(q.1 == i + 1) && !(q.1 + 1 == i && q.2.category == 2)))
theorem z_sub (ks : List Nat) (e0 : lv_pick lv ks = lv2) (k : Zr enc b0 Y d pc lv2 st h r) : Zr enc b0 Y d pc lv st h r := k.step (fun D CA p l e R s m args below meth c H locs ls n0 cells slots Q hA hc hs hl hP hS kk => kk _ (lv_sub hl ks e0))
theorem z_let {β : Type} {x : β} {f : β → Option α} (k : ∀ y, y = x → Zr enc b0 Y d pc lv st h (f y)) : Zr enc b0 Y d pc lv st h (zl x f) := k x rfl
theorem z_letI {x : Int32} {f : Int32 → Option α} (k : ∀ y, y = x → Zr enc b0 Y d pc lv (.int y :: st) h (f y)) : Zr enc b0 Y d pc lv (.int x :: st) h (zl x f) := k x rfl
theorem z_letJ {x : Int64} {f : Int64 → Option α} (k : ∀ y, y = x → Zr enc b0 Y d pc lv (.long y :: st) h (f y)) : Zr enc b0 Y d pc lv (.long x :: st) h (zl x f) := k x rfl
theorem z_letF {x : UInt32} {f : UInt32 → Option α} (k : ∀ y, y = x → Zr enc b0 Y d pc lv (.float y :: st) h (f y)) : Zr enc b0 Y d pc lv (.float x :: st) h (zl x f) := k x rfl
theorem z_iadd {x y : Int32} (pc2 : Nat) (hd : decode (yc Y) pc = .ok (.iadd, 1)) (e : pc + 1 = pc2) (k : Zr enc b0 Y d pc2 lv (.int (x + y) :: st) h r) : Zr enc b0 Y d pc lv (.int y :: .int x :: st) h r := by
  subst e
  exact k.step (fun D CA p l e R s m args below meth c H locs ls n0 cells slots Q hA hc hs hl hP hS kk => lv_iadd hA.1 hA.2.1 hd (kk _ hl))
theorem z_isub {x y : Int32} (pc2 : Nat) (hd : decode (yc Y) pc = .ok (.isub, 1)) (e : pc + 1 = pc2) (k : Zr enc b0 Y d pc2 lv (.int (x - y) :: st) h r) : Zr enc b0 Y d pc lv (.int y :: .int x :: st) h r := by
  subst e
  exact k.step (fun D CA p l e R s m args below meth c H locs ls n0 cells slots Q hA hc hs hl hP hS kk => lv_isub hA.1 hA.2.1 hd (kk _ hl))
theorem z_imul {x y : Int32} (pc2 : Nat) (hd : decode (yc Y) pc = .ok (.imul, 1)) (e : pc + 1 = pc2) (k : Zr enc b0 Y d pc2 lv (.int (x * y) :: st) h r) : Zr enc b0 Y d pc lv (.int y :: .int x :: st) h r := by
  subst e
  exact k.step (fun D CA p l e R s m args below meth c H locs ls n0 cells slots Q hA hc hs hl hP hS kk => lv_imul hA.1 hA.2.1 hd (kk _ hl))
theorem z_iand {x y : Int32} (pc2 : Nat) (hd : decode (yc Y) pc = .ok (.iand, 1)) (e : pc + 1 = pc2) (k : Zr enc b0 Y d pc2 lv (.int (x &&& y) :: st) h r) : Zr enc b0 Y d pc lv (.int y :: .int x :: st) h r := by
  subst e
  exact k.step (fun D CA p l e R s m args below meth c H locs ls n0 cells slots Q hA hc hs hl hP hS kk => lv_iand hA.1 hA.2.1 hd (kk _ hl))
theorem z_ior {x y : Int32} (pc2 : Nat) (hd : decode (yc Y) pc = .ok (.ior, 1)) (e : pc + 1 = pc2) (k : Zr enc b0 Y d pc2 lv (.int (x ||| y) :: st) h r) : Zr enc b0 Y d pc lv (.int y :: .int x :: st) h r := by
  subst e
  exact k.step (fun D CA p l e R s m args below meth c H locs ls n0 cells slots Q hA hc hs hl hP hS kk => lv_ior hA.1 hA.2.1 hd (kk _ hl))
theorem z_ixor {x y : Int32} (pc2 : Nat) (hd : decode (yc Y) pc = .ok (.ixor, 1)) (e : pc + 1 = pc2) (k : Zr enc b0 Y d pc2 lv (.int (x ^^^ y) :: st) h r) : Zr enc b0 Y d pc lv (.int y :: .int x :: st) h r := by
  subst e
  exact k.step (fun D CA p l e R s m args below meth c H locs ls n0 cells slots Q hA hc hs hl hP hS kk => lv_ixor hA.1 hA.2.1 hd (kk _ hl))
theorem z_ladd {x y : Int64} (pc2 : Nat) (hd : decode (yc Y) pc = .ok (.ladd, 1)) (e : pc + 1 = pc2) (k : Zr enc b0 Y d pc2 lv (.long (x + y) :: st) h r) : Zr enc b0 Y d pc lv (.long y :: .long x :: st) h r := by
  subst e
  exact k.step (fun D CA p l e R s m args below meth c H locs ls n0 cells slots Q hA hc hs hl hP hS kk => lv_ladd hA.1 hA.2.1 hd (kk _ hl))
theorem z_lsub {x y : Int64} (pc2 : Nat) (hd : decode (yc Y) pc = .ok (.lsub, 1)) (e : pc + 1 = pc2) (k : Zr enc b0 Y d pc2 lv (.long (x - y) :: st) h r) : Zr enc b0 Y d pc lv (.long y :: .long x :: st) h r := by
  subst e
  exact k.step (fun D CA p l e R s m args below meth c H locs ls n0 cells slots Q hA hc hs hl hP hS kk => lv_lsub hA.1 hA.2.1 hd (kk _ hl))
theorem z_lmul {x y : Int64} (pc2 : Nat) (hd : decode (yc Y) pc = .ok (.lmul, 1)) (e : pc + 1 = pc2) (k : Zr enc b0 Y d pc2 lv (.long (x * y) :: st) h r) : Zr enc b0 Y d pc lv (.long y :: .long x :: st) h r := by
  subst e
  exact k.step (fun D CA p l e R s m args below meth c H locs ls n0 cells slots Q hA hc hs hl hP hS kk => lv_lmul hA.1 hA.2.1 hd (kk _ hl))
theorem z_land {x y : Int64} (pc2 : Nat) (hd : decode (yc Y) pc = .ok (.land, 1)) (e : pc + 1 = pc2) (k : Zr enc b0 Y d pc2 lv (.long (x &&& y) :: st) h r) : Zr enc b0 Y d pc lv (.long y :: .long x :: st) h r := by
  subst e
  exact k.step (fun D CA p l e R s m args below meth c H locs ls n0 cells slots Q hA hc hs hl hP hS kk => lv_land hA.1 hA.2.1 hd (kk _ hl))
theorem z_lor {x y : Int64} (pc2 : Nat) (hd : decode (yc Y) pc = .ok (.lor, 1)) (e : pc + 1 = pc2) (k : Zr enc b0 Y d pc2 lv (.long (x ||| y) :: st) h r) : Zr enc b0 Y d pc lv (.long y :: .long x :: st) h r := by
  subst e
  exact k.step (fun D CA p l e R s m args below meth c H locs ls n0 cells slots Q hA hc hs hl hP hS kk => lv_lor hA.1 hA.2.1 hd (kk _ hl))
theorem z_ishl {x y : Int32} (pc2 : Nat) (hd : decode (yc Y) pc = .ok (.ishl, 1)) (e : pc + 1 = pc2) (k : Zr enc b0 Y d pc2 lv (.int (jshl x y) :: st) h r) : Zr enc b0 Y d pc lv (.int y :: .int x :: st) h r := by
  subst e
  exact k.step (fun D CA p l e R s m args below meth c H locs ls n0 cells slots Q hA hc hs hl hP hS kk => lv_ishl hA.1 hA.2.1 hd (kk _ hl))
theorem z_ishr {x y : Int32} (pc2 : Nat) (hd : decode (yc Y) pc = .ok (.ishr, 1)) (e : pc + 1 = pc2) (k : Zr enc b0 Y d pc2 lv (.int (jshr x y) :: st) h r) : Zr enc b0 Y d pc lv (.int y :: .int x :: st) h r := by
  subst e
  exact k.step (fun D CA p l e R s m args below meth c H locs ls n0 cells slots Q hA hc hs hl hP hS kk => lv_ishr hA.1 hA.2.1 hd (kk _ hl))
theorem z_iushr {x y : Int32} (pc2 : Nat) (hd : decode (yc Y) pc = .ok (.iushr, 1)) (e : pc + 1 = pc2) (k : Zr enc b0 Y d pc2 lv (.int (jushr x y) :: st) h r) : Zr enc b0 Y d pc lv (.int y :: .int x :: st) h r := by
  subst e
  exact k.step (fun D CA p l e R s m args below meth c H locs ls n0 cells slots Q hA hc hs hl hP hS kk => lv_iushr hA.1 hA.2.1 hd rfl (kk _ hl))
theorem z_lshl {x : Int64} {y : Int32} (pc2 : Nat) (hd : decode (yc Y) pc = .ok (.lshl, 1)) (e : pc + 1 = pc2) (k : Zr enc b0 Y d pc2 lv (.long (jlshl x y) :: st) h r) : Zr enc b0 Y d pc lv (.int y :: .long x :: st) h r := by
  subst e
  exact k.step (fun D CA p l e R s m args below meth c H locs ls n0 cells slots Q hA hc hs hl hP hS kk => lv_lshl hA.1 hA.2.1 hd rfl (kk _ hl))
theorem z_lshr {x : Int64} {y : Int32} (pc2 : Nat) (hd : decode (yc Y) pc = .ok (.lshr, 1)) (e : pc + 1 = pc2) (k : Zr enc b0 Y d pc2 lv (.long (jlshr x y) :: st) h r) : Zr enc b0 Y d pc lv (.int y :: .long x :: st) h r := by
  subst e
  exact k.step (fun D CA p l e R s m args below meth c H locs ls n0 cells slots Q hA hc hs hl hP hS kk => lv_lshr hA.1 hA.2.1 hd rfl (kk _ hl))
theorem z_lushr {x : Int64} {y : Int32} (pc2 : Nat) (hd : decode (yc Y) pc = .ok (.lushr, 1)) (e : pc + 1 = pc2) (k : Zr enc b0 Y d pc2 lv (.long (jlushr x y) :: st) h r) : Zr enc b0 Y d pc lv (.int y :: .long x :: st) h r := by
  subst e
  exact k.step (fun D CA p l e R s m args below meth c H locs ls n0 cells slots Q hA hc hs hl hP hS kk => lv_lushr hA.1 hA.2.1 hd rfl (kk _ hl))
theorem z_ineg {x : Int32} (pc2 : Nat) (hd : decode (yc Y) pc = .ok (.ineg, 1)) (e : pc + 1 = pc2) (k : Zr enc b0 Y d pc2 lv (.int (-x) :: st) h r) : Zr enc b0 Y d pc lv (.int x :: st) h r := by
  subst e
  exact k.step (fun D CA p l e R s m args below meth c H locs ls n0 cells slots Q hA hc hs hl hP hS kk => lv_ineg hA.1 hA.2.1 hd (kk _ hl))
theorem z_lneg {x : Int64} (pc2 : Nat) (hd : decode (yc Y) pc = .ok (.lneg, 1)) (e : pc + 1 = pc2) (k : Zr enc b0 Y d pc2 lv (.long (-x) :: st) h r) : Zr enc b0 Y d pc lv (.long x :: st) h r := by
  subst e
  exact k.step (fun D CA p l e R s m args below meth c H locs ls n0 cells slots Q hA hc hs hl hP hS kk => lv_lneg hA.1 hA.2.1 hd (kk _ hl))
theorem z_i2l {x : Int32} (pc2 : Nat) (hd : decode (yc Y) pc = .ok (.i2l, 1)) (e : pc + 1 = pc2) (k : Zr enc b0 Y d pc2 lv (.long x.toInt64 :: st) h r) : Zr enc b0 Y d pc lv (.int x :: st) h r := by
  subst e
  exact k.step (fun D CA p l e R s m args below meth c H locs ls n0 cells slots Q hA hc hs hl hP hS kk => lv_i2l hA.1 hA.2.1 hd rfl (kk _ hl))
theorem z_l2i {x : Int64} (pc2 : Nat) (hd : decode (yc Y) pc = .ok (.l2i, 1)) (e : pc + 1 = pc2) (k : Zr enc b0 Y d pc2 lv (.int x.toInt32 :: st) h r) : Zr enc b0 Y d pc lv (.long x :: st) h r := by
  subst e
  exact k.step (fun D CA p l e R s m args below meth c H locs ls n0 cells slots Q hA hc hs hl hP hS kk => lv_l2i hA.1 hA.2.1 hd rfl (kk _ hl))
theorem z_i2c {x : Int32} (pc2 : Nat) (hd : decode (yc Y) pc = .ok (.i2c, 1)) (e : pc + 1 = pc2) (k : Zr enc b0 Y d pc2 lv (.int (ji2c x) :: st) h r) : Zr enc b0 Y d pc lv (.int x :: st) h r := by
  subst e
  exact k.step (fun D CA p l e R s m args below meth c H locs ls n0 cells slots Q hA hc hs hl hP hS kk => lv_i2c hA.1 hA.2.1 hd rfl (kk _ hl))
theorem z_i2b {x : Int32} (pc2 : Nat) (hd : decode (yc Y) pc = .ok (.i2b, 1)) (e : pc + 1 = pc2) (k : Zr enc b0 Y d pc2 lv (.int (ji2b x) :: st) h r) : Zr enc b0 Y d pc lv (.int x :: st) h r := by
  subst e
  exact k.step (fun D CA p l e R s m args below meth c H locs ls n0 cells slots Q hA hc hs hl hP hS kk => lv_i2b hA.1 hA.2.1 hd rfl (kk _ hl))
theorem z_i2f {x : Int32} (pc2 : Nat) (hd : decode (yc Y) pc = .ok (.i2f, 1)) (e : pc + 1 = pc2) (k : Zr enc b0 Y d pc2 lv (.float (FP.i2f x) :: st) h r) : Zr enc b0 Y d pc lv (.int x :: st) h r := by
  subst e
  exact k.step (fun D CA p l e R s m args below meth c H locs ls n0 cells slots Q hA hc hs hl hP hS kk => lv_i2f hA.1 hA.2.1 hd (kk _ hl))
theorem z_l2f {x : Int64} (pc2 : Nat) (hd : decode (yc Y) pc = .ok (.l2f, 1)) (e : pc + 1 = pc2) (k : Zr enc b0 Y d pc2 lv (.float (FP.l2f x) :: st) h r) : Zr enc b0 Y d pc lv (.long x :: st) h r := by
  subst e
  exact k.step (fun D CA p l e R s m args below meth c H locs ls n0 cells slots Q hA hc hs hl hP hS kk => lv_l2f hA.1 hA.2.1 hd (kk _ hl))
theorem z_lcmp {x y : Int64} (pc2 : Nat) (hd : decode (yc Y) pc = .ok (.lcmp, 1)) (e : pc + 1 = pc2) (k : Zr enc b0 Y d pc2 lv (.int (lg_cmp x y) :: st) h r) : Zr enc b0 Y d pc lv (.long y :: .long x :: st) h r := by
  subst e
  exact k.step (fun D CA p l e R s m args below meth c H locs ls n0 cells slots Q hA hc hs hl hP hS kk => W.lcmp hA.1 hA.2.1 hd (kk _ hl))
theorem z_fcmp {x y : UInt32} {op : CmpOp} (pc2 : Nat) (hd : decode (yc Y) pc = .ok (.fcmp op, 1)) (e : pc + 1 = pc2) (k : Zr enc b0 Y d pc2 lv (.int (jfcmp x y op) :: st) h r) : Zr enc b0 Y d pc lv (.float y :: .float x :: st) h r := by
  subst e
  exact k.step (fun D CA p l e R s m args below meth c H locs ls n0 cells slots Q hA hc hs hl hP hS kk => lv_fcmp hA.1 hA.2.1 hd (kk _ hl))
theorem z_dup {v : Value} (pc2 : Nat) (hv : v.category = 1) (hd : decode (yc Y) pc = .ok (.dup, 1)) (e : pc + 1 = pc2) (k : Zr enc b0 Y d pc2 lv (v :: v :: st) h r) : Zr enc b0 Y d pc lv (v :: st) h r := by
  subst e
  exact k.step (fun D CA p l e R s m args below meth c H locs ls n0 cells slots Q hA hc hs hl hP hS kk => lv_dup hA.1 hA.2.1 hd hv (kk _ hl))
theorem z_dup2 {v w : Value} (pc2 : Nat) (hv : v.category = 1) (hw : w.category = 1) (hd : decode (yc Y) pc = .ok (.dup2, 1)) (e : pc + 1 = pc2) (k : Zr enc b0 Y d pc2 lv (v :: w :: v :: w :: st) h r) : Zr enc b0 Y d pc lv (v :: w :: st) h r := by
  subst e
  exact k.step (fun D CA p l e R s m args below meth c H locs ls n0 cells slots Q hA hc hs hl hP hS kk => lv_dup2_11 hA.1 hA.2.1 hd hv hw (kk _ hl))
theorem z_pop {v : Value} (pc2 : Nat) (hv : v.category = 1) (hd : decode (yc Y) pc = .ok (.pop, 1)) (e : pc + 1 = pc2) (k : Zr enc b0 Y d pc2 lv (st) h r) : Zr enc b0 Y d pc lv (v :: st) h r := by
  subst e
  exact k.step (fun D CA p l e R s m args below meth c H locs ls n0 cells slots Q hA hc hs hl hP hS kk => lv_pop hA.1 hA.2.1 hd hv (kk _ hl))
theorem z_iconst {n : Int} (v : Int32) (pc2 : Nat) (hv : Int32.ofInt n = v) (hd : decode (yc Y) pc = .ok (.iconst n, 1)) (e : pc + 1 = pc2) (k : Zr enc b0 Y d pc2 lv (.int v :: st) h r) : Zr enc b0 Y d pc lv (st) h r := by
  subst e
  exact k.step (fun D CA p l e R s m args below meth c H locs ls n0 cells slots Q hA hc hs hl hP hS kk => lv_iconst hA.1 hA.2.1 hd hv (kk _ hl))
theorem z_bipush {n : Int} (v : Int32) (pc2 : Nat) (hv : (Int8.ofInt n).toInt32 = v) (hd : decode (yc Y) pc = .ok (.bipush n, 2)) (e : pc + 2 = pc2) (k : Zr enc b0 Y d pc2 lv (.int v :: st) h r) : Zr enc b0 Y d pc lv (st) h r := by
  subst e
  exact k.step (fun D CA p l e R s m args below meth c H locs ls n0 cells slots Q hA hc hs hl hP hS kk => lv_bipush hA.1 hA.2.1 hd hv (kk _ hl))
theorem z_sipush {n : Int} (v : Int32) (pc2 : Nat) (hv : (Int16.ofInt n).toInt32 = v) (hd : decode (yc Y) pc = .ok (.sipush n, 3)) (e : pc + 3 = pc2) (k : Zr enc b0 Y d pc2 lv (.int v :: st) h r) : Zr enc b0 Y d pc lv (st) h r := by
  subst e
  exact k.step (fun D CA p l e R s m args below meth c H locs ls n0 cells slots Q hA hc hs hl hP hS kk => lv_sipush hA.1 hA.2.1 hd hv (kk _ hl))
theorem z_lconst {n : Fin 2} (v : Int64) (pc2 : Nat) (hv : Int64.ofNat (n : Nat) = v) (hd : decode (yc Y) pc = .ok (.lconst n, 1)) (e : pc + 1 = pc2) (k : Zr enc b0 Y d pc2 lv (.long v :: st) h r) : Zr enc b0 Y d pc lv (st) h r := by
  subst e
  exact k.step (fun D CA p l e R s m args below meth c H locs ls n0 cells slots Q hA hc hs hl hP hS kk => lv_lconst hA.1 hA.2.1 hd hv (kk _ hl))
theorem z_fconst0  (pc2 : Nat) (hd : decode (yc Y) pc = .ok (.fconst 0, 1)) (e : pc + 1 = pc2) (k : Zr enc b0 Y d pc2 lv (.float FP.fconst0 :: st) h r) : Zr enc b0 Y d pc lv (st) h r := by
  subst e
  exact k.step (fun D CA p l e R s m args below meth c H locs ls n0 cells slots Q hA hc hs hl hP hS kk => lv_fconst0 hA.1 hA.2.1 hd (kk _ hl))
theorem z_ldc {n : Nat} {v : Int32} (pc2 : Nat) (hw : Cond.constant (yo Y) n v ∈ zgw) (hd : decode (yc Y) pc = .ok (.ldc n, 2)) (e : pc + 2 = pc2) (k : Zr enc b0 Y d pc2 lv (.int v :: st) h r) : Zr enc b0 Y d pc lv (st) h r := by
  subst e
  exact k.step (fun D CA p l e R s m args below meth c H locs ls n0 cells slots Q hA hc hs hl hP hS kk => lv_ldc hA.1 hA.2.1 hA.2.2.2.1 (hA.2.2.2.2.1 _ hw) hd (kk _ hl))
theorem z_ldcw {n : Nat} {v : Int32} (pc2 : Nat) (hw : Cond.constant (yo Y) n v ∈ zgw) (hd : decode (yc Y) pc = .ok (.ldc_w n, 3)) (e : pc + 3 = pc2) (k : Zr enc b0 Y d pc2 lv (.int v :: st) h r) : Zr enc b0 Y d pc lv (st) h r := by
  subst e
  exact k.step (fun D CA p l e R s m args below meth c H locs ls n0 cells slots Q hA hc hs hl hP hS kk => lv_ldcw hA.1 hA.2.1 hA.2.2.2.1 (hA.2.2.2.2.1 _ hw) hd (kk _ hl))
theorem z_ldc2 {n : Nat} {v : Int64} (pc2 : Nat) (hw : Cond.constantLong (yo Y) n v ∈ zgw) (hd : decode (yc Y) pc = .ok (.ldc2_w n, 3)) (e : pc + 3 = pc2) (k : Zr enc b0 Y d pc2 lv (.long v :: st) h r) : Zr enc b0 Y d pc lv (st) h r := by
  subst e
  exact k.step (fun D CA p l e R s m args below meth c H locs ls n0 cells slots Q hA hc hs hl hP hS kk => lv_ldc2 hA.1 hA.2.1 hA.2.2.2.1 (hA.2.2.2.2.1 _ hw) hd (kk _ hl))
theorem z_ldcf {n : Nat} {v : UInt32} (pc2 : Nat) (hw : Cond.constantFloat (yo Y) n v ∈ zgw) (hd : decode (yc Y) pc = .ok (.ldc n, 2)) (e : pc + 2 = pc2) (k : Zr enc b0 Y d pc2 lv (.float v :: st) h r) : Zr enc b0 Y d pc lv (st) h r := by
  subst e
  exact k.step (fun D CA p l e R s m args below meth c H locs ls n0 cells slots Q hA hc hs hl hP hS kk => lv_ldcf hA.1 hA.2.1 hA.2.2.2.1 (hA.2.2.2.2.1 _ hw) hd (kk _ hl))
theorem z_iload {i : Nat} {x : Int32} (pc2 k0 : Nat) (hd : decode (yc Y) pc = .ok (.iload i, 2)) (e : pc + 2 = pc2) (hk : lv[k0]? = some (i, .int x)) (k : Zr enc b0 Y d pc2 lv (.int x :: st) h r) : Zr enc b0 Y d pc lv st h r := by
  subst e
  exact k.step (fun D CA p l e R s m args below meth c H locs ls n0 cells slots Q hA hc hs hl hP hS kk => lv_iload hA.1 hA.2.1 hd (lv_at hl k0 hk) (kk _ hl))
theorem z_iload_n {i : Fin 4} {x : Int32} (pc2 k0 : Nat) (hd : decode (yc Y) pc = .ok (.iload_n i, 1)) (e : pc + 1 = pc2) (hk : lv[k0]? = some ((i : Nat), .int x)) (k : Zr enc b0 Y d pc2 lv (.int x :: st) h r) : Zr enc b0 Y d pc lv st h r := by
  subst e
  exact k.step (fun D CA p l e R s m args below meth c H locs ls n0 cells slots Q hA hc hs hl hP hS kk => lv_iload_n hA.1 hA.2.1 hd rfl (lv_at hl k0 hk) (kk _ hl))
theorem z_lload {i : Nat} {x : Int64} (pc2 k0 : Nat) (hd : decode (yc Y) pc = .ok (.lload i, 2)) (e : pc + 2 = pc2) (hk : lv[k0]? = some (i, .long x)) (k : Zr enc b0 Y d pc2 lv (.long x :: st) h r) : Zr enc b0 Y d pc lv st h r := by
  subst e
  exact k.step (fun D CA p l e R s m args below meth c H locs ls n0 cells slots Q hA hc hs hl hP hS kk => lv_lload hA.1 hA.2.1 hd (lv_at hl k0 hk) (kk _ hl))
theorem z_lload_n {i : Fin 4} {x : Int64} (pc2 k0 : Nat) (hd : decode (yc Y) pc = .ok (.lload_n i, 1)) (e : pc + 1 = pc2) (hk : lv[k0]? = some ((i : Nat), .long x)) (k : Zr enc b0 Y d pc2 lv (.long x :: st) h r) : Zr enc b0 Y d pc lv st h r := by
  subst e
  exact k.step (fun D CA p l e R s m args below meth c H locs ls n0 cells slots Q hA hc hs hl hP hS kk => lv_lload_n hA.1 hA.2.1 hd rfl (lv_at hl k0 hk) (kk _ hl))
theorem z_aload {i : Nat} {x : Nat} (pc2 k0 : Nat) (hd : decode (yc Y) pc = .ok (.aload i, 2)) (e : pc + 2 = pc2) (hk : lv[k0]? = some (i, .ref x)) (k : Zr enc b0 Y d pc2 lv (.ref x :: st) h r) : Zr enc b0 Y d pc lv st h r := by
  subst e
  exact k.step (fun D CA p l e R s m args below meth c H locs ls n0 cells slots Q hA hc hs hl hP hS kk => lv_aload hA.1 hA.2.1 hd (lv_at hl k0 hk) (kk _ hl))
theorem z_aload_n {i : Fin 4} {x : Nat} (pc2 k0 : Nat) (hd : decode (yc Y) pc = .ok (.aload_n i, 1)) (e : pc + 1 = pc2) (hk : lv[k0]? = some ((i : Nat), .ref x)) (k : Zr enc b0 Y d pc2 lv (.ref x :: st) h r) : Zr enc b0 Y d pc lv st h r := by
  subst e
  exact k.step (fun D CA p l e R s m args below meth c H locs ls n0 cells slots Q hA hc hs hl hP hS kk => lv_aload_n hA.1 hA.2.1 hd rfl (lv_at hl k0 hk) (kk _ hl))
theorem z_fload {i : Nat} {x : UInt32} (pc2 k0 : Nat) (hd : decode (yc Y) pc = .ok (.fload i, 2)) (e : pc + 2 = pc2) (hk : lv[k0]? = some (i, .float x)) (k : Zr enc b0 Y d pc2 lv (.float x :: st) h r) : Zr enc b0 Y d pc lv st h r := by
  subst e
  exact k.step (fun D CA p l e R s m args below meth c H locs ls n0 cells slots Q hA hc hs hl hP hS kk => lv_fload hA.1 hA.2.1 hd (lv_at hl k0 hk) (kk _ hl))
theorem z_fload_n {i : Fin 4} {x : UInt32} (pc2 k0 : Nat) (hd : decode (yc Y) pc = .ok (.fload_n i, 1)) (e : pc + 1 = pc2) (hk : lv[k0]? = some ((i : Nat), .float x)) (k : Zr enc b0 Y d pc2 lv (.float x :: st) h r) : Zr enc b0 Y d pc lv st h r := by
  subst e
  exact k.step (fun D CA p l e R s m args below meth c H locs ls n0 cells slots Q hA hc hs hl hP hS kk => lv_fload_n hA.1 hA.2.1 hd rfl (lv_at hl k0 hk) (kk _ hl))
theorem z_istore {i : Nat} {x : Int32} (pc2 : Nat) (hd : decode (yc Y) pc = .ok (.istore i, 2)) (e : pc + 2 = pc2) (hn : i < yl Y) (e2 : zst i (.int x) lv = lv2) (k : Zr enc b0 Y d pc2 lv2 st h r) : Zr enc b0 Y d pc lv (.int x :: st) h r := by
  subst e
  exact k.step (fun D CA p l e R s m args below meth c H locs ls n0 cells slots Q hA hc hs hl hP hS kk => lv_istore hA.1 hA.2.1 hd hl hn e2 kk)
theorem z_istore_n {i : Fin 4} {x : Int32} (pc2 : Nat) (hd : decode (yc Y) pc = .ok (.istore_n i, 1)) (e : pc + 1 = pc2) (hn : (i : Nat) < yl Y) (e2 : zst (i : Nat) (.int x) lv = lv2) (k : Zr enc b0 Y d pc2 lv2 st h r) : Zr enc b0 Y d pc lv (.int x :: st) h r := by
  subst e
  exact k.step (fun D CA p l e R s m args below meth c H locs ls n0 cells slots Q hA hc hs hl hP hS kk => lv_istore_n hA.1 hA.2.1 hd rfl hl hn e2 kk)
theorem z_lstore {i : Nat} {x : Int64} (pc2 : Nat) (hd : decode (yc Y) pc = .ok (.lstore i, 2)) (e : pc + 2 = pc2) (hn : i + 1 < yl Y) (e2 : zst2 i (.long x) lv = lv2) (k : Zr enc b0 Y d pc2 lv2 st h r) : Zr enc b0 Y d pc lv (.long x :: st) h r := by
  subst e
  exact k.step (fun D CA p l e R s m args below meth c H locs ls n0 cells slots Q hA hc hs hl hP hS kk => lv_lstore hA.1 hA.2.1 hd hl hn e2 kk)
theorem z_lstore_n {i : Fin 4} {x : Int64} (pc2 : Nat) (hd : decode (yc Y) pc = .ok (.lstore_n i, 1)) (e : pc + 1 = pc2) (hn : (i : Nat) + 1 < yl Y) (e2 : zst2 (i : Nat) (.long x) lv = lv2) (k : Zr enc b0 Y d pc2 lv2 st h r) : Zr enc b0 Y d pc lv (.long x :: st) h r := by
  subst e
  exact k.step (fun D CA p l e R s m args below meth c H locs ls n0 cells slots Q hA hc hs hl hP hS kk => lv_lstore_n hA.1 hA.2.1 hd rfl hl hn e2 kk)
theorem z_astore {i : Nat} {x : Nat} (pc2 : Nat) (hd : decode (yc Y) pc = .ok (.astore i, 2)) (e : pc + 2 = pc2) (hn : i < yl Y) (e2 : zst i (.ref x) lv = lv2) (k : Zr enc b0 Y d pc2 lv2 st h r) : Zr enc b0 Y d pc lv (.ref x :: st) h r := by
  subst e
  exact k.step (fun D CA p l e R s m args below meth c H locs ls n0 cells slots Q hA hc hs hl hP hS kk => lv_astore hA.1 hA.2.1 hd hl hn e2 kk)
theorem z_astore_n {i : Fin 4} {x : Nat} (pc2 : Nat) (hd : decode (yc Y) pc = .ok (.astore_n i, 1)) (e : pc + 1 = pc2) (hn : (i : Nat) < yl Y) (e2 : zst (i : Nat) (.ref x) lv = lv2) (k : Zr enc b0 Y d pc2 lv2 st h r) : Zr enc b0 Y d pc lv (.ref x :: st) h r := by
  subst e
  exact k.step (fun D CA p l e R s m args below meth c H locs ls n0 cells slots Q hA hc hs hl hP hS kk => lv_astore_n hA.1 hA.2.1 hd rfl hl hn e2 kk)
theorem z_fstore {i : Nat} {x : UInt32} (pc2 : Nat) (hd : decode (yc Y) pc = .ok (.fstore i, 2)) (e : pc + 2 = pc2) (hn : i < yl Y) (e2 : zst i (.float x) lv = lv2) (k : Zr enc b0 Y d pc2 lv2 st h r) : Zr enc b0 Y d pc lv (.float x :: st) h r := by
  subst e
  exact k.step (fun D CA p l e R s m args below meth c H locs ls n0 cells slots Q hA hc hs hl hP hS kk => lv_fstore hA.1 hA.2.1 hd hl hn e2 kk)
theorem z_fstore_n {i : Fin 4} {x : UInt32} (pc2 : Nat) (hd : decode (yc Y) pc = .ok (.fstore_n i, 1)) (e : pc + 1 = pc2) (hn : (i : Nat) < yl Y) (e2 : zst (i : Nat) (.float x) lv = lv2) (k : Zr enc b0 Y d pc2 lv2 st h r) : Zr enc b0 Y d pc lv (.float x :: st) h r := by
  subst e
  exact k.step (fun D CA p l e R s m args below meth c H locs ls n0 cells slots Q hA hc hs hl hP hS kk => lv_fstore_n hA.1 hA.2.1 hd rfl hl hn e2 kk)
theorem z_iinc {i : Nat} {n : Int} {x : Int32} (v : Int32) (pc2 k0 : Nat) (hd : decode (yc Y) pc = .ok (.iinc i n, 3)) (e : pc + 3 = pc2) (hk : lv[k0]? = some (i, .int x)) (hv : Int32.ofInt n = v) (hn : i < yl Y) (e2 : zst i (.int (x + v)) lv = lv2) (k : Zr enc b0 Y d pc2 lv2 st h r) : Zr enc b0 Y d pc lv st h r := by
  subst e
  exact k.step (fun D CA p l e R s m args below meth c H locs ls n0 cells slots Q hA hc hs hl hP hS kk => lv_iinc hA.1 hA.2.1 hd hl hk (by rw [hv]) hn e2 kk)
theorem z_goto {off : Int} (tgt : Nat) (hd : decode (yc Y) pc = .ok (.goto off, 3)) (ht : (pc : Int) + off = (tgt : Int)) (k : Zr enc b0 Y d tgt lv st h r) : Zr enc b0 Y d pc lv st h r := k.step (fun D CA p l e R s m args below meth c H locs ls n0 cells slots Q hA hc hs hl hP hS kk => lv_goto hA.1 hA.2.1 hd ht (kk _ hl))
/-- a branch -/
theorem Zr.br {tgt pc2 : Nat} {st2 : List Value} {G : Prop} {hG : Decidable G} {r1 r2 : Option α} (k1 : G → Zr enc b0 Y d tgt lv st2 h r1) (k2 : ¬ G → Zr enc b0 Y d pc2 lv st2 h r2)
    (f : ∀ (D : va_G) (CA : Nat → ClassId) (p : Program) (l : Launch) (e : Env) (R : Room) (s : State) (m : MethodId) (args : Array Value) (below : List Frame) (meth : Method) (c : Code) (H : Heap) (locs : List Loc) (ls : Array Slot) (n0 cells slots : Nat) (Q : State → Prop), zA b0 D CA Y d p R s m args meth c n0 →
      (G → W p l e R s m args below meth c H locs cells slots Q (F0 m tgt ls st2)) → (¬ G → W p l e R s m args below meth c H locs cells slots Q (F0 m pc2 ls st2)) → W p l e R s m args below meth c H locs cells slots Q (F0 m pc ls st)) : Zr enc b0 Y d pc lv st h (if G then r1 else r2) := by
  intro x hx
  by_cases g : G
  · rw [if_pos g] at hx
    obtain ⟨h1, h2, K⟩ := k1 g x hx
    exact ⟨h1, h2, fun D CA p l e R s m args below meth c H locs ls n0 s0 Q hA hn hs hc hsl hl hP hS hret => f D CA p l e R s m args below meth c H locs ls n0 _ _ Q hA (fun _ => K D CA p l e R s m args below meth c H locs ls n0 s0 Q hA hn hs hc hsl hl hP hS hret) (fun g' => absurd g g')⟩
  · rw [if_neg g] at hx
    obtain ⟨h1, h2, K⟩ := k2 g x hx
    exact ⟨h1, h2, fun D CA p l e R s m args below meth c H locs ls n0 s0 Q hA hn hs hc hsl hl hP hS hret => f D CA p l e R s m args below meth c H locs ls n0 _ _ Q hA (fun g' => absurd g' g) (fun _ => K D CA p l e R s m args below meth c H locs ls n0 s0 Q hA hn hs hc hsl hl hP hS hret)⟩
theorem z_icmp_eq {x y : Int32} {off : Int} {r1 r2 : Option α} (tgt pc2 : Nat) (hd : decode (yc Y) pc = .ok (.if_icmp .eq off, 3)) (ht : (pc : Int) + off = (tgt : Int)) (e : pc + 3 = pc2) (k1 : x = y → Zr enc b0 Y d tgt lv st h r1) (k2 : ¬ x = y → Zr enc b0 Y d pc2 lv st h r2) : Zr enc b0 Y d pc lv (.int y :: .int x :: st) h (if x = y then r1 else r2) := by
  subst e
  exact Zr.br k1 k2 (fun D CA p l e R s m args below meth c H locs ls n0 cells slots Q hA kt kf => lv_icmp_eq hA.1 hA.2.1 hd ht kt kf)
theorem z_if_eq {x : Int32} {off : Int} {r1 r2 : Option α} (tgt pc2 : Nat) (hd : decode (yc Y) pc = .ok (.ifCond .eq off, 3)) (ht : (pc : Int) + off = (tgt : Int)) (e : pc + 3 = pc2) (k1 : x = 0 → Zr enc b0 Y d tgt lv st h r1) (k2 : ¬ x = 0 → Zr enc b0 Y d pc2 lv st h r2) : Zr enc b0 Y d pc lv (.int x :: st) h (if x = 0 then r1 else r2) := by
  subst e
  exact Zr.br k1 k2 (fun D CA p l e R s m args below meth c H locs ls n0 cells slots Q hA kt kf => lv_if_eq hA.1 hA.2.1 hd ht kt kf)
theorem z_icmp_ne {x y : Int32} {off : Int} {r1 r2 : Option α} (tgt pc2 : Nat) (hd : decode (yc Y) pc = .ok (.if_icmp .ne off, 3)) (ht : (pc : Int) + off = (tgt : Int)) (e : pc + 3 = pc2) (k1 : ¬ x = y → Zr enc b0 Y d tgt lv st h r1) (k2 : x = y → Zr enc b0 Y d pc2 lv st h r2) : Zr enc b0 Y d pc lv (.int y :: .int x :: st) h (if x = y then r2 else r1) := by
  subst e
  exact Zr.br k2 k1 (fun D CA p l e R s m args below meth c H locs ls n0 cells slots Q hA kt kf => lv_icmp_ne hA.1 hA.2.1 hd ht kf kt)
theorem z_if_ne {x : Int32} {off : Int} {r1 r2 : Option α} (tgt pc2 : Nat) (hd : decode (yc Y) pc = .ok (.ifCond .ne off, 3)) (ht : (pc : Int) + off = (tgt : Int)) (e : pc + 3 = pc2) (k1 : ¬ x = 0 → Zr enc b0 Y d tgt lv st h r1) (k2 : x = 0 → Zr enc b0 Y d pc2 lv st h r2) : Zr enc b0 Y d pc lv (.int x :: st) h (if x = 0 then r2 else r1) := by
  subst e
  exact Zr.br k2 k1 (fun D CA p l e R s m args below meth c H locs ls n0 cells slots Q hA kt kf => lv_if_ne hA.1 hA.2.1 hd ht kf kt)
theorem z_icmp_lt {x y : Int32} {off : Int} {r1 r2 : Option α} (tgt pc2 : Nat) (hd : decode (yc Y) pc = .ok (.if_icmp .lt off, 3)) (ht : (pc : Int) + off = (tgt : Int)) (e : pc + 3 = pc2) (k1 : x < y → Zr enc b0 Y d tgt lv st h r1) (k2 : ¬ x < y → Zr enc b0 Y d pc2 lv st h r2) : Zr enc b0 Y d pc lv (.int y :: .int x :: st) h (if x < y then r1 else r2) := by
  subst e
  exact Zr.br k1 k2 (fun D CA p l e R s m args below meth c H locs ls n0 cells slots Q hA kt kf => lv_icmp_lt hA.1 hA.2.1 hd ht kt kf)
theorem z_if_lt {x : Int32} {off : Int} {r1 r2 : Option α} (tgt pc2 : Nat) (hd : decode (yc Y) pc = .ok (.ifCond .lt off, 3)) (ht : (pc : Int) + off = (tgt : Int)) (e : pc + 3 = pc2) (k1 : x < 0 → Zr enc b0 Y d tgt lv st h r1) (k2 : ¬ x < 0 → Zr enc b0 Y d pc2 lv st h r2) : Zr enc b0 Y d pc lv (.int x :: st) h (if x < 0 then r1 else r2) := by
  subst e
  exact Zr.br k1 k2 (fun D CA p l e R s m args below meth c H locs ls n0 cells slots Q hA kt kf => lv_if_lt hA.1 hA.2.1 hd ht kt kf)
theorem z_icmp_ge {x y : Int32} {off : Int} {r1 r2 : Option α} (tgt pc2 : Nat) (hd : decode (yc Y) pc = .ok (.if_icmp .ge off, 3)) (ht : (pc : Int) + off = (tgt : Int)) (e : pc + 3 = pc2) (k1 : y ≤ x → Zr enc b0 Y d tgt lv st h r1) (k2 : ¬ y ≤ x → Zr enc b0 Y d pc2 lv st h r2) : Zr enc b0 Y d pc lv (.int y :: .int x :: st) h (if y ≤ x then r1 else r2) := by
  subst e
  exact Zr.br k1 k2 (fun D CA p l e R s m args below meth c H locs ls n0 cells slots Q hA kt kf => lv_icmp_ge hA.1 hA.2.1 hd ht kt kf)
theorem z_if_ge {x : Int32} {off : Int} {r1 r2 : Option α} (tgt pc2 : Nat) (hd : decode (yc Y) pc = .ok (.ifCond .ge off, 3)) (ht : (pc : Int) + off = (tgt : Int)) (e : pc + 3 = pc2) (k1 : 0 ≤ x → Zr enc b0 Y d tgt lv st h r1) (k2 : ¬ 0 ≤ x → Zr enc b0 Y d pc2 lv st h r2) : Zr enc b0 Y d pc lv (.int x :: st) h (if 0 ≤ x then r1 else r2) := by
  subst e
  exact Zr.br k1 k2 (fun D CA p l e R s m args below meth c H locs ls n0 cells slots Q hA kt kf => lv_if_ge hA.1 hA.2.1 hd ht kt kf)
theorem z_icmp_gt {x y : Int32} {off : Int} {r1 r2 : Option α} (tgt pc2 : Nat) (hd : decode (yc Y) pc = .ok (.if_icmp .gt off, 3)) (ht : (pc : Int) + off = (tgt : Int)) (e : pc + 3 = pc2) (k1 : y < x → Zr enc b0 Y d tgt lv st h r1) (k2 : ¬ y < x → Zr enc b0 Y d pc2 lv st h r2) : Zr enc b0 Y d pc lv (.int y :: .int x :: st) h (if y < x then r1 else r2) := by
  subst e
  exact Zr.br k1 k2 (fun D CA p l e R s m args below meth c H locs ls n0 cells slots Q hA kt kf => lv_icmp_gt hA.1 hA.2.1 hd ht kt kf)
theorem z_if_gt {x : Int32} {off : Int} {r1 r2 : Option α} (tgt pc2 : Nat) (hd : decode (yc Y) pc = .ok (.ifCond .gt off, 3)) (ht : (pc : Int) + off = (tgt : Int)) (e : pc + 3 = pc2) (k1 : 0 < x → Zr enc b0 Y d tgt lv st h r1) (k2 : ¬ 0 < x → Zr enc b0 Y d pc2 lv st h r2) : Zr enc b0 Y d pc lv (.int x :: st) h (if 0 < x then r1 else r2) := by
  subst e
  exact Zr.br k1 k2 (fun D CA p l e R s m args below meth c H locs ls n0 cells slots Q hA kt kf => lv_if_gt hA.1 hA.2.1 hd ht kt kf)
theorem z_icmp_le {x y : Int32} {off : Int} {r1 r2 : Option α} (tgt pc2 : Nat) (hd : decode (yc Y) pc = .ok (.if_icmp .le off, 3)) (ht : (pc : Int) + off = (tgt : Int)) (e : pc + 3 = pc2) (k1 : x ≤ y → Zr enc b0 Y d tgt lv st h r1) (k2 : ¬ x ≤ y → Zr enc b0 Y d pc2 lv st h r2) : Zr enc b0 Y d pc lv (.int y :: .int x :: st) h (if x ≤ y then r1 else r2) := by
  subst e
  exact Zr.br k1 k2 (fun D CA p l e R s m args below meth c H locs ls n0 cells slots Q hA kt kf => lv_icmp_le hA.1 hA.2.1 hd ht kt kf)
theorem z_if_le {x : Int32} {off : Int} {r1 r2 : Option α} (tgt pc2 : Nat) (hd : decode (yc Y) pc = .ok (.ifCond .le off, 3)) (ht : (pc : Int) + off = (tgt : Int)) (e : pc + 3 = pc2) (k1 : x ≤ 0 → Zr enc b0 Y d tgt lv st h r1) (k2 : ¬ x ≤ 0 → Zr enc b0 Y d pc2 lv st h r2) : Zr enc b0 Y d pc lv (.int x :: st) h (if x ≤ 0 then r1 else r2) := by
  subst e
  exact Zr.br k1 k2 (fun D CA p l e R s m args below meth c H locs ls n0 cells slots Q hA kt kf => lv_if_le hA.1 hA.2.1 hd ht kt kf)
theorem z_idiv {x y : Int32} (pc2 : Nat) (hd : decode (yc Y) pc = .ok (.idiv, 1)) (e : pc + 1 = pc2) (k : ¬ y = 0 → Zr enc b0 Y d pc2 lv (.int (x / y) :: st) h r) : Zr enc b0 Y d pc lv (.int y :: .int x :: st) h (if y = 0 then none else r) := by
  subst e
  by_cases g : y = 0
  · rw [if_pos g]; exact Zr.none
  · rw [if_neg g]
    exact (k g).step (fun D CA p l e R s m args below meth c H locs ls n0 cells slots Q hA hc hs hl hP hS kk => lv_idiv hA.1 hA.2.1 hd g (kk _ hl))
theorem z_irem {x y : Int32} (pc2 : Nat) (hd : decode (yc Y) pc = .ok (.irem, 1)) (e : pc + 1 = pc2) (k : ¬ y = 0 → Zr enc b0 Y d pc2 lv (.int (jrem x y) :: st) h r) : Zr enc b0 Y d pc lv (.int y :: .int x :: st) h (if y = 0 then none else r) := by
  subst e
  by_cases g : y = 0
  · rw [if_pos g]; exact Zr.none
  · rw [if_neg g]
    exact (k g).step (fun D CA p l e R s m args below meth c H locs ls n0 cells slots Q hA hc hs hl hP hS kk => lv_irem hA.1 hA.2.1 hd g (kk _ hl))
theorem z_ldiv {x y : Int64} (pc2 : Nat) (hd : decode (yc Y) pc = .ok (.ldiv, 1)) (e : pc + 1 = pc2) (k : ¬ y = 0 → Zr enc b0 Y d pc2 lv (.long (x / y) :: st) h r) : Zr enc b0 Y d pc lv (.long y :: .long x :: st) h (if y = 0 then none else r) := by
  subst e
  by_cases g : y = 0
  · rw [if_pos g]; exact Zr.none
  · rw [if_neg g]
    exact (k g).step (fun D CA p l e R s m args below meth c H locs ls n0 cells slots Q hA hc hs hl hP hS kk => lv_ldiv hA.1 hA.2.1 hd g (kk _ hl))
theorem z_lrem {x y : Int64} (pc2 : Nat) (hd : decode (yc Y) pc = .ok (.lrem, 1)) (e : pc + 1 = pc2) (k : ¬ y = 0 → Zr enc b0 Y d pc2 lv (.long (jlrem x y) :: st) h r) : Zr enc b0 Y d pc lv (.long y :: .long x :: st) h (if y = 0 then none else r) := by
  subst e
  by_cases g : y = 0
  · rw [if_pos g]; exact Zr.none
  · rw [if_neg g]
    exact (k g).step (fun D CA p l e R s m args below meth c H locs ls n0 cells slots Q hA hc hs hl hP hS kk => lv_lrem hA.1 hA.2.1 hd g (kk _ hl))
theorem z_fdiv {x y : UInt32} (pc2 : Nat) (hd : decode (yc Y) pc = .ok (.fdiv, 1)) (e : pc + 1 = pc2) (k : Zr enc b0 Y d pc2 lv (.float (FP.fdiv x y) :: st) h r) : Zr enc b0 Y d pc lv (.float y :: .float x :: st) h (if FP.fdiv x y &&& 0x7fffffff ≤ 0x7f800000 then r else none) := by
  subst e
  by_cases g : FP.fdiv x y &&& 0x7fffffff ≤ 0x7f800000
  · rw [if_pos g]
    exact k.step (fun D CA p l e R s m args below meth c H locs ls n0 cells slots Q hA hc hs hl hP hS kk => lv_fdiv hA.1 hA.2.1 hd g (kk _ hl))
  · rw [if_neg g]; exact Zr.none
end ZRULES
