/-! ROWS IN THE FORM THAT THE WRITER USES -/
def zal (h : ZH) (k n : Nat) : Option (Nat × ZH) := some (zn h, znew h k n)
def zala (h : ZH) (k : Nat) (n : Int32) : Option (Nat × ZH) := if n < 0 ∨ 67108864 < n.toNatClampNeg then none else some (zn h, znew h k n.toNatClampNeg)
def zfu : Nat := 100000
theorem zguard {β : Type} {G : Prop} {hG : Decidable G} {r : Option β} {x : β} (h : (if G then r else none) = some x) : G := by
  by_cases g : G
  · exact g
  · rw [if_neg g] at h; cases h
section ZMORE
variable {α : Type} {enc : α → Option Value × ZH} {b0 : Nat} {Y : zY} {d pc : Nat} {lv lv2 : List (Nat × Value)} {st : List Value} {h : ZH} {r : Option α}
theorem z_guard {G : Prop} {hG : Decidable G} (k : G → Zr enc b0 Y d pc lv st h r) : Zr enc b0 Y d pc lv st h (if G then r else none) := by
  by_cases g : G
  · rw [if_pos g]; exact k g
  · rw [if_neg g]; exact Zr.none
theorem z_guardT {G : Prop} {hG : Decidable G} (k : ¬ G → Zr enc b0 Y d pc lv st h r) : Zr enc b0 Y d pc lv st h (if G then none else r) := by
  by_cases g : G
  · rw [if_pos g]; exact Zr.none
  · rw [if_neg g]; exact k g
theorem z_newO {ci idx N : Nat} {C : String} {T : u_T} {ty : Nat → FieldType} {f : Nat × ZH → Option α} (pc2 : Nat) (ck : zCok ci C T N ty) (hdf : ∀ j, j < N → defaultValue (ty j) = if zTR ci j = true then Value.null else .int 0) (hcl : Cond.classLink (yo Y) idx C ∈ zgw) (hinst : Cond.instantiable C N ∈ zgw) (hini : Cond.initialized C ∈ zgw) (hd : decode (yc Y) pc = .ok (.new idx, 3)) (e : pc + 3 = pc2) (kk : ∀ q, Zr enc b0 Y d pc2 lv (.ref (b0 + q.1) :: st) q.2 (f q)) : Zr enc b0 Y d pc lv st h ((zal h ci N).bind f) :=
  z_new pc2 ck hdf hcl hinst hini hd e (kk (zn h, znew h ci N))
theorem z_newA_int {n : Int32} {f : Nat × ZH → Option α} (pc2 : Nat) (hw : Cond.arrayClass .int ∈ zgw) (hd : decode (yc Y) pc = .ok (.newarray .int, 2)) (e : pc + 2 = pc2) (kk : ∀ q, Zr enc b0 Y d pc2 lv (.ref (b0 + q.1) :: st) q.2 (f q)) : Zr enc b0 Y d pc lv (.int n :: st) h ((zala h 14 n).bind f) := by
  have e1 : (zala h 14 n).bind f = if n < 0 ∨ 67108864 < n.toNatClampNeg then none else f (zn h, znew h 14 n.toNatClampNeg) := by unfold zala; split <;> rfl
  rw [e1]
  exact z_newarray_int pc2 hw hd e (kk (zn h, znew h 14 n.toNatClampNeg))
theorem z_newA_long {n : Int32} {f : Nat × ZH → Option α} (pc2 : Nat) (hw : Cond.arrayClass .long ∈ zgw) (hd : decode (yc Y) pc = .ok (.newarray .long, 2)) (e : pc + 2 = pc2) (kk : ∀ q, Zr enc b0 Y d pc2 lv (.ref (b0 + q.1) :: st) q.2 (f q)) : Zr enc b0 Y d pc lv (.int n :: st) h ((zala h 15 n).bind f) := by
  have e1 : (zala h 15 n).bind f = if n < 0 ∨ 67108864 < n.toNatClampNeg then none else f (zn h, znew h 15 n.toNatClampNeg) := by unfold zala; split <;> rfl
  rw [e1]
  exact z_newarray_long pc2 hw hd e (kk (zn h, znew h 15 n.toNatClampNeg))
theorem z_newA_char {n : Int32} {f : Nat × ZH → Option α} (pc2 : Nat) (hw : Cond.arrayClass .char ∈ zgw) (hd : decode (yc Y) pc = .ok (.newarray .char, 2)) (e : pc + 2 = pc2) (kk : ∀ q, Zr enc b0 Y d pc2 lv (.ref (b0 + q.1) :: st) q.2 (f q)) : Zr enc b0 Y d pc lv (.int n :: st) h ((zala h 12 n).bind f) := by
  have e1 : (zala h 12 n).bind f = if n < 0 ∨ 67108864 < n.toNatClampNeg then none else f (zn h, znew h 12 n.toNatClampNeg) := by unfold zala; split <;> rfl
  rw [e1]
  exact z_newarray_char pc2 hw hd e (kk (zn h, znew h 12 n.toNatClampNeg))
theorem z_newA_boolean {n : Int32} {f : Nat × ZH → Option α} (pc2 : Nat) (hw : Cond.arrayClass .boolean ∈ zgw) (hd : decode (yc Y) pc = .ok (.newarray .boolean, 2)) (e : pc + 2 = pc2) (kk : ∀ q, Zr enc b0 Y d pc2 lv (.ref (b0 + q.1) :: st) q.2 (f q)) : Zr enc b0 Y d pc lv (.int n :: st) h ((zala h 16 n).bind f) := by
  have e1 : (zala h 16 n).bind f = if n < 0 ∨ 67108864 < n.toNatClampNeg then none else f (zn h, znew h 16 n.toNatClampNeg) := by unfold zala; split <;> rfl
  rw [e1]
  exact z_newarray_boolean pc2 hw hd e (kk (zn h, znew h 16 n.toNatClampNeg))
theorem z_newA_float {n : Int32} {f : Nat × ZH → Option α} (pc2 : Nat) (hw : Cond.arrayClass .float ∈ zgw) (hd : decode (yc Y) pc = .ok (.newarray .float, 2)) (e : pc + 2 = pc2) (kk : ∀ q, Zr enc b0 Y d pc2 lv (.ref (b0 + q.1) :: st) q.2 (f q)) : Zr enc b0 Y d pc lv (.int n :: st) h ((zala h 13 n).bind f) := by
  have e1 : (zala h 13 n).bind f = if n < 0 ∨ 67108864 < n.toNatClampNeg then none else f (zn h, znew h 13 n.toNatClampNeg) := by unfold zala; split <;> rfl
  rw [e1]
  exact z_newarray_float pc2 hw hd e (kk (zn h, znew h 13 n.toNatClampNeg))
theorem z_newQ17 {n : Int32} {idx : Nat} {f : Nat × ZH → Option α} (pc2 : Nat) (hcl : Cond.classLink (yo Y) idx "SoficShift$Graph" ∈ zgw) (hd : decode (yc Y) pc = .ok (.anewarray idx, 3)) (e : pc + 3 = pc2) (kk : ∀ q, Zr enc b0 Y d pc2 lv (.ref (b0 + q.1) :: st) q.2 (f q)) : Zr enc b0 Y d pc lv (.int n :: st) h ((zala h 17 n).bind f) := by
  have e1 : (zala h 17 n).bind f = if n < 0 ∨ 67108864 < n.toNatClampNeg then none else f (zn h, znew h 17 n.toNatClampNeg) := by unfold zala; split <;> rfl
  rw [e1]
  exact z_anewarray17 pc2 hcl hd e (kk (zn h, znew h 17 n.toNatClampNeg))
theorem z_newQ18 {n : Int32} {idx : Nat} {f : Nat × ZH → Option α} (pc2 : Nat) (hcl : Cond.classLink (yo Y) idx "SoficShift$NumberRow" ∈ zgw) (hd : decode (yc Y) pc = .ok (.anewarray idx, 3)) (e : pc + 3 = pc2) (kk : ∀ q, Zr enc b0 Y d pc2 lv (.ref (b0 + q.1) :: st) q.2 (f q)) : Zr enc b0 Y d pc lv (.int n :: st) h ((zala h 18 n).bind f) := by
  have e1 : (zala h 18 n).bind f = if n < 0 ∨ 67108864 < n.toNatClampNeg then none else f (zn h, znew h 18 n.toNatClampNeg) := by unfold zala; split <;> rfl
  rw [e1]
  exact z_anewarray18 pc2 hcl hd e (kk (zn h, znew h 18 n.toNatClampNeg))
theorem z_iincl {i : Nat} {n : Int} {x : Int32} {f : Int32 → Option α} {lf : Int32 → List (Nat × Value)} (v : Int32) (pc2 k0 : Nat) (hd : decode (yc Y) pc = .ok (.iinc i n, 3)) (e : pc + 3 = pc2) (hk : lv[k0]? = some (i, .int x)) (hv : Int32.ofInt n = v) (hn : i < yl Y) (e2 : ∀ y, zst i (.int y) lv = lf y) (k : ∀ y, y = x + v → Zr enc b0 Y d pc2 (lf y) st h (f y)) : Zr enc b0 Y d pc lv st h (zl (x + v) f) :=
  z_iinc v pc2 k0 hd e hk hv hn (e2 _) (k _ rfl)
theorem z_callSi {Y' : zY} {d' idx n : Nat} {as : List Value} {st0 : List Value} {r' : Option (Int32 × ZH)} {f : Int32 × ZH → Option α} (pc2 : Nat) (hM : ZM zi b0 Y' d' as h r') (hy : zYok Y' n) (hn : as.length = n) (hw : Cond.methodLink (yo Y) idx (yn Y') ∈ zgw) (hst : Cond.static (yn Y') ∈ zgw) (hdep : d' + 1 ≤ d) (hs0 : st0 = as.reverse ++ st) (hcat : (st.map fun v => v.category).sum ≤ 8) (hd : decode (yc Y) pc = .ok (.invokestatic idx, 3)) (e : pc + 3 = pc2)
    (kk : ∀ q, Zr enc b0 Y d pc2 lv (.int q.1 :: st) q.2 (f q)) : Zr enc b0 Y d pc lv st0 h (r'.bind f) :=
  z_callS (enc' := zi) pc2 hM hy hn hw hst hdep hs0 hcat hd e (fun q _ => kk q)
theorem z_callSj {Y' : zY} {d' idx n : Nat} {as : List Value} {st0 : List Value} {r' : Option (Int64 × ZH)} {f : Int64 × ZH → Option α} (pc2 : Nat) (hM : ZM zj b0 Y' d' as h r') (hy : zYok Y' n) (hn : as.length = n) (hw : Cond.methodLink (yo Y) idx (yn Y') ∈ zgw) (hst : Cond.static (yn Y') ∈ zgw) (hdep : d' + 1 ≤ d) (hs0 : st0 = as.reverse ++ st) (hcat : (st.map fun v => v.category).sum ≤ 8) (hd : decode (yc Y) pc = .ok (.invokestatic idx, 3)) (e : pc + 3 = pc2)
    (kk : ∀ q, Zr enc b0 Y d pc2 lv (.long q.1 :: st) q.2 (f q)) : Zr enc b0 Y d pc lv st0 h (r'.bind f) :=
  z_callS (enc' := zj) pc2 hM hy hn hw hst hdep hs0 hcat hd e (fun q _ => kk q)
theorem z_callSv {Y' : zY} {d' idx n : Nat} {as : List Value} {st0 : List Value} {r' : Option (ZH)} {f : ZH → Option α} (pc2 : Nat) (hM : ZM zv b0 Y' d' as h r') (hy : zYok Y' n) (hn : as.length = n) (hw : Cond.methodLink (yo Y) idx (yn Y') ∈ zgw) (hst : Cond.static (yn Y') ∈ zgw) (hdep : d' + 1 ≤ d) (hs0 : st0 = as.reverse ++ st) (hcat : (st.map fun v => v.category).sum ≤ 8) (hd : decode (yc Y) pc = .ok (.invokestatic idx, 3)) (e : pc + 3 = pc2)
    (kk : ∀ q, Zr enc b0 Y d pc2 lv (st) q (f q)) : Zr enc b0 Y d pc lv st0 h (r'.bind f) :=
  z_callS (enc' := zv) pc2 hM hy hn hw hst hdep hs0 hcat hd e (fun q _ => kk q)
theorem z_callSNi {Y' : zY} {d' idx n : Nat} {as : List Value} {host : String} {st0 : List Value} {r' : Option (Int32 × ZH)} {f : Int32 × ZH → Option α} (pc2 : Nat) (hM : ZM zi b0 Y' d' as h r') (hy : zYok Y' n) (hn : as.length = n) (hw : (yo Y, idx, yn Y', host) ∈ znestL) (hst : Cond.static (yn Y') ∈ zgw) (hdep : d' + 1 ≤ d) (hs0 : st0 = as.reverse ++ st) (hcat : (st.map fun v => v.category).sum ≤ 8) (hd : decode (yc Y) pc = .ok (.invokestatic idx, 3)) (e : pc + 3 = pc2)
    (kk : ∀ q, Zr enc b0 Y d pc2 lv (.int q.1 :: st) q.2 (f q)) : Zr enc b0 Y d pc lv st0 h (r'.bind f) :=
  z_callSN (enc' := zi) pc2 hM hy hn hw hst hdep hs0 hcat hd e (fun q _ => kk q)
theorem z_callSNj {Y' : zY} {d' idx n : Nat} {as : List Value} {host : String} {st0 : List Value} {r' : Option (Int64 × ZH)} {f : Int64 × ZH → Option α} (pc2 : Nat) (hM : ZM zj b0 Y' d' as h r') (hy : zYok Y' n) (hn : as.length = n) (hw : (yo Y, idx, yn Y', host) ∈ znestL) (hst : Cond.static (yn Y') ∈ zgw) (hdep : d' + 1 ≤ d) (hs0 : st0 = as.reverse ++ st) (hcat : (st.map fun v => v.category).sum ≤ 8) (hd : decode (yc Y) pc = .ok (.invokestatic idx, 3)) (e : pc + 3 = pc2)
    (kk : ∀ q, Zr enc b0 Y d pc2 lv (.long q.1 :: st) q.2 (f q)) : Zr enc b0 Y d pc lv st0 h (r'.bind f) :=
  z_callSN (enc' := zj) pc2 hM hy hn hw hst hdep hs0 hcat hd e (fun q _ => kk q)
theorem z_callVi {Y' : zY} {d' idx n : Nat} {as : List Value} {a ci : Nat} {st0 : List Value} {r' : Option (Int32 × ZH)} {f : Int32 × ZH → Option α} (pc2 : Nat) (hM : ZM zi b0 Y' d' (.ref (b0 + a) :: as) h r') (hy : zYok Y' n) (hn : as.length = n) (hw : Cond.methodLink (yo Y) idx (yn Y') ∈ zgw) {q : vw_C} (hc : vwCl[ci]? = some q) (hci : ci < 12) (hk : ∀ x, r' = some x → a < zn h ∧ zK h a = ci) (hin : Cond.instanceMethod (yn Y') ∈ zgw) (hsel : Cond.selects q.1 (yn Y') (yn Y') ∈ zgw) (hdep : d' + 1 ≤ d) (hs0 : st0 = as.reverse ++ .ref (b0 + a) :: st) (hcat : (st.map fun v => v.category).sum ≤ 8) (hd : decode (yc Y) pc = .ok (.invokevirtual idx, 3)) (e : pc + 3 = pc2)
    (kk : ∀ q, Zr enc b0 Y d pc2 lv (.int q.1 :: st) q.2 (f q)) : Zr enc b0 Y d pc lv st0 h (r'.bind f) :=
  z_callV (enc' := zi) pc2 hM hy hn hw hc hci hk hin hsel hdep hs0 hcat hd e (fun q _ => kk q)
theorem z_callVj {Y' : zY} {d' idx n : Nat} {as : List Value} {a ci : Nat} {st0 : List Value} {r' : Option (Int64 × ZH)} {f : Int64 × ZH → Option α} (pc2 : Nat) (hM : ZM zj b0 Y' d' (.ref (b0 + a) :: as) h r') (hy : zYok Y' n) (hn : as.length = n) (hw : Cond.methodLink (yo Y) idx (yn Y') ∈ zgw) {q : vw_C} (hc : vwCl[ci]? = some q) (hci : ci < 12) (hk : ∀ x, r' = some x → a < zn h ∧ zK h a = ci) (hin : Cond.instanceMethod (yn Y') ∈ zgw) (hsel : Cond.selects q.1 (yn Y') (yn Y') ∈ zgw) (hdep : d' + 1 ≤ d) (hs0 : st0 = as.reverse ++ .ref (b0 + a) :: st) (hcat : (st.map fun v => v.category).sum ≤ 8) (hd : decode (yc Y) pc = .ok (.invokevirtual idx, 3)) (e : pc + 3 = pc2)
    (kk : ∀ q, Zr enc b0 Y d pc2 lv (.long q.1 :: st) q.2 (f q)) : Zr enc b0 Y d pc lv st0 h (r'.bind f) :=
  z_callV (enc' := zj) pc2 hM hy hn hw hc hci hk hin hsel hdep hs0 hcat hd e (fun q _ => kk q)
theorem z_callVf {Y' : zY} {d' idx n : Nat} {as : List Value} {a ci : Nat} {st0 : List Value} {r' : Option (UInt32 × ZH)} {f : UInt32 × ZH → Option α} (pc2 : Nat) (hM : ZM zf b0 Y' d' (.ref (b0 + a) :: as) h r') (hy : zYok Y' n) (hn : as.length = n) (hw : Cond.methodLink (yo Y) idx (yn Y') ∈ zgw) {q : vw_C} (hc : vwCl[ci]? = some q) (hci : ci < 12) (hk : ∀ x, r' = some x → a < zn h ∧ zK h a = ci) (hin : Cond.instanceMethod (yn Y') ∈ zgw) (hsel : Cond.selects q.1 (yn Y') (yn Y') ∈ zgw) (hdep : d' + 1 ≤ d) (hs0 : st0 = as.reverse ++ .ref (b0 + a) :: st) (hcat : (st.map fun v => v.category).sum ≤ 8) (hd : decode (yc Y) pc = .ok (.invokevirtual idx, 3)) (e : pc + 3 = pc2)
    (kk : ∀ q, Zr enc b0 Y d pc2 lv (.float q.1 :: st) q.2 (f q)) : Zr enc b0 Y d pc lv st0 h (r'.bind f) :=
  z_callV (enc' := zf) pc2 hM hy hn hw hc hci hk hin hsel hdep hs0 hcat hd e (fun q _ => kk q)
theorem z_callVr {Y' : zY} {d' idx n : Nat} {as : List Value} {a ci : Nat} {st0 : List Value} {r' : Option (Nat × ZH)} {f : Nat × ZH → Option α} (pc2 : Nat) (hM : ZM (zr b0) b0 Y' d' (.ref (b0 + a) :: as) h r') (hy : zYok Y' n) (hn : as.length = n) (hw : Cond.methodLink (yo Y) idx (yn Y') ∈ zgw) {q : vw_C} (hc : vwCl[ci]? = some q) (hci : ci < 12) (hk : ∀ x, r' = some x → a < zn h ∧ zK h a = ci) (hin : Cond.instanceMethod (yn Y') ∈ zgw) (hsel : Cond.selects q.1 (yn Y') (yn Y') ∈ zgw) (hdep : d' + 1 ≤ d) (hs0 : st0 = as.reverse ++ .ref (b0 + a) :: st) (hcat : (st.map fun v => v.category).sum ≤ 8) (hd : decode (yc Y) pc = .ok (.invokevirtual idx, 3)) (e : pc + 3 = pc2)
    (kk : ∀ q, Zr enc b0 Y d pc2 lv (.ref (b0 + q.1) :: st) q.2 (f q)) : Zr enc b0 Y d pc lv st0 h (r'.bind f) :=
  z_callV (enc' := (zr b0)) pc2 hM hy hn hw hc hci hk hin hsel hdep hs0 hcat hd e (fun q _ => kk q)
theorem z_callVv {Y' : zY} {d' idx n : Nat} {as : List Value} {a ci : Nat} {st0 : List Value} {r' : Option (ZH)} {f : ZH → Option α} (pc2 : Nat) (hM : ZM zv b0 Y' d' (.ref (b0 + a) :: as) h r') (hy : zYok Y' n) (hn : as.length = n) (hw : Cond.methodLink (yo Y) idx (yn Y') ∈ zgw) {q : vw_C} (hc : vwCl[ci]? = some q) (hci : ci < 12) (hk : ∀ x, r' = some x → a < zn h ∧ zK h a = ci) (hin : Cond.instanceMethod (yn Y') ∈ zgw) (hsel : Cond.selects q.1 (yn Y') (yn Y') ∈ zgw) (hdep : d' + 1 ≤ d) (hs0 : st0 = as.reverse ++ .ref (b0 + a) :: st) (hcat : (st.map fun v => v.category).sum ≤ 8) (hd : decode (yc Y) pc = .ok (.invokevirtual idx, 3)) (e : pc + 3 = pc2)
    (kk : ∀ q, Zr enc b0 Y d pc2 lv (st) q (f q)) : Zr enc b0 Y d pc lv st0 h (r'.bind f) :=
  z_callV (enc' := zv) pc2 hM hy hn hw hc hci hk hin hsel hdep hs0 hcat hd e (fun q _ => kk q)
theorem z_callIv {Y' : zY} {d' idx n : Nat} {as : List Value} {a : Nat} {st0 : List Value} {r' : Option (ZH)} {f : ZH → Option α} (pc2 : Nat) (hM : ZM zv b0 Y' d' (.ref (b0 + a) :: as) h r') (hy : zYok Y' n) (hn : as.length = n) (hw : Cond.methodLink (yo Y) idx (yn Y') ∈ zgw) (hnm : (yn Y').name = "<init>") (hret : yr Y' = none) (hin : Cond.instanceMethod (yn Y') ∈ zgw) (hdep : d' + 1 ≤ d) (hs0 : st0 = as.reverse ++ .ref (b0 + a) :: st) (hcat : (st.map fun v => v.category).sum ≤ 8) (hd : decode (yc Y) pc = .ok (.invokespecial idx, 3)) (e : pc + 3 = pc2)
    (kk : ∀ q, Zr enc b0 Y d pc2 lv (st) q (f q)) : Zr enc b0 Y d pc lv st0 h (r'.bind f) :=
  z_callI (enc' := zv) pc2 hM hy hn hw hnm hret hin hdep hs0 hcat hd e (fun q _ => kk q)
theorem z_callINv {Y' : zY} {d' idx n : Nat} {as : List Value} {host : String} {a : Nat} {st0 : List Value} {r' : Option (ZH)} {f : ZH → Option α} (pc2 : Nat) (hM : ZM zv b0 Y' d' (.ref (b0 + a) :: as) h r') (hy : zYok Y' n) (hn : as.length = n) (hw : (yo Y, idx, yn Y', host) ∈ znestL) (hnm : (yn Y').name = "<init>") (hret : yr Y' = none) (hin : Cond.instanceMethod (yn Y') ∈ zgw) (hdep : d' + 1 ≤ d) (hs0 : st0 = as.reverse ++ .ref (b0 + a) :: st) (hcat : (st.map fun v => v.category).sum ≤ 8) (hd : decode (yc Y) pc = .ok (.invokespecial idx, 3)) (e : pc + 3 = pc2)
    (kk : ∀ q, Zr enc b0 Y d pc2 lv (st) q (f q)) : Zr enc b0 Y d pc lv st0 h (r'.bind f) :=
  z_callIN (enc' := zv) pc2 hM hy hn hw hnm hret hin hdep hs0 hcat hd e (fun q _ => kk q)
end ZMORE
