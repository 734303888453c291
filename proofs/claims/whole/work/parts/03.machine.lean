/-! AN ABSTRACT HEAP: every cell that was made since the law's start has a number from 0; what it holds, by number and place -/
abbrev ZH : Type := Nat × Nat × (Nat → Nat) × (Nat → Nat) × (Nat → Nat → Int32) × (Nat → Nat → Int64) × (Nat → Nat → UInt32) × (Nat → Nat → Option Nat)
def zn (h : ZH) : Nat := h.1
def zs (h : ZH) : Nat := h.2.1
def zK (h : ZH) : Nat → Nat := h.2.2.1
def zN (h : ZH) : Nat → Nat := h.2.2.2.1
def zI (h : ZH) : Nat → Nat → Int32 := h.2.2.2.2.1
def zJ (h : ZH) : Nat → Nat → Int64 := h.2.2.2.2.2.1
def zF (h : ZH) : Nat → Nat → UInt32 := h.2.2.2.2.2.2.1
def zR (h : ZH) : Nat → Nat → Option Nat := h.2.2.2.2.2.2.2
def zsI (h : ZH) (f : Nat → Nat → Int32) : ZH := (zn h, zs h, zK h, zN h, f, zJ h, zF h, zR h)
def zsJ (h : ZH) (f : Nat → Nat → Int64) : ZH := (zn h, zs h, zK h, zN h, zI h, f, zF h, zR h)
def zsF (h : ZH) (f : Nat → Nat → UInt32) : ZH := (zn h, zs h, zK h, zN h, zI h, zJ h, f, zR h)
def zsR (h : ZH) (f : Nat → Nat → Option Nat) : ZH := (zn h, zs h, zK h, zN h, zI h, zJ h, zF h, f)
def zu {α : Type} (f : Nat → Nat → α) (a j : Nat) (v : α) : Nat → Nat → α := fun b i => if b = a ∧ i = j then v else f b i
def zrow {α : Type} (f : Nat → Nat → α) (a : Nat) (g : Nat → α) : Nat → Nat → α := fun b i => if b = a then g i else f b i
/-- a new cell of a kind, of so many places -/
def znew (h : ZH) (kind len : Nat) : ZH := (zn h + 1, zs h + len, va_up (zK h) (zn h) kind, va_up (zN h) (zn h) len, zrow (zI h) (zn h) (fun _ => 0), zrow (zJ h) (zn h) (fun _ => 0), zrow (zF h) (zn h) (fun _ => 0), zrow (zR h) (zn h) (fun _ => none))
/-- the classes' fields: true where a reference stands -/
def zFT : Nat → List Bool
  | 0 => [true, true, true, false, true, true, true, false, true, true, false, true, true, true]
  | 1 => [true]
  | 2 => [true, true, false, false]
  | 3 => [true, true, false, false]
  | 4 => [true, false, true, false]
  | 5 => [true, true, true, true]
  | 6 => [true, true, true, true, true, false]
  | 7 => [true, false]
  | 8 => [true, true]
  | 9 => [true, false]
  | 10 => [true, true, false, true, true, true, true, true, true, true, true, true, true, true, true, true, true]
  | 11 => [true, true, true, true, false, true, false, true, false, true, false, true, false, true, false, true, true, false, true, true, true, true, true, false, true, true, true, true, false, true, false, true, true, true, true, true, true, true, true, true, true, true, true, true]
  | _ => []
def zNF (ci : Nat) : Nat := (zFT ci).length
def zTR (ci k : Nat) : Bool := (zFT ci).getD k false
def zfv (b0 : Nat) (h : ZH) (a k : Nat) : Value := if zTR (zK h a) k = true then va_rf ((zR h a k).map (fun q => b0 + q)) else .int (zI h a k)
def zfs (b0 : Nat) (h : ZH) (a : Nat) : List Value := (List.range (zNF (zK h a))).map (zfv b0 h a)
def zarr (b0 : Nat) (h : ZH) (a : Nat) : (Nat → Int32) ⊕ (Nat → Int64) ⊕ (Nat → UInt32) ⊕ (Nat → UInt64) ⊕ (Nat → Option Nat) :=
  if zK h a = 13 then .inr (.inr (.inl (zF h a))) else if zK h a = 15 then .inr (.inl (zJ h a)) else if 17 ≤ zK h a then .inr (.inr (.inr (.inr (fun j => (zR h a j).map (fun q => b0 + q))))) else .inl (zI h a)
def zE (b0 : Nat) (CA : Nat → ClassId) (h : ZH) (a : Nat) : va_E := if zK h a < 12 then .inr (zK h a, zfs b0 h a) else .inl (CA (zK h a), zN h a, zarr b0 h a)
def zW (b0 : Nat) (CA : Nat → ClassId) (h : ZH) : va_W := (List.range (zn h)).map (fun a => (b0 + a, zE b0 CA h a))
def zP (b0 : Nat) (D : va_G) (CA : Nat → ClassId) (h : ZH) (H : Heap) : Prop := va_P D vwCl (zW b0 CA h) H
def ztys (CA : Nat → ClassId) : List (ClassId × FieldType) := [(CA 12, .char), (CA 13, .float), (CA 14, .int), (CA 15, .long), (CA 16, .boolean), (CA 17, .object "SoficShift$Graph"), (CA 18, .object "SoficShift$NumberRow")]
theorem zW_get {b0 : Nat} {CA : Nat → ClassId} {h : ZH} {a : Nat} (ha : a < zn h) : (zW b0 CA h)[a]? = some (b0 + a, zE b0 CA h a) := by
  simp [zW, List.getElem?_map, List.getElem?_range, ha]
theorem zW_len {b0 : Nat} {CA : Nat → ClassId} {h : ZH} : (zW b0 CA h).length = zn h := by simp [zW]
theorem zW_some {b0 : Nat} {CA : Nat → ClassId} {h : ZH} {a : Nat} {q : Nat × va_E} (hq : (zW b0 CA h)[a]? = some q) : a < zn h ∧ q = (b0 + a, zE b0 CA h a) := by
  have hl : a < zn h := by
    have := (List.getElem?_eq_some_iff.mp hq).1
    rwa [zW_len] at this
  rw [zW_get hl] at hq
  exact ⟨hl, (Option.some.inj hq).symm⟩
theorem zD {b0 : Nat} {CA : Nat → ClassId} {h : ZH} : va_D (fun q => b0 ≤ q) (zW b0 CA h) := by
  refine ⟨fun i j p q hp hq e => ?_, fun k q hk => ?_⟩
  · obtain ⟨-, rfl⟩ := zW_some hp
    obtain ⟨-, rfl⟩ := zW_some hq
    exact Nat.add_left_cancel e
  · obtain ⟨-, rfl⟩ := zW_some hk
    exact Nat.le_add_right _ _
theorem zW_set {b0 : Nat} {CA : Nat → ClassId} {h h' : ZH} {a : Nat} (hn : zn h' = zn h) (ho : ∀ b, b ≠ a → zE b0 CA h' b = zE b0 CA h b) : (zW b0 CA h).set a (b0 + a, zE b0 CA h' a) = zW b0 CA h' := by
  apply List.ext_getElem?
  intro i
  rw [List.getElem?_set, zW_len]
  by_cases hi : i < zn h
  · rw [zW_get (h := h') (by rw [hn]; exact hi), zW_get hi]
    by_cases e : a = i
    · subst e; simp [hi]
    · simp [e, ho i (fun q => e q.symm)]
  · have e1 : (zW b0 CA h')[i]? = none := List.getElem?_eq_none_iff.mpr (by rw [zW_len, hn]; omega)
    have e2 : (zW b0 CA h)[i]? = none := List.getElem?_eq_none_iff.mpr (by rw [zW_len]; omega)
    rw [e1, e2]
    by_cases e : a = i
    · subst e; simp [hi]
    · simp [e]
theorem zW_push {b0 : Nat} {CA : Nat → ClassId} {h h' : ZH} (hn : zn h' = zn h + 1) (ho : ∀ b, b < zn h → zE b0 CA h' b = zE b0 CA h b) : zW b0 CA h ++ [(b0 + zn h, zE b0 CA h' (zn h))] = zW b0 CA h' := by
  unfold zW
  rw [hn, List.range_succ, List.map_append]
  congr 1
  apply List.map_congr_left
  intro x hx
  rw [ho x (List.mem_range.mp hx)]
/-- the words that every call hands on, and those that are handed on by hand -/
def zgw : List Cond := lw_tbl.filter goodWord
def znestL : List (String × Nat × MethodName × String) := [("SoficShift$History", 21, ⟨"SoficShift$Graph", "<init>", "()V"⟩, "SoficShift"), ("SoficShift", 45, ⟨"SoficShift$Graph", "<init>", "()V"⟩, "SoficShift"), ("SoficShift", 58, ⟨"SoficShift$Subsets", "<init>", "()V"⟩, "SoficShift"), ("SoficShift", 68, ⟨"SoficShift$WordCounts", "<init>", "()V"⟩, "SoficShift"), ("SoficShift", 75, ⟨"SoficShift$PairSearch", "<init>", "()V"⟩, "SoficShift"), ("SoficShift", 82, ⟨"SoficShift$Cover", "<init>", "()V"⟩, "SoficShift"), ("SoficShift$Cover", 35, ⟨"SoficShift$Graph", "<init>", "()V"⟩, "SoficShift"), ("SoficShift$Cover", 40, ⟨"SoficShift$Subsets", "<init>", "()V"⟩, "SoficShift"), ("SoficShift", 89, ⟨"SoficShift$WideGraph", "<init>", "()V"⟩, "SoficShift"), ("SoficShift", 96, ⟨"SoficShift$Polynomial", "<init>", "()V"⟩, "SoficShift"), ("SoficShift", 101, ⟨"SoficShift$NumberRow", "<init>", "()V"⟩, "SoficShift"), ("SoficShift$History", 26, ⟨"SoficShift", "isWithin", "(III)Z"⟩, "SoficShift"), ("SoficShift$Graph", 27, ⟨"SoficShift", "isVertex", "(I)Z"⟩, "SoficShift"), ("SoficShift$Graph", 31, ⟨"SoficShift", "isLetter", "(I)Z"⟩, "SoficShift"), ("SoficShift$Graph", 61, ⟨"SoficShift", "commonDivisor", "(JJ)J"⟩, "SoficShift"), ("SoficShift$Subsets", 62, ⟨"SoficShift", "isWithin", "(III)Z"⟩, "SoficShift"), ("SoficShift$Cover", 113, ⟨"SoficShift", "isWithin", "(III)Z"⟩, "SoficShift"), ("SoficShift$Cover", 172, ⟨"SoficShift", "isVertex", "(I)Z"⟩, "SoficShift"), ("SoficShift$WideGraph", 25, ⟨"SoficShift", "isLetter", "(I)Z"⟩, "SoficShift")]
def zNst (U : State) : Prop := (∀ q ∈ znestL, va_Nw (.methodLinkNest q.1 q.2.1 q.2.2.1 q.2.2.2) U) ∧ va_AO "SoficShift$Graph" U ∧ va_AO "SoficShift$NumberRow" U
theorem zNst.warm {s U : State} (hW : s.WarmedH U.vm) (h : zNst s) : zNst U := ⟨fun q hq => va_Nw.warmM hW (h.1 q hq), va_AO.moved hW.alike h.2.1, va_AO.moved hW.alike h.2.2⟩
theorem zNst.same {s U : State} (e : s.vm = U.vm) (h : zNst s) : zNst U := ⟨fun q hq => va_Nw.same rfl e (h.1 q hq), va_AO.moved (by rw [e]; exact Vm.Alike.refl _) h.2.1, va_AO.moved (by rw [e]; exact Vm.Alike.refl _) h.2.2⟩
/-- what a method is: its name, the class that its code stands in, its code, its locals, its answer's type -/
abbrev zY : Type := MethodName × String × ByteArray × Nat × Option FieldType × (State → Prop)
abbrev yn (Y : zY) : MethodName := Y.1
abbrev yo (Y : zY) : String := Y.2.1
abbrev yc (Y : zY) : ByteArray := Y.2.2.1
abbrev yl (Y : zY) : Nat := Y.2.2.2.1
abbrev yr (Y : zY) : Option FieldType := Y.2.2.2.2.1
abbrev yx (Y : zY) : State → Prop := Y.2.2.2.2.2
def zA (b0 : Nat) (D : va_G) (CA : Nat → ClassId) (Y : zY) (d : Nat) (p : Program) (R : Room) (s : State) (m : MethodId) (args : Array Value) (meth : Method) (c : Code) (n0 : Nat) : Prop :=
  p.tables.exec = Jvm.exec ∧ c.code = yc Y ∧ c.maxLocals = yl Y ∧ s.vm.findClass (yo Y) = some m.cls ∧ (∀ w ∈ zgw, w.before args s = true) ∧ va_K D vwCl (ztys CA) s ∧ s.heap.size = b0 + n0 ∧ d ≤ R.frames ∧ 60 * d ≤ R.locals ∧ meth.name = (yn Y).name ∧ zNst s ∧ yx Y s
def zret (ret : Option FieldType) (ins : Instr) (rv : Option Value) : Prop := match rv with
  | none => ins = .return_ ∧ ret = none
  | some (.int v) => ins = .ireturn ∧ ∃ ty, ret = some ty ∧ narrow ty (.int v) = .int v
  | some (.long _) => ins = .lreturn ∧ ret = some .long
  | some (.float _) => ins = .freturn ∧ ret = some .float
  | some (.ref _) => ins = .areturn ∧ ∃ rt, ret = some rt ∧ ((∃ n, rt = .object n) ∨ ∃ t, rt = .array t)
  | _ => False
abbrev zFree (b0 : Nat) : Nat → Prop := fun q => b0 ≤ q
/-- FROM THIS PLACE ON the method answers r, if r is an answer -/
def Zr {α : Type} (enc : α → Option Value × ZH) (b0 : Nat) (Y : zY) (d pc : Nat) (lv : List (Nat × Value)) (st : List Value) (h : ZH) (r : Option α) : Prop :=
  ∀ x, r = some x → zn h ≤ zn (enc x).2 ∧ zs h ≤ zs (enc x).2 ∧
  ∀ (D : va_G) (CA : Nat → ClassId) (p : Program) (l : Launch) (e : Env) (R : Room) (s : State) (m : MethodId) (args : Array Value) (below : List Frame) (meth : Method) (c : Code) (H : Heap) (locs : List Loc) (ls : Array Slot) (n0 s0 : Nat) (Q : State → Prop),
    zA b0 D CA Y d p R s m args meth c n0 → n0 ≤ zn h → s0 ≤ zs h → zn (enc x).2 - n0 ≤ R.cells → zs (enc x).2 - s0 ≤ R.slots → lv_has ls (yl Y) lv → zP b0 D CA h H → va_S (zFree b0) s.heap H locs →
    (∀ (H' : Heap) (locs' : List Loc) (pc' : Nat) (ls' : Array Slot) (ins : Instr), decode (yc Y) pc' = .ok (ins, 1) → zret (yr Y) ins (enc x).1 → zP b0 D CA (enc x).2 H' → va_S (zFree b0) s.heap H' locs' → W p l e R s m args below meth c H' locs' (zn (enc x).2 - n0) (zs (enc x).2 - s0) Q (F0 m pc' ls' (enc x).1.toList)) →
    W p l e R s m args below meth c H locs (zn h - n0) (zs h - s0) Q (F0 m pc ls st)
theorem Zr.none {α : Type} {enc : α → Option Value × ZH} {b0 : Nat} {Y : zY} {d pc : Nat} {lv : List (Nat × Value)} {st : List Value} {h : ZH} : Zr enc b0 Y d pc lv st h (none : Option α) := fun x hx => by cases hx
/-- a step that leaves the heap as it is -/
theorem Zr.step {α : Type} {enc : α → Option Value × ZH} {b0 : Nat} {Y : zY} {d pc pc2 : Nat} {lv lv2 : List (Nat × Value)} {st st2 : List Value} {h : ZH} {r : Option α} (k : Zr enc b0 Y d pc2 lv2 st2 h r)
    (f : ∀ (D : va_G) (CA : Nat → ClassId) (p : Program) (l : Launch) (e : Env) (R : Room) (s : State) (m : MethodId) (args : Array Value) (below : List Frame) (meth : Method) (c : Code) (H : Heap) (locs : List Loc) (ls : Array Slot) (n0 cells slots : Nat) (Q : State → Prop), zA b0 D CA Y d p R s m args meth c n0 → cells ≤ R.cells → slots ≤ R.slots → lv_has ls (yl Y) lv → zP b0 D CA h H → va_S (zFree b0) s.heap H locs →
      (∀ ls2 : Array Slot, lv_has ls2 (yl Y) lv2 → W p l e R s m args below meth c H locs cells slots Q (F0 m pc2 ls2 st2)) → W p l e R s m args below meth c H locs cells slots Q (F0 m pc ls st)) : Zr enc b0 Y d pc lv st h r := by
  intro x hx
  obtain ⟨h1, h2, K⟩ := k x hx
  refine ⟨h1, h2, fun D CA p l e R s m args below meth c H locs ls n0 s0 Q hA hn hs hc hsl hl hP hS hret => ?_⟩
  exact f D CA p l e R s m args below meth c H locs ls n0 _ _ Q hA (by omega) (by omega) hl hP hS (fun ls2 hl2 => K D CA p l e R s m args below meth c H locs ls2 n0 s0 Q hA hn hs hc hsl hl2 hP hS hret)
/-- a step that changes cells, and makes none -/
theorem Zr.stepH {α : Type} {enc : α → Option Value × ZH} {b0 : Nat} {Y : zY} {d pc pc2 : Nat} {lv : List (Nat × Value)} {st st2 : List Value} {h h2 : ZH} {r : Option α} (k : Zr enc b0 Y d pc2 lv st2 h2 r) (en : zn h2 = zn h) (es : zs h2 = zs h)
    (f : ∀ (D : va_G) (CA : Nat → ClassId) (p : Program) (l : Launch) (e : Env) (R : Room) (s : State) (m : MethodId) (args : Array Value) (below : List Frame) (meth : Method) (c : Code) (H : Heap) (locs : List Loc) (ls : Array Slot) (n0 cells slots : Nat) (Q : State → Prop), zA b0 D CA Y d p R s m args meth c n0 → lv_has ls (yl Y) lv → zP b0 D CA h H → va_S (zFree b0) s.heap H locs →
      (∀ (H2 : Heap) (locs2 : List Loc), zP b0 D CA h2 H2 → va_S (zFree b0) s.heap H2 locs2 → W p l e R s m args below meth c H2 locs2 cells slots Q (F0 m pc2 ls st2)) → W p l e R s m args below meth c H locs cells slots Q (F0 m pc ls st)) : Zr enc b0 Y d pc lv st h r := by
  intro x hx
  obtain ⟨h1, h2', K⟩ := k x hx
  rw [en] at h1
  rw [es] at h2'
  refine ⟨h1, h2', fun D CA p l e R s m args below meth c H locs ls n0 s0 Q hA hn hs hc hsl hl hP hS hret => ?_⟩
  refine f D CA p l e R s m args below meth c H locs ls n0 _ _ Q hA hl hP hS (fun H2 locs2 hP2 hS2 => ?_)
  have := K D CA p l e R s m args below meth c H2 locs2 ls n0 s0 Q hA (by omega) (by omega) hc hsl hl hP2 hS2 hret
  rwa [en, es] at this
/-- how large the heap is: the book says at most, the world at least -/
theorem z_size {p : Program} {l : Launch} {e : Env} {R : Room} {s : State} {m : MethodId} {args : Array Value} {below : List Frame} {meth : Method} {c : Code} {H : Heap} {locs : List Loc} {cells slots : Nat} {Q : State → Prop} {g : JFrame} (kk : s.heap.size ≤ H.size → H.size ≤ s.heap.size + cells → W p l e R s m args below meth c H locs cells slots Q g) : W p l e R s m args below meth c H locs cells slots Q g := by
  intro T hT X
  have h1 := X.same.2.1
  have h2 := X.same.2.2.1
  refine kk ?_ ?_ T hT X
  · rw [← hT]; exact h1
  · rw [← hT]; exact h2
theorem zP_lt {b0 : Nat} {D : va_G} {CA : Nat → ClassId} {h : ZH} {H : Heap} (hP : zP b0 D CA h H) {a : Nat} (ha : a < zn h) : b0 + a < H.size := (hP a _ (zW_get ha)).lt
theorem z_size' {p : Program} {l : Launch} {e : Env} {R : Room} {s : State} {m : MethodId} {args : Array Value} {below : List Frame} {meth : Method} {c : Code} {H : Heap} {locs : List Loc} {slots : Nat} {Q : State → Prop} {g : JFrame} {b0 n0 : Nat} {D : va_G} {CA : Nat → ClassId} {h : ZH} (hs : s.heap.size = b0 + n0) (hn : n0 ≤ zn h) (hP : zP b0 D CA h H) (kk : H.size = b0 + zn h → W p l e R s m args below meth c H locs (zn h - n0) slots Q g) : W p l e R s m args below meth c H locs (zn h - n0) slots Q g := by
  refine z_size (fun h1 h2 => kk ?_)
  rw [hs] at h1 h2
  by_cases e : zn h = n0
  · omega
  · have := zP_lt hP (a := zn h - 1) (by omega)
    omega
