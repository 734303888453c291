/-! METHODS: contracts over the abstract heap, returns, calls, switches -/
def zwsY (Y : zY) : List Cond := .code (yn Y) (yc Y) (yl Y) (yr Y) :: zgw
def zRoom (d mc ms : Nat) : Room := { frames := d, cells := mc, slots := ms, locals := 60 * d }
def zPc (b0 : Nat) (D : va_G) (CA : Nat → ClassId) (h : ZH) (as : List Value) : Array Value → State → Prop := fun v U => v = as.toArray ∧ zP b0 D CA h U.heap ∧ va_K D vwCl (ztys CA) U ∧ U.heap.size = b0 + zn h ∧ zNst U
def zQc (b0 : Nat) (D : va_G) (CA : Nat → ClassId) (rv : Option Value × ZH) : Array Value → State → Outcome → State → Prop := fun _ st oc t => oc = .returned rv.1 ∧ zP b0 D CA rv.2 t.heap ∧ va_F (zFree b0) st t
/-- the method answers r at these arguments and this heap, if r is an answer -/
def ZM {α : Type} (enc : α → Option Value × ZH) (b0 : Nat) (Y : zY) (d : Nat) (as : List Value) (h : ZH) (r : Option α) : Prop :=
  ∀ x, r = some x → zn h ≤ zn (enc x).2 ∧ zs h ≤ zs (enc x).2 ∧ ∀ (l : Launch) (D : va_G) (CA : Nat → ClassId),
    Met l (yn Y) (zwsY Y) (zRoom d (zn (enc x).2 - zn h) (zs (enc x).2 - zs h)) (zPc b0 D CA h as) (zQc b0 D CA (enc x)) (zn (enc x).2 - zn h) (zs (enc x).2 - zs h) (zFree b0)
def zYok (Y : zY) (n : Nat) : Prop := ((yn Y).cls ≠ "java/lang/invoke/MethodHandle" ∧ (yn Y).cls ≠ "java/lang/invoke/VarHandle" ∧ (parseMethodDescriptor (yn Y).desc).map (fun d => d.parameters.length) = some n) ∧ Cond.code (yn Y) (yc Y) (yl Y) (yr Y) ∈ zgw ∧ Cond.initialized (yn Y).cls ∈ zgw ∧ yl Y ≤ 40
theorem zgoodIn {Y : zY} {n : Nat} (hy : zYok Y n) : GoodIn zgw (zwsY Y) := by
  intro w hw
  have hm : w ∈ zgw := by
    rcases List.mem_cons.mp hw with rfl | h
    · exact hy.2.1
    · exact h
  exact ⟨hm, good_of_word (List.mem_filter.mp hm).2⟩
abbrev zi (q : Int32 × ZH) : Option Value × ZH := (some (.int q.1), q.2)
abbrev zj (q : Int64 × ZH) : Option Value × ZH := (some (.long q.1), q.2)
abbrev zf (q : UInt32 × ZH) : Option Value × ZH := (some (.float q.1), q.2)
abbrev zr (b0 : Nat) (q : Nat × ZH) : Option Value × ZH := (some (.ref (b0 + q.1)), q.2)
abbrev zv (q : ZH) : Option Value × ZH := (none, q)
section ZMETH
variable {α : Type} {enc : α → Option Value × ZH} {b0 : Nat} {Y : zY} {d pc : Nat} {lv lv2 : List (Nat × Value)} {st : List Value} {h : ZH} {r : Option α}
theorem z_retG {x : α} {rv : Option Value} {ins : Instr} {st : List Value} (hd : decode (yc Y) pc = .ok (ins, 1)) (he : enc x = (rv, h)) (hz : zret (yr Y) ins rv) (hst : rv.toList = st) : Zr enc b0 Y d pc lv st h (some x) := by
  subst hst
  intro x' hx'
  obtain rfl := Option.some.inj hx'
  rw [he]
  exact ⟨Nat.le_refl _, Nat.le_refl _, fun D CA p l e R s m args below meth c H locs ls n0 s0 Q hA hn hs hc hsl hl hP hS hret => hret H locs pc ls ins hd hz hP hS⟩
theorem z_ireturn {v : Int32} (hd : decode (yc Y) pc = .ok (.ireturn, 1)) (hr : yr Y = some .int) : Zr zi b0 Y d pc lv [.int v] h (some (v, h)) := z_retG hd rfl ⟨rfl, _, hr, rfl⟩ rfl
theorem z_zreturn {v : Int32} (hd : decode (yc Y) pc = .ok (.ireturn, 1)) (hr : yr Y = some .boolean) : Zr zi b0 Y d pc lv [.int v] h (if v = 0 ∨ v = 1 then some (v, h) else none) := by
  by_cases g : v = 0 ∨ v = 1
  · rw [if_pos g]
    exact z_retG hd rfl ⟨rfl, _, hr, by show narrow .boolean (.int v) = .int v; rcases g with rfl | rfl <;> decide⟩ rfl
  · rw [if_neg g]; exact Zr.none
theorem z_lreturn {v : Int64} (hd : decode (yc Y) pc = .ok (.lreturn, 1)) (hr : yr Y = some .long) : Zr zj b0 Y d pc lv [.long v] h (some (v, h)) := z_retG hd rfl ⟨rfl, hr⟩ rfl
theorem z_freturn {v : UInt32} (hd : decode (yc Y) pc = .ok (.freturn, 1)) (hr : yr Y = some .float) : Zr zf b0 Y d pc lv [.float v] h (some (v, h)) := z_retG hd rfl ⟨rfl, hr⟩ rfl
theorem z_areturn {v : Nat} {rt : FieldType} (hd : decode (yc Y) pc = .ok (.areturn, 1)) (hr : yr Y = some rt) (hrt : (∃ n, rt = .object n) ∨ ∃ t, rt = .array t) : Zr (zr b0) b0 Y d pc lv [.ref (b0 + v)] h (some (v, h)) := z_retG hd rfl ⟨rfl, _, hr, hrt⟩ rfl
theorem z_return (hd : decode (yc Y) pc = .ok (.return_, 1)) (hr : yr Y = none) : Zr zv b0 Y d pc lv [] h (some h) := z_retG hd rfl ⟨rfl, hr⟩ rfl
/-- a contract out of a walk from the entry -/
theorem ZM.of {as : List Value} (hy : plainName (yn Y).cls = true) (ho : (yn Y).cls = yo Y) (hlen : (lg_sl as).length ≤ yl Y) (hyx : ∀ U, yx Y U) (k : Zr enc b0 Y d 0 (lv_args 0 as) [] h r) : ZM enc b0 Y d as h r := by
  intro x hx
  obtain ⟨h1, h2, K⟩ := k x hx
  refine ⟨h1, h2, fun l D CA => Met.ofW (cc := yc Y) (maxL := yl Y) (ret := yr Y) hy rfl ?_⟩
  intro p e s m args below meth c s₁ B hml hv
  obtain ⟨rfl, hP, hK, hsz, hN⟩ := hv
  have hts := atoms_spec (ws := zwsY Y) B.pre
  have hr := B.returns
  have hlocks := B.notSynchronized
  have hx := B.exec
  have hb := B.bytes
  have hown : s.vm.findClass (yo Y) = some m.cls := by rw [← ho]; exact findClass_of_methodNamed B.named
  rw [lg_entry_eq]
  have := K D CA p l e (headSpec (zwsY Y) (zRoom d (zn (enc x).2 - zn h) (zs (enc x).2 - zs h))).room s m as.toArray below meth c s.heap [] _ (zn h) (zs h) (MQ below (zQc b0 D CA (enc x)) as.toArray s (zn (enc x).2 - zn h) (zs (enc x).2 - zs h) (zFree b0)) ⟨hx, hb, hml, hown, fun w hw => hts w (List.mem_cons_of_mem _ hw), hK, hsz, Nat.le_refl _, Nat.le_refl _, (name_of_methodNamed B.named B.method).1, hN, hyx s⟩ (Nat.le_refl _) (Nat.le_refl _) (Nat.le_refl _) (Nat.le_refl _) (lv_entry as hlen) hP va_S.rf ?_
  · rw [Nat.sub_self, Nat.sub_self] at this
    exact this
  · intro H' locs' pc' ls' ins hd hz hP' hS'
    obtain ⟨rv, hF⟩ : ∃ rv, (enc x).1 = rv := ⟨_, rfl⟩
    have hq : ∀ t : State, t.heap = H' → s.WarmedH t.vm → zQc b0 D CA (enc x) as.toArray s (.returned rv) t := fun t ht _ => ⟨by rw [hF], by rw [ht]; exact hP', hS'.F ht⟩
    rw [hF] at hz ⊢
    cases rv with
    | none =>
      obtain ⟨rfl, hz2⟩ := hz
      exact W.vret hx hb (hr.trans hz2) hq hS'.2.2 hd
    | some v =>
      cases v with
      | int v =>
        obtain ⟨rfl, ty, hz2, hz3⟩ := hz
        exact W.zret hx hb (hr.trans hz2) hz3 hq hS'.2.2 hd
      | long v =>
        obtain ⟨rfl, hz2⟩ := hz
        exact W.lret hx hb (hr.trans hz2) hq hS'.2.2 hd
      | float v =>
        obtain ⟨rfl, hz2⟩ := hz
        exact W.fret hx hb (hr.trans hz2) hq hS'.2.2 hd
      | ref v =>
        obtain ⟨rfl, rt, hz2, hz3⟩ := hz
        exact W.aret hx hb (hr.trans hz2) hz3 (Or.inr ⟨v, rfl⟩) hq hS'.2.2 hd
      | _ => exact hz.elim
theorem zPc_blind {D : va_G} {CA : Nat → ClassId} {as : List Value} : FrameBlind (zPc b0 D CA h as) := fun a U g mk q => by
  obtain ⟨q1, q2, q3, q4, q5⟩ := q
  exact ⟨q1, q2, va_K.moved (u := U) (U := U.calling g mk a) (Vm.Alike.refl U.vm) q3, q4, zNst.same (U := U.calling g mk a) rfl q5⟩
theorem zPc_here {D : va_G} {CA : Nat → ClassId} {as : List Value} {s : State} {H : Heap} (hP : zP b0 D CA h H) (hK : va_K D vwCl (ztys CA) s) (hsz : H.size = b0 + zn h) (hN : zNst s) : PreS s H (zPc b0 D CA h as) as := ⟨zPc_blind, fun U hU hW => ⟨rfl, by rw [hU]; exact hP, va_K.moved hW.alike hK, by rw [hU]; exact hsz, hN.warm hW⟩⟩
theorem z_run {β : Type} {enc' : β → Option Value × ZH} {x : β} {D : va_G} {CA : Nat → ClassId} {p : Program} {l : Launch} {e : Env} {R : Room} {s : State} {m : MethodId} {args : Array Value} {below : List Frame} {meth : Method} {c : Code} {H : Heap} {locs : List Loc} {cells slots mc ms : Nat} {Q : State → Prop} {ls : Array Slot} {st0 rest : List Value} {a : Array Value}
    (hr : va_Run p l e R s m args below meth c H locs cells slots mc ms (F0 m pc ls st0) rest (zQc b0 D CA (enc' x) a) (zFree b0)) (hS : va_S (zFree b0) s.heap H locs)
    (kk : ∀ (H1 : Heap) (locs1 : List Loc), zP b0 D CA (enc' x).2 H1 → va_S (zFree b0) s.heap H1 locs1 → W p l e R s m args below meth c H1 locs1 (cells + mc) (slots + ms) Q (F0 m (pc + 3) ls ((enc' x).1.toList ++ rest))) : W p l e R s m args below meth c H locs cells slots Q (F0 m pc ls st0) := by
  intro T hT X
  obtain ⟨v, st₀, t, T', L, h0, X', hL, e1, e2, ⟨hv, hp, hz, hk⟩, st⟩ := hr T hT X
  injection hv with hv
  subst hv
  rw [h0] at hz hk
  obtain ⟨t2, a1, b1⟩ := kk T'.heap (locs ++ L) (by rw [e1]; exact hp)
    ⟨Nat.le_trans hS.1 (by rw [e1]; exact hz), fun q h1 h2 => by rw [e1, hk q (Nat.lt_of_lt_of_le h1 hS.1) h2]; exact hS.2.1 q h1 h2, fun q hq => by
      rcases List.mem_append.mp hq with h | h
      · exact hS.2.2 q h
      · exact hL q h⟩ T' rfl X'
  exact ⟨t2, st t2 a1, b1⟩
/-- a call, by the run that its kind has -/
theorem z_callG {β : Type} {enc' : β → Option Value × ZH} {st0 : List Value} {r' : Option β} {f : β → Option α} (pc2 : Nat) (e : pc + 3 = pc2) (hM : ∀ x, r' = some x → zn h ≤ zn (enc' x).2 ∧ zs h ≤ zs (enc' x).2)
    (hrun : ∀ x, r' = some x → ∀ (D : va_G) (CA : Nat → ClassId) (p : Program) (l : Launch) (e : Env) (R : Room) (s : State) (m : MethodId) (args : Array Value) (below : List Frame) (meth : Method) (c : Code) (H : Heap) (locs : List Loc) (ls : Array Slot) (n0 cells slots : Nat), zA b0 D CA Y d p R s m args meth c n0 → lv_has ls (yl Y) lv → zP b0 D CA h H → H.size = b0 + zn h → va_S (zFree b0) s.heap H locs → cells + (zn (enc' x).2 - zn h) ≤ R.cells → slots + (zs (enc' x).2 - zs h) ≤ R.slots →
      ∃ a, va_Run p l e R s m args below meth c H locs cells slots (zn (enc' x).2 - zn h) (zs (enc' x).2 - zs h) (F0 m pc ls st0) st (zQc b0 D CA (enc' x) a) (zFree b0))
    (kk : ∀ x, r' = some x → Zr enc b0 Y d pc2 lv ((enc' x).1.toList ++ st) (enc' x).2 (f x)) : Zr enc b0 Y d pc lv st0 h (r'.bind f) := by
  subst e
  cases hr' : r' with
  | none => exact Zr.none
  | some y =>
    intro x hx
    obtain ⟨h1, h2, K⟩ := kk y hr' x hx
    obtain ⟨m1, m2⟩ := hM y hr'
    refine ⟨by omega, by omega, fun D CA p l e R s m args below meth c H locs ls n0 s0 Q hA hn hs hc hsl hl hP hS hret => z_size' hA.2.2.2.2.2.2.1 hn hP (fun hsz => ?_)⟩
    obtain ⟨a, hrn⟩ := hrun y hr' D CA p l e R s m args below meth c H locs ls n0 (zn h - n0) (zs h - s0) hA hl hP hsz hS (by omega) (by omega)
    refine z_run hrn hS (fun H1 locs1 hP1 hS1 => ?_)
    have := K D CA p l e R s m args below meth c H1 locs1 ls n0 s0 Q hA (by omega) (by omega) hc hsl hl hP1 hS1 hret
    rw [show zn (enc' y).2 - n0 = zn h - n0 + (zn (enc' y).2 - zn h) by omega, show zs (enc' y).2 - s0 = zs h - s0 + (zs (enc' y).2 - zs h) by omega] at this
    exact this
theorem z_callS {β : Type} {enc' : β → Option Value × ZH} {Y' : zY} {d' idx n : Nat} {as : List Value} {st0 : List Value} {r' : Option β} {f : β → Option α} (pc2 : Nat) (hM : ZM enc' b0 Y' d' as h r') (hy : zYok Y' n) (hn : as.length = n) (hw : Cond.methodLink (yo Y) idx (yn Y') ∈ zgw) (hst : Cond.static (yn Y') ∈ zgw) (hdep : d' + 1 ≤ d) (hs0 : st0 = as.reverse ++ st) (hcat : (st.map fun v => v.category).sum ≤ 8) (hd : decode (yc Y) pc = .ok (.invokestatic idx, 3)) (e : pc + 3 = pc2)
    (kk : ∀ x, r' = some x → Zr enc b0 Y d pc2 lv ((enc' x).1.toList ++ st) (enc' x).2 (f x)) : Zr enc b0 Y d pc lv st0 h (r'.bind f) := by
  subst hs0
  refine z_callG pc2 e (fun x hx => ⟨(hM x hx).1, (hM x hx).2.1⟩) (fun x hx D CA p l e R s m args below meth c H locs ls n0 cells slots hA hl hP hsz hS hc1 hc2 => ⟨as.toArray, ?_⟩) kk
  exact va_runS (As := as) (rest := st) ⟨hA.1, hA.2.1, hA.2.2.1, hA.2.2.2.1, hA.2.2.2.2.1⟩ ((hM x hx).2.2 l D CA) ⟨callB_of n hA.2.2.2.2.1 (zgoodIn hy) rfl rfl rfl (hA.2.2.2.2.1 _ hy.2.2.1) (hA.2.2.2.2.1 _ hw) hy.1 ⟨Nat.le_trans hdep hA.2.2.2.2.2.2.2.1, by have h1 : 60 * (d' + 1) ≤ 60 * d := Nat.mul_le_mul_left 60 hdep; have h2 := hA.2.2.2.2.2.2.2.2.1; have h3 := hy.2.2.2; show 8 + (yl Y' + 11) + 60 * d' ≤ R.locals; omega⟩, hA.2.2.2.2.1 _ hst⟩ (zPc_here hP hA.2.2.2.2.2.1 hsz hA.2.2.2.2.2.2.2.2.2.2.1) rfl hn hl.1 rfl (lv_room hcat) hd ⟨hc1, hc2⟩
theorem z_callSN {β : Type} {enc' : β → Option Value × ZH} {Y' : zY} {d' idx n : Nat} {as : List Value} {host : String} {st0 : List Value} {r' : Option β} {f : β → Option α} (pc2 : Nat) (hM : ZM enc' b0 Y' d' as h r') (hy : zYok Y' n) (hn : as.length = n) (hw : (yo Y, idx, yn Y', host) ∈ znestL) (hst : Cond.static (yn Y') ∈ zgw) (hdep : d' + 1 ≤ d) (hs0 : st0 = as.reverse ++ st) (hcat : (st.map fun v => v.category).sum ≤ 8) (hd : decode (yc Y) pc = .ok (.invokestatic idx, 3)) (e : pc + 3 = pc2)
    (kk : ∀ x, r' = some x → Zr enc b0 Y d pc2 lv ((enc' x).1.toList ++ st) (enc' x).2 (f x)) : Zr enc b0 Y d pc lv st0 h (r'.bind f) := by
  subst hs0
  refine z_callG pc2 e (fun x hx => ⟨(hM x hx).1, (hM x hx).2.1⟩) (fun x hx D CA p l e R s m args below meth c H locs ls n0 cells slots hA hl hP hsz hS hc1 hc2 => ⟨as.toArray, ?_⟩) kk
  exact va_runSN (As := as) (rest := st) ⟨hA.1, hA.2.1, hA.2.2.1, hA.2.2.2.1, hA.2.2.2.2.1⟩ ((hM x hx).2.2 l D CA) ⟨va_cnB n hA.2.2.2.2.1 (zgoodIn hy) rfl rfl rfl (hA.2.2.2.2.2.2.2.2.2.2.1.1 _ hw) (hA.2.2.2.2.1 _ hy.2.2.1) hy.1 ⟨Nat.le_trans hdep hA.2.2.2.2.2.2.2.1, by have h1 : 60 * (d' + 1) ≤ 60 * d := Nat.mul_le_mul_left 60 hdep; have h2 := hA.2.2.2.2.2.2.2.2.1; have h3 := hy.2.2.2; show 8 + (yl Y' + 11) + 60 * d' ≤ R.locals; omega⟩, hA.2.2.2.2.1 _ hst, trivial⟩ (zPc_here hP hA.2.2.2.2.2.1 hsz hA.2.2.2.2.2.2.2.2.2.2.1) rfl hn hl.1 rfl (lv_room hcat) hd ⟨hc1, hc2⟩
theorem z_callV {β : Type} {enc' : β → Option Value × ZH} {Y' : zY} {d' idx n : Nat} {as : List Value} {a ci : Nat} {st0 : List Value} {r' : Option β} {f : β → Option α} (pc2 : Nat) (hM : ZM enc' b0 Y' d' (.ref (b0 + a) :: as) h r') (hy : zYok Y' n) (hn : as.length = n) (hw : Cond.methodLink (yo Y) idx (yn Y') ∈ zgw) {q : vw_C} (hc : vwCl[ci]? = some q) (hci : ci < 12) (hk : ∀ x, r' = some x → a < zn h ∧ zK h a = ci) (hin : Cond.instanceMethod (yn Y') ∈ zgw) (hsel : Cond.selects q.1 (yn Y') (yn Y') ∈ zgw) (hdep : d' + 1 ≤ d) (hs0 : st0 = as.reverse ++ .ref (b0 + a) :: st) (hcat : (st.map fun v => v.category).sum ≤ 8) (hd : decode (yc Y) pc = .ok (.invokevirtual idx, 3)) (e : pc + 3 = pc2)
    (kk : ∀ x, r' = some x → Zr enc b0 Y d pc2 lv ((enc' x).1.toList ++ st) (enc' x).2 (f x)) : Zr enc b0 Y d pc lv st0 h (r'.bind f) := by
  subst hs0
  refine z_callG pc2 e (fun x hx => ⟨(hM x hx).1, (hM x hx).2.1⟩) (fun x hx D CA p l e R s m args below meth c H locs ls n0 cells slots hA hl hP hsz hS hc1 hc2 => ⟨(.ref (b0 + a) :: as).toArray, ?_⟩) kk
  exact va_runV (As := as) (rest := st) ⟨hA.1, hA.2.1, hA.2.2.1, hA.2.2.2.1, hA.2.2.2.2.1⟩ ((hM x hx).2.2 l D CA) ⟨callB_of n hA.2.2.2.2.1 (zgoodIn hy) rfl rfl rfl (hA.2.2.2.2.1 _ hy.2.2.1) (hA.2.2.2.2.1 _ hw) hy.1 ⟨Nat.le_trans hdep hA.2.2.2.2.2.2.2.1, by have h1 : 60 * (d' + 1) ≤ 60 * d := Nat.mul_le_mul_left 60 hdep; have h2 := hA.2.2.2.2.2.2.2.2.1; have h3 := hy.2.2.2; show 8 + (yl Y' + 11) + 60 * d' ≤ R.locals; omega⟩, hA.2.2.2.2.1 _ hin, hA.2.2.2.2.1 _ hsel⟩ ⟨zPc_blind, va_recv hA.2.2.2.2.2.1 hP hc (q0 := a) (by rw [zW_get (hk x hx).1, zE_obj (hk x hx).2 hci]), (zPc_here hP hA.2.2.2.2.2.1 hsz hA.2.2.2.2.2.2.2.2.2.2.1).2⟩ rfl hn hl.1 rfl (lv_room hcat) hd ⟨hc1, hc2⟩
theorem z_callI {β : Type} {enc' : β → Option Value × ZH} {Y' : zY} {d' idx n : Nat} {as : List Value} {a : Nat} {st0 : List Value} {r' : Option β} {f : β → Option α} (pc2 : Nat) (hM : ZM enc' b0 Y' d' (.ref (b0 + a) :: as) h r') (hy : zYok Y' n) (hn : as.length = n) (hw : Cond.methodLink (yo Y) idx (yn Y') ∈ zgw) (hnm : (yn Y').name = "<init>") (hret : yr Y' = none) (hin : Cond.instanceMethod (yn Y') ∈ zgw) (hdep : d' + 1 ≤ d) (hs0 : st0 = as.reverse ++ .ref (b0 + a) :: st) (hcat : (st.map fun v => v.category).sum ≤ 8) (hd : decode (yc Y) pc = .ok (.invokespecial idx, 3)) (e : pc + 3 = pc2)
    (kk : ∀ x, r' = some x → Zr enc b0 Y d pc2 lv ((enc' x).1.toList ++ st) (enc' x).2 (f x)) : Zr enc b0 Y d pc lv st0 h (r'.bind f) := by
  subst hs0
  refine z_callG pc2 e (fun x hx => ⟨(hM x hx).1, (hM x hx).2.1⟩) (fun x hx D CA p l e R s m args below meth c H locs ls n0 cells slots hA hl hP hsz hS hc1 hc2 => ⟨(.ref (b0 + a) :: as).toArray, ?_⟩) kk
  have h9 : CallB R s args (yo Y) idx (yn Y') (yc Y') (yl Y') (yr Y') (zwsY Y') (zRoom d' (zn (enc' x).2 - zn h) (zs (enc' x).2 - zs h)) (zn (enc' x).2 - zn h) (zs (enc' x).2 - zs h) n := callB_of n hA.2.2.2.2.1 (zgoodIn hy) rfl rfl rfl (hA.2.2.2.2.1 _ hy.2.2.1) (hA.2.2.2.2.1 _ hw) hy.1 ⟨Nat.le_trans hdep hA.2.2.2.2.2.2.2.1, by have h1 : 60 * (d' + 1) ≤ 60 * d := Nat.mul_le_mul_left 60 hdep; have h2 := hA.2.2.2.2.2.2.2.2.1; have h3 := hy.2.2.2; show 8 + (yl Y' + 11) + 60 * d' ≤ R.locals; omega⟩
  rw [hret] at h9
  exact va_runI (As := as) (rest := st) ⟨hA.1, hA.2.1, hA.2.2.1, hA.2.2.2.1, hA.2.2.2.2.1⟩ ((hM x hx).2.2 l D CA) ⟨h9, hnm, hA.2.2.2.2.1 _ hin⟩ (zPc_here hP hA.2.2.2.2.2.1 hsz hA.2.2.2.2.2.2.2.2.2.2.1) rfl hn hl.1 rfl (lv_room hcat) hd ⟨hc1, hc2⟩
theorem z_callIN {β : Type} {enc' : β → Option Value × ZH} {Y' : zY} {d' idx n : Nat} {as : List Value} {host : String} {a : Nat} {st0 : List Value} {r' : Option β} {f : β → Option α} (pc2 : Nat) (hM : ZM enc' b0 Y' d' (.ref (b0 + a) :: as) h r') (hy : zYok Y' n) (hn : as.length = n) (hw : (yo Y, idx, yn Y', host) ∈ znestL) (hnm : (yn Y').name = "<init>") (hret : yr Y' = none) (hin : Cond.instanceMethod (yn Y') ∈ zgw) (hdep : d' + 1 ≤ d) (hs0 : st0 = as.reverse ++ .ref (b0 + a) :: st) (hcat : (st.map fun v => v.category).sum ≤ 8) (hd : decode (yc Y) pc = .ok (.invokespecial idx, 3)) (e : pc + 3 = pc2)
    (kk : ∀ x, r' = some x → Zr enc b0 Y d pc2 lv ((enc' x).1.toList ++ st) (enc' x).2 (f x)) : Zr enc b0 Y d pc lv st0 h (r'.bind f) := by
  subst hs0
  refine z_callG pc2 e (fun x hx => ⟨(hM x hx).1, (hM x hx).2.1⟩) (fun x hx D CA p l e R s m args below meth c H locs ls n0 cells slots hA hl hP hsz hS hc1 hc2 => ⟨(.ref (b0 + a) :: as).toArray, ?_⟩) kk
  have h9 : va_CN R s args (yo Y) idx (yn Y') host (yc Y') (yl Y') (yr Y') (zwsY Y') (zRoom d' (zn (enc' x).2 - zn h) (zs (enc' x).2 - zs h)) (zn (enc' x).2 - zn h) (zs (enc' x).2 - zs h) n := va_cnB n hA.2.2.2.2.1 (zgoodIn hy) rfl rfl rfl (hA.2.2.2.2.2.2.2.2.2.2.1.1 _ hw) (hA.2.2.2.2.1 _ hy.2.2.1) hy.1 ⟨Nat.le_trans hdep hA.2.2.2.2.2.2.2.1, by have h1 : 60 * (d' + 1) ≤ 60 * d := Nat.mul_le_mul_left 60 hdep; have h2 := hA.2.2.2.2.2.2.2.2.1; have h3 := hy.2.2.2; show 8 + (yl Y' + 11) + 60 * d' ≤ R.locals; omega⟩
  rw [hret] at h9
  exact va_runIN (As := as) (rest := st) ⟨hA.1, hA.2.1, hA.2.2.1, hA.2.2.2.1, hA.2.2.2.2.1⟩ ((hM x hx).2.2 l D CA) ⟨h9, hnm, hA.2.2.2.2.1 _ hin⟩ (zPc_here hP hA.2.2.2.2.2.1 hsz hA.2.2.2.2.2.2.2.2.2.2.1) rfl hn hl.1 rfl (lv_room hcat) hd ⟨hc1, hc2⟩
end ZMETH
