/-! THE CLAIM OUT OF ONE WALK OF THE LAW'S BODY. Your part is whole_start (and what it stands on); all else here is the same for every law, but numbers. -/
def R_law : String := "SoficShiftLaw"
def lw_P (b : Addr) (xs : List Int32) (args : Array Value) (s : State) : Prop := args = #[.ref b] ∧ s.IntsAt b xs ∧ xs.length ≤ 2560 ∧ (Jvm.Cond.and given_1 narrow_1).before args s = true
/-- what a walk over the start with the record d0 says of its end, said of the start itself -/
theorem lw_closed {s t : State} {o : Outcome} {d0 : Drawn} {L : List Loc} {k n : Nat} (hd0 : s.drawn.sameBut d0 lw_cs) (hv : ∃ v, o = .returned v) (hW : (s.setDrawn d0).WarmedH t.vm) (hs : (s.setDrawn d0).sameButNew ({ t with vm := s.vm } : State) L k n) : State.butDraws s t lw_cs (fun t1 => Framed s o t1 L k n) := by
  have h2 : t.drawn = d0 := congrArg State.drawn hs.1
  refine ⟨⟨hv, hW, State.sameButNew.setDrawn hs s.drawn⟩, ?_, by decide⟩
  rw [h2]
  exact hd0
def lw_Q (_ : Array Value) (s : State) (o : Outcome) (t : State) : Prop := o = .returned (some (.int 1)) ∧ State.butDraws s t lw_cs (fun t1 => Framed s o t1 [] 600000 7302250)
def lw_Z (below : List Frame) (a : Array Value) (s : State) : State → Prop := fun t => ∃ o, t.status = .running ∧ Ended t below o ∧ lw_Q a s o t
/-- the law's own end, with 1 on the stack, nothing written that was there before, its room as the claim has it; d0: the record of draws at this point (at the entry s.drawn: begin with 'refine W.base ?_' and 'have hd0 := Drawn.sameBut.refl s.drawn lw_cs') -/
theorem lw_ret {p : Program} {l : Launch} {e : Env} {s : State} {m : MethodId} {below : List Frame} {meth : Method} {c : Code} {b : Nat} {d0 : Drawn} (hd0 : s.drawn.sameBut d0 lw_cs) (hx : p.tables.exec = Jvm.exec) (hb : c.code = code) (hr : meth.sig.returnType = ret) (hlocks : meth.locks = false) {pc : Nat} {H : Heap} {ls : Array Slot} (hdg : decode code pc = .ok (.ireturn, 1)) : W p l e room_1 (s.setDrawn d0) m #[Value.ref b] below meth c H [] 600000 7302250 (lw_Z below #[Value.ref b] s) (F0 m pc ls [.int 1]) := by
  intro T hT X
  obtain ⟨fs, hret, hrun, hended, hW, hframe⟩ := X.leave (v := some (.int 1)) (hlocks := hlocks) (fun h => by rw [hr] at h; cases h)
  have hmeth' : T.vm.method? m = some meth := X.method'
  refine ⟨T.setFrames fs, ?_, .returned (some (.int 1)), hrun, hended, rfl, lw_closed hd0 ⟨_, rfl⟩ hW hframe⟩
  jvm_step X.here [X.here.top, hx, hb, hdg, hmeth', hr, ret, narrow_b1]
  (try refine ⟨rfl, ?_⟩); (try refine ⟨rfl, ?_⟩)
  first | (intro acts; rw [hret _ acts rfl rfl rfl]) | rw [hret _ _ rfl rfl rfl]
  exact Steps.refl _
/-- what holds at the law's entry: the machine, the code, the tables' words (any of lw_tbl by 'hts w (by decide +kernel)'), the script of L ints xs at the cell b, what the Statement gives of the start (any of its parts by flat_of_before) -/
def lw_At (p : Program) (s : State) (m : MethodId) (meth : Method) (c : Code) (b L : Nat) (xs : Nat → Int32) : Prop :=
  p.tables.exec = Jvm.exec ∧ c.code = code ∧ meth.sig.returnType = ret ∧ c.maxLocals = 4 ∧ s.vm.findClass R_law = some m.cls ∧ (∀ w ∈ lw_tbl, w.before #[Value.ref b] s = true) ∧ va_X b L xs s s.heap ∧ b < s.heap.size ∧ meth.locks = false ∧ (Jvm.Cond.and given_1 narrow_1).before #[Value.ref b] s = true ∧ meth.name = "law"
def zh0 : ZH := (0, 0, fun _ => 99, fun _ => 0, fun _ _ => 0, fun _ _ => 0, fun _ _ => 0, fun _ _ => none)
theorem zgw_in {w : Cond} (h : w ∈ zgw) : w ∈ lw_tbl := (List.mem_filter.mp h).1
theorem z_classes {s : State} {args : Array Value} (hts : ∀ w ∈ zgw, w.before args s = true) : ∃ D : va_G, ∀ (c : Nat) (q : vw_C), vwCl[c]? = some q → u_Kn s q.1 q.2.1 q.2.2 (D.1 c) (D.2 c) := by
  have key : ∀ (c : Nat) (q : vw_C), vwCl[c]? = some q → ∃ (cC : ClassId) (iS : Nat → Nat), u_Kn s q.1 q.2.1 q.2.2 cC iS := by
    intro c q hq
    match c, hq with
    | 0, hq => cases hq; exact u_known hts zin_0 (hts _ wn_0)
    | 1, hq => cases hq; exact u_known hts zin_1 (hts _ wn_1)
    | 2, hq => cases hq; exact u_known hts zin_2 (hts _ wn_2)
    | 3, hq => cases hq; exact u_known hts zin_3 (hts _ wn_3)
    | 4, hq => cases hq; exact u_known hts zin_4 (hts _ wn_4)
    | 5, hq => cases hq; exact u_known hts zin_5 (hts _ wn_5)
    | 6, hq => cases hq; exact u_known hts zin_6 (hts _ wn_6)
    | 7, hq => cases hq; exact u_known hts zin_7 (hts _ wn_7)
    | 8, hq => cases hq; exact u_known hts zin_8 (hts _ wn_8)
    | 9, hq => cases hq; exact u_known hts zin_9 (hts _ wn_9)
    | 10, hq => cases hq; exact u_known hts zin_10 (hts _ wn_10)
    | 11, hq => cases hq; exact u_known hts zin_11 (hts _ wn_11)
    | c + 12, hq => simp [vwCl] at hq
  have key2 : ∀ c : Nat, ∃ y : ClassId × (Nat → Nat), ∀ q : vw_C, vwCl[c]? = some q → u_Kn s q.1 q.2.1 q.2.2 y.1 y.2 := by
    intro c
    cases hc : vwCl[c]? with
    | none => exact ⟨(0, fun _ => 0), fun q hq => by cases hq⟩
    | some q0 =>
      obtain ⟨cC, iS, h⟩ := key c q0 hc
      exact ⟨(cC, iS), fun q hq => by cases hq; exact h⟩
  obtain ⟨f, hf⟩ := Classical.axiomOfChoice key2
  exact ⟨(fun c => (f c).1, fun c => (f c).2), fun c q hq => hf c q hq⟩
theorem z_aprim {s : State} {args : Array Value} {ty : FieldType} (h : (Cond.arrayClass ty).before args s = true) : ∃ cA : ClassId, ArrOfT s cA ty ∧ s.vm.findClass ("[" ++ ty.toString) = some cA := by
  obtain ⟨c, k, comp, h1, h2, h3⟩ := Cond.arrayClass_spec h
  exact ⟨c, fun n z => ⟨fun k h => (by cases h), k, h2, comp, h3⟩, h1⟩
theorem z_aobj {s : State} {args : Array Value} {C : String} (h : (Cond.arrayOver (.object C)).before args s = true) : ∃ cA : ClassId, ArrOfT s cA (.object C) ∧ va_RA s cA (.object C) := by
  obtain ⟨comp, c, k, h1, h2, h3, h4, h5⟩ := Cond.arrayOver_spec h
  exact ⟨c, fun n z => ⟨fun k h => (by cases h), k, h3, comp, h4⟩, k, comp, h3, h4, h1, h5⟩
theorem zao1 : Cond.arrayOver (.object "SoficShift$Graph") ∈ lw_tbl := List.mem_of_getElem? (i := 127) (by decide +kernel)
theorem zao3 : Cond.arrayOver (.object "SoficShift$NumberRow") ∈ lw_tbl := List.mem_of_getElem? (i := 173) (by decide +kernel)
theorem z_arrays {s : State} {args : Array Value} (hts : ∀ w ∈ lw_tbl, w.before args s = true) : ∃ CA : Nat → ClassId, ∀ (k : Nat) (q : ClassId × FieldType), (ztys CA)[k]? = some q → ArrOfT s q.1 q.2 ∧ va_RA s q.1 q.2 := by
  obtain ⟨c12, a12, b12⟩ := z_aprim (hts _ (zgw_in wa_char))
  obtain ⟨c13, a13, b13⟩ := z_aprim (hts _ (zgw_in wa_float))
  obtain ⟨c14, a14, b14⟩ := z_aprim (hts _ (zgw_in wa_int))
  obtain ⟨c15, a15, b15⟩ := z_aprim (hts _ (zgw_in wa_long))
  obtain ⟨c16, a16, b16⟩ := z_aprim (hts _ (zgw_in wa_boolean))
  obtain ⟨c17, a17, b17⟩ := z_aobj (hts _ zao1)
  obtain ⟨c18, a18, b18⟩ := z_aobj (hts _ zao3)
  refine ⟨fun k => if k = 12 then c12 else if k = 13 then c13 else if k = 14 then c14 else if k = 15 then c15 else if k = 16 then c16 else if k = 17 then c17 else c18, fun k q hq => ?_⟩
  match k, hq with
  | 0, hq => cases hq; exact ⟨a12, b12⟩
  | 1, hq => cases hq; exact ⟨a13, b13⟩
  | 2, hq => cases hq; exact ⟨a14, b14⟩
  | 3, hq => cases hq; exact ⟨a15, b15⟩
  | 4, hq => cases hq; exact ⟨a16, b16⟩
  | 5, hq => cases hq; exact ⟨a17, b17⟩
  | 6, hq => cases hq; exact ⟨a18, b18⟩
  | k + 7, hq => simp [ztys] at hq
theorem z_nst {s : State} {args : Array Value} (hts : ∀ w ∈ lw_tbl, w.before args s = true) : zNst s := by
  refine ⟨fun q hq => va_Nw.of rfl (hts _ ?_), va_AO.of (hts _ zao1), va_AO.of (hts _ zao3)⟩
  obtain ⟨i, hi⟩ := List.getElem?_of_mem hq
  match i, hi with
  | 0, hi => cases hi; exact List.mem_of_getElem? (i := 136) (by decide +kernel)
  | 1, hi => cases hi; exact List.mem_of_getElem? (i := 174) (by decide +kernel)
  | 2, hi => cases hi; exact List.mem_of_getElem? (i := 177) (by decide +kernel)
  | 3, hi => cases hi; exact List.mem_of_getElem? (i := 202) (by decide +kernel)
  | 4, hi => cases hi; exact List.mem_of_getElem? (i := 216) (by decide +kernel)
  | 5, hi => cases hi; exact List.mem_of_getElem? (i := 235) (by decide +kernel)
  | 6, hi => cases hi; exact List.mem_of_getElem? (i := 240) (by decide +kernel)
  | 7, hi => cases hi; exact List.mem_of_getElem? (i := 242) (by decide +kernel)
  | 8, hi => cases hi; exact List.mem_of_getElem? (i := 289) (by decide +kernel)
  | 9, hi => cases hi; exact List.mem_of_getElem? (i := 302) (by decide +kernel)
  | 10, hi => cases hi; exact List.mem_of_getElem? (i := 320) (by decide +kernel)
  | 11, hi => cases hi; exact List.mem_of_getElem? (i := 410) (by decide +kernel)
  | 12, hi => cases hi; exact List.mem_of_getElem? (i := 427) (by decide +kernel)
  | 13, hi => cases hi; exact List.mem_of_getElem? (i := 432) (by decide +kernel)
  | 14, hi => cases hi; exact List.mem_of_getElem? (i := 561) (by decide +kernel)
  | 15, hi => cases hi; exact List.mem_of_getElem? (i := 655) (by decide +kernel)
  | 16, hi => cases hi; exact List.mem_of_getElem? (i := 759) (by decide +kernel)
  | 17, hi => cases hi; exact List.mem_of_getElem? (i := 813) (by decide +kernel)
  | 18, hi => cases hi; exact List.mem_of_getElem? (i := 936) (by decide +kernel)
  | i + 19, hi => simp [znestL] at hi
/-- THE LAW, from its entry, out of what its function answers -/
theorem whole_open (hp : ∀ (xs : Nat → Int32) (L sa : Nat), L ≤ 2560 → ∃ hF, fL_law xs L sa zh0 = some (1, hF) ∧ zn hF ≤ 600000 ∧ zs hF ≤ 7302250) {p : Program} {e : Env} {s : State} {m : MethodId} {below : List Frame} {meth : Method} {c : Code} (l : Launch) {b L : Nat} {xs : Nat → Int32} (hL : L ≤ 2560) (C0 : lw_At p s m meth c b L xs) : W p l e room_1 s m #[Value.ref b] below meth c s.heap [] 0 0 (lw_Z below #[Value.ref b] s) (entryFrame m ([Value.ref b] : List Value).toArray 4) := by
  obtain ⟨hx, hb, hr, hml, hown, hts, hX, hbl, hlocks, hgv, hnm⟩ := id C0
  obtain ⟨hF, hf, hc, hsl⟩ := hp xs L b hL
  obtain ⟨D, hD⟩ := z_classes (fun w hw => hts w (zgw_in hw))
  obtain ⟨CA, hCA⟩ := z_arrays hts
  obtain ⟨h1, h2, K⟩ := mL_law s.heap.size xs L b zh0 (1, hF) hf
  rw [lg_entry_eq]
  have := K D CA p l e room_1 s m #[Value.ref b] below meth c s.heap [] _ 0 0 (lw_Z below #[Value.ref b] s) ⟨hx, hb, hml, hown, fun w hw => hts w (zgw_in hw), ⟨hD, hCA⟩, rfl, Nat.le_of_ble_eq_true rfl, Nat.le_of_ble_eq_true rfl, hnm, z_nst hts, hX, hbl, Nat.not_le.mpr hbl⟩ (Nat.le_refl _) (Nat.le_refl _) hc hsl (lv_entry [.ref b] (Nat.le_of_ble_eq_true rfl)) ?_ va_S.rf ?_
  · exact this
  · intro k q h
    simp [zW, zn, zh0] at h
  · intro H' locs' pc' ls' ins hd hz hP' hS'
    obtain ⟨rfl, -⟩ := hz
    refine va_forget (fun q hq => hS'.2.2 q hq) ?_
    refine W.widen (k := 600000) (n := 7302250) hc hsl ?_
    exact lw_ret (d0 := s.drawn) (Drawn.sameBut.refl s.drawn lw_cs) hx hb hr hlocks hd
