/-! NEW CELLS, CALLS, RETURNS, SWITCHES over the abstract heap -/
section ZNEW
variable {α : Type} {enc : α → Option Value × ZH} {b0 : Nat} {Y : zY} {d pc : Nat} {lv lv2 : List (Nat × Value)} {st : List Value} {h : ZH} {r : Option α} {CA : Nat → ClassId}
theorem znew_K {k n b : Nat} (hb : b ≠ zn h) : zK (znew h k n) b = zK h b := by show va_up (zK h) (zn h) k b = _; simp [va_up, hb]
theorem znew_N {k n b : Nat} (hb : b ≠ zn h) : zN (znew h k n) b = zN h b := by show va_up (zN h) (zn h) n b = _; simp [va_up, hb]
theorem znew_K1 {k n : Nat} : zK (znew h k n) (zn h) = k := by show va_up (zK h) (zn h) k (zn h) = _; simp [va_up]
theorem znew_N1 {k n : Nat} : zN (znew h k n) (zn h) = n := by show va_up (zN h) (zn h) n (zn h) = _; simp [va_up]
theorem znew_E {k n b : Nat} (hb : b < zn h) : zE b0 CA (znew h k n) b = zE b0 CA h b := zE_congr (znew_K (by omega)) (znew_N (by omega)) (zrow_ne (by omega)) (zrow_ne (by omega)) (zrow_ne (by omega)) (zrow_ne (by omega))
/-- the world with a new cell behind it -/
theorem zP_new {D : va_G} {H H1 : Heap} {k n : Nat} (hP : zP b0 D CA h H) (ho : ∀ q, q < b0 + zn h → H1[q]? = H[q]?) (hc : va_at D vwCl (b0 + zn h, zE b0 CA (znew h k n) (zn h)) H1) : zP b0 D CA (znew h k n) H1 := by
  unfold zP
  rw [← zW_push (h := h) (h' := znew h k n) rfl (fun b hb => znew_E hb)]
  refine va_P.app (fun j q hq => ?_) (fun j q hq => ?_)
  · obtain ⟨hj, rfl⟩ := zW_some hq
    exact (hP j _ hq).kept (ho _ (by show b0 + j < b0 + zn h; omega))
  · have hz : j < 1 := (List.getElem?_eq_some_iff.mp hq).1
    rw [show j = 0 by omega] at hq
    cases hq
    exact hc
theorem zS_new {b0 : Nat} {s : State} {H H1 : Heap} {locs : List Loc} {n : Nat} (hS : va_S (zFree b0) s.heap H locs) (hs : H.size = n) (z1 : H1.size = n + 1) (o1 : ∀ q, q < n → H1[q]? = H[q]?) : va_S (zFree b0) s.heap H1 locs :=
  ⟨Nat.le_trans hS.1 (by omega), fun q h1 h2 => (o1 q (by have := hS.1; omega)).trans (hS.2.1 q h1 h2), hS.2.2⟩
theorem z_new {ci idx N : Nat} {C : String} {T : u_T} {ty : Nat → FieldType} (pc2 : Nat) (ck : zCok ci C T N ty) (hdf : ∀ j, j < N → defaultValue (ty j) = if zTR ci j = true then Value.null else .int 0) (hcl : Cond.classLink (yo Y) idx C ∈ zgw) (hinst : Cond.instantiable C N ∈ zgw) (hini : Cond.initialized C ∈ zgw) (hd : decode (yc Y) pc = .ok (.new idx, 3)) (e : pc + 3 = pc2) (k : Zr enc b0 Y d pc2 lv (.ref (b0 + zn h) :: st) (znew h ci N) r) : Zr enc b0 Y d pc lv st h r := by
  subst e
  intro x hx
  obtain ⟨h1, h2, K⟩ := k x hx
  have en : zn (znew h ci N) = zn h + 1 := rfl
  have es : zs (znew h ci N) = zs h + N := rfl
  rw [en] at h1
  rw [es] at h2
  refine ⟨by omega, by omega, fun D CA p l e R s m args below meth c H locs ls n0 s0 Q hA hn hs hc hsl hl hP hS hret => z_size' hA.2.2.2.2.2.2.1 hn hP (fun hsz => ?_)⟩
  have hKn := hA.2.2.2.2.2.1.1 ci _ ck.1
  refine W.newcK hA.1 hA.2.1 hA.2.2.2.1 (hA.2.2.2.2.1 _ hcl) (hA.2.2.2.2.1 _ hinst) (hA.2.2.2.2.1 _ hini) rfl hd (by omega) (by omega) hKn.2.1 hsz fun H1 kC hkC e1 z1 o1 => ?_
  have := K D CA p l e R s m args below meth c H1 locs ls n0 s0 Q hA (by omega) (by omega) hc hsl hl (zP_new hP o1 ?_) (zS_new hS hsz z1 o1) hret
  · rw [en, es, show zn h + 1 - n0 = zn h - n0 + 1 by omega, show zs h + N - s0 = zs h - s0 + N by omega] at this
    exact this
  · rw [zE_obj (ci := ci) znew_K1 ck.2.2.2.2.2]
    refine ⟨_, ck.1, (u_born ty hA.2.2.2.2.1 ck.2.1 hKn hkC e1 ck.2.2.1).to (fun j hj => ?_)⟩
    have hj2 : j < zNF ci := by rw [ck.2.2.2.2.1]; exact hj
    have e3 : (zfs b0 (znew h ci N) (zn h))[j]? = some (zfv b0 (znew h ci N) (zn h) j) := zfs_get znew_K1 hj2
    show defaultValue (ty j) = (zfs b0 (znew h ci N) (zn h)).getD j .null
    rw [List.getD_eq_getElem?_getD, e3, hdf j hj]
    show _ = zfv b0 (znew h ci N) (zn h) j
    unfold zfv
    rw [znew_K1, show zR (znew h ci N) (zn h) = fun _ => none from zrow_eq, show zI (znew h ci N) (zn h) = fun _ => 0 from zrow_eq]
    rfl
theorem z_newarray_int {n : Int32} (pc2 : Nat) (hw : Cond.arrayClass .int ∈ zgw) (hd : decode (yc Y) pc = .ok (.newarray .int, 2)) (e : pc + 2 = pc2) (k : Zr enc b0 Y d pc2 lv (.ref (b0 + zn h) :: st) (znew h 14 n.toNatClampNeg) r) : Zr enc b0 Y d pc lv (.int n :: st) h (if n < 0 ∨ 67108864 < n.toNatClampNeg then none else r) := by
  subst e
  by_cases gn : n < 0 ∨ 67108864 < n.toNatClampNeg
  · rw [if_pos gn]; exact Zr.none
  rw [if_neg gn]
  have gn1 : ¬ n < 0 := fun q => gn (Or.inl q)
  have gn2 : n.toNatClampNeg ≤ 67108864 := Nat.not_lt.mp fun q => gn (Or.inr q)
  intro x hx
  obtain ⟨h1, h2, K⟩ := k x hx
  have en : zn (znew h 14 n.toNatClampNeg) = zn h + 1 := rfl
  have es : zs (znew h 14 n.toNatClampNeg) = zs h + n.toNatClampNeg := rfl
  rw [en] at h1
  rw [es] at h2
  refine ⟨by omega, by omega, fun D CA p l e R s m args below meth c H locs ls n0 s0 Q hA hn hs hc hsl hl hP hS hret => z_size' hA.2.2.2.2.2.2.1 hn hP (fun hsz => ?_)⟩
  refine va_newaK (atype := .int) hA.1 hA.2.1 (hA.2.2.2.2.1 _ hw) rfl hd rfl gn1 rfl (by have e9 : componentBytes (newarray.typeOf .int) = 4 := rfl; rw [e9]; omega) (by omega) (by omega) hsz fun H1 cA e1 z1 o1 _ hfc => ?_
  have hcA : cA = CA 14 := Option.some.inj (hfc.symm.trans (hA.2.2.2.2.2.1.2 2 _ rfl).2)
  subst hcA
  have := K D CA p l e R s m args below meth c H1 locs ls n0 s0 Q hA (by omega) (by omega) hc hsl hl (zP_new hP o1 ?_) (zS_new hS hsz z1 o1) hret
  · rw [en, es, show zn h + 1 - n0 = zn h - n0 + 1 by omega, show zs h + n.toNatClampNeg - s0 = zs h - s0 + n.toNatClampNeg by omega] at this
    exact this
  · rw [zE_arr (ci := 14) znew_K1 (by decide), znew_N1]
    have e4 : zarr b0 (znew h 14 n.toNatClampNeg) (zn h) = .inl (fun _ => 0) := by
      unfold zarr
      rw [znew_K1, show zI (znew h 14 n.toNatClampNeg) (zn h) = fun _ => 0 from zrow_eq]
      rfl
    rw [e4]
    exact e1
theorem z_newarray_long {n : Int32} (pc2 : Nat) (hw : Cond.arrayClass .long ∈ zgw) (hd : decode (yc Y) pc = .ok (.newarray .long, 2)) (e : pc + 2 = pc2) (k : Zr enc b0 Y d pc2 lv (.ref (b0 + zn h) :: st) (znew h 15 n.toNatClampNeg) r) : Zr enc b0 Y d pc lv (.int n :: st) h (if n < 0 ∨ 67108864 < n.toNatClampNeg then none else r) := by
  subst e
  by_cases gn : n < 0 ∨ 67108864 < n.toNatClampNeg
  · rw [if_pos gn]; exact Zr.none
  rw [if_neg gn]
  have gn1 : ¬ n < 0 := fun q => gn (Or.inl q)
  have gn2 : n.toNatClampNeg ≤ 67108864 := Nat.not_lt.mp fun q => gn (Or.inr q)
  intro x hx
  obtain ⟨h1, h2, K⟩ := k x hx
  have en : zn (znew h 15 n.toNatClampNeg) = zn h + 1 := rfl
  have es : zs (znew h 15 n.toNatClampNeg) = zs h + n.toNatClampNeg := rfl
  rw [en] at h1
  rw [es] at h2
  refine ⟨by omega, by omega, fun D CA p l e R s m args below meth c H locs ls n0 s0 Q hA hn hs hc hsl hl hP hS hret => z_size' hA.2.2.2.2.2.2.1 hn hP (fun hsz => ?_)⟩
  refine va_newaK (atype := .long) hA.1 hA.2.1 (hA.2.2.2.2.1 _ hw) rfl hd rfl gn1 rfl (by have e9 : componentBytes (newarray.typeOf .long) = 8 := rfl; rw [e9]; omega) (by omega) (by omega) hsz fun H1 cA e1 z1 o1 _ hfc => ?_
  have hcA : cA = CA 15 := Option.some.inj (hfc.symm.trans (hA.2.2.2.2.2.1.2 3 _ rfl).2)
  subst hcA
  have := K D CA p l e R s m args below meth c H1 locs ls n0 s0 Q hA (by omega) (by omega) hc hsl hl (zP_new hP o1 ?_) (zS_new hS hsz z1 o1) hret
  · rw [en, es, show zn h + 1 - n0 = zn h - n0 + 1 by omega, show zs h + n.toNatClampNeg - s0 = zs h - s0 + n.toNatClampNeg by omega] at this
    exact this
  · rw [zE_arr (ci := 15) znew_K1 (by decide), znew_N1]
    have e4 : zarr b0 (znew h 15 n.toNatClampNeg) (zn h) = .inr (.inl (fun _ => 0)) := by
      unfold zarr
      rw [znew_K1, show zJ (znew h 15 n.toNatClampNeg) (zn h) = fun _ => 0 from zrow_eq]
      rfl
    rw [e4]
    exact e1
theorem z_newarray_char {n : Int32} (pc2 : Nat) (hw : Cond.arrayClass .char ∈ zgw) (hd : decode (yc Y) pc = .ok (.newarray .char, 2)) (e : pc + 2 = pc2) (k : Zr enc b0 Y d pc2 lv (.ref (b0 + zn h) :: st) (znew h 12 n.toNatClampNeg) r) : Zr enc b0 Y d pc lv (.int n :: st) h (if n < 0 ∨ 67108864 < n.toNatClampNeg then none else r) := by
  subst e
  by_cases gn : n < 0 ∨ 67108864 < n.toNatClampNeg
  · rw [if_pos gn]; exact Zr.none
  rw [if_neg gn]
  have gn1 : ¬ n < 0 := fun q => gn (Or.inl q)
  have gn2 : n.toNatClampNeg ≤ 67108864 := Nat.not_lt.mp fun q => gn (Or.inr q)
  intro x hx
  obtain ⟨h1, h2, K⟩ := k x hx
  have en : zn (znew h 12 n.toNatClampNeg) = zn h + 1 := rfl
  have es : zs (znew h 12 n.toNatClampNeg) = zs h + n.toNatClampNeg := rfl
  rw [en] at h1
  rw [es] at h2
  refine ⟨by omega, by omega, fun D CA p l e R s m args below meth c H locs ls n0 s0 Q hA hn hs hc hsl hl hP hS hret => z_size' hA.2.2.2.2.2.2.1 hn hP (fun hsz => ?_)⟩
  refine va_newaK (atype := .char) hA.1 hA.2.1 (hA.2.2.2.2.1 _ hw) rfl hd rfl gn1 rfl (by have e9 : componentBytes (newarray.typeOf .char) = 2 := rfl; rw [e9]; omega) (by omega) (by omega) hsz fun H1 cA e1 z1 o1 _ hfc => ?_
  have hcA : cA = CA 12 := Option.some.inj (hfc.symm.trans (hA.2.2.2.2.2.1.2 0 _ rfl).2)
  subst hcA
  have := K D CA p l e R s m args below meth c H1 locs ls n0 s0 Q hA (by omega) (by omega) hc hsl hl (zP_new hP o1 ?_) (zS_new hS hsz z1 o1) hret
  · rw [en, es, show zn h + 1 - n0 = zn h - n0 + 1 by omega, show zs h + n.toNatClampNeg - s0 = zs h - s0 + n.toNatClampNeg by omega] at this
    exact this
  · rw [zE_arr (ci := 12) znew_K1 (by decide), znew_N1]
    have e4 : zarr b0 (znew h 12 n.toNatClampNeg) (zn h) = .inl (fun _ => 0) := by
      unfold zarr
      rw [znew_K1, show zI (znew h 12 n.toNatClampNeg) (zn h) = fun _ => 0 from zrow_eq]
      rfl
    rw [e4]
    exact e1
theorem z_newarray_boolean {n : Int32} (pc2 : Nat) (hw : Cond.arrayClass .boolean ∈ zgw) (hd : decode (yc Y) pc = .ok (.newarray .boolean, 2)) (e : pc + 2 = pc2) (k : Zr enc b0 Y d pc2 lv (.ref (b0 + zn h) :: st) (znew h 16 n.toNatClampNeg) r) : Zr enc b0 Y d pc lv (.int n :: st) h (if n < 0 ∨ 67108864 < n.toNatClampNeg then none else r) := by
  subst e
  by_cases gn : n < 0 ∨ 67108864 < n.toNatClampNeg
  · rw [if_pos gn]; exact Zr.none
  rw [if_neg gn]
  have gn1 : ¬ n < 0 := fun q => gn (Or.inl q)
  have gn2 : n.toNatClampNeg ≤ 67108864 := Nat.not_lt.mp fun q => gn (Or.inr q)
  intro x hx
  obtain ⟨h1, h2, K⟩ := k x hx
  have en : zn (znew h 16 n.toNatClampNeg) = zn h + 1 := rfl
  have es : zs (znew h 16 n.toNatClampNeg) = zs h + n.toNatClampNeg := rfl
  rw [en] at h1
  rw [es] at h2
  refine ⟨by omega, by omega, fun D CA p l e R s m args below meth c H locs ls n0 s0 Q hA hn hs hc hsl hl hP hS hret => z_size' hA.2.2.2.2.2.2.1 hn hP (fun hsz => ?_)⟩
  refine va_newaK (atype := .boolean) hA.1 hA.2.1 (hA.2.2.2.2.1 _ hw) rfl hd rfl gn1 rfl (by have e9 : componentBytes (newarray.typeOf .boolean) = 1 := rfl; rw [e9]; omega) (by omega) (by omega) hsz fun H1 cA e1 z1 o1 _ hfc => ?_
  have hcA : cA = CA 16 := Option.some.inj (hfc.symm.trans (hA.2.2.2.2.2.1.2 4 _ rfl).2)
  subst hcA
  have := K D CA p l e R s m args below meth c H1 locs ls n0 s0 Q hA (by omega) (by omega) hc hsl hl (zP_new hP o1 ?_) (zS_new hS hsz z1 o1) hret
  · rw [en, es, show zn h + 1 - n0 = zn h - n0 + 1 by omega, show zs h + n.toNatClampNeg - s0 = zs h - s0 + n.toNatClampNeg by omega] at this
    exact this
  · rw [zE_arr (ci := 16) znew_K1 (by decide), znew_N1]
    have e4 : zarr b0 (znew h 16 n.toNatClampNeg) (zn h) = .inl (fun _ => 0) := by
      unfold zarr
      rw [znew_K1, show zI (znew h 16 n.toNatClampNeg) (zn h) = fun _ => 0 from zrow_eq]
      rfl
    rw [e4]
    exact e1
theorem z_newarray_float {n : Int32} (pc2 : Nat) (hw : Cond.arrayClass .float ∈ zgw) (hd : decode (yc Y) pc = .ok (.newarray .float, 2)) (e : pc + 2 = pc2) (k : Zr enc b0 Y d pc2 lv (.ref (b0 + zn h) :: st) (znew h 13 n.toNatClampNeg) r) : Zr enc b0 Y d pc lv (.int n :: st) h (if n < 0 ∨ 67108864 < n.toNatClampNeg then none else r) := by
  subst e
  by_cases gn : n < 0 ∨ 67108864 < n.toNatClampNeg
  · rw [if_pos gn]; exact Zr.none
  rw [if_neg gn]
  have gn1 : ¬ n < 0 := fun q => gn (Or.inl q)
  have gn2 : n.toNatClampNeg ≤ 67108864 := Nat.not_lt.mp fun q => gn (Or.inr q)
  intro x hx
  obtain ⟨h1, h2, K⟩ := k x hx
  have en : zn (znew h 13 n.toNatClampNeg) = zn h + 1 := rfl
  have es : zs (znew h 13 n.toNatClampNeg) = zs h + n.toNatClampNeg := rfl
  rw [en] at h1
  rw [es] at h2
  refine ⟨by omega, by omega, fun D CA p l e R s m args below meth c H locs ls n0 s0 Q hA hn hs hc hsl hl hP hS hret => z_size' hA.2.2.2.2.2.2.1 hn hP (fun hsz => ?_)⟩
  refine va_newaK (atype := .float) hA.1 hA.2.1 (hA.2.2.2.2.1 _ hw) rfl hd rfl gn1 rfl (by have e9 : componentBytes (newarray.typeOf .float) = 4 := rfl; rw [e9]; omega) (by omega) (by omega) hsz fun H1 cA e1 z1 o1 _ hfc => ?_
  have hcA : cA = CA 13 := Option.some.inj (hfc.symm.trans (hA.2.2.2.2.2.1.2 1 _ rfl).2)
  subst hcA
  have := K D CA p l e R s m args below meth c H1 locs ls n0 s0 Q hA (by omega) (by omega) hc hsl hl (zP_new hP o1 ?_) (zS_new hS hsz z1 o1) hret
  · rw [en, es, show zn h + 1 - n0 = zn h - n0 + 1 by omega, show zs h + n.toNatClampNeg - s0 = zs h - s0 + n.toNatClampNeg by omega] at this
    exact this
  · rw [zE_arr (ci := 13) znew_K1 (by decide), znew_N1]
    have e4 : zarr b0 (znew h 13 n.toNatClampNeg) (zn h) = .inr (.inr (.inl (fun _ => 0))) := by
      unfold zarr
      rw [znew_K1, show zF (znew h 13 n.toNatClampNeg) (zn h) = fun _ => 0 from zrow_eq]
      rfl
    rw [e4]
    exact e1
theorem z_anewarray17 {n : Int32} {idx : Nat} (pc2 : Nat) (hcl : Cond.classLink (yo Y) idx "SoficShift$Graph" ∈ zgw) (hd : decode (yc Y) pc = .ok (.anewarray idx, 3)) (e : pc + 3 = pc2) (k : Zr enc b0 Y d pc2 lv (.ref (b0 + zn h) :: st) (znew h 17 n.toNatClampNeg) r) : Zr enc b0 Y d pc lv (.int n :: st) h (if n < 0 ∨ 67108864 < n.toNatClampNeg then none else r) := by
  subst e
  by_cases gn : n < 0 ∨ 67108864 < n.toNatClampNeg
  · rw [if_pos gn]; exact Zr.none
  rw [if_neg gn]
  have gn1 : ¬ n < 0 := fun q => gn (Or.inl q)
  have gn2 : n.toNatClampNeg ≤ 67108864 := Nat.not_lt.mp fun q => gn (Or.inr q)
  intro x hx
  obtain ⟨h1, h2, K⟩ := k x hx
  have en : zn (znew h 17 n.toNatClampNeg) = zn h + 1 := rfl
  have es : zs (znew h 17 n.toNatClampNeg) = zs h + n.toNatClampNeg := rfl
  rw [en] at h1
  rw [es] at h2
  refine ⟨by omega, by omega, fun D CA p l e R s m args below meth c H locs ls n0 s0 Q hA hn hs hc hsl hl hP hS hret => z_size' hA.2.2.2.2.2.2.1 hn hP (fun hsz => ?_)⟩
  refine W.anew hA.1 hA.2.1 hA.2.2.2.1 (hA.2.2.2.2.1 _ hcl) (va_AO.use hA.2.2.2.2.2.2.2.2.2.2.1.2.1) rfl hd rfl gn1 (by omega) (by omega) (by omega) fun cA kA comp f1 f2 f3 f4 => ?_
  have hcA : cA = CA 17 := by
    obtain ⟨kA', comp', -, -, -, g4⟩ := (hA.2.2.2.2.2.1.2 5 _ rfl).2
    exact Option.some.inj (f1.symm.trans g4)
  subst hcA
  generalize hH1 : H.push ({ cls := CA 17, slots := Array.replicate n.toNatClampNeg .null, vm := .none } : Cell) = H1
  have z1 : H1.size = H.size + 1 := by rw [← hH1, Array.size_push]
  have e1 : H1[H.size]? = some (arrV (CA 17) n.toNatClampNeg (fun _ => .null)) := by rw [← hH1, Array.getElem?_push_size, ← arrV_new]
  have o1 : ∀ q : Nat, q < H.size → H1[q]? = H[q]? := fun q hq => by rw [← hH1, Array.getElem?_push, if_neg (Nat.ne_of_lt hq)]
  rw [hsz] at z1 e1 o1 ⊢
  have := K D CA p l e R s m args below meth c H1 locs ls n0 s0 Q hA (by omega) (by omega) hc hsl hl (zP_new hP o1 ?_) (zS_new hS hsz z1 o1) hret
  · rw [en, es, show zn h + 1 - n0 = zn h - n0 + 1 by omega, show zs h + n.toNatClampNeg - s0 = zs h - s0 + n.toNatClampNeg by omega] at this
    exact this
  · rw [zE_arr (ci := 17) znew_K1 (by decide), znew_N1]
    have e4 : zarr b0 (znew h 17 n.toNatClampNeg) (zn h) = .inr (.inr (.inr (.inr (fun _ => none)))) := by
      unfold zarr
      rw [znew_K1, show zR (znew h 17 n.toNatClampNeg) (zn h) = fun _ => none from zrow_eq]
      rfl
    rw [e4]
    exact e1
theorem z_anewarray18 {n : Int32} {idx : Nat} (pc2 : Nat) (hcl : Cond.classLink (yo Y) idx "SoficShift$NumberRow" ∈ zgw) (hd : decode (yc Y) pc = .ok (.anewarray idx, 3)) (e : pc + 3 = pc2) (k : Zr enc b0 Y d pc2 lv (.ref (b0 + zn h) :: st) (znew h 18 n.toNatClampNeg) r) : Zr enc b0 Y d pc lv (.int n :: st) h (if n < 0 ∨ 67108864 < n.toNatClampNeg then none else r) := by
  subst e
  by_cases gn : n < 0 ∨ 67108864 < n.toNatClampNeg
  · rw [if_pos gn]; exact Zr.none
  rw [if_neg gn]
  have gn1 : ¬ n < 0 := fun q => gn (Or.inl q)
  have gn2 : n.toNatClampNeg ≤ 67108864 := Nat.not_lt.mp fun q => gn (Or.inr q)
  intro x hx
  obtain ⟨h1, h2, K⟩ := k x hx
  have en : zn (znew h 18 n.toNatClampNeg) = zn h + 1 := rfl
  have es : zs (znew h 18 n.toNatClampNeg) = zs h + n.toNatClampNeg := rfl
  rw [en] at h1
  rw [es] at h2
  refine ⟨by omega, by omega, fun D CA p l e R s m args below meth c H locs ls n0 s0 Q hA hn hs hc hsl hl hP hS hret => z_size' hA.2.2.2.2.2.2.1 hn hP (fun hsz => ?_)⟩
  refine W.anew hA.1 hA.2.1 hA.2.2.2.1 (hA.2.2.2.2.1 _ hcl) (va_AO.use hA.2.2.2.2.2.2.2.2.2.2.1.2.2) rfl hd rfl gn1 (by omega) (by omega) (by omega) fun cA kA comp f1 f2 f3 f4 => ?_
  have hcA : cA = CA 18 := by
    obtain ⟨kA', comp', -, -, -, g4⟩ := (hA.2.2.2.2.2.1.2 6 _ rfl).2
    exact Option.some.inj (f1.symm.trans g4)
  subst hcA
  generalize hH1 : H.push ({ cls := CA 18, slots := Array.replicate n.toNatClampNeg .null, vm := .none } : Cell) = H1
  have z1 : H1.size = H.size + 1 := by rw [← hH1, Array.size_push]
  have e1 : H1[H.size]? = some (arrV (CA 18) n.toNatClampNeg (fun _ => .null)) := by rw [← hH1, Array.getElem?_push_size, ← arrV_new]
  have o1 : ∀ q : Nat, q < H.size → H1[q]? = H[q]? := fun q hq => by rw [← hH1, Array.getElem?_push, if_neg (Nat.ne_of_lt hq)]
  rw [hsz] at z1 e1 o1 ⊢
  have := K D CA p l e R s m args below meth c H1 locs ls n0 s0 Q hA (by omega) (by omega) hc hsl hl (zP_new hP o1 ?_) (zS_new hS hsz z1 o1) hret
  · rw [en, es, show zn h + 1 - n0 = zn h - n0 + 1 by omega, show zs h + n.toNatClampNeg - s0 = zs h - s0 + n.toNatClampNeg by omega] at this
    exact this
  · rw [zE_arr (ci := 18) znew_K1 (by decide), znew_N1]
    have e4 : zarr b0 (znew h 18 n.toNatClampNeg) (zn h) = .inr (.inr (.inr (.inr (fun _ => none)))) := by
      unfold zarr
      rw [znew_K1, show zR (znew h 18 n.toNatClampNeg) (zn h) = fun _ => none from zrow_eq]
      rfl
    rw [e4]
    exact e1
end ZNEW
