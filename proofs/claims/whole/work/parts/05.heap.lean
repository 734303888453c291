/-! READS AND WRITES over the abstract heap -/
def gI (h : ZH) (ci a k : Nat) : Option Int32 := if a < zn h ∧ zK h a = ci then some (zI h a k) else none
def gR (h : ZH) (ci a k : Nat) : Option Nat := if a < zn h ∧ zK h a = ci then zR h a k else none
def pI (h : ZH) (ci a k : Nat) (v : Int32) : Option ZH := if a < zn h ∧ zK h a = ci then some (zsI h (zu (zI h) a k v)) else none
def pZ (h : ZH) (ci a k : Nat) (v : Int32) : Option ZH := if (a < zn h ∧ zK h a = ci) ∧ (v = 0 ∨ v = 1) then some (zsI h (zu (zI h) a k v)) else none
def pR (h : ZH) (ci a k q : Nat) : Option ZH := if a < zn h ∧ zK h a = ci then some (zsR h (zu (zR h) a k (some q))) else none
def zin (h : ZH) (kind a : Nat) (i : Int32) : Prop := (a < zn h ∧ zK h a = kind) ∧ ¬ (i < 0 ∨ zN h a ≤ i.toNatClampNeg)
def lI (h : ZH) (kind a : Nat) (i : Int32) : Option Int32 := if (a < zn h ∧ zK h a = kind) ∧ ¬ (i < 0 ∨ zN h a ≤ i.toNatClampNeg) then some (zI h a i.toNatClampNeg) else none
def lJ (h : ZH) (a : Nat) (i : Int32) : Option Int64 := if (a < zn h ∧ zK h a = 15) ∧ ¬ (i < 0 ∨ zN h a ≤ i.toNatClampNeg) then some (zJ h a i.toNatClampNeg) else none
def lF (h : ZH) (a : Nat) (i : Int32) : Option UInt32 := if (a < zn h ∧ zK h a = 13) ∧ ¬ (i < 0 ∨ zN h a ≤ i.toNatClampNeg) then some (zF h a i.toNatClampNeg) else none
def lR (h : ZH) (kind a : Nat) (i : Int32) : Option Nat := if (a < zn h ∧ zK h a = kind) ∧ ¬ (i < 0 ∨ zN h a ≤ i.toNatClampNeg) then zR h a i.toNatClampNeg else none
def zvn (kind : Nat) (v : Int32) : Int32 := if kind = 12 then vp_nar .char v else if kind = 16 then vp_nar .boolean v else v
def sI (h : ZH) (kind a : Nat) (i v : Int32) : Option ZH := if (a < zn h ∧ zK h a = kind) ∧ ¬ (i < 0 ∨ zN h a ≤ i.toNatClampNeg) then some (zsI h (zu (zI h) a i.toNatClampNeg (zvn kind v))) else none
def sJ (h : ZH) (a : Nat) (i : Int32) (v : Int64) : Option ZH := if (a < zn h ∧ zK h a = 15) ∧ ¬ (i < 0 ∨ zN h a ≤ i.toNatClampNeg) then some (zsJ h (zu (zJ h) a i.toNatClampNeg v)) else none
def sF (h : ZH) (a : Nat) (i : Int32) (v : UInt32) : Option ZH := if (a < zn h ∧ zK h a = 13) ∧ ¬ (i < 0 ∨ zN h a ≤ i.toNatClampNeg) then some (zsF h (zu (zF h) a i.toNatClampNeg v)) else none
def zck (kind : Nat) : Nat := if kind = 17 then 1 else 3
def sR (h : ZH) (kind a : Nat) (i : Int32) (q : Nat) : Option ZH := if ((a < zn h ∧ zK h a = kind) ∧ ¬ (i < 0 ∨ zN h a ≤ i.toNatClampNeg)) ∧ (q < zn h ∧ zK h q = zck kind) then some (zsR h (zu (zR h) a i.toNatClampNeg (some q))) else none
def zlen (h : ZH) (a : Nat) : Option Int32 := if a < zn h ∧ 12 ≤ zK h a ∧ zK h a < 19 then some (Int32.ofNat (zN h a)) else none
/-- what is known of a class -/
def zCok (ci : Nat) (C : String) (T : u_T) (N : Nat) (ty : Nat → FieldType) : Prop := vwCl[ci]? = some (C, T, N) ∧ (∀ w ∈ u_ws C T N, w ∈ zgw) ∧ (∀ k, k < N → parseFieldDescriptor (T k).2.2.1 = some (ty k)) ∧ (∀ a, a < N → ∀ b, b < N → a ≠ b → (T a).2.1 ≠ (T b).2.1) ∧ zNF ci = N ∧ ci < 12
theorem zE_congr {b0 : Nat} {CA : Nat → ClassId} {h h' : ZH} {b : Nat} (hK : zK h' b = zK h b) (hN : zN h' b = zN h b) (hI : zI h' b = zI h b) (hJ : zJ h' b = zJ h b) (hF : zF h' b = zF h b) (hR : zR h' b = zR h b) : zE b0 CA h' b = zE b0 CA h b := by
  have e1 : zfv b0 h' b = zfv b0 h b := by funext k; simp only [zfv, hK, hR, hI]
  simp only [zE, zfs, zarr, e1, hK, hN, hI, hJ, hF, hR]
theorem zu_ne {β : Type} {f : Nat → Nat → β} {a j : Nat} {v : β} {b : Nat} (hb : b ≠ a) : zu f a j v b = f b := by funext i; simp [zu, hb]
theorem zu_eq {β : Type} {f : Nat → Nat → β} {a j : Nat} {v : β} : zu f a j v a = fun i => if i = j then v else f a i := by funext i; simp [zu]
theorem zE_obj {b0 : Nat} {CA : Nat → ClassId} {h : ZH} {a ci : Nat} (hk : zK h a = ci) (hc : ci < 12) : zE b0 CA h a = .inr (ci, zfs b0 h a) := by unfold zE; rw [hk, if_pos hc]
theorem zE_arr {b0 : Nat} {CA : Nat → ClassId} {h : ZH} {a ci : Nat} (hk : zK h a = ci) (hc : ¬ ci < 12) : zE b0 CA h a = .inl (CA ci, zN h a, zarr b0 h a) := by unfold zE; rw [hk, if_neg hc]
theorem zfs_get {b0 : Nat} {h : ZH} {a ci k : Nat} (hk : zK h a = ci) (hl : k < zNF ci) : (zfs b0 h a)[k]? = some (zfv b0 h a k) := by
  unfold zfs
  rw [hk, List.getElem?_map, List.getElem?_range hl]
  rfl
theorem zfs_len {b0 : Nat} {h : ZH} {a : Nat} : (zfs b0 h a).length = zNF (zK h a) := by simp [zfs]
theorem zfs_set {b0 : Nat} {h h' : ZH} {a k : Nat} (hK : zK h' a = zK h a) (ho : ∀ j, j ≠ k → zfv b0 h' a j = zfv b0 h a j) : (zfs b0 h a).set k (zfv b0 h' a k) = zfs b0 h' a := by
  apply List.ext_getElem?
  intro i
  rw [List.getElem?_set, zfs_len]
  by_cases hi : i < zNF (zK h a)
  · rw [zfs_get (h := h') rfl (by rw [hK]; exact hi), zfs_get rfl hi]
    by_cases e : k = i
    · subst e; simp [hi]
    · simp [e, ho i (fun q => e q.symm)]
  · have e1 : (zfs b0 h' a)[i]? = none := List.getElem?_eq_none_iff.mpr (by rw [zfs_len, hK]; omega)
    have e2 : (zfs b0 h a)[i]? = none := List.getElem?_eq_none_iff.mpr (by rw [zfs_len]; omega)
    rw [e1, e2]
    by_cases e : k = i
    · subst e; simp [hi]
    · simp [e]
section ZHEAP
variable {α : Type} {enc : α → Option Value × ZH} {b0 : Nat} {Y : zY} {d pc : Nat} {lv lv2 : List (Nat × Value)} {st : List Value} {h : ZH} {r : Option α}
theorem z_getI {ci a k idx N : Nat} {C : String} {T : u_T} {ty : Nat → FieldType} {f : Int32 → Option α} (pc2 : Nat) (ck : zCok ci C T N ty) (hk : k < N) (ht : zTR ci k = false) (hw : Cond.fieldLink (yo Y) idx (T k).1 (T k).2.1 (T k).2.2.1 ∈ zgw) (hd : decode (yc Y) pc = .ok (.getfield idx, 3)) (e : pc + 3 = pc2)
    (kk : ∀ v, gI h ci a k = some v → Zr enc b0 Y d pc2 lv (.int v :: st) h (f v)) : Zr enc b0 Y d pc lv (.ref (b0 + a) :: st) h ((gI h ci a k).bind f) := by
  subst e
  by_cases g : a < zn h ∧ zK h a = ci
  · have e1 : gI h ci a k = some (zI h a k) := if_pos g
    have := kk _ e1
    rw [e1]
    refine this.step (fun D CA p l e R s m args below meth c H locs ls n0 cells slots Q hA hc hs hl hP hS kk => ?_)
    refine va_get hA.1 hA.2.1 hA.2.2.2.2.1 ck.2.1 hA.2.2.2.1 hA.2.2.2.2.2.1 hP a (by rw [zW_get g.1, zE_obj g.2 ck.2.2.2.2.2]) ck.1 k hk (hA.2.2.2.2.1 _ hw) (fun _ h => h) (v := .int (zI h a k)) ?_ hd (kk _ hl)
    rw [zfs_get g.2 (by rw [ck.2.2.2.2.1]; exact hk)]
    simp [zfv, g.2, ht]
  · have e1 : gI h ci a k = none := if_neg g
    rw [e1]; exact Zr.none
theorem z_getR {ci a k idx N : Nat} {C : String} {T : u_T} {ty : Nat → FieldType} {f : Nat → Option α} (pc2 : Nat) (ck : zCok ci C T N ty) (hk : k < N) (ht : zTR ci k = true) (hw : Cond.fieldLink (yo Y) idx (T k).1 (T k).2.1 (T k).2.2.1 ∈ zgw) (hd : decode (yc Y) pc = .ok (.getfield idx, 3)) (e : pc + 3 = pc2)
    (kk : ∀ v, gR h ci a k = some v → Zr enc b0 Y d pc2 lv (.ref (b0 + v) :: st) h (f v)) : Zr enc b0 Y d pc lv (.ref (b0 + a) :: st) h ((gR h ci a k).bind f) := by
  subst e
  cases hg : gR h ci a k with
  | none => exact Zr.none
  | some v =>
    have := kk _ hg
    by_cases g : a < zn h ∧ zK h a = ci
    · have e1 : zR h a k = some v := by
        have : gR h ci a k = zR h a k := if_pos g
        rw [← this]; exact hg
      refine this.step (fun D CA p l e R s m args below meth c H locs ls n0 cells slots Q hA hc hs hl hP hS kk => ?_)
      refine va_get hA.1 hA.2.1 hA.2.2.2.2.1 ck.2.1 hA.2.2.2.1 hA.2.2.2.2.2.1 hP a (by rw [zW_get g.1, zE_obj g.2 ck.2.2.2.2.2]) ck.1 k hk (hA.2.2.2.2.1 _ hw) (fun _ h => h) (v := .ref (b0 + v)) ?_ hd (kk _ hl)
      rw [zfs_get g.2 (by rw [ck.2.2.2.2.1]; exact hk)]
      simp [zfv, g.2, ht, e1, va_rf]
    · have e1 : gR h ci a k = none := if_neg g
      rw [e1] at hg; cases hg
/-- a field's new value -/
theorem zP_put {CA : Nat → ClassId} {D : va_G} {H : Heap} {h' : ZH} {a ci k : Nat} {v : Value} (g : zK h a = ci) (hc : ci < 12) (hn : zn h' = zn h) (hK : zK h' = zK h) (hN : zN h' = zN h) (hI : ∀ b, b ≠ a → zI h' b = zI h b) (hJ : zJ h' = zJ h) (hF : zF h' = zF h) (hR : ∀ b, b ≠ a → zR h' b = zR h b) (hv : zfv b0 h' a k = v) (ho : ∀ j, j ≠ k → zfv b0 h' a j = zfv b0 h a j)
    (hP : va_P D vwCl ((zW b0 CA h).set a (b0 + a, .inr (ci, (zfs b0 h a).set k v))) H) : zP b0 D CA h' H := by
  unfold zP
  rw [← zW_set (h := h) (a := a) hn (fun b hb => zE_congr (by rw [hK]) (by rw [hN]) (hI b hb) (by rw [hJ]) (by rw [hF]) (hR b hb))]
  rw [zE_obj (h := h') (a := a) (ci := ci) (by rw [hK]; exact g) hc, ← zfs_set (h := h) (h' := h') (by rw [hK]) ho, hv]
  exact hP
theorem z_putI {ci a k idx N : Nat} {C : String} {T : u_T} {ty : Nat → FieldType} {x : Int32} {f : ZH → Option α} (pc2 : Nat) (ck : zCok ci C T N ty) (hk : k < N) (ht : zTR ci k = false) (hfin : (T k).2.2.2 = false) (hty : ty k = .int) (hw : Cond.fieldLink (yo Y) idx (T k).1 (T k).2.1 (T k).2.2.1 ∈ zgw) (hd : decode (yc Y) pc = .ok (.putfield idx, 3)) (e : pc + 3 = pc2)
    (kk : ∀ h', pI h ci a k x = some h' → Zr enc b0 Y d pc2 lv st h' (f h')) : Zr enc b0 Y d pc lv (.int x :: .ref (b0 + a) :: st) h ((pI h ci a k x).bind f) := by
  subst e
  by_cases g : a < zn h ∧ zK h a = ci
  · have e1 : pI h ci a k x = some (zsI h (zu (zI h) a k x)) := if_pos g
    have := kk _ e1
    rw [e1]
    refine Zr.stepH this rfl rfl (fun D CA p l e R s m args below meth c H locs ls n0 cells slots Q hA hl hP hS kk => ?_)
    refine va_put hA.1 hA.2.1 hA.2.2.2.2.1 ck.2.1 ty ck.2.2.1 ck.2.2.2.1 hA.2.2.2.1 hA.2.2.2.2.2.1 hP zD hS a (by rw [zW_get g.1, zE_obj g.2 ck.2.2.2.2.2]) ck.1 k hk (hA.2.2.2.2.1 _ hw) (fun _ h => h) hfin (ty := .int) (by rw [ck.2.2.1 k hk, hty]) rfl rfl (by rw [zfs_len, g.2, ck.2.2.2.2.1]; exact hk) hd (fun H1 locs1 hP1 _ hS1 => kk H1 locs1 (zP_put (h' := zsI h (zu (zI h) a k x)) g.2 ck.2.2.2.2.2 rfl rfl rfl (fun b hb => zu_ne hb) rfl rfl (fun _ _ => rfl) ?_ ?_ hP1) hS1)
    · show (if zTR (zK h a) k = true then va_rf ((zR h a k).map (fun q => b0 + q)) else Value.int (zu (zI h) a k x a k)) = _
      rw [g.2, ht]
      simp [zu]
    · intro j hj
      show (if zTR (zK h a) j = true then _ else Value.int (zu (zI h) a k x a j)) = (if zTR (zK h a) j = true then _ else Value.int (zI h a j))
      rw [show zu (zI h) a k x a j = zI h a j by simp [zu, hj]]
      rfl
  · have e1 : pI h ci a k x = none := if_neg g
    rw [e1]; exact Zr.none
theorem z_putZ {ci a k idx N : Nat} {C : String} {T : u_T} {ty : Nat → FieldType} {x : Int32} {f : ZH → Option α} (pc2 : Nat) (ck : zCok ci C T N ty) (hk : k < N) (ht : zTR ci k = false) (hfin : (T k).2.2.2 = false) (hty : ty k = .boolean) (hw : Cond.fieldLink (yo Y) idx (T k).1 (T k).2.1 (T k).2.2.1 ∈ zgw) (hd : decode (yc Y) pc = .ok (.putfield idx, 3)) (e : pc + 3 = pc2)
    (kk : ∀ h', pZ h ci a k x = some h' → Zr enc b0 Y d pc2 lv st h' (f h')) : Zr enc b0 Y d pc lv (.int x :: .ref (b0 + a) :: st) h ((pZ h ci a k x).bind f) := by
  subst e
  by_cases g0 : (a < zn h ∧ zK h a = ci) ∧ (x = 0 ∨ x = 1)
  · have e1 : pZ h ci a k x = some (zsI h (zu (zI h) a k x)) := if_pos g0
    have := kk _ e1
    obtain ⟨g, gx⟩ := g0
    rw [e1]
    refine Zr.stepH this rfl rfl (fun D CA p l e R s m args below meth c H locs ls n0 cells slots Q hA hl hP hS kk => ?_)
    refine va_put hA.1 hA.2.1 hA.2.2.2.2.1 ck.2.1 ty ck.2.2.1 ck.2.2.2.1 hA.2.2.2.1 hA.2.2.2.2.2.1 hP zD hS a (by rw [zW_get g.1, zE_obj g.2 ck.2.2.2.2.2]) ck.1 k hk (hA.2.2.2.2.1 _ hw) (fun _ h => h) hfin (ty := .boolean) (by rw [ck.2.2.1 k hk, hty]) (by rcases gx with rfl | rfl <;> rfl) (by rcases gx with rfl | rfl <;> rfl) (by rw [zfs_len, g.2, ck.2.2.2.2.1]; exact hk) hd (fun H1 locs1 hP1 _ hS1 => kk H1 locs1 (zP_put (h' := zsI h (zu (zI h) a k x)) g.2 ck.2.2.2.2.2 rfl rfl rfl (fun b hb => zu_ne hb) rfl rfl (fun _ _ => rfl) ?_ ?_ hP1) hS1)
    · show (if zTR (zK h a) k = true then va_rf ((zR h a k).map (fun q => b0 + q)) else Value.int (zu (zI h) a k x a k)) = _
      rw [g.2, ht]
      simp [zu]
    · intro j hj
      show (if zTR (zK h a) j = true then _ else Value.int (zu (zI h) a k x a j)) = (if zTR (zK h a) j = true then _ else Value.int (zI h a j))
      rw [show zu (zI h) a k x a j = zI h a j by simp [zu, hj]]
      rfl
  · have e1 : pZ h ci a k x = none := if_neg g0
    rw [e1]; exact Zr.none
theorem zfv_R {a k q ci : Nat} (g : zK h a = ci) (ht : zTR ci k = true) : zfv b0 (zsR h (zu (zR h) a k (some q))) a k = .ref (b0 + q) ∧ ∀ j, j ≠ k → zfv b0 (zsR h (zu (zR h) a k (some q))) a j = zfv b0 h a j := by
  refine ⟨?_, fun j hj => ?_⟩
  · show (if zTR (zK h a) k = true then va_rf ((zu (zR h) a k (some q) a k).map (fun q => b0 + q)) else Value.int (zI h a k)) = _
    rw [g, ht]
    simp [zu, va_rf]
  · show (if zTR (zK h a) j = true then va_rf ((zu (zR h) a k (some q) a j).map (fun q => b0 + q)) else Value.int (zI h a j)) = (if zTR (zK h a) j = true then _ else Value.int (zI h a j))
    rw [show zu (zR h) a k (some q) a j = zR h a j by simp [zu, hj]]
theorem z_putR {ci a k idx N q : Nat} {C : String} {T : u_T} {ty : Nat → FieldType} {f : ZH → Option α} (pc2 : Nat) (ck : zCok ci C T N ty) (hk : k < N) (ht : zTR ci k = true) (hfin : (T k).2.2.2 = false) {E : FieldType} (hty : ty k = .array E) (hw : Cond.fieldLink (yo Y) idx (T k).1 (T k).2.1 (T k).2.2.1 ∈ zgw) (hd : decode (yc Y) pc = .ok (.putfield idx, 3)) (e : pc + 3 = pc2)
    (kk : ∀ h', pR h ci a k q = some h' → Zr enc b0 Y d pc2 lv st h' (f h')) : Zr enc b0 Y d pc lv (.ref (b0 + q) :: .ref (b0 + a) :: st) h ((pR h ci a k q).bind f) := by
  subst e
  by_cases g : a < zn h ∧ zK h a = ci
  · have e1 : pR h ci a k q = some (zsR h (zu (zR h) a k (some q))) := if_pos g
    have := kk _ e1
    rw [e1]
    refine Zr.stepH this rfl rfl (fun D CA p l e R s m args below meth c H locs ls n0 cells slots Q hA hl hP hS kk => ?_)
    exact va_put hA.1 hA.2.1 hA.2.2.2.2.1 ck.2.1 ty ck.2.2.1 ck.2.2.2.1 hA.2.2.2.1 hA.2.2.2.2.2.1 hP zD hS a (by rw [zW_get g.1, zE_obj g.2 ck.2.2.2.2.2]) ck.1 k hk (hA.2.2.2.2.1 _ hw) (fun _ h => h) hfin (ty := .array E) (by rw [ck.2.2.1 k hk, hty]) rfl rfl (by rw [zfs_len, g.2, ck.2.2.2.2.1]; exact hk) hd (fun H1 locs1 hP1 _ hS1 => kk H1 locs1 (zP_put (h' := zsR h (zu (zR h) a k (some q))) g.2 ck.2.2.2.2.2 rfl rfl rfl (fun _ _ => rfl) rfl rfl (fun b hb => zu_ne hb) (zfv_R g.2 ht).1 (zfv_R g.2 ht).2 hP1) hS1)
  · have e1 : pR h ci a k q = none := if_neg g
    rw [e1]; exact Zr.none
/-- a final field, in a constructor -/
theorem z_putF {ci a k idx N q : Nat} {C : String} {T : u_T} {ty : Nat → FieldType} {f : ZH → Option α} (pc2 : Nat) (ck : zCok ci C T N ty) (hk : k < N) (ht : zTR ci k = true) (hfin : (T k).2.2.2 = true) (hin : (yn Y).name = "<init>") (hdecl : (T k).1 = yo Y) {E : FieldType} (hty : ty k = E) (hE : (∃ x, E = .array x) ∨ ∃ x, E = .object x) (hw : Cond.fieldLink (yo Y) idx (T k).1 (T k).2.1 (T k).2.2.1 ∈ zgw) (hd : decode (yc Y) pc = .ok (.putfield idx, 3)) (e : pc + 3 = pc2)
    (kk : ∀ h', pR h ci a k q = some h' → Zr enc b0 Y d pc2 lv st h' (f h')) : Zr enc b0 Y d pc lv (.ref (b0 + q) :: .ref (b0 + a) :: st) h ((pR h ci a k q).bind f) := by
  subst e
  by_cases g : a < zn h ∧ zK h a = ci
  · have e1 : pR h ci a k q = some (zsR h (zu (zR h) a k (some q))) := if_pos g
    have := kk _ e1
    rw [e1]
    refine Zr.stepH this rfl rfl (fun D CA p l e R s m args below meth c H locs ls n0 cells slots Q hA hl hP hS kk => ?_)
    exact va_putF hA.1 hA.2.1 hA.2.2.2.2.1 ck.2.1 ty ck.2.2.1 ck.2.2.2.1 hA.2.2.2.1 hA.2.2.2.2.2.1 hP zD hS a (by rw [zW_get g.1, zE_obj g.2 ck.2.2.2.2.2]) ck.1 k hk (hA.2.2.2.2.1 _ hw) (fun _ h => h) hfin (hA.2.2.2.2.2.2.2.2.2.1.trans hin) hdecl (ty := E) (by rw [ck.2.2.1 k hk, hty]) (by rcases hE with ⟨x, rfl⟩ | ⟨x, rfl⟩ <;> rfl) (by rcases hE with ⟨x, rfl⟩ | ⟨x, rfl⟩ <;> rfl) (by rw [zfs_len, g.2, ck.2.2.2.2.1]; exact hk) hd (fun H1 locs1 hP1 _ hS1 => kk H1 locs1 (zP_put (h' := zsR h (zu (zR h) a k (some q))) g.2 ck.2.2.2.2.2 rfl rfl rfl (fun _ _ => rfl) rfl rfl (fun b hb => zu_ne hb) (zfv_R g.2 ht).1 (zfv_R g.2 ht).2 hP1) hS1)
  · have e1 : pR h ci a k q = none := if_neg g
    rw [e1]; exact Zr.none
end ZHEAP
