/-! ARRAYS, NEW CELLS, THE LIBRARY'S ROWS over the abstract heap -/
theorem zupd {f : Nat → Nat → Int32} {a j : Nat} {v : Int32} : upd (f a) j v = zu f a j v a := by funext i; simp [upd, zu]
theorem zupdL {f : Nat → Nat → Int64} {a j : Nat} {v : Int64} : vp_updL (f a) j v = zu f a j v a := by funext i; simp [vp_updL, zu]
theorem zupdF {f : Nat → Nat → UInt32} {a j : Nat} {v : UInt32} : vf_upd (f a) j v = zu f a j v a := by funext i; simp [vf_upd, zu]
section ZARR
variable {α : Type} {enc : α → Option Value × ZH} {b0 : Nat} {Y : zY} {d pc : Nat} {lv lv2 : List (Nat × Value)} {st : List Value} {h : ZH} {r : Option α} {CA : Nat → ClassId}
theorem zWI {a kind : Nat} (g : a < zn h ∧ zK h a = kind) (hk : kind = 12 ∨ kind = 14 ∨ kind = 16) : (zW b0 CA h)[a]? = some (b0 + a, .inl (CA kind, zN h a, .inl (zI h a))) := by
  rw [zW_get g.1, zE_arr g.2 (by omega)]
  rcases hk with rfl | rfl | rfl <;> simp [zarr, g.2]
theorem zWJ {a : Nat} (g : a < zn h ∧ zK h a = 15) : (zW b0 CA h)[a]? = some (b0 + a, .inl (CA 15, zN h a, .inr (.inl (zJ h a)))) := by
  rw [zW_get g.1, zE_arr g.2 (by omega)]
  simp [zarr, g.2]
theorem zWF {a : Nat} (g : a < zn h ∧ zK h a = 13) : (zW b0 CA h)[a]? = some (b0 + a, .inl (CA 13, zN h a, .inr (.inr (.inl (zF h a))))) := by
  rw [zW_get g.1, zE_arr g.2 (by omega)]
  simp [zarr, g.2]
theorem zWR {a kind : Nat} (g : a < zn h ∧ zK h a = kind) (hk : 17 ≤ kind) : (zW b0 CA h)[a]? = some (b0 + a, .inl (CA kind, zN h a, .inr (.inr (.inr (.inr (fun j => (zR h a j).map (fun q => b0 + q))))))) := by
  rw [zW_get g.1, zE_arr g.2 (by omega)]
  have e1 : ¬ kind = 13 := by omega
  have e2 : ¬ kind = 15 := by omega
  simp [zarr, g.2, e1, e2, hk]
theorem zWI_set {a kind : Nat} {f : Nat → Nat → Int32} (g : a < zn h ∧ zK h a = kind) (hk : kind = 12 ∨ kind = 14 ∨ kind = 16) (ho : ∀ b, b ≠ a → f b = zI h b) : (zW b0 CA h).set a (b0 + a, .inl (CA kind, zN h a, .inl (f a))) = zW b0 CA (zsI h f) := by
  rw [← zW_set (h := h) (h' := zsI h f) (a := a) rfl (fun b hb => zE_congr rfl rfl (ho b hb) rfl rfl rfl)]
  rw [zE_arr (h := zsI h f) (ci := kind) g.2 (by omega)]
  congr 3
  have : zK (zsI h f) a = kind := g.2
  rcases hk with rfl | rfl | rfl <;> (simp only [zarr, this]; rfl)
theorem zWJ_set {a : Nat} {f : Nat → Nat → Int64} (g : a < zn h ∧ zK h a = 15) (ho : ∀ b, b ≠ a → f b = zJ h b) : (zW b0 CA h).set a (b0 + a, .inl (CA 15, zN h a, .inr (.inl (f a)))) = zW b0 CA (zsJ h f) := by
  rw [← zW_set (h := h) (h' := zsJ h f) (a := a) rfl (fun b hb => zE_congr rfl rfl rfl (ho b hb) rfl rfl)]
  rw [zE_arr (h := zsJ h f) (ci := 15) g.2 (by omega)]
  congr 3
  have : zK (zsJ h f) a = 15 := g.2
  simp only [zarr, this]; rfl
theorem zWF_set {a : Nat} {f : Nat → Nat → UInt32} (g : a < zn h ∧ zK h a = 13) (ho : ∀ b, b ≠ a → f b = zF h b) : (zW b0 CA h).set a (b0 + a, .inl (CA 13, zN h a, .inr (.inr (.inl (f a))))) = zW b0 CA (zsF h f) := by
  rw [← zW_set (h := h) (h' := zsF h f) (a := a) rfl (fun b hb => zE_congr rfl rfl rfl rfl (ho b hb) rfl)]
  rw [zE_arr (h := zsF h f) (ci := 13) g.2 (by omega)]
  congr 3
  have : zK (zsF h f) a = 13 := g.2
  simp only [zarr, this]; rfl
theorem zWR_set {a kind : Nat} {f : Nat → Nat → Option Nat} (g : a < zn h ∧ zK h a = kind) (hk : 17 ≤ kind) (ho : ∀ b, b ≠ a → f b = zR h b) : (zW b0 CA h).set a (b0 + a, .inl (CA kind, zN h a, .inr (.inr (.inr (.inr (fun j => (f a j).map (fun q => b0 + q))))))) = zW b0 CA (zsR h f) := by
  rw [← zW_set (h := h) (h' := zsR h f) (a := a) rfl (fun b hb => zE_congr rfl rfl rfl rfl rfl (ho b hb))]
  rw [zE_arr (h := zsR h f) (ci := kind) g.2 (by omega)]
  congr 3
  have : zK (zsR h f) a = kind := g.2
  have e1 : ¬ kind = 13 := by omega
  have e2 : ¬ kind = 15 := by omega
  simp only [zarr, this, if_neg e1, if_neg e2, if_pos hk]; rfl
theorem z_iaload {a : Nat} {i : Int32} {f : Int32 → Option α} (pc2 : Nat) (hd : decode (yc Y) pc = .ok (.iaload, 1)) (e : pc + 1 = pc2) (kk : ∀ v, lI h 14 a i = some v → Zr enc b0 Y d pc2 lv (.int v :: st) h (f v)) : Zr enc b0 Y d pc lv (.int i :: .ref (b0 + a) :: st) h ((lI h 14 a i).bind f) := by
  subst e
  by_cases g : (a < zn h ∧ zK h a = 14) ∧ ¬ (i < 0 ∨ zN h a ≤ i.toNatClampNeg)
  · have e1 : lI h 14 a i = some (zI h a i.toNatClampNeg) := if_pos g
    have := kk _ e1
    rw [e1]
    exact this.step (fun D CA p l e R s m args below meth c H locs ls n0 cells slots Q hA hc hs hl hP hS kk => va_iald hA.1 hA.2.1 hA.2.2.2.2.2.1 hP a 2 (zWI g.1 (by omega)) rfl g.2 hd (kk _ hl))
  · have e1 : lI h 14 a i = none := if_neg g
    rw [e1]; exact Zr.none
theorem z_caload {a : Nat} {i : Int32} {f : Int32 → Option α} (pc2 : Nat) (hd : decode (yc Y) pc = .ok (.caload, 1)) (e : pc + 1 = pc2) (kk : ∀ v, lI h 12 a i = some v → Zr enc b0 Y d pc2 lv (.int v :: st) h (f v)) : Zr enc b0 Y d pc lv (.int i :: .ref (b0 + a) :: st) h ((lI h 12 a i).bind f) := by
  subst e
  by_cases g : (a < zn h ∧ zK h a = 12) ∧ ¬ (i < 0 ∨ zN h a ≤ i.toNatClampNeg)
  · have e1 : lI h 12 a i = some (zI h a i.toNatClampNeg) := if_pos g
    have := kk _ e1
    rw [e1]
    exact this.step (fun D CA p l e R s m args below meth c H locs ls n0 cells slots Q hA hc hs hl hP hS kk => va_cald hA.1 hA.2.1 hA.2.2.2.2.2.1 hP a 0 (zWI g.1 (by omega)) rfl g.2 hd (kk _ hl))
  · have e1 : lI h 12 a i = none := if_neg g
    rw [e1]; exact Zr.none
theorem z_zaload {a : Nat} {i : Int32} {f : Int32 → Option α} (pc2 : Nat) (hd : decode (yc Y) pc = .ok (.baload, 1)) (e : pc + 1 = pc2) (kk : ∀ v, lI h 16 a i = some v → Zr enc b0 Y d pc2 lv (.int v :: st) h (f v)) : Zr enc b0 Y d pc lv (.int i :: .ref (b0 + a) :: st) h ((lI h 16 a i).bind f) := by
  subst e
  by_cases g : (a < zn h ∧ zK h a = 16) ∧ ¬ (i < 0 ∨ zN h a ≤ i.toNatClampNeg)
  · have e1 : lI h 16 a i = some (zI h a i.toNatClampNeg) := if_pos g
    have := kk _ e1
    rw [e1]
    exact this.step (fun D CA p l e R s m args below meth c H locs ls n0 cells slots Q hA hc hs hl hP hS kk => va_zald hA.1 hA.2.1 hA.2.2.2.2.2.1 hP a 4 (zWI g.1 (by omega)) rfl g.2 hd (kk _ hl))
  · have e1 : lI h 16 a i = none := if_neg g
    rw [e1]; exact Zr.none
theorem z_laload {a : Nat} {i : Int32} {f : Int64 → Option α} (pc2 : Nat) (hd : decode (yc Y) pc = .ok (.laload, 1)) (e : pc + 1 = pc2) (kk : ∀ v, lJ h a i = some v → Zr enc b0 Y d pc2 lv (.long v :: st) h (f v)) : Zr enc b0 Y d pc lv (.int i :: .ref (b0 + a) :: st) h ((lJ h a i).bind f) := by
  subst e
  by_cases g : (a < zn h ∧ zK h a = 15) ∧ ¬ (i < 0 ∨ zN h a ≤ i.toNatClampNeg)
  · have e1 : lJ h a i = some (zJ h a i.toNatClampNeg) := if_pos g
    have := kk _ e1
    rw [e1]
    exact this.step (fun D CA p l e R s m args below meth c H locs ls n0 cells slots Q hA hc hs hl hP hS kk => va_lald hA.1 hA.2.1 hA.2.2.2.2.2.1 hP a 3 (zWJ g.1) rfl g.2 hd (kk _ hl))
  · have e1 : lJ h a i = none := if_neg g
    rw [e1]; exact Zr.none
theorem z_faload {a : Nat} {i : Int32} {f : UInt32 → Option α} (pc2 : Nat) (hd : decode (yc Y) pc = .ok (.faload, 1)) (e : pc + 1 = pc2) (kk : ∀ v, lF h a i = some v → Zr enc b0 Y d pc2 lv (.float v :: st) h (f v)) : Zr enc b0 Y d pc lv (.int i :: .ref (b0 + a) :: st) h ((lF h a i).bind f) := by
  subst e
  by_cases g : (a < zn h ∧ zK h a = 13) ∧ ¬ (i < 0 ∨ zN h a ≤ i.toNatClampNeg)
  · have e1 : lF h a i = some (zF h a i.toNatClampNeg) := if_pos g
    have := kk _ e1
    rw [e1]
    exact this.step (fun D CA p l e R s m args below meth c H locs ls n0 cells slots Q hA hc hs hl hP hS kk => va_fald hA.1 hA.2.1 hA.2.2.2.2.2.1 hP a 1 (zWF g.1) rfl g.2 hd (kk _ hl))
  · have e1 : lF h a i = none := if_neg g
    rw [e1]; exact Zr.none
theorem z_aaload17 {a : Nat} {i : Int32} {f : Nat → Option α} (pc2 : Nat) (hd : decode (yc Y) pc = .ok (.aaload, 1)) (e : pc + 1 = pc2) (kk : ∀ v, lR h 17 a i = some v → Zr enc b0 Y d pc2 lv (.ref (b0 + v) :: st) h (f v)) : Zr enc b0 Y d pc lv (.int i :: .ref (b0 + a) :: st) h ((lR h 17 a i).bind f) := by
  subst e
  cases hv : lR h 17 a i with
  | none => exact Zr.none
  | some v =>
    by_cases g : (a < zn h ∧ zK h a = 17) ∧ ¬ (i < 0 ∨ zN h a ≤ i.toNatClampNeg)
    · have e1 : zR h a i.toNatClampNeg = some v := by
        have : lR h 17 a i = zR h a i.toNatClampNeg := if_pos g
        rw [← this]; exact hv
      refine (kk _ hv).step (fun D CA p l e R s m args below meth c H locs ls n0 cells slots Q hA hc hs hl hP hS kk => va_aldq hA.1 hA.2.1 hA.2.2.2.2.2.1 hP a 5 (zWR g.1 (by omega)) rfl g.2 hd ?_)
      rw [e1]
      exact kk _ hl
    · have e1 : lR h 17 a i = none := if_neg g
      rw [e1] at hv; cases hv
theorem z_aaload18 {a : Nat} {i : Int32} {f : Nat → Option α} (pc2 : Nat) (hd : decode (yc Y) pc = .ok (.aaload, 1)) (e : pc + 1 = pc2) (kk : ∀ v, lR h 18 a i = some v → Zr enc b0 Y d pc2 lv (.ref (b0 + v) :: st) h (f v)) : Zr enc b0 Y d pc lv (.int i :: .ref (b0 + a) :: st) h ((lR h 18 a i).bind f) := by
  subst e
  cases hv : lR h 18 a i with
  | none => exact Zr.none
  | some v =>
    by_cases g : (a < zn h ∧ zK h a = 18) ∧ ¬ (i < 0 ∨ zN h a ≤ i.toNatClampNeg)
    · have e1 : zR h a i.toNatClampNeg = some v := by
        have : lR h 18 a i = zR h a i.toNatClampNeg := if_pos g
        rw [← this]; exact hv
      refine (kk _ hv).step (fun D CA p l e R s m args below meth c H locs ls n0 cells slots Q hA hc hs hl hP hS kk => va_aldq hA.1 hA.2.1 hA.2.2.2.2.2.1 hP a 6 (zWR g.1 (by omega)) rfl g.2 hd ?_)
      rw [e1]
      exact kk _ hl
    · have e1 : lR h 18 a i = none := if_neg g
      rw [e1] at hv; cases hv
theorem z_iastore {a : Nat} {i x : Int32} {f : ZH → Option α} (pc2 : Nat) (hd : decode (yc Y) pc = .ok (.iastore, 1)) (e : pc + 1 = pc2) (kk : ∀ h', sI h 14 a i x = some h' → Zr enc b0 Y d pc2 lv st h' (f h')) : Zr enc b0 Y d pc lv (.int x :: .int i :: .ref (b0 + a) :: st) h ((sI h 14 a i x).bind f) := by
  subst e
  by_cases g : (a < zn h ∧ zK h a = 14) ∧ ¬ (i < 0 ∨ zN h a ≤ i.toNatClampNeg)
  · have e1 : sI h 14 a i x = some (zsI h (zu (zI h) a i.toNatClampNeg (zvn 14 x))) := if_pos g
    have := kk _ e1
    rw [e1]
    refine Zr.stepH this rfl rfl (fun D CA p l e R s m args below meth c H locs ls n0 cells slots Q hA hl hP hS kk => va_iast hA.1 hA.2.1 hA.2.2.2.2.2.1 hP zD hS a 2 (zWI g.1 (by omega)) rfl g.2 hd (fun H1 locs1 hP1 _ hS1 => kk H1 locs1 ?_ hS1))
    unfold zP
    rw [← zWI_set (h := h) (kind := 14) g.1 (by omega) (fun b hb => zu_ne hb), ← zupd]
    exact hP1
  · have e1 : sI h 14 a i x = none := if_neg g
    rw [e1]; exact Zr.none
theorem z_castore {a : Nat} {i x : Int32} {f : ZH → Option α} (pc2 : Nat) (hd : decode (yc Y) pc = .ok (.castore, 1)) (e : pc + 1 = pc2) (kk : ∀ h', sI h 12 a i x = some h' → Zr enc b0 Y d pc2 lv st h' (f h')) : Zr enc b0 Y d pc lv (.int x :: .int i :: .ref (b0 + a) :: st) h ((sI h 12 a i x).bind f) := by
  subst e
  by_cases g : (a < zn h ∧ zK h a = 12) ∧ ¬ (i < 0 ∨ zN h a ≤ i.toNatClampNeg)
  · have e1 : sI h 12 a i x = some (zsI h (zu (zI h) a i.toNatClampNeg (zvn 12 x))) := if_pos g
    have := kk _ e1
    rw [e1]
    refine Zr.stepH this rfl rfl (fun D CA p l e R s m args below meth c H locs ls n0 cells slots Q hA hl hP hS kk => va_cast hA.1 hA.2.1 hA.2.2.2.2.2.1 hP zD hS a 0 (zWI g.1 (by omega)) rfl g.2 hd (fun H1 locs1 hP1 _ hS1 => kk H1 locs1 ?_ hS1))
    unfold zP
    rw [← zWI_set (h := h) (kind := 12) g.1 (by omega) (fun b hb => zu_ne hb), ← zupd]
    exact hP1
  · have e1 : sI h 12 a i x = none := if_neg g
    rw [e1]; exact Zr.none
theorem z_zastore {a : Nat} {i x : Int32} {f : ZH → Option α} (pc2 : Nat) (hd : decode (yc Y) pc = .ok (.bastore, 1)) (e : pc + 1 = pc2) (kk : ∀ h', sI h 16 a i x = some h' → Zr enc b0 Y d pc2 lv st h' (f h')) : Zr enc b0 Y d pc lv (.int x :: .int i :: .ref (b0 + a) :: st) h ((sI h 16 a i x).bind f) := by
  subst e
  by_cases g : (a < zn h ∧ zK h a = 16) ∧ ¬ (i < 0 ∨ zN h a ≤ i.toNatClampNeg)
  · have e1 : sI h 16 a i x = some (zsI h (zu (zI h) a i.toNatClampNeg (zvn 16 x))) := if_pos g
    have := kk _ e1
    rw [e1]
    refine Zr.stepH this rfl rfl (fun D CA p l e R s m args below meth c H locs ls n0 cells slots Q hA hl hP hS kk => va_zast hA.1 hA.2.1 hA.2.2.2.2.2.1 hP zD hS a 4 (zWI g.1 (by omega)) rfl g.2 hd (fun H1 locs1 hP1 _ hS1 => kk H1 locs1 ?_ hS1))
    unfold zP
    rw [← zWI_set (h := h) (kind := 16) g.1 (by omega) (fun b hb => zu_ne hb), ← zupd]
    exact hP1
  · have e1 : sI h 16 a i x = none := if_neg g
    rw [e1]; exact Zr.none
theorem z_lastore {a : Nat} {i : Int32} {x : Int64} {f : ZH → Option α} (pc2 : Nat) (hd : decode (yc Y) pc = .ok (.lastore, 1)) (e : pc + 1 = pc2) (kk : ∀ h', sJ h a i x = some h' → Zr enc b0 Y d pc2 lv st h' (f h')) : Zr enc b0 Y d pc lv (.long x :: .int i :: .ref (b0 + a) :: st) h ((sJ h a i x).bind f) := by
  subst e
  by_cases g : (a < zn h ∧ zK h a = 15) ∧ ¬ (i < 0 ∨ zN h a ≤ i.toNatClampNeg)
  · have e1 : sJ h a i x = some (zsJ h (zu (zJ h) a i.toNatClampNeg x)) := if_pos g
    have := kk _ e1
    rw [e1]
    refine Zr.stepH this rfl rfl (fun D CA p l e R s m args below meth c H locs ls n0 cells slots Q hA hl hP hS kk => va_last hA.1 hA.2.1 hA.2.2.2.2.2.1 hP zD hS a 3 (zWJ g.1) rfl g.2 hd (fun H1 locs1 hP1 _ hS1 => kk H1 locs1 ?_ hS1))
    unfold zP
    rw [← zWJ_set (h := h) g.1 (fun b hb => zu_ne hb), ← zupdL]
    exact hP1
  · have e1 : sJ h a i x = none := if_neg g
    rw [e1]; exact Zr.none
theorem z_fastore {a : Nat} {i : Int32} {x : UInt32} {f : ZH → Option α} (pc2 : Nat) (hd : decode (yc Y) pc = .ok (.fastore, 1)) (e : pc + 1 = pc2) (kk : ∀ h', sF h a i x = some h' → Zr enc b0 Y d pc2 lv st h' (f h')) : Zr enc b0 Y d pc lv (.float x :: .int i :: .ref (b0 + a) :: st) h ((sF h a i x).bind f) := by
  subst e
  by_cases g : (a < zn h ∧ zK h a = 13) ∧ ¬ (i < 0 ∨ zN h a ≤ i.toNatClampNeg)
  · have e1 : sF h a i x = some (zsF h (zu (zF h) a i.toNatClampNeg x)) := if_pos g
    have := kk _ e1
    rw [e1]
    refine Zr.stepH this rfl rfl (fun D CA p l e R s m args below meth c H locs ls n0 cells slots Q hA hl hP hS kk => va_fast hA.1 hA.2.1 hA.2.2.2.2.2.1 hP zD hS a 1 (zWF g.1) rfl g.2 hd (fun H1 locs1 hP1 _ hS1 => kk H1 locs1 ?_ hS1))
    unfold zP
    rw [← zWF_set (h := h) g.1 (fun b hb => zu_ne hb), ← zupdF]
    exact hP1
  · have e1 : sF h a i x = none := if_neg g
    rw [e1]; exact Zr.none
theorem z_aastore17 {a q : Nat} {i : Int32} {f : ZH → Option α} (pc2 : Nat) (hd : decode (yc Y) pc = .ok (.aastore, 1)) (e : pc + 1 = pc2) (kk : ∀ h', sR h 17 a i q = some h' → Zr enc b0 Y d pc2 lv st h' (f h')) : Zr enc b0 Y d pc lv (.ref (b0 + q) :: .int i :: .ref (b0 + a) :: st) h ((sR h 17 a i q).bind f) := by
  subst e
  by_cases g : ((a < zn h ∧ zK h a = 17) ∧ ¬ (i < 0 ∨ zN h a ≤ i.toNatClampNeg)) ∧ (q < zn h ∧ zK h q = zck 17)
  · have e1 : sR h 17 a i q = some (zsR h (zu (zR h) a i.toNatClampNeg (some q))) := if_pos g
    have := kk _ e1
    rw [e1]
    refine Zr.stepH this rfl rfl (fun D CA p l e R s m args below meth c H locs ls n0 cells slots Q hA hl hP hS kk => va_astq (r := (RX1, TX1, 1)) (vs := zfs b0 h q) hA.1 hA.2.1 hA.2.2.2.2.2.1 hP zD hS a 5 q 1 (zWR g.1.1 (by omega)) rfl (by rw [zW_get g.2.1, zE_obj g.2.2 (by decide)]; rfl) rfl g.1.2 hd (fun H1 locs1 hP1 _ hS1 => kk H1 locs1 ?_ hS1))
    unfold zP
    rw [← zWR_set (h := h) (kind := 17) g.1.1 (by omega) (fun b hb => zu_ne hb)]
    have e2 : va_up (fun j => (zR h a j).map (fun q => b0 + q)) i.toNatClampNeg (some (b0 + q)) = fun j => (zu (zR h) a i.toNatClampNeg (some q) a j).map (fun q => b0 + q) := by
      funext j
      by_cases hj : j = i.toNatClampNeg <;> simp [va_up, zu, hj]
    rw [← e2]
    exact hP1
  · have e1 : sR h 17 a i q = none := if_neg g
    rw [e1]; exact Zr.none
theorem z_aastore18 {a q : Nat} {i : Int32} {f : ZH → Option α} (pc2 : Nat) (hd : decode (yc Y) pc = .ok (.aastore, 1)) (e : pc + 1 = pc2) (kk : ∀ h', sR h 18 a i q = some h' → Zr enc b0 Y d pc2 lv st h' (f h')) : Zr enc b0 Y d pc lv (.ref (b0 + q) :: .int i :: .ref (b0 + a) :: st) h ((sR h 18 a i q).bind f) := by
  subst e
  by_cases g : ((a < zn h ∧ zK h a = 18) ∧ ¬ (i < 0 ∨ zN h a ≤ i.toNatClampNeg)) ∧ (q < zn h ∧ zK h q = zck 18)
  · have e1 : sR h 18 a i q = some (zsR h (zu (zR h) a i.toNatClampNeg (some q))) := if_pos g
    have := kk _ e1
    rw [e1]
    refine Zr.stepH this rfl rfl (fun D CA p l e R s m args below meth c H locs ls n0 cells slots Q hA hl hP hS kk => va_astq (r := (RX3, TX3, 4)) (vs := zfs b0 h q) hA.1 hA.2.1 hA.2.2.2.2.2.1 hP zD hS a 6 q 3 (zWR g.1.1 (by omega)) rfl (by rw [zW_get g.2.1, zE_obj g.2.2 (by decide)]; rfl) rfl g.1.2 hd (fun H1 locs1 hP1 _ hS1 => kk H1 locs1 ?_ hS1))
    unfold zP
    rw [← zWR_set (h := h) (kind := 18) g.1.1 (by omega) (fun b hb => zu_ne hb)]
    have e2 : va_up (fun j => (zR h a j).map (fun q => b0 + q)) i.toNatClampNeg (some (b0 + q)) = fun j => (zu (zR h) a i.toNatClampNeg (some q) a j).map (fun q => b0 + q) := by
      funext j
      by_cases hj : j = i.toNatClampNeg <;> simp [va_up, zu, hj]
    rw [← e2]
    exact hP1
  · have e1 : sR h 18 a i q = none := if_neg g
    rw [e1]; exact Zr.none
theorem z_alen {a : Nat} {f : Int32 → Option α} (pc2 : Nat) (hd : decode (yc Y) pc = .ok (.arraylength, 1)) (e : pc + 1 = pc2) (kk : ∀ v, zlen h a = some v → Zr enc b0 Y d pc2 lv (.int v :: st) h (f v)) : Zr enc b0 Y d pc lv (.ref (b0 + a) :: st) h ((zlen h a).bind f) := by
  subst e
  by_cases g : a < zn h ∧ 12 ≤ zK h a ∧ zK h a < 19
  · have e1 : zlen h a = some (Int32.ofNat (zN h a)) := if_pos g
    have := kk _ e1
    rw [e1]
    refine this.step (fun D CA p l e R s m args below meth c H locs ls n0 cells slots Q hA hc hs hl hP hS kk => ?_)
    have hw : (zW b0 CA h)[a]? = some (b0 + a, .inl (CA (zK h a), zN h a, zarr b0 h a)) := by rw [zW_get g.1, zE_arr rfl (by omega)]
    obtain ⟨ty, ht⟩ : ∃ ty, (ztys CA)[zK h a - 12]? = some (CA (zK h a), ty) := by
      generalize zK h a = k at g ⊢
      obtain ⟨g1, g2, g3⟩ := g
      rcases (show k = 12 ∨ k = 13 ∨ k = 14 ∨ k = 15 ∨ k = 16 ∨ k = 17 ∨ k = 18 by omega) with rfl | rfl | rfl | rfl | rfl | rfl | rfl <;> exact ⟨_, rfl⟩
    exact va_alen hA.1 hA.2.1 hA.2.2.2.2.2.1 hP a (zK h a - 12) hw ht rfl hd (kk _ hl)
  · have e1 : zlen h a = none := if_neg g
    rw [e1]; exact Zr.none
/-- the library's arraycopy -/
def zcpI (h : ZH) (a b : Nat) (sp dp n : Int32) : Option ZH := if ((a < zn h ∧ zK h a = 14) ∧ (b < zn h ∧ zK h b = 14)) ∧ (¬ sp < 0 ∧ ¬ dp < 0 ∧ ¬ n < 0) ∧ sp.toNatClampNeg + n.toNatClampNeg ≤ zN h a ∧ dp.toNatClampNeg + n.toNatClampNeg ≤ zN h b then some (zsI h (zrow (zI h) b (va_cpy (zI h a) (zI h b) sp.toNatClampNeg dp.toNatClampNeg n.toNatClampNeg))) else none
def zcpJ (h : ZH) (a b : Nat) (sp dp n : Int32) : Option ZH := if ((a < zn h ∧ zK h a = 15) ∧ (b < zn h ∧ zK h b = 15)) ∧ (¬ sp < 0 ∧ ¬ dp < 0 ∧ ¬ n < 0) ∧ sp.toNatClampNeg + n.toNatClampNeg ≤ zN h a ∧ dp.toNatClampNeg + n.toNatClampNeg ≤ zN h b then some (zsJ h (zrow (zJ h) b (va_cpy (zJ h a) (zJ h b) sp.toNatClampNeg dp.toNatClampNeg n.toNatClampNeg))) else none
theorem zrow_ne {β : Type} {f : Nat → Nat → β} {a b : Nat} {g : Nat → β} (hb : b ≠ a) : zrow f a g b = f b := by funext i; simp [zrow, hb]
theorem zrow_eq {β : Type} {f : Nat → Nat → β} {a : Nat} {g : Nat → β} : zrow f a g a = g := by funext i; simp [zrow]
theorem z_arraycopyI {a b idx : Nat} {sp dp n : Int32} {f : ZH → Option α} (pc2 : Nat) (hw : Cond.methodLink (yo Y) idx arraycopyName ∈ zgw) (hnat : Cond.native arraycopyName ∈ zgw) (hstat : Cond.static arraycopyName ∈ zgw) (hini : Cond.initialized "java/lang/System" ∈ zgw) (hdep : 1 ≤ d) (hst : (st.map fun v => v.category).sum ≤ 8) (hd : decode (yc Y) pc = .ok (.invokestatic idx, 3)) (e : pc + 3 = pc2) (kk : ∀ h', zcpI h a b sp dp n = some h' → Zr enc b0 Y d pc2 lv st h' (f h')) : Zr enc b0 Y d pc lv (.int n :: .int dp :: .ref (b0 + b) :: .int sp :: .ref (b0 + a) :: st) h ((zcpI h a b sp dp n).bind f) := by
  subst e
  by_cases g : ((a < zn h ∧ zK h a = 14) ∧ (b < zn h ∧ zK h b = 14)) ∧ (¬ sp < 0 ∧ ¬ dp < 0 ∧ ¬ n < 0) ∧ sp.toNatClampNeg + n.toNatClampNeg ≤ zN h a ∧ dp.toNatClampNeg + n.toNatClampNeg ≤ zN h b
  · have e1 : zcpI h a b sp dp n = some (zsI h (zrow (zI h) b (va_cpy (zI h a) (zI h b) sp.toNatClampNeg dp.toNatClampNeg n.toNatClampNeg))) := if_pos g
    have := kk _ e1
    rw [e1]
    refine Zr.stepH this rfl rfl (fun D CA p l e R s m args below meth c H locs ls n0 cells slots Q hA hl hP hS kk => va_copyi hA.1 hA.2.1 (hA.2.2.1.trans hl.1.symm) hA.2.2.2.1 (hA.2.2.2.2.1 _ hw) (hA.2.2.2.2.1 _ hnat) (hA.2.2.2.2.1 _ hstat) (hA.2.2.2.2.1 _ hini) hA.2.2.2.2.2.1 hP zD hS a b 2 2 (zWI g.1.1 (by omega)) (zWI g.1.2 (by omega)) rfl rfl rfl g.2.1.1 g.2.1.2.1 g.2.1.2.2 g.2.2.1 g.2.2.2 (fun _ _ => rfl) (Nat.le_trans hdep hA.2.2.2.2.2.2.2.1) ?_ hd (fun H1 locs1 hP1 _ hS1 => kk H1 locs1 ?_ hS1))
    · have h1 : 60 * 1 ≤ 60 * d := Nat.mul_le_mul_left 60 hdep
      have h2 := hA.2.2.2.2.2.2.2.2.1
      have h3 : nativeFrameWords "java/lang/System" "arraycopy" 5 + 11 ≤ 50 := by decide
      omega
    · unfold zP
      rw [← zWI_set (h := h) (kind := 14) g.1.2 (by omega) (fun b hb => zrow_ne hb), zrow_eq]
      exact hP1
  · have e1 : zcpI h a b sp dp n = none := if_neg g
    rw [e1]; exact Zr.none
theorem z_arraycopyJ {a b idx : Nat} {sp dp n : Int32} {f : ZH → Option α} (pc2 : Nat) (hw : Cond.methodLink (yo Y) idx arraycopyName ∈ zgw) (hnat : Cond.native arraycopyName ∈ zgw) (hstat : Cond.static arraycopyName ∈ zgw) (hini : Cond.initialized "java/lang/System" ∈ zgw) (hdep : 1 ≤ d) (hst : (st.map fun v => v.category).sum ≤ 8) (hd : decode (yc Y) pc = .ok (.invokestatic idx, 3)) (e : pc + 3 = pc2) (kk : ∀ h', zcpJ h a b sp dp n = some h' → Zr enc b0 Y d pc2 lv st h' (f h')) : Zr enc b0 Y d pc lv (.int n :: .int dp :: .ref (b0 + b) :: .int sp :: .ref (b0 + a) :: st) h ((zcpJ h a b sp dp n).bind f) := by
  subst e
  by_cases g : ((a < zn h ∧ zK h a = 15) ∧ (b < zn h ∧ zK h b = 15)) ∧ (¬ sp < 0 ∧ ¬ dp < 0 ∧ ¬ n < 0) ∧ sp.toNatClampNeg + n.toNatClampNeg ≤ zN h a ∧ dp.toNatClampNeg + n.toNatClampNeg ≤ zN h b
  · have e1 : zcpJ h a b sp dp n = some (zsJ h (zrow (zJ h) b (va_cpy (zJ h a) (zJ h b) sp.toNatClampNeg dp.toNatClampNeg n.toNatClampNeg))) := if_pos g
    have := kk _ e1
    rw [e1]
    refine Zr.stepH this rfl rfl (fun D CA p l e R s m args below meth c H locs ls n0 cells slots Q hA hl hP hS kk => va_copyl hA.1 hA.2.1 (hA.2.2.1.trans hl.1.symm) hA.2.2.2.1 (hA.2.2.2.2.1 _ hw) (hA.2.2.2.2.1 _ hnat) (hA.2.2.2.2.1 _ hstat) (hA.2.2.2.2.1 _ hini) hA.2.2.2.2.2.1 hP zD hS a b 3 3 (zWJ g.1.1) (zWJ g.1.2) rfl rfl rfl g.2.1.1 g.2.1.2.1 g.2.1.2.2 g.2.2.1 g.2.2.2 (fun _ _ => rfl) (Nat.le_trans hdep hA.2.2.2.2.2.2.2.1) ?_ hd (fun H1 locs1 hP1 _ hS1 => kk H1 locs1 ?_ hS1))
    · have h1 : 60 * 1 ≤ 60 * d := Nat.mul_le_mul_left 60 hdep
      have h2 := hA.2.2.2.2.2.2.2.2.1
      have h3 : nativeFrameWords "java/lang/System" "arraycopy" 5 + 11 ≤ 50 := by decide
      omega
    · unfold zP
      rw [← zWJ_set (h := h) g.1.2 (fun b hb => zrow_ne hb), zrow_eq]
      exact hP1
  · have e1 : zcpJ h a b sp dp n = none := if_neg g
    rw [e1]; exact Zr.none
def jmmin (x y : Int32) : Int32 := if y < x then y else x
theorem z_mmin {idx : Nat} {x y : Int32} (pc2 : Nat) (hw : Cond.methodLink (yo Y) idx Lib.Math.min.name ∈ zgw) (hstat : Cond.static Lib.Math.min.name ∈ zgw) (hini : Cond.initialized "java/lang/Math" ∈ zgw) (hco : Cond.code Lib.Math.min.name Lib.Math.min.code 2 (some .int) ∈ zgw) (hdep : 1 ≤ d) (hst : (st.map fun v => v.category).sum ≤ 8) (hd : decode (yc Y) pc = .ok (.invokestatic idx, 3)) (e : pc + 3 = pc2) (k : Zr enc b0 Y d pc2 lv (.int (jmmin x y) :: st) h r) : Zr enc b0 Y d pc lv (.int y :: .int x :: st) h r := by
  subst e
  refine k.step (fun D CA p l e R s m args below meth c H locs ls n0 cells slots Q hA hc hs hl hP hS kk => va_mmin hA.1 hA.2.1 (hA.2.2.1.trans hl.1.symm) hA.2.2.2.1 (hA.2.2.2.2.1 _ hw) (hA.2.2.2.2.1 _ hstat) (hA.2.2.2.2.1 _ hini) (hA.2.2.2.2.1 _ hco) (Nat.le_trans hdep hA.2.2.2.2.2.2.2.1) ?_ hc hs hd (kk _ hl))
  have h1 : 60 * 1 ≤ 60 * d := Nat.mul_le_mul_left 60 hdep
  have h2 := hA.2.2.2.2.2.2.2.2.1
  omega
def jmmax (x y : Int32) : Int32 := if x < y then y else x
theorem z_mmax {idx : Nat} {x y : Int32} (pc2 : Nat) (hw : Cond.methodLink (yo Y) idx Lib.Math.max.name ∈ zgw) (hstat : Cond.static Lib.Math.max.name ∈ zgw) (hini : Cond.initialized "java/lang/Math" ∈ zgw) (hco : Cond.code Lib.Math.max.name Lib.Math.max.code 2 (some .int) ∈ zgw) (hdep : 1 ≤ d) (hst : (st.map fun v => v.category).sum ≤ 8) (hd : decode (yc Y) pc = .ok (.invokestatic idx, 3)) (e : pc + 3 = pc2) (k : Zr enc b0 Y d pc2 lv (.int (jmmax x y) :: st) h r) : Zr enc b0 Y d pc lv (.int y :: .int x :: st) h r := by
  subst e
  refine k.step (fun D CA p l e R s m args below meth c H locs ls n0 cells slots Q hA hc hs hl hP hS kk => va_mmax hA.1 hA.2.1 (hA.2.2.1.trans hl.1.symm) hA.2.2.2.1 (hA.2.2.2.2.1 _ hw) (hA.2.2.2.2.1 _ hstat) (hA.2.2.2.2.1 _ hini) (hA.2.2.2.2.1 _ hco) (Nat.le_trans hdep hA.2.2.2.2.2.2.2.1) ?_ hc hs hd (kk _ hl))
  have h1 : 60 * 1 ≤ 60 * d := Nat.mul_le_mul_left 60 hdep
  have h2 := hA.2.2.2.2.2.2.2.2.1
  omega
theorem z_objInit {a idx : Nat} (pc2 : Nat) (hw : Cond.methodLink (yo Y) idx Lib.objectInit ∈ zgw) (hin : Cond.instanceMethod Lib.objectInit ∈ zgw) (hco : Cond.code Lib.objectInit ⟨#[0xb1]⟩ 1 none ∈ zgw) (hdep : 1 ≤ d) (hst : (st.map fun v => v.category).sum ≤ 8) (hd : decode (yc Y) pc = .ok (.invokespecial idx, 3)) (e : pc + 3 = pc2) (k : Zr enc b0 Y d pc2 lv st h r) : Zr enc b0 Y d pc lv (.ref (b0 + a) :: st) h r := by
  subst e
  refine k.step (fun D CA p l e R s m args below meth c H locs ls n0 cells slots Q hA hc hs hl hP hS kk => W.objInit hA.1 hA.2.1 hA.2.2.2.1 (hA.2.2.2.2.1 _ hw) (hA.2.2.2.2.1 _ hin) (hA.2.2.2.2.1 _ hco) rfl (hl.1.trans hA.2.2.1.symm) rfl hd (Nat.le_trans hdep hA.2.2.2.2.2.2.2.1) ?_ (kk _ hl))
  have h1 : 60 * 1 ≤ 60 * d := Nat.mul_le_mul_left 60 hdep
  have h2 := hA.2.2.2.2.2.2.2.2.1
  show 2 * 0 + _ + 12 ≤ _
  omega
end ZARR
