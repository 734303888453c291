/-! ROWS OF NUMBERS: setElement -/
theorem nn_div {a : Int32} (ha : a.toInt.natAbs ≤ 2 ^ 24) : nn (FP.fdiv (FP.i2f a) 1090519040) := by
  apply nn_of
  have h8 : FP.Core.val32 (1090519040 : UInt32) = .fin false 8388608 (-20) := by decide +kernel
  have hw := FP.Core.i2f_int ha
  apply (FP.Core.ne_nan32 _).mp
  apply (FP.Core.notNaN_iff32 _).mp
  cases hq : FP.Core.fIsNaN (FP.Core.fdiv (FP.Core.i2f a) 1090519040)
  · rfl
  · exfalso
    unfold FP.Core.FInt at hw
    rcases (FP.Core.fdiv_nan_iff _ _).mp hq with q | q | ⟨s, t, q1, q2⟩ | ⟨q1, s, q, q2⟩
    · rw [q] at hw; exact hw
    · rw [h8] at q; cases q
    · rw [h8] at q2; cases q2
    · rw [h8] at q2; cases q2
theorem cV (x : Int32) : (∀ h, fX10_isWithin x (-9999 : Int32) (nI 9999) h = some (nI 0, h) ∧ fX11_isIn x (-9999 : Int32) (nI 9999) h = some (nI 0, h)) ∨ (x.toInt.natAbs ≤ 9999 ∧ ∀ h, fX10_isWithin x (-9999 : Int32) (nI 9999) h = some (nI 1, h) ∧ fX11_isIn x (-9999 : Int32) (nI 9999) h = some (nI 1, h)) := by
  by_cases h1 : x < (-9999 : Int32)
  · left
    intro h
    unfold fX10_isWithin fX11_isIn
    rw [if_pos h1, if_pos h1]
    exact ⟨rfl, rfl⟩
  · by_cases h2 : nI 9999 < x
    · left
      intro h
      unfold fX10_isWithin fX11_isIn
      rw [if_neg h1, if_neg h1, if_pos h2, if_pos h2]
      exact ⟨rfl, rfl⟩
    · right
      refine ⟨?_, fun h => ?_⟩
      · have a1 : (-9999 : Int32).toInt = -9999 := by decide
        have a2 := nI_toInt (n := 9999) (by decide)
        rw [Int32.lt_iff_toInt_lt] at h1 h2
        omega
      · unfold fX10_isWithin fX11_isIn
        rw [if_neg h1, if_neg h1, if_neg h2, if_neg h2]
        exact ⟨rfl, rfl⟩
/-- what an element becomes in the object -/
def elV (t : Nat) (v : Int32) : UInt32 := if t = 2 then FP.fdiv (FP.i2f v) 1090519040 else if t = 0 then FP.i2f (ji2b v) else FP.i2f (ji2c v)
theorem set_ok {h : ZH} {a t i n : Nat} {v : Int32} (g : isRw h a) (ht : t < 3) (hn : n ≤ 30) (hi : i < n) (e2 : zI h (105 + 3 * a) 2 = nI t) (hv : v.toInt.natAbs ≤ 9999) (hx : fX3_hasIndex (105 + 3 * a) (nI i) h = some (nI 1, h)) : ∃ h', fX3_set (105 + 3 * a) (nI i) v h = some h' ∧ zfr [106 + 3 * a, 107 + 3 * a] h h' ∧ (zF h' (106 + 3 * a) = fun k => if k = i then elV t v else zF h (106 + 3 * a) k) ∧ zI h' (107 + 3 * a) = fun k => if k = i then nI 0 else zI h (107 + 3 * a) k := by
  have gr0 : gR h 3 (105 + 3 * a) 0 = some (106 + 3 * a) := (gR_ok g.1.1 g.1.2.1).trans g.1.2.2.1
  have gi : gI h 3 (105 + 3 * a) 2 = some (nI t) := (gI_ok g.1.1 g.1.2.1).trans (congrArg some e2)
  have fin : ∀ x, x = elV t v → ∃ h', bX3_set_35 (105 + 3 * a) (nI i) x (nI i) (106 + 3 * a) h = some h' ∧ zfr [106 + 3 * a, 107 + 3 * a] h h' ∧ (zF h' (106 + 3 * a) = fun k => if k = i then elV t v else zF h (106 + 3 * a) k) ∧ zI h' (107 + 3 * a) = fun k => if k = i then nI 0 else zI h (107 + 3 * a) k := by
    intro x hx
    have p2 : zfr [106 + 3 * a] h (zsF h (zu (zF h) (106 + 3 * a) i x)) := zfr_uF
    have sf := g.2.1.sF (v := x) (show i < 30 by omega) (by decide)
    have zf2 : zF (zsF h (zu (zF h) (106 + 3 * a) i x)) (106 + 3 * a) = fun k => if k = i then x else zF h (106 + 3 * a) k := by
      show zu (zF h) (106 + 3 * a) i x (106 + 3 * a) = _
      rw [zu_eq]
    generalize zsF h (zu (zF h) (106 + 3 * a) i x) = h2 at p2 sf zf2
    have g2 := p2.isRw g
    have gr1 : gR h2 3 (105 + 3 * a) 1 = some (107 + 3 * a) := (gR_ok g2.1.1 g2.1.2.1).trans g2.1.2.2.2
    have p3 : zfr [107 + 3 * a] h2 (zsI h2 (zu (zI h2) (107 + 3 * a) i (nI 0))) := zfr_uI
    refine ⟨zsI h2 (zu (zI h2) (107 + 3 * a) i (nI 0)), ?_, (p2.trans p3).mono (fun b hb => by simp only [List.mem_append, List.mem_cons, List.not_mem_nil, or_false] at hb ⊢; omega), ?_, ?_⟩
    · unfold bX3_set_35 bX3_set_43
      rw [sf, bsm, gr1, bsm, g2.2.2.sI (by omega) (by decide), bsm, zvn16 (by decide)]
    · rw [p3.F (mem1.mpr (by omega)), zf2, hx]
    · dsimp only [zI_zsI]
      rw [zu_eq, p2.I (mem1.mpr (by omega))]
  unfold fX3_set
  rw [if_pos ⟨g.1.1, g.1.2.1⟩, hx, bsm, if_neg ne10, gr0, bsm, gi, bsm]
  by_cases h2 : t = 2
  · subst h2
    rw [if_pos rfl, if_pos (show FP.fdiv (FP.i2f v) (1090519040 : UInt32) &&& 0x7fffffff ≤ 0x7f800000 from nn_div (by omega))]
    exact fin _ (by unfold elV; rw [if_pos rfl])
  · rw [if_neg (fun q => h2 ((nI_eq (by omega) (by decide)).mp q))]
    have ec : fX3_converted (105 + 3 * a) (v.toInt64) h = some (elV t v, h) := by
      unfold fX3_converted bX3_converted_29 elV
      rw [if_pos ⟨g.1.1, g.1.2.1⟩, gi, bsm, if_neg h2, Int32.toInt32_toInt64]
      by_cases h0 : t = 0
      · subst h0; rw [if_pos eq00, if_pos rfl]
      · have h1 : t = 1 := by omega
        subst h1
        rw [if_neg ne10, bsm, if_pos rfl, if_neg (by decide)]
    rw [ec, bsm]
    exact fin _ rfl
theorem setR {h : ZH} {a t i n : Nat} {v : Int32} (hs : Sh h) (ha : a < 4) (ht : t < 3) (hn : n ≤ 30) (hi : i < n) (e147 : zI h 148 a = nI t) (hv : v.toInt.natAbs ≤ 9999) (hw : fX11_isIn v (-9999 : Int32) (nI 9999) h = some (nI 1, h)) (hx : fX11_isIndex 117 (nI a) (nI i) h = some (nI 1, h)) : ∃ h', fX11_setElement 117 (nI a) (nI i) v h = some (nI 1, h') ∧ zfr [150, 151] h h' ∧ (zI h' 150 = fun k => if k = 30 * a + i then (if t = 0 then ji2b v else ji2c v) else zI h 150 k) ∧ zF h' 151 = fun k => if k = 30 * a + i then FP.fdiv (FP.i2f v) 1090519040 else zF h 151 k := by
  have fin : ∀ x, x = (if t = 0 then ji2b v else ji2c v) → ∃ h', bX11_setElement_74 117 (nI a) (nI i) v x (nI (30 * a + i)) 150 h = some (nI 1, h') ∧ zfr [150, 151] h h' ∧ (zI h' 150 = fun k => if k = 30 * a + i then (if t = 0 then ji2b v else ji2c v) else zI h 150 k) ∧ zF h' 151 = fun k => if k = 30 * a + i then FP.fdiv (FP.i2f v) 1090519040 else zF h 151 k := by
    intro x hx
    have p2 : zfr [150] h (zsI h (zu (zI h) 150 (30 * a + i) x)) := zfr_uI
    have si := (A150 hs).sI (v := x) (show 30 * a + i < 120 by omega) (by decide)
    rw [show zvn 14 x = x from rfl] at si
    have zi2 : zI (zsI h (zu (zI h) 150 (30 * a + i) x)) 150 = fun k => if k = 30 * a + i then x else zI h 150 k := by dsimp only [zI_zsI]; rw [zu_eq]
    generalize zsI h (zu (zI h) 150 (30 * a + i) x) = h2 at p2 si zi2
    have hs2 := p2.shp hs
    have p3 : zfr [151] h2 (zsF h2 (zu (zF h2) 151 (30 * a + i) (FP.fdiv (FP.i2f v) 1090519040))) := zfr_uF
    have sf := (A151 hs2).sF (v := FP.fdiv (FP.i2f v) 1090519040) (show 30 * a + i < 120 by omega) (by decide)
    refine ⟨zsF h2 (zu (zF h2) 151 (30 * a + i) (FP.fdiv (FP.i2f v) 1090519040)), ?_, (p2.trans p3).mono (by decide), ?_, ?_⟩
    · unfold bX11_setElement_74
      rw [si, bsm, R117_43 hs2, bsm, if_pos (show FP.fdiv (FP.i2f v) (1090519040 : UInt32) &&& 0x7fffffff ≤ 0x7f800000 from nn_div (by omega)), pk_mul, nI_add, sf, bsm]
    · rw [p3.I (by decide), zi2, hx]
    · show zu (zF h2) 151 (30 * a + i) _ 151 = _
      rw [zu_eq, p2.F (by decide)]
  obtain ⟨h', w1, w2⟩ := fin _ rfl
  refine ⟨h', ?_, w2⟩
  unfold fX11_setElement
  by_cases h0 : t = 0
  · rw [if_pos h0] at w1
    simp (disch := omega) only [hw, e147, hx, eq_true h0, SR (hs), zl_eq, bsm, ZS, ZT, ZN, ZU, eq_self, true_and, and_true, and_self, or_true, true_or, or_false, false_or, not_true, not_false_eq_true, Nat.reduceAdd, Nat.reduceMul, Nat.reduceLT, Nat.reduceLeDiff, Nat.reduceEqDiff, ↓reduceIte, ZQ, Bool.true_eq_false, Bool.false_eq_true, Bool.not_true, Bool.not_false]
    exact w1
  · rw [if_neg h0] at w1
    simp (disch := omega) only [hw, e147, hx, eq_false h0, SR (hs), zl_eq, bsm, ZS, ZT, ZN, ZU, eq_self, true_and, and_true, and_self, or_true, true_or, or_false, false_or, not_true, not_false_eq_true, Nat.reduceAdd, Nat.reduceMul, Nat.reduceLT, Nat.reduceLeDiff, Nat.reduceEqDiff, ↓reduceIte, ZQ, Bool.true_eq_false, Bool.false_eq_true, Bool.not_true, Bool.not_false]
    exact w1
theorem c_setElement (a1 a2 a3 : Int32) : Ok2 (fX10_setElement 0 a1 a2 a3) (fX11_setElement 117 a1 a2 a3) := by
  refine Ok2.of (fun h G n c hI => ?_)
  have hs := hI.1
  rcases cArray a1 with b | ⟨a, ha, rfl⟩
  · refine Ok2.same hI (r := -2) ?_ ?_
    · simp (disch := omega) only [fX10_setElement, bX10_setElement_20, fun q => (b q).1, SC (hs), zl_eq, bsm, ZS, ZT, ZN, ZU, eq_self, true_and, and_true, and_self, or_true, true_or, or_false, false_or, not_true, not_false_eq_true, Nat.reduceAdd, Nat.reduceMul, Nat.reduceLT, Nat.reduceLeDiff, Nat.reduceEqDiff, ↓reduceIte, ZQ, Bool.true_eq_false, Bool.false_eq_true, Bool.not_true, Bool.not_false]
    · simp (disch := omega) only [fX11_setElement, bX11_setElement_20, fun q => (b q).2, SR (hs), zl_eq, bsm, ZS, ZT, ZN, ZU, eq_self, true_and, and_true, and_self, or_true, true_or, or_false, false_or, not_true, not_false_eq_true, Nat.reduceAdd, Nat.reduceMul, Nat.reduceLT, Nat.reduceLeDiff, Nat.reduceEqDiff, ↓reduceIte, ZQ, Bool.true_eq_false, Bool.false_eq_true, Bool.not_true, Bool.not_false]
  rcases cV a3 with b | ⟨hv, bv⟩
  · refine Ok2.same hI (r := -2) ?_ ?_
    · simp (disch := omega) only [fX10_setElement, bX10_setElement_20, fun q => (b q).1, SC (hs), zl_eq, bsm, ZS, ZT, ZN, ZU, eq_self, true_and, and_true, and_self, or_true, true_or, or_false, false_or, not_true, not_false_eq_true, Nat.reduceAdd, Nat.reduceMul, Nat.reduceLT, Nat.reduceLeDiff, Nat.reduceEqDiff, ↓reduceIte, ZQ, Bool.true_eq_false, Bool.false_eq_true, Bool.not_true, Bool.not_false]
    · simp (disch := omega) only [fX11_setElement, bX11_setElement_20, fun q => (b q).2, SR (hs), zl_eq, bsm, ZS, ZT, ZN, ZU, eq_self, true_and, and_true, and_self, or_true, true_or, or_false, false_or, not_true, not_false_eq_true, Nat.reduceAdd, Nat.reduceMul, Nat.reduceLT, Nat.reduceLeDiff, Nat.reduceEqDiff, ↓reduceIte, ZQ, Bool.true_eq_false, Bool.false_eq_true, Bool.not_true, Bool.not_false]
  have g := Rw4 hs ha
  rcases hI.2.2.2.2.2.2.1 a ha with ⟨r1, r2⟩ | ⟨t, m, ht, hm, e2, e147, e3, e148, el⟩
  · refine Ok2.same hI (r := -11) ?_ ?_
    · simp (disch := omega) only [fX10_setElement, fun q => (bv q).1, exists_no g r1, SC (hs), zl_eq, bsm, ZS, ZT, ZN, ZU, eq_self, true_and, and_true, and_self, or_true, true_or, or_false, false_or, not_true, not_false_eq_true, Nat.reduceAdd, Nat.reduceMul, Nat.reduceLT, Nat.reduceLeDiff, Nat.reduceEqDiff, ↓reduceIte, ZQ, Bool.true_eq_false, Bool.false_eq_true, Bool.not_true, Bool.not_false]
    · simp (disch := omega) only [fX11_setElement, fun q => (bv q).2, r2, SR (hs), zl_eq, bsm, ZS, ZT, ZN, ZU, eq_self, true_and, and_true, and_self, or_true, true_or, or_false, false_or, not_true, not_false_eq_true, Nat.reduceAdd, Nat.reduceMul, Nat.reduceLT, Nat.reduceLeDiff, Nat.reduceEqDiff, ↓reduceIte, ZQ, Bool.true_eq_false, Bool.false_eq_true, Bool.not_true, Bool.not_false]
  have ex := exists_ok g ht e2
  rcases cIdx g hs ha hm e3 e148 a2 with ⟨b1, b2⟩ | ⟨i, hi, rfl, b1, b2⟩
  · refine Ok2.same hI (r := -13) ?_ ?_
    · simp (disch := omega) only [fX10_setElement, fun q => (bv q).1, ex, b1, SC (hs), zl_eq, bsm, ZS, ZT, ZN, ZU, eq_self, true_and, and_true, and_self, or_true, true_or, or_false, false_or, not_true, not_false_eq_true, Nat.reduceAdd, Nat.reduceMul, Nat.reduceLT, Nat.reduceLeDiff, Nat.reduceEqDiff, ↓reduceIte, ZQ, Bool.true_eq_false, Bool.false_eq_true, Bool.not_true, Bool.not_false]
    · simp (disch := omega) only [fX11_setElement, fun q => (bv q).2, e147, b2, SR (hs), zl_eq, bsm, ZS, ZT, ZN, ZU, eq_self, true_and, and_true, and_self, or_true, true_or, or_false, false_or, not_true, not_false_eq_true, Nat.reduceAdd, Nat.reduceMul, Nat.reduceLT, Nat.reduceLeDiff, Nat.reduceEqDiff, ↓reduceIte, ZQ, Bool.true_eq_false, Bool.false_eq_true, Bool.not_true, Bool.not_false]
  obtain ⟨h1, e1, p1, f1, f2⟩ := set_ok g ht hm hi e2 hv b1
  have hs1 := p1.shp hs
  have ni : ∀ b, b ≠ 106 + 3 * a → b ≠ 107 + 3 * a → b ∉ [106 + 3 * a, 107 + 3 * a] := fun b x1 x2 q => by
    simp only [List.mem_cons, List.not_mem_nil, or_false] at q
    omega
  have e147' : zI h1 148 a = nI t := by rw [p1.I (ni _ (by omega) (by omega))]; exact e147
  have e148' : zI h1 149 a = nI m := by rw [p1.I (ni _ (by omega) (by omega))]; exact e148
  have b2' : fX11_isIndex 117 (nI a) (nI i) h1 = some (nI 1, h1) := by
    unfold fX11_isIndex
    simp (disch := omega) only [e148', SR (hs1), zl_eq, bsm, ZS, ZT, ZN, ZU, eq_self, true_and, and_true, and_self, or_true, true_or, or_false, false_or, not_true, not_false_eq_true, Nat.reduceAdd, Nat.reduceMul, Nat.reduceLT, Nat.reduceLeDiff, Nat.reduceEqDiff, ↓reduceIte, ZQ, Bool.true_eq_false, Bool.false_eq_true, Bool.not_true, Bool.not_false]
  obtain ⟨h2, e4, p2, f3, f4⟩ := setR hs1 ha ht hm hi e147' hv (bv h1).2 b2'
  refine ⟨nI 1, (nI 1, h1), ?_, rfl, wp_eq (a := (nI 1, h2)) e4 ⟨rfl, G, n, c, ?_⟩⟩
  · unfold fX10_setElement
    simp (disch := omega) only [fun q => (bv q).1, ex, b1, SC (hs), zl_eq, bsm, ZS, ZT, ZN, ZU, eq_self, true_and, and_true, and_self, or_true, true_or, or_false, false_or, not_true, not_false_eq_true, Nat.reduceAdd, Nat.reduceMul, Nat.reduceLT, Nat.reduceLeDiff, Nat.reduceEqDiff, ↓reduceIte, ZQ, Bool.true_eq_false, Bool.false_eq_true, Bool.not_true, Bool.not_false]
    rw [e1, bsm]
  · have nk : ∀ b, b ≠ 150 → b ≠ 151 → b ∉ [150, 151] := fun b x1 x2 q => by
      simp only [List.mem_cons, List.not_mem_nil, or_false] at q
      omega
    refine INV_row hI ha ((p1.trans p2).mono (fun b hb => by simp only [List.mem_append, List.mem_cons, List.not_mem_nil, or_false] at hb ⊢; omega)) (fun b _ => by rw [p2.I (by decide), p1.I (ni _ (by omega) (by omega))]) (fun b _ => by rw [p2.I (by decide), p1.I (ni _ (by omega) (by omega))]) (fun k hk => ?_) (fun k hk => ?_) (Or.inr ⟨t, m, ht, hm, ?_, ?_, ?_, ?_, fun k hk => ?_⟩)
    · rw [f3]; dsimp only; rw [if_neg (by omega), p1.I (ni _ (by omega) (by omega))]
    · rw [f4]; dsimp only; rw [if_neg (by omega), p1.F (ni _ (by omega) (by omega))]
    · rw [p2.I (nk _ (by omega) (by omega)), p1.I (ni _ (by omega) (by omega))]; exact e2
    · rw [p2.I (by decide)]; exact e147'
    · rw [p2.I (nk _ (by omega) (by omega)), p1.I (ni _ (by omega) (by omega))]; exact e3
    · rw [p2.I (by decide)]; exact e148'
    · rw [f3, f4, p2.I (nk _ (by omega) (by omega)), p2.F (nk _ (by omega) (by omega)), f1, f2]
      dsimp only
      by_cases e : k = i
      · have ek : 30 * a + k = 30 * a + i := by omega
        rw [if_pos e, if_pos e, if_pos ek, if_pos ek]
        unfold elV
        refine ⟨fun q => ⟨a3, rfl, ?_, ?_⟩, fun q => ⟨a3, rfl, ?_, ?_⟩, fun q => Or.inl ⟨rfl, ?_, ?_⟩⟩
        · rw [if_pos q]
        · rw [if_neg (by omega), if_pos q]
        · rw [if_neg (by omega)]
        · rw [if_neg (by omega), if_neg (by omega)]
        · rw [if_pos q]; exact nn_div (by omega)
        · rw [if_pos q]
      · have ek : ¬ 30 * a + k = 30 * a + i := by omega
        rw [if_neg e, if_neg e, if_neg ek, if_neg ek, p1.I (ni 150 (by omega) (by omega)), p1.F (ni 151 (by omega) (by omega))]
        exact el k hk
