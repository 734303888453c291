/-! ROWS OF NUMBERS: compareElements, setNaN -/
def isRw (h : ZH) (a : Nat) : Prop := (105 + 3 * a < zn h ∧ zK h (105 + 3 * a) = 3 ∧ zR h (105 + 3 * a) 0 = some (106 + 3 * a) ∧ zR h (105 + 3 * a) 1 = some (107 + 3 * a)) ∧ isA h 13 (106 + 3 * a) 30 ∧ isA h 16 (107 + 3 * a) 30
theorem Rw4 {h : ZH} (hs : Sh h) {a : Nat} (ha : a < 4) : isRw h a := by
  rcases (show a = 0 ∨ a = 1 ∨ a = 2 ∨ a = 3 by omega) with rfl | rfl | rfl | rfl <;> exact ⟨⟨(Oo hs (by decide)).1, (Oo hs (by decide)).2, Rr hs (by decide) (by decide) (by decide) (by decide), Rr hs (by decide) (by decide) (by decide) (by decide)⟩, Aa hs (by decide) (by decide) (by decide), Aa hs (by decide) (by decide) (by decide)⟩
theorem nn_nat {v : UInt32} (h : nn v) : v.toNat % 2147483648 ≤ 2139095040 := by
  unfold nn at h
  rw [UInt32.le_iff_toNat_le, UInt32.toNat_and] at h
  have e : (0x7fffffff : UInt32).toNat = 2 ^ 31 - 1 := by decide
  have e2 : (0x7f800000 : UInt32).toNat = 2139095040 := by decide
  rw [e, e2, Nat.and_two_pow_sub_one_eq_mod] at h
  exact h
theorem dec_nn {v : UInt32} (h : nn v) : FP.Core.decode FP.Core.b32 v.toNat ≠ .nan := by
  have h1 := nn_nat h
  unfold FP.Core.decode
  split
  · rename_i h2
    split
    · exact fun q => by cases q
    · rename_i h3
      exfalso
      have e1 : FP.Core.fieldE FP.Core.b32 v.toNat = v.toNat / 8388608 % 256 := rfl
      have e2 : FP.Core.fieldT FP.Core.b32 v.toNat = v.toNat % 8388608 := rfl
      have e3 : FP.Core.b32.exps - 1 = 255 := rfl
      rw [e1, e3] at h2
      rw [e2] at h3
      omega
  · split <;> exact fun q => by cases q
theorem order_some {x y : FP.Core.Datum} (hx : x ≠ .nan) (hy : y ≠ .nan) : ∃ o, FP.Core.order x y = some o := by
  cases x with
  | nan => exact absurd rfl hx
  | inf s => cases y with
    | nan => exact absurd rfl hy
    | inf t => exact ⟨_, rfl⟩
    | fin t d r => exact ⟨_, rfl⟩
  | fin s c q => cases y with
    | nan => exact absurd rfl hy
    | inf t => exact ⟨_, rfl⟩
    | fin t d r => exact ⟨_, rfl⟩
theorem ncmp {x y : UInt32} (hx : nn x) (hy : nn y) : ∃ o, FP.fcmp x y = some o := order_some (dec_nn hx) (dec_nn hy)
theorem nanL (y : UInt32) : FP.fcmp 2143289344 y = none := by
  show FP.Core.order (FP.Core.decode FP.Core.b32 (2143289344 : UInt32).toNat) (FP.Core.decode FP.Core.b32 y.toNat) = none
  rw [show FP.Core.decode FP.Core.b32 (2143289344 : UInt32).toNat = .nan by decide +kernel]
  rfl
theorem nanR (x : UInt32) : FP.fcmp x 2143289344 = none := by
  show FP.Core.order (FP.Core.decode FP.Core.b32 x.toNat) (FP.Core.decode FP.Core.b32 (2143289344 : UInt32).toNat) = none
  rw [show FP.Core.decode FP.Core.b32 (2143289344 : UInt32).toNat = .nan by decide +kernel]
  cases FP.Core.decode FP.Core.b32 x.toNat <;> rfl
def oI (o : Ordering) : Nat := match o with
  | .lt => 0
  | .eq => 1
  | .gt => 2
theorem cmpC {x y : UInt32} {o : Ordering} (h : FP.fcmp x y = some o) {α : Type} (f : Int32 → α) : (if 0 ≤ (jfcmp x y .g) then (if (jfcmp x y .l) ≤ 0 then f (nI 1) else f (nI 2)) else f (nI 0)) = f (nI (oI o)) := by
  unfold jfcmp
  rw [h]
  cases o <;> rfl
theorem cmpR {x y : UInt32} {o : Ordering} (h : FP.fcmp x y = some o) (hh : ZH) : bX11_compareElements_118 x y hh = some (nI (oI o), hh) := by
  unfold bX11_compareElements_118 bX11_compareElements_157 jfcmp
  rw [h]
  cases o <;> rfl
theorem cmpN {x y : UInt32} (h : FP.fcmp x y = none) (hh : ZH) : bX11_compareElements_118 x y hh = some (nI 3, hh) := by
  unfold bX11_compareElements_118 bX11_compareElements_157 jfcmp
  rw [h]
  rfl
theorem ji2b_r (x : Int32) : ∃ c, c < 256 ∧ ji2b x = nI c - nI 128 := by
  have h1 := x.toInt8.toInt_lt
  have h2 := x.toInt8.le_toInt
  refine ⟨(x.toInt8.toInt + 128).toNat, by omega, ?_⟩
  apply Int32.toInt_inj.mp
  rw [pk_sub_toInt (by omega) (by decide)]
  unfold ji2b
  rw [Int8.toInt_toInt32]
  omega
theorem ji2c_r (x : Int32) : ∃ c, c < 65536 ∧ ji2c x = nI c := ⟨x.toBitVec.toNat % 65536, Nat.mod_lt _ (by decide), pk_char x⟩
section RWS
variable {h : ZH} {a n : Nat}
theorem cIdx (g : isRw h a) (hs : Sh h) (ha : a < 4) (hn : n ≤ 30) (e3 : zI h (105 + 3 * a) 3 = nI n) (e148 : zI h 149 a = nI n) (x : Int32) : (fX3_hasIndex (105 + 3 * a) x h = some (nI 0, h) ∧ fX11_isIndex 117 (nI a) x h = some (nI 0, h)) ∨ ∃ i, i < n ∧ x = nI i ∧ fX3_hasIndex (105 + 3 * a) x h = some (nI 1, h) ∧ fX11_isIndex 117 (nI a) x h = some (nI 1, h) := by
  have gi : gI h 3 (105 + 3 * a) 3 = some (nI n) := (gI_ok g.1.1 g.1.2.1).trans (congrArg some e3)
  have bad : x < 0 ∨ nI n ≤ x → fX3_hasIndex (105 + 3 * a) x h = some (nI 0, h) := by
    intro hx
    unfold fX3_hasIndex bX3_hasIndex_22 bX3_hasIndex_23
    rw [if_pos ⟨g.1.1, g.1.2.1⟩]
    by_cases h0 : x < 0
    · rw [if_pos h0]; rfl
    · rw [if_neg h0, gi, bsm, if_pos (hx.resolve_left h0)]; rfl
  have bad2 : x < 0 ∨ nI n ≤ x → fX11_isIndex 117 (nI a) x h = some (nI 0, h) := by
    intro hx
    have hin : fX11_isIn x (nI 0) (nI n - nI 1) h = some (nI 0, h) := by
      by_cases hn0 : n = 0
      · subst hn0; exact (out0 x h).2
      · rw [pk_sub (by omega)]
        exact isIn_no (hx.imp id (fun q => ile_lt (n := n - 1) (by omega) (by rw [show n - 1 + 1 = n by omega]; exact q))) h
    unfold fX11_isIndex
    simp (disch := omega) only [e148, SR (hs), zl_eq, bsm, ZS, ZT, ZN, ZU, eq_self, true_and, and_true, and_self, or_true, true_or, or_false, false_or, not_true, not_false_eq_true, Nat.reduceAdd, Nat.reduceMul, Nat.reduceLT, Nat.reduceLeDiff, Nat.reduceEqDiff, ↓reduceIte, ZQ, Bool.true_eq_false, Bool.false_eq_true, Bool.not_true, Bool.not_false]
    rw [hin, bsm]
    rfl
  rcases pk_ix x (n := n) (by omega) with q | q | ⟨i, hi, rfl⟩
  · exact Or.inl ⟨bad (Or.inl q), bad2 (Or.inl q)⟩
  · exact Or.inl ⟨bad (Or.inr q), bad2 (Or.inr q)⟩
  · refine Or.inr ⟨i, hi, rfl, ?_, ?_⟩
    · unfold fX3_hasIndex bX3_hasIndex_23
      rw [if_pos ⟨g.1.1, g.1.2.1⟩, if_neg (nI_pos (by omega)), gi, bsm, if_neg (nI_ge hi (by omega)), if_neg (nI_ge (by omega) (by decide))]
      rfl
    · unfold fX11_isIndex
      simp (disch := omega) only [e148, SR (hs), zl_eq, bsm, ZS, ZT, ZN, ZU, eq_self, true_and, and_true, and_self, or_true, true_or, or_false, false_or, not_true, not_false_eq_true, Nat.reduceAdd, Nat.reduceMul, Nat.reduceLT, Nat.reduceLeDiff, Nat.reduceEqDiff, ↓reduceIte, ZQ, Bool.true_eq_false, Bool.false_eq_true, Bool.not_true, Bool.not_false]
theorem exists_no (g : isRw h a) (e2 : zI h (105 + 3 * a) 2 = -1) : fX3_exists (105 + 3 * a) h = some (nI 0, h) := by
  unfold fX3_exists bX3_exists_13
  rw [if_pos ⟨g.1.1, g.1.2.1⟩, gI_ok g.1.1 g.1.2.1, bsm, if_pos e2]
  rfl
theorem exists_ok (g : isRw h a) {t : Nat} (ht : t < 3) (e2 : zI h (105 + 3 * a) 2 = nI t) : fX3_exists (105 + 3 * a) h = some (nI 1, h) := by
  unfold fX3_exists bX3_exists_13
  rw [if_pos ⟨g.1.1, g.1.2.1⟩, gI_ok g.1.1 g.1.2.1, bsm, e2, if_neg (by rw [nm1 (by omega)]; exact fun q => q)]
  rfl
end RWS
theorem c_compareElements (a1 a2 a3 : Int32) : Ok2 (fX10_compareElements 0 a1 a2 a3) (fX11_compareElements 117 a1 a2 a3) := by
  refine Ok2.of (fun h G n c hI => ?_)
  have hs := hI.1
  rcases cArray a1 with b | ⟨a, ha, rfl⟩
  · refine Ok2.same hI (r := -2) ?_ ?_
    · simp (disch := omega) only [fX10_compareElements, fun q => (b q).1, SC (hs), zl_eq, bsm, ZS, ZT, ZN, ZU, eq_self, true_and, and_true, and_self, or_true, true_or, or_false, false_or, not_true, not_false_eq_true, Nat.reduceAdd, Nat.reduceMul, Nat.reduceLT, Nat.reduceLeDiff, Nat.reduceEqDiff, ↓reduceIte, ZQ, Bool.true_eq_false, Bool.false_eq_true, Bool.not_true, Bool.not_false]
    · simp (disch := omega) only [fX11_compareElements, fun q => (b q).2, SR (hs), zl_eq, bsm, ZS, ZT, ZN, ZU, eq_self, true_and, and_true, and_self, or_true, true_or, or_false, false_or, not_true, not_false_eq_true, Nat.reduceAdd, Nat.reduceMul, Nat.reduceLT, Nat.reduceLeDiff, Nat.reduceEqDiff, ↓reduceIte, ZQ, Bool.true_eq_false, Bool.false_eq_true, Bool.not_true, Bool.not_false]
  have g := Rw4 hs ha
  rcases hI.2.2.2.2.2.2.1 a ha with ⟨r1, r2⟩ | ⟨t, m, ht, hm, e2, e147, e3, e148, el⟩
  · refine Ok2.same hI (r := -11) ?_ ?_
    · simp (disch := omega) only [fX10_compareElements, exists_no g r1, SC (hs), zl_eq, bsm, ZS, ZT, ZN, ZU, eq_self, true_and, and_true, and_self, or_true, true_or, or_false, false_or, not_true, not_false_eq_true, Nat.reduceAdd, Nat.reduceMul, Nat.reduceLT, Nat.reduceLeDiff, Nat.reduceEqDiff, ↓reduceIte, ZQ, Bool.true_eq_false, Bool.false_eq_true, Bool.not_true, Bool.not_false]
    · simp (disch := omega) only [fX11_compareElements, r2, SR (hs), zl_eq, bsm, ZS, ZT, ZN, ZU, eq_self, true_and, and_true, and_self, or_true, true_or, or_false, false_or, not_true, not_false_eq_true, Nat.reduceAdd, Nat.reduceMul, Nat.reduceLT, Nat.reduceLeDiff, Nat.reduceEqDiff, ↓reduceIte, ZQ, Bool.true_eq_false, Bool.false_eq_true, Bool.not_true, Bool.not_false]
  have ex := exists_ok g ht e2
  rcases cIdx g hs ha hm e3 e148 a2 with ⟨b1, b2⟩ | ⟨i, hi, rfl, b1, b2⟩
  · refine Ok2.same hI (r := -13) ?_ ?_
    · simp (disch := omega) only [fX10_compareElements, bX10_compareElements_47, ex, b1, SC (hs), zl_eq, bsm, ZS, ZT, ZN, ZU, eq_self, true_and, and_true, and_self, or_true, true_or, or_false, false_or, not_true, not_false_eq_true, Nat.reduceAdd, Nat.reduceMul, Nat.reduceLT, Nat.reduceLeDiff, Nat.reduceEqDiff, ↓reduceIte, ZQ, Bool.true_eq_false, Bool.false_eq_true, Bool.not_true, Bool.not_false]
    · simp (disch := omega) only [fX11_compareElements, bX11_compareElements_41, e147, b2, SR (hs), zl_eq, bsm, ZS, ZT, ZN, ZU, eq_self, true_and, and_true, and_self, or_true, true_or, or_false, false_or, not_true, not_false_eq_true, Nat.reduceAdd, Nat.reduceMul, Nat.reduceLT, Nat.reduceLeDiff, Nat.reduceEqDiff, ↓reduceIte, ZQ, Bool.true_eq_false, Bool.false_eq_true, Bool.not_true, Bool.not_false]
  rcases cIdx g hs ha hm e3 e148 a3 with ⟨d1, d2⟩ | ⟨j, hj, rfl, d1, d2⟩
  · refine Ok2.same hI (r := -13) ?_ ?_
    · simp (disch := omega) only [fX10_compareElements, bX10_compareElements_47, ex, b1, d1, SC (hs), zl_eq, bsm, ZS, ZT, ZN, ZU, eq_self, true_and, and_true, and_self, or_true, true_or, or_false, false_or, not_true, not_false_eq_true, Nat.reduceAdd, Nat.reduceMul, Nat.reduceLT, Nat.reduceLeDiff, Nat.reduceEqDiff, ↓reduceIte, ZQ, Bool.true_eq_false, Bool.false_eq_true, Bool.not_true, Bool.not_false]
    · simp (disch := omega) only [fX11_compareElements, bX11_compareElements_41, e147, b2, d2, SR (hs), zl_eq, bsm, ZS, ZT, ZN, ZU, eq_self, true_and, and_true, and_self, or_true, true_or, or_false, false_or, not_true, not_false_eq_true, Nat.reduceAdd, Nat.reduceMul, Nat.reduceLT, Nat.reduceLeDiff, Nat.reduceEqDiff, ↓reduceIte, ZQ, Bool.true_eq_false, Bool.false_eq_true, Bool.not_true, Bool.not_false]
  have gr0 : gR h 3 (105 + 3 * a) 0 = some (106 + 3 * a) := (gR_ok g.1.1 g.1.2.1).trans g.1.2.2.1
  have gr1 : gR h 3 (105 + 3 * a) 1 = some (107 + 3 * a) := (gR_ok g.1.1 g.1.2.1).trans g.1.2.2.2
  have lFi := g.2.1.lF (show i < 30 by omega) (by decide)
  have lFj := g.2.1.lF (show j < 30 by omega) (by decide)
  have lNi := g.2.2.lI (show i < 30 by omega) (by decide)
  have lNj := g.2.2.lI (show j < 30 by omega) (by decide)
  have rFi := (A151 hs).lF (show 30 * a + i < 120 by omega) (by decide)
  have rFj := (A151 hs).lF (show 30 * a + j < 120 by omega) (by decide)
  -- the object's answer
  have ordC : ∀ vi vj o, zI h (107 + 3 * a) i = nI 0 → zI h (107 + 3 * a) j = nI 0 → zF h (106 + 3 * a) i = vi → zF h (106 + 3 * a) j = vj → FP.fcmp vi vj = some o → fX3_order (105 + 3 * a) (nI i) (nI j) h = some (nI (oI o), h) := by
    intro vi vj o n1 n2 v1 v2 ho
    unfold fX3_order bX3_order_75 bX3_order_34
    rw [if_pos ⟨g.1.1, g.1.2.1⟩, b1, bsm, if_neg ne10, d1, bsm, if_neg ne10, gr1, bsm, lNi, bsm, n1, if_pos eq00, bsm, lNj, bsm, n2, if_pos eq00]
    simp only [gr0, lFi, lFj, v1, v2, bsm]
    exact cmpC ho (fun x => some (x, h))
  have ordN : (zI h (107 + 3 * a) i = nI 1 ∨ (zI h (107 + 3 * a) i = nI 0 ∧ zI h (107 + 3 * a) j = nI 1)) → fX3_order (105 + 3 * a) (nI i) (nI j) h = some (nI 3, h) := by
    intro q
    unfold fX3_order bX3_order_75 bX3_order_34
    rcases q with q | ⟨q, q2⟩
    · rw [if_pos ⟨g.1.1, g.1.2.1⟩, b1, bsm, if_neg ne10, d1, bsm, if_neg ne10, gr1, bsm, lNi, bsm, q, if_neg ne10]
    · rw [if_pos ⟨g.1.1, g.1.2.1⟩, b1, bsm, if_neg ne10, d1, bsm, if_neg ne10, gr1, bsm, lNi, bsm, q, if_pos eq00, bsm, lNj, bsm, q2, if_neg ne10]
  have fin : ∀ r, fX3_order (105 + 3 * a) (nI i) (nI j) h = some (r, h) → fX11_compareElements 117 (nI a) (nI i) (nI j) h = some (r, h) → ∃ r, wp (fX10_compareElements 0 (nI a) (nI i) (nI j) h) (fun x => x.1 = r ∧ wp (fX11_compareElements 117 (nI a) (nI i) (nI j) x.2) (fun y => y.1 = r ∧ INV y.2)) := by
    intro r q1 q2
    refine Ok2.same hI (r := r) ?_ q2
    simp (disch := omega) only [fX10_compareElements, ex, b1, d1, q1, SC (hs), zl_eq, bsm, ZS, ZT, ZN, ZU, eq_self, true_and, and_true, and_self, or_true, true_or, or_false, false_or, not_true, not_false_eq_true, Nat.reduceAdd, Nat.reduceMul, Nat.reduceLT, Nat.reduceLeDiff, Nat.reduceEqDiff, ↓reduceIte, ZQ, Bool.true_eq_false, Bool.false_eq_true, Bool.not_true, Bool.not_false]
  obtain ⟨i0, i1, i2⟩ := el i (by omega)
  obtain ⟨j0, j1, j2⟩ := el j (by omega)
  rcases (show t = 0 ∨ t = 1 ∨ t = 2 by omega) with rfl | rfl | rfl
  · obtain ⟨x, x1, x2, x3⟩ := i0 rfl
    obtain ⟨y, y1, y2, y3⟩ := j0 rfl
    obtain ⟨cx, hcx, ecx⟩ := ji2b_r x
    obtain ⟨cy, hcy, ecy⟩ := ji2b_r y
    obtain ⟨o, ho⟩ : ∃ o, FP.fcmp (FP.i2f (ji2b x)) (FP.i2f (ji2b y)) = some o := ⟨_, fcmp_i2f (by rw [ecx, pk_sub_toInt (by omega) (by decide)]; omega) (by rw [ecy, pk_sub_toInt (by omega) (by decide)]; omega)⟩
    refine fin _ (ordC _ _ o x1 y1 x3 y3 ho) ?_
    unfold fX11_compareElements bX11_compareElements_80
    simp (disch := omega) only [e147, b2, d2, x2, y2, show ((0 : Nat) = 2) = False by simp, cmpR ho, SR (hs), zl_eq, bsm, ZS, ZT, ZN, ZU, eq_self, true_and, and_true, and_self, or_true, true_or, or_false, false_or, not_true, not_false_eq_true, Nat.reduceAdd, Nat.reduceMul, Nat.reduceLT, Nat.reduceLeDiff, Nat.reduceEqDiff, ↓reduceIte, ZQ, Bool.true_eq_false, Bool.false_eq_true, Bool.not_true, Bool.not_false]
  · obtain ⟨x, x1, x2, x3⟩ := i1 rfl
    obtain ⟨y, y1, y2, y3⟩ := j1 rfl
    obtain ⟨cx, hcx, ecx⟩ := ji2c_r x
    obtain ⟨cy, hcy, ecy⟩ := ji2c_r y
    obtain ⟨o, ho⟩ : ∃ o, FP.fcmp (FP.i2f (ji2c x)) (FP.i2f (ji2c y)) = some o := ⟨_, fcmp_i2f (by rw [ecx, nI_toInt (by omega)]; omega) (by rw [ecy, nI_toInt (by omega)]; omega)⟩
    refine fin _ (ordC _ _ o x1 y1 x3 y3 ho) ?_
    unfold fX11_compareElements bX11_compareElements_80
    simp (disch := omega) only [e147, b2, d2, x2, y2, show ((1 : Nat) = 2) = False by simp, cmpR ho, SR (hs), zl_eq, bsm, ZS, ZT, ZN, ZU, eq_self, true_and, and_true, and_self, or_true, true_or, or_false, false_or, not_true, not_false_eq_true, Nat.reduceAdd, Nat.reduceMul, Nat.reduceLT, Nat.reduceLeDiff, Nat.reduceEqDiff, ↓reduceIte, ZQ, Bool.true_eq_false, Bool.false_eq_true, Bool.not_true, Bool.not_false]
  · have refv : ∀ r, bX11_compareElements_118 (zF h 151 (30 * a + i)) (zF h 151 (30 * a + j)) h = some (r, h) → fX11_compareElements 117 (nI a) (nI i) (nI j) h = some (r, h) := by
      intro r q
      unfold fX11_compareElements bX11_compareElements_80
      simp (disch := omega) only [e147, b2, d2, rFi, rFj, q, SR (hs), zl_eq, bsm, ZS, ZT, ZN, ZU, eq_self, true_and, and_true, and_self, or_true, true_or, or_false, false_or, not_true, not_false_eq_true, Nat.reduceAdd, Nat.reduceMul, Nat.reduceLT, Nat.reduceLeDiff, Nat.reduceEqDiff, ↓reduceIte, ZQ, Bool.true_eq_false, Bool.false_eq_true, Bool.not_true, Bool.not_false]
    rcases i2 rfl with ⟨x1, x2, x3⟩ | ⟨x1, x3⟩
    · rcases j2 rfl with ⟨y1, y2, y3⟩ | ⟨y1, y3⟩
      · obtain ⟨o, ho⟩ := ncmp x2 y2
        exact fin _ (ordC _ _ o x1 y1 rfl rfl ho) (refv _ (by rw [x3, y3]; exact cmpR ho h))
      · exact fin _ (ordN (Or.inr ⟨x1, y1⟩)) (refv _ (by rw [y3]; exact cmpN (nanR _) h))
    · exact fin _ (ordN (Or.inl x1)) (refv _ (by rw [x3]; exact cmpN (nanL _) h))
