/-! ROWS OF NUMBERS: createArray, setElement -/
theorem nn_of {v : UInt32} (h : v.toNat % 2 ^ 31 ≤ 2139095040) : nn v := by
  unfold nn
  rw [UInt32.le_iff_toNat_le, UInt32.toNat_and]
  have e : (0x7fffffff : UInt32).toNat = 2 ^ 31 - 1 := by decide
  have e2 : (0x7f800000 : UInt32).toNat = 2139095040 := by decide
  rw [e, e2, Nat.and_two_pow_sub_one_eq_mod]
  exact h
theorem f0_b : FP.fconst0 = FP.i2f (ji2b 0) := by decide +kernel
theorem f0_c : FP.fconst0 = FP.i2f (ji2c 0) := by decide +kernel
theorem f0_n : nn FP.fconst0 := by
  have : (FP.fconst0 &&& 0x7fffffff ≤ 0x7f800000) := by decide +kernel
  exact this
theorem create_ok {h : ZH} {a t n : Nat} (g : isRw h a) (hn : n ≤ 30) : ∃ h', fX3_create (105 + 3 * a) (nI t) (nI n) h = some h' ∧ zfr [105 + 3 * a, 106 + 3 * a, 107 + 3 * a] h h' ∧ zI h' (105 + 3 * a) 2 = nI t ∧ zI h' (105 + 3 * a) 3 = nI n ∧ ∀ i, i < 30 → zF h' (106 + 3 * a) i = FP.fconst0 ∧ zI h' (107 + 3 * a) i = nI 0 := by
  have key : wp (fX3_create (105 + 3 * a) (nI t) (nI n) h) (fun h' => zfr [105 + 3 * a, 106 + 3 * a, 107 + 3 * a] h h' ∧ zI h' (105 + 3 * a) 2 = nI t ∧ zI h' (105 + 3 * a) 3 = nI n ∧ ∀ i, i < 30 → zF h' (106 + 3 * a) i = FP.fconst0 ∧ zI h' (107 + 3 * a) i = nI 0) := by
    have p0 : zfr [105 + 3 * a, 106 + 3 * a, 107 + 3 * a] h (zsI h (zu (zu (zI h) (105 + 3 * a) 2 (nI t)) (105 + 3 * a) 3 (nI n))) := zfr_zsI (fun b hb => by
      have hb' : b ≠ 105 + 3 * a := fun e => hb (by rw [e]; exact List.mem_cons_self)
      rw [zu_ne hb', zu_ne hb'])
    have ej : jmmax (nI 0) (jmmin (nI n) (nI 30)) = nI n := by
      rw [jmmin_ok (by omega) (by decide), jmmax_ok (by decide) (by omega)]
      congr 1
      omega
    have w1 : pI h 3 (105 + 3 * a) 2 (nI t) = some (zsI h (zu (zI h) (105 + 3 * a) 2 (nI t))) := pI_ok g.1.1 g.1.2.1
    have w2 : pI (zsI h (zu (zI h) (105 + 3 * a) 2 (nI t))) 3 (105 + 3 * a) 3 (nI n) = some (zsI h (zu (zu (zI h) (105 + 3 * a) 2 (nI t)) (105 + 3 * a) 3 (nI n))) := by rw [pI_zsI, pI_ok g.1.1 g.1.2.1, bsm]
    unfold fX3_create
    rw [if_pos ⟨g.1.1, g.1.2.1⟩, w1, bsm, ej, w2, bsm]
    have z2 : zI (zsI h (zu (zu (zI h) (105 + 3 * a) 2 (nI t)) (105 + 3 * a) 3 (nI n))) (105 + 3 * a) 2 = nI t := by dsimp only [zI_zsI]; rw [zu_at, if_neg (by decide), zu_at, if_pos rfl]
    have z3 : zI (zsI h (zu (zu (zI h) (105 + 3 * a) 2 (nI t)) (105 + 3 * a) 3 (nI n))) (105 + 3 * a) 3 = nI n := by dsimp only [zI_zsI]; rw [zu_at, if_pos rfl]
    generalize zsI h (zu (zu (zI h) (105 + 3 * a) 2 (nI t)) (105 + 3 * a) 3 (nI n)) = h0 at p0 z2 z3
    have g0 := p0.isRw g
    refine wloop (fun j y => y.1 = nI j ∧ zfr [106 + 3 * a, 107 + 3 * a] h0 y.2 ∧ ∀ i, i < j → zF y.2 (106 + 3 * a) i = FP.fconst0 ∧ zI y.2 (107 + 3 * a) i = nI 0) 30 (fun j y self hj hy ih => ?_) (by decide) ⟨rfl, zfr.refl h0, fun i hi => by omega⟩
    obtain ⟨y, h1⟩ := y
    obtain ⟨rfl, p1, q1⟩ := hy
    dsimp only at p1 q1
    have g1 := p1.isRw g0
    show wp (kX3_create_21 (105 + 3 * a) self (nI j) h1) _
    unfold kX3_create_21
    by_cases hlt : j < 30
    · have gr0 : gR h1 3 (105 + 3 * a) 0 = some (106 + 3 * a) := (gR_ok g1.1.1 g1.1.2.1).trans g1.1.2.2.1
      have p2 : zfr [106 + 3 * a] h1 (zsF h1 (zu (zF h1) (106 + 3 * a) j FP.fconst0)) := zfr_uF
      have sf := g1.2.1.sF (v := FP.fconst0) hlt (by decide)
      have zf2 : zF (zsF h1 (zu (zF h1) (106 + 3 * a) j FP.fconst0)) (106 + 3 * a) = fun k => if k = j then FP.fconst0 else zF h1 (106 + 3 * a) k := by
        show zu (zF h1) (106 + 3 * a) j FP.fconst0 (106 + 3 * a) = _
        rw [zu_eq]
      generalize zsF h1 (zu (zF h1) (106 + 3 * a) j FP.fconst0) = h2 at p2 sf zf2
      have g2 := p2.isRw g1
      have gr1 : gR h2 3 (105 + 3 * a) 1 = some (107 + 3 * a) := (gR_ok g2.1.1 g2.1.2.1).trans g2.1.2.2.2
      have p3 : zfr [107 + 3 * a] h2 (zsI h2 (zu (zI h2) (107 + 3 * a) j (nI 0))) := zfr_uI
      rw [if_neg (nI_ge hlt (by decide)), gr0, bsm, sf, bsm, gr1, bsm, g2.2.2.sI hlt (by decide), bsm, zvn16 (by decide), nI_add]
      refine ih _ hlt ⟨rfl, p1.same ((p2.trans p3).mono (fun b hb => by simp only [List.mem_append, List.mem_cons, List.not_mem_nil, or_false] at hb ⊢; omega)), fun i hi => ?_⟩
      dsimp only
      rw [p3.F (mem1.mpr (by omega)), zf2]
      dsimp only [zI_zsI]
      rw [zu_at, p2.I (mem1.mpr (by omega))]
      by_cases e : i = j
      · rw [if_pos e, if_pos e]; exact ⟨rfl, rfl⟩
      · rw [if_neg e, if_neg e]; exact q1 i (by omega)
    · have : j = 30 := by omega
      subst this
      rw [if_pos (nI_le (Nat.le_refl 30) (by decide))]
      have n4 : 105 + 3 * a ∉ [106 + 3 * a, 107 + 3 * a] := by simp only [List.mem_cons, List.not_mem_nil, or_false]; omega
      exact wp_some ⟨p0.same (p1.mono (fun b hb => List.mem_cons_of_mem _ hb)), by rw [p1.I n4]; exact z2, by rw [p1.I n4]; exact z3, q1⟩
  exact key
theorem createR {h : ZH} {a t n : Nat} (hs : Sh h) (ha : a < 4) (ht : t < 3) (hn : n ≤ 30) : ∃ h', fX11_createArray 117 (nI a) (nI t) (nI n) h = some (nI 1, h') ∧ zfr [148, 149, 150, 151] h h' ∧ zI h' 148 a = nI t ∧ zI h' 149 a = nI n ∧ (∀ b, b ≠ a → zI h' 148 b = zI h 148 b) ∧ (∀ b, b ≠ a → zI h' 149 b = zI h 149 b) ∧ (∀ i, i < 30 → zI h' 150 (30 * a + i) = nI 0 ∧ zF h' 151 (30 * a + i) = FP.fconst0) ∧ ∀ k, (k < 30 * a ∨ 30 * a + 30 ≤ k) → zI h' 150 k = zI h 150 k ∧ zF h' 151 k = zF h 151 k := by
  have key : wp (fX11_createArray 117 (nI a) (nI t) (nI n) h) (fun r => r.1 = nI 1 ∧ zfr [148, 149, 150, 151] h r.2 ∧ zI r.2 148 a = nI t ∧ zI r.2 149 a = nI n ∧ (∀ b, b ≠ a → zI r.2 148 b = zI h 148 b) ∧ (∀ b, b ≠ a → zI r.2 149 b = zI h 149 b) ∧ (∀ i, i < 30 → zI r.2 150 (30 * a + i) = nI 0 ∧ zF r.2 151 (30 * a + i) = FP.fconst0) ∧ ∀ k, (k < 30 * a ∨ 30 * a + 30 ≤ k) → zI r.2 150 k = zI h 150 k ∧ zF r.2 151 k = zF h 151 k) := by
    unfold fX11_createArray
    simp (disch := omega) only [hn, SR (hs), zl_eq, bsm, ZS, ZT, ZN, ZU, eq_self, true_and, and_true, and_self, or_true, true_or, or_false, false_or, not_true, not_false_eq_true, Nat.reduceAdd, Nat.reduceMul, Nat.reduceLT, Nat.reduceLeDiff, Nat.reduceEqDiff, ↓reduceIte, ZQ, Bool.true_eq_false, Bool.false_eq_true, Bool.not_true, Bool.not_false]
    have p0 : zfr [148, 149, 150, 151] h (zsI h (zu (zu (zI h) 148 a (nI t)) 149 a (nI n))) := zfr_zsI (fun b hb => by
      rw [zu_ne (fun e => hb (by rw [e]; decide)), zu_ne (fun e => hb (by rw [e]; decide))])
    have z1 : zI (zsI h (zu (zu (zI h) 148 a (nI t)) 149 a (nI n))) 148 = fun k => if k = a then nI t else zI h 148 k := by dsimp only [zI_zsI]; rw [zu_ne (by decide), zu_eq]
    have z2 : zI (zsI h (zu (zu (zI h) 148 a (nI t)) 149 a (nI n))) 149 = fun k => if k = a then nI n else zI h 149 k := by dsimp only [zI_zsI]; rw [zu_eq, zu_ne (by decide)]
    have z3 : zI (zsI h (zu (zu (zI h) 148 a (nI t)) 149 a (nI n))) 150 = zI h 150 := by dsimp only [zI_zsI]; rw [zu_ne (by decide), zu_ne (by decide)]
    have z4 : zF (zsI h (zu (zu (zI h) 148 a (nI t)) 149 a (nI n))) = zF h := rfl
    generalize zsI h (zu (zu (zI h) 148 a (nI t)) 149 a (nI n)) = h0 at p0 z1 z2 z3 z4
    have hs0 := p0.shp hs
    refine wloop (fun j y => y.1 = nI j ∧ zfr [150, 151] h0 y.2 ∧ (∀ i, i < j → zI y.2 150 (30 * a + i) = nI 0 ∧ zF y.2 151 (30 * a + i) = FP.fconst0) ∧ ∀ k, (k < 30 * a ∨ 30 * a + 30 ≤ k) → zI y.2 150 k = zI h 150 k ∧ zF y.2 151 k = zF h 151 k) 30 (fun j y self hj hy ih => ?_) (by decide) ⟨rfl, zfr.refl h0, fun i hi => by omega, fun k _ => ⟨by rw [z3], by rw [z4]⟩⟩
    obtain ⟨y, h1⟩ := y
    obtain ⟨rfl, p1, q1, q2⟩ := hy
    dsimp only at p1 q1 q2
    have hs1 := p1.shp hs0
    show wp (kX11_createArray_49 117 (nI a) self (nI j) h1) _
    unfold kX11_createArray_49
    by_cases hlt : j < 30
    · have p2 : zfr [150] h1 (zsI h1 (zu (zI h1) 150 (30 * a + j) (nI 0))) := zfr_uI
      have si := (A150 hs1).sI (v := nI 0) (show 30 * a + j < 120 by omega) (by decide)
      rw [show zvn 14 (nI 0) = nI 0 from rfl] at si
      have zi2 : zI (zsI h1 (zu (zI h1) 150 (30 * a + j) (nI 0))) 150 = fun k => if k = 30 * a + j then nI 0 else zI h1 150 k := by dsimp only [zI_zsI]; rw [zu_eq]
      generalize zsI h1 (zu (zI h1) 150 (30 * a + j) (nI 0)) = h2 at p2 si zi2
      have hs2 := p2.shp hs1
      have p3 : zfr [151] h2 (zsF h2 (zu (zF h2) 151 (30 * a + j) FP.fconst0)) := zfr_uF
      have sf := (A151 hs2).sF (v := FP.fconst0) (show 30 * a + j < 120 by omega) (by decide)
      rw [if_neg (nI_ge hlt (by decide)), R117_42 hs1, bsm, pk_mul, nI_add, si, bsm, R117_43 hs2, bsm, sf, bsm, nI_add]
      refine ih _ hlt ⟨rfl, p1.same ((p2.trans p3).mono (by decide)), fun i hi => ?_, fun k hk => ?_⟩
      · dsimp only
        rw [p3.I (by decide), zi2]
        show _ ∧ zu (zF h2) 151 (30 * a + j) FP.fconst0 151 (30 * a + i) = _
        dsimp only
        rw [zu_at, p2.F (by decide)]
        by_cases e : i = j
        · rw [if_pos (by omega), if_pos (by omega)]; exact ⟨rfl, rfl⟩
        · rw [if_neg (by omega), if_neg (by omega)]; exact q1 i (by omega)
      · dsimp only
        rw [p3.I (by decide), zi2]
        show _ ∧ zu (zF h2) 151 (30 * a + j) FP.fconst0 151 k = _
        dsimp only
        rw [zu_at, p2.F (by decide), if_neg (by omega), if_neg (by omega)]
        exact q2 k hk
    · have : j = 30 := by omega
      subst this
      rw [if_pos (nI_le (Nat.le_refl 30) (by decide))]
      refine wp_some ⟨rfl, p0.same (p1.mono (by decide)), ?_, ?_, fun b hb => ?_, fun b hb => ?_, q1, q2⟩
      · rw [p1.I (by decide), z1]; exact if_pos rfl
      · rw [p1.I (by decide), z2]; exact if_pos rfl
      · rw [p1.I (by decide), z1]; exact if_neg hb
      · rw [p1.I (by decide), z2]; exact if_neg hb
  obtain ⟨⟨r, h'⟩, e, h1, h2⟩ := key
  dsimp only at h1
  subst h1
  exact ⟨h', e, h2⟩
theorem c_createArray (a1 a2 a3 : Int32) : Ok2 (fX10_createArray 0 a1 a2 a3) (fX11_createArray 117 a1 a2 a3) := by
  refine Ok2.of (fun h G n c hI => ?_)
  have hs := hI.1
  rcases cArray a1 with b | ⟨a, ha, rfl⟩
  · refine Ok2.same hI (r := -2) ?_ ?_
    · simp (disch := omega) only [fX10_createArray, bX10_createArray_22, fun q => (b q).1, SC (hs), zl_eq, bsm, ZS, ZT, ZN, ZU, eq_self, true_and, and_true, and_self, or_true, true_or, or_false, false_or, not_true, not_false_eq_true, Nat.reduceAdd, Nat.reduceMul, Nat.reduceLT, Nat.reduceLeDiff, Nat.reduceEqDiff, ↓reduceIte, ZQ, Bool.true_eq_false, Bool.false_eq_true, Bool.not_true, Bool.not_false]
    · simp (disch := omega) only [fX11_createArray, bX11_createArray_22, fun q => (b q).2, SR (hs), zl_eq, bsm, ZS, ZT, ZN, ZU, eq_self, true_and, and_true, and_self, or_true, true_or, or_false, false_or, not_true, not_false_eq_true, Nat.reduceAdd, Nat.reduceMul, Nat.reduceLT, Nat.reduceLeDiff, Nat.reduceEqDiff, ↓reduceIte, ZQ, Bool.true_eq_false, Bool.false_eq_true, Bool.not_true, Bool.not_false]
  rcases cIn a2 (lo := 0) (hi := 2) (by decide) (by decide) with b | ⟨t, -, ht, rfl⟩
  · refine Ok2.same hI (r := -2) ?_ ?_
    · simp (disch := omega) only [fX10_createArray, bX10_createArray_22, fun q => (b q).1, SC (hs), zl_eq, bsm, ZS, ZT, ZN, ZU, eq_self, true_and, and_true, and_self, or_true, true_or, or_false, false_or, not_true, not_false_eq_true, Nat.reduceAdd, Nat.reduceMul, Nat.reduceLT, Nat.reduceLeDiff, Nat.reduceEqDiff, ↓reduceIte, ZQ, Bool.true_eq_false, Bool.false_eq_true, Bool.not_true, Bool.not_false]
    · simp (disch := omega) only [fX11_createArray, bX11_createArray_22, fun q => (b q).2, SR (hs), zl_eq, bsm, ZS, ZT, ZN, ZU, eq_self, true_and, and_true, and_self, or_true, true_or, or_false, false_or, not_true, not_false_eq_true, Nat.reduceAdd, Nat.reduceMul, Nat.reduceLT, Nat.reduceLeDiff, Nat.reduceEqDiff, ↓reduceIte, ZQ, Bool.true_eq_false, Bool.false_eq_true, Bool.not_true, Bool.not_false]
  by_cases h30 : a3 ≤ nI 30
  · by_cases h0 : 0 ≤ a3
    · obtain ⟨m, hm31, rfl⟩ := nI_of (x := a3) (Int32.not_lt.mpr h0)
      have hm : m ≤ 30 := (nI_leI hm31 (by decide)).mp h30
      have g := Rw4 hs ha
      obtain ⟨h1, e1, p1, c2, c3, cl⟩ := create_ok (t := t) g hm
      have hs1 := p1.shp hs
      obtain ⟨h2, e2, p2, d1, d2, d3, d4, d5, d6⟩ := createR (t := t) hs1 ha (by omega) hm
      have ni : ∀ b, 116 < b → b ∉ [105 + 3 * a, 106 + 3 * a, 107 + 3 * a] := fun b hb q => by
        simp only [List.mem_cons, List.not_mem_nil, or_false] at q
        omega
      have nk : ∀ b, b < 148 → b ∉ [148, 149, 150, 151] := fun b hb q => by
        simp only [List.mem_cons, List.not_mem_nil, or_false] at q
        omega
      refine ⟨nI 1, (nI 1, h1), ?_, rfl, wp_eq (a := (nI 1, h2)) e2 ⟨rfl, G, n, c, ?_⟩⟩
      · unfold fX10_createArray
        simp (disch := omega) only [hm, SC (hs), zl_eq, bsm, ZS, ZT, ZN, ZU, eq_self, true_and, and_true, and_self, or_true, true_or, or_false, false_or, not_true, not_false_eq_true, Nat.reduceAdd, Nat.reduceMul, Nat.reduceLT, Nat.reduceLeDiff, Nat.reduceEqDiff, ↓reduceIte, ZQ, Bool.true_eq_false, Bool.false_eq_true, Bool.not_true, Bool.not_false]
        rw [e1, bsm]
      · refine INV_row hI ha ((p1.trans p2).mono (fun b hb => by simp only [List.mem_append, List.mem_cons, List.not_mem_nil, or_false] at hb ⊢; omega)) (fun b hb => by rw [d3 b hb, p1.I (ni _ (by omega))]) (fun b hb => by rw [d4 b hb, p1.I (ni _ (by omega))]) (fun k hk => by rw [(d6 k hk).1, p1.I (ni _ (by omega))]) (fun k hk => by rw [(d6 k hk).2, p1.F (ni _ (by omega))]) (Or.inr ⟨t, m, by omega, hm, by rw [p2.I (nk _ (by omega))]; exact c2, d1, by rw [p2.I (nk _ (by omega))]; exact c3, d2, fun i hi => ?_⟩)
        rw [p2.I (nk _ (by omega)), p2.F (nk _ (by omega)), (d5 i hi).1, (d5 i hi).2, (cl i hi).1, (cl i hi).2]
        exact ⟨fun _ => ⟨0, rfl, by decide, f0_b⟩, fun _ => ⟨0, rfl, by decide, f0_c⟩, fun _ => Or.inl ⟨rfl, f0_n, rfl⟩⟩
    · refine Ok2.same hI (r := -14) ?_ ?_
      · simp (disch := omega) only [fX10_createArray, eq_true h30, eq_false h0, SC (hs), zl_eq, bsm, ZS, ZT, ZN, ZU, eq_self, true_and, and_true, and_self, or_true, true_or, or_false, false_or, not_true, not_false_eq_true, Nat.reduceAdd, Nat.reduceMul, Nat.reduceLT, Nat.reduceLeDiff, Nat.reduceEqDiff, ↓reduceIte, ZQ, Bool.true_eq_false, Bool.false_eq_true, Bool.not_true, Bool.not_false]
      · simp (disch := omega) only [fX11_createArray, eq_true h30, eq_false h0, SR (hs), zl_eq, bsm, ZS, ZT, ZN, ZU, eq_self, true_and, and_true, and_self, or_true, true_or, or_false, false_or, not_true, not_false_eq_true, Nat.reduceAdd, Nat.reduceMul, Nat.reduceLT, Nat.reduceLeDiff, Nat.reduceEqDiff, ↓reduceIte, ZQ, Bool.true_eq_false, Bool.false_eq_true, Bool.not_true, Bool.not_false]
  · refine Ok2.same hI (r := -2) ?_ ?_
    · simp (disch := omega) only [fX10_createArray, bX10_createArray_22, eq_false h30, SC (hs), zl_eq, bsm, ZS, ZT, ZN, ZU, eq_self, true_and, and_true, and_self, or_true, true_or, or_false, false_or, not_true, not_false_eq_true, Nat.reduceAdd, Nat.reduceMul, Nat.reduceLT, Nat.reduceLeDiff, Nat.reduceEqDiff, ↓reduceIte, ZQ, Bool.true_eq_false, Bool.false_eq_true, Bool.not_true, Bool.not_false]
    · simp (disch := omega) only [fX11_createArray, bX11_createArray_22, eq_false h30, SR (hs), zl_eq, bsm, ZS, ZT, ZN, ZU, eq_self, true_and, and_true, and_self, or_true, true_or, or_false, false_or, not_true, not_false_eq_true, Nat.reduceAdd, Nat.reduceMul, Nat.reduceLT, Nat.reduceLeDiff, Nat.reduceEqDiff, ↓reduceIte, ZQ, Bool.true_eq_false, Bool.false_eq_true, Bool.not_true, Bool.not_false]
