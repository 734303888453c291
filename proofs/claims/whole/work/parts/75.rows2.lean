/-! ROWS OF NUMBERS: setNaN, createArray, setElement -/
theorem zfr.isRw {A : List Nat} {h h1 : ZH} (p : zfr A h h1) {a : Nat} (g : isRw h a) : isRw h1 a := by
  refine ⟨?_, p.isA g.2.1, p.isA g.2.2⟩
  obtain ⟨⟨p1, p2, p3, p4, p5⟩, -⟩ := p
  rw [p1, p3, p5]
  exact g.1
theorem rowR.cong {a : Nat} {h h' : ZH} (e1 : zI h' (105 + 3 * a) = zI h (105 + 3 * a)) (e2 : zF h' (106 + 3 * a) = zF h (106 + 3 * a)) (e3 : zI h' (107 + 3 * a) = zI h (107 + 3 * a)) (e4 : zI h' 148 a = zI h 148 a) (e5 : zI h' 149 a = zI h 149 a) (e6 : ∀ i, i < 30 → zI h' 150 (30 * a + i) = zI h 150 (30 * a + i)) (e7 : ∀ i, i < 30 → zF h' 151 (30 * a + i) = zF h 151 (30 * a + i)) (g : rowR a h) : rowR a h' := by
  rcases g with ⟨r1, r2⟩ | ⟨t, m, ht, hm, x2, x147, x3, x148, el⟩
  · exact Or.inl ⟨by rw [e1]; exact r1, by rw [e4]; exact r2⟩
  · refine Or.inr ⟨t, m, ht, hm, by rw [e1]; exact x2, by rw [e4]; exact x147, by rw [e1]; exact x3, by rw [e5]; exact x148, fun i hi => ?_⟩
    rw [e2, e3, e6 i hi, e7 i hi]
    exact el i hi
/-- all but one row's cells stand as they did -/
theorem INV_row {G : Nat → Nat → Nat} {n : Nat} {c : Nat → Nat} {h h' : ZH} {a : Nat} (g : INVg G n c h) (ha : a < 4) (p : zfr [105 + 3 * a, 106 + 3 * a, 107 + 3 * a, 148, 149, 150, 151] h h') (o4 : ∀ b, b ≠ a → zI h' 148 b = zI h 148 b) (o5 : ∀ b, b ≠ a → zI h' 149 b = zI h 149 b) (o6 : ∀ k, (k < 30 * a ∨ 30 * a + 30 ≤ k) → zI h' 150 k = zI h 150 k) (o7 : ∀ k, (k < 30 * a ∨ 30 * a + 30 ≤ k) → zF h' 151 k = zF h 151 k) (r : rowR a h') : INVg G n c h' := by
  obtain ⟨g1, g2, g3, g4, g5, g6, g7, g8⟩ := g
  have ni : ∀ b, b ≠ 105 + 3 * a → b ≠ 106 + 3 * a → b ≠ 107 + 3 * a → b ≠ 148 → b ≠ 149 → b ≠ 150 → b ≠ 151 → b ∉ [105 + 3 * a, 106 + 3 * a, 107 + 3 * a, 148, 149, 150, 151] := by
    intro b x1 x2 x3 x4 x5 x6 x7 hb
    simp only [List.mem_cons, List.not_mem_nil, or_false] at hb
    omega
  have nj : ∀ b, (b < 105 ∨ (116 < b ∧ b < 148)) → b ∉ [105 + 3 * a, 106 + 3 * a, 107 + 3 * a, 148, 149, 150, 151] := fun b hb => ni b (by omega) (by omega) (by omega) (by omega) (by omega) (by omega) (by omega)
  refine ⟨p.shp g1, g2.fr p (fun s hs => nj _ (by omega)) (nj _ (by omega)), g3.fr p (nj _ (by omega)) (nj _ (by omega)) (nj _ (by omega)) (by rw [p.I (nj _ (by omega))]), g4.fr p (nj _ (by omega)) (nj _ (by omega)) (nj _ (by omega)) (nj _ (by omega)) (fun x hx => nj _ (by omega)) (by rw [p.I (nj _ (by omega))]), g5.fr p (nj _ (by omega)) (nj _ (by omega)) (fun s hs => nj _ (by omega)) (by rw [p.I (nj _ (by omega))]), g6.fr p (nj _ (by omega)) (nj _ (by omega)) (nj _ (by omega)) (by rw [p.I (nj _ (by omega))]), fun b hb => ?_, g8.fr p (fun b hb => ?_) (nj _ (by omega)) (nj _ (by omega))⟩
  · by_cases e : b = a
    · rw [e]; exact r
    · exact (g7 b hb).cong (p.I (ni _ (by omega) (by omega) (by omega) (by omega) (by omega) (by omega) (by omega))) (p.F (ni _ (by omega) (by omega) (by omega) (by omega) (by omega) (by omega) (by omega))) (p.I (ni _ (by omega) (by omega) (by omega) (by omega) (by omega) (by omega) (by omega))) (o4 b e) (o5 b e) (fun i hi => o6 _ (by omega)) (fun i hi => o7 _ (by omega))
  · simp only [List.mem_cons, List.not_mem_nil, or_false] at hb
    omega
theorem isFloat_ok {h : ZH} {a t : Nat} (g : isRw h a) (ht : t < 3) (e2 : zI h (105 + 3 * a) 2 = nI t) : fX3_isFloat (105 + 3 * a) h = some (nI (if t = 2 then 1 else 0), h) := by
  unfold fX3_isFloat bX3_isFloat_13
  rw [if_pos ⟨g.1.1, g.1.2.1⟩, gI_ok g.1.1 g.1.2.1, bsm, e2]
  by_cases e : t = 2
  · rw [if_pos (by rw [e]), if_pos e]; rfl
  · rw [if_neg (fun q => e ((nI_eq (by omega) (by decide)).mp q)), if_neg e]; rfl
theorem c_setNaN (a1 a2 : Int32) : Ok2 (fX10_setNaN 0 a1 a2) (fX11_setNaN 117 a1 a2) := by
  refine Ok2.of (fun h G n c hI => ?_)
  have hs := hI.1
  rcases cArray a1 with b | ⟨a, ha, rfl⟩
  · refine Ok2.same hI (r := -2) ?_ ?_
    · simp (disch := omega) only [fX10_setNaN, fun q => (b q).1, SC (hs), zl_eq, bsm, ZS, ZT, ZN, ZU, eq_self, true_and, and_true, and_self, or_true, true_or, or_false, false_or, not_true, not_false_eq_true, Nat.reduceAdd, Nat.reduceMul, Nat.reduceLT, Nat.reduceLeDiff, Nat.reduceEqDiff, ↓reduceIte, ZQ, Bool.true_eq_false, Bool.false_eq_true, Bool.not_true, Bool.not_false]
    · simp (disch := omega) only [fX11_setNaN, fun q => (b q).2, SR (hs), zl_eq, bsm, ZS, ZT, ZN, ZU, eq_self, true_and, and_true, and_self, or_true, true_or, or_false, false_or, not_true, not_false_eq_true, Nat.reduceAdd, Nat.reduceMul, Nat.reduceLT, Nat.reduceLeDiff, Nat.reduceEqDiff, ↓reduceIte, ZQ, Bool.true_eq_false, Bool.false_eq_true, Bool.not_true, Bool.not_false]
  have g := Rw4 hs ha
  rcases hI.2.2.2.2.2.2.1 a ha with ⟨r1, r2⟩ | ⟨t, m, ht, hm, e2, e147, e3, e148, el⟩
  · refine Ok2.same hI (r := -11) ?_ ?_
    · simp (disch := omega) only [fX10_setNaN, exists_no g r1, SC (hs), zl_eq, bsm, ZS, ZT, ZN, ZU, eq_self, true_and, and_true, and_self, or_true, true_or, or_false, false_or, not_true, not_false_eq_true, Nat.reduceAdd, Nat.reduceMul, Nat.reduceLT, Nat.reduceLeDiff, Nat.reduceEqDiff, ↓reduceIte, ZQ, Bool.true_eq_false, Bool.false_eq_true, Bool.not_true, Bool.not_false]
    · simp (disch := omega) only [fX11_setNaN, r2, SR (hs), zl_eq, bsm, ZS, ZT, ZN, ZU, eq_self, true_and, and_true, and_self, or_true, true_or, or_false, false_or, not_true, not_false_eq_true, Nat.reduceAdd, Nat.reduceMul, Nat.reduceLT, Nat.reduceLeDiff, Nat.reduceEqDiff, ↓reduceIte, ZQ, Bool.true_eq_false, Bool.false_eq_true, Bool.not_true, Bool.not_false]
  have ex := exists_ok g ht e2
  have ef := isFloat_ok g ht e2
  by_cases h2 : t = 2
  · subst h2
    rw [if_pos rfl] at ef
    rcases cIdx g hs ha hm e3 e148 a2 with ⟨b1, b2⟩ | ⟨i, hi, rfl, b1, b2⟩
    · refine Ok2.same hI (r := -13) ?_ ?_
      · simp (disch := omega) only [fX10_setNaN, ex, ef, b1, SC (hs), zl_eq, bsm, ZS, ZT, ZN, ZU, eq_self, true_and, and_true, and_self, or_true, true_or, or_false, false_or, not_true, not_false_eq_true, Nat.reduceAdd, Nat.reduceMul, Nat.reduceLT, Nat.reduceLeDiff, Nat.reduceEqDiff, ↓reduceIte, ZQ, Bool.true_eq_false, Bool.false_eq_true, Bool.not_true, Bool.not_false]
      · simp (disch := omega) only [fX11_setNaN, e147, b2, SR (hs), zl_eq, bsm, ZS, ZT, ZN, ZU, eq_self, true_and, and_true, and_self, or_true, true_or, or_false, false_or, not_true, not_false_eq_true, Nat.reduceAdd, Nat.reduceMul, Nat.reduceLT, Nat.reduceLeDiff, Nat.reduceEqDiff, ↓reduceIte, ZQ, Bool.true_eq_false, Bool.false_eq_true, Bool.not_true, Bool.not_false]
    have gr1 : gR h 3 (105 + 3 * a) 1 = some (107 + 3 * a) := (gR_ok g.1.1 g.1.2.1).trans g.1.2.2.2
    have p1 : zfr [107 + 3 * a] h (zsI h (zu (zI h) (107 + 3 * a) i (nI 1))) := zfr_uI
    have em : fX3_makeNaN (105 + 3 * a) (nI i) h = some (zsI h (zu (zI h) (107 + 3 * a) i (nI 1))) := by
      unfold fX3_makeNaN bX3_makeNaN_15
      rw [if_pos ⟨g.1.1, g.1.2.1⟩, b1, bsm, if_neg ne10, gr1, bsm, g.2.2.sI (by omega) (by decide), bsm, zvn16 (by decide)]
    have z1 : zI (zsI h (zu (zI h) (107 + 3 * a) i (nI 1))) (107 + 3 * a) = fun k => if k = i then nI 1 else zI h (107 + 3 * a) k := by
      dsimp only [zI_zsI]; rw [zu_eq]
    generalize zsI h (zu (zI h) (107 + 3 * a) i (nI 1)) = h1 at p1 em z1
    have hs1 := p1.shp hs
    have e147' : zI h1 148 a = nI 2 := by rw [p1.I (mem1.mpr (by omega))]; exact e147
    have e148' : zI h1 149 a = nI m := by rw [p1.I (mem1.mpr (by omega))]; exact e148
    have e3' : zI h1 (105 + 3 * a) 3 = nI m := by rw [p1.I (mem1.mpr (by omega))]; exact e3
    have b2' : fX11_isIndex 117 (nI a) (nI i) h1 = some (nI 1, h1) := by
      unfold fX11_isIndex
      simp (disch := omega) only [e148', SR (hs1), zl_eq, bsm, ZS, ZT, ZN, ZU, eq_self, true_and, and_true, and_self, or_true, true_or, or_false, false_or, not_true, not_false_eq_true, Nat.reduceAdd, Nat.reduceMul, Nat.reduceLT, Nat.reduceLeDiff, Nat.reduceEqDiff, ↓reduceIte, ZQ, Bool.true_eq_false, Bool.false_eq_true, Bool.not_true, Bool.not_false]
    have p2 : zfr [151] h1 (zsF h1 (zu (zF h1) 151 (30 * a + i) 2143289344)) := zfr_uF
    have sf := (A151 hs1).sF (v := 2143289344) (show 30 * a + i < 120 by omega) (by decide)
    refine ⟨nI 1, (nI 1, h1), ?_, rfl, wp_eq (a := (nI 1, zsF h1 (zu (zF h1) 151 (30 * a + i) 2143289344))) ?_ ⟨rfl, G, n, c, ?_⟩⟩
    · unfold fX10_setNaN
      simp (disch := omega) only [ex, ef, b1, em, SC (hs), zl_eq, bsm, ZS, ZT, ZN, ZU, eq_self, true_and, and_true, and_self, or_true, true_or, or_false, false_or, not_true, not_false_eq_true, Nat.reduceAdd, Nat.reduceMul, Nat.reduceLT, Nat.reduceLeDiff, Nat.reduceEqDiff, ↓reduceIte, ZQ, Bool.true_eq_false, Bool.false_eq_true, Bool.not_true, Bool.not_false]
    · unfold fX11_setNaN
      simp (disch := omega) only [e147', b2', sf, SR (hs1), zl_eq, bsm, ZS, ZT, ZN, ZU, eq_self, true_and, and_true, and_self, or_true, true_or, or_false, false_or, not_true, not_false_eq_true, Nat.reduceAdd, Nat.reduceMul, Nat.reduceLT, Nat.reduceLeDiff, Nat.reduceEqDiff, ↓reduceIte, ZQ, Bool.true_eq_false, Bool.false_eq_true, Bool.not_true, Bool.not_false]
    · refine INV_row hI ha ((p1.trans p2).mono (fun b hb => by simp only [List.mem_append, List.mem_cons, List.not_mem_nil, or_false] at hb ⊢; omega)) (fun b _ => ?_) (fun b _ => ?_) (fun k _ => ?_) (fun k hk => ?_) (Or.inr ⟨2, m, by decide, hm, ?_, ?_, ?_, ?_, fun k hk => ⟨fun q => by omega, fun q => by omega, fun _ => ?_⟩⟩)
      · rw [p2.I (by decide), p1.I (mem1.mpr (by omega))]
      · rw [p2.I (by decide), p1.I (mem1.mpr (by omega))]
      · rw [p2.I (by decide), p1.I (mem1.mpr (by omega))]
      · show zu (zF h1) 151 (30 * a + i) _ 151 k = _
        rw [zu_at, if_neg (by omega), p1.F (mem1.mpr (by omega))]
      · rw [p2.I (mem1.mpr (by omega)), p1.I (mem1.mpr (by omega))]; exact e2
      · rw [p2.I (by decide)]; exact e147'
      · rw [p2.I (mem1.mpr (by omega))]; exact e3'
      · rw [p2.I (by decide)]; exact e148'
      · have f150 : zF (zsF h1 (zu (zF h1) 151 (30 * a + i) 2143289344)) 151 (30 * a + k) = if k = i then 2143289344 else zF h 151 (30 * a + k) := by
          show zu (zF h1) 151 (30 * a + i) _ 151 (30 * a + k) = _
          rw [zu_at, p1.F (mem1.mpr (by omega))]
          by_cases e : k = i
          · rw [if_pos (by omega), if_pos e]
          · rw [if_neg (by omega), if_neg e]
        rw [f150, p2.I (mem1.mpr (by omega)), z1, p2.F (mem1.mpr (by omega)), p1.F (mem1.mpr (by omega))]
        dsimp only
        by_cases e : k = i
        · rw [if_pos e, if_pos e]; exact Or.inr ⟨rfl, rfl⟩
        · rw [if_neg e, if_neg e]; exact (el k hk).2.2 rfl
  · rw [if_neg h2] at ef
    refine Ok2.same hI (r := -12) ?_ ?_
    · simp (disch := omega) only [fX10_setNaN, ex, ef, SC (hs), zl_eq, bsm, ZS, ZT, ZN, ZU, eq_self, true_and, and_true, and_self, or_true, true_or, or_false, false_or, not_true, not_false_eq_true, Nat.reduceAdd, Nat.reduceMul, Nat.reduceLT, Nat.reduceLeDiff, Nat.reduceEqDiff, ↓reduceIte, ZQ, Bool.true_eq_false, Bool.false_eq_true, Bool.not_true, Bool.not_false]
    · simp (disch := omega) only [fX11_setNaN, e147, h2, SR (hs), zl_eq, bsm, ZS, ZT, ZN, ZU, eq_self, true_and, and_true, and_self, or_true, true_or, or_false, false_or, not_true, not_false_eq_true, Nat.reduceAdd, Nat.reduceMul, Nat.reduceLT, Nat.reduceLeDiff, Nat.reduceEqDiff, ↓reduceIte, ZQ, Bool.true_eq_false, Bool.false_eq_true, Bool.not_true, Bool.not_false]
