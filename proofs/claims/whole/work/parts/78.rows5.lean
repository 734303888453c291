/-! ROWS OF NUMBERS: checkCounts -/
theorem cmp_eq {i j : Int} : compare i j = .eq ↔ i = j := Int.compare_eq_eq
theorem jl0 {x y : UInt32} {o : Ordering} (h : FP.fcmp x y = some o) : (jfcmp x y .l = 0) ↔ o = .eq := by
  unfold jfcmp
  rw [h]
  cases o <;> decide
theorem jlN {x y : UInt32} (h : FP.fcmp x y = none) : ¬ (jfcmp x y .l = 0) := by
  unfold jfcmp
  rw [h]
  decide
/-- whether an element is a number's, as both say it -/
theorem holds_ok {h : ZH} {a t n i : Nat} (hs : Sh h) (ha : a < 4) (ht : t < 3) (hn : n ≤ 30) (hi : i < n) (e2 : zI h (105 + 3 * a) 2 = nI t) (e147 : zI h 148 a = nI t) (e3 : zI h (105 + 3 * a) 3 = nI n) (el : (t = 0 → ∃ x, zI h (107 + 3 * a) i = nI 0 ∧ zI h 150 (30 * a + i) = ji2b x ∧ zF h (106 + 3 * a) i = FP.i2f (ji2b x)) ∧ (t = 1 → ∃ x, zI h (107 + 3 * a) i = nI 0 ∧ zI h 150 (30 * a + i) = ji2c x ∧ zF h (106 + 3 * a) i = FP.i2f (ji2c x)) ∧ (t = 2 → (zI h (107 + 3 * a) i = nI 0 ∧ nn (zF h (106 + 3 * a) i) ∧ zF h 151 (30 * a + i) = zF h (106 + 3 * a) i) ∨ (zI h (107 + 3 * a) i = nI 1 ∧ zF h 151 (30 * a + i) = 2143289344))) (q : Int64) : ∃ b : Bool, fX3_holds (105 + 3 * a) (nI i) q h = some (nI b.toNat, h) ∧ ∀ h', Sh h' → zI h' 148 a = nI t → zI h' 150 (30 * a + i) = zI h 150 (30 * a + i) → zF h' 151 (30 * a + i) = zF h 151 (30 * a + i) → fX11_holds 117 (nI a) (nI i) q h' = some (nI b.toNat, h') := by
  have g := Rw4 hs ha
  have gr0 : gR h 3 (105 + 3 * a) 0 = some (106 + 3 * a) := (gR_ok g.1.1 g.1.2.1).trans g.1.2.2.1
  have gr1 : gR h 3 (105 + 3 * a) 1 = some (107 + 3 * a) := (gR_ok g.1.1 g.1.2.1).trans g.1.2.2.2
  have gi : gI h 3 (105 + 3 * a) 2 = some (nI t) := (gI_ok g.1.1 g.1.2.1).trans (congrArg some e2)
  have gi3 : gI h 3 (105 + 3 * a) 3 = some (nI n) := (gI_ok g.1.1 g.1.2.1).trans (congrArg some e3)
  have hx : fX3_hasIndex (105 + 3 * a) (nI i) h = some (nI 1, h) := by
    unfold fX3_hasIndex bX3_hasIndex_23
    rw [if_pos ⟨g.1.1, g.1.2.1⟩, if_neg (nI_pos (by omega)), gi3, bsm, if_neg (nI_ge hi (by omega)), if_neg (nI_ge (by omega) (by decide))]
    rfl
  have lFi := g.2.1.lF (show i < 30 by omega) (by decide)
  have lN' := g.2.2.lI (show i < 30 by omega) (by decide)
  have cls : ∀ y b, zI h (107 + 3 * a) i = nI 0 → fX3_converted (105 + 3 * a) q h = some (y, h) → ((jfcmp (zF h (106 + 3 * a) i) y .l = 0) ↔ b = true) → fX3_holds (105 + 3 * a) (nI i) q h = some (nI b.toNat, h) := by
    intro y b n0 ec hb
    unfold fX3_holds bX3_holds_36 bX3_holds_37
    rw [if_pos ⟨g.1.1, g.1.2.1⟩, hx, bsm, if_neg ne10, gr1, bsm, lN', bsm, n0, if_pos eq00, gr0, bsm, lFi, bsm, ec, bsm]
    cases b
    · rw [if_neg (fun q => by cases hb.mp q)]; rfl
    · rw [if_pos (hb.mpr rfl)]; rfl
  rcases (show t = 0 ∨ t = 1 ∨ t = 2 by omega) with rfl | rfl | rfl
  · obtain ⟨x, x1, x2, x3⟩ := el.1 rfl
    have ec : fX3_converted (105 + 3 * a) q h = some (FP.i2f (ji2b q.toInt32), h) := by
      unfold fX3_converted
      rw [if_pos ⟨g.1.1, g.1.2.1⟩, gi, bsm, if_pos eq00]
    obtain ⟨cx, hcx, ecx⟩ := ji2b_r x
    obtain ⟨cy, hcy, ecy⟩ := ji2b_r q.toInt32
    have hc := fcmp_i2f (a := ji2b x) (b := ji2b q.toInt32) (by rw [ecx, pk_sub_toInt (by omega) (by decide)]; omega) (by rw [ecy, pk_sub_toInt (by omega) (by decide)]; omega)
    have hb : (jfcmp (zF h (106 + 3 * a) i) (FP.i2f (ji2b q.toInt32)) .l = 0) ↔ decide (ji2b x = ji2b q.toInt32) = true := by
      rw [x3, jl0 hc, cmp_eq, decide_eq_true_iff, Int32.toInt_inj]
    refine ⟨_, cls _ _ x1 ec hb, fun h' hsp e147' e149 _ => ?_⟩
    unfold fX11_holds bX11_holds_54
    rw [x2] at e149
    by_cases e : ji2b x = ji2b q.toInt32
    · simp (disch := omega) only [e147', e149, eq_true e, decide_true, Bool.toNat_true, SR (hsp), zl_eq, bsm, ZS, ZT, ZN, ZU, eq_self, true_and, and_true, and_self, or_true, true_or, or_false, false_or, not_true, not_false_eq_true, Nat.reduceAdd, Nat.reduceMul, Nat.reduceLT, Nat.reduceLeDiff, Nat.reduceEqDiff, ↓reduceIte, ZQ, Bool.true_eq_false, Bool.false_eq_true, Bool.not_true, Bool.not_false]
    · simp (disch := omega) only [e147', e149, eq_false e, decide_false, Bool.toNat_false, SR (hsp), zl_eq, bsm, ZS, ZT, ZN, ZU, eq_self, true_and, and_true, and_self, or_true, true_or, or_false, false_or, not_true, not_false_eq_true, Nat.reduceAdd, Nat.reduceMul, Nat.reduceLT, Nat.reduceLeDiff, Nat.reduceEqDiff, ↓reduceIte, ZQ, Bool.true_eq_false, Bool.false_eq_true, Bool.not_true, Bool.not_false]
  · obtain ⟨x, x1, x2, x3⟩ := el.2.1 rfl
    have ec : fX3_converted (105 + 3 * a) q h = some (FP.i2f (ji2c q.toInt32), h) := by
      unfold fX3_converted bX3_converted_29
      rw [if_pos ⟨g.1.1, g.1.2.1⟩, gi, bsm, if_neg ne10, bsm, if_pos rfl]
    obtain ⟨cx, hcx, ecx⟩ := ji2c_r x
    obtain ⟨cy, hcy, ecy⟩ := ji2c_r q.toInt32
    have hc := fcmp_i2f (a := ji2c x) (b := ji2c q.toInt32) (by rw [ecx, nI_toInt (by omega)]; omega) (by rw [ecy, nI_toInt (by omega)]; omega)
    have hb : (jfcmp (zF h (106 + 3 * a) i) (FP.i2f (ji2c q.toInt32)) .l = 0) ↔ decide (ji2c x = ji2c q.toInt32) = true := by
      rw [x3, jl0 hc, cmp_eq, decide_eq_true_iff, Int32.toInt_inj]
    refine ⟨_, cls _ _ x1 ec hb, fun h' hsp e147' e149 _ => ?_⟩
    unfold fX11_holds bX11_holds_77
    rw [x2] at e149
    by_cases e : ji2c x = ji2c q.toInt32
    · simp (disch := omega) only [e147', e149, eq_true e, decide_true, Bool.toNat_true, SR (hsp), zl_eq, bsm, ZS, ZT, ZN, ZU, eq_self, true_and, and_true, and_self, or_true, true_or, or_false, false_or, not_true, not_false_eq_true, Nat.reduceAdd, Nat.reduceMul, Nat.reduceLT, Nat.reduceLeDiff, Nat.reduceEqDiff, ↓reduceIte, ZQ, Bool.true_eq_false, Bool.false_eq_true, Bool.not_true, Bool.not_false]
    · simp (disch := omega) only [e147', e149, eq_false e, decide_false, Bool.toNat_false, SR (hsp), zl_eq, bsm, ZS, ZT, ZN, ZU, eq_self, true_and, and_true, and_self, or_true, true_or, or_false, false_or, not_true, not_false_eq_true, Nat.reduceAdd, Nat.reduceMul, Nat.reduceLT, Nat.reduceLeDiff, Nat.reduceEqDiff, ↓reduceIte, ZQ, Bool.true_eq_false, Bool.false_eq_true, Bool.not_true, Bool.not_false]
  · have ec : fX3_converted (105 + 3 * a) q h = some (FP.l2f q, h) := by
      unfold fX3_converted bX3_converted_29
      rw [if_pos ⟨g.1.1, g.1.2.1⟩, gi, bsm, if_neg (by decide), bsm, if_neg (by decide)]
    have rf : ∀ h', Sh h' → lF h' 151 (nI (30 * a + i)) = some (zF h' 151 (30 * a + i)) := fun h' hsp => (A151 hsp).lF (by omega) (by decide)
    rcases el.2.2 rfl with ⟨x1, x2, x3⟩ | ⟨x1, x3⟩
    · refine ⟨decide (jfcmp (zF h (106 + 3 * a) i) (FP.l2f q) .l = 0), cls _ _ x1 ec (by rw [decide_eq_true_iff]), fun h' hsp e147' _ e150 => ?_⟩
      rw [x3] at e150
      unfold fX11_holds bX11_holds_100
      by_cases e : jfcmp (zF h (106 + 3 * a) i) (FP.l2f q) .l = 0
      · simp (disch := omega) only [e147', show ((2 : Nat) = 0) = False by simp, show ((2 : Nat) = 1) = False by simp, rf h' hsp, e150, eq_true e, decide_true, Bool.toNat_true, SR (hsp), zl_eq, bsm, ZS, ZT, ZN, ZU, eq_self, true_and, and_true, and_self, or_true, true_or, or_false, false_or, not_true, not_false_eq_true, Nat.reduceAdd, Nat.reduceMul, Nat.reduceLT, Nat.reduceLeDiff, Nat.reduceEqDiff, ↓reduceIte, ZQ, Bool.true_eq_false, Bool.false_eq_true, Bool.not_true, Bool.not_false]
      · simp (disch := omega) only [e147', show ((2 : Nat) = 0) = False by simp, show ((2 : Nat) = 1) = False by simp, rf h' hsp, e150, eq_false e, decide_false, Bool.toNat_false, SR (hsp), zl_eq, bsm, ZS, ZT, ZN, ZU, eq_self, true_and, and_true, and_self, or_true, true_or, or_false, false_or, not_true, not_false_eq_true, Nat.reduceAdd, Nat.reduceMul, Nat.reduceLT, Nat.reduceLeDiff, Nat.reduceEqDiff, ↓reduceIte, ZQ, Bool.true_eq_false, Bool.false_eq_true, Bool.not_true, Bool.not_false]
    · refine ⟨false, ?_, fun h' hsp e147' _ e150 => ?_⟩
      · unfold fX3_holds bX3_holds_36 bX3_holds_37
        rw [if_pos ⟨g.1.1, g.1.2.1⟩, hx, bsm, if_neg ne10, gr1, bsm, lN', bsm, x1, if_neg ne10]
        rfl
      · rw [x3] at e150
        have e := jlN (nanL (FP.l2f q))
        unfold fX11_holds bX11_holds_100
        simp (disch := omega) only [e147', show ((2 : Nat) = 0) = False by simp, show ((2 : Nat) = 1) = False by simp, rf h' hsp, e150, eq_false e, Bool.toNat_false, SR (hsp), zl_eq, bsm, ZS, ZT, ZN, ZU, eq_self, true_and, and_true, and_self, or_true, true_or, or_false, false_or, not_true, not_false_eq_true, Nat.reduceAdd, Nat.reduceMul, Nat.reduceLT, Nat.reduceLeDiff, Nat.reduceEqDiff, ↓reduceIte, ZQ, Bool.true_eq_false, Bool.false_eq_true, Bool.not_true, Bool.not_false]
theorem exBad (n : Nat) (p : Nat → Bool) : ∃ k, k ≤ n ∧ (∀ j, j < k → p j = true) ∧ (k < n → p k = false) := by
  induction n with
  | zero => exact ⟨0, Nat.le_refl _, fun j hj => by omega, fun h => by omega⟩
  | succ n ih =>
    obtain ⟨k, h1, h2, h3⟩ := ih
    by_cases e : k < n
    · exact ⟨k, by omega, h2, fun _ => h3 e⟩
    · have : k = n := by omega
      subst this
      by_cases hf : p k = true
      · refine ⟨k + 1, Nat.le_refl _, fun j hj => ?_, fun h => by omega⟩
        by_cases ej : j = k
        · rw [ej]; exact hf
        · exact h2 j (by omega)
      · exact ⟨k, by omega, h2, fun _ => by simpa using hf⟩
theorem c_checkCounts (a1 a2 : Int32) : Ok2 (fX10_checkCounts 0 a1 a2) (fX11_checkCounts 117 a1 a2) := by
  refine Ok2.of (fun h G n c hI => ?_)
  have hs := hI.1
  rcases cArray a1 with b | ⟨a, ha, rfl⟩
  · refine Ok2.same hI (r := -2) ?_ ?_
    · simp (disch := omega) only [fX10_checkCounts, bX10_checkCounts_14, fun q => (b q).1, SC (hs), zl_eq, bsm, ZS, ZT, ZN, ZU, eq_self, true_and, and_true, and_self, or_true, true_or, or_false, false_or, not_true, not_false_eq_true, Nat.reduceAdd, Nat.reduceMul, Nat.reduceLT, Nat.reduceLeDiff, Nat.reduceEqDiff, ↓reduceIte, ZQ, Bool.true_eq_false, Bool.false_eq_true, Bool.not_true, Bool.not_false]
    · simp (disch := omega) only [fX11_checkCounts, bX11_checkCounts_14, fun q => (b q).2, SR (hs), zl_eq, bsm, ZS, ZT, ZN, ZU, eq_self, true_and, and_true, and_self, or_true, true_or, or_false, false_or, not_true, not_false_eq_true, Nat.reduceAdd, Nat.reduceMul, Nat.reduceLT, Nat.reduceLeDiff, Nat.reduceEqDiff, ↓reduceIte, ZQ, Bool.true_eq_false, Bool.false_eq_true, Bool.not_true, Bool.not_false]
  rcases cSlot a2 with b | ⟨s, h6, rfl⟩
  · refine Ok2.same hI (r := -2) ?_ ?_
    · simp (disch := omega) only [fX10_checkCounts, bX10_checkCounts_14, fun q => (b q).1, SC (hs), zl_eq, bsm, ZS, ZT, ZN, ZU, eq_self, true_and, and_true, and_self, or_true, true_or, or_false, false_or, not_true, not_false_eq_true, Nat.reduceAdd, Nat.reduceMul, Nat.reduceLT, Nat.reduceLeDiff, Nat.reduceEqDiff, ↓reduceIte, ZQ, Bool.true_eq_false, Bool.false_eq_true, Bool.not_true, Bool.not_false]
    · simp (disch := omega) only [fX11_checkCounts, bX11_checkCounts_14, fun q => (b q).2, SR (hs), zl_eq, bsm, ZS, ZT, ZN, ZU, eq_self, true_and, and_true, and_self, or_true, true_or, or_false, false_or, not_true, not_false_eq_true, Nat.reduceAdd, Nat.reduceMul, Nat.reduceLT, Nat.reduceLeDiff, Nat.reduceEqDiff, ↓reduceIte, ZQ, Bool.true_eq_false, Bool.false_eq_true, Bool.not_true, Bool.not_false]
  have g := Rw4 hs ha
  rcases hI.2.2.2.2.2.2.1 a ha with ⟨r1, r2⟩ | ⟨t, m, ht, hm, e2, e147, e3, e148, el⟩
  · refine Ok2.same hI (r := -11) ?_ ?_
    · simp (disch := omega) only [fX10_checkCounts, exists_no g r1, SC (hs), zl_eq, bsm, ZS, ZT, ZN, ZU, eq_self, true_and, and_true, and_self, or_true, true_or, or_false, false_or, not_true, not_false_eq_true, Nat.reduceAdd, Nat.reduceMul, Nat.reduceLT, Nat.reduceLeDiff, Nat.reduceEqDiff, ↓reduceIte, ZQ, Bool.true_eq_false, Bool.false_eq_true, Bool.not_true, Bool.not_false]
    · simp (disch := omega) only [fX11_checkCounts, r2, SR (hs), zl_eq, bsm, ZS, ZT, ZN, ZU, eq_self, true_and, and_true, and_self, or_true, true_or, or_false, false_or, not_true, not_false_eq_true, Nat.reduceAdd, Nat.reduceMul, Nat.reduceLT, Nat.reduceLeDiff, Nat.reduceEqDiff, ↓reduceIte, ZQ, Bool.true_eq_false, Bool.false_eq_true, Bool.not_true, Bool.not_false]
  have ex := exists_ok g ht e2
  have elen : ∀ h' : ZH, isRw h' a → zI h' (105 + 3 * a) 3 = nI m → fX3_length (105 + 3 * a) h' = some (nI m, h') := fun h' g' e => by
    unfold fX3_length
    rw [if_pos ⟨g'.1.1, g'.1.2.1⟩, gI_ok g'.1.1 g'.1.2.1, bsm, e]
  have hxx : ∀ k, 1 ≤ k → k ≤ 31 → ((nI m - nI 1) < nI k ↔ m - 1 < k) := by
    intro k k1 k2
    by_cases hm0 : m = 0
    · subst hm0
      have e : nI 0 - nI 1 = (-1 : Int32) := by decide
      rw [e, Int32.lt_iff_toInt_lt, nI_toInt (by omega), show (-1 : Int32).toInt = -1 by decide]
      omega
    · rw [pk_sub (by omega)]
      exact nI_ltI (by omega) (by omega)
  obtain ⟨h1, e1, p1, -, q1⟩ := countWords_ok hI h6 (m := m - 1) (by omega) hxx
  have g1 := hI.fr (fqS p1)
  obtain ⟨h2, h3, w2, w3, f3, p3, pr, wt⟩ := tables_ok g1.1 g1.2.1.rr h6 (m := 30) (Nat.le_refl _)
  have g3 := g1.fr f3
  have he := ess_lt (G s)
  have nS : ∀ b, b ∈ SCR1 → b ≤ 50 := by decide
  have ni : ∀ b, 50 < b → b ∉ SCR1 := fun b hb q => by have := nS b q; omega
  have gg1 := p1.isRw g
  have e2' : zI h1 (105 + 3 * a) 2 = nI t := by rw [p1.I (ni _ (by omega))]; exact e2
  have e3' : zI h1 (105 + 3 * a) 3 = nI m := by rw [p1.I (ni _ (by omega))]; exact e3
  have e147' : zI h1 148 a = nI t := by rw [p1.I (ni _ (by omega))]; exact e147
  have hol : ∀ i, ∃ b : Bool, i < m → (fX3_holds (105 + 3 * a) (nI i) (lN (wc (G s) i (ess (G s)))) h1 = some (nI b.toNat, h1) ∧ fX11_holds 117 (nI a) (nI i) (lN (wc (G s) i (ess (G s)))) h3 = some (nI b.toNat, h3)) := by
    intro i
    by_cases hi : i < m
    · obtain ⟨b, c1, c2⟩ := holds_ok g1.1 ha ht hm hi e2' e147' e3' (by
        rw [p1.I (ni _ (by omega)), p1.F (ni _ (by omega)), p1.I (ni 150 (by omega)), p1.F (ni 151 (by omega))]
        exact el i (by omega)) (lN (wc (G s) i (ess (G s))))
      exact ⟨b, fun _ => ⟨c1, c2 h3 g3.1 (by rw [p3.I (by decide)]; exact e147') (by rw [p3.I (by decide)]) (by rw [p3.F (by decide)])⟩⟩
    · exact ⟨false, fun q => absurd q hi⟩
  obtain ⟨P, hok⟩ : ∃ P : Nat → Bool, ∀ i, i < m → (fX3_holds (105 + 3 * a) (nI i) (lN (wc (G s) i (ess (G s)))) h1 = some (nI (P i).toNat, h1) ∧ fX11_holds 117 (nI a) (nI i) (lN (wc (G s) i (ess (G s)))) h3 = some (nI (P i).toNat, h3)) := ⟨fun i => Classical.choose (hol i), fun i hi => Classical.choose_spec (hol i) hi⟩
  obtain ⟨k, hk, kf, kb⟩ := exBad m P
  have el1 := elen h1 gg1 e3'
  have e148' : zI h3 149 a = nI m := by rw [p3.I (by decide), p1.I (ni _ (by omega))]; exact e148
  refine ⟨wfQ m k, (wfQ m k, h1), ?_, rfl, wp_eq (a := (wfQ m k, h3)) ?_ ⟨rfl, G, n, c, g3⟩⟩
  · unfold fX10_checkCounts
    simp (disch := omega) only [ex, SC (hs), zl_eq, bsm, ZS, ZT, ZN, ZU, eq_self, true_and, and_true, and_self, or_true, true_or, or_false, false_or, not_true, not_false_eq_true, Nat.reduceAdd, Nat.reduceMul, Nat.reduceLT, Nat.reduceLeDiff, Nat.reduceEqDiff, ↓reduceIte, ZQ, Bool.true_eq_false, Bool.false_eq_true, Bool.not_true, Bool.not_false]
    rw [elen h g e3, bsm, e1, bsm]
    refine zloop_run (fun j => (nI j, h1)) k (fun j hj self => ?_) (fun self => ?_) (show k < 100000 by omega)
    · show kX10_checkCounts_53 0 (105 + 3 * a) self (nI j) h1 = _
      unfold kX10_checkCounts_53
      have ho := (hok j (by omega)).1
      rw [kf j hj] at ho
      rw [el1, bsm, if_neg (nI_ge (show j < m by omega) (by omega)), R0_12 g1.1, bsm, total_okC g1.1 q1 (by omega) (show j ≤ m - 1 by omega), bsm, ho, bsm, if_neg (show ¬ (nI true.toNat, h1).1 = 0 from ne10), nI_add]
    · show kX10_checkCounts_53 0 (105 + 3 * a) self (nI k) h1 = _
      unfold kX10_checkCounts_53 wfQ
      by_cases e : k = m
      · rw [el1, bsm, if_pos (nI_le (show m ≤ k by omega) (by omega)), if_pos e]
      · have ho := (hok k (by omega)).1
        rw [kb (by omega)] at ho
        rw [el1, bsm, if_neg (nI_ge (show k < m by omega) (by omega)), R0_12 g1.1, bsm, total_okC g1.1 q1 (by omega) (show k ≤ m - 1 by omega), bsm, ho, bsm, if_pos (show (nI false.toNat, h1).1 = 0 from eq00), if_neg e]
  · unfold fX11_checkCounts
    simp (disch := omega) only [e147', w2, w3, SR (g1.1), zl_eq, bsm, ZS, ZT, ZN, ZU, eq_self, true_and, and_true, and_self, or_true, true_or, or_false, false_or, not_true, not_false_eq_true, Nat.reduceAdd, Nat.reduceMul, Nat.reduceLT, Nat.reduceLeDiff, Nat.reduceEqDiff, ↓reduceIte, ZQ, Bool.true_eq_false, Bool.false_eq_true, Bool.not_true, Bool.not_false]
    refine zloop_run (fun j => (nI j, h3)) k (fun j hj self => ?_) (fun self => ?_) (show k < 100000 by omega)
    · show kX11_checkCounts_43 117 (nI a) self (nI j) h3 = _
      unfold kX11_checkCounts_43
      have ho := (hok j (by omega)).2
      rw [kf j hj, Bool.toNat_true] at ho
      simp (disch := omega) only [e148', show ¬ (m ≤ j) by omega, pr.1, wt j (by omega) _ he, ho, SR (g3.1), zl_eq, bsm, ZS, ZT, ZN, ZU, eq_self, true_and, and_true, and_self, or_true, true_or, or_false, false_or, not_true, not_false_eq_true, Nat.reduceAdd, Nat.reduceMul, Nat.reduceLT, Nat.reduceLeDiff, Nat.reduceEqDiff, ↓reduceIte, ZQ, Bool.true_eq_false, Bool.false_eq_true, Bool.not_true, Bool.not_false]
    · show kX11_checkCounts_43 117 (nI a) self (nI k) h3 = _
      unfold kX11_checkCounts_43 wfQ
      by_cases e : k = m
      · simp (disch := omega) only [e148', show m ≤ k by omega, eq_true e, SR (g3.1), zl_eq, bsm, ZS, ZT, ZN, ZU, eq_self, true_and, and_true, and_self, or_true, true_or, or_false, false_or, not_true, not_false_eq_true, Nat.reduceAdd, Nat.reduceMul, Nat.reduceLT, Nat.reduceLeDiff, Nat.reduceEqDiff, ↓reduceIte, ZQ, Bool.true_eq_false, Bool.false_eq_true, Bool.not_true, Bool.not_false]
      · have ho := (hok k (by omega)).2
        rw [kb (by omega), Bool.toNat_false] at ho
        simp (disch := omega) only [e148', show ¬ (m ≤ k) by omega, pr.1, wt k (by omega) _ he, ho, eq_false e, SR (g3.1), zl_eq, bsm, ZS, ZT, ZN, ZU, eq_self, true_and, and_true, and_self, or_true, true_or, or_false, false_or, not_true, not_false_eq_true, Nat.reduceAdd, Nat.reduceMul, Nat.reduceLT, Nat.reduceLeDiff, Nat.reduceEqDiff, ↓reduceIte, ZQ, Bool.true_eq_false, Bool.false_eq_true, Bool.not_true, Bool.not_false]
