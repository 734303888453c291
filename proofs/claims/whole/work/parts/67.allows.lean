/-! CALLS: growth, allows -/
theorem lz {a : Nat} (ha : a < 2 ^ 63) : (lN a = 0) ↔ a = 0 := pk_lEQ ha (by decide)
theorem c_growth (a1 a2 a3 : Int32) : Ok2 (fX10_growth 0 a1 a2 a3) (fX11_growth 117 a1 a2 a3) := by
  refine Ok2.of (fun h G n c hI => ?_)
  have hs := hI.1
  rcases cSlot a1 with b | ⟨s, h6, rfl⟩
  · refine Ok2.same hI (r := -2) ?_ ?_
    · simp (disch := omega) only [fX10_growth, bX10_growth_26, fun q => (b q).1, SC (hs), zl_eq, bsm, ZS, ZT, ZN, ZU, eq_self, true_and, and_true, and_self, or_true, true_or, or_false, false_or, not_true, not_false_eq_true, Nat.reduceAdd, Nat.reduceMul, Nat.reduceLT, Nat.reduceLeDiff, Nat.reduceEqDiff, ↓reduceIte, ZQ, Bool.true_eq_false, Bool.false_eq_true, Bool.not_true, Bool.not_false]
    · simp (disch := omega) only [fX11_growth, bX11_growth_26, fun q => (b q).2, SR (hs), zl_eq, bsm, ZS, ZT, ZN, ZU, eq_self, true_and, and_true, and_self, or_true, true_or, or_false, false_or, not_true, not_false_eq_true, Nat.reduceAdd, Nat.reduceMul, Nat.reduceLT, Nat.reduceLeDiff, Nat.reduceEqDiff, ↓reduceIte, ZQ, Bool.true_eq_false, Bool.false_eq_true, Bool.not_true, Bool.not_false]
  rcases cIn a2 (lo := 0) (hi := 29) (by decide) (by decide) with b | ⟨m, -, hm, rfl⟩
  · refine Ok2.same hI (r := -2) ?_ ?_
    · simp (disch := omega) only [fX10_growth, bX10_growth_26, fun q => (b q).1, SC (hs), zl_eq, bsm, ZS, ZT, ZN, ZU, eq_self, true_and, and_true, and_self, or_true, true_or, or_false, false_or, not_true, not_false_eq_true, Nat.reduceAdd, Nat.reduceMul, Nat.reduceLT, Nat.reduceLeDiff, Nat.reduceEqDiff, ↓reduceIte, ZQ, Bool.true_eq_false, Bool.false_eq_true, Bool.not_true, Bool.not_false]
    · simp (disch := omega) only [fX11_growth, bX11_growth_26, fun q => (b q).2, SR (hs), zl_eq, bsm, ZS, ZT, ZN, ZU, eq_self, true_and, and_true, and_self, or_true, true_or, or_false, false_or, not_true, not_false_eq_true, Nat.reduceAdd, Nat.reduceMul, Nat.reduceLT, Nat.reduceLeDiff, Nat.reduceEqDiff, ↓reduceIte, ZQ, Bool.true_eq_false, Bool.false_eq_true, Bool.not_true, Bool.not_false]
  rcases cIn a3 (lo := 0) (hi := 1) (by decide) (by decide) with b | ⟨p, -, hp, rfl⟩
  · refine Ok2.same hI (r := -2) ?_ ?_
    · simp (disch := omega) only [fX10_growth, bX10_growth_26, fun q => (b q).1, SC (hs), zl_eq, bsm, ZS, ZT, ZN, ZU, eq_self, true_and, and_true, and_self, or_true, true_or, or_false, false_or, not_true, not_false_eq_true, Nat.reduceAdd, Nat.reduceMul, Nat.reduceLT, Nat.reduceLeDiff, Nat.reduceEqDiff, ↓reduceIte, ZQ, Bool.true_eq_false, Bool.false_eq_true, Bool.not_true, Bool.not_false]
    · simp (disch := omega) only [fX11_growth, bX11_growth_26, fun q => (b q).2, SR (hs), zl_eq, bsm, ZS, ZT, ZN, ZU, eq_self, true_and, and_true, and_self, or_true, true_or, or_false, false_or, not_true, not_false_eq_true, Nat.reduceAdd, Nat.reduceMul, Nat.reduceLT, Nat.reduceLeDiff, Nat.reduceEqDiff, ↓reduceIte, ZQ, Bool.true_eq_false, Bool.false_eq_true, Bool.not_true, Bool.not_false]
  obtain ⟨h1, e1, p1, -, q1⟩ := countWords_ok hI h6 (m := m + 1) (by omega) (hxN (by omega))
  have g1 := hI.fr (fqS p1)
  obtain ⟨h2, h3, e2, e3, f3, -, pr, wt⟩ := tables_ok g1.1 g1.2.1.rr h6 (m := m + 1) (by omega)
  have g3 := g1.fr f3
  have he := ess_lt (G s)
  have t1 := total_okC g1.1 q1 (by omega) (Nat.le_refl (m + 1))
  have t2 := total_okC g1.1 q1 (by omega) (Nat.le_succ m)
  have w1 := wt (m + 1) (Nat.le_refl _) _ he
  have w2 := wt m (Nat.le_succ m) _ he
  have b1 := wc_lt (G s) (k := m + 1) (by omega) (ess (G s))
  have b2 := wc_lt (G s) (k := m) (by omega) (ess (G s))
  generalize wc (G s) (m + 1) (ess (G s)) = top at t1 w1 b1
  generalize wc (G s) m (ess (G s)) = bot at t2 w2 b2
  have cd := commonDivisor_ok b1 b2 h1
  have gr := gcdR_ok b1 b2 h3
  have p63 : (2 : Nat) ^ 61 < 2 ^ 63 := by decide
  have hgle : Nat.gcd top bot < 2 ^ 63 := by
    by_cases e : top = 0
    · rw [e, Nat.gcd_zero_left]; omega
    · have := Nat.gcd_le_left bot (Nat.pos_of_ne_zero e); omega
  by_cases hb0 : bot = 0
  · refine ⟨lN p, (lN p, h1), ?_, rfl, wp_eq (a := (lN p, h3)) ?_ ⟨rfl, G, n, c, g3⟩⟩
    · unfold fX10_growth bX10_growth_88 bX10_growth_97
      simp (disch := omega) only [e1, SC (hs), zl_eq, bsm, ZS, ZT, ZN, ZU, eq_self, true_and, and_true, and_self, or_true, true_or, or_false, false_or, not_true, not_false_eq_true, Nat.reduceAdd, Nat.reduceMul, Nat.reduceLT, Nat.reduceLeDiff, Nat.reduceEqDiff, ↓reduceIte, ZQ, Bool.true_eq_false, Bool.false_eq_true, Bool.not_true, Bool.not_false]
      simp (disch := omega) only [t1, t2, cd, eq_true ((lcmp0 (b := bot) (by omega)).mpr hb0), SC (g1.1), zl_eq, bsm, ZS, ZT, ZN, ZU, eq_self, true_and, and_true, and_self, or_true, true_or, or_false, false_or, not_true, not_false_eq_true, Nat.reduceAdd, Nat.reduceMul, Nat.reduceLT, Nat.reduceLeDiff, Nat.reduceEqDiff, ↓reduceIte, ZQ, Bool.true_eq_false, Bool.false_eq_true, Bool.not_true, Bool.not_false]
      rcases (show p = 0 ∨ p = 1 by omega) with rfl | rfl <;> rfl
    · unfold fX11_growth
      simp (disch := omega) only [e2, e3, SR (g1.1), zl_eq, bsm, ZS, ZT, ZN, ZU, eq_self, true_and, and_true, and_self, or_true, true_or, or_false, false_or, not_true, not_false_eq_true, Nat.reduceAdd, Nat.reduceMul, Nat.reduceLT, Nat.reduceLeDiff, Nat.reduceEqDiff, ↓reduceIte, ZQ, Bool.true_eq_false, Bool.false_eq_true, Bool.not_true, Bool.not_false]
      simp (disch := omega) only [pr.1, w1, w2, eq_true ((lcmp0 (b := bot) (by omega)).mpr hb0), nI_l (n := p) (by omega), SR (g3.1), zl_eq, bsm, ZS, ZT, ZN, ZU, eq_self, true_and, and_true, and_self, or_true, true_or, or_false, false_or, not_true, not_false_eq_true, Nat.reduceAdd, Nat.reduceMul, Nat.reduceLT, Nat.reduceLeDiff, Nat.reduceEqDiff, ↓reduceIte, ZQ, Bool.true_eq_false, Bool.false_eq_true, Bool.not_true, Bool.not_false]
  · have hg0 : Nat.gcd top bot ≠ 0 := fun e => hb0 (Nat.eq_zero_of_gcd_eq_zero_right e)
    have c1 := eq_false (fun q => hb0 ((lcmp0 (b := bot) (by omega)).mp q))
    have c2 := eq_false (fun q => hg0 ((lcmp0 (b := Nat.gcd top bot) hgle).mp q))
    have c3 := eq_false (fun q => hg0 ((lz hgle).mp q))
    refine ⟨lN (if p = 0 then top else bot) / lN (Nat.gcd top bot), (lN (if p = 0 then top else bot) / lN (Nat.gcd top bot), h1), ?_, rfl, wp_eq (a := (lN (if p = 0 then top else bot) / lN (Nat.gcd top bot), h3)) ?_ ⟨rfl, G, n, c, g3⟩⟩
    · unfold fX10_growth bX10_growth_109
      simp (disch := omega) only [e1, SC (hs), zl_eq, bsm, ZS, ZT, ZN, ZU, eq_self, true_and, and_true, and_self, or_true, true_or, or_false, false_or, not_true, not_false_eq_true, Nat.reduceAdd, Nat.reduceMul, Nat.reduceLT, Nat.reduceLeDiff, Nat.reduceEqDiff, ↓reduceIte, ZQ, Bool.true_eq_false, Bool.false_eq_true, Bool.not_true, Bool.not_false]
      simp (disch := omega) only [t1, t2, cd, c1, c2, c3, SC (g1.1), zl_eq, bsm, ZS, ZT, ZN, ZU, eq_self, true_and, and_true, and_self, or_true, true_or, or_false, false_or, not_true, not_false_eq_true, Nat.reduceAdd, Nat.reduceMul, Nat.reduceLT, Nat.reduceLeDiff, Nat.reduceEqDiff, ↓reduceIte, ZQ, Bool.true_eq_false, Bool.false_eq_true, Bool.not_true, Bool.not_false]
      rcases (show p = 0 ∨ p = 1 by omega) with rfl | rfl <;> rfl
    · unfold fX11_growth bX11_growth_99
      simp (disch := omega) only [e2, e3, SR (g1.1), zl_eq, bsm, ZS, ZT, ZN, ZU, eq_self, true_and, and_true, and_self, or_true, true_or, or_false, false_or, not_true, not_false_eq_true, Nat.reduceAdd, Nat.reduceMul, Nat.reduceLT, Nat.reduceLeDiff, Nat.reduceEqDiff, ↓reduceIte, ZQ, Bool.true_eq_false, Bool.false_eq_true, Bool.not_true, Bool.not_false]
      simp (disch := omega) only [pr.1, w1, w2, c1, c3, gr, SR (g3.1), zl_eq, bsm, ZS, ZT, ZN, ZU, eq_self, true_and, and_true, and_self, or_true, true_or, or_false, false_or, not_true, not_false_eq_true, Nat.reduceAdd, Nat.reduceMul, Nat.reduceLT, Nat.reduceLeDiff, Nat.reduceEqDiff, ↓reduceIte, ZQ, Bool.true_eq_false, Bool.false_eq_true, Bool.not_true, Bool.not_false]
      rcases (show p = 0 ∨ p = 1 by omega) with rfl | rfl <;> rfl
/-! the input as a word -/
def ltB (ch : Nat) : Bool := decide (97 ≤ ch ∧ ch ≤ 100)
theorem exWord (n : Nat) (c : Nat → Nat) : ∃ k, k ≤ n ∧ (∀ j, j < k → ltB (c j) = true) ∧ (k < n → ltB (c k) = false) := by
  induction n with
  | zero => exact ⟨0, Nat.le_refl _, fun j hj => by omega, fun h => by omega⟩
  | succ n ih =>
    obtain ⟨k, h1, h2, h3⟩ := ih
    by_cases e : k < n
    · exact ⟨k, by omega, h2, fun _ => h3 e⟩
    · have : k = n := by omega
      subst this
      by_cases hf : ltB (c k) = true
      · refine ⟨k + 1, Nat.le_refl _, fun j hj => ?_, fun h => by omega⟩
        by_cases ej : j = k
        · rw [ej]; exact hf
        · exact h2 j (by omega)
      · exact ⟨k, by omega, h2, fun _ => by simpa using hf⟩
theorem ltB_b {ch : Nat} (h : ltB ch = true) : 97 ≤ ch ∧ ch ≤ 100 := of_decide_eq_true h
def wfQ (n k : Nat) : Int32 := if k = n then -1 else nI k
section WF
variable {h : ZH} {n k : Nat} {c : Nat → Nat}
theorem wordFault_ok (hs : Sh h) (g3 : iIn n c h) (hk : k ≤ n) (hf : ∀ j, j < k → ltB (c j) = true) (hb : k < n → ltB (c k) = false) : fX10_wordFault 0 h = some (wfQ n k, h) := by
  obtain ⟨i1, i2, i3, i4⟩ := g3
  have el := len_ok (T26 hs) i2
  unfold fX10_wordFault
  simp (disch := omega) only [SC (hs), zl_eq, bsm, ZS, ZT, ZN, ZU, eq_self, true_and, and_true, and_self, or_true, true_or, or_false, false_or, not_true, not_false_eq_true, Nat.reduceAdd, Nat.reduceMul, Nat.reduceLT, Nat.reduceLeDiff, Nat.reduceEqDiff, ↓reduceIte, ZQ, Bool.true_eq_false, Bool.false_eq_true, Bool.not_true, Bool.not_false]
  refine zloop_run (fun j => (nI j, h)) k (fun j hj self => ?_) (fun self => ?_) (show k < 100000 by omega)
  · show kX10_wordFault_2 0 self (nI j) h = _
    unfold kX10_wordFault_2
    have ea := at_ok (T26 hs) (by decide) i1 i2 (show j < n by omega)
    have hc := i4 j (by omega)
    rw [hc.1] at ea
    have es := sub_letter (ch := c j) (by omega) h
    rw [show decide (97 ≤ c j ∧ c j ≤ 100) = true from hf j hj, Bool.toNat_true] at es
    simp (disch := omega) only [el, show ¬ (n ≤ j) by omega, ea, es, SC (hs), zl_eq, bsm, ZS, ZT, ZN, ZU, eq_self, true_and, and_true, and_self, or_true, true_or, or_false, false_or, not_true, not_false_eq_true, Nat.reduceAdd, Nat.reduceMul, Nat.reduceLT, Nat.reduceLeDiff, Nat.reduceEqDiff, ↓reduceIte, ZQ, Bool.true_eq_false, Bool.false_eq_true, Bool.not_true, Bool.not_false]
  · show kX10_wordFault_2 0 self (nI k) h = _
    unfold kX10_wordFault_2 wfQ
    by_cases e : k = n
    · simp (disch := omega) only [el, e, Nat.le_refl, SC (hs), zl_eq, bsm, ZS, ZT, ZN, ZU, eq_self, true_and, and_true, and_self, or_true, true_or, or_false, false_or, not_true, not_false_eq_true, Nat.reduceAdd, Nat.reduceMul, Nat.reduceLT, Nat.reduceLeDiff, Nat.reduceEqDiff, ↓reduceIte, ZQ, Bool.true_eq_false, Bool.false_eq_true, Bool.not_true, Bool.not_false]
    · have ea := at_ok (T26 hs) (by decide) i1 i2 (show k < n by omega)
      have hc := i4 k (by omega)
      rw [hc.1] at ea
      have es := sub_letter (ch := c k) (by omega) h
      rw [show decide (97 ≤ c k ∧ c k ≤ 100) = false from hb (by omega), Bool.toNat_false] at es
      simp (disch := omega) only [el, show ¬ (n ≤ k) by omega, ea, es, eq_false e, SC (hs), zl_eq, bsm, ZS, ZT, ZN, ZU, eq_self, true_and, and_true, and_self, or_true, true_or, or_false, false_or, not_true, not_false_eq_true, Nat.reduceAdd, Nat.reduceMul, Nat.reduceLT, Nat.reduceLeDiff, Nat.reduceEqDiff, ↓reduceIte, ZQ, Bool.true_eq_false, Bool.false_eq_true, Bool.not_true, Bool.not_false]
theorem readWord_ok (hs : Sh h) (hn : n ≤ 120) (e8 : zI h 117 8 = nI n) (i4 : ∀ i, i < n → zI h 123 i = nI (c i) ∧ 1 ≤ c i ∧ c i ≤ 127) (hk : k ≤ n) (hf : ∀ j, j < k → ltB (c j) = true) (hb : k < n → ltB (c k) = false) : ∃ h', fX11_readWord 117 h = some (wfQ n k, h') ∧ zfr [117, 125] h h' ∧ (∀ i, i ≠ 8 → i ≠ 12 → zI h' 117 i = zI h 117 i) ∧ zI h' 117 8 = nI 0 ∧ zI h' 117 12 = nI n ∧ vI h' 125 k (fun j => c j - 97) := by
  have key : wp (fX11_readWord 117 h) (fun r => r.1 = wfQ n k ∧ zfr [117, 125] h r.2 ∧ (∀ i, i ≠ 8 → i ≠ 12 → zI r.2 117 i = zI h 117 i) ∧ zI r.2 117 8 = nI 0 ∧ zI r.2 117 12 = nI n ∧ vI r.2 125 k (fun j => c j - 97)) := by
    unfold fX11_readWord
    simp (disch := omega) only [e8, SR (hs), zl_eq, bsm, ZS, ZT, ZN, ZU, eq_self, true_and, and_true, and_self, or_true, true_or, or_false, false_or, not_true, not_false_eq_true, Nat.reduceAdd, Nat.reduceMul, Nat.reduceLT, Nat.reduceLeDiff, Nat.reduceEqDiff, ↓reduceIte, ZQ, Bool.true_eq_false, Bool.false_eq_true, Bool.not_true, Bool.not_false]
    have p0 : zfr [117] h (zsI h (zu (zu (zI h) 117 12 (nI n)) 117 8 (nI 0))) := zfr_zsI (fun b hb => by
      rw [zu_ne (fun e => hb (by rw [e]; decide)), zu_ne (fun e => hb (by rw [e]; decide))])
    have z8 : zI (zsI h (zu (zu (zI h) 117 12 (nI n)) 117 8 (nI 0))) 117 8 = nI 0 := by dsimp only [zI_zsI]; rw [zu_at, if_pos rfl]
    have z12 : zI (zsI h (zu (zu (zI h) 117 12 (nI n)) 117 8 (nI 0))) 117 12 = nI n := by dsimp only [zI_zsI]; rw [zu_at, if_neg (by decide), zu_at, if_pos rfl]
    have zo : ∀ i, i ≠ 8 → i ≠ 12 → zI (zsI h (zu (zu (zI h) 117 12 (nI n)) 117 8 (nI 0))) 117 i = zI h 117 i := fun i h1 h2 => by dsimp only [zI_zsI]; rw [zu_at, if_neg h1, zu_at, if_neg h2]
    generalize zsI h (zu (zu (zI h) 117 12 (nI n)) 117 8 (nI 0)) = h0 at p0 z8 z12 zo
    have hs0 := p0.shp hs
    refine wloop (fun j y => y.1 = nI j ∧ zfr [125] h0 y.2 ∧ vI y.2 125 j (fun j => c j - 97)) k (fun j y self hj hy ih => ?_) (show k < 100000 by omega) ⟨rfl, zfr.refl h0, fun i hi => by omega⟩
    obtain ⟨y, h1⟩ := y
    obtain ⟨rfl, p1, q1⟩ := hy
    dsimp only at p1 q1
    have hs1 := p1.shp hs0
    have p01 : zfr [117, 125] h h1 := (p0.trans p1).mono (by decide)
    have z12' : zI h1 117 12 = nI n := by rw [p1.I (by decide)]; exact z12
    show wp (kX11_readWord_15 117 self (nI j) h1) _
    unfold kX11_readWord_15
    by_cases hjn : j = n
    · have hkn : k = n := by omega
      simp (disch := omega) only [z12', hjn, Nat.le_refl, SR (hs1), zl_eq, bsm, ZS, ZT, ZN, ZU, eq_self, true_and, and_true, and_self, or_true, true_or, or_false, false_or, not_true, not_false_eq_true, Nat.reduceAdd, Nat.reduceMul, Nat.reduceLT, Nat.reduceLeDiff, Nat.reduceEqDiff, ↓reduceIte, ZQ, Bool.true_eq_false, Bool.false_eq_true, Bool.not_true, Bool.not_false]
      refine wp_some ⟨?_, p01, fun i h1 h2 => by rw [p1.I (by decide)]; exact zo i h1 h2, by rw [p1.I (by decide)]; exact z8, z12', ?_⟩
      · unfold wfQ; rw [if_pos hkn]
      · rw [hkn, ← hjn]; exact q1
    · have hc := i4 j (by omega)
      have ec : zI h1 123 j = nI (c j) := by rw [p01.I (by decide)]; exact hc.1
      have ei := in_dec (ch := c j) (lo := 97) (hi := 100) (by omega) (by decide) (by decide) h1
      by_cases hlt : j < k
      · have hl := hf j hlt
        rw [show decide (97 ≤ c j ∧ c j ≤ 100) = true from hl, Bool.toNat_true] at ei
        have hl2 := ltB_b hl
        simp (disch := omega) only [z12', show ¬ (n ≤ j) by omega, ec, ei, SR (hs1), zl_eq, bsm, ZS, ZT, ZN, ZU, eq_self, true_and, and_true, and_self, or_true, true_or, or_false, false_or, not_true, not_false_eq_true, Nat.reduceAdd, Nat.reduceMul, Nat.reduceLT, Nat.reduceLeDiff, Nat.reduceEqDiff, ↓reduceIte, ZQ, Bool.true_eq_false, Bool.false_eq_true, Bool.not_true, Bool.not_false]
        refine ih _ hlt ⟨rfl, p1.same zfr_uI, fun i hi => ?_⟩
        dsimp only [zI_zsI]
        rw [zu_at]
        by_cases e : i = j
        · rw [if_pos e, e]
        · rw [if_neg e]; exact q1 i (by omega)
      · have hjk : j = k := by omega
        subst hjk
        rw [show decide (97 ≤ c j ∧ c j ≤ 100) = false from hb (by omega), Bool.toNat_false] at ei
        simp (disch := omega) only [z12', show ¬ (n ≤ j) by omega, ec, ei, SR (hs1), zl_eq, bsm, ZS, ZT, ZN, ZU, eq_self, true_and, and_true, and_self, or_true, true_or, or_false, false_or, not_true, not_false_eq_true, Nat.reduceAdd, Nat.reduceMul, Nat.reduceLT, Nat.reduceLeDiff, Nat.reduceEqDiff, ↓reduceIte, ZQ, Bool.true_eq_false, Bool.false_eq_true, Bool.not_true, Bool.not_false]
        refine wp_some ⟨?_, p01, fun i h1 h2 => by rw [p1.I (by decide)]; exact zo i h1 h2, by rw [p1.I (by decide)]; exact z8, z12', q1⟩
        unfold wfQ; rw [if_neg hjn]
  obtain ⟨⟨r, h'⟩, e, h1, h2, h3, h4, h5, h6⟩ := key
  dsimp only at h1
  subst h1
  exact ⟨h', e, h2, h3, h4, h5, h6⟩
end WF
/-- where a word leads from a set -/
def bh (M : Nat → Nat) (w : Nat → Nat) (S a : Nat) : Nat → Nat
  | 0 => S
  | k + 1 => ims M (bh M w S a k) (w (a + k))
theorem bh_lt {M w : Nat → Nat} {S a k : Nat} (hS : S < 256) (hw : ∀ j, j < k → w (a + j) < 4) : bh M w S a k < 256 := by
  cases k with
  | zero => exact hS
  | succ k => exact ims_lt (hw k (by omega))
theorem behind_ok {h : ZH} {M w : Nat → Nat} {S a k : Nat} (hs : Sh h) (pr : prep M h) (hS : S < 256) (hk : a + k ≤ 1100) (hw : ∀ j, j < k → zI h 125 (a + j) = nI (w (a + j)) ∧ w (a + j) < 4) : fX11_behind 117 (nI S) (nI a) (nI (a + k)) h = some (nI (bh M w S a k), h) := by
  unfold fX11_behind
  simp (disch := omega) only [SR (hs), zl_eq, bsm, ZS, ZT, ZN, ZU, eq_self, true_and, and_true, and_self, or_true, true_or, or_false, false_or, not_true, not_false_eq_true, Nat.reduceAdd, Nat.reduceMul, Nat.reduceLT, Nat.reduceLeDiff, Nat.reduceEqDiff, ↓reduceIte, ZQ, Bool.true_eq_false, Bool.false_eq_true, Bool.not_true, Bool.not_false]
  refine zloop_run (fun j => (nI (bh M w S a j), nI (a + j), h)) k (fun j hj self => ?_) (fun self => ?_) (show k < 100000 by omega)
  · show kX11_behind_6 117 (nI (a + k)) self (nI (bh M w S a j)) (nI (a + j)) h = _
    unfold kX11_behind_6
    obtain ⟨e1, e2⟩ := hw j hj
    have hb := bh_lt (M := M) (w := w) (a := a) (k := j) hS (fun i hi => (hw i (by omega)).2)
    have e3 := pr.2 _ hb _ e2
    simp (disch := omega) only [show ¬ (a + k ≤ a + j) by omega, e1, e3, SR (hs), zl_eq, bsm, ZS, ZT, ZN, ZU, eq_self, true_and, and_true, and_self, or_true, true_or, or_false, false_or, not_true, not_false_eq_true, Nat.reduceAdd, Nat.reduceMul, Nat.reduceLT, Nat.reduceLeDiff, Nat.reduceEqDiff, ↓reduceIte, ZQ, Bool.true_eq_false, Bool.false_eq_true, Bool.not_true, Bool.not_false]
    rfl
  · show kX11_behind_6 117 (nI (a + k)) self (nI (bh M w S a k)) (nI (a + k)) h = _
    unfold kX11_behind_6
    simp (disch := omega) only [Nat.le_refl, SR (hs), zl_eq, bsm, ZS, ZT, ZN, ZU, eq_self, true_and, and_true, and_self, or_true, true_or, or_false, false_or, not_true, not_false_eq_true, Nat.reduceAdd, Nat.reduceMul, Nat.reduceLT, Nat.reduceLeDiff, Nat.reduceEqDiff, ↓reduceIte, ZQ, Bool.true_eq_false, Bool.false_eq_true, Bool.not_true, Bool.not_false]
theorem bh_sb {M w : Nat → Nat} {S a k : Nat} (hS : sb S (ess M)) (hw : ∀ j, j < k → w (a + j) < 4) : sb (bh M w S a k) (ess M) := by
  cases k with
  | zero => exact hS
  | succ k => exact ims_sb (hw k (by omega))
theorem INV_in0 {G : Nat → Nat → Nat} {n : Nat} {c : Nat → Nat} {h h' : ZH} (g : INVg G n c h) (p : zfr (26 :: scr) h h') (k : ∀ i, (i = 4 ∨ i = 6 ∨ i = 10) → zI h' 117 i = zI h 117 i) (z1 : zI h' 26 1 = nI 0) (z2 : zI h' 117 8 = nI 0) : INVg G 0 c h' := by
  obtain ⟨g1, g2, g3, g4, g5, g6, g7, g8⟩ := g
  exact ⟨p.shp g1, g2.fr p (by decide) (by decide), ⟨by decide, z1, z2, fun i hi => by omega⟩, g4.fr p (by decide) (by decide) (by decide) (by decide) (by decide) (k 4 (by decide)), g5.fr p (by decide) (by decide) (by decide) (k 6 (by decide)), g6.fr p (by decide) (by decide) (by decide) (k 10 (by decide)), g7.fr p (by decide) (by decide) (by decide) (by decide) (by decide) (by decide) (by decide), g8.fr p (by decide) (by decide) (by decide)⟩
