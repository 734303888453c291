/-! CALLS: allows, writeWord -/
theorem ends_ok {h : ZH} {G : Nat → Nat → Nat} {n : Nat} {c : Nat → Nat} (hI : INVg G n c h) {s : Nat} (h6 : s < 6) (hf : ∀ j, j < n → ltB (c j) = true) : ∃ h1, fX10_endsOfInput 0 (81 + 4 * s) h = some (nI (bh (G s) (fun j => c j - 97) (ess (G s)) 0 n), h1) ∧ zfr [34] h h1 := by
  have hs := hI.1
  obtain ⟨h1, e1, p1, q1⟩ := trim_ok hI h6
  have hs1 := p1.shp hs
  refine ⟨h1, ?_, p1⟩
  obtain ⟨i1, i2, i3, i4⟩ := hI.2.2.1.fr p1 (by decide) (by decide) (by decide) (by rw [p1.I (by decide)])
  have el := len_ok (T26 hs1) i2
  have hw : ∀ j, j < n → c j - 97 < 4 := fun j hj => by have := ltB_b (hf j hj); omega
  have ecore : fX1_core 33 h1 = some (nI (ess (G s)), h1) := by rw [core_ok (g33 hs1) q1, ess_core]
  unfold fX10_endsOfInput
  simp (disch := omega) only [e1, SC (hs), zl_eq, bsm, ZS, ZT, ZN, ZU, eq_self, true_and, and_true, and_self, or_true, true_or, or_false, false_or, not_true, not_false_eq_true, Nat.reduceAdd, Nat.reduceMul, Nat.reduceLT, Nat.reduceLeDiff, Nat.reduceEqDiff, ↓reduceIte, ZQ, Bool.true_eq_false, Bool.false_eq_true, Bool.not_true, Bool.not_false]
  simp (disch := omega) only [ecore, SC (hs1), zl_eq, bsm, ZS, ZT, ZN, ZU, eq_self, true_and, and_true, and_self, or_true, true_or, or_false, false_or, not_true, not_false_eq_true, Nat.reduceAdd, Nat.reduceMul, Nat.reduceLT, Nat.reduceLeDiff, Nat.reduceEqDiff, ↓reduceIte, ZQ, Bool.true_eq_false, Bool.false_eq_true, Bool.not_true, Bool.not_false]
  refine zloop_run (fun j => (nI (bh (G s) (fun j => c j - 97) (ess (G s)) 0 j), nI j, h1)) n (fun j hj self => ?_) (fun self => ?_) (show n < 100000 by omega)
  · show kX10_endsOfInput_18 0 self (nI (bh (G s) (fun j => c j - 97) (ess (G s)) 0 j)) (nI j) h1 = _
    unfold kX10_endsOfInput_18
    have ea := at_ok (T26 hs1) (by decide) i1 i2 hj
    rw [(i4 j hj).1] at ea
    have hl := ltB_b (hf j hj)
    have hbl := bh_lt (M := G s) (w := fun j => c j - 97) (a := 0) (k := j) (ess_lt (G s)) (fun i hi => by rw [Nat.zero_add]; exact hw i (by omega))
    have hbs := bh_sb (M := G s) (w := fun j => c j - 97) (a := 0) (k := j) (sb_rfl _) (fun i hi => by rw [Nat.zero_add]; exact hw i (by omega))
    have ef := follow_ok (g33 hs1) q1 (S := bh (G s) (fun j => c j - 97) (ess (G s)) 0 j) (by omega) (hw j hj)
    rw [← ims_in hbs] at ef
    simp (disch := omega) only [el, show ¬ (n ≤ j) by omega, ea, ef, SC (hs1), zl_eq, bsm, ZS, ZT, ZN, ZU, eq_self, true_and, and_true, and_self, or_true, true_or, or_false, false_or, not_true, not_false_eq_true, Nat.reduceAdd, Nat.reduceMul, Nat.reduceLT, Nat.reduceLeDiff, Nat.reduceEqDiff, ↓reduceIte, ZQ, Bool.true_eq_false, Bool.false_eq_true, Bool.not_true, Bool.not_false]
    rw [bh, Nat.zero_add]
  · show kX10_endsOfInput_18 0 self (nI (bh (G s) (fun j => c j - 97) (ess (G s)) 0 n)) (nI n) h1 = _
    unfold kX10_endsOfInput_18
    simp (disch := omega) only [el, Nat.le_refl, SC (hs1), zl_eq, bsm, ZS, ZT, ZN, ZU, eq_self, true_and, and_true, and_self, or_true, true_or, or_false, false_or, not_true, not_false_eq_true, Nat.reduceAdd, Nat.reduceMul, Nat.reduceLT, Nat.reduceLeDiff, Nat.reduceEqDiff, ↓reduceIte, ZQ, Bool.true_eq_false, Bool.false_eq_true, Bool.not_true, Bool.not_false]
theorem c_allows (a1 : Int32) : Ok2 (fX10_allows 0 a1) (fX11_allows 117 a1) := by
  refine Ok2.of (fun h G n c hI => ?_)
  have hs := hI.1
  rcases cSlot a1 with b | ⟨s, h6, rfl⟩
  · refine Ok2.same hI (r := -2) ?_ ?_
    · simp (disch := omega) only [fX10_allows, fun q => (b q).1, SC (hs), zl_eq, bsm, ZS, ZT, ZN, ZU, eq_self, true_and, and_true, and_self, or_true, true_or, or_false, false_or, not_true, not_false_eq_true, Nat.reduceAdd, Nat.reduceMul, Nat.reduceLT, Nat.reduceLeDiff, Nat.reduceEqDiff, ↓reduceIte, ZQ, Bool.true_eq_false, Bool.false_eq_true, Bool.not_true, Bool.not_false]
    · simp (disch := omega) only [fX11_allows, fun q => (b q).2, SR (hs), zl_eq, bsm, ZS, ZT, ZN, ZU, eq_self, true_and, and_true, and_self, or_true, true_or, or_false, false_or, not_true, not_false_eq_true, Nat.reduceAdd, Nat.reduceMul, Nat.reduceLT, Nat.reduceLeDiff, Nat.reduceEqDiff, ↓reduceIte, ZQ, Bool.true_eq_false, Bool.false_eq_true, Bool.not_true, Bool.not_false]
  obtain ⟨i1, i2, i3, i4⟩ := id hI.2.2.1
  obtain ⟨k, hk, hf, hb⟩ := exWord n c
  have ew := wordFault_ok hs hI.2.2.1 hk hf hb
  by_cases hkn : k = n
  · subst hkn
    have ewq : wfQ k k = -1 := if_pos rfl
    rw [ewq] at ew
    obtain ⟨h1, e1, p1⟩ := ends_ok hI h6 hf
    have hs1 := p1.shp hs
    have ecl := tclear_ok (T26 hs1)
    have p2 : zfr [26] h1 (zsI h1 (zu (zI h1) 26 1 (nI 0))) := zfr_uI
    have z26 : zI (zsI h1 (zu (zI h1) 26 1 (nI 0))) 26 1 = nI 0 := by dsimp only [zI_zsI]; rw [zu_at, if_pos rfl]
    generalize zsI h1 (zu (zI h1) 26 1 (nI 0)) = h2 at ecl p2 z26
    have p12 := p1.trans p2
    have hs2 := p12.shp hs
    have hw : ∀ j, j < k → c j - 97 < 4 := fun j hj => by have := ltB_b (hf j hj); omega
    obtain ⟨h3, e3, p3, zo, z8, z12, v3⟩ := readWord_ok (c := c) (k := k) hs2 i1 (by rw [p12.I (by decide)]; exact i3) (fun i hi => by rw [p12.I (by decide)]; exact (i4 i hi).2) (Nat.le_refl k) hf hb
    rw [ewq] at e3
    have hs3 := p3.shp hs2
    have g3 : rG G h3 := ((hI.2.1.rr.fr p12 (by decide)).fr p3 (by decide))
    obtain ⟨h4, e4, p4, k4, pr⟩ := prepare_ok hs3 g3 h6
    have hs4 := p4.shp hs3
    have z12' : zI h4 117 12 = nI k := by rw [k4 12 (by decide)]; exact z12
    have e5 := behind_ok (w := fun j => c j - 97) (a := 0) (k := k) hs4 pr (ess_lt (G s)) (by omega) (fun j hj => by
      rw [Nat.zero_add, p4.I (by decide)]
      exact ⟨v3 j hj, hw j hj⟩)
    rw [Nat.zero_add] at e5
    have hbl := bh_lt (M := G s) (w := fun j => c j - 97) (a := 0) (k := k) (ess_lt (G s)) (fun i hi => by rw [Nat.zero_add]; exact hw i hi)
    generalize bh (G s) (fun j => c j - 97) (ess (G s)) 0 k = T at e1 e5 hbl
    have pf := (p12.trans p3).trans p4
    have kf : ∀ i, (i = 4 ∨ i = 6 ∨ i = 10) → zI h4 117 i = zI h 117 i := fun i hi => by
      rw [k4 i (by omega), zo i (by omega) (by omega), p12.I (by decide)]
    have g4 := INV_in0 hI (pf.mono (by decide)) kf (by rw [p4.I (by decide), p3.I (by decide)]; exact z26) (by rw [k4 8 (by decide)]; exact z8)
    refine ⟨nI (if T = 0 then 0 else 1), (nI (if T = 0 then 0 else 1), h2), ?_, rfl, wp_eq (a := (nI (if T = 0 then 0 else 1), h4)) ?_ ⟨rfl, G, 0, c, g4⟩⟩
    · unfold fX10_allows bX10_allows_33 bX10_allows_59
      simp (disch := omega) only [ew, show ((-1 : Int32) < 0) = True by decide, e1, SC (hs), zl_eq, bsm, ZS, ZT, ZN, ZU, eq_self, true_and, and_true, and_self, or_true, true_or, or_false, false_or, not_true, not_false_eq_true, Nat.reduceAdd, Nat.reduceMul, Nat.reduceLT, Nat.reduceLeDiff, Nat.reduceEqDiff, ↓reduceIte, ZQ, Bool.true_eq_false, Bool.false_eq_true, Bool.not_true, Bool.not_false]
      by_cases hT : T = 0
      · simp (disch := omega) only [ecl, eq_true hT, SC (hs1), zl_eq, bsm, ZS, ZT, ZN, ZU, eq_self, true_and, and_true, and_self, or_true, true_or, or_false, false_or, not_true, not_false_eq_true, Nat.reduceAdd, Nat.reduceMul, Nat.reduceLT, Nat.reduceLeDiff, Nat.reduceEqDiff, ↓reduceIte, ZQ, Bool.true_eq_false, Bool.false_eq_true, Bool.not_true, Bool.not_false]
      · simp (disch := omega) only [ecl, eq_false hT, SC (hs1), zl_eq, bsm, ZS, ZT, ZN, ZU, eq_self, true_and, and_true, and_self, or_true, true_or, or_false, false_or, not_true, not_false_eq_true, Nat.reduceAdd, Nat.reduceMul, Nat.reduceLT, Nat.reduceLeDiff, Nat.reduceEqDiff, ↓reduceIte, ZQ, Bool.true_eq_false, Bool.false_eq_true, Bool.not_true, Bool.not_false]
    · unfold fX11_allows bX11_allows_51
      simp (disch := omega) only [e3, e4, SR (hs2), zl_eq, bsm, ZS, ZT, ZN, ZU, eq_self, true_and, and_true, and_self, or_true, true_or, or_false, false_or, not_true, not_false_eq_true, Nat.reduceAdd, Nat.reduceMul, Nat.reduceLT, Nat.reduceLeDiff, Nat.reduceEqDiff, ↓reduceIte, ZQ, Bool.true_eq_false, Bool.false_eq_true, Bool.not_true, Bool.not_false]
      simp (disch := omega) only [pr.1, z12', e5, SR (hs4), zl_eq, bsm, ZS, ZT, ZN, ZU, eq_self, true_and, and_true, and_self, or_true, true_or, or_false, false_or, not_true, not_false_eq_true, Nat.reduceAdd, Nat.reduceMul, Nat.reduceLT, Nat.reduceLeDiff, Nat.reduceEqDiff, ↓reduceIte, ZQ, Bool.true_eq_false, Bool.false_eq_true, Bool.not_true, Bool.not_false]
      by_cases hT : T = 0
      · simp (disch := omega) only [eq_true hT, SR (hs4), zl_eq, bsm, ZS, ZT, ZN, ZU, eq_self, true_and, and_true, and_self, or_true, true_or, or_false, false_or, not_true, not_false_eq_true, Nat.reduceAdd, Nat.reduceMul, Nat.reduceLT, Nat.reduceLeDiff, Nat.reduceEqDiff, ↓reduceIte, ZQ, Bool.true_eq_false, Bool.false_eq_true, Bool.not_true, Bool.not_false]
      · simp (disch := omega) only [eq_false hT, SR (hs4), zl_eq, bsm, ZS, ZT, ZN, ZU, eq_self, true_and, and_true, and_self, or_true, true_or, or_false, false_or, not_true, not_false_eq_true, Nat.reduceAdd, Nat.reduceMul, Nat.reduceLT, Nat.reduceLeDiff, Nat.reduceEqDiff, ↓reduceIte, ZQ, Bool.true_eq_false, Bool.false_eq_true, Bool.not_true, Bool.not_false]
  · have ewq : wfQ n k = nI k := if_neg hkn
    rw [ewq] at ew
    have ecl := tclear_ok (T26 hs)
    have p2 : zfr [26] h (zsI h (zu (zI h) 26 1 (nI 0))) := zfr_uI
    have z26 : zI (zsI h (zu (zI h) 26 1 (nI 0))) 26 1 = nI 0 := by dsimp only [zI_zsI]; rw [zu_at, if_pos rfl]
    generalize zsI h (zu (zI h) 26 1 (nI 0)) = h2 at ecl p2 z26
    have hs2 := p2.shp hs
    obtain ⟨h3, e3, p3, zo, z8, z12, v3⟩ := readWord_ok (c := c) (k := k) hs2 i1 (by rw [p2.I (by decide)]; exact i3) (fun i hi => by rw [p2.I (by decide)]; exact (i4 i hi).2) hk hf hb
    rw [ewq] at e3
    have kf : ∀ i, (i = 4 ∨ i = 6 ∨ i = 10) → zI h3 117 i = zI h 117 i := fun i hi => by
      rw [zo i (by omega) (by omega), p2.I (by decide)]
    have g4 := INV_in0 hI ((p2.trans p3).mono (by decide)) kf (by rw [p3.I (by decide)]; exact z26) z8
    refine ⟨(-100 : Int32) - nI k, ((-100 : Int32) - nI k, h2), ?_, rfl, wp_eq (a := ((-100 : Int32) - nI k, h3)) ?_ ⟨rfl, G, 0, c, g4⟩⟩
    · unfold fX10_allows bX10_allows_33
      simp (disch := omega) only [ew, ecl, SC (hs), zl_eq, bsm, ZS, ZT, ZN, ZU, eq_self, true_and, and_true, and_self, or_true, true_or, or_false, false_or, not_true, not_false_eq_true, Nat.reduceAdd, Nat.reduceMul, Nat.reduceLT, Nat.reduceLeDiff, Nat.reduceEqDiff, ↓reduceIte, ZQ, Bool.true_eq_false, Bool.false_eq_true, Bool.not_true, Bool.not_false]
    · unfold fX11_allows
      simp (disch := omega) only [e3, SR (hs2), zl_eq, bsm, ZS, ZT, ZN, ZU, eq_self, true_and, and_true, and_self, or_true, true_or, or_false, false_or, not_true, not_false_eq_true, Nat.reduceAdd, Nat.reduceMul, Nat.reduceLT, Nat.reduceLeDiff, Nat.reduceEqDiff, ↓reduceIte, ZQ, Bool.true_eq_false, Bool.false_eq_true, Bool.not_true, Bool.not_false]
/-! the i-th word -/
theorem wsum_step (M : Nat → Nat) (m S l : Nat) : wsum M m S (l + 1) = wsum M m S l + wc M m (ims M S l) := rfl
def plt (M : Nat → Nat) (m S r : Nat) : Nat := if r < wsum M m S 1 then 0 else if r < wsum M m S 2 then 1 else if r < wsum M m S 3 then 2 else 3
theorem plt_ok {M : Nat → Nat} {m S r : Nat} (h : r < wc M (m + 1) S) : plt M m S r < 4 ∧ wsum M m S (plt M m S r) ≤ r ∧ r < wsum M m S (plt M m S r + 1) := by
  rw [← wsum4] at h
  unfold plt
  by_cases h1 : r < wsum M m S 1
  · rw [if_pos h1]; exact ⟨by decide, Nat.zero_le _, h1⟩
  · rw [if_neg h1]
    by_cases h2 : r < wsum M m S 2
    · rw [if_pos h2]; exact ⟨by decide, by omega, h2⟩
    · rw [if_neg h2]
      by_cases h3 : r < wsum M m S 3
      · rw [if_pos h3]; exact ⟨by decide, by omega, h3⟩
      · rw [if_neg h3]; exact ⟨by decide, by omega, h⟩
theorem wsum_mono {M : Nat → Nat} {m S a : Nat} (b : Nat) (h : a ≤ b) : wsum M m S a ≤ wsum M m S b := by
  induction b with
  | zero => rw [show a = 0 by omega]; exact Nat.le_refl _
  | succ b ih =>
    by_cases e : a = b + 1
    · rw [e]; exact Nat.le_refl _
    · rw [wsum_step]; have := ih (by omega); omega
/-- set and rest behind k letters of the i-th word of n letters -/
def wst (M : Nat → Nat) (n i : Nat) : Nat → Nat × Nat
  | 0 => (ess M, i)
  | k + 1 => (ims M (wst M n i k).1 (plt M (n - 1 - k) (wst M n i k).1 (wst M n i k).2), (wst M n i k).2 - wsum M (n - 1 - k) (wst M n i k).1 (plt M (n - 1 - k) (wst M n i k).1 (wst M n i k).2))
def wlt (M : Nat → Nat) (n i k : Nat) : Nat := plt M (n - 1 - k) (wst M n i k).1 (wst M n i k).2
theorem wst_ok {M : Nat → Nat} {n i : Nat} (hi : i < wc M n (ess M)) (k : Nat) (hk : k ≤ n) : (wst M n i k).2 < wc M (n - k) (wst M n i k).1 ∧ (wst M n i k).1 < 256 := by
  induction k with
  | zero => exact ⟨hi, ess_lt M⟩
  | succ k ih =>
    obtain ⟨h1, h2⟩ := ih (by omega)
    have e : n - k = (n - 1 - k) + 1 := by omega
    rw [e] at h1
    obtain ⟨p1, p2, p3⟩ := plt_ok h1
    refine ⟨?_, ims_lt p1⟩
    rw [wst]
    dsimp only
    rw [wsum_step] at p3
    rw [show n - (k + 1) = n - 1 - k by omega]
    omega
theorem lcmp_lt {a b : Nat} (ha : a < 2 ^ 63) (hb : b < 2 ^ 63) : (lg_cmp (lN a) (lN b) < 0) = (a < b) := by
  apply propext
  unfold lg_cmp
  have h1 : lN a < lN b ↔ a < b := pk_lLT ha hb
  have h2 : lN a = lN b ↔ a = b := pk_lEQ ha hb
  have h3 : lN b < lN a ↔ b < a := pk_lLT hb ha
  by_cases c1 : a < b
  · simp [h1, h2, h3, c1, show ¬ a = b by omega, show ¬ b < a by omega]
  · by_cases c2 : a = b
    · simp [c2]
    · simp [h1, h2, h3, c1, c2, show b < a by omega]
theorem lcmp_ge {a b : Nat} (ha : a < 2 ^ 63) (hb : b < 2 ^ 63) : (0 ≤ lg_cmp (lN a) (lN b)) = (b ≤ a) := by
  apply propext
  unfold lg_cmp
  have h1 : lN a < lN b ↔ a < b := pk_lLT ha hb
  have h2 : lN a = lN b ↔ a = b := pk_lEQ ha hb
  have h3 : lN b < lN a ↔ b < a := pk_lLT hb ha
  by_cases c1 : a < b
  · simp [h1, h2, h3, c1, show ¬ a = b by omega, show ¬ b < a by omega, show ¬ b ≤ a by omega]
  · by_cases c2 : a = b
    · simp [c2]
    · simp [h1, h2, h3, c1, c2, show b < a by omega, show b ≤ a by omega]
theorem lsub {a b : Nat} (h : b ≤ a) : lN a - lN b = lN (a - b) := by
  have e : lN (a - b) + lN b = lN a := by rw [lN_plus, Nat.sub_add_cancel h]
  rw [← e]
  exact Int64.add_sub_cancel _ _
