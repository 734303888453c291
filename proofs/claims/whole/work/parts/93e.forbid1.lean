/-! CALL: forbid: how far the word has come -/
def rpB (w : Nat → Nat) (k q : Nat) : Nat → Bool
  | 0 => true
  | j + 1 => rpB w k q j && decide (w (k - q + j) = w j)
theorem rpB_no {w : Nat → Nat} {k q j : Nat} (h : rpB w k q j = false) : ∀ i, rpB w k q (j + i) = false
  | 0 => h
  | i + 1 => by rw [← Nat.add_assoc, rpB, rpB_no h i, Bool.false_and]
def ov (w : Nat → Nat) (k l : Nat) : Nat → Nat
  | 0 => 0
  | q + 1 => if w q = l ∧ rpB w k q q = true then q + 1 else ov w k l q
theorem ov_le {w : Nat → Nat} {k l : Nat} : ∀ q, ov w k l q ≤ q
  | 0 => Nat.le_refl _
  | q + 1 => by
    rw [ov]
    split
    · exact Nat.le_refl _
    · have := ov_le (w := w) (k := k) (l := l) q
      omega
theorem nI_prd (q : Nat) : nI (q + 1) + (-1 : Int32) = nI q := by
  rw [← nI_add q 1, show nI 1 = (1 : Int32) by decide]
  generalize nI q = a
  grind
section FO
variable {h : ZH} {n : Nat} {c : Nat → Nat}
theorem repPre_ok (hs : Sh h) (i1 : n ≤ 120) (i2 : zI h 26 1 = nI n) (i4 : ∀ i, i < n → zI h 27 i = nI (c i) ∧ 97 ≤ c i ∧ c i ≤ 100) {k q : Nat} (hk : k < n) (hq : q ≤ k) : fX10_repeatsPrefix 0 (nI k) (nI q) h = some (nI (rpB (fun j => c j - 97) k q q).toNat, h) := by
  have key : wp (fX10_repeatsPrefix 0 (nI k) (nI q) h) (fun y => y = (nI (rpB (fun j => c j - 97) k q q).toNat, h)) := by
    unfold fX10_repeatsPrefix
    simp (disch := omega) only [SC (hs), zl_eq, bsm, ZS, ZT, ZN, ZU, eq_self, true_and, and_true, and_self, or_true, true_or, or_false, false_or, not_true, not_false_eq_true, Nat.reduceAdd, Nat.reduceMul, Nat.reduceLT, Nat.reduceLeDiff, Nat.reduceEqDiff, ↓reduceIte, ZQ, Bool.true_eq_false, Bool.false_eq_true, Bool.not_true, Bool.not_false]
    refine wloop (fun j y => y = (nI j, h) ∧ rpB (fun j => c j - 97) k q j = true) q (fun j y self hj hy ih => ?_) (show q < 100000 by omega) ⟨rfl, rfl⟩
    obtain ⟨rfl, b⟩ := hy
    show wp (kX10_repeatsPrefix_2 0 (nI k) (nI q) self (nI j) h) _
    unfold kX10_repeatsPrefix_2
    by_cases hlt : j < q
    · have e1 := at_ok (T26 hs) (by decide) i1 i2 (show k - q + j < n by omega)
      have e2 := at_ok (T26 hs) (by decide) i1 i2 (show j < n by omega)
      obtain ⟨c1, c2, c3⟩ := i4 (k - q + j) (by omega)
      obtain ⟨d1, d2, d3⟩ := i4 j (by omega)
      rw [c1] at e1
      rw [d1] at e2
      by_cases e : c (k - q + j) = c j
      · simp (disch := omega) only [Nat.not_le.mpr hlt, e1, e2, eq_true e, SC (hs), zl_eq, bsm, ZS, ZT, ZN, ZU, eq_self, true_and, and_true, and_self, or_true, true_or, or_false, false_or, not_true, not_false_eq_true, Nat.reduceAdd, Nat.reduceMul, Nat.reduceLT, Nat.reduceLeDiff, Nat.reduceEqDiff, ↓reduceIte, ZQ, Bool.true_eq_false, Bool.false_eq_true, Bool.not_true, Bool.not_false]
        refine ih _ hlt ⟨rfl, ?_⟩
        rw [rpB, b, Bool.true_and]
        exact decide_eq_true (by rw [e])
      · have r1 : rpB (fun j => c j - 97) k q (j + 1) = false := by
          rw [rpB, b, Bool.true_and]
          exact decide_eq_false (by omega)
        have r2 := rpB_no r1 (q - (j + 1))
        rw [show j + 1 + (q - (j + 1)) = q by omega] at r2
        simp (disch := omega) only [Nat.not_le.mpr hlt, e1, e2, eq_false e, SC (hs), zl_eq, bsm, ZS, ZT, ZN, ZU, eq_self, true_and, and_true, and_self, or_true, true_or, or_false, false_or, not_true, not_false_eq_true, Nat.reduceAdd, Nat.reduceMul, Nat.reduceLT, Nat.reduceLeDiff, Nat.reduceEqDiff, ↓reduceIte, ZQ, Bool.true_eq_false, Bool.false_eq_true, Bool.not_true, Bool.not_false]
        rw [r2]
        exact wp_some rfl
    · have : j = q := by omega
      subst this
      simp (disch := omega) only [Nat.le_refl, SC (hs), zl_eq, bsm, ZS, ZT, ZN, ZU, eq_self, true_and, and_true, and_self, or_true, true_or, or_false, false_or, not_true, not_false_eq_true, Nat.reduceAdd, Nat.reduceMul, Nat.reduceLT, Nat.reduceLeDiff, Nat.reduceEqDiff, ↓reduceIte, ZQ, Bool.true_eq_false, Bool.false_eq_true, Bool.not_true, Bool.not_false]
      rw [b]
      exact wp_some rfl
  obtain ⟨y, e, rfl⟩ := key
  exact e
theorem overlap_ok (hs : Sh h) (i1 : n ≤ 120) (i2 : zI h 26 1 = nI n) (i4 : ∀ i, i < n → zI h 27 i = nI (c i) ∧ 97 ≤ c i ∧ c i ≤ 100) {k l : Nat} (hk : k < n) (hl : l < 4) : fX10_overlap 0 (nI k) (nI l) h = some (nI (ov (fun j => c j - 97) k l (k + 1)), h) := by
  have key : wp (fX10_overlap 0 (nI k) (nI l) h) (fun y => y = (nI (ov (fun j => c j - 97) k l (k + 1)), h)) := by
    unfold fX10_overlap
    simp (disch := omega) only [SC (hs), zl_eq, bsm, ZS, ZT, ZN, ZU, eq_self, true_and, and_true, and_self, or_true, true_or, or_false, false_or, not_true, not_false_eq_true, Nat.reduceAdd, Nat.reduceMul, Nat.reduceLT, Nat.reduceLeDiff, Nat.reduceEqDiff, ↓reduceIte, ZQ, Bool.true_eq_false, Bool.false_eq_true, Bool.not_true, Bool.not_false]
    refine wloop (fun j y => y = (nI (k + 1 - j), h) ∧ ov (fun j => c j - 97) k l (k + 1) = ov (fun j => c j - 97) k l (k + 1 - j)) (k + 1) (fun j y self hj hy ih => ?_) (show k + 1 < 100000 by omega) ⟨rfl, rfl⟩
    obtain ⟨rfl, b⟩ := hy
    show wp (kX10_overlap_4 0 (nI k) (nI l) self (nI (k + 1 - j)) h) _
    unfold kX10_overlap_4 bX10_overlap_38
    by_cases hlt : j < k + 1
    · obtain ⟨q, hq⟩ : ∃ q, k + 1 - j = q + 1 := ⟨k - j, by omega⟩
      rw [hq] at b ⊢
      have e1 := at_ok (T26 hs) (by decide) i1 i2 (show q < n by omega)
      obtain ⟨c1, c2, c3⟩ := i4 q (by omega)
      rw [c1] at e1
      have e2 := repPre_ok hs i1 i2 i4 hk (show q ≤ k by omega)
      have en : nI (q + 1) + (-1 : Int32) = nI q := nI_prd q
      have o1 : ov (fun j => c j - 97) k l (q + 1) = if c q - 97 = l ∧ rpB (fun j => c j - 97) k q q = true then q + 1 else ov (fun j => c j - 97) k l q := rfl
      rw [o1] at b
      by_cases e : c q - 97 = l
      · by_cases r : rpB (fun j => c j - 97) k q q = true
        · rw [if_pos ⟨e, r⟩] at b
          rw [r, Bool.toNat_true] at e2
          simp (disch := omega) only [show ¬ (q + 1 = 0) by omega, Nat.add_sub_cancel, e1, e2, eq_true e, SC (hs), zl_eq, bsm, ZS, ZT, ZN, ZU, eq_self, true_and, and_true, and_self, or_true, true_or, or_false, false_or, not_true, not_false_eq_true, Nat.reduceAdd, Nat.reduceMul, Nat.reduceLT, Nat.reduceLeDiff, Nat.reduceEqDiff, ↓reduceIte, ZQ, Bool.true_eq_false, Bool.false_eq_true, Bool.not_true, Bool.not_false]
          rw [b]
          exact wp_some rfl
        · have r' : rpB (fun j => c j - 97) k q q = false := by simpa using r
          rw [if_neg (fun z => r z.2)] at b
          rw [r', Bool.toNat_false] at e2
          simp (disch := omega) only [show ¬ (q + 1 = 0) by omega, Nat.add_sub_cancel, e1, e2, eq_true e, en, SC (hs), zl_eq, bsm, ZS, ZT, ZN, ZU, eq_self, true_and, and_true, and_self, or_true, true_or, or_false, false_or, not_true, not_false_eq_true, Nat.reduceAdd, Nat.reduceMul, Nat.reduceLT, Nat.reduceLeDiff, Nat.reduceEqDiff, ↓reduceIte, ZQ, Bool.true_eq_false, Bool.false_eq_true, Bool.not_true, Bool.not_false]
          exact ih _ hlt ⟨by rw [show k + 1 - (j + 1) = q by omega], by rw [b, show k + 1 - (j + 1) = q by omega]⟩
      · rw [if_neg (fun z => e z.1)] at b
        simp (disch := omega) only [show ¬ (q + 1 = 0) by omega, Nat.add_sub_cancel, e1, e2, eq_false e, en, SC (hs), zl_eq, bsm, ZS, ZT, ZN, ZU, eq_self, true_and, and_true, and_self, or_true, true_or, or_false, false_or, not_true, not_false_eq_true, Nat.reduceAdd, Nat.reduceMul, Nat.reduceLT, Nat.reduceLeDiff, Nat.reduceEqDiff, ↓reduceIte, ZQ, Bool.true_eq_false, Bool.false_eq_true, Bool.not_true, Bool.not_false]
        exact ih _ hlt ⟨by rw [show k + 1 - (j + 1) = q by omega], by rw [b, show k + 1 - (j + 1) = q by omega]⟩
    · have : j = k + 1 := by omega
      subst this
      rw [Nat.sub_self] at b
      simp (disch := omega) only [Nat.sub_self, SC (hs), zl_eq, bsm, ZS, ZT, ZN, ZU, eq_self, true_and, and_true, and_self, or_true, true_or, or_false, false_or, not_true, not_false_eq_true, Nat.reduceAdd, Nat.reduceMul, Nat.reduceLT, Nat.reduceLeDiff, Nat.reduceEqDiff, ↓reduceIte, ZQ, Bool.true_eq_false, Bool.false_eq_true, Bool.not_true, Bool.not_false]
      rw [b]
      exact wp_some rfl
  obtain ⟨y, e, rfl⟩ := key
  exact e
theorem bd_idx {k q : Nat} (hq : q ≤ k) : nI k - nI (q + 1) + nI 1 = nI (k - q) := by
  rw [show nI (q + 1) = nI q + nI 1 from (nI_add q 1).symm, show nI k = nI (k - q) + nI q by rw [nI_add, Nat.sub_add_cancel hq]]
  generalize nI (k - q) = a
  generalize nI q = b
  generalize nI 1 = d
  grind
theorem border_ok {w : Nat → Nat} (hs : Sh h) (i1 : n ≤ 120) (i2 : zI h 117 12 = nI n) (i4 : ∀ i, i < n → zI h 125 i = nI (w i) ∧ w i < 4) {k l : Nat} (hk : k < n) (hl : l < 4) : fX11_border 117 (nI k) (nI l) h = some (nI (ov w k l (k + 1)), h) := by
  have key : wp (fX11_border 117 (nI k) (nI l) h) (fun y => y = (nI (ov w k l (k + 1)), h)) := by
    unfold fX11_border
    simp (disch := omega) only [i2, jmmin_ok (a := k + 1) (b := n) (by omega) (by omega), Nat.min_eq_left (show k + 1 ≤ n by omega), SR (hs), zl_eq, bsm, ZS, ZT, ZN, ZU, eq_self, true_and, and_true, and_self, or_true, true_or, or_false, false_or, not_true, not_false_eq_true, Nat.reduceAdd, Nat.reduceMul, Nat.reduceLT, Nat.reduceLeDiff, Nat.reduceEqDiff, ↓reduceIte, ZQ, Bool.true_eq_false, Bool.false_eq_true, Bool.not_true, Bool.not_false]
    refine wloop (fun j y => y = (nI (k + 1 - j), h) ∧ ov w k l (k + 1) = ov w k l (k + 1 - j)) (k + 1) (fun j y self hj hy ih => ?_) (show k + 1 < 100000 by omega) ⟨rfl, rfl⟩
    obtain ⟨rfl, b⟩ := hy
    show wp (kX11_border_11 117 (nI k) (nI l) self (nI (k + 1 - j)) h) _
    unfold kX11_border_11
    by_cases hlt : j < k + 1
    · obtain ⟨q, hq⟩ : ∃ q, k + 1 - j = q + 1 := ⟨k - j, by omega⟩
      rw [hq] at b ⊢
      obtain ⟨c1, c2⟩ := i4 q (by omega)
      have en : nI (q + 1) + (-1 : Int32) = nI q := nI_prd q
      have inner : ∀ f : Bool, bX11_border_32 self 117 (nI k) (nI l) (nI (q + 1)) (nI f.toNat) h = if (rpB w k q q && f) = true then some (nI (q + 1), h) else self (nI q, h) := by
        intro f
        unfold bX11_border_32
        show zloop (lX11_border_37 self 117 (nI k) (nI l) (nI (q + 1))) zfu ((fun j => (nI (rpB w k q j && f).toNat, nI j, h)) 0) = _
        refine zloop_run (fun j => (nI (rpB w k q j && f).toNat, nI j, h)) q (fun j hj self2 => ?_) (fun self2 => ?_) (show q < 100000 by omega)
        · show kX11_border_37 self 117 (nI k) (nI l) (nI (q + 1)) self2 (nI (rpB w k q j && f).toNat) (nI j) h = self2 (nI (rpB w k q (j + 1) && f).toNat, nI (j + 1), h)
          unfold kX11_border_37 bX11_border_77 bX11_border_78
          obtain ⟨d1, d2⟩ := i4 j (by omega)
          obtain ⟨f1, f2⟩ := i4 (k - q + j) (by omega)
          rw [rpB]
          cases hr : rpB w k q j with
          | false =>
            rw [Bool.false_and, Bool.false_and, Bool.false_and, Bool.toNat_false]
            simp (disch := omega) only [Nat.add_sub_cancel, show ¬ (q ≤ j) by omega, SR (hs), zl_eq, bsm, ZS, ZT, ZN, ZU, eq_self, true_and, and_true, and_self, or_true, true_or, or_false, false_or, not_true, not_false_eq_true, Nat.reduceAdd, Nat.reduceMul, Nat.reduceLT, Nat.reduceLeDiff, Nat.reduceEqDiff, ↓reduceIte, ZQ, Bool.true_eq_false, Bool.false_eq_true, Bool.not_true, Bool.not_false]
          | true =>
            cases f with
            | false =>
              rw [Bool.and_false, Bool.and_false, Bool.toNat_false]
              simp (disch := omega) only [Nat.add_sub_cancel, show ¬ (q ≤ j) by omega, SR (hs), zl_eq, bsm, ZS, ZT, ZN, ZU, eq_self, true_and, and_true, and_self, or_true, true_or, or_false, false_or, not_true, not_false_eq_true, Nat.reduceAdd, Nat.reduceMul, Nat.reduceLT, Nat.reduceLeDiff, Nat.reduceEqDiff, ↓reduceIte, ZQ, Bool.true_eq_false, Bool.false_eq_true, Bool.not_true, Bool.not_false]
            | true =>
              rw [Bool.true_and, Bool.true_and, Bool.and_true, Bool.toNat_true]
              by_cases e : w j = w (k - q + j)
              · rw [decide_eq_true e.symm, Bool.toNat_true]
                simp (disch := omega) only [Nat.add_sub_cancel, show ¬ (q ≤ j) by omega, d1, bd_idx (show q ≤ k by omega), f1, eq_true e, SR (hs), zl_eq, bsm, ZS, ZT, ZN, ZU, eq_self, true_and, and_true, and_self, or_true, true_or, or_false, false_or, not_true, not_false_eq_true, Nat.reduceAdd, Nat.reduceMul, Nat.reduceLT, Nat.reduceLeDiff, Nat.reduceEqDiff, ↓reduceIte, ZQ, Bool.true_eq_false, Bool.false_eq_true, Bool.not_true, Bool.not_false]
              · rw [decide_eq_false (fun z => e z.symm), Bool.toNat_false]
                simp (disch := omega) only [Nat.add_sub_cancel, show ¬ (q ≤ j) by omega, d1, bd_idx (show q ≤ k by omega), f1, eq_false e, SR (hs), zl_eq, bsm, ZS, ZT, ZN, ZU, eq_self, true_and, and_true, and_self, or_true, true_or, or_false, false_or, not_true, not_false_eq_true, Nat.reduceAdd, Nat.reduceMul, Nat.reduceLT, Nat.reduceLeDiff, Nat.reduceEqDiff, ↓reduceIte, ZQ, Bool.true_eq_false, Bool.false_eq_true, Bool.not_true, Bool.not_false]
        · show kX11_border_37 self 117 (nI k) (nI l) (nI (q + 1)) self2 (nI (rpB w k q q && f).toNat) (nI q) h = _
          unfold kX11_border_37
          cases hf : (rpB w k q q && f) with
          | false => simp (disch := omega) only [Nat.add_sub_cancel, Nat.le_refl, Bool.toNat_false, en, SR (hs), zl_eq, bsm, ZS, ZT, ZN, ZU, eq_self, true_and, and_true, and_self, or_true, true_or, or_false, false_or, not_true, not_false_eq_true, Nat.reduceAdd, Nat.reduceMul, Nat.reduceLT, Nat.reduceLeDiff, Nat.reduceEqDiff, ↓reduceIte, ZQ, Bool.true_eq_false, Bool.false_eq_true, Bool.not_true, Bool.not_false]
          | true => simp (disch := omega) only [Nat.add_sub_cancel, Nat.le_refl, Bool.toNat_true, SR (hs), zl_eq, bsm, ZS, ZT, ZN, ZU, eq_self, true_and, and_true, and_self, or_true, true_or, or_false, false_or, not_true, not_false_eq_true, Nat.reduceAdd, Nat.reduceMul, Nat.reduceLT, Nat.reduceLeDiff, Nat.reduceEqDiff, ↓reduceIte, ZQ, Bool.true_eq_false, Bool.false_eq_true, Bool.not_true, Bool.not_false]
      have o1 : ov w k l (q + 1) = if w q = l ∧ rpB w k q q = true then q + 1 else ov w k l q := rfl
      rw [o1] at b
      by_cases e : w q = l
      · have i1 := inner true
        rw [Bool.toNat_true, Bool.and_true] at i1
        simp (disch := omega) only [show ¬ (q + 1 = 0) by omega, Nat.add_sub_cancel, c1, eq_true e, i1, SR (hs), zl_eq, bsm, ZS, ZT, ZN, ZU, eq_self, true_and, and_true, and_self, or_true, true_or, or_false, false_or, not_true, not_false_eq_true, Nat.reduceAdd, Nat.reduceMul, Nat.reduceLT, Nat.reduceLeDiff, Nat.reduceEqDiff, ↓reduceIte, ZQ, Bool.true_eq_false, Bool.false_eq_true, Bool.not_true, Bool.not_false]
        by_cases r : rpB w k q q = true
        · rw [if_pos ⟨e, r⟩] at b
          rw [if_pos r, b]
          exact wp_some rfl
        · rw [if_neg (fun z => r z.2)] at b
          rw [if_neg r]
          exact ih _ hlt ⟨by rw [show k + 1 - (j + 1) = q by omega], by rw [b, show k + 1 - (j + 1) = q by omega]⟩
      · have i1 := inner false
        rw [Bool.toNat_false, Bool.and_false, if_neg (by decide)] at i1
        rw [if_neg (fun z => e z.1)] at b
        simp (disch := omega) only [show ¬ (q + 1 = 0) by omega, Nat.add_sub_cancel, c1, eq_false e, i1, SR (hs), zl_eq, bsm, ZS, ZT, ZN, ZU, eq_self, true_and, and_true, and_self, or_true, true_or, or_false, false_or, not_true, not_false_eq_true, Nat.reduceAdd, Nat.reduceMul, Nat.reduceLT, Nat.reduceLeDiff, Nat.reduceEqDiff, ↓reduceIte, ZQ, Bool.true_eq_false, Bool.false_eq_true, Bool.not_true, Bool.not_false]
        exact ih _ hlt ⟨by rw [show k + 1 - (j + 1) = q by omega], by rw [b, show k + 1 - (j + 1) = q by omega]⟩
    · have : j = k + 1 := by omega
      subst this
      rw [Nat.sub_self] at b
      simp (disch := omega) only [Nat.sub_self, SR (hs), zl_eq, bsm, ZS, ZT, ZN, ZU, eq_self, true_and, and_true, and_self, or_true, true_or, or_false, false_or, not_true, not_false_eq_true, Nat.reduceAdd, Nat.reduceMul, Nat.reduceLT, Nat.reduceLeDiff, Nat.reduceEqDiff, ↓reduceIte, ZQ, Bool.true_eq_false, Bool.false_eq_true, Bool.not_true, Bool.not_false]
      rw [b]
      exact wp_some rfl
  obtain ⟨y, e, rfl⟩ := key
  exact e
end FO
