/-! CALLS: parse -/
/-- whether a sign may stand at a place -/
def fitB (i ch : Nat) : Bool := if i % 4 = 1 then decide (97 ≤ ch ∧ ch ≤ 100) else if i % 4 = 3 then decide (ch = 59) else decide (48 ≤ ch ∧ ch ≤ 55)
theorem b01' (b : Bool) (h : ZH) : (if nI b.toNat = 0 ∨ nI b.toNat = 1 then some (nI b.toNat, h) else none) = some (nI b.toNat, h) := if_pos (b01 b)
theorem sub_letter {ch : Nat} (hc : ch ≤ 127) (h : ZH) : fX10_isLetter (nI ch - nI 97) h = some (nI (decide (97 ≤ ch ∧ ch ≤ 100)).toNat, h) := by
  by_cases h1 : ch < 97
  · rw [isLetter_no (Or.inl (pk_sneg (by decide) h1)), decide_eq_false (by omega)]; rfl
  · rw [pk_sub (by omega)]
    by_cases h2 : ch ≤ 100
    · rw [isLetter_ok (by omega), decide_eq_true (by omega)]; rfl
    · rw [isLetter_no (Or.inr (nI_le (by omega) (by omega))), decide_eq_false (by omega)]; rfl
theorem sub_vertex {ch : Nat} (hc : ch ≤ 127) (h : ZH) : fX10_isVertex (nI ch - nI 48) h = some (nI (decide (48 ≤ ch ∧ ch ≤ 55)).toNat, h) := by
  by_cases h1 : ch < 48
  · rw [isVertex_no (Or.inl (pk_sneg (by decide) h1)), decide_eq_false (by omega)]; rfl
  · rw [pk_sub (by omega)]
    by_cases h2 : ch ≤ 55
    · rw [isVertex_ok (by omega), decide_eq_true (by omega)]; rfl
    · rw [isVertex_no (Or.inr (nI_le (by omega) (by omega))), decide_eq_false (by omega)]; rfl
theorem in_dec {ch lo hi : Nat} (hc : ch ≤ 127) (hl : lo ≤ 127) (hh : hi ≤ 127) (h : ZH) : fX11_isIn (nI ch) (nI lo) (nI hi) h = some (nI (decide (lo ≤ ch ∧ ch ≤ hi)).toNat, h) := by
  by_cases h1 : lo ≤ ch ∧ ch ≤ hi
  · rw [isIn_ok h1.1 h1.2 (by omega), decide_eq_true h1]; rfl
  · rw [isIn_no ?_, decide_eq_false h1]
    · rfl
    · by_cases h2 : ch < lo
      · exact Or.inl (nI_lt h2 (by omega))
      · exact Or.inr (nI_lt (by omega) (by omega))
theorem n3eq {a : Nat} (ha : a < 2 ^ 31) : (nI a = 3) = (a = 3) := propext (show nI a = nI 3 ↔ a = 3 from nI_eq ha (by decide))
theorem n2eq {a : Nat} (ha : a < 2 ^ 31) : (nI a = 2) = (a = 2) := propext (show nI a = nI 2 ↔ a = 2 from nI_eq ha (by decide))
theorem fits_ok {i ch : Nat} (hi : i < 2 ^ 31) (hc : ch ≤ 127) (h : ZH) : fX10_fitsInGraph (nI i) (nI ch) h = some (nI (fitB i ch).toNat, h) := by
  unfold fX10_fitsInGraph fitB bX10_fitsInGraph_47
  rw [if_neg (show ¬ nI 4 = 0 by decide), zl_eq, jrem_ok hi (by decide) (by decide)]
  by_cases h1 : i % 4 = 1
  · rw [if_pos h1, if_pos (by rw [n1eq (by omega)]; exact h1), sub_letter hc, bsm]
    exact b01' _ h
  · rw [if_neg h1, if_neg (by rw [n1eq (by omega)]; exact h1)]
    by_cases h3 : i % 4 = 3
    · rw [if_pos h3, if_pos (by rw [n3eq (by omega)]; exact h3)]
      by_cases h4 : ch = 59
      · rw [if_pos (by rw [h4]), decide_eq_true h4]; rfl
      · rw [if_neg (fun q => h4 ((nI_eq (by omega) (by decide)).mp q)), decide_eq_false h4]; rfl
    · rw [if_neg h3, if_neg (by rw [n3eq (by omega)]; exact h3), sub_vertex hc, bsm]
      exact b01' _ h
theorem stands_ok {i ch : Nat} (hc : ch ≤ 127) (h : ZH) : fX11_stands (nI (i % 4)) (nI ch) h = some (nI (fitB i ch).toNat, h) := by
  unfold fX11_stands fitB bX11_stands_43
  by_cases h1 : i % 4 = 1
  · rw [if_pos h1, if_pos (by rw [h1]), in_dec hc (by decide) (by decide), bsm]
    exact b01' _ h
  · rw [if_neg h1, if_neg (fun q => h1 ((nI_eq (by omega) (by decide)).mp q))]
    by_cases h3 : i % 4 = 3
    · rw [if_pos h3, if_pos (by rw [h3])]
      by_cases h4 : ch = 59
      · rw [if_pos (by rw [h4]), decide_eq_true h4]; rfl
      · rw [if_neg (fun q => h4 ((nI_eq (by omega) (by decide)).mp q)), decide_eq_false h4]; rfl
    · rw [if_neg h3, if_neg (fun q => h3 ((nI_eq (by omega) (by decide)).mp q)), in_dec hc (by decide) (by decide), bsm]
      exact b01' _ h
/-- the graph of the first k signs -/
def pN (c : Nat → Nat) : Nat → Nat → Nat
  | 0 => fun _ => 0
  | k + 1 => if k % 4 = 2 then upM (pN c k) (4 * (c (k - 2) - 48) + (c (k - 1) - 97)) (pN c k (4 * (c (k - 2) - 48) + (c (k - 1) - 97)) ||| 2 ^ (c k - 48)) else pN c k
/-- the first place that does not fit -/
theorem exFault (n : Nat) (c : Nat → Nat) : ∃ k, k ≤ n ∧ (∀ j, j < k → fitB j (c j) = true) ∧ (k < n → fitB k (c k) = false) := by
  induction n with
  | zero => exact ⟨0, Nat.le_refl _, fun j hj => by omega, fun h => by omega⟩
  | succ n ih =>
    obtain ⟨k, h1, h2, h3⟩ := ih
    by_cases e : k < n
    · exact ⟨k, by omega, h2, fun _ => h3 e⟩
    · have : k = n := by omega
      subst this
      by_cases hf : fitB k (c k) = true
      · refine ⟨k + 1, Nat.le_refl _, fun j hj => ?_, fun h => by omega⟩
        by_cases ej : j = k
        · rw [ej]; exact hf
        · exact h2 j (by omega)
      · exact ⟨k, by omega, h2, fun _ => by simpa using hf⟩
theorem fit0 {i ch : Nat} (h : fitB i ch = true) (h1 : i % 4 = 0 ∨ i % 4 = 2) : 48 ≤ ch ∧ ch ≤ 55 := by
  unfold fitB at h
  rw [if_neg (by omega), if_neg (by omega)] at h
  exact of_decide_eq_true h
theorem fit1 {i ch : Nat} (h : fitB i ch = true) (h1 : i % 4 = 1) : 97 ≤ ch ∧ ch ≤ 100 := by
  unfold fitB at h
  rw [if_pos h1] at h
  exact of_decide_eq_true h
/-- what reading the input as a graph ends with, if k is the first place that doesn't fit -/
def rdQ (n k : Nat) : Int32 := if k = n ∧ n % 4 = 3 then -1 else nI k
theorem readGraph_ok {h : ZH} {n k : Nat} {c : Nat → Nat} (hs : Sh h) (g3 : iIn n c h) (hk : k ≤ n) (hf : ∀ j, j < k → fitB j (c j) = true) (hb : k < n → fitB k (c k) = false) : wp (fX10_readGraph 0 h) (fun x => x.1 = rdQ n k ∧ zfr [32] h x.2 ∧ (k = n → hasM x.2 32 (pN c n))) := by
  obtain ⟨i1, i2, i3, i4⟩ := g3
  obtain ⟨h0, e0, p0, q0⟩ := clear_ok (g31 hs)
  have hs0 := p0.shp hs
  have el : fX7_length 26 h0 = some (nI n, h0) := len_ok (T26 hs0) (by rw [p0.I (by decide)]; exact i2)
  unfold fX10_readGraph
  simp (disch := omega) only [e0, SC (hs), zl_eq, bsm, ZS, ZT, ZN, ZU, eq_self, true_and, and_true, and_self, or_true, true_or, or_false, false_or, not_true, not_false_eq_true, Nat.reduceAdd, Nat.reduceMul, Nat.reduceLT, Nat.reduceLeDiff, Nat.reduceEqDiff, ↓reduceIte, ZQ, Bool.true_eq_false, Bool.false_eq_true, Bool.not_true, Bool.not_false]
  simp (disch := omega) only [el, SC (hs0), zl_eq, bsm, ZS, ZT, ZN, ZU, eq_self, true_and, and_true, and_self, or_true, true_or, or_false, false_or, not_true, not_false_eq_true, Nat.reduceAdd, Nat.reduceMul, Nat.reduceLT, Nat.reduceLeDiff, Nat.reduceEqDiff, ↓reduceIte, ZQ, Bool.true_eq_false, Bool.false_eq_true, Bool.not_true, Bool.not_false]
  refine wloop (fun j y => y.2.2.1 = nI j ∧ zfr [32] h y.2.2.2 ∧ hasM y.2.2.2 32 (pN c j) ∧ (1 ≤ j % 4 → y.1 = nI (c (j - j % 4) - 48)) ∧ (2 ≤ j % 4 → y.2.1 = nI (c (j - j % 4 + 1) - 97))) k (fun j y self hj hy ih => ?_) (show k < 100000 by omega) ⟨rfl, p0, by rw [pN]; exact q0, fun h => by omega, fun h => by omega⟩
  obtain ⟨x2, x3, y, h1⟩ := y
  obtain ⟨rfl, p1, q1, y1, y2⟩ := hy
  dsimp only at p1 q1 y1 y2
  have hs1 := p1.shp hs
  have i2' : zI h1 26 1 = nI n := by rw [p1.I (by decide)]; exact i2
  show wp (kX10_readGraph_22 0 (nI n) self x2 x3 (nI j) h1) _
  unfold kX10_readGraph_22 bX10_readGraph_119 bX10_readGraph_137
  by_cases hjn : j = n
  · have hkn : k = n := by omega
    subst hjn
    subst hkn
    by_cases e3 : k % 4 = 3
    · simp (disch := omega) only [Nat.le_refl, e3, SC (hs1), zl_eq, bsm, ZS, ZT, ZN, ZU, eq_self, true_and, and_true, and_self, or_true, true_or, or_false, false_or, not_true, not_false_eq_true, Nat.reduceAdd, Nat.reduceMul, Nat.reduceLT, Nat.reduceLeDiff, Nat.reduceEqDiff, ↓reduceIte, ZQ, Bool.true_eq_false, Bool.false_eq_true, Bool.not_true, Bool.not_false]
      refine wp_some ⟨?_, p1, fun _ => q1⟩
      unfold rdQ
      rw [if_pos ⟨rfl, e3⟩]
    · simp (disch := omega) only [Nat.le_refl, eq_false e3, SC (hs1), zl_eq, bsm, ZS, ZT, ZN, ZU, eq_self, true_and, and_true, and_self, or_true, true_or, or_false, false_or, not_true, not_false_eq_true, Nat.reduceAdd, Nat.reduceMul, Nat.reduceLT, Nat.reduceLeDiff, Nat.reduceEqDiff, ↓reduceIte, ZQ, Bool.true_eq_false, Bool.false_eq_true, Bool.not_true, Bool.not_false]
      refine wp_some ⟨?_, p1, fun _ => q1⟩
      unfold rdQ
      rw [if_neg (fun q => e3 q.2)]
  · have hjn' : j < n := by omega
    have ea := at_ok (T26 hs1) (by decide) i1 i2' hjn'
    have ec : zI h1 27 j = nI (c j) := by rw [p1.I (by decide)]; exact (i4 j hjn').1
    have hcb := (i4 j hjn').2.2
    rw [ec] at ea
    have ef := fits_ok (i := j) (ch := c j) (by omega) (by omega) h1
    by_cases hlt : j < k
    · have hfj := hf j hlt
      rw [hfj, Bool.toNat_true] at ef
      rcases (show j % 4 = 0 ∨ j % 4 = 1 ∨ j % 4 = 2 ∨ j % 4 = 3 by omega) with m | m | m | m
      · have f0 := fit0 hfj (Or.inl m)
        simp (disch := omega) only [Nat.not_le.mpr hjn', ea, ef, m, SC (hs1), zl_eq, bsm, ZS, ZT, ZN, ZU, eq_self, true_and, and_true, and_self, or_true, true_or, or_false, false_or, not_true, not_false_eq_true, Nat.reduceAdd, Nat.reduceMul, Nat.reduceLT, Nat.reduceLeDiff, Nat.reduceEqDiff, ↓reduceIte, ZQ, Bool.true_eq_false, Bool.false_eq_true, Bool.not_true, Bool.not_false]
        refine ih _ hlt ⟨rfl, p1, by rw [pN, if_neg (by omega)]; exact q1, fun _ => ?_, fun h => by omega⟩
        dsimp only
        rw [show j + 1 - (j + 1) % 4 = j by omega]
      · simp (disch := omega) only [Nat.not_le.mpr hjn', ea, ef, m, SC (hs1), zl_eq, bsm, ZS, ZT, ZN, ZU, eq_self, true_and, and_true, and_self, or_true, true_or, or_false, false_or, not_true, not_false_eq_true, Nat.reduceAdd, Nat.reduceMul, Nat.reduceLT, Nat.reduceLeDiff, Nat.reduceEqDiff, ↓reduceIte, ZQ, Bool.true_eq_false, Bool.false_eq_true, Bool.not_true, Bool.not_false]
        have f1 := fit1 hfj m
        rw [pk_sub (by omega)]
        refine ih _ hlt ⟨rfl, p1, by rw [pN, if_neg (by omega)]; exact q1, fun _ => ?_, fun _ => ?_⟩
        · dsimp only
          rw [show j + 1 - (j + 1) % 4 = j - j % 4 by omega]; exact y1 (by omega)
        · dsimp only
          rw [show j + 1 - (j + 1) % 4 + 1 = j by omega]
      · have f2 := fit0 hfj (Or.inr m)
        have f0 := fit0 (hf (j - 2) (by omega)) (Or.inl (by omega))
        have f1 := fit1 (hf (j - 1) (by omega)) (by omega)
        have z1 := y1 (by omega)
        have z2 := y2 (by omega)
        rw [show j - j % 4 = j - 2 by omega] at z1
        rw [show j - j % 4 + 1 = j - 1 by omega] at z2
        subst z1
        subst z2
        obtain ⟨h2, e2, p2, q2⟩ := put_ok (g31 hs1) q1 (v := c (j - 2) - 48) (l := c (j - 1) - 97) (x := c j - 48) (by omega) (by omega) (by omega)
        simp (disch := omega) only [Nat.not_le.mpr hjn', ea, ef, m, n2eq, show ((2 : Nat) = 1) = False by simp, show ((2 : Nat) = 0) = False by simp, e2, SC (hs1), zl_eq, bsm, ZS, ZT, ZN, ZU, eq_self, true_and, and_true, and_self, or_true, true_or, or_false, false_or, not_true, not_false_eq_true, Nat.reduceAdd, Nat.reduceMul, Nat.reduceLT, Nat.reduceLeDiff, Nat.reduceEqDiff, ↓reduceIte, ZQ, Bool.true_eq_false, Bool.false_eq_true, Bool.not_true, Bool.not_false]
        refine ih _ hlt ⟨rfl, p1.same p2, by rw [pN, if_pos m]; exact q2, fun _ => ?_, fun _ => ?_⟩
        · dsimp only
          rw [show j + 1 - (j + 1) % 4 = j - 2 by omega]
        · dsimp only
          rw [show j + 1 - (j + 1) % 4 + 1 = j - 1 by omega]
      · simp (disch := omega) only [Nat.not_le.mpr hjn', ea, ef, m, n2eq, show ((3 : Nat) = 1) = False by simp, show ((3 : Nat) = 0) = False by simp, show ((3 : Nat) = 2) = False by simp, SC (hs1), zl_eq, bsm, ZS, ZT, ZN, ZU, eq_self, true_and, and_true, and_self, or_true, true_or, or_false, false_or, not_true, not_false_eq_true, Nat.reduceAdd, Nat.reduceMul, Nat.reduceLT, Nat.reduceLeDiff, Nat.reduceEqDiff, ↓reduceIte, ZQ, Bool.true_eq_false, Bool.false_eq_true, Bool.not_true, Bool.not_false]
        refine ih _ hlt ⟨rfl, p1, by rw [pN, if_neg (by omega)]; exact q1, fun h => by omega, fun h => by omega⟩
    · have hjk : j = k := by omega
      subst hjk
      have hfj := hb hjn'
      rw [hfj, Bool.toNat_false] at ef
      simp (disch := omega) only [Nat.not_le.mpr hjn', ea, ef, SC (hs1), zl_eq, bsm, ZS, ZT, ZN, ZU, eq_self, true_and, and_true, and_self, or_true, true_or, or_false, false_or, not_true, not_false_eq_true, Nat.reduceAdd, Nat.reduceMul, Nat.reduceLT, Nat.reduceLeDiff, Nat.reduceEqDiff, ↓reduceIte, ZQ, Bool.true_eq_false, Bool.false_eq_true, Bool.not_true, Bool.not_false]
      refine wp_some ⟨?_, p1, fun e => by omega⟩
      unfold rdQ
      rw [if_neg (fun q => by omega)]
