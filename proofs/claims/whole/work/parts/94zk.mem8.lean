/-! CALL: memory -/
theorem stepsC {h : ZH} {n : Nat} {la : Nat → Nat → Nat} (hs : Sh h) (h8 : n ≤ 8) (hle : ∀ v l, v < n → l < 4 → la v l ≤ n) (tg : ∀ v l, v < n → l < 4 → fX0_targetInMerged 54 (nI v) (nI l) h = some (if la v l = 0 then -1 else nI (la v l - 1), h)) (z6 : zI h 54 7 = nI n) : wp (fX0_stepsToSynchronize 54 h) (fun y => y.2 = h ∧ ((∃ m, m ≤ 28 ∧ y.1 = nI m ∧ (¬ ∃ x y, apt n la m x y) ∧ ∀ m', m' < m → ∃ x y, apt n la m' x y) ∨ (y.1 = -1 ∧ ∀ m, m ≤ 28 → ∃ x y, apt n la m x y))) := by
  have e6 : gI h 0 54 7 = some (nI n) := by rw [gI_ok (O54 hs).1 (O54 hs).2, z6]
  unfold fX0_stepsToSynchronize
  rw [if_pos (O54 hs)]
  refine wloop (fun X r => r.2.1 = nI X ∧ r.2.2 = h ∧ ∃ D, r.1 = lN D ∧ D < 2 ^ 64 ∧ ∀ c, D.testBit c = true ↔ c % 8 < c / 8 ∧ c / 8 < X) n (fun X r self hX hr ih => ?_) (show n < 100000 by omega) ⟨rfl, rfl, 0, rfl, by decide, fun c => ⟨(fun z => by rw [Nat.zero_testBit] at z; cases z), (fun z => by omega)⟩⟩
  obtain ⟨r1, r2, r3⟩ := r
  obtain ⟨rfl, rfl, D, rfl, hD, q⟩ := hr
  show wp (kX0_stepsToSynchronize_4 54 self (lN D) (nI X) r3) _
  unfold kX0_stepsToSynchronize_4
  by_cases hXn : X < n
  · simp (disch := omega) only [e6, Nat.not_le.mpr hXn, zl_eq, bsm, ZS, ZT, ZN, ZU, eq_self, true_and, and_true, and_self, or_true, true_or, or_false, false_or, not_true, not_false_eq_true, Nat.reduceAdd, Nat.reduceMul, Nat.reduceLT, Nat.reduceLeDiff, Nat.reduceEqDiff, ↓reduceIte, ZQ, Bool.true_eq_false, Bool.false_eq_true, Bool.not_true, Bool.not_false]
    refine wloop (fun Y r => r.2.1 = nI Y ∧ r.2.2 = r3 ∧ ∃ F, r.1 = lN F ∧ F < 2 ^ 64 ∧ ∀ c, F.testBit c = true ↔ D.testBit c = true ∨ (c / 8 = X ∧ c % 8 < Y)) X (fun Y r self2 hY hr ih2 => ?_) (show X < 100000 by omega) ⟨rfl, rfl, D, rfl, hD, fun c => ⟨Or.inl, fun z => by
      rcases z with z | z
      · exact z
      · omega⟩⟩
    obtain ⟨s1, s2, s3⟩ := r
    obtain ⟨rfl, rfl, F, rfl, hF, qF⟩ := hr
    show wp (kX0_stepsToSynchronize_15 self 54 (nI X) self2 (lN F) (nI Y) s3) _
    unfold kX0_stepsToSynchronize_15
    by_cases hYX : Y < X
    · have ls := lb_shl 1 (v := 8 * X + Y) (by omega)
      simp (disch := omega) only [Nat.not_le.mpr hYX, ls, lb_or, zl_eq, bsm, ZS, ZT, ZN, ZU, eq_self, true_and, and_true, and_self, or_true, true_or, or_false, false_or, not_true, not_false_eq_true, Nat.reduceAdd, Nat.reduceMul, Nat.reduceLT, Nat.reduceLeDiff, Nat.reduceEqDiff, ↓reduceIte, ZQ, Bool.true_eq_false, Bool.false_eq_true, Bool.not_true, Bool.not_false]
      refine ih2 _ hYX ⟨rfl, rfl, _, rfl, Nat.or_lt_two_pow hF (by rw [Nat.one_mul]; exact Nat.pow_lt_pow_right (by decide) (by omega)), fun c => ?_⟩
      rw [Nat.one_mul, Nat.testBit_or, Bool.or_eq_true, qF, pow_bit]
      constructor
      · rintro ((z | z) | z)
        · exact Or.inl z
        · right; omega
        · right; omega
      · rintro (z | z)
        · exact Or.inl (Or.inl z)
        · by_cases e : c % 8 = Y
          · right; omega
          · left; right; omega
    · have : Y = X := by omega
      subst this
      simp (disch := omega) only [Nat.le_refl, zl_eq, bsm, ZS, ZT, ZN, ZU, eq_self, true_and, and_true, and_self, or_true, true_or, or_false, false_or, not_true, not_false_eq_true, Nat.reduceAdd, Nat.reduceMul, Nat.reduceLT, Nat.reduceLeDiff, Nat.reduceEqDiff, ↓reduceIte, ZQ, Bool.true_eq_false, Bool.false_eq_true, Bool.not_true, Bool.not_false]
      refine ih _ hXn ⟨rfl, rfl, F, rfl, hF, fun c => ?_⟩
      rw [qF, q]
      omega
  · have : X = n := by omega
    subst this
    simp (disch := omega) only [e6, Nat.le_refl, zl_eq, bsm, ZS, ZT, ZN, ZU, eq_self, true_and, and_true, and_self, or_true, true_or, or_false, false_or, not_true, not_false_eq_true, Nat.reduceAdd, Nat.reduceMul, Nat.reduceLT, Nat.reduceLeDiff, Nat.reduceEqDiff, ↓reduceIte, ZQ, Bool.true_eq_false, Bool.false_eq_true, Bool.not_true, Bool.not_false]
    refine steps51 hs h8 hle tg ⟨hD, fun c => ?_⟩
    rw [q]
    constructor
    · rintro ⟨a, b⟩; exact ⟨a, b, by omega, by omega⟩
    · rintro ⟨a, b, -⟩; exact ⟨a, b⟩
