/-! MEMORY: the object's pairs after all pairs -/
theorem pairsC {h : ZH} {n : Nat} {la : Nat → Nat → Nat} (hs : Sh h) (h8 : n ≤ 8) (hle : ∀ v l, v < n → l < 4 → la v l ≤ n) (tg : ∀ v l, v < n → l < 4 → fX0_targetInMerged 54 (nI v) (nI l) h = some (if la v l = 0 then -1 else nI (la v l - 1), h)) {D : Nat} (hD : ∀ x y, y < x → x < 8 → D.testBit (8 * x + y) = true → x < n) : ∃ E, fX0_pairsAfter 54 (lN D) h = some (lN E, h) ∧ E < 2 ^ 64 ∧ ∀ c, E.testBit c = true ↔ ∃ x y, x < 8 ∧ y < x ∧ D.testBit (8 * x + y) = true ∧ prT la x y 4 c := by
  have key : wp (fX0_pairsAfter 54 (lN D) h) (fun r => r.2 = h ∧ ∃ E, r.1 = lN E ∧ E < 2 ^ 64 ∧ ∀ c, E.testBit c = true ↔ ∃ x y, x < 8 ∧ y < x ∧ D.testBit (8 * x + y) = true ∧ prT la x y 4 c) := by
    unfold fX0_pairsAfter
    rw [if_pos (O54 hs)]
    refine wloop (fun X r => r.2.1 = nI X ∧ r.2.2 = h ∧ ∃ E, r.1 = lN E ∧ E < 2 ^ 64 ∧ ∀ c, E.testBit c = true ↔ ∃ x y, x < X ∧ y < x ∧ D.testBit (8 * x + y) = true ∧ prT la x y 4 c) 8 (fun X r self hX hr ih => ?_) (by decide) ⟨rfl, rfl, 0, rfl, by decide, fun c => ⟨(fun z => by rw [Nat.zero_testBit] at z; cases z), (fun z => by obtain ⟨x, y, hx, -⟩ := z; omega)⟩⟩
    obtain ⟨r1, r2, r3⟩ := r
    obtain ⟨rfl, rfl, E, rfl, hE, q⟩ := hr
    show wp (kX0_pairsAfter_5 54 (lN D) self (lN E) (nI X) r3) _
    unfold kX0_pairsAfter_5
    by_cases hX8 : X < 8
    · simp (disch := omega) only [Nat.not_le.mpr hX8, zl_eq, bsm, ZS, ZT, ZN, ZU, eq_self, true_and, and_true, and_self, or_true, true_or, or_false, false_or, not_true, not_false_eq_true, Nat.reduceAdd, Nat.reduceMul, Nat.reduceLT, Nat.reduceLeDiff, Nat.reduceEqDiff, ↓reduceIte, ZQ, Bool.true_eq_false, Bool.false_eq_true, Bool.not_true, Bool.not_false]
      refine wloop (fun Y r => r.2.1 = nI Y ∧ r.2.2 = r3 ∧ ∃ F, r.1 = lN F ∧ F < 2 ^ 64 ∧ ∀ c, F.testBit c = true ↔ E.testBit c = true ∨ ∃ y, y < Y ∧ D.testBit (8 * X + y) = true ∧ prT la X y 4 c) X (fun Y r self2 hY hr ih2 => ?_) (show X < 100000 by omega) ⟨rfl, rfl, E, rfl, hE, fun c => ⟨Or.inl, fun z => by
        rcases z with z | ⟨y, hy, -⟩
        · exact z
        · omega⟩⟩
      obtain ⟨s1, s2, s3⟩ := r
      obtain ⟨rfl, rfl, F, rfl, hF, qF⟩ := hr
      show wp (kX0_pairsAfter_15 self 54 (lN D) (nI X) self2 (lN F) (nI Y) s3) _
      unfold kX0_pairsAfter_15 bX0_pairsAfter_50
      by_cases hYX : Y < X
      · have lb := lb_bit0 (a := D) (v := 8 * X + Y) (by omega)
        by_cases hbit : D.testBit (8 * X + Y) = true
        · have hn := hD X Y hYX hX8 hbit
          obtain ⟨P, eP, hP, qP⟩ := pairC hs h8 hle tg hn (show Y < n by omega)
          have lbf : (D.testBit (8 * X + Y) = false) = False := eq_false (fun z => by rw [hbit] at z; cases z)
          simp (disch := omega) only [Nat.not_le.mpr hYX, lb, lbf, eP, lb_or, zl_eq, bsm, ZS, ZT, ZN, ZU, eq_self, true_and, and_true, and_self, or_true, true_or, or_false, false_or, not_true, not_false_eq_true, Nat.reduceAdd, Nat.reduceMul, Nat.reduceLT, Nat.reduceLeDiff, Nat.reduceEqDiff, ↓reduceIte, ZQ, Bool.true_eq_false, Bool.false_eq_true, Bool.not_true, Bool.not_false]
          refine ih2 _ hYX ⟨rfl, rfl, _, rfl, Nat.or_lt_two_pow hF hP, fun c => ?_⟩
          rw [Nat.testBit_or, Bool.or_eq_true, qF, qP]
          constructor
          · rintro ((z | ⟨y, a, b⟩) | z)
            · exact Or.inl z
            · exact Or.inr ⟨y, by omega, b⟩
            · exact Or.inr ⟨Y, by omega, hbit, z⟩
          · rintro (z | ⟨y, a, b, d⟩)
            · exact Or.inl (Or.inl z)
            · by_cases e : y = Y
              · rw [e] at d; exact Or.inr d
              · exact Or.inl (Or.inr ⟨y, by omega, b, d⟩)
        · have hbf : D.testBit (8 * X + Y) = false := by simpa using hbit
          simp (disch := omega) only [Nat.not_le.mpr hYX, lb, eq_true hbf, zl_eq, bsm, ZS, ZT, ZN, ZU, eq_self, true_and, and_true, and_self, or_true, true_or, or_false, false_or, not_true, not_false_eq_true, Nat.reduceAdd, Nat.reduceMul, Nat.reduceLT, Nat.reduceLeDiff, Nat.reduceEqDiff, ↓reduceIte, ZQ, Bool.true_eq_false, Bool.false_eq_true, Bool.not_true, Bool.not_false]
          refine ih2 _ hYX ⟨rfl, rfl, F, rfl, hF, fun c => ?_⟩
          rw [qF]
          constructor
          · rintro (z | ⟨y, a, b⟩)
            · exact Or.inl z
            · exact Or.inr ⟨y, by omega, b⟩
          · rintro (z | ⟨y, a, b, d⟩)
            · exact Or.inl z
            · by_cases e : y = Y
              · rw [e, hbf] at b; cases b
              · exact Or.inr ⟨y, by omega, b, d⟩
      · have : Y = X := by omega
        subst this
        simp (disch := omega) only [Nat.le_refl, zl_eq, bsm, ZS, ZT, ZN, ZU, eq_self, true_and, and_true, and_self, or_true, true_or, or_false, false_or, not_true, not_false_eq_true, Nat.reduceAdd, Nat.reduceMul, Nat.reduceLT, Nat.reduceLeDiff, Nat.reduceEqDiff, ↓reduceIte, ZQ, Bool.true_eq_false, Bool.false_eq_true, Bool.not_true, Bool.not_false]
        refine ih _ hX8 ⟨rfl, rfl, F, rfl, hF, fun c => ?_⟩
        rw [qF, q]
        constructor
        · rintro (⟨x, y, a, b⟩ | ⟨y, a, b⟩)
          · exact ⟨x, y, by omega, b⟩
          · exact ⟨Y, y, by omega, a, b⟩
        · rintro ⟨x, y, a, b⟩
          by_cases e : x = Y
          · rw [e] at b; exact Or.inr ⟨y, b⟩
          · exact Or.inl ⟨x, y, by omega, b⟩
    · have : X = 8 := by omega
      subst this
      simp (disch := omega) only [Nat.le_refl, zl_eq, bsm, ZS, ZT, ZN, ZU, eq_self, true_and, and_true, and_self, or_true, true_or, or_false, false_or, not_true, not_false_eq_true, Nat.reduceAdd, Nat.reduceMul, Nat.reduceLT, Nat.reduceLeDiff, Nat.reduceEqDiff, ↓reduceIte, ZQ, Bool.true_eq_false, Bool.false_eq_true, Bool.not_true, Bool.not_false]
      exact wp_some ⟨rfl, E, rfl, hE, q⟩
  obtain ⟨⟨w, h'⟩, e, e1, E, e2, e3⟩ := key
  dsimp only at e1 e2
  subst e1 e2
  exact ⟨E, e, e3⟩
