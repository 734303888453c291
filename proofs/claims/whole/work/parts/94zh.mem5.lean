/-! MEMORY: the object's pairs after one letter -/
/-- the pairs that a pair leads to by the first L letters, as a bit -/
def prT (la : Nat → Nat → Nat) (u v L c : Nat) : Prop := ∃ l, l < L ∧ la u l ≠ 0 ∧ la v l ≠ 0 ∧ la u l ≠ la v l ∧ c = 8 * max (la u l - 1) (la v l - 1) + min (la u l - 1) (la v l - 1)
theorem pairC {h : ZH} {n : Nat} {la : Nat → Nat → Nat} (hs : Sh h) (h8 : n ≤ 8) (hle : ∀ v l, v < n → l < 4 → la v l ≤ n) (tg : ∀ v l, v < n → l < 4 → fX0_targetInMerged 54 (nI v) (nI l) h = some (if la v l = 0 then -1 else nI (la v l - 1), h)) {u v : Nat} (hu : u < n) (hv : v < n) : ∃ D, fX0_pairsAfterPair 54 (nI u) (nI v) h = some (lN D, h) ∧ D < 2 ^ 64 ∧ ∀ c, D.testBit c = true ↔ prT la u v 4 c := by
  have key : wp (fX0_pairsAfterPair 54 (nI u) (nI v) h) (fun y => y.2 = h ∧ ∃ D, y.1 = lN D ∧ D < 2 ^ 64 ∧ ∀ c, D.testBit c = true ↔ prT la u v 4 c) := by
    unfold fX0_pairsAfterPair
    rw [if_pos (O54 hs)]
    refine wloop (fun l y => y.2.1 = nI l ∧ y.2.2 = h ∧ ∃ D, y.1 = lN D ∧ D < 2 ^ 64 ∧ ∀ c, D.testBit c = true ↔ prT la u v l c) 4 (fun l y self hl hy ih => ?_) (by decide) ⟨rfl, rfl, 0, rfl, by decide, fun c => ⟨(fun z => by rw [Nat.zero_testBit] at z; cases z), (fun z => by obtain ⟨l, hl, -⟩ := z; omega)⟩⟩
    obtain ⟨y1, y2, y3⟩ := y
    obtain ⟨rfl, rfl, D, rfl, hD, q⟩ := hy
    show wp (kX0_pairsAfterPair_5 54 (nI u) (nI v) self (lN D) (nI l) y3) _
    unfold kX0_pairsAfterPair_5 bX0_pairsAfterPair_69
    by_cases hl4 : l < 4
    · have t1 := tg u l hu hl4
      have t2 := tg v l hv hl4
      have b1 := hle u l hu hl4
      have b2 := hle v l hv hl4
      have neg : ((-1 : Int32) < 0) = True := by decide
      have same : (¬ (la u l ≠ 0 ∧ la v l ≠ 0 ∧ la u l ≠ la v l)) → ∀ c, D.testBit c = true ↔ prT la u v (l + 1) c := by
        intro z c
        rw [q]
        constructor
        · rintro ⟨l', a, b⟩; exact ⟨l', by omega, b⟩
        · rintro ⟨l', a, b1, b2, b3, b4⟩
          by_cases e : l' = l
          · rw [e] at b1 b2 b3; exact absurd ⟨b1, b2, b3⟩ z
          · exact ⟨l', by omega, b1, b2, b3, b4⟩
      have nn : ∀ a : Nat, a < 2 ^ 31 → (nI a < (0 : Int32)) = False := fun a ha => by
        have : (nI a < nI 0) = False := by
          simp (disch := omega) only [Nat.not_lt_zero, zl_eq, bsm, ZS, ZT, ZN, ZU, eq_self, true_and, and_true, and_self, or_true, true_or, or_false, false_or, not_true, not_false_eq_true, Nat.reduceAdd, Nat.reduceMul, Nat.reduceLT, Nat.reduceLeDiff, Nat.reduceEqDiff, ↓reduceIte, ZQ, Bool.true_eq_false, Bool.false_eq_true, Bool.not_true, Bool.not_false]
        exact this
      by_cases z1 : la u l = 0
      · rw [if_pos z1] at t1
        simp (disch := omega) only [Nat.not_le.mpr hl4, t1, t2, neg, zl_eq, bsm, ZS, ZT, ZN, ZU, eq_self, true_and, and_true, and_self, or_true, true_or, or_false, false_or, not_true, not_false_eq_true, Nat.reduceAdd, Nat.reduceMul, Nat.reduceLT, Nat.reduceLeDiff, Nat.reduceEqDiff, ↓reduceIte, ZQ, Bool.true_eq_false, Bool.false_eq_true, Bool.not_true, Bool.not_false]
        exact ih _ hl4 ⟨rfl, rfl, D, rfl, hD, same (fun z => z.1 z1)⟩
      · rw [if_neg z1] at t1
        have n1 := nn (la u l - 1) (by omega)
        by_cases z2 : la v l = 0
        · rw [if_pos z2] at t2
          simp (disch := omega) only [Nat.not_le.mpr hl4, t1, t2, neg, n1, zl_eq, bsm, ZS, ZT, ZN, ZU, eq_self, true_and, and_true, and_self, or_true, true_or, or_false, false_or, not_true, not_false_eq_true, Nat.reduceAdd, Nat.reduceMul, Nat.reduceLT, Nat.reduceLeDiff, Nat.reduceEqDiff, ↓reduceIte, ZQ, Bool.true_eq_false, Bool.false_eq_true, Bool.not_true, Bool.not_false]
          exact ih _ hl4 ⟨rfl, rfl, D, rfl, hD, same (fun z => z.2.1 z2)⟩
        · rw [if_neg z2] at t2
          have n2 := nn (la v l - 1) (by omega)
          by_cases z3 : la u l - 1 = la v l - 1
          · simp (disch := omega) only [Nat.not_le.mpr hl4, t1, t2, n1, n2, eq_true z3, zl_eq, bsm, ZS, ZT, ZN, ZU, eq_self, true_and, and_true, and_self, or_true, true_or, or_false, false_or, not_true, not_false_eq_true, Nat.reduceAdd, Nat.reduceMul, Nat.reduceLT, Nat.reduceLeDiff, Nat.reduceEqDiff, ↓reduceIte, ZQ, Bool.true_eq_false, Bool.false_eq_true, Bool.not_true, Bool.not_false]
            exact ih _ hl4 ⟨rfl, rfl, D, rfl, hD, same (fun z => z.2.2 (by omega))⟩
          · have m1 := jmmax_ok (a := la u l - 1) (b := la v l - 1) (by omega) (by omega)
            have m2 := jmmin_ok (a := la u l - 1) (b := la v l - 1) (by omega) (by omega)
            have c64 : 8 * max (la u l - 1) (la v l - 1) + min (la u l - 1) (la v l - 1) < 64 := by omega
            have ls := lb_shl 1 c64
            simp (disch := omega) only [Nat.not_le.mpr hl4, t1, t2, n1, n2, eq_false z3, m1, m2, ls, lb_or, zl_eq, bsm, ZS, ZT, ZN, ZU, eq_self, true_and, and_true, and_self, or_true, true_or, or_false, false_or, not_true, not_false_eq_true, Nat.reduceAdd, Nat.reduceMul, Nat.reduceLT, Nat.reduceLeDiff, Nat.reduceEqDiff, ↓reduceIte, ZQ, Bool.true_eq_false, Bool.false_eq_true, Bool.not_true, Bool.not_false]
            refine ih _ hl4 ⟨rfl, rfl, _, rfl, Nat.or_lt_two_pow hD (by rw [Nat.one_mul]; exact Nat.pow_lt_pow_right (by decide) c64), fun c => ?_⟩
            rw [Nat.one_mul, Nat.testBit_or, Bool.or_eq_true, q, pow_bit]
            constructor
            · rintro (⟨l', a, b⟩ | e)
              · exact ⟨l', by omega, b⟩
              · exact ⟨l, by omega, z1, z2, by omega, by omega⟩
            · rintro ⟨l', a, b1, b2, b3, b4⟩
              by_cases e : l' = l
              · rw [e] at b4; right; omega
              · exact Or.inl ⟨l', by omega, b1, b2, b3, b4⟩
    · have : l = 4 := by omega
      subst this
      simp (disch := omega) only [Nat.le_refl, zl_eq, bsm, ZS, ZT, ZN, ZU, eq_self, true_and, and_true, and_self, or_true, true_or, or_false, false_or, not_true, not_false_eq_true, Nat.reduceAdd, Nat.reduceMul, Nat.reduceLT, Nat.reduceLeDiff, Nat.reduceEqDiff, ↓reduceIte, ZQ, Bool.true_eq_false, Bool.false_eq_true, Bool.not_true, Bool.not_false]
      exact wp_some ⟨rfl, D, rfl, hD, q⟩
  obtain ⟨⟨w, h'⟩, e, e1, D, e2, e3⟩ := key
  dsimp only at e1 e2
  subst e1 e2
  exact ⟨D, e, e3⟩
