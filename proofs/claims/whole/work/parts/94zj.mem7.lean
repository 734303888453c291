/-! MEMORY: the object counts the letters -/
/-- a long that holds the pairs apart after m letters -/
def apD (n : Nat) (la : Nat → Nat → Nat) (m D : Nat) : Prop := D < 2 ^ 64 ∧ ∀ c, D.testBit c = true ↔ c % 8 < c / 8 ∧ apt n la m (c / 8) (c % 8)
theorem steps51 {h : ZH} {n : Nat} {la : Nat → Nat → Nat} (hs : Sh h) (h8 : n ≤ 8) (hle : ∀ v l, v < n → l < 4 → la v l ≤ n) (tg : ∀ v l, v < n → l < 4 → fX0_targetInMerged 54 (nI v) (nI l) h = some (if la v l = 0 then -1 else nI (la v l - 1), h)) {D0 : Nat} (hD0 : apD n la 0 D0) : wp (zloop (lX0_stepsToSynchronize_51 54 (nI 28)) zfu (lN D0, nI 0, h)) (fun y => y.2 = h ∧ ((∃ m, m ≤ 28 ∧ y.1 = nI m ∧ (¬ ∃ x y, apt n la m x y) ∧ ∀ m', m' < m → ∃ x y, apt n la m' x y) ∨ (y.1 = -1 ∧ ∀ m, m ≤ 28 → ∃ x y, apt n la m x y))) := by
  refine wloop (fun m y => y.2.1 = nI m ∧ y.2.2 = h ∧ (∃ D, y.1 = lN D ∧ apD n la m D) ∧ ∀ m', m' < m → ∃ x y, apt n la m' x y) 29 (fun m y self hm hy ih => ?_) (by decide) ⟨rfl, rfl, ⟨D0, rfl, hD0⟩, fun m' hm' => by omega⟩
  obtain ⟨y1, y2, y3⟩ := y
  obtain ⟨rfl, rfl, ⟨D, rfl, hD⟩, bef⟩ := hy
  show wp (kX0_stepsToSynchronize_51 54 (nI 28) self (lN D) (nI m) y3) _
  unfold kX0_stepsToSynchronize_51
  by_cases h28 : m ≤ 28
  · have h28' : ¬ (28 < m) := by omega
    have lz := lcmpW hD.1 (show 0 < 2 ^ 64 by decide)
    by_cases z : D = 0
    · simp (disch := omega) only [eq_false h28', lz, eq_true z, zl_eq, bsm, ZS, ZT, ZN, ZU, eq_self, true_and, and_true, and_self, or_true, true_or, or_false, false_or, not_true, not_false_eq_true, Nat.reduceAdd, Nat.reduceMul, Nat.reduceLT, Nat.reduceLeDiff, Nat.reduceEqDiff, ↓reduceIte, ZQ, Bool.true_eq_false, Bool.false_eq_true, Bool.not_true, Bool.not_false]
      refine wp_some ⟨rfl, Or.inl ⟨m, h28, rfl, ?_, bef⟩⟩
      have no : ∀ x y, y < x → ¬ apt n la m x y := by
        intro x y hyx a
        have lt := apt_lt hle a
        have := (hD.2 (8 * x + y)).mpr (by rw [show (8 * x + y) / 8 = x by omega, show (8 * x + y) % 8 = y by omega]; exact ⟨hyx, a⟩)
        rw [z, Nat.zero_testBit] at this
        cases this
      rintro ⟨x, y, a⟩
      rcases Nat.lt_trichotomy y x with q | q | q
      · exact no x y q a
      · exact apt_ne a q.symm
      · exact no y x q (apt_sym a)
    · obtain ⟨c, hc⟩ := Nat.exists_testBit_of_ne_zero z
      have some1 : ∃ x y, apt n la m x y := ⟨_, _, ((hD.2 c).mp hc).2⟩
      obtain ⟨E, eE, hE, qE⟩ := pairsC hs h8 hle tg (D := D) (fun x y hyx hx hb => by
        have := ((hD.2 _).mp hb).2
        rw [show (8 * x + y) / 8 = x by omega, show (8 * x + y) % 8 = y by omega] at this
        exact (apt_lt hle this).1)
      simp (disch := omega) only [eq_false h28', lz, eq_false z, eE, zl_eq, bsm, ZS, ZT, ZN, ZU, eq_self, true_and, and_true, and_self, or_true, true_or, or_false, false_or, not_true, not_false_eq_true, Nat.reduceAdd, Nat.reduceMul, Nat.reduceLT, Nat.reduceLeDiff, Nat.reduceEqDiff, ↓reduceIte, ZQ, Bool.true_eq_false, Bool.false_eq_true, Bool.not_true, Bool.not_false]
      refine ih _ (by omega) ⟨rfl, rfl, ⟨E, rfl, hE, fun c => ?_⟩, fun m' hm' => by
        by_cases e : m' = m
        · rw [e]; exact some1
        · exact bef m' (by omega)⟩
      rw [qE]
      constructor
      · rintro ⟨x, y, hx, hyx, hb, l, hl, a1, a2, a3, a4⟩
        have ap := ((hD.2 _).mp hb).2
        rw [show (8 * x + y) / 8 = x by omega, show (8 * x + y) % 8 = y by omega] at ap
        have lt := apt_lt hle ap
        have b1 := hle x l lt.1 hl
        have b2 := hle y l lt.2 hl
        rcases Nat.lt_or_ge (la x l) (la y l) with q | q
        · rw [show c / 8 = la y l - 1 by omega, show c % 8 = la x l - 1 by omega]
          exact ⟨by omega, by omega, y, x, l, hl, apt_sym ap, by omega, by omega⟩
        · rw [show c / 8 = la x l - 1 by omega, show c % 8 = la y l - 1 by omega]
          exact ⟨by omega, by omega, x, y, l, hl, ap, by omega, by omega⟩
      · rintro ⟨hc, hne, u, v, l, hl, ap, b, d⟩
        have lt := apt_lt hle ap
        rcases Nat.lt_trichotomy v u with q | q | q
        · exact ⟨u, v, by omega, q, (hD.2 _).mpr (by rw [show (8 * u + v) / 8 = u by omega, show (8 * u + v) % 8 = v by omega]; exact ⟨q, ap⟩), l, hl, by omega, by omega, by omega, by omega⟩
        · exact absurd q.symm (apt_ne ap)
        · exact ⟨v, u, by omega, q, (hD.2 _).mpr (by rw [show (8 * v + u) / 8 = v by omega, show (8 * v + u) % 8 = u by omega]; exact ⟨q, apt_sym ap⟩), l, hl, by omega, by omega, by omega, by omega⟩
  · have h28' : 28 < m := by omega
    simp (disch := omega) only [eq_true h28', zl_eq, bsm, ZS, ZT, ZN, ZU, eq_self, true_and, and_true, and_self, or_true, true_or, or_false, false_or, not_true, not_false_eq_true, Nat.reduceAdd, Nat.reduceMul, Nat.reduceLT, Nat.reduceLeDiff, Nat.reduceEqDiff, ↓reduceIte, ZQ, Bool.true_eq_false, Bool.false_eq_true, Bool.not_true, Bool.not_false]
    exact wp_some ⟨rfl, Or.inr ⟨rfl, fun m' hm' => bef m' (by omega)⟩⟩
