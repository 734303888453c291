/-! THE LAW'S FUNCTION: it answers 1 -/
theorem ge_of {L : Nat} (hL : L ≤ 2560) {i : Nat} (hi : i ≤ 2560) : ((Int32.ofNat L) - (nI 5) < nI i) ↔ L < i + 5 := by
  rw [Int32.lt_iff_toInt_lt]
  have h1 : (Int32.ofNat L - nI 5).toInt = (L : Int) - 5 := pk_sub_toInt (a := L) (b := 5) (by omega) (by decide)
  rw [h1, nI_toInt (by omega)]
  omega
theorem lS_ok {xs : Nat → Int32} {L i : Nat} (hL : L ≤ 2560) (hi : i < L) : lS xs L (nI i) = some (xs i) := by
  unfold lS
  rw [if_pos (nI_in hi (by omega)), nI_clamp (by omega)]
theorem lcmp_self (x : Int64) : (lg_cmp x x = 0) = True := by
  unfold lg_cmp
  simp
theorem law_step {xs : Nat → Int32} {L sa i : Nat} (hL : L ≤ 2560) (hi : i + 5 ≤ L) {h : ZH} (hI : INV h) : ∃ h', INV h' ∧ ∀ self, lL_law_18 xs L sa 0 117 self (nI i, h) = self (nI (i + 5), h') := by
  have e0 := lS_ok (xs := xs) hL (show i < L by omega)
  have e1 := lS_ok (xs := xs) hL (show i + 1 < L by omega)
  have e2 := lS_ok (xs := xs) hL (show i + 2 < L by omega)
  have e3 := lS_ok (xs := xs) hL (show i + 3 < L by omega)
  have e4 := lS_ok (xs := xs) hL (show i + 4 < L by omega)
  have eg : ¬ ((Int32.ofNat L) - (nI 5) < nI i) := fun q => by
    have := (ge_of hL (by omega)).mp q
    omega
  have p1 : nI i + nI 1 = nI (i + 1) := nI_add _ _
  have p2 : nI i + nI 2 = nI (i + 2) := nI_add _ _
  have p3 : nI i + nI 3 = nI (i + 3) := nI_add _ _
  have p4 : nI i + nI 4 = nI (i + 4) := nI_add _ _
  have p5 : nI i + nI 5 = nI (i + 5) := nI_add _ _
  by_cases n0 : xs i &&& nI 63 = 0
  · obtain ⟨r, h1, h2, q1, q2, q3⟩ := c_addEdge (xs (i + 1)) (xs (i + 2)) (xs (i + 3)) (xs (i + 4)) h hI
    refine ⟨h2, q3, fun self => ?_⟩
    simp only [lL_law_18, kL_law_18, bL_law_1504, zl, eg, e0, e1, e2, e3, e4, p1, p2, p3, p4, p5, eq_true n0, Option.bind_some, ↓reduceIte, lcmp_self, q1, q2]
  by_cases n1 : xs i &&& nI 63 = 1
  · obtain ⟨r, h1, h2, q1, q2, q3⟩ := c_removeEdge (xs (i + 1)) (xs (i + 2)) (xs (i + 3)) (xs (i + 4)) h hI
    refine ⟨h2, q3, fun self => ?_⟩
    simp only [lL_law_18, kL_law_18, bL_law_1504, zl, eg, e0, e1, e2, e3, e4, p1, p2, p3, p4, p5, eq_true n1, n0, Option.bind_some, ↓reduceIte, lcmp_self, q1, q2]
  by_cases n2 : xs i &&& nI 63 = 2
  · obtain ⟨r, h1, h2, q1, q2, q3⟩ := c_targets (xs (i + 1)) (xs (i + 2)) (xs (i + 3)) h hI
    refine ⟨h2, q3, fun self => ?_⟩
    simp only [lL_law_18, kL_law_18, bL_law_1504, zl, eg, e0, e1, e2, e3, e4, p1, p2, p3, p4, p5, eq_true n2, n0, n1, Option.bind_some, ↓reduceIte, lcmp_self, q1, q2]
  by_cases n3 : xs i &&& nI 63 = 3
  · obtain ⟨r, h1, h2, q1, q2, q3⟩ := c_edges (xs (i + 1)) h hI
    refine ⟨h2, q3, fun self => ?_⟩
    simp only [lL_law_18, kL_law_18, bL_law_1504, zl, eg, e0, e1, e2, e3, e4, p1, p2, p3, p4, p5, eq_true n3, n0, n1, n2, Option.bind_some, ↓reduceIte, lcmp_self, q1, q2]
  by_cases n4 : xs i &&& nI 63 = 4
  · obtain ⟨r, h1, h2, q1, q2, q3⟩ := c_feed (xs (i + 1)) h hI
    refine ⟨h2, q3, fun self => ?_⟩
    simp only [lL_law_18, kL_law_18, bL_law_1504, zl, eg, e0, e1, e2, e3, e4, p1, p2, p3, p4, p5, eq_true n4, n0, n1, n2, n3, Option.bind_some, ↓reduceIte, lcmp_self, q1, q2]
  by_cases n5 : xs i &&& nI 63 = 5
  · obtain ⟨r, h1, h2, q1, q2, q3⟩ := c_parse (xs (i + 1)) h hI
    refine ⟨h2, q3, fun self => ?_⟩
    simp only [lL_law_18, kL_law_18, bL_law_1504, zl, eg, e0, e1, e2, e3, e4, p1, p2, p3, p4, p5, eq_true n5, n0, n1, n2, n3, n4, Option.bind_some, ↓reduceIte, lcmp_self, q1, q2]
  by_cases n6 : xs i &&& nI 63 = 6
  · obtain ⟨r, h1, h2, q1, q2, q3⟩ := c_random (xs (i + 1)) (xs (i + 2)) (xs (i + 3)) h hI
    refine ⟨h2, q3, fun self => ?_⟩
    simp only [lL_law_18, kL_law_18, bL_law_1504, zl, eg, e0, e1, e2, e3, e4, p1, p2, p3, p4, p5, eq_true n6, n0, n1, n2, n3, n4, n5, Option.bind_some, ↓reduceIte, lcmp_self, q1, q2]
  by_cases n7 : xs i &&& nI 63 = 7
  · obtain ⟨r, h1, h2, q1, q2, q3⟩ := c_essential (xs (i + 1)) h hI
    refine ⟨h2, q3, fun self => ?_⟩
    simp only [lL_law_18, kL_law_18, bL_law_1504, zl, eg, e0, e1, e2, e3, e4, p1, p2, p3, p4, p5, eq_true n7, n0, n1, n2, n3, n4, n5, n6, Option.bind_some, ↓reduceIte, lcmp_self, q1, q2]
  by_cases n8 : xs i &&& nI 63 = 8
  · obtain ⟨r, h1, h2, q1, q2, q3⟩ := c_isIrreducible (xs (i + 1)) h hI
    refine ⟨h2, q3, fun self => ?_⟩
    simp only [lL_law_18, kL_law_18, bL_law_1504, zl, eg, e0, e1, e2, e3, e4, p1, p2, p3, p4, p5, eq_true n8, n0, n1, n2, n3, n4, n5, n6, n7, Option.bind_some, ↓reduceIte, lcmp_self, q1, q2]
  by_cases n9 : xs i &&& nI 63 = 9
  · obtain ⟨r, h1, h2, q1, q2, q3⟩ := c_period (xs (i + 1)) h hI
    refine ⟨h2, q3, fun self => ?_⟩
    simp only [lL_law_18, kL_law_18, bL_law_1504, zl, eg, e0, e1, e2, e3, e4, p1, p2, p3, p4, p5, eq_true n9, n0, n1, n2, n3, n4, n5, n6, n7, n8, Option.bind_some, ↓reduceIte, lcmp_self, q1, q2]
  by_cases n10 : xs i &&& nI 63 = 10
  · obtain ⟨r, h1, h2, q1, q2, q3⟩ := c_words (xs (i + 1)) (xs (i + 2)) h hI
    refine ⟨h2, q3, fun self => ?_⟩
    simp only [lL_law_18, kL_law_18, bL_law_1504, zl, eg, e0, e1, e2, e3, e4, p1, p2, p3, p4, p5, eq_true n10, n0, n1, n2, n3, n4, n5, n6, n7, n8, n9, Option.bind_some, ↓reduceIte, lcmp_self, q1, q2]
  by_cases n11 : xs i &&& nI 63 = 11
  · obtain ⟨r, h1, h2, q1, q2, q3⟩ := c_growth (xs (i + 1)) (xs (i + 2)) (xs (i + 3)) h hI
    refine ⟨h2, q3, fun self => ?_⟩
    simp only [lL_law_18, kL_law_18, bL_law_1504, zl, eg, e0, e1, e2, e3, e4, p1, p2, p3, p4, p5, eq_true n11, n0, n1, n2, n3, n4, n5, n6, n7, n8, n9, n10, Option.bind_some, ↓reduceIte, lcmp_self, q1, q2]
  by_cases n12 : xs i &&& nI 63 = 12
  · obtain ⟨r, h1, h2, q1, q2, q3⟩ := c_allows (xs (i + 1)) h hI
    refine ⟨h2, q3, fun self => ?_⟩
    simp only [lL_law_18, kL_law_18, bL_law_1504, zl, eg, e0, e1, e2, e3, e4, p1, p2, p3, p4, p5, eq_true n12, n0, n1, n2, n3, n4, n5, n6, n7, n8, n9, n10, n11, Option.bind_some, ↓reduceIte, lcmp_self, q1, q2]
  by_cases n13 : xs i &&& nI 63 = 13
  · obtain ⟨r, h1, h2, q1, q2, q3⟩ := c_writeWord (xs (i + 1)) (xs (i + 2)) ((jlshl ((xs (i + 3)).toInt64) (nI 32)) ||| (((xs (i + 4)).toInt64) &&& (4294967295 : Int64))) h hI
    refine ⟨h2, q3, fun self => ?_⟩
    simp only [lL_law_18, kL_law_18, bL_law_1504, zl, eg, e0, e1, e2, e3, e4, p1, p2, p3, p4, p5, eq_true n13, n0, n1, n2, n3, n4, n5, n6, n7, n8, n9, n10, n11, n12, Option.bind_some, ↓reduceIte, lcmp_self, q1, q2]
  by_cases n14 : xs i &&& nI 63 = 14
  · obtain ⟨r, h1, h2, q1, q2, q3⟩ := c_forbidden (xs (i + 1)) (xs (i + 2)) h hI
    refine ⟨h2, q3, fun self => ?_⟩
    simp only [lL_law_18, kL_law_18, bL_law_1504, zl, eg, e0, e1, e2, e3, e4, p1, p2, p3, p4, p5, eq_true n14, n0, n1, n2, n3, n4, n5, n6, n7, n8, n9, n10, n11, n12, n13, Option.bind_some, ↓reduceIte, lcmp_self, q1, q2]
  by_cases n15 : xs i &&& nI 63 = 15
  · obtain ⟨r, h1, h2, q1, q2, q3⟩ := c_writeForbidden (xs (i + 1)) (xs (i + 2)) (xs (i + 3)) h hI
    refine ⟨h2, q3, fun self => ?_⟩
    simp only [lL_law_18, kL_law_18, bL_law_1504, zl, eg, e0, e1, e2, e3, e4, p1, p2, p3, p4, p5, eq_true n15, n0, n1, n2, n3, n4, n5, n6, n7, n8, n9, n10, n11, n12, n13, n14, Option.bind_some, ↓reduceIte, lcmp_self, q1, q2]
  by_cases n16 : xs i &&& nI 63 = 16
  · obtain ⟨r, h1, h2, q1, q2, q3⟩ := c_periodic (xs (i + 1)) (xs (i + 2)) h hI
    refine ⟨h2, q3, fun self => ?_⟩
    simp only [lL_law_18, kL_law_18, bL_law_1504, zl, eg, e0, e1, e2, e3, e4, p1, p2, p3, p4, p5, eq_true n16, n0, n1, n2, n3, n4, n5, n6, n7, n8, n9, n10, n11, n12, n13, n14, n15, Option.bind_some, ↓reduceIte, lcmp_self, q1, q2]
  by_cases n17 : xs i &&& nI 63 = 17
  · obtain ⟨r, h1, h2, q1, q2, q3⟩ := c_orbits (xs (i + 1)) (xs (i + 2)) h hI
    refine ⟨h2, q3, fun self => ?_⟩
    simp only [lL_law_18, kL_law_18, bL_law_1504, zl, eg, e0, e1, e2, e3, e4, p1, p2, p3, p4, p5, eq_true n17, n0, n1, n2, n3, n4, n5, n6, n7, n8, n9, n10, n11, n12, n13, n14, n15, n16, Option.bind_some, ↓reduceIte, lcmp_self, q1, q2]
  by_cases n18 : xs i &&& nI 63 = 18
  · obtain ⟨r, h1, h2, q1, q2, q3⟩ := c_characteristic (xs (i + 1)) (xs (i + 2)) h hI
    refine ⟨h2, q3, fun self => ?_⟩
    simp only [lL_law_18, kL_law_18, bL_law_1504, zl, eg, e0, e1, e2, e3, e4, p1, p2, p3, p4, p5, eq_true n18, n0, n1, n2, n3, n4, n5, n6, n7, n8, n9, n10, n11, n12, n13, n14, n15, n16, n17, Option.bind_some, ↓reduceIte, lcmp_self, q1, q2]
  by_cases n19 : xs i &&& nI 63 = 19
  · obtain ⟨r, h1, h2, q1, q2, q3⟩ := c_cover (xs (i + 1)) (xs (i + 2)) h hI
    refine ⟨h2, q3, fun self => ?_⟩
    simp only [lL_law_18, kL_law_18, bL_law_1504, zl, eg, e0, e1, e2, e3, e4, p1, p2, p3, p4, p5, eq_true n19, n0, n1, n2, n3, n4, n5, n6, n7, n8, n9, n10, n11, n12, n13, n14, n15, n16, n17, n18, Option.bind_some, ↓reduceIte, lcmp_self, q1, q2]
  by_cases n20 : xs i &&& nI 63 = 20
  · obtain ⟨r, h1, h2, q1, q2, q3⟩ := c_writeReset (xs (i + 1)) h hI
    refine ⟨h2, q3, fun self => ?_⟩
    simp only [lL_law_18, kL_law_18, bL_law_1504, zl, eg, e0, e1, e2, e3, e4, p1, p2, p3, p4, p5, eq_true n20, n0, n1, n2, n3, n4, n5, n6, n7, n8, n9, n10, n11, n12, n13, n14, n15, n16, n17, n18, n19, Option.bind_some, ↓reduceIte, lcmp_self, q1, q2]
  by_cases n21 : xs i &&& nI 63 = 21
  · obtain ⟨r, h1, h2, q1, q2, q3⟩ := c_memory (xs (i + 1)) h hI
    refine ⟨h2, q3, fun self => ?_⟩
    simp only [lL_law_18, kL_law_18, bL_law_1504, zl, eg, e0, e1, e2, e3, e4, p1, p2, p3, p4, p5, eq_true n21, n0, n1, n2, n3, n4, n5, n6, n7, n8, n9, n10, n11, n12, n13, n14, n15, n16, n17, n18, n19, n20, Option.bind_some, ↓reduceIte, lcmp_self, q1, q2]
  by_cases n22 : xs i &&& nI 63 = 22
  · obtain ⟨r, h1, h2, q1, q2, q3⟩ := c_isMixing (xs (i + 1)) h hI
    refine ⟨h2, q3, fun self => ?_⟩
    simp only [lL_law_18, kL_law_18, bL_law_1504, zl, eg, e0, e1, e2, e3, e4, p1, p2, p3, p4, p5, eq_true n22, n0, n1, n2, n3, n4, n5, n6, n7, n8, n9, n10, n11, n12, n13, n14, n15, n16, n17, n18, n19, n20, n21, Option.bind_some, ↓reduceIte, lcmp_self, q1, q2]
  by_cases n23 : xs i &&& nI 63 = 23
  · obtain ⟨r, h1, h2, q1, q2, q3⟩ := c_writeDifference (xs (i + 1)) (xs (i + 2)) h hI
    refine ⟨h2, q3, fun self => ?_⟩
    simp only [lL_law_18, kL_law_18, bL_law_1504, zl, eg, e0, e1, e2, e3, e4, p1, p2, p3, p4, p5, eq_true n23, n0, n1, n2, n3, n4, n5, n6, n7, n8, n9, n10, n11, n12, n13, n14, n15, n16, n17, n18, n19, n20, n21, n22, Option.bind_some, ↓reduceIte, lcmp_self, q1, q2]
  by_cases n24 : xs i &&& nI 63 = 24
  · obtain ⟨r, h1, h2, q1, q2, q3⟩ := c_union (xs (i + 1)) (xs (i + 2)) (xs (i + 3)) h hI
    refine ⟨h2, q3, fun self => ?_⟩
    simp only [lL_law_18, kL_law_18, bL_law_1504, zl, eg, e0, e1, e2, e3, e4, p1, p2, p3, p4, p5, eq_true n24, n0, n1, n2, n3, n4, n5, n6, n7, n8, n9, n10, n11, n12, n13, n14, n15, n16, n17, n18, n19, n20, n21, n22, n23, Option.bind_some, ↓reduceIte, lcmp_self, q1, q2]
  by_cases n25 : xs i &&& nI 63 = 25
  · obtain ⟨r, h1, h2, q1, q2, q3⟩ := c_intersect (xs (i + 1)) (xs (i + 2)) (xs (i + 3)) h hI
    refine ⟨h2, q3, fun self => ?_⟩
    simp only [lL_law_18, kL_law_18, bL_law_1504, zl, eg, e0, e1, e2, e3, e4, p1, p2, p3, p4, p5, eq_true n25, n0, n1, n2, n3, n4, n5, n6, n7, n8, n9, n10, n11, n12, n13, n14, n15, n16, n17, n18, n19, n20, n21, n22, n23, n24, Option.bind_some, ↓reduceIte, lcmp_self, q1, q2]
  by_cases n26 : xs i &&& nI 63 = 26
  · obtain ⟨r, h1, h2, q1, q2, q3⟩ := c_reverse (xs (i + 1)) (xs (i + 2)) h hI
    refine ⟨h2, q3, fun self => ?_⟩
    simp only [lL_law_18, kL_law_18, bL_law_1504, zl, eg, e0, e1, e2, e3, e4, p1, p2, p3, p4, p5, eq_true n26, n0, n1, n2, n3, n4, n5, n6, n7, n8, n9, n10, n11, n12, n13, n14, n15, n16, n17, n18, n19, n20, n21, n22, n23, n24, n25, Option.bind_some, ↓reduceIte, lcmp_self, q1, q2]
  by_cases n27 : xs i &&& nI 63 = 27
  · obtain ⟨r, h1, h2, q1, q2, q3⟩ := c_relabel (xs (i + 1)) (xs (i + 2)) (xs (i + 3)) (xs (i + 4)) h hI
    refine ⟨h2, q3, fun self => ?_⟩
    simp only [lL_law_18, kL_law_18, bL_law_1504, zl, eg, e0, e1, e2, e3, e4, p1, p2, p3, p4, p5, eq_true n27, n0, n1, n2, n3, n4, n5, n6, n7, n8, n9, n10, n11, n12, n13, n14, n15, n16, n17, n18, n19, n20, n21, n22, n23, n24, n25, n26, Option.bind_some, ↓reduceIte, lcmp_self, q1, q2]
  by_cases n28 : xs i &&& nI 63 = 28
  · obtain ⟨r, h1, h2, q1, q2, q3⟩ := c_forbid (xs (i + 1)) (xs (i + 2)) h hI
    refine ⟨h2, q3, fun self => ?_⟩
    simp only [lL_law_18, kL_law_18, bL_law_1504, zl, eg, e0, e1, e2, e3, e4, p1, p2, p3, p4, p5, eq_true n28, n0, n1, n2, n3, n4, n5, n6, n7, n8, n9, n10, n11, n12, n13, n14, n15, n16, n17, n18, n19, n20, n21, n22, n23, n24, n25, n26, n27, Option.bind_some, ↓reduceIte, lcmp_self, q1, q2]
  by_cases n29 : xs i &&& nI 63 = 29
  · obtain ⟨r, h1, h2, q1, q2, q3⟩ := c_writeGraph (xs (i + 1)) h hI
    refine ⟨h2, q3, fun self => ?_⟩
    simp only [lL_law_18, kL_law_18, bL_law_1504, zl, eg, e0, e1, e2, e3, e4, p1, p2, p3, p4, p5, eq_true n29, n0, n1, n2, n3, n4, n5, n6, n7, n8, n9, n10, n11, n12, n13, n14, n15, n16, n17, n18, n19, n20, n21, n22, n23, n24, n25, n26, n27, n28, Option.bind_some, ↓reduceIte, lcmp_self, q1, q2]
  by_cases n30 : xs i &&& nI 63 = 30
  · obtain ⟨r, h1, h2, q1, q2, q3⟩ := c_output (xs (i + 1)) h hI
    refine ⟨h2, q3, fun self => ?_⟩
    simp only [lL_law_18, kL_law_18, bL_law_1504, zl, eg, e0, e1, e2, e3, e4, p1, p2, p3, p4, p5, eq_true n30, n0, n1, n2, n3, n4, n5, n6, n7, n8, n9, n10, n11, n12, n13, n14, n15, n16, n17, n18, n19, n20, n21, n22, n23, n24, n25, n26, n27, n28, n29, Option.bind_some, ↓reduceIte, lcmp_self, q1, q2]
  by_cases n31 : xs i &&& nI 63 = 31
  · obtain ⟨r, h1, h2, q1, q2, q3⟩ := c_undo  h hI
    refine ⟨h2, q3, fun self => ?_⟩
    simp only [lL_law_18, kL_law_18, bL_law_1504, zl, eg, e0, e1, e2, e3, e4, p1, p2, p3, p4, p5, eq_true n31, n0, n1, n2, n3, n4, n5, n6, n7, n8, n9, n10, n11, n12, n13, n14, n15, n16, n17, n18, n19, n20, n21, n22, n23, n24, n25, n26, n27, n28, n29, n30, Option.bind_some, ↓reduceIte, lcmp_self, q1, q2]
  by_cases n32 : xs i &&& nI 63 = 32
  · obtain ⟨r, h1, h2, q1, q2, q3⟩ := c_save  h hI
    refine ⟨h2, q3, fun self => ?_⟩
    simp only [lL_law_18, kL_law_18, bL_law_1504, zl, eg, e0, e1, e2, e3, e4, p1, p2, p3, p4, p5, eq_true n32, n0, n1, n2, n3, n4, n5, n6, n7, n8, n9, n10, n11, n12, n13, n14, n15, n16, n17, n18, n19, n20, n21, n22, n23, n24, n25, n26, n27, n28, n29, n30, n31, Option.bind_some, ↓reduceIte, lcmp_self, q1, q2]
  by_cases n33 : xs i &&& nI 63 = 33
  · obtain ⟨r, h1, h2, q1, q2, q3⟩ := c_restore  h hI
    refine ⟨h2, q3, fun self => ?_⟩
    simp only [lL_law_18, kL_law_18, bL_law_1504, zl, eg, e0, e1, e2, e3, e4, p1, p2, p3, p4, p5, eq_true n33, n0, n1, n2, n3, n4, n5, n6, n7, n8, n9, n10, n11, n12, n13, n14, n15, n16, n17, n18, n19, n20, n21, n22, n23, n24, n25, n26, n27, n28, n29, n30, n31, n32, Option.bind_some, ↓reduceIte, lcmp_self, q1, q2]
  by_cases n34 : xs i &&& nI 63 = 34
  · obtain ⟨r, h1, h2, q1, q2, q3⟩ := c_createArray (xs (i + 1)) (xs (i + 2)) (xs (i + 3)) h hI
    refine ⟨h2, q3, fun self => ?_⟩
    simp only [lL_law_18, kL_law_18, bL_law_1504, zl, eg, e0, e1, e2, e3, e4, p1, p2, p3, p4, p5, eq_true n34, n0, n1, n2, n3, n4, n5, n6, n7, n8, n9, n10, n11, n12, n13, n14, n15, n16, n17, n18, n19, n20, n21, n22, n23, n24, n25, n26, n27, n28, n29, n30, n31, n32, n33, Option.bind_some, ↓reduceIte, lcmp_self, q1, q2]
  by_cases n35 : xs i &&& nI 63 = 35
  · obtain ⟨r, h1, h2, q1, q2, q3⟩ := c_setElement (xs (i + 1)) (xs (i + 2)) (xs (i + 3)) h hI
    refine ⟨h2, q3, fun self => ?_⟩
    simp only [lL_law_18, kL_law_18, bL_law_1504, zl, eg, e0, e1, e2, e3, e4, p1, p2, p3, p4, p5, eq_true n35, n0, n1, n2, n3, n4, n5, n6, n7, n8, n9, n10, n11, n12, n13, n14, n15, n16, n17, n18, n19, n20, n21, n22, n23, n24, n25, n26, n27, n28, n29, n30, n31, n32, n33, n34, Option.bind_some, ↓reduceIte, lcmp_self, q1, q2]
  by_cases n36 : xs i &&& nI 63 = 36
  · obtain ⟨r, h1, h2, q1, q2, q3⟩ := c_setNaN (xs (i + 1)) (xs (i + 2)) h hI
    refine ⟨h2, q3, fun self => ?_⟩
    simp only [lL_law_18, kL_law_18, bL_law_1504, zl, eg, e0, e1, e2, e3, e4, p1, p2, p3, p4, p5, eq_true n36, n0, n1, n2, n3, n4, n5, n6, n7, n8, n9, n10, n11, n12, n13, n14, n15, n16, n17, n18, n19, n20, n21, n22, n23, n24, n25, n26, n27, n28, n29, n30, n31, n32, n33, n34, n35, Option.bind_some, ↓reduceIte, lcmp_self, q1, q2]
  by_cases n37 : xs i &&& nI 63 = 37
  · obtain ⟨r, h1, h2, q1, q2, q3⟩ := c_compareElements (xs (i + 1)) (xs (i + 2)) (xs (i + 3)) h hI
    refine ⟨h2, q3, fun self => ?_⟩
    simp only [lL_law_18, kL_law_18, bL_law_1504, zl, eg, e0, e1, e2, e3, e4, p1, p2, p3, p4, p5, eq_true n37, n0, n1, n2, n3, n4, n5, n6, n7, n8, n9, n10, n11, n12, n13, n14, n15, n16, n17, n18, n19, n20, n21, n22, n23, n24, n25, n26, n27, n28, n29, n30, n31, n32, n33, n34, n35, n36, Option.bind_some, ↓reduceIte, lcmp_self, q1, q2]
  by_cases n38 : xs i &&& nI 63 = 38
  · obtain ⟨r, h1, h2, q1, q2, q3⟩ := c_checkCounts (xs (i + 1)) (xs (i + 2)) h hI
    refine ⟨h2, q3, fun self => ?_⟩
    simp only [lL_law_18, kL_law_18, bL_law_1504, zl, eg, e0, e1, e2, e3, e4, p1, p2, p3, p4, p5, eq_true n38, n0, n1, n2, n3, n4, n5, n6, n7, n8, n9, n10, n11, n12, n13, n14, n15, n16, n17, n18, n19, n20, n21, n22, n23, n24, n25, n26, n27, n28, n29, n30, n31, n32, n33, n34, n35, n36, n37, Option.bind_some, ↓reduceIte, lcmp_self, q1, q2]
  refine ⟨h, hI, fun self => ?_⟩
  simp only [lL_law_18, kL_law_18, bL_law_1504, zl, eg, e0, Option.bind_some, ↓reduceIte, p5, n0, n1, n2, n3, n4, n5, n6, n7, n8, n9, n10, n11, n12, n13, n14, n15, n16, n17, n18, n19, n20, n21, n22, n23, n24, n25, n26, n27, n28, n29, n30, n31, n32, n33, n34, n35, n36, n37, n38]
theorem law_run {xs : Nat → Int32} {L sa : Nat} (hL : L ≤ 2560) {h : ZH} (hI : INV h) : ∃ hF, zloop (lL_law_18 xs L sa 0 117) zfu (nI 0, h) = some (1, hF) ∧ INV hF := by
  have key : wp (zloop (lL_law_18 xs L sa 0 117) zfu (nI 0, h)) (fun r => r.1 = 1 ∧ INV r.2) := by
    refine wloop (fun j s => s.1 = nI (5 * j) ∧ INV s.2) (L / 5) (fun j s self hj hs ih => ?_) (show L / 5 < 100000 by omega) ⟨rfl, hI⟩
    obtain ⟨x, hh⟩ := s
    obtain ⟨rfl, hI⟩ := hs
    by_cases hlt : j < L / 5
    · obtain ⟨h', hI', e⟩ := law_step (xs := xs) (L := L) (sa := sa) (i := 5 * j) hL (by omega) hI
      show wp (lL_law_18 xs L sa 0 117 self (nI (5 * j), hh)) _
      rw [e]
      exact ih _ hlt ⟨by show nI (5 * j + 5) = nI (5 * (j + 1)); rw [Nat.mul_add], hI'⟩
    · have eg : ((Int32.ofNat L) - (nI 5) < nI (5 * j)) := (ge_of hL (by omega)).mpr (by omega)
      refine ⟨(1, hh), ?_, rfl, hI⟩
      show kL_law_18 xs L sa 0 117 self (nI (5 * j)) hh = _
      unfold kL_law_18
      rw [if_pos eg]
      rfl
  obtain ⟨⟨r, hF⟩, e, h1, h2⟩ := key
  have h1' : r = 1 := h1
  subst h1'
  exact ⟨hF, e, h2⟩
theorem iP_room {h : ZH} (g : iP h) : zn h ≤ 600000 ∧ zs h ≤ 7302250 := by
  obtain ⟨q, gg, n, g1, g2, g3, g4, g5, g6, g7, g8, -⟩ := g
  have h2 : 2 ^ gg ≤ 2 ^ 7 := Nat.pow_le_pow_right (by decide) g6
  have h3 : (2 : Nat) ^ 7 = 128 := by decide
  constructor <;> omega
theorem zini_117 : ((fX10_init 0 (znew zh0 10 17)).map zn) = some 117 := by decide +kernel
theorem zini_eq : zini = some hini := by
  have h := zini_n.1
  unfold hini
  cases hz : zini with
  | none => rw [hz] at h; cases h
  | some x => rfl
theorem zini_two : ∃ h2, fX10_init 0 (znew zh0 10 17) = some h2 ∧ zn h2 = 117 := by
  have := zini_117
  cases hq : fX10_init 0 (znew zh0 10 17) with
  | none => rw [hq] at this; cases this
  | some x => rw [hq] at this; exact ⟨x, rfl, Option.some.inj this⟩
theorem chain_gen {β : Type} {a1 h0 h2 : ZH} {e3 : zn h2 = 117} (ez : zal h0 10 17 = some (0, a1)) (e2 : fX10_init 0 a1 = some h2) (F : Nat → Nat → ZH → Option β) :
    ((zal h0 10 17).bind fun q1 => (fX10_init q1.1 q1.2).bind fun h2 => (zal h2 11 44).bind fun q3 => (fX11_init q3.1 q3.2).bind fun h4 => F q1.1 q3.1 h4) = (((zal h0 10 17).bind fun q1 => (fX10_init q1.1 q1.2).bind fun h2 => (zal h2 11 44).bind fun q3 => (fX11_init q3.1 q3.2)).bind fun h4 => F 0 117 h4) := by
  have ez2 : zal h2 11 44 = some (117, znew h2 11 44) := by unfold zal; rw [e3]
  rw [ez, bsm, bsm]
  dsimp only
  rw [e2, bsm, bsm, ez2, bsm, bsm]
theorem law_chain {β : Type} (F : Nat → Nat → ZH → Option β) : ((zal zh0 10 17).bind fun q1 => (fX10_init q1.1 q1.2).bind fun h2 => (zal h2 11 44).bind fun q3 => (fX11_init q3.1 q3.2).bind fun h4 => F q1.1 q3.1 h4) = zini.bind (F 0 117) := by
  obtain ⟨h2, e2, e3⟩ := zini_two
  have ez : zal zh0 10 17 = some (0, znew zh0 10 17) := rfl
  exact chain_gen (e3 := e3) ez e2 F
def lawL (xs : Nat → Int32) (L sa N : Nat) (a b : Nat) (h : ZH) : Option (Int32 × ZH) := zloop (lL_law_18 xs L sa a b) N (nI 0, h)
def lawN (xs : Nat → Int32) (L sa N : Nat) (h : ZH) : Option (Int32 × ZH) :=
  (zal h 10 17).bind fun q1 => (fX10_init q1.1 q1.2).bind fun h2 => (zal h2 11 44).bind fun q3 => (fX11_init q3.1 q3.2).bind fun h4 => zloop (lL_law_18 xs L sa q1.1 q3.1) N (nI 0, h4)
theorem lawN_eq (xs : Nat → Int32) (L sa N : Nat) : lawN xs L sa N zh0 = zini.bind (lawL xs L sa N 0 117) := law_chain (lawL xs L sa N)
theorem fL_lawN (xs : Nat → Int32) (L sa : Nat) : fL_law xs L sa zh0 = lawN xs L sa zfu zh0 := by
  unfold fL_law lawN
  exact Eq.refl _
theorem zpure_of (hini_ok : INV hini) : ∀ (xs : Nat → Int32) (L sa : Nat), L ≤ 2560 → ∃ hF, fL_law xs L sa zh0 = some (1, hF) ∧ zn hF ≤ 600000 ∧ zs hF ≤ 7302250 := by
  intro xs L sa hL
  obtain ⟨hF, e, hI⟩ := law_run (xs := xs) (L := L) (sa := sa) hL hini_ok
  obtain ⟨G, n, c, hI⟩ := hI
  obtain ⟨r1, r2⟩ := iP_room hI.2.2.2.2.2.2.2
  refine ⟨hF, ?_, r1, r2⟩
  have hf := fL_lawN xs L sa
  revert e hf
  generalize zfu = N
  intro e hf
  rw [hf, lawN_eq, zini_eq, bsm]
  exact e
