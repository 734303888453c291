/-! CALL: writeReset, whole -/
theorem c_writeReset (a1 : Int32) : Ok2 (fX10_writeReset 0 a1) (fX11_writeReset 117 a1) := by
  refine Ok2.of (fun h G n c hI => ?_)
  have hs := hI.1
  rcases cSlot a1 with b | ⟨s, h6, rfl⟩
  · refine Ok2.same hI (r := -2) ?_ ?_
    · simp (disch := omega) only [fX10_writeReset, fun q => (b q).1, SC (hs), zl_eq, bsm, ZS, ZT, ZN, ZU, eq_self, true_and, and_true, and_self, or_true, true_or, or_false, false_or, not_true, not_false_eq_true, Nat.reduceAdd, Nat.reduceMul, Nat.reduceLT, Nat.reduceLeDiff, Nat.reduceEqDiff, ↓reduceIte, ZQ, Bool.true_eq_false, Bool.false_eq_true, Bool.not_true, Bool.not_false]
    · simp (disch := omega) only [fX11_writeReset, fun q => (b q).2, SR (hs), zl_eq, bsm, ZS, ZT, ZN, ZU, eq_self, true_and, and_true, and_self, or_true, true_or, or_false, false_or, not_true, not_false_eq_true, Nat.reduceAdd, Nat.reduceMul, Nat.reduceLT, Nat.reduceLeDiff, Nat.reduceEqDiff, ↓reduceIte, ZQ, Bool.true_eq_false, Bool.false_eq_true, Bool.not_true, Bool.not_false]
  obtain ⟨h1, r, e1, g1, res⟩ := bothCover hI h6
  have hs1 := g1.1
  rcases res with ⟨hr, h2, e2, g2⟩ | ⟨T, Ld, cl, r0, v0, τ, cv, rfl, ref⟩
  · refine ⟨r, ?_⟩
    have n1 : (0 ≤ r) = False := by rcases hr with rfl | rfl <;> decide
    have n2 : (r = 0) = False := by rcases hr with rfl | rfl <;> decide
    unfold fX10_writeReset fX11_writeReset
    simp (disch := omega) only [isSlot_ok h6, e1, n1, SC (hs), zl_eq, bsm, ZS, ZT, ZN, ZU, eq_self, true_and, and_true, and_self, or_true, true_or, or_false, false_or, not_true, not_false_eq_true, Nat.reduceAdd, Nat.reduceMul, Nat.reduceLT, Nat.reduceLeDiff, Nat.reduceEqDiff, ↓reduceIte, ZQ, Bool.true_eq_false, Bool.false_eq_true, Bool.not_true, Bool.not_false]
    refine wp_some ⟨rfl, ?_⟩
    dsimp only
    simp (disch := omega) only [rSlot_ok h6, e2, n2, SR (hs1), zl_eq, bsm, ZS, ZT, ZN, ZU, eq_self, true_and, and_true, and_self, or_true, true_or, or_false, false_or, not_true, not_false_eq_true, Nat.reduceAdd, Nat.reduceMul, Nat.reduceLT, Nat.reduceLeDiff, Nat.reduceEqDiff, ↓reduceIte, ZQ, Bool.true_eq_false, Bool.false_eq_true, Bool.not_true, Bool.not_false]
    exact wp_some ⟨rfl, G, n, c, g2⟩
  · obtain ⟨lc, vt, l1, -, -, sq, z9, rs, er, hv0, -⟩ := cv
    have h8 : Ld.length ≤ 8 := vt.1
    have hle : ∀ v l, v < Ld.length → l < 4 → le1 (G s) Ld cl v l ≤ Ld.length := fun v l hv hl => le1_le lc vt hv hl
    obtain ⟨τ', eBQ, τ1, bI, l5, -, -, -⟩ := RQ_facts l1 h8 hle
    rw [← eBQ] at bI l5
    have ha : ∀ i, 1 ≤ i → i < (BQ (stF Ld.length (le1 (G s) Ld cl)) (2 ^ Ld.length - 1)).1.length → (BQ (stF Ld.length (le1 (G s) Ld cl)) (2 ^ Ld.length - 1)).2.getD i 0 / 4 < i := fun i h1 h2 => (bI.2.2.2.2.2.1 i h1 h2).2.1
    obtain ⟨h5, e5, p5, t5⟩ := spellPathC (Q := (BQ (stF Ld.length (le1 (G s) Ld cl)) (2 ^ Ld.length - 1)).1) (R := (BQ (stF Ld.length (le1 (G s) Ld cl)) (2 ^ Ld.length - 1)).2) hs1 sq rs.1 l5 ha z9
    have hs5 := p5.shp hs1
    have x5 := g1.x.fr (fx28 p5)
    obtain ⟨h7, Q, le, φ, e7, p7, k7, mr, lr, hQ, is⟩ := ref h5 hs5 x5.2.1.rr
    have hs7 := p7.shp hs5
    obtain ⟨rs', er', eR⟩ := reset_rs l1 h8 is rs hv0 er
    have v30 := mr.1
    rw [hQ] at v30 lr
    obtain ⟨⟨w, h9⟩, e9, q1, p9, k9, z9', q9⟩ := findReset_ok hs7 l1 h8 v30 lr (iso_leB is) rs' er'
    dsimp only at q1 p9 k9 z9' q9
    subst q1
    rw [eR] at z9' q9
    have dl := dp_le (a := fun i => (BQ (stF Ld.length (le1 (G s) Ld cl)) (2 ^ Ld.length - 1)).2.getD i 0) ha (r0 + 1) r0 (by omega) rs.1
    have rl := rs.1
    have hs9 := p9.shp hs7
    generalize (BQ (stF Ld.length (le1 (G s) Ld cl)) (2 ^ Ld.length - 1)).2 = R at t5 z9' q9 dl
    generalize (BQ (stF Ld.length (le1 (G s) Ld cl)) (2 ^ Ld.length - 1)).1.length = qn at rl l5
    clear bI ha sq eBQ rs er rs' er' eR
    generalize hD : dp (fun i => R.getD i 0) r0 = D at t5 z9' q9 dl
    obtain ⟨h10, e10, p10, k10, t10⟩ := writeOut_ok (n := D) (w := fun i => R.getD (bk (fun i => R.getD i 0) r0 (D - 1 - i)) 0 % 4) hs9 (by omega) z9' (fun i hi => q9 i hi)
    have el := len_ok (T28 hs5) t5.1
    have l0 : (0 ≤ nI Ld.length) = True := by
      have : (nI 0 ≤ nI Ld.length) = True := by
        simp (disch := omega) only [Nat.zero_le, zl_eq, bsm, ZS, ZT, ZN, ZU, eq_self, true_and, and_true, and_self, or_true, true_or, or_false, false_or, not_true, not_false_eq_true, Nat.reduceAdd, Nat.reduceMul, Nat.reduceLT, Nat.reduceLeDiff, Nat.reduceEqDiff, ↓reduceIte, ZQ, Bool.true_eq_false, Bool.false_eq_true, Bool.not_true, Bool.not_false]
      exact this
    refine ⟨nI D, ?_⟩
    unfold fX10_writeReset fX11_writeReset
    simp (disch := omega) only [isSlot_ok h6, e1, l0, SC (hs), zl_eq, bsm, ZS, ZT, ZN, ZU, eq_self, true_and, and_true, and_self, or_true, true_or, or_false, false_or, not_true, not_false_eq_true, Nat.reduceAdd, Nat.reduceMul, Nat.reduceLT, Nat.reduceLeDiff, Nat.reduceEqDiff, ↓reduceIte, ZQ, Bool.true_eq_false, Bool.false_eq_true, Bool.not_true, Bool.not_false]
    simp (disch := omega) only [e5, SC (hs1), zl_eq, bsm, ZS, ZT, ZN, ZU, eq_self, true_and, and_true, and_self, or_true, true_or, or_false, false_or, not_true, not_false_eq_true, Nat.reduceAdd, Nat.reduceMul, Nat.reduceLT, Nat.reduceLeDiff, Nat.reduceEqDiff, ↓reduceIte, ZQ, Bool.true_eq_false, Bool.false_eq_true, Bool.not_true, Bool.not_false]
    simp (disch := omega) only [el, SC (hs5), zl_eq, bsm, ZS, ZT, ZN, ZU, eq_self, true_and, and_true, and_self, or_true, true_or, or_false, false_or, not_true, not_false_eq_true, Nat.reduceAdd, Nat.reduceMul, Nat.reduceLT, Nat.reduceLeDiff, Nat.reduceEqDiff, ↓reduceIte, ZQ, Bool.true_eq_false, Bool.false_eq_true, Bool.not_true, Bool.not_false]
    refine wp_some ⟨rfl, ?_⟩
    dsimp only
    simp (disch := omega) only [rSlot_ok h6, e7, e9, e10, SR (hs5), zl_eq, bsm, ZS, ZT, ZN, ZU, eq_self, true_and, and_true, and_self, or_true, true_or, or_false, false_or, not_true, not_false_eq_true, Nat.reduceAdd, Nat.reduceMul, Nat.reduceLT, Nat.reduceLeDiff, Nat.reduceEqDiff, ↓reduceIte, ZQ, Bool.true_eq_false, Bool.false_eq_true, Bool.not_true, Bool.not_false]
    have pp := (p7.trans p9).trans p10
    have x10 := x5.fr ⟨pp.mono (by decide), fun k hk => by rw [k10 k (by omega), k9 k (by omega) (by omega), k7 k (by omega) (by omega) (by omega) (by omega)]⟩
    refine wp_some ⟨rfl, G, n, c, x10.g (iOut.mk (by omega) (fun i hi => ?_) (t5.fr pp (by decide) (by decide)) t10)⟩
    omega
