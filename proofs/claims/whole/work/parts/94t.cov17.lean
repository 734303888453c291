/-! COVERS: both sides, up to the graph -/
def scrC : List Nat := [34, 37, 38, 39, 40, 41, 54, 55, 56, 57, 58, 59, 60, 62, 63, 64, 65, 66, 67, 69, 70, 72]
theorem fqC {h h' : ZH} (p : zfr scrC h h') : fq h h' := fq.of p (by decide) (by decide)
theorem buildCover_ok {h : ZH} {G : Nat → Nat → Nat} {n : Nat} {c : Nat → Nat} (hI : INVg G n c h) {s : Nat} (h6 : s < 6) : ∃ h' r, fX10_buildCover 0 (81 + 4 * s) h = some (r, h') ∧ zfr scrC h h' ∧ ((wh (G s) = false ∧ r = -4) ∨ (wh (G s) = true ∧ r = -5 ∧ ∃ T X : List Nat, lastC (G s) T ∧ X.length = 9 ∧ (∀ v, v < 9 → X.getD v 0 ∈ T) ∧ ∀ u v, u < v → v < 9 → ¬ eqv (G s) (X.getD u 0) (X.getD v 0)) ∨ (wh (G s) = true ∧ ∃ T Ld cl r0 v0 τ, cvC (G s) T Ld cl r0 v0 τ h' ∧ r = nI Ld.length)) := by
  have hs := hI.1
  obtain ⟨h1, e1, p1, q1⟩ := trim_ok hI h6
  have g1 := hI.fr (fq34 p1)
  have hs1 := g1.1
  have e2 : fX1_isStronglyConnected 33 h1 = some (nI (wh (G s)).toNat, h1) := by rw [stronglyConnected_ok (g33 g1.1) q1, sc_wh]
  cases hw : wh (G s) with
  | false =>
    refine ⟨h1, -4, ?_, p1.mono (by decide), Or.inl ⟨rfl, rfl⟩⟩
    rw [hw, Bool.toNat_false] at e2
    unfold fX10_buildCover
    simp (disch := omega) only [e1, SC (hs), zl_eq, bsm, ZS, ZT, ZN, ZU, eq_self, true_and, and_true, and_self, or_true, true_or, or_false, false_or, not_true, not_false_eq_true, Nat.reduceAdd, Nat.reduceMul, Nat.reduceLT, Nat.reduceLeDiff, Nat.reduceEqDiff, ↓reduceIte, ZQ, Bool.true_eq_false, Bool.false_eq_true, Bool.not_true, Bool.not_false]
    simp (disch := omega) only [e2, SC (hs1), zl_eq, bsm, ZS, ZT, ZN, ZU, eq_self, true_and, and_true, and_self, or_true, true_or, or_false, false_or, not_true, not_false_eq_true, Nat.reduceAdd, Nat.reduceMul, Nat.reduceLT, Nat.reduceLeDiff, Nat.reduceEqDiff, ↓reduceIte, ZQ, Bool.true_eq_false, Bool.false_eq_true, Bool.not_true, Bool.not_false]
  | true =>
    rw [hw, Bool.toNat_true] at e2
    have ha := wh_iff.mp hw
    obtain ⟨h2, e3, p2, q2⟩ := build_ok (sub37 hs1) (g33 hs1) q1 (by decide)
    have hs2 := p2.shp hs1
    have au : aut 37 (G s) h2 := aut_of q2
    obtain ⟨h3, b, e4, p3, yes, no⟩ := coverBuild hs2 au ha.1
    have hs3 := p3.shp hs2
    have pp : zfr scrC h h3 := ((p1.trans p2).trans p3).mono (by decide)
    cases hb : b with
    | false =>
      rw [hb, Bool.toNat_false] at e4
      refine ⟨h3, -5, ?_, pp, Or.inr (Or.inl ⟨rfl, rfl, no hb⟩)⟩
      unfold fX10_buildCover bX10_buildCover_58
      simp (disch := omega) only [e1, SC (hs), zl_eq, bsm, ZS, ZT, ZN, ZU, eq_self, true_and, and_true, and_self, or_true, true_or, or_false, false_or, not_true, not_false_eq_true, Nat.reduceAdd, Nat.reduceMul, Nat.reduceLT, Nat.reduceLeDiff, Nat.reduceEqDiff, ↓reduceIte, ZQ, Bool.true_eq_false, Bool.false_eq_true, Bool.not_true, Bool.not_false]
      simp (disch := omega) only [e2, e3, SC (hs1), zl_eq, bsm, ZS, ZT, ZN, ZU, eq_self, true_and, and_true, and_self, or_true, true_or, or_false, false_or, not_true, not_false_eq_true, Nat.reduceAdd, Nat.reduceMul, Nat.reduceLT, Nat.reduceLeDiff, Nat.reduceEqDiff, ↓reduceIte, ZQ, Bool.true_eq_false, Bool.false_eq_true, Bool.not_true, Bool.not_false]
      simp (disch := omega) only [e4, SC (hs2), zl_eq, bsm, ZS, ZT, ZN, ZU, eq_self, true_and, and_true, and_self, or_true, true_or, or_false, false_or, not_true, not_false_eq_true, Nat.reduceAdd, Nat.reduceMul, Nat.reduceLT, Nat.reduceLeDiff, Nat.reduceEqDiff, ↓reduceIte, ZQ, Bool.true_eq_false, Bool.false_eq_true, Bool.not_true, Bool.not_false]
    | true =>
      rw [hb, Bool.toNat_true] at e4
      obtain ⟨T, Ld, cl, r0, v0, τ, cv⟩ := yes hb
      have hl8 := cv.2.1.1
      have z6 := cv.2.2.2.2.1
      have e5 : fX0_size 54 h3 = some (nI Ld.length, h3) := by
        unfold fX0_size
        simp (disch := omega) only [z6, SC (hs3), zl_eq, bsm, ZS, ZT, ZN, ZU, eq_self, true_and, and_true, and_self, or_true, true_or, or_false, false_or, not_true, not_false_eq_true, Nat.reduceAdd, Nat.reduceMul, Nat.reduceLT, Nat.reduceLeDiff, Nat.reduceEqDiff, ↓reduceIte, ZQ, Bool.true_eq_false, Bool.false_eq_true, Bool.not_true, Bool.not_false]
      refine ⟨h3, nI Ld.length, ?_, pp, Or.inr (Or.inr ⟨rfl, T, Ld, cl, r0, v0, τ, cv, rfl⟩)⟩
      unfold fX10_buildCover bX10_buildCover_58
      simp (disch := omega) only [e1, SC (hs), zl_eq, bsm, ZS, ZT, ZN, ZU, eq_self, true_and, and_true, and_self, or_true, true_or, or_false, false_or, not_true, not_false_eq_true, Nat.reduceAdd, Nat.reduceMul, Nat.reduceLT, Nat.reduceLeDiff, Nat.reduceEqDiff, ↓reduceIte, ZQ, Bool.true_eq_false, Bool.false_eq_true, Bool.not_true, Bool.not_false]
      simp (disch := omega) only [e2, e3, SC (hs1), zl_eq, bsm, ZS, ZT, ZN, ZU, eq_self, true_and, and_true, and_self, or_true, true_or, or_false, false_or, not_true, not_false_eq_true, Nat.reduceAdd, Nat.reduceMul, Nat.reduceLT, Nat.reduceLeDiff, Nat.reduceEqDiff, ↓reduceIte, ZQ, Bool.true_eq_false, Bool.false_eq_true, Bool.not_true, Bool.not_false]
      simp (disch := omega) only [e4, SC (hs2), zl_eq, bsm, ZS, ZT, ZN, ZU, eq_self, true_and, and_true, and_self, or_true, true_or, or_false, false_or, not_true, not_false_eq_true, Nat.reduceAdd, Nat.reduceMul, Nat.reduceLT, Nat.reduceLeDiff, Nat.reduceEqDiff, ↓reduceIte, ZQ, Bool.true_eq_false, Bool.false_eq_true, Bool.not_true, Bool.not_false]
      simp (disch := omega) only [e5, SC (hs3), zl_eq, bsm, ZS, ZT, ZN, ZU, eq_self, true_and, and_true, and_self, or_true, true_or, or_false, false_or, not_true, not_false_eq_true, Nat.reduceAdd, Nat.reduceMul, Nat.reduceLT, Nat.reduceLeDiff, Nat.reduceEqDiff, ↓reduceIte, ZQ, Bool.true_eq_false, Bool.false_eq_true, Bool.not_true, Bool.not_false]
def scrD : List Nat := [117, 126, 133, 134, 135, 136, 137, 138, 139]
theorem findMembers_ok {h : ZH} {G : Nat → Nat → Nat} {s : Nat} (hs : Sh h) (g : rG G h) (h6 : s < 6) : ∃ h' r, fX11_findMembers 117 (nI s) h = some (r, h') ∧ zfr scrD h h' ∧ (∀ k, k ≠ 14 → k ≠ 23 → k ≠ 28 → k ≠ 30 → zI h' 117 k = zI h 117 k) ∧ ((wh (G s) = false ∧ r = -4) ∨ (wh (G s) = true ∧ ∃ cr b Q, numV (G s) cr ∧ bestQ (G s) cr b Q ∧ ((8 < Q.length ∧ r = -5) ∨ (Q.length ≤ 8 ∧ r = nI 0 ∧ memR Q h' ∧ ∃ le, leQ (dN (G s) cr) Q le ∧ leR Q.length le h')))) := by
  have e0 := isWhole_ok hs g h6
  cases hw : wh (G s) with
  | false =>
    rw [hw, Bool.toNat_false] at e0
    refine ⟨h, -4, ?_, zfr.refl h, fun _ _ _ _ _ => rfl, Or.inl ⟨rfl, rfl⟩⟩
    unfold fX11_findMembers
    simp (disch := omega) only [e0, SR (hs), zl_eq, bsm, ZS, ZT, ZN, ZU, eq_self, true_and, and_true, and_self, or_true, true_or, or_false, false_or, not_true, not_false_eq_true, Nat.reduceAdd, Nat.reduceMul, Nat.reduceLT, Nat.reduceLeDiff, Nat.reduceEqDiff, ↓reduceIte, ZQ, Bool.true_eq_false, Bool.false_eq_true, Bool.not_true, Bool.not_false]
  | true =>
    rw [hw, Bool.toNat_true] at e0
    have ha := wh_iff.mp hw
    obtain ⟨h1, e1, p1, k1, pr⟩ := prepare_ok hs g h6
    have hs1 := p1.shp hs
    obtain ⟨h2, e2, p2, k2, sr⟩ := findSets_ok hs1 pr ha.1
    have hs2 := p2.shp hs1
    have pr2 : prep (G s) h2 := ⟨by rw [k2 14 (by decide) (by decide)]; exact pr.1, fun S hS l hl => by rw [p2.I (by decide)]; exact pr.2 S hS l hl⟩
    obtain ⟨h3, cr, e3, p3, nv, cH⟩ := classify_ok hs2 pr2 ha.1 sr
    have hs3 := p3.shp hs2
    have pr3 : prep (G s) h3 := ⟨by rw [p3.I (by decide)]; exact pr2.1, fun S hS l hl => by rw [p3.I (by decide)]; exact pr2.2 S hS l hl⟩
    have sr3 : stR (G s) h3 := ⟨by rw [p3.I (by decide)]; exact sr.1, fun i hi => by rw [p3.I (by decide)]; exact sr.2 i hi⟩
    obtain ⟨h4, r, b, Q, e4, p4, k4, bq, res⟩ := members_ok hs3 pr3 ha.1 sr3 nv cH
    refine ⟨h4, r, ?_, (((p1.trans p2).trans p3).trans p4).mono (by decide), fun k q1 q2 q3 q4 => by rw [k4 k q3 q4, p3.I (by decide), k2 k q3 q2, k1 k q1], Or.inr ⟨rfl, cr, b, Q, nv, bq, res⟩⟩
    unfold fX11_findMembers
    simp (disch := omega) only [e0, e1, SR (hs), zl_eq, bsm, ZS, ZT, ZN, ZU, eq_self, true_and, and_true, and_self, or_true, true_or, or_false, false_or, not_true, not_false_eq_true, Nat.reduceAdd, Nat.reduceMul, Nat.reduceLT, Nat.reduceLeDiff, Nat.reduceEqDiff, ↓reduceIte, ZQ, Bool.true_eq_false, Bool.false_eq_true, Bool.not_true, Bool.not_false]
    simp (disch := omega) only [e2, SR (hs1), zl_eq, bsm, ZS, ZT, ZN, ZU, eq_self, true_and, and_true, and_self, or_true, true_or, or_false, false_or, not_true, not_false_eq_true, Nat.reduceAdd, Nat.reduceMul, Nat.reduceLT, Nat.reduceLeDiff, Nat.reduceEqDiff, ↓reduceIte, ZQ, Bool.true_eq_false, Bool.false_eq_true, Bool.not_true, Bool.not_false]
    simp (disch := omega) only [e3, SR (hs2), zl_eq, bsm, ZS, ZT, ZN, ZU, eq_self, true_and, and_true, and_self, or_true, true_or, or_false, false_or, not_true, not_false_eq_true, Nat.reduceAdd, Nat.reduceMul, Nat.reduceLT, Nat.reduceLeDiff, Nat.reduceEqDiff, ↓reduceIte, ZQ, Bool.true_eq_false, Bool.false_eq_true, Bool.not_true, Bool.not_false]
    exact e4
theorem fqD {h h' : ZH} (p : zfr scrD h h') (k : ∀ k, k ≠ 14 → k ≠ 23 → k ≠ 28 → k ≠ 30 → zI h' 117 k = zI h 117 k) : fq h h' := fq.of2 p (by decide) (fun j hj => k j (by omega) (by omega) (by omega) (by omega))
/-- the two sides together: refused alike, or one graph in two dresses -/
theorem bothCover {h : ZH} {G : Nat → Nat → Nat} {n : Nat} {c : Nat → Nat} (hI : INVg G n c h) {s : Nat} (h6 : s < 6) : ∃ h1 r, fX10_buildCover 0 (81 + 4 * s) h = some (r, h1) ∧ INVg G n c h1 ∧ ((r = -4 ∨ r = -5) ∧ (∃ h2, fX11_findMembers 117 (nI s) h1 = some (r, h2) ∧ INVg G n c h2) ∨ ∃ T Ld cl r0 v0 τ, cvC (G s) T Ld cl r0 v0 τ h1 ∧ r = nI Ld.length ∧ ∀ h', Sh h' → rG G h' → ∃ h2 Q le φ, fX11_findMembers 117 (nI s) h' = some (nI 0, h2) ∧ zfr scrD h' h2 ∧ (∀ k, k ≠ 14 → k ≠ 23 → k ≠ 28 → k ≠ 30 → zI h2 117 k = zI h' 117 k) ∧ memR Q h2 ∧ leR Q.length le h2 ∧ Q.length = Ld.length ∧ iso Ld.length (le1 (G s) Ld cl) le φ) := by
  obtain ⟨h1, r, e1, p1, res⟩ := buildCover_ok hI h6
  have g1 := hI.fr (fqC p1)
  refine ⟨h1, r, e1, g1, ?_⟩
  rcases res with ⟨hw, rfl⟩ | ⟨hw, rfl, T, X, lc, x1, x2, x3⟩ | ⟨hw, T, Ld, cl, r0, v0, τ, cv, rfl⟩
  · left
    refine ⟨Or.inl rfl, ?_⟩
    obtain ⟨h2, r2, e2, p2, k2, res2⟩ := findMembers_ok g1.1 g1.2.1.rr h6
    rcases res2 with ⟨-, rfl⟩ | ⟨hw2, -⟩
    · exact ⟨h2, e2, g1.fr (fqD p2 k2)⟩
    · rw [hw] at hw2; cases hw2
  · left
    refine ⟨Or.inr rfl, ?_⟩
    obtain ⟨h2, r2, e2, p2, k2, res2⟩ := findMembers_ok g1.1 g1.2.1.rr h6
    rcases res2 with ⟨hw2, -⟩ | ⟨-, cr, b, Q, nv, bq, res3⟩
    · rw [hw] at hw2; cases hw2
    · have := big9 (wh_iff.mp hw) lc nv bq x1 x2 x3
      rcases res3 with ⟨-, rfl⟩ | ⟨q, -⟩
      · exact ⟨h2, e2, g1.fr (fqD p2 k2)⟩
      · omega
  · right
    refine ⟨T, Ld, cl, r0, v0, τ, cv, rfl, fun h' hs' g' => ?_⟩
    obtain ⟨lc, vt, -⟩ := cv
    obtain ⟨h2, r2, e2, p2, k2, res2⟩ := findMembers_ok hs' g' h6
    rcases res2 with ⟨hw2, -⟩ | ⟨-, cr, b, Q, nv, bq, res3⟩
    · rw [hw] at hw2; cases hw2
    · have ha := wh_iff.mp hw
      have hlen := iso_len ha lc nv bq vt
      have h8 := vt.1
      rcases res3 with ⟨q, -⟩ | ⟨q, rfl, mr, le, lq, lr⟩
      · omega
      · obtain ⟨φ, is⟩ := iso_ex ha lc nv bq vt lq
        exact ⟨h2, Q, le, φ, e2, p2, k2, mr, lr, hlen, is⟩
