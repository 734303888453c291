/-! COVERS: the object's cover, whole -/
/-- what the object holds of a cover -/
def cvC (M : Nat → Nat) (T Ld : List Nat) (cl : Nat → Nat) (r v0 τ : Nat) (h : ZH) : Prop := lastC M T ∧ vtx M T Ld cl ∧ 1 ≤ Ld.length ∧ hasM h 62 (mgM M Ld cl) ∧ zI h 54 7 = nI Ld.length ∧ subQ 63 (BQ (stF Ld.length (le1 M Ld cl)) (2 ^ Ld.length - 1)) h ∧ zI h 54 10 = nI r ∧ rsI (BQ (stF Ld.length (le1 M Ld cl)) (2 ^ Ld.length - 1)).1 r ∧ (BQ (stF Ld.length (le1 M Ld cl)) (2 ^ Ld.length - 1)).1.getD r 0 = 2 ^ v0 ∧ v0 < Ld.length ∧ (∀ t, t < τ → t / 4 < (bq (vF (le1 M Ld cl)) (v0 + 1) t).1.length) ∧ (bq (vF (le1 M Ld cl)) (v0 + 1) τ).1.length ≤ τ / 4 ∧ hasM h 72 (shp (le1 M Ld cl) (bq (vF (le1 M Ld cl)) (v0 + 1) τ).1)
theorem coverBuild {M : Nat → Nat} {h : ZH} (hs : Sh h) (au : aut 37 M h) (hE : ess M ≠ 0) : ∃ h' b, fX0_build 54 37 h = some (nI (b : Bool).toNat, h') ∧ zfr [54, 55, 56, 57, 58, 59, 60, 62, 63, 64, 65, 66, 67, 69, 70, 72] h h' ∧ (b = true → ∃ T Ld cl r v0 τ, cvC M T Ld cl r v0 τ h') ∧ (b = false → ∃ T X : List Nat, lastC M T ∧ X.length = 9 ∧ (∀ v, v < 9 → X.getD v 0 ∈ T) ∧ ∀ u v, u < v → v < 9 → ¬ eqv M (X.getD u 0) (X.getD v 0)) := by
  obtain ⟨h1, T, e1, p1, lc, mb⟩ := findLast_ok hs au hE
  have hs1 := p1.shp hs
  have au1 : aut 37 M h1 := subOK.fr p1 (by decide) (by decide) (by decide) (by decide) (by decide) au
  obtain ⟨h2, b, e2, p2, yes, no⟩ := merge_ok hs1 au1 lc mb
  have hs2 := p2.shp hs1
  cases hb : b with
  | false =>
    refine ⟨h2, false, ?_, (p1.trans p2).mono (by decide), (fun z => by cases z), fun _ => ?_⟩
    · rw [hb, Bool.toNat_false] at e2
      unfold fX0_build
      simp (disch := omega) only [e1, SC (hs), zl_eq, bsm, ZS, ZT, ZN, ZU, eq_self, true_and, and_true, and_self, or_true, true_or, or_false, false_or, not_true, not_false_eq_true, Nat.reduceAdd, Nat.reduceMul, Nat.reduceLT, Nat.reduceLeDiff, Nat.reduceEqDiff, ↓reduceIte, ZQ, Bool.true_eq_false, Bool.false_eq_true, Bool.not_true, Bool.not_false]
      simp (disch := omega) only [e2, SC (hs1), zl_eq, bsm, ZS, ZT, ZN, ZU, eq_self, true_and, and_true, and_self, or_true, true_or, or_false, false_or, not_true, not_false_eq_true, Nat.reduceAdd, Nat.reduceMul, Nat.reduceLT, Nat.reduceLeDiff, Nat.reduceEqDiff, ↓reduceIte, ZQ, Bool.true_eq_false, Bool.false_eq_true, Bool.not_true, Bool.not_false]
      rfl
    · obtain ⟨X, x1, x2, x3⟩ := no hb
      exact ⟨T, X, lc, x1, x2, x3⟩
  | true =>
    rw [hb, Bool.toNat_true] at e2
    obtain ⟨Ld, cl, vt, cH, lh, s6⟩ := yes hb
    obtain ⟨S0, rc, -⟩ := id lc
    have au2 : aut 37 M h2 := subOK.fr p2 (by decide) (by decide) (by decide) (by decide) (by decide) au1
    obtain ⟨h3, e3, p3, q3⟩ := link_okC hs2 au2 rc.2.1 rc.2.2.2.1 vt cH lh s6
    have hs3 := p3.shp hs2
    obtain ⟨h4, e4, p4, q4⟩ := build_ok (sub62 hs3) (g61 hs3) q3 (by decide)
    have hs4 := p4.shp hs3
    have n1 : 1 ≤ Ld.length := by
      have := (vt.2.2.2 S0 rc.2.2.1).1
      omega
    have eBQ : BQ (fo (mgM M Ld cl)) (ess (mgM M Ld cl)) = BQ (stF Ld.length (le1 M Ld cl)) (2 ^ Ld.length - 1) := by
      rw [BQ_eq, BQ_eq, ess_mg lc vt]
      exact bq_cong (fun S l hl => fo_mg vt hl) _
    have sq4 := q4.1
    rw [eBQ] at sq4
    have hle : ∀ v l, v < Ld.length → l < 4 → le1 M Ld cl v l ≤ Ld.length := fun v l hv hl => le1_le lc vt hv hl
    obtain ⟨τs, f1, f2, f3, f4, f5, f6, f7⟩ := RQ_facts n1 vt.1 hle
    obtain ⟨w, v1, w1, w2, w3⟩ := sync1 lc vt
    obtain ⟨r, hr⟩ : ∃ r, rsI (BQ (stF Ld.length (le1 M Ld cl)) (2 ^ Ld.length - 1)).1 r := by
      refine rsEx ⟨2 ^ v1, ?_, v1, rfl⟩
      rw [f1]
      have d0 : ∀ l, stF Ld.length (le1 M Ld cl) 0 l = 0 := fun l => by
        apply Classical.byContradiction
        intro q
        obtain ⟨i, hi⟩ := nz_bit.mp q
        obtain ⟨v, -, z, -⟩ := stF_bit.mp hi
        rw [Nat.zero_testBit] at z
        cases z
      rcases rcD_rn d0 f5 f5.2.2.1 w w1 with q | q
      · rw [w3] at q
        have := Nat.pow_pos (n := v1) (show 0 < 2 by decide)
        omega
      · rw [w3] at q; exact q
    have len255 : (BQ (stF Ld.length (le1 M Ld cl)) (2 ^ Ld.length - 1)).1.length ≤ 255 := by rw [f1]; exact f4
    have in256 : ∀ S, S ∈ (BQ (stF Ld.length (le1 M Ld cl)) (2 ^ Ld.length - 1)).1 → inN Ld.length S := fun S hS => by rw [f1] at hS; exact f7 S hS
    obtain ⟨h5, e5, p5, k5, z5⟩ := resetC (Q := (BQ (stF Ld.length (le1 M Ld cl)) (2 ^ Ld.length - 1)).1) (R := (BQ (stF Ld.length (le1 M Ld cl)) (2 ^ Ld.length - 1)).2) hs4 sq4 len255 (fun S hS => inN_lt vt.1 (in256 S hS)) hr
    have hs5 := p5.shp hs4
    obtain ⟨v0, hv0⟩ := hr.2.1
    have hvn : v0 < Ld.length := in256 _ (getD_mem hr.1) v0 (by rw [hv0]; exact pow_bit.mpr rfl)
    obtain ⟨τ, t2, t3, t4, t5, t6, t7, t8⟩ := VQ_facts hvn hle
    have hM5 : hasM h5 62 (mgM M Ld cl) := p5.hasM (by decide) (p4.hasM (by decide) q3)
    have sq5 : subQ 63 (BQ (stF Ld.length (le1 M Ld cl)) (2 ^ Ld.length - 1)) h5 := sq4.fr p5 (by decide) (by decide) (by decide) (by decide)
    obtain ⟨h6, e6, p6, q6⟩ := numberC (Qs := (BQ (stF Ld.length (le1 M Ld cl)) (2 ^ Ld.length - 1)).1) (Rs := (BQ (stF Ld.length (le1 M Ld cl)) (2 ^ Ld.length - 1)).2) hs5 lc vt hM5 sq5 len255 z5 hr.1 hv0 hvn t2 t3 t4 t5 t8
    refine ⟨h6, true, ?_, (((((p1.trans p2).trans p3).trans p4).trans p5).trans p6).mono (by decide), fun _ => ⟨T, Ld, cl, r, v0, τ, lc, vt, n1, p6.hasM (by decide) hM5, ?_, sq5.fr p6 (by decide) (by decide) (by decide) (by decide), ?_, hr, hv0, hvn, t2, t3, q6⟩, (fun z => by cases z)⟩
    · unfold fX0_build
      simp (disch := omega) only [e1, SC (hs), zl_eq, bsm, ZS, ZT, ZN, ZU, eq_self, true_and, and_true, and_self, or_true, true_or, or_false, false_or, not_true, not_false_eq_true, Nat.reduceAdd, Nat.reduceMul, Nat.reduceLT, Nat.reduceLeDiff, Nat.reduceEqDiff, ↓reduceIte, ZQ, Bool.true_eq_false, Bool.false_eq_true, Bool.not_true, Bool.not_false]
      simp (disch := omega) only [e2, SC (hs1), zl_eq, bsm, ZS, ZT, ZN, ZU, eq_self, true_and, and_true, and_self, or_true, true_or, or_false, false_or, not_true, not_false_eq_true, Nat.reduceAdd, Nat.reduceMul, Nat.reduceLT, Nat.reduceLeDiff, Nat.reduceEqDiff, ↓reduceIte, ZQ, Bool.true_eq_false, Bool.false_eq_true, Bool.not_true, Bool.not_false]
      simp (disch := omega) only [e3, SC (hs2), zl_eq, bsm, ZS, ZT, ZN, ZU, eq_self, true_and, and_true, and_self, or_true, true_or, or_false, false_or, not_true, not_false_eq_true, Nat.reduceAdd, Nat.reduceMul, Nat.reduceLT, Nat.reduceLeDiff, Nat.reduceEqDiff, ↓reduceIte, ZQ, Bool.true_eq_false, Bool.false_eq_true, Bool.not_true, Bool.not_false]
      simp (disch := omega) only [e4, SC (hs3), zl_eq, bsm, ZS, ZT, ZN, ZU, eq_self, true_and, and_true, and_self, or_true, true_or, or_false, false_or, not_true, not_false_eq_true, Nat.reduceAdd, Nat.reduceMul, Nat.reduceLT, Nat.reduceLeDiff, Nat.reduceEqDiff, ↓reduceIte, ZQ, Bool.true_eq_false, Bool.false_eq_true, Bool.not_true, Bool.not_false]
      simp (disch := omega) only [e5, SC (hs4), zl_eq, bsm, ZS, ZT, ZN, ZU, eq_self, true_and, and_true, and_self, or_true, true_or, or_false, false_or, not_true, not_false_eq_true, Nat.reduceAdd, Nat.reduceMul, Nat.reduceLT, Nat.reduceLeDiff, Nat.reduceEqDiff, ↓reduceIte, ZQ, Bool.true_eq_false, Bool.false_eq_true, Bool.not_true, Bool.not_false]
      simp (disch := omega) only [e6, SC (hs5), zl_eq, bsm, ZS, ZT, ZN, ZU, eq_self, true_and, and_true, and_self, or_true, true_or, or_false, false_or, not_true, not_false_eq_true, Nat.reduceAdd, Nat.reduceMul, Nat.reduceLT, Nat.reduceLeDiff, Nat.reduceEqDiff, ↓reduceIte, ZQ, Bool.true_eq_false, Bool.false_eq_true, Bool.not_true, Bool.not_false]
      rfl
    · rw [p6.I (by decide), k5 7 (by decide), p4.I (by decide), p3.I (by decide)]
      exact s6
    · rw [p6.I (by decide)]
      exact z5
