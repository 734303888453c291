section A2
variable {h : ZH} {G : Nat → Nat → Nat}
theorem nb_put {a x j : Nat} (ha : a < 256) (hx : x < 8) (hj : j < 8) : jshl (jshr (nI a) (nI x) &&& nI 1) (nI j) = nI (if a.testBit x = true then 2 ^ j else 0) := by
  rw [nb_bit (by omega) (by omega)]
  cases a.testBit x
  · rw [Bool.toNat_false, nb_shl (by omega) (by omega), Nat.zero_mul, if_neg (by decide)]
  · rw [Bool.toNat_true, nb_1shl (by omega), if_pos rfl]
theorem append_ok {s o : Nat} {Z : Nat → Nat} (hs : Sh h) (hG : vI h 118 192 (fun j => G (j / 32) (j % 32))) (bG : ∀ j, j < 32 → G s j < 256) (h6 : s < 6) (ee : fX11_essentialOf 117 (nI s) h = some (nI (ess (G s)), h)) (hZ : vI h 119 32 Z) (bZ : ∀ k l, k < 8 → l < 4 → Z (4 * k + l) < 256) (hc : o + und (ess (G s)) 8 ≤ 8) : wp (fX11_append 117 (nI s) (nI o) h) (fun y => y.1 = nI (und (ess (G s)) 8) ∧ zfr [117, 128, 119] h y.2 ∧ (∀ i, i ≠ 17 → zI y.2 117 i = zI h 117 i) ∧ ∃ N, vI y.2 119 32 N ∧ ANq Z (G s) (ess (G s)) o N (32 * und (ess (G s)) 8)) := by
  have hE := ess_lt (G s)
  have h8 : ∀ {x}, (ess (G s)).testBit x = true → x < 8 := fun hx => ess_8 hx
  generalize ess (G s) = E at ee hc hE h8
  obtain ⟨h1, e1, p1, k1, z1, q1⟩ := place_ok (a := E) hs
  rw [show und E 64 = und E 8 from und_past hE 56] at z1
  have hs1 := p1.shp hs
  have hZ1 : vI h1 119 32 Z := fun j hj => by rw [p1.I (by decide)]; exact hZ j hj
  have fin : ∀ h', zfr [119] h1 h' → zfr [117, 128, 119] h h' ∧ ∀ i, i ≠ 17 → zI h' 117 i = zI h 117 i := fun h' p => ⟨(p1.trans p).mono (by decide), fun i hi => by rw [p.I (by decide)]; exact k1 i hi⟩
  unfold fX11_append
  simp (disch := omega) only [ee, i64 E hE, e1, SR (hs), zl_eq, bsm, ZS, ZT, ZN, ZU, eq_self, true_and, and_true, and_self, or_true, true_or, or_false, false_or, not_true, not_false_eq_true, Nat.reduceAdd, Nat.reduceMul, Nat.reduceLT, Nat.reduceLeDiff, Nat.reduceEqDiff, ↓reduceIte, ZQ, Bool.true_eq_false, Bool.false_eq_true, Bool.not_true, Bool.not_false]
  refine wloop (fun k y => y.1 = nI k ∧ k ≤ und E 8 ∧ zfr [119] h1 y.2 ∧ ∃ M, vI y.2 119 32 M ∧ ANq Z (G s) E o M (32 * k)) 8 (fun k y self hk hy ih => ?_) (by decide) ⟨rfl, Nat.zero_le _, zfr.refl h1, Z, hZ1, ANq_0 bZ⟩
  obtain ⟨y, h3⟩ := y
  obtain ⟨rfl, hku, p3, M3, q3, w3⟩ := hy
  dsimp only at p3 q3
  have hs3 := p3.shp hs1
  have z3 : zI h3 117 17 = nI (und E 8) := by rw [p3.I (by decide)]; exact z1
  show wp (kX11_append_12 117 (nI s) (nI o) self (nI k) h3) _
  unfold kX11_append_12
  by_cases hlt : k < und E 8
  · obtain ⟨v, hv, cv, uv⟩ := und_surj 8 k hlt
    simp (disch := omega) only [z3, Nat.not_le.mpr hlt, SR (hs3), zl_eq, bsm, ZS, ZT, ZN, ZU, eq_self, true_and, and_true, and_self, or_true, true_or, or_false, false_or, not_true, not_false_eq_true, Nat.reduceAdd, Nat.reduceMul, Nat.reduceLT, Nat.reduceLeDiff, Nat.reduceEqDiff, ↓reduceIte, ZQ, Bool.true_eq_false, Bool.false_eq_true, Bool.not_true, Bool.not_false]
    refine wloop (fun l y => y.1 = nI l ∧ zfr [119] h1 y.2 ∧ ∃ M, vI y.2 119 32 M ∧ ANq Z (G s) E o M (32 * k + 8 * l)) 4 (fun l y self2 hl hy ih2 => ?_) (by decide) ⟨rfl, p3, M3, q3, w3⟩
    obtain ⟨y, h4⟩ := y
    obtain ⟨rfl, p4, M4, q4, w4⟩ := hy
    dsimp only at p4 q4
    have hs4 := p4.shp hs1
    show wp (kX11_append_23 self 117 (nI s) (nI o) (nI k) self2 (nI l) h4) _
    unfold kX11_append_23
    by_cases hlt2 : l < 4
    · have a0 : zI h4 128 k = nI v := by rw [p4.I (by decide), ← uv]; exact q1 v (by omega) cv
      have hG4 : vI h4 118 192 (fun j => G (j / 32) (j % 32)) := fun j hj => by rw [p4.I (by decide), p1.I (by decide)]; exact hG j hj
      have t1 : fX11_to 117 (nI s) (nI v) (nI l) h4 = some (nI (G s (4 * v + l)), h4) := by
        rw [to_ok hs4 hG4 h6 hv hlt2, show (32 * s + 4 * v + l) / 32 = s by omega, show (32 * s + 4 * v + l) % 32 = 4 * v + l by omega]
      have b1 := bG (4 * v + l) (by omega)
      simp (disch := omega) only [Nat.not_le.mpr hlt2, a0, t1, SR (hs4), zl_eq, bsm, ZS, ZT, ZN, ZU, eq_self, true_and, and_true, and_self, or_true, true_or, or_false, false_or, not_true, not_false_eq_true, Nat.reduceAdd, Nat.reduceMul, Nat.reduceLT, Nat.reduceLeDiff, Nat.reduceEqDiff, ↓reduceIte, ZQ, Bool.true_eq_false, Bool.false_eq_true, Bool.not_true, Bool.not_false]
      refine wloop (fun j y => y.1 = nI j ∧ j ≤ und E 8 ∧ zfr [119] h1 y.2 ∧ ∃ M, vI y.2 119 32 M ∧ ANq Z (G s) E o M (32 * k + 8 * l + j)) 8 (fun j y self3 hj hy ih3 => ?_) (by decide) ⟨rfl, Nat.zero_le _, p4, M4, q4, w4⟩
      obtain ⟨y, h5⟩ := y
      obtain ⟨rfl, hju, p5, M5, q5, w5⟩ := hy
      dsimp only at p5 q5
      have hs5 := p5.shp hs1
      have z5 : zI h5 117 17 = nI (und E 8) := by rw [p5.I (by decide)]; exact z1
      show wp (kX11_append_47 self self2 117 (nI s) (nI o) (nI k) (nI l) (nI (G s (4 * v + l))) self3 (nI j) h5) _
      unfold kX11_append_47
      by_cases hlt3 : j < und E 8
      · obtain ⟨x, hx, cx, ux⟩ := und_surj 8 j hlt3
        have a2 : zI h5 128 j = nI x := by rw [p5.I (by decide), ← ux]; exact q1 x (by omega) cx
        simp (disch := omega) only [z5, Nat.not_le.mpr hlt3, a2, q5 (4 * (o + k) + l) (by omega), nb_put b1 hx (show o + j < 8 by omega), SR (hs5), zl_eq, bsm, ZS, ZT, ZN, ZU, eq_self, true_and, and_true, and_self, or_true, true_or, or_false, false_or, not_true, not_false_eq_true, Nat.reduceAdd, Nat.reduceMul, Nat.reduceLT, Nat.reduceLeDiff, Nat.reduceEqDiff, ↓reduceIte, ZQ, Bool.true_eq_false, Bool.false_eq_true, Bool.not_true, Bool.not_false]
        refine ih3 _ (by omega) ⟨rfl, by omega, p5.same zfr_uI, _, made_set q5, ?_⟩
        rw [← uv, ← ux] at w5 ⊢
        exact ANq_step hc hv hlt2 hx cv cx w5
      · have : j = und E 8 := by omega
        subst this
        simp (disch := omega) only [z5, Nat.le_refl, SR (hs5), zl_eq, bsm, ZS, ZT, ZN, ZU, eq_self, true_and, and_true, and_self, or_true, true_or, or_false, false_or, not_true, not_false_eq_true, Nat.reduceAdd, Nat.reduceMul, Nat.reduceLT, Nat.reduceLeDiff, Nat.reduceEqDiff, ↓reduceIte, ZQ, Bool.true_eq_false, Bool.false_eq_true, Bool.not_true, Bool.not_false]
        refine ih2 _ hlt2 ⟨rfl, p5, M5, q5, ANq_cong w5 (fun v' l' x' b1 b2 b3 b4 b5 => ?_)⟩
        have := und_lt8 b2 b5
        omega
    · have : l = 4 := by omega
      subst this
      simp (disch := omega) only [Nat.le_refl, SR (hs4), zl_eq, bsm, ZS, ZT, ZN, ZU, eq_self, true_and, and_true, and_self, or_true, true_or, or_false, false_or, not_true, not_false_eq_true, Nat.reduceAdd, Nat.reduceMul, Nat.reduceLT, Nat.reduceLeDiff, Nat.reduceEqDiff, ↓reduceIte, ZQ, Bool.true_eq_false, Bool.false_eq_true, Bool.not_true, Bool.not_false]
      exact ih _ (by omega) ⟨rfl, hlt, p4, M4, q4, by rw [show 32 * (k + 1) = 32 * k + 8 * 4 by omega]; exact w4⟩
  · have : k = und E 8 := by omega
    subst this
    simp (disch := omega) only [z3, Nat.le_refl, SR (hs3), zl_eq, bsm, ZS, ZT, ZN, ZU, eq_self, true_and, and_true, and_self, or_true, true_or, or_false, false_or, not_true, not_false_eq_true, Nat.reduceAdd, Nat.reduceMul, Nat.reduceLT, Nat.reduceLeDiff, Nat.reduceEqDiff, ↓reduceIte, ZQ, Bool.true_eq_false, Bool.false_eq_true, Bool.not_true, Bool.not_false]
    exact wp_some ⟨rfl, (fin h3 p3).1, (fin h3 p3).2, M3, q3, w3⟩
end A2
