/-! CALLS: writeForbidden, both sides -/
theorem cnt_mono {p : Nat → Bool} {a : Nat} (b : Nat) (h : a ≤ b) : cnt p a ≤ cnt p b := by
  obtain ⟨d, rfl⟩ : ∃ d, b = a + d := ⟨b - a, by omega⟩
  rw [cnt_app]
  omega
theorem cnt_one {p : Nat → Bool} {k : Nat} (h : p k = true) : cnt p (k + 1) = cnt p k + 1 := by rw [cnt, if_pos h]
theorem cnt_zero {p : Nat → Bool} {k : Nat} (h : p k = false) : cnt p (k + 1) = cnt p k := by rw [cnt, if_neg (by rw [h]; decide), Nat.add_zero]
/-- the reference's search: Q holds at its end -/
theorem wfR {h : ZH} {M : Nat → Nat} {m i : Nat} {Q : Int32 × ZH → Prop} (hs : Sh h) (pr : prep M h) (hm : m < 6) (hi : i < 2 ^ 31)
    (kno : cf M (m + 1) (ess M) none ≤ i → ∀ h', zfr [117, 125] h h' → (∀ k, k ≠ 12 → zI h' 117 k = zI h 117 k) → Q (-1, h'))
    (kyes : i < cf M (m + 1) (ess M) none → ∀ h', zfr [117, 125, 124] h h' → (∀ k, k ≠ 12 → k ≠ 10 → zI h' 117 k = zI h 117 k) → txR (m + 1) (fun j => 97 + dgt (m + 1) (sel M (m + 1) (ess M) none i) j) h' → Q (nI (m + 1), h')) : wp (zloop (lX11_writeForbidden_31 117 (nI (m + 1))) zfu (nI i, nI 0, h)) Q := by
  have hp4 := p47 (n := m + 1) (by omega)
  have ej : jshl (nI 1) (nI (2 * (m + 1))) = nI (4 ^ (m + 1)) := by rw [nb_1shl (by omega), pow24]
  have htot := cnt_PPn M m (ess M) none
  by_cases hin : i < cf M (m + 1) (ess M) none
  · obtain ⟨s1, s2, s3⟩ := sel_ok M m _ _ _ hin
    have kq := kyes hin
    generalize sel M (m + 1) (ess M) none i = K at s1 s2 s3 kq
    refine wloop (fun k y => y.1 = nI (i - cnt (PP M (m + 1) (ess M) none) k) ∧ y.2.1 = nI k ∧ zfr [117, 125] h y.2.2 ∧ ∀ j, j ≠ 12 → zI y.2.2 117 j = zI h 117 j) K (fun k y self hk hy ih => ?_) (show K < 100000 by omega) ⟨rfl, rfl, zfr.refl h, fun _ _ => rfl⟩
    obtain ⟨z, y, h3⟩ := y
    obtain ⟨rfl, rfl, p3, k3⟩ := hy
    dsimp only at p3 k3
    have hs3 := p3.shp hs
    have pr3 := pr.fr p3 (by decide) (k3 14 (by decide))
    obtain ⟨h4, e4, p4, k4, z4, v4⟩ := spellW_ok hs3 (n := m + 1) (k := k) (by omega) (by omega)
    have hs4 := p4.shp hs3
    have ef := isForbidden_ok hs4 (pr3.fr p4 (by decide) (k4 14 (by decide))) (by omega) (show k < 4 ^ (m + 1) by omega) z4 v4
    have hmono := cnt_mono (p := PP M (m + 1) (ess M) none) K hk
    show wp (kX11_writeForbidden_31 117 (nI (m + 1)) self (nI (i - cnt (PP M (m + 1) (ess M) none) k)) (nI k) h3) _
    unfold kX11_writeForbidden_31 bX11_writeForbidden_73
    rw [pk_mul, ej, if_neg (nI_ge (by omega) (by omega)), if_neg (nI_pos (by omega)), e4, bsm, ef, bsm]
    by_cases hlt : k < K
    · cases hp : PP M (m + 1) (ess M) none k
      · rw [if_pos (show (nI false.toNat, h4).1 = 0 from eq00), nI_add]
        exact ih _ hlt ⟨by dsimp only; rw [cnt_zero hp], rfl, p3.same p4, fun j hj => by rw [k4 j hj, k3 j hj]⟩
      · have h1 := cnt_one hp
        have h2 := cnt_mono (p := PP M (m + 1) (ess M) none) K (show k + 1 ≤ K by omega)
        have hpos : ¬ nI (i - cnt (PP M (m + 1) (ess M) none) k) = 0 := nI_ne0 (by omega) (by omega)
        have em : i - cnt (PP M (m + 1) (ess M) none) k = (i - cnt (PP M (m + 1) (ess M) none) (k + 1)) + 1 := by omega
        rw [if_neg (show ¬ (nI true.toNat, h4).1 = 0 from ne10), if_neg hpos, em, pk_m1, nI_add]
        exact ih _ hlt ⟨rfl, rfl, p3.same p4, fun j hj => by rw [k4 j hj, k3 j hj]⟩
    · have hkK : k = K := by omega
      subst hkK
      have hz : nI (i - cnt (PP M (m + 1) (ess M) none) k) = 0 := by rw [s3, Nat.sub_self]; rfl
      obtain ⟨h5, e5, p5, k5, t5⟩ := writeOut_ok (n := m + 1) (w := dgt (m + 1) k) hs4 (by omega) z4 v4
      rw [s2, if_neg (show ¬ (nI true.toNat, h4).1 = 0 from ne10), if_pos hz, e5, bsm]
      exact wp_some (kq h5 (((p3.same p4).trans p5).mono (by decide)) (fun j h12 h10 => by rw [k5 j h10, k4 j h12, k3 j h12]) t5)
  · refine wloop (fun k y => y.1 = nI (i - cnt (PP M (m + 1) (ess M) none) k) ∧ y.2.1 = nI k ∧ zfr [117, 125] h y.2.2 ∧ ∀ j, j ≠ 12 → zI y.2.2 117 j = zI h 117 j) (4 ^ (m + 1)) (fun k y self hk hy ih => ?_) (show 4 ^ (m + 1) < 100000 by omega) ⟨rfl, rfl, zfr.refl h, fun _ _ => rfl⟩
    obtain ⟨z, y, h3⟩ := y
    obtain ⟨rfl, rfl, p3, k3⟩ := hy
    dsimp only at p3 k3
    have hs3 := p3.shp hs
    have pr3 := pr.fr p3 (by decide) (k3 14 (by decide))
    show wp (kX11_writeForbidden_31 117 (nI (m + 1)) self (nI (i - cnt (PP M (m + 1) (ess M) none) k)) (nI k) h3) _
    unfold kX11_writeForbidden_31 bX11_writeForbidden_73 bX11_writeForbidden_79
    by_cases hlt : k < 4 ^ (m + 1)
    · obtain ⟨h4, e4, p4, k4, z4, v4⟩ := spellW_ok hs3 (n := m + 1) (k := k) (by omega) hlt
      have hs4 := p4.shp hs3
      have ef := isForbidden_ok hs4 (pr3.fr p4 (by decide) (k4 14 (by decide))) (by omega) hlt z4 v4
      rw [pk_mul, ej, if_neg (nI_ge hlt (by omega)), if_neg (nI_pos (by omega)), e4, bsm, ef, bsm]
      cases hp : PP M (m + 1) (ess M) none k
      · rw [if_pos (show (nI false.toNat, h4).1 = 0 from eq00), nI_add]
        exact ih _ hlt ⟨by dsimp only; rw [cnt_zero hp], rfl, p3.same p4, fun j hj => by rw [k4 j hj, k3 j hj]⟩
      · have h1 := cnt_one hp
        have h2 := cnt_mono (p := PP M (m + 1) (ess M) none) (4 ^ (m + 1)) (show k + 1 ≤ 4 ^ (m + 1) by omega)
        have hpos : ¬ nI (i - cnt (PP M (m + 1) (ess M) none) k) = 0 := nI_ne0 (by omega) (by omega)
        have em : i - cnt (PP M (m + 1) (ess M) none) k = (i - cnt (PP M (m + 1) (ess M) none) (k + 1)) + 1 := by omega
        rw [if_neg (show ¬ (nI true.toNat, h4).1 = 0 from ne10), if_neg hpos, em, pk_m1, nI_add]
        exact ih _ hlt ⟨rfl, rfl, p3.same p4, fun j hj => by rw [k4 j hj, k3 j hj]⟩
    · rw [pk_mul, ej, if_pos (nI_le (by omega) (by omega))]
      exact wp_some (kno (by omega) h3 p3 k3)
theorem c_writeForbidden (a1 a2 a3 : Int32) : Ok2 (fX10_writeForbidden 0 a1 a2 a3) (fX11_writeForbidden 117 a1 a2 a3) := by
  refine Ok2.of (fun h G n c hI => ?_)
  have hs := hI.1
  rcases cSlot a1 with b | ⟨s, h6, rfl⟩
  · refine Ok2.same hI (r := -2) ?_ ?_
    · simp (disch := omega) only [fX10_writeForbidden, bX10_writeForbidden_17, fun q => (b q).1, SC (hs), zl_eq, bsm, ZS, ZT, ZN, ZU, eq_self, true_and, and_true, and_self, or_true, true_or, or_false, false_or, not_true, not_false_eq_true, Nat.reduceAdd, Nat.reduceMul, Nat.reduceLT, Nat.reduceLeDiff, Nat.reduceEqDiff, ↓reduceIte, ZQ, Bool.true_eq_false, Bool.false_eq_true, Bool.not_true, Bool.not_false]
    · simp (disch := omega) only [fX11_writeForbidden, bX11_writeForbidden_17, fun q => (b q).2, SR (hs), zl_eq, bsm, ZS, ZT, ZN, ZU, eq_self, true_and, and_true, and_self, or_true, true_or, or_false, false_or, not_true, not_false_eq_true, Nat.reduceAdd, Nat.reduceMul, Nat.reduceLT, Nat.reduceLeDiff, Nat.reduceEqDiff, ↓reduceIte, ZQ, Bool.true_eq_false, Bool.false_eq_true, Bool.not_true, Bool.not_false]
  rcases cIn a2 (lo := 1) (hi := 6) (by decide) (by decide) with b | ⟨m1, hm1, hm6, rfl⟩
  · refine Ok2.same hI (r := -2) ?_ ?_
    · simp (disch := omega) only [fX10_writeForbidden, bX10_writeForbidden_17, fun q => (b q).1, SC (hs), zl_eq, bsm, ZS, ZT, ZN, ZU, eq_self, true_and, and_true, and_self, or_true, true_or, or_false, false_or, not_true, not_false_eq_true, Nat.reduceAdd, Nat.reduceMul, Nat.reduceLT, Nat.reduceLeDiff, Nat.reduceEqDiff, ↓reduceIte, ZQ, Bool.true_eq_false, Bool.false_eq_true, Bool.not_true, Bool.not_false]
    · simp (disch := omega) only [fX11_writeForbidden, bX11_writeForbidden_17, fun q => (b q).2, SR (hs), zl_eq, bsm, ZS, ZT, ZN, ZU, eq_self, true_and, and_true, and_self, or_true, true_or, or_false, false_or, not_true, not_false_eq_true, Nat.reduceAdd, Nat.reduceMul, Nat.reduceLT, Nat.reduceLeDiff, Nat.reduceEqDiff, ↓reduceIte, ZQ, Bool.true_eq_false, Bool.false_eq_true, Bool.not_true, Bool.not_false]
  obtain ⟨m, rfl⟩ : ∃ m, m1 = m + 1 := ⟨m1 - 1, by omega⟩
  obtain ⟨h1, e1, p1, au, -⟩ := load_ok hI h6
  have g1 := hI.fr (fq.of p1 (by decide) (by decide))
  have ec := countForbidden_ok g1.1 au (m := m) (by omega)
  have cb := cf_le (G s) (m := m + 1) (ess (G s)) none (by omega)
  have hp4 := p47 (n := m + 1) (by omega)
  have ej : jshl (nI 1) (nI (2 * (m + 1))) = nI (4 ^ (m + 1)) := by rw [nb_1shl (by omega), pow24]
  have h4p : 0 < 4 ^ (m + 1) := Nat.pow_pos (by decide)
  by_cases hneg : a3 < 0
  · obtain ⟨h2, e2, p2, k2, pr⟩ := prepare_ok g1.1 g1.2.1.rr h6
    have g2 := g1.fr (fq.of2 p2 (by decide) (fun k hk => k2 k (by omega)))
    refine ⟨-1, (-1, h1), ?_, rfl, wp_eq (a := (-1, h2)) ?_ ⟨rfl, G, n, c, g2⟩⟩
    · unfold fX10_writeForbidden bX10_writeForbidden_46
      simp (disch := omega) only [e1, eq_true hneg, SC (hs), zl_eq, bsm, ZS, ZT, ZN, ZU, eq_self, true_and, and_true, and_self, or_true, true_or, or_false, false_or, not_true, not_false_eq_true, Nat.reduceAdd, Nat.reduceMul, Nat.reduceLT, Nat.reduceLeDiff, Nat.reduceEqDiff, ↓reduceIte, ZQ, Bool.true_eq_false, Bool.false_eq_true, Bool.not_true, Bool.not_false]
    · unfold fX11_writeForbidden
      simp (disch := omega) only [e2, SR (g1.1), zl_eq, bsm, ZS, ZT, ZN, ZU, eq_self, true_and, and_true, and_self, or_true, true_or, or_false, false_or, not_true, not_false_eq_true, Nat.reduceAdd, Nat.reduceMul, Nat.reduceLT, Nat.reduceLeDiff, Nat.reduceEqDiff, ↓reduceIte, ZQ, Bool.true_eq_false, Bool.false_eq_true, Bool.not_true, Bool.not_false]
      show kX11_writeForbidden_31 117 (nI (m + 1)) (zloop (lX11_writeForbidden_31 117 (nI (m + 1))) 99999) a3 (nI 0) h2 = _
      unfold kX11_writeForbidden_31 bX11_writeForbidden_79
      rw [pk_mul, ej, if_neg (nI_ge h4p (by omega)), if_pos hneg]
  · obtain ⟨i, hi31, rfl⟩ := nI_of hneg
    by_cases hlt : i < cf (G s) (m + 1) (ess (G s)) none
    · obtain ⟨h2, e2, p2, t2⟩ := spellForb_ok g1.1 au (by omega) hlt
      have x2 := g1.x.fr (fx28 p2)
      obtain ⟨h3, e3, p3, k3, pr⟩ := prepare_ok x2.1 x2.2.1.rr h6
      have x3 := x2.fr ⟨p3.mono (by decide), fun k hk => k3 k (by omega)⟩
      refine ⟨nI (m + 1), (nI (m + 1), h2), ?_, rfl, ?_⟩
      · unfold fX10_writeForbidden
        simp (disch := omega) only [e1, SC (hs), zl_eq, bsm, ZS, ZT, ZN, ZU, eq_self, true_and, and_true, and_self, or_true, true_or, or_false, false_or, not_true, not_false_eq_true, Nat.reduceAdd, Nat.reduceMul, Nat.reduceLT, Nat.reduceLeDiff, Nat.reduceEqDiff, ↓reduceIte, ZQ, Bool.true_eq_false, Bool.false_eq_true, Bool.not_true, Bool.not_false]
        simp (disch := omega) only [ec, eq_true hlt, SC (g1.1), zl_eq, bsm, ZS, ZT, ZN, ZU, eq_self, true_and, and_true, and_self, or_true, true_or, or_false, false_or, not_true, not_false_eq_true, Nat.reduceAdd, Nat.reduceMul, Nat.reduceLT, Nat.reduceLeDiff, Nat.reduceEqDiff, ↓reduceIte, ZQ, Bool.true_eq_false, Bool.false_eq_true, Bool.not_true, Bool.not_false]
        rw [e2, bsm]
      · dsimp only
        unfold fX11_writeForbidden
        simp (disch := omega) only [e3, SR (x2.1), zl_eq, bsm, ZS, ZT, ZN, ZU, eq_self, true_and, and_true, and_self, or_true, true_or, or_false, false_or, not_true, not_false_eq_true, Nat.reduceAdd, Nat.reduceMul, Nat.reduceLT, Nat.reduceLeDiff, Nat.reduceEqDiff, ↓reduceIte, ZQ, Bool.true_eq_false, Bool.false_eq_true, Bool.not_true, Bool.not_false]
        refine wfR x3.1 pr (by omega) hi31 (fun hge => absurd hge (by omega)) (fun _ h5 p5 k5 t5 => ?_)
        have x5 := x3.fr ⟨p5.mono (by decide), fun k hk => k5 k (by omega) (by omega)⟩
        refine ⟨rfl, G, n, c, x5.g (iOut.mk (by omega) (fun j hj => ?_) ((t2.fr p3 (by decide) (by decide)).fr p5 (by decide) (by decide)) t5)⟩
        have := dgt_lt (m + 1) (sel (G s) (m + 1) (ess (G s)) none i) j
        omega
    · obtain ⟨h2, e2, p2, k2, pr⟩ := prepare_ok g1.1 g1.2.1.rr h6
      have g2 := g1.fr (fq.of2 p2 (by decide) (fun k hk => k2 k (by omega)))
      refine ⟨-1, (-1, h1), ?_, rfl, ?_⟩
      · unfold fX10_writeForbidden bX10_writeForbidden_46
        simp (disch := omega) only [e1, SC (hs), zl_eq, bsm, ZS, ZT, ZN, ZU, eq_self, true_and, and_true, and_self, or_true, true_or, or_false, false_or, not_true, not_false_eq_true, Nat.reduceAdd, Nat.reduceMul, Nat.reduceLT, Nat.reduceLeDiff, Nat.reduceEqDiff, ↓reduceIte, ZQ, Bool.true_eq_false, Bool.false_eq_true, Bool.not_true, Bool.not_false]
        simp (disch := omega) only [ec, eq_false hlt, SC (g1.1), zl_eq, bsm, ZS, ZT, ZN, ZU, eq_self, true_and, and_true, and_self, or_true, true_or, or_false, false_or, not_true, not_false_eq_true, Nat.reduceAdd, Nat.reduceMul, Nat.reduceLT, Nat.reduceLeDiff, Nat.reduceEqDiff, ↓reduceIte, ZQ, Bool.true_eq_false, Bool.false_eq_true, Bool.not_true, Bool.not_false]
      · dsimp only
        unfold fX11_writeForbidden
        simp (disch := omega) only [e2, SR (g1.1), zl_eq, bsm, ZS, ZT, ZN, ZU, eq_self, true_and, and_true, and_self, or_true, true_or, or_false, false_or, not_true, not_false_eq_true, Nat.reduceAdd, Nat.reduceMul, Nat.reduceLT, Nat.reduceLeDiff, Nat.reduceEqDiff, ↓reduceIte, ZQ, Bool.true_eq_false, Bool.false_eq_true, Bool.not_true, Bool.not_false]
        refine wfR g2.1 pr (by omega) hi31 (fun _ h5 p5 k5 => ⟨rfl, G, n, c, g2.fr (fq.of2 p5 (by decide) (fun k hk => k5 k (by omega)))⟩) (fun hl => absurd hl hlt)
