/-! CALLS: forbidden, on the reference's side -/
theorem pow24 (i : Nat) : 2 ^ (2 * i) = 4 ^ i := by rw [Nat.pow_mul]
theorem and3 (x : Nat) : x &&& 3 = x % 4 := Nat.and_two_pow_sub_one_eq_mod x 2
theorem p47 {n : Nat} (hn : n ≤ 7) : 4 ^ n ≤ 16384 := by
  have h2 : 4 ^ n ≤ 4 ^ 7 := Nat.pow_le_pow_right (by decide) hn
  have h3 : (4 : Nat) ^ 7 = 16384 := by decide
  omega
theorem digit_ok {n k j : Nat} (hn : n ≤ 7) (hk : k < 4 ^ n) (hj : j < n) : jshr (nI k) (nI (2 * (n - 1 - j))) &&& nI 3 = nI (dgt n k j) := by
  have := p47 hn
  rw [nb_shr (by omega) (by omega), nb_and, and3, pow24]
  rfl
theorem dgt_lt (n k j : Nat) : dgt n k j < 4 := Nat.mod_lt _ (by decide)
section FR
variable {h : ZH} {M : Nat → Nat}
theorem spellW_ok (hs : Sh h) {n k : Nat} (hn : n ≤ 7) (hk : k < 4 ^ n) : ∃ h', fX11_spell 117 (nI n) (nI k) h = some h' ∧ zfr [117, 125] h h' ∧ (∀ i, i ≠ 12 → zI h' 117 i = zI h 117 i) ∧ zI h' 117 12 = nI n ∧ vI h' 125 n (dgt n k) := by
  have key : wp (fX11_spell 117 (nI n) (nI k) h) (fun h' => zfr [117, 125] h h' ∧ (∀ i, i ≠ 12 → zI h' 117 i = zI h 117 i) ∧ zI h' 117 12 = nI n ∧ vI h' 125 n (dgt n k)) := by
    unfold fX11_spell
    simp (disch := omega) only [SR (hs), zl_eq, bsm, ZS, ZT, ZN, ZU, eq_self, true_and, and_true, and_self, or_true, true_or, or_false, false_or, not_true, not_false_eq_true, Nat.reduceAdd, Nat.reduceMul, Nat.reduceLT, Nat.reduceLeDiff, Nat.reduceEqDiff, ↓reduceIte, ZQ, Bool.true_eq_false, Bool.false_eq_true, Bool.not_true, Bool.not_false]
    have p0 : zfr [117, 125] h (zsI h (zu (zI h) 117 12 (nI n))) := (zfr_uI (a := 117)).mono (by decide)
    have z12 : zI (zsI h (zu (zI h) 117 12 (nI n))) 117 12 = nI n := by dsimp only [zI_zsI]; rw [zu_at, if_pos rfl]
    have zo : ∀ i, i ≠ 12 → zI (zsI h (zu (zI h) 117 12 (nI n))) 117 i = zI h 117 i := fun i hi => by dsimp only [zI_zsI]; rw [zu_at, if_neg hi]
    generalize zsI h (zu (zI h) 117 12 (nI n)) = h0 at p0 z12 zo
    have hs0 := p0.shp hs
    refine wloop (fun j y => y.1 = nI j ∧ zfr [125] h0 y.2 ∧ vI y.2 125 j (dgt n k)) n (fun j y self hj hy ih => ?_) (show n < 100000 by omega) ⟨rfl, zfr.refl h0, fun i hi => by omega⟩
    obtain ⟨y, h1⟩ := y
    obtain ⟨rfl, p1, q1⟩ := hy
    dsimp only at p1 q1
    have hs1 := p1.shp hs0
    show wp (kX11_spell_7 117 (nI n) (nI k) self (nI j) h1) _
    unfold kX11_spell_7
    by_cases hlt : j < n
    · have ed := digit_ok hn hk hlt
      simp (disch := omega) only [show ¬ (n ≤ j) by omega, ed, SR (hs1), zl_eq, bsm, ZS, ZT, ZN, ZU, eq_self, true_and, and_true, and_self, or_true, true_or, or_false, false_or, not_true, not_false_eq_true, Nat.reduceAdd, Nat.reduceMul, Nat.reduceLT, Nat.reduceLeDiff, Nat.reduceEqDiff, ↓reduceIte, ZQ, Bool.true_eq_false, Bool.false_eq_true, Bool.not_true, Bool.not_false]
      refine ih _ hlt ⟨rfl, p1.same zfr_uI, fun i hi => ?_⟩
      dsimp only [zI_zsI]
      rw [zu_at]
      by_cases e : i = j
      · rw [if_pos e, e]
      · rw [if_neg e]; exact q1 i (by omega)
    · have : j = n := by omega
      subst this
      simp (disch := omega) only [Nat.le_refl, SR (hs1), zl_eq, bsm, ZS, ZT, ZN, ZU, eq_self, true_and, and_true, and_self, or_true, true_or, or_false, false_or, not_true, not_false_eq_true, Nat.reduceAdd, Nat.reduceMul, Nat.reduceLT, Nat.reduceLeDiff, Nat.reduceEqDiff, ↓reduceIte, ZQ, Bool.true_eq_false, Bool.false_eq_true, Bool.not_true, Bool.not_false]
      exact wp_some ⟨(p0.trans p1).mono (by decide), fun i hi => by rw [p1.I (by decide)]; exact zo i hi, by rw [p1.I (by decide)]; exact z12, q1⟩
  exact key
theorem isForbidden_ok (hs : Sh h) (pr : prep M h) {m k : Nat} (hm : m < 6) (hk : k < 4 ^ (m + 1)) (z12 : zI h 117 12 = nI (m + 1)) (hw : vI h 125 (m + 1) (dgt (m + 1) k)) : fX11_isForbidden 117 h = some (nI (PP M (m + 1) (ess M) none k).toNat, h) := by
  have he := ess_lt M
  have hb := PP_bh M (dgt (m + 1) k) m (ess M) none 0 k hk (fun j hj => by rw [Nat.zero_add]; unfold dgt; rw [show m + 1 - 1 - j = m - j by omega])
  rw [Nat.zero_add] at hb
  have et : tlA M none (dgt (m + 1) k 0) = ess M := rfl
  rw [et] at hb
  have b1 := behind_ok (w := dgt (m + 1) k) (a := 0) (k := m + 1) hs pr he (by omega) (fun j hj => by rw [Nat.zero_add]; exact ⟨hw j hj, dgt_lt _ _ _⟩)
  have b2 := behind_ok (w := dgt (m + 1) k) (a := 1) (k := m) hs pr he (by omega) (fun j hj => ⟨hw (1 + j) (by omega), dgt_lt _ _ _⟩)
  have b3 := behind_ok (w := dgt (m + 1) k) (a := 0) (k := m) hs pr he (by omega) (fun j hj => by rw [Nat.zero_add]; exact ⟨hw j (by omega), dgt_lt _ _ _⟩)
  rw [Nat.zero_add] at b1 b3
  rw [Nat.add_comm 1 m] at b2
  have l1 := bh_lt (M := M) (w := dgt (m + 1) k) (a := 0) (k := m + 1) he (fun j _ => dgt_lt _ _ _)
  have l2 := bh_lt (M := M) (w := dgt (m + 1) k) (a := 1) (k := m) he (fun j _ => dgt_lt _ _ _)
  have l3 := bh_lt (M := M) (w := dgt (m + 1) k) (a := 0) (k := m) he (fun j _ => dgt_lt _ _ _)
  have m0 : m = 0 → bh M (dgt (m + 1) k) (ess M) 0 m = ess M ∧ bh M (dgt (m + 1) k) (ess M) 1 m = ess M := fun e => by subst e; exact ⟨rfl, rfl⟩
  generalize bh M (dgt (m + 1) k) (ess M) 0 (m + 1) = X1 at hb b1 l1
  generalize bh M (dgt (m + 1) k) (ess M) 1 m = X2 at hb b2 l2 m0
  generalize bh M (dgt (m + 1) k) (ess M) 0 m = X3 at hb b3 l3 m0
  have hP : PP M (m + 1) (ess M) none k = (decide (X1 = 0) && (!decide (X2 = 0) && !decide (X3 = 0))) := by
    have hb' : PP M (m + 1) (ess M) none k = true ↔ X1 = 0 ∧ X2 ≠ 0 ∧ X3 ≠ 0 := by
      rw [hb]
      constructor
      · rintro ⟨q1, q2, q3⟩
        refine ⟨q2, q3, ?_⟩
        rcases q1 with q | q
        · exact q
        · obtain ⟨e1, e2⟩ := m0 q
          rw [e1, ← e2]; exact q3
      · rintro ⟨q1, q2, q3⟩
        exact ⟨Or.inl q3, q1, q2⟩
    cases hc : PP M (m + 1) (ess M) none k
    · rw [hc] at hb'
      cases hd : (decide (X1 = 0) && (!decide (X2 = 0) && !decide (X3 = 0)))
      · rfl
      · exfalso
        have : false = true := hb'.mpr (by simpa using hd)
        cases this
    · have := hb'.mp hc
      simp [this.1, this.2.1, this.2.2]
  rw [hP]
  unfold fX11_isForbidden bX11_isForbidden_54 bX11_isForbidden_55
  by_cases x1 : X1 = 0
  · by_cases x2 : X2 = 0
    · simp (disch := omega) only [pr.1, z12, b1, b2, eq_true x1, eq_true x2, decide_true, Bool.false_and, Bool.and_false, Bool.toNat_false, SR (hs), zl_eq, bsm, ZS, ZT, ZN, ZU, eq_self, true_and, and_true, and_self, or_true, true_or, or_false, false_or, not_true, not_false_eq_true, Nat.reduceAdd, Nat.reduceMul, Nat.reduceLT, Nat.reduceLeDiff, Nat.reduceEqDiff, ↓reduceIte, ZQ, Bool.true_eq_false, Bool.false_eq_true, Bool.not_true, Bool.not_false]
    · by_cases x3 : X3 = 0
      · simp (disch := omega) only [pr.1, z12, b1, b2, Nat.add_sub_cancel, b3, eq_true x1, eq_false x2, eq_true x3, decide_true, Bool.false_and, Bool.and_false, Bool.toNat_false, SR (hs), zl_eq, bsm, ZS, ZT, ZN, ZU, eq_self, true_and, and_true, and_self, or_true, true_or, or_false, false_or, not_true, not_false_eq_true, Nat.reduceAdd, Nat.reduceMul, Nat.reduceLT, Nat.reduceLeDiff, Nat.reduceEqDiff, ↓reduceIte, ZQ, Bool.true_eq_false, Bool.false_eq_true, Bool.not_true, Bool.not_false]
      · simp (disch := omega) only [pr.1, z12, b1, b2, Nat.add_sub_cancel, b3, eq_true x1, eq_false x2, eq_false x3, decide_true, decide_false, Bool.and_self, Bool.toNat_true, SR (hs), zl_eq, bsm, ZS, ZT, ZN, ZU, eq_self, true_and, and_true, and_self, or_true, true_or, or_false, false_or, not_true, not_false_eq_true, Nat.reduceAdd, Nat.reduceMul, Nat.reduceLT, Nat.reduceLeDiff, Nat.reduceEqDiff, ↓reduceIte, ZQ, Bool.true_eq_false, Bool.false_eq_true, Bool.not_true, Bool.not_false]
  · simp (disch := omega) only [pr.1, z12, b1, eq_false x1, decide_false, Bool.false_and, Bool.toNat_false, SR (hs), zl_eq, bsm, ZS, ZT, ZN, ZU, eq_self, true_and, and_true, and_self, or_true, true_or, or_false, false_or, not_true, not_false_eq_true, Nat.reduceAdd, Nat.reduceMul, Nat.reduceLT, Nat.reduceLeDiff, Nat.reduceEqDiff, ↓reduceIte, ZQ, Bool.true_eq_false, Bool.false_eq_true, Bool.not_true, Bool.not_false]
end FR
theorem c_forbidden (a1 a2 : Int32) : Ok2 (fX10_forbidden 0 a1 a2) (fX11_forbidden 117 a1 a2) := by
  refine Ok2.of (fun h G n c hI => ?_)
  have hs := hI.1
  rcases cSlot a1 with b | ⟨s, h6, rfl⟩
  · refine Ok2.same hI (r := -2) ?_ ?_
    · simp (disch := omega) only [fX10_forbidden, bX10_forbidden_17, fun q => (b q).1, SC (hs), zl_eq, bsm, ZS, ZT, ZN, ZU, eq_self, true_and, and_true, and_self, or_true, true_or, or_false, false_or, not_true, not_false_eq_true, Nat.reduceAdd, Nat.reduceMul, Nat.reduceLT, Nat.reduceLeDiff, Nat.reduceEqDiff, ↓reduceIte, ZQ, Bool.true_eq_false, Bool.false_eq_true, Bool.not_true, Bool.not_false]
    · simp (disch := omega) only [fX11_forbidden, bX11_forbidden_17, fun q => (b q).2, SR (hs), zl_eq, bsm, ZS, ZT, ZN, ZU, eq_self, true_and, and_true, and_self, or_true, true_or, or_false, false_or, not_true, not_false_eq_true, Nat.reduceAdd, Nat.reduceMul, Nat.reduceLT, Nat.reduceLeDiff, Nat.reduceEqDiff, ↓reduceIte, ZQ, Bool.true_eq_false, Bool.false_eq_true, Bool.not_true, Bool.not_false]
  rcases cIn a2 (lo := 1) (hi := 6) (by decide) (by decide) with b | ⟨m1, hm1, hm6, rfl⟩
  · refine Ok2.same hI (r := -2) ?_ ?_
    · simp (disch := omega) only [fX10_forbidden, bX10_forbidden_17, fun q => (b q).1, SC (hs), zl_eq, bsm, ZS, ZT, ZN, ZU, eq_self, true_and, and_true, and_self, or_true, true_or, or_false, false_or, not_true, not_false_eq_true, Nat.reduceAdd, Nat.reduceMul, Nat.reduceLT, Nat.reduceLeDiff, Nat.reduceEqDiff, ↓reduceIte, ZQ, Bool.true_eq_false, Bool.false_eq_true, Bool.not_true, Bool.not_false]
    · simp (disch := omega) only [fX11_forbidden, bX11_forbidden_17, fun q => (b q).2, SR (hs), zl_eq, bsm, ZS, ZT, ZN, ZU, eq_self, true_and, and_true, and_self, or_true, true_or, or_false, false_or, not_true, not_false_eq_true, Nat.reduceAdd, Nat.reduceMul, Nat.reduceLT, Nat.reduceLeDiff, Nat.reduceEqDiff, ↓reduceIte, ZQ, Bool.true_eq_false, Bool.false_eq_true, Bool.not_true, Bool.not_false]
  obtain ⟨m, rfl⟩ : ∃ m, m1 = m + 1 := ⟨m1 - 1, by omega⟩
  obtain ⟨h1, e1, p1, au, -⟩ := load_ok hI h6
  have g1 := hI.fr (fq.of p1 (by decide) (by decide))
  have ec := countForbidden_ok g1.1 au (m := m) (by omega)
  refine ⟨nI (cf (G s) (m + 1) (ess (G s)) none), (nI (cf (G s) (m + 1) (ess (G s)) none), h1), ?_, rfl, ?_⟩
  · unfold fX10_forbidden
    simp (disch := omega) only [e1, SC (hs), zl_eq, bsm, ZS, ZT, ZN, ZU, eq_self, true_and, and_true, and_self, or_true, true_or, or_false, false_or, not_true, not_false_eq_true, Nat.reduceAdd, Nat.reduceMul, Nat.reduceLT, Nat.reduceLeDiff, Nat.reduceEqDiff, ↓reduceIte, ZQ, Bool.true_eq_false, Bool.false_eq_true, Bool.not_true, Bool.not_false]
    simp (disch := omega) only [ec, SC (g1.1), zl_eq, bsm, ZS, ZT, ZN, ZU, eq_self, true_and, and_true, and_self, or_true, true_or, or_false, false_or, not_true, not_false_eq_true, Nat.reduceAdd, Nat.reduceMul, Nat.reduceLT, Nat.reduceLeDiff, Nat.reduceEqDiff, ↓reduceIte, ZQ, Bool.true_eq_false, Bool.false_eq_true, Bool.not_true, Bool.not_false]
  · dsimp only
    obtain ⟨h2, e2, p2, k2, pr⟩ := prepare_ok g1.1 g1.2.1.rr h6
    have g2 := g1.fr (fq.of2 p2 (by decide) (fun k hk => k2 k (by omega)))
    have hp4 := p47 (n := m + 1) (by omega)
    rw [← cnt_PPn]
    unfold fX11_forbidden
    simp (disch := omega) only [e2, SR (g1.1), zl_eq, bsm, ZS, ZT, ZN, ZU, eq_self, true_and, and_true, and_self, or_true, true_or, or_false, false_or, not_true, not_false_eq_true, Nat.reduceAdd, Nat.reduceMul, Nat.reduceLT, Nat.reduceLeDiff, Nat.reduceEqDiff, ↓reduceIte, ZQ, Bool.true_eq_false, Bool.false_eq_true, Bool.not_true, Bool.not_false]
    refine wloop (fun k y => y.1 = nI (cnt (PP (G s) (m + 1) (ess (G s)) none) k) ∧ y.2.1 = nI k ∧ zfr [117, 125] h2 y.2.2 ∧ ∀ i, i ≠ 12 → zI y.2.2 117 i = zI h2 117 i) (4 ^ (m + 1)) (fun k y self hk hy ih => ?_) (show 4 ^ (m + 1) < 100000 by omega) ⟨rfl, rfl, zfr.refl h2, fun i _ => rfl⟩
    obtain ⟨z, y, h3⟩ := y
    obtain ⟨rfl, rfl, p3, k3⟩ := hy
    dsimp only at p3 k3
    have g3 := g2.fr (fq.of2 p3 (by decide) (fun k hk => k3 k (by omega)))
    have pr3 := pr.fr p3 (by decide) (k3 14 (by decide))
    have ej : jshl (nI 1) (nI (2 * (m + 1))) = nI (4 ^ (m + 1)) := by rw [nb_1shl (by omega), pow24]
    show wp (kX11_forbidden_30 117 (nI (m + 1)) self (nI (cnt (PP (G s) (m + 1) (ess (G s)) none) k)) (nI k) h3) _
    unfold kX11_forbidden_30 bX11_forbidden_60
    by_cases hlt : k < 4 ^ (m + 1)
    · obtain ⟨h4, e4, p4, k4, z4, v4⟩ := spellW_ok g3.1 (n := m + 1) (by omega) hlt
      have hs4 := p4.shp g3.1
      have ef := isForbidden_ok hs4 (pr3.fr p4 (by decide) (k4 14 (by decide))) (by omega) hlt z4 v4
      rw [pk_mul, ej, if_neg (nI_ge hlt (by omega)), e4, bsm, ef, bsm]
      have fin : ∀ v, v = cnt (PP (G s) (m + 1) (ess (G s)) none) (k + 1) → wp (self (nI v, nI (k + 1), h4)) (fun y => y.1 = nI (cnt (PP (G s) (m + 1) (ess (G s)) none) (4 ^ (m + 1))) ∧ INV y.2) := by
        intro v hv
        refine ih _ hlt ⟨by rw [hv], rfl, p3.same p4, fun i hi => by rw [k4 i hi, k3 i hi]⟩
      cases hp : PP (G s) (m + 1) (ess (G s)) none k
      · rw [if_pos (show (nI false.toNat, h4).1 = 0 from eq00), zl_eq, nI_add, nI_add]
        exact fin _ (by rw [cnt, hp]; simp)
      · rw [if_neg (show ¬ (nI true.toNat, h4).1 = 0 from ne10), zl_eq, nI_add, nI_add]
        exact fin _ (by rw [cnt, hp]; simp)
    · have : k = 4 ^ (m + 1) := by omega
      subst this
      rw [pk_mul, ej, if_pos (nI_le (Nat.le_refl _) (by omega))]
      exact wp_some ⟨rfl, G, n, c, g3⟩
