/-! CALLS: relabel, random -/
theorem and255 {a : Nat} (h : a < 256) : a &&& 255 = a := and_sb (sb255 h)
def rlN (M : Nat → Nat) (a b : Nat) : Nat → Nat → Nat
  | 0 => fun _ => 0
  | k + 1 => upM (rlN M a b k) (k - k % 4 + (if k % 4 = a then b else k % 4)) (rlN M a b k (k - k % 4 + (if k % 4 = a then b else k % 4)) ||| M k)
theorem rl_r {h1 : ZH} {G : Nat → Nat → Nat} {n s t a b : Nat} {c : Nat → Nat} (h6 : s < 6) (ht : t < 6) (ha : a < 4) (hb4 : b < 4) {N : Nat → Nat} (hN : rlN (G s) a b 32 = N) (m1 : midI G N t n c h1) : wp (fX11_relabel 117 (nI s) (nI a) (nI b) (nI t) h1) (fun y => y.1 = nE N ∧ INV y.2) := by
  obtain ⟨h0, e0, p0, q0⟩ := clearG m1.1
  unfold fX11_relabel
  simp (disch := omega) only [e0, SR (m1.1), zl_eq, bsm, ZS, ZT, ZN, ZU, eq_self, true_and, and_true, and_self, or_true, true_or, or_false, false_or, not_true, not_false_eq_true, Nat.reduceAdd, Nat.reduceMul, Nat.reduceLT, Nat.reduceLeDiff, Nat.reduceEqDiff, ↓reduceIte, ZQ, Bool.true_eq_false, Bool.false_eq_true, Bool.not_true, Bool.not_false]
  refine wloop (fun k y => y.1 = nI k ∧ zfr [119] h1 y.2 ∧ vI y.2 119 32 (rlN (G s) a b k)) 32 (fun k y self hk hy ih => ?_) (show 32 < 100000 by omega) ⟨rfl, p0, by rw [rlN]; exact q0⟩
  obtain ⟨y, h2⟩ := y
  obtain ⟨rfl, p2, q2⟩ := hy
  dsimp only at p2 q2
  have m2 := m1.fr (fq118 p2)
  show wp (kX11_relabel_39 117 (nI s) (nI a) (nI b) (nI t) self (nI k) h2) _
  unfold kX11_relabel_39 bX11_relabel_62
  by_cases hlt : k < 32
  · have hr : zI h2 118 (32 * s + k) = nI (G s k) := (m2.2.1 s h6 k hlt).2.1
    by_cases e : k % 4 = a
    · have q3 := q2 (k - k % 4 + b) (by omega)
      simp (disch := omega) only [Nat.not_le.mpr hlt, eq_true e, hr, q3, SR (m2.1), zl_eq, bsm, ZS, ZT, ZN, ZU, eq_self, true_and, and_true, and_self, or_true, true_or, or_false, false_or, not_true, not_false_eq_true, Nat.reduceAdd, Nat.reduceMul, Nat.reduceLT, Nat.reduceLeDiff, Nat.reduceEqDiff, ↓reduceIte, ZQ, Bool.true_eq_false, Bool.false_eq_true, Bool.not_true, Bool.not_false]
      exact ih _ hlt ⟨rfl, p2.same zfr_uI, by rw [rlN, if_pos e]; exact made_set q2⟩
    · have q3 := q2 (k - k % 4 + k % 4) (by omega)
      simp (disch := omega) only [Nat.not_le.mpr hlt, eq_false e, hr, q3, SR (m2.1), zl_eq, bsm, ZS, ZT, ZN, ZU, eq_self, true_and, and_true, and_self, or_true, true_or, or_false, false_or, not_true, not_false_eq_true, Nat.reduceAdd, Nat.reduceMul, Nat.reduceLT, Nat.reduceLeDiff, Nat.reduceEqDiff, ↓reduceIte, ZQ, Bool.true_eq_false, Bool.false_eq_true, Bool.not_true, Bool.not_false]
      exact ih _ hlt ⟨rfl, p2.same zfr_uI, by rw [rlN, if_neg e]; exact made_set q2⟩
  · have : k = 32 := by omega
    subst this
    rw [hN] at q2
    simp (disch := omega) only [Nat.le_refl, show 32 ≤ 32 by decide, SR (m2.1), zl_eq, bsm, ZS, ZT, ZN, ZU, eq_self, true_and, and_true, and_self, or_true, true_or, or_false, false_or, not_true, not_false_eq_true, Nat.reduceAdd, Nat.reduceMul, Nat.reduceLT, Nat.reduceLeDiff, Nat.reduceEqDiff, ↓reduceIte, ZQ, Bool.true_eq_false, Bool.false_eq_true, Bool.not_true, Bool.not_false]
    exact fin_r ht m2 q2
theorem c_relabel (a1 a2 a3 a4 : Int32) : Ok2 (fX10_relabel 0 a1 a2 a3 a4) (fX11_relabel 117 a1 a2 a3 a4) := by
  refine Ok2.of (fun h G n c hI => ?_)
  have hs := hI.1
  have hG := hI.2.1
  rcases cSlot a1 with b | ⟨s, h6, rfl⟩
  · refine Ok2.same hI (r := -2) ?_ ?_
    · simp (disch := omega) only [fX10_relabel, bX10_relabel_29, fun q => (b q).1, SC (hs), zl_eq, bsm, ZS, ZT, ZN, ZU, eq_self, true_and, and_true, and_self, or_true, true_or, or_false, false_or, not_true, not_false_eq_true, Nat.reduceAdd, Nat.reduceMul, Nat.reduceLT, Nat.reduceLeDiff, Nat.reduceEqDiff, ↓reduceIte, ZQ, Bool.true_eq_false, Bool.false_eq_true, Bool.not_true, Bool.not_false]
    · simp (disch := omega) only [fX11_relabel, bX11_relabel_29, fun q => (b q).2, SR (hs), zl_eq, bsm, ZS, ZT, ZN, ZU, eq_self, true_and, and_true, and_self, or_true, true_or, or_false, false_or, not_true, not_false_eq_true, Nat.reduceAdd, Nat.reduceMul, Nat.reduceLT, Nat.reduceLeDiff, Nat.reduceEqDiff, ↓reduceIte, ZQ, Bool.true_eq_false, Bool.false_eq_true, Bool.not_true, Bool.not_false]
  rcases cLetter a2 with b | ⟨a, ha, rfl⟩
  · refine Ok2.same hI (r := -2) ?_ ?_
    · simp (disch := omega) only [fX10_relabel, bX10_relabel_29, fun q => (b q).1, SC (hs), zl_eq, bsm, ZS, ZT, ZN, ZU, eq_self, true_and, and_true, and_self, or_true, true_or, or_false, false_or, not_true, not_false_eq_true, Nat.reduceAdd, Nat.reduceMul, Nat.reduceLT, Nat.reduceLeDiff, Nat.reduceEqDiff, ↓reduceIte, ZQ, Bool.true_eq_false, Bool.false_eq_true, Bool.not_true, Bool.not_false]
    · simp (disch := omega) only [fX11_relabel, bX11_relabel_29, fun q => (b q).2, SR (hs), zl_eq, bsm, ZS, ZT, ZN, ZU, eq_self, true_and, and_true, and_self, or_true, true_or, or_false, false_or, not_true, not_false_eq_true, Nat.reduceAdd, Nat.reduceMul, Nat.reduceLT, Nat.reduceLeDiff, Nat.reduceEqDiff, ↓reduceIte, ZQ, Bool.true_eq_false, Bool.false_eq_true, Bool.not_true, Bool.not_false]
  rcases cLetter a3 with b | ⟨b, hb, rfl⟩
  · refine Ok2.same hI (r := -2) ?_ ?_
    · simp (disch := omega) only [fX10_relabel, bX10_relabel_29, fun q => (b q).1, SC (hs), zl_eq, bsm, ZS, ZT, ZN, ZU, eq_self, true_and, and_true, and_self, or_true, true_or, or_false, false_or, not_true, not_false_eq_true, Nat.reduceAdd, Nat.reduceMul, Nat.reduceLT, Nat.reduceLeDiff, Nat.reduceEqDiff, ↓reduceIte, ZQ, Bool.true_eq_false, Bool.false_eq_true, Bool.not_true, Bool.not_false]
    · simp (disch := omega) only [fX11_relabel, bX11_relabel_29, fun q => (b q).2, SR (hs), zl_eq, bsm, ZS, ZT, ZN, ZU, eq_self, true_and, and_true, and_self, or_true, true_or, or_false, false_or, not_true, not_false_eq_true, Nat.reduceAdd, Nat.reduceMul, Nat.reduceLT, Nat.reduceLeDiff, Nat.reduceEqDiff, ↓reduceIte, ZQ, Bool.true_eq_false, Bool.false_eq_true, Bool.not_true, Bool.not_false]
  rcases cSlot a4 with b | ⟨t, ht, rfl⟩
  · refine Ok2.same hI (r := -2) ?_ ?_
    · simp (disch := omega) only [fX10_relabel, bX10_relabel_29, fun q => (b q).1, SC (hs), zl_eq, bsm, ZS, ZT, ZN, ZU, eq_self, true_and, and_true, and_self, or_true, true_or, or_false, false_or, not_true, not_false_eq_true, Nat.reduceAdd, Nat.reduceMul, Nat.reduceLT, Nat.reduceLeDiff, Nat.reduceEqDiff, ↓reduceIte, ZQ, Bool.true_eq_false, Bool.false_eq_true, Bool.not_true, Bool.not_false]
    · simp (disch := omega) only [fX11_relabel, bX11_relabel_29, fun q => (b q).2, SR (hs), zl_eq, bsm, ZS, ZT, ZN, ZU, eq_self, true_and, and_true, and_self, or_true, true_or, or_false, false_or, not_true, not_false_eq_true, Nat.reduceAdd, Nat.reduceMul, Nat.reduceLT, Nat.reduceLeDiff, Nat.reduceEqDiff, ↓reduceIte, ZQ, Bool.true_eq_false, Bool.false_eq_true, Bool.not_true, Bool.not_false]
  obtain ⟨N, hN⟩ : ∃ N, rlN (G s) a b 32 = N := ⟨_, rfl⟩
  refine ⟨nE N, wp_mono (P := fun x => x.1 = nE N ∧ midI G N t n c x.2) ?_ (fun x hx => ⟨hx.1, rl_r h6 ht ha hb hN hx.2⟩)⟩
  obtain ⟨h0, e0, p0, q0⟩ := clear_ok (g31 hs)
  unfold fX10_relabel
  simp (disch := omega) only [e0, SC (hs), zl_eq, bsm, ZS, ZT, ZN, ZU, eq_self, true_and, and_true, and_self, or_true, true_or, or_false, false_or, not_true, not_false_eq_true, Nat.reduceAdd, Nat.reduceMul, Nat.reduceLT, Nat.reduceLeDiff, Nat.reduceEqDiff, ↓reduceIte, ZQ, Bool.true_eq_false, Bool.false_eq_true, Bool.not_true, Bool.not_false]
  refine wloop (fun v y => y.1 = nI v ∧ zfr [32] h y.2 ∧ hasM y.2 32 (rlN (G s) a b (4 * v))) 8 (fun v y self hv hy ih => ?_) (by decide) ⟨rfl, p0, by rw [Nat.mul_zero, rlN]; exact q0⟩
  obtain ⟨y, h1⟩ := y
  obtain ⟨rfl, p1, q1⟩ := hy
  dsimp only at p1 q1
  show wp (kX10_relabel_42 0 (nI s) (nI a) (nI b) (nI t) self (nI v) h1) _
  have g1 := hI.fr (fq32 p1)
  unfold kX10_relabel_42
  by_cases hlt : v < 8
  · simp (disch := omega) only [Nat.not_le.mpr hlt, SC (g1.1), zl_eq, bsm, ZS, ZT, ZN, ZU, eq_self, true_and, and_true, and_self, or_true, true_or, or_false, false_or, not_true, not_false_eq_true, Nat.reduceAdd, Nat.reduceMul, Nat.reduceLT, Nat.reduceLeDiff, Nat.reduceEqDiff, ↓reduceIte, ZQ, Bool.true_eq_false, Bool.false_eq_true, Bool.not_true, Bool.not_false]
    refine wloop (fun l y => y.1 = nI l ∧ zfr [32] h y.2 ∧ hasM y.2 32 (rlN (G s) a b (4 * v + l))) 4 (fun l y self2 hl hy ih2 => ?_) (by decide) ⟨rfl, p1, by rw [Nat.add_zero]; exact q1⟩
    obtain ⟨y, h2⟩ := y
    obtain ⟨rfl, p2, q2⟩ := hy
    dsimp only at p2 q2
    show wp (kX10_relabel_52 self 0 (nI s) (nI a) (nI b) (nI t) (nI v) self2 (nI l) h2) _
    have g2 := hI.fr (fq32 p2)
    unfold kX10_relabel_52 bX10_relabel_76
    by_cases hlt2 : l < 4
    · have hrow := row_ok (gS g2.1 h6) (g2.2.1.m h6) hlt hlt2
      have hgb := (hG s h6 (4 * v + l) (by omega)).2.2
      have e1 : 4 * v + l - (4 * v + l) % 4 = 4 * v := by omega
      have e2 : (4 * v + l) % 4 = l := by omega
      have er : rlN (G s) a b (4 * v + l + 1) = upM (rlN (G s) a b (4 * v + l)) (4 * v + (if l = a then b else l)) (rlN (G s) a b (4 * v + l) (4 * v + (if l = a then b else l)) ||| G s (4 * v + l)) := by
        rw [rlN, e1, e2]
      by_cases e : l = a
      · obtain ⟨h3, e3, p3, q3⟩ := link_ok (T := G s (4 * v + l)) (g31 g2.1) q2 hlt hb
        rw [and255 hgb] at q3
        rw [if_pos e] at er
        simp (disch := omega) only [Nat.not_le.mpr hlt2, eq_true e, hrow, e3, SC (g2.1), zl_eq, bsm, ZS, ZT, ZN, ZU, eq_self, true_and, and_true, and_self, or_true, true_or, or_false, false_or, not_true, not_false_eq_true, Nat.reduceAdd, Nat.reduceMul, Nat.reduceLT, Nat.reduceLeDiff, Nat.reduceEqDiff, ↓reduceIte, ZQ, Bool.true_eq_false, Bool.false_eq_true, Bool.not_true, Bool.not_false]
        exact ih2 _ hlt2 ⟨rfl, p2.same p3, by dsimp only; rw [← Nat.add_assoc, er]; exact q3⟩
      · obtain ⟨h3, e3, p3, q3⟩ := link_ok (T := G s (4 * v + l)) (g31 g2.1) q2 hlt hlt2
        rw [and255 hgb] at q3
        rw [if_neg e] at er
        simp (disch := omega) only [Nat.not_le.mpr hlt2, eq_false e, hrow, e3, SC (g2.1), zl_eq, bsm, ZS, ZT, ZN, ZU, eq_self, true_and, and_true, and_self, or_true, true_or, or_false, false_or, not_true, not_false_eq_true, Nat.reduceAdd, Nat.reduceMul, Nat.reduceLT, Nat.reduceLeDiff, Nat.reduceEqDiff, ↓reduceIte, ZQ, Bool.true_eq_false, Bool.false_eq_true, Bool.not_true, Bool.not_false]
        exact ih2 _ hlt2 ⟨rfl, p2.same p3, by dsimp only; rw [← Nat.add_assoc, er]; exact q3⟩
    · have : l = 4 := by omega
      subst this
      simp (disch := omega) only [Nat.le_refl, SC (g2.1), zl_eq, bsm, ZS, ZT, ZN, ZU, eq_self, true_and, and_true, and_self, or_true, true_or, or_false, false_or, not_true, not_false_eq_true, Nat.reduceAdd, Nat.reduceMul, Nat.reduceLT, Nat.reduceLeDiff, Nat.reduceEqDiff, ↓reduceIte, ZQ, Bool.true_eq_false, Bool.false_eq_true, Bool.not_true, Bool.not_false]
      exact ih _ hlt ⟨rfl, p2, by dsimp only; rw [show 4 * (v + 1) = 4 * v + 4 by omega]; exact q2⟩
  · have : v = 8 := by omega
    subst this
    simp (disch := omega) only [Nat.le_refl, SC (g1.1), zl_eq, bsm, ZS, ZT, ZN, ZU, eq_self, true_and, and_true, and_self, or_true, true_or, or_false, false_or, not_true, not_false_eq_true, Nat.reduceAdd, Nat.reduceMul, Nat.reduceLT, Nat.reduceLeDiff, Nat.reduceEqDiff, ↓reduceIte, ZQ, Bool.true_eq_false, Bool.false_eq_true, Bool.not_true, Bool.not_false]
    rw [show 4 * 8 = 32 from rfl, hN] at q1
    exact fin_c g1 ht q1
/-! random -/
def dr (z : Int32) : Int32 := z * (1103515245 : Int32) + nI 12345
def rv (z : Int32) (m : Nat) : Nat := z.toBitVec.toNat / 65536 % m
theorem rv_ok {z : Int32} {m : Nat} (h0 : 0 < m) (hm : m < 256) : jrem (jushr z (nI 16)) (nI m) = nI (rv z m) := by
  have e : jushr z (nI 16) = nI (z.toBitVec.toNat / 65536) := by
    apply Int32.toBitVec_inj.mp
    apply BitVec.eq_of_toNat_eq
    have hz := z.toBitVec.isLt
    rw [pk_tn (by omega)]
    exact pk_ushr z (nI 16) 16 (by decide)
  have hz := z.toBitVec.isLt
  rw [e, jrem_ok (by omega) h0 (by omega)]
  rfl
theorem rv_lt {z : Int32} {m : Nat} (h0 : 0 < m) : rv z m < m := Nat.mod_lt _ h0
def dz (z : Int32) : Nat → Int32
  | 0 => z
  | k + 1 => dr (dr (dr (dz z k)))
def rnN (z : Int32) : Nat → Nat → Nat
  | 0 => fun _ => 0
  | k + 1 => upM (rnN z k) (4 * rv (dr (dz z k)) 8 + rv (dr (dr (dz z k))) 4) (rnN z k (4 * rv (dr (dz z k)) 8 + rv (dr (dr (dz z k))) 4) ||| 2 ^ rv (dr (dr (dr (dz z k)))) 8)
theorem rn_r {h1 : ZH} {G : Nat → Nat → Nat} {n t k0 : Nat} {c : Nat → Nat} {z : Int32} (ht : t < 6) (hk0 : k0 ≤ 24) {N : Nat → Nat} (hN : rnN z k0 = N) (m1 : midI G N t n c h1) : wp (fX11_random 117 (nI t) z (nI k0) h1) (fun y => y.1 = nE N ∧ INV y.2) := by
  obtain ⟨h0, e0, p0, q0⟩ := clearG m1.1
  unfold fX11_random
  simp (disch := omega) only [e0, SR (m1.1), zl_eq, bsm, ZS, ZT, ZN, ZU, eq_self, true_and, and_true, and_self, or_true, true_or, or_false, false_or, not_true, not_false_eq_true, Nat.reduceAdd, Nat.reduceMul, Nat.reduceLT, Nat.reduceLeDiff, Nat.reduceEqDiff, ↓reduceIte, ZQ, Bool.true_eq_false, Bool.false_eq_true, Bool.not_true, Bool.not_false]
  refine wloop (fun k y => y.1 = dz z k ∧ y.2.1 = nI k ∧ zfr [119] h1 y.2.2 ∧ vI y.2.2 119 32 (rnN z k)) k0 (fun k y self hk hy ih => ?_) (show k0 < 100000 by omega) ⟨rfl, rfl, p0, by rw [rnN]; exact q0⟩
  obtain ⟨y1, y, h2⟩ := y
  obtain ⟨rfl, rfl, p2, q2⟩ := hy
  dsimp only at p2 q2
  have m2 := m1.fr (fq118 p2)
  show wp (kX11_random_30 117 (nI t) (nI k0) self (dz z k) (nI k) h2) _
  unfold kX11_random_30
  have d1 : dz z k * (1103515245 : Int32) + nI 12345 = dr (dz z k) := rfl
  have d2 : dr (dz z k) * (1103515245 : Int32) + nI 12345 = dr (dr (dz z k)) := rfl
  have d3 : dr (dr (dz z k)) * (1103515245 : Int32) + nI 12345 = dr (dr (dr (dz z k))) := rfl
  have r1 := rv_lt (z := dr (dz z k)) (m := 8) (by decide)
  have r2 := rv_lt (z := dr (dr (dz z k))) (m := 4) (by decide)
  have r3 := rv_lt (z := dr (dr (dr (dz z k)))) (m := 8) (by decide)
  by_cases hlt : k < k0
  · have q3 := q2 (4 * rv (dr (dz z k)) 8 + rv (dr (dr (dz z k))) 4) (by omega)
    simp (disch := omega) only [Nat.not_le.mpr hlt, d1, d2, d3, rv_ok (m := 8) (by decide) (by decide), rv_ok (m := 4) (by decide) (by decide), q3, SR (m2.1), zl_eq, bsm, ZS, ZT, ZN, ZU, eq_self, true_and, and_true, and_self, or_true, true_or, or_false, false_or, not_true, not_false_eq_true, Nat.reduceAdd, Nat.reduceMul, Nat.reduceLT, Nat.reduceLeDiff, Nat.reduceEqDiff, ↓reduceIte, ZQ, Bool.true_eq_false, Bool.false_eq_true, Bool.not_true, Bool.not_false]
    exact ih _ hlt ⟨rfl, rfl, p2.same zfr_uI, by rw [rnN]; exact made_set q2⟩
  · have : k = k0 := by omega
    subst this
    rw [hN] at q2
    simp (disch := omega) only [Nat.le_refl, SR (m2.1), zl_eq, bsm, ZS, ZT, ZN, ZU, eq_self, true_and, and_true, and_self, or_true, true_or, or_false, false_or, not_true, not_false_eq_true, Nat.reduceAdd, Nat.reduceMul, Nat.reduceLT, Nat.reduceLeDiff, Nat.reduceEqDiff, ↓reduceIte, ZQ, Bool.true_eq_false, Bool.false_eq_true, Bool.not_true, Bool.not_false]
    exact fin_r ht m2 q2
theorem c_random (a1 a2 a3 : Int32) : Ok2 (fX10_random 0 a1 a2 a3) (fX11_random 117 a1 a2 a3) := by
  refine Ok2.of (fun h G n c hI => ?_)
  have hs := hI.1
  rcases cSlot a1 with b | ⟨t, ht, rfl⟩
  · refine Ok2.same hI (r := -2) ?_ ?_
    · simp (disch := omega) only [fX10_random, bX10_random_17, fun q => (b q).1, SC (hs), zl_eq, bsm, ZS, ZT, ZN, ZU, eq_self, true_and, and_true, and_self, or_true, true_or, or_false, false_or, not_true, not_false_eq_true, Nat.reduceAdd, Nat.reduceMul, Nat.reduceLT, Nat.reduceLeDiff, Nat.reduceEqDiff, ↓reduceIte, ZQ, Bool.true_eq_false, Bool.false_eq_true, Bool.not_true, Bool.not_false]
    · simp (disch := omega) only [fX11_random, bX11_random_17, fun q => (b q).2, SR (hs), zl_eq, bsm, ZS, ZT, ZN, ZU, eq_self, true_and, and_true, and_self, or_true, true_or, or_false, false_or, not_true, not_false_eq_true, Nat.reduceAdd, Nat.reduceMul, Nat.reduceLT, Nat.reduceLeDiff, Nat.reduceEqDiff, ↓reduceIte, ZQ, Bool.true_eq_false, Bool.false_eq_true, Bool.not_true, Bool.not_false]
  rcases cIn a3 (lo := 0) (hi := 24) (by decide) (by decide) with b | ⟨k0, -, hk0, rfl⟩
  · refine Ok2.same hI (r := -2) ?_ ?_
    · simp (disch := omega) only [fX10_random, bX10_random_17, fun q => (b q).1, SC (hs), zl_eq, bsm, ZS, ZT, ZN, ZU, eq_self, true_and, and_true, and_self, or_true, true_or, or_false, false_or, not_true, not_false_eq_true, Nat.reduceAdd, Nat.reduceMul, Nat.reduceLT, Nat.reduceLeDiff, Nat.reduceEqDiff, ↓reduceIte, ZQ, Bool.true_eq_false, Bool.false_eq_true, Bool.not_true, Bool.not_false]
    · simp (disch := omega) only [fX11_random, bX11_random_17, fun q => (b q).2, SR (hs), zl_eq, bsm, ZS, ZT, ZN, ZU, eq_self, true_and, and_true, and_self, or_true, true_or, or_false, false_or, not_true, not_false_eq_true, Nat.reduceAdd, Nat.reduceMul, Nat.reduceLT, Nat.reduceLeDiff, Nat.reduceEqDiff, ↓reduceIte, ZQ, Bool.true_eq_false, Bool.false_eq_true, Bool.not_true, Bool.not_false]
  obtain ⟨N, hN⟩ : ∃ N, rnN a2 k0 = N := ⟨_, rfl⟩
  refine ⟨nE N, wp_mono (P := fun x => x.1 = nE N ∧ midI G N t n c x.2) ?_ (fun x hx => ⟨hx.1, rn_r ht hk0 hN hx.2⟩)⟩
  obtain ⟨h0, e0, p0, q0⟩ := clear_ok (g31 hs)
  unfold fX10_random
  simp (disch := omega) only [e0, SC (hs), zl_eq, bsm, ZS, ZT, ZN, ZU, eq_self, true_and, and_true, and_self, or_true, true_or, or_false, false_or, not_true, not_false_eq_true, Nat.reduceAdd, Nat.reduceMul, Nat.reduceLT, Nat.reduceLeDiff, Nat.reduceEqDiff, ↓reduceIte, ZQ, Bool.true_eq_false, Bool.false_eq_true, Bool.not_true, Bool.not_false]
  refine wloop (fun k y => y.1 = dz a2 k ∧ y.2.1 = nI k ∧ zfr [32] h y.2.2 ∧ hasM y.2.2 32 (rnN a2 k)) k0 (fun k y self hk hy ih => ?_) (show k0 < 100000 by omega) ⟨rfl, rfl, p0, by rw [rnN]; exact q0⟩
  obtain ⟨y1, y, h2⟩ := y
  obtain ⟨rfl, rfl, p2, q2⟩ := hy
  dsimp only at p2 q2
  have g2 := hI.fr (fq32 p2)
  show wp (kX10_random_33 0 (nI t) (nI k0) self (dz a2 k) (nI k) h2) _
  unfold kX10_random_33
  have d1 : dz a2 k * (1103515245 : Int32) + nI 12345 = dr (dz a2 k) := rfl
  have d2 : dr (dz a2 k) * (1103515245 : Int32) + nI 12345 = dr (dr (dz a2 k)) := rfl
  have d3 : dr (dr (dz a2 k)) * (1103515245 : Int32) + nI 12345 = dr (dr (dr (dz a2 k))) := rfl
  by_cases hlt : k < k0
  · obtain ⟨h3, e3, p3, q3⟩ := put_ok (g31 g2.1) q2 (rv_lt (z := dr (dz a2 k)) (m := 8) (by decide)) (rv_lt (z := dr (dr (dz a2 k))) (m := 4) (by decide)) (rv_lt (z := dr (dr (dr (dz a2 k)))) (m := 8) (by decide))
    simp (disch := omega) only [Nat.not_le.mpr hlt, fX10_nextDraw, d1, d2, d3, rv_ok (m := 8) (by decide) (by decide), rv_ok (m := 4) (by decide) (by decide), e3, SC (g2.1), zl_eq, bsm, ZS, ZT, ZN, ZU, eq_self, true_and, and_true, and_self, or_true, true_or, or_false, false_or, not_true, not_false_eq_true, Nat.reduceAdd, Nat.reduceMul, Nat.reduceLT, Nat.reduceLeDiff, Nat.reduceEqDiff, ↓reduceIte, ZQ, Bool.true_eq_false, Bool.false_eq_true, Bool.not_true, Bool.not_false]
    exact ih _ hlt ⟨rfl, rfl, p2.same p3, by rw [rnN]; exact q3⟩
  · have : k = k0 := by omega
    subst this
    rw [hN] at q2
    simp (disch := omega) only [Nat.le_refl, SC (g2.1), zl_eq, bsm, ZS, ZT, ZN, ZU, eq_self, true_and, and_true, and_self, or_true, true_or, or_false, false_or, not_true, not_false_eq_true, Nat.reduceAdd, Nat.reduceMul, Nat.reduceLT, Nat.reduceLeDiff, Nat.reduceEqDiff, ↓reduceIte, ZQ, Bool.true_eq_false, Bool.false_eq_true, Bool.not_true, Bool.not_false]
    exact fin_c g2 ht q2
