/-! WIDE GRAPHS: stored, by the reference -/
def WNq (W : Nat → Nat) (C : Nat) (N : Nat → Nat) (e : Nat) : Prop := ∀ k l, k < 8 → l < 4 → N (4 * k + l) < 256 ∧ ∀ i, ((N (4 * k + l)).testBit i = true ↔ ∃ v x, v < 64 ∧ x < 64 ∧ C.testBit v = true ∧ C.testBit x = true ∧ und C v = k ∧ und C x = i ∧ (W (4 * v + l)).testBit x = true ∧ 32 * k + 8 * l + i < e)
section W7
variable {W : Nat → Nat} {C : Nat} {N : Nat → Nat}
theorem WNq_0 : WNq W C (fun _ => 0) 0 := by
  intro k l hk hl
  refine ⟨Nat.zero_lt_succ _, fun i => ?_⟩
  rw [Nat.zero_testBit]
  constructor
  · intro h; cases h
  · rintro ⟨v, x, _, _, _, _, _, _, _, h⟩; omega
/-- no number between: more than the numbers there are -/
theorem WNq_row {k l : Nat} (hc : und C 64 ≤ 8) (g : WNq W C N (32 * k + 8 * l + und C 64)) : WNq W C N (32 * k + 8 * (l + 1)) := by
  intro k' l' hk' hl'
  obtain ⟨g1, g2⟩ := g k' l' hk' hl'
  refine ⟨g1, fun i => ?_⟩
  rw [g2 i]
  constructor
  · rintro ⟨v, x, h1, h2, h3, h4, h5, h6, h7, h8⟩
    exact ⟨v, x, h1, h2, h3, h4, h5, h6, h7, by omega⟩
  · rintro ⟨v, x, h1, h2, h3, h4, h5, h6, h7, h8⟩
    have := und_lt h2 h4
    exact ⟨v, x, h1, h2, h3, h4, h5, h6, h7, by omega⟩
theorem WNq_end (hc : und C 64 ≤ 8) (g : WNq W C N (32 * und C 64)) : WNp W C N 16384 := by
  intro k' l' hk' hl'
  obtain ⟨g1, g2⟩ := g k' l' hk' hl'
  refine ⟨g1, fun i => ?_⟩
  rw [g2 i]
  constructor
  · rintro ⟨v, x, h1, h2, h3, h4, h5, h6, h7, h8⟩
    exact ⟨v, x, h1, h2, h3, h4, h5, h6, h7, by omega⟩
  · rintro ⟨v, x, h1, h2, h3, h4, h5, h6, h7, h8⟩
    have := und_lt h2 h4
    have := und_lt h1 h3
    exact ⟨v, x, h1, h2, h3, h4, h5, h6, h7, by omega⟩
theorem WNq_step {v l x : Nat} (hc : und C 64 ≤ 8) (hv : v < 64) (hl : l < 4) (hx : x < 64) (cv : C.testBit v = true) (cx : C.testBit x = true) (g : WNq W C N (32 * und C v + 8 * l + und C x)) : WNq W C (upM N (4 * und C v + l) (N (4 * und C v + l) ||| (if (W (4 * v + l)).testBit x = true then 2 ^ und C x else 0))) (32 * und C v + 8 * l + (und C x + 1)) := by
  have hk := und_lt hv cv
  have hj := und_lt hx cx
  intro k l' hk8 hl'
  obtain ⟨g1, g2⟩ := g k l' hk8 hl'
  unfold upM
  by_cases e : 4 * k + l' = 4 * und C v + l
  · have ek : k = und C v := by omega
    have el : l' = l := by omega
    subst el
    rw [if_pos e, ← e]
    refine ⟨Nat.or_lt_two_pow (n := 8) g1 (by split; exact Nat.pow_lt_pow_right (by decide) (by omega); decide), fun i => ?_⟩
    rw [or_bit, g2 i]
    constructor
    · rintro (⟨v', x', h1, h2, h3, h4, h5, h6, h7, h8⟩ | h)
      · exact ⟨v', x', h1, h2, h3, h4, h5, h6, h7, by omega⟩
      · by_cases wb : (W (4 * v + l')).testBit x = true
        · rw [if_pos wb, pow_bit] at h
          exact ⟨v, x, hv, hx, cv, cx, ek.symm, h, wb, by omega⟩
        · rw [if_neg wb, Nat.zero_testBit] at h
          cases h
    · rintro ⟨v', x', h1, h2, h3, h4, h5, h6, h7, h8⟩
      by_cases hlt : 32 * k + 8 * l' + i < 32 * und C v + 8 * l' + und C x
      · exact Or.inl ⟨v', x', h1, h2, h3, h4, h5, h6, h7, hlt⟩
      · right
        have ev : v' = v := und_inj h3 cv (by omega)
        have ex : x' = x := und_inj h4 cx (by omega)
        subst ev
        subst ex
        rw [if_pos h7, pow_bit]
        exact h6
  · rw [if_neg e]
    refine ⟨g1, fun i => ?_⟩
    rw [g2 i]
    constructor
    · rintro ⟨v', x', h1, h2, h3, h4, h5, h6, h7, h8⟩
      exact ⟨v', x', h1, h2, h3, h4, h5, h6, h7, by omega⟩
    · rintro ⟨v', x', h1, h2, h3, h4, h5, h6, h7, h8⟩
      have := und_lt h2 h4
      exact ⟨v', x', h1, h2, h3, h4, h5, h6, h7, by omega⟩
end W7
theorem lb_put (a : Nat) {x j : Nat} (hx : x < 64) (hj : j < 8) : jshl ((jlshr (lN a) (nI x) &&& lN 1).toInt32) (nI j) = nI (if a.testBit x = true then 2 ^ j else 0) := by
  rw [lb_bit a hx]
  cases a.testBit x
  · rw [Bool.toNat_false, l32 0 (by decide), nb_shl (by omega) (by omega), Nat.zero_mul, if_neg (by decide)]
  · rw [Bool.toNat_true, l32 1 (by decide), nb_1shl (by omega), if_pos rfl]
section W8
variable {h : ZH} {W : Nat → Nat}
/-- the reference stores: what it stands before (midI) is what the object stored -/
theorem storeWideR {G : Nat → Nat → Nat} {N : Nat → Nat} {n t : Nat} {c : Nat → Nat} (m : midI G N t n c h) (ht : t < 6) (g : wM h 147 W) (hc : und (essW W) 64 ≤ 8) (wn : WNp W (essW W) N 16384) : wp (fX11_storeWide 117 (nI t) h) (fun y => y.1 = nI (und (essW W) 64) ∧ INV y.2) := by
  have hs := m.1
  obtain ⟨h1, e1, p1, k1, z1, q1⟩ := place_ok (a := essW W) hs
  have ee := wideEssential_ok hs g
  generalize hC : essW W = C at hc wn e1 z1 q1 ee
  have hs1 := p1.shp hs
  have m1 : midI G N t n c h1 := m.fr (fq.of2 p1 (by decide) (fun k hk => k1 k (by omega)))
  have g1 : wM h1 147 W := fun j hj => by rw [p1.J (by decide)]; exact g j hj
  obtain ⟨h2, e2, p2, q2⟩ := clearG hs1
  unfold fX11_storeWide
  simp (disch := omega) only [ee, e1, SR (hs), zl_eq, bsm, ZS, ZT, ZN, ZU, eq_self, true_and, and_true, and_self, or_true, true_or, or_false, false_or, not_true, not_false_eq_true, Nat.reduceAdd, Nat.reduceMul, Nat.reduceLT, Nat.reduceLeDiff, Nat.reduceEqDiff, ↓reduceIte, ZQ, Bool.true_eq_false, Bool.false_eq_true, Bool.not_true, Bool.not_false]
  simp (disch := omega) only [z1, hc, e2, SR (hs1), zl_eq, bsm, ZS, ZT, ZN, ZU, eq_self, true_and, and_true, and_self, or_true, true_or, or_false, false_or, not_true, not_false_eq_true, Nat.reduceAdd, Nat.reduceMul, Nat.reduceLT, Nat.reduceLeDiff, Nat.reduceEqDiff, ↓reduceIte, ZQ, Bool.true_eq_false, Bool.false_eq_true, Bool.not_true, Bool.not_false]
  refine wloop (fun k y => y.1 = nI k ∧ k ≤ und C 64 ∧ zfr [119] h1 y.2 ∧ ∃ M, vI y.2 119 32 M ∧ WNq W C M (32 * k)) 8 (fun k y self hk hy ih => ?_) (by decide) ⟨rfl, Nat.zero_le _, p2, fun _ => 0, q2, WNq_0⟩
  obtain ⟨y, h3⟩ := y
  obtain ⟨rfl, hku, p3, M3, q3, w3⟩ := hy
  dsimp only at p3 q3
  have hs3 := p3.shp hs1
  have z3 : zI h3 117 17 = nI (und C 64) := by rw [p3.I (by decide)]; exact z1
  show wp (kX11_storeWide_26 117 (nI t) self (nI k) h3) _
  unfold kX11_storeWide_26
  by_cases hlt : k < und C 64
  · obtain ⟨v, hv, cv, uv⟩ := und_surj 64 k hlt
    simp (disch := omega) only [z3, Nat.not_le.mpr hlt, SR (hs3), zl_eq, bsm, ZS, ZT, ZN, ZU, eq_self, true_and, and_true, and_self, or_true, true_or, or_false, false_or, not_true, not_false_eq_true, Nat.reduceAdd, Nat.reduceMul, Nat.reduceLT, Nat.reduceLeDiff, Nat.reduceEqDiff, ↓reduceIte, ZQ, Bool.true_eq_false, Bool.false_eq_true, Bool.not_true, Bool.not_false]
    refine wloop (fun l y => y.1 = nI l ∧ zfr [119] h1 y.2 ∧ ∃ M, vI y.2 119 32 M ∧ WNq W C M (32 * k + 8 * l)) 4 (fun l y self2 hl hy ih2 => ?_) (by decide) ⟨rfl, p3, M3, q3, w3⟩
    obtain ⟨y, h4⟩ := y
    obtain ⟨rfl, p4, M4, q4, w4⟩ := hy
    dsimp only at p4 q4
    have hs4 := p4.shp hs1
    show wp (kX11_storeWide_36 self 117 (nI t) (nI k) self2 (nI l) h4) _
    unfold kX11_storeWide_36
    by_cases hlt2 : l < 4
    · simp (disch := omega) only [Nat.not_le.mpr hlt2, SR (hs4), zl_eq, bsm, ZS, ZT, ZN, ZU, eq_self, true_and, and_true, and_self, or_true, true_or, or_false, false_or, not_true, not_false_eq_true, Nat.reduceAdd, Nat.reduceMul, Nat.reduceLT, Nat.reduceLeDiff, Nat.reduceEqDiff, ↓reduceIte, ZQ, Bool.true_eq_false, Bool.false_eq_true, Bool.not_true, Bool.not_false]
      refine wloop (fun j y => y.1 = nI j ∧ j ≤ und C 64 ∧ zfr [119] h1 y.2 ∧ ∃ M, vI y.2 119 32 M ∧ WNq W C M (32 * k + 8 * l + j)) 8 (fun j y self3 hj hy ih3 => ?_) (by decide) ⟨rfl, Nat.zero_le _, p4, M4, q4, w4⟩
      obtain ⟨y, h5⟩ := y
      obtain ⟨rfl, hju, p5, M5, q5, w5⟩ := hy
      dsimp only at p5 q5
      have hs5 := p5.shp hs1
      have z5 : zI h5 117 17 = nI (und C 64) := by rw [p5.I (by decide)]; exact z1
      show wp (kX11_storeWide_44 self self2 117 (nI t) (nI k) (nI l) self3 (nI j) h5) _
      unfold kX11_storeWide_44
      by_cases hlt3 : j < und C 64
      · obtain ⟨x, hx, cx, ux⟩ := und_surj 64 j hlt3
        have a1 : zI h5 128 k = nI v := by rw [p5.I (by decide), ← uv]; exact q1 v hv cv
        have a2 : zI h5 128 j = nI x := by rw [p5.I (by decide), ← ux]; exact q1 x hx cx
        have a3 : zJ h5 147 (4 * v + l) = lN (W (4 * v + l)) := by rw [p5.J (by decide)]; exact (g1 (4 * v + l) (by omega)).1
        simp (disch := omega) only [z5, Nat.not_le.mpr hlt3, a1, a2, a3, q5 (4 * k + l) (by omega), lb_put (W (4 * v + l)) hx (show j < 8 by omega), SR (hs5), zl_eq, bsm, ZS, ZT, ZN, ZU, eq_self, true_and, and_true, and_self, or_true, true_or, or_false, false_or, not_true, not_false_eq_true, Nat.reduceAdd, Nat.reduceMul, Nat.reduceLT, Nat.reduceLeDiff, Nat.reduceEqDiff, ↓reduceIte, ZQ, Bool.true_eq_false, Bool.false_eq_true, Bool.not_true, Bool.not_false]
        refine ih3 _ (by omega) ⟨rfl, by omega, p5.same zfr_uI, _, made_set q5, ?_⟩
        rw [← uv, ← ux] at w5 ⊢
        exact WNq_step hc hv hlt2 hx cv cx w5
      · have : j = und C 64 := by omega
        subst this
        simp (disch := omega) only [z5, Nat.le_refl, SR (hs5), zl_eq, bsm, ZS, ZT, ZN, ZU, eq_self, true_and, and_true, and_self, or_true, true_or, or_false, false_or, not_true, not_false_eq_true, Nat.reduceAdd, Nat.reduceMul, Nat.reduceLT, Nat.reduceLeDiff, Nat.reduceEqDiff, ↓reduceIte, ZQ, Bool.true_eq_false, Bool.false_eq_true, Bool.not_true, Bool.not_false]
        exact ih2 _ hlt2 ⟨rfl, p5, M5, q5, WNq_row hc w5⟩
    · have : l = 4 := by omega
      subst this
      simp (disch := omega) only [Nat.le_refl, SR (hs4), zl_eq, bsm, ZS, ZT, ZN, ZU, eq_self, true_and, and_true, and_self, or_true, true_or, or_false, false_or, not_true, not_false_eq_true, Nat.reduceAdd, Nat.reduceMul, Nat.reduceLT, Nat.reduceLeDiff, Nat.reduceEqDiff, ↓reduceIte, ZQ, Bool.true_eq_false, Bool.false_eq_true, Bool.not_true, Bool.not_false]
      exact ih _ (by omega) ⟨rfl, hlt, p4, M4, q4, by rw [show 32 * (k + 1) = 32 * k + 8 * 4 by omega]; exact w4⟩
  · have : k = und C 64 := by omega
    subst this
    have qN : vI h3 119 32 N := fun j hj => by rw [q3 j hj, WNp_uniq (WNq_end hc w3) wn j hj]
    have m3 := m1.fr (fq118 p3)
    obtain ⟨h6, e6, g6⟩ := mid_replace ht m3 qN
    have z6 : zI h6 117 17 = nI (und C 64) := by
      obtain ⟨nh, lat, a1, -, -, a4, -⟩ := m3.2.2.2.1
      obtain ⟨h', e', -, b1, -⟩ := replace_ok hs3 ht a1 a4
      obtain rfl : h' = h6 := Option.some.inj (e'.symm.trans e6)
      rw [b1 17 (by decide)]
      exact z3
    simp (disch := omega) only [z3, Nat.le_refl, e6, SR (hs3), zl_eq, bsm, ZS, ZT, ZN, ZU, eq_self, true_and, and_true, and_self, or_true, true_or, or_false, false_or, not_true, not_false_eq_true, Nat.reduceAdd, Nat.reduceMul, Nat.reduceLT, Nat.reduceLeDiff, Nat.reduceEqDiff, ↓reduceIte, ZQ, Bool.true_eq_false, Bool.false_eq_true, Bool.not_true, Bool.not_false]
    simp (disch := omega) only [z6, SR (g6.1), zl_eq, bsm, ZS, ZT, ZN, ZU, eq_self, true_and, and_true, and_self, or_true, true_or, or_false, false_or, not_true, not_false_eq_true, Nat.reduceAdd, Nat.reduceMul, Nat.reduceLT, Nat.reduceLeDiff, Nat.reduceEqDiff, ↓reduceIte, ZQ, Bool.true_eq_false, Bool.false_eq_true, Bool.not_true, Bool.not_false]
    exact wp_some ⟨rfl, _, n, c, g6⟩
theorem storeWideR_big {G : Nat → Nat → Nat} {n t : Nat} {c : Nat → Nat} (hI : INVg G n c h) (g : wM h 147 W) (hc : 8 < und (essW W) 64) : wp (fX11_storeWide 117 (nI t) h) (fun y => y.1 = -3 ∧ INV y.2) := by
  have hs := hI.1
  obtain ⟨h1, e1, p1, k1, z1, q1⟩ := place_ok (a := essW W) hs
  have ee := wideEssential_ok hs g
  have hu := und_le (essW W) 64
  generalize hC : essW W = C at hc e1 z1 q1 ee hu
  have hs1 := p1.shp hs
  have hI1 := hI.fr (fq.of2 p1 (by decide) (fun k hk => k1 k (by omega)))
  unfold fX11_storeWide
  simp (disch := omega) only [ee, e1, SR (hs), zl_eq, bsm, ZS, ZT, ZN, ZU, eq_self, true_and, and_true, and_self, or_true, true_or, or_false, false_or, not_true, not_false_eq_true, Nat.reduceAdd, Nat.reduceMul, Nat.reduceLT, Nat.reduceLeDiff, Nat.reduceEqDiff, ↓reduceIte, ZQ, Bool.true_eq_false, Bool.false_eq_true, Bool.not_true, Bool.not_false]
  simp (disch := omega) only [z1, show ¬ (und C 64 ≤ 8) by omega, SR (hs1), zl_eq, bsm, ZS, ZT, ZN, ZU, eq_self, true_and, and_true, and_self, or_true, true_or, or_false, false_or, not_true, not_false_eq_true, Nat.reduceAdd, Nat.reduceMul, Nat.reduceLT, Nat.reduceLeDiff, Nat.reduceEqDiff, ↓reduceIte, ZQ, Bool.true_eq_false, Bool.false_eq_true, Bool.not_true, Bool.not_false]
  exact wp_some ⟨rfl, _, n, c, hI1⟩
end W8
