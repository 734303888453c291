/-! WIDE GRAPHS: the renumbered essential part, by its bits -/
/-- the edges with numbers under e are in -/
def WNp (W : Nat → Nat) (C : Nat) (N : Nat → Nat) (e : Nat) : Prop := ∀ k l, k < 8 → l < 4 → N (4 * k + l) < 256 ∧ ∀ i, ((N (4 * k + l)).testBit i = true ↔ ∃ v x, v < 64 ∧ x < 64 ∧ C.testBit v = true ∧ C.testBit x = true ∧ und C v = k ∧ und C x = i ∧ (W (4 * v + l)).testBit x = true ∧ 256 * v + 64 * l + x < e)
theorem und_lt {C v : Nat} (hv : v < 64) (hb : C.testBit v = true) : und C v < und C 64 := by
  have h1 : und C (v + 1) = und C v + 1 := by unfold und; rw [cnt_one hb]
  have h2 : und C (v + 1) ≤ und C 64 := cnt_mono 64 (by omega)
  omega
theorem und_inj {C u v : Nat} (hu : C.testBit u = true) (hv : C.testBit v = true) (e : und C u = und C v) : u = v := by
  apply Classical.byContradiction
  intro hne
  rcases Nat.lt_or_gt_of_ne hne with h | h
  · have h1 : und C (u + 1) = und C u + 1 := by unfold und; rw [cnt_one hu]
    have h2 : und C (u + 1) ≤ und C v := cnt_mono v (by omega)
    omega
  · have h1 : und C (v + 1) = und C v + 1 := by unfold und; rw [cnt_one hv]
    have h2 : und C (v + 1) ≤ und C u := cnt_mono u (by omega)
    omega
section W4
variable {W : Nat → Nat} {C : Nat} {N : Nat → Nat}
theorem WNp_0 : WNp W C (fun _ => 0) 0 := by
  intro k l hk hl
  refine ⟨Nat.zero_lt_succ _, fun i => ?_⟩
  rw [Nat.zero_testBit]
  constructor
  · intro h; cases h
  · rintro ⟨v, x, _, _, _, _, _, _, _, h⟩; omega
/-- nothing at the numbers from e to e' -/
theorem WNp_no {e e' : Nat} (g : WNp W C N e) (he : e ≤ e') (hno : ∀ v l x, v < 64 → l < 4 → x < 64 → e ≤ 256 * v + 64 * l + x → 256 * v + 64 * l + x < e' → ¬ (C.testBit v = true ∧ C.testBit x = true ∧ (W (4 * v + l)).testBit x = true)) : WNp W C N e' := by
  intro k l hk hl
  obtain ⟨g1, g2⟩ := g k l hk hl
  refine ⟨g1, fun i => ?_⟩
  rw [g2 i]
  constructor
  · rintro ⟨v, x, h1, h2, h3, h4, h5, h6, h7, h8⟩
    exact ⟨v, x, h1, h2, h3, h4, h5, h6, h7, by omega⟩
  · rintro ⟨v, x, h1, h2, h3, h4, h5, h6, h7, h8⟩
    by_cases hlt : 256 * v + 64 * l + x < e
    · exact ⟨v, x, h1, h2, h3, h4, h5, h6, h7, hlt⟩
    · exact absurd ⟨h3, h4, h7⟩ (hno v l x h1 hl h2 (by omega) h8)
theorem WNp_yes {v l x : Nat} (g : WNp W C N (256 * v + 64 * l + x)) (hc : und C 64 ≤ 8) (hv : v < 64) (hl : l < 4) (hx : x < 64) (cv : C.testBit v = true) (cx : C.testBit x = true) (wb : (W (4 * v + l)).testBit x = true) : WNp W C (upM N (4 * und C v + l) (N (4 * und C v + l) ||| 2 ^ und C x)) (256 * v + 64 * l + x + 1) := by
  have hk := und_lt hv cv
  have hj := und_lt hx cx
  intro k l' hk8 hl'
  obtain ⟨g1, g2⟩ := g k l' hk8 hl'
  unfold upM
  by_cases e : 4 * k + l' = 4 * und C v + l
  · have ek : k = und C v := by omega
    have el : l' = l := by omega
    subst el
    rw [if_pos e, ← e]
    refine ⟨Nat.or_lt_two_pow (n := 8) g1 (Nat.pow_lt_pow_right (by decide) (by omega)), fun i => ?_⟩
    rw [or_bit, g2 i, pow_bit]
    constructor
    · rintro (⟨v', x', h1, h2, h3, h4, h5, h6, h7, h8⟩ | h)
      · exact ⟨v', x', h1, h2, h3, h4, h5, h6, h7, by omega⟩
      · exact ⟨v, x, hv, hx, cv, cx, ek.symm, h, wb, by omega⟩
    · rintro ⟨v', x', h1, h2, h3, h4, h5, h6, h7, h8⟩
      by_cases hlt : 256 * v' + 64 * l' + x' < 256 * v + 64 * l' + x
      · exact Or.inl ⟨v', x', h1, h2, h3, h4, h5, h6, h7, hlt⟩
      · right
        have : v' = v := und_inj h3 cv (by omega)
        have : x' = x := by omega
        rw [← h6, this]
  · rw [if_neg e]
    refine ⟨g1, fun i => ?_⟩
    rw [g2 i]
    constructor
    · rintro ⟨v', x', h1, h2, h3, h4, h5, h6, h7, h8⟩
      exact ⟨v', x', h1, h2, h3, h4, h5, h6, h7, by omega⟩
    · rintro ⟨v', x', h1, h2, h3, h4, h5, h6, h7, h8⟩
      refine ⟨v', x', h1, h2, h3, h4, h5, h6, h7, ?_⟩
      apply Classical.byContradiction
      intro hn
      have he : 256 * v' + 64 * l' + x' = 256 * v + 64 * l + x := by omega
      have ev : v' = v := by omega
      have el : l' = l := by omega
      exact e (by rw [← h5, ev, el])
/-- what both sides store -/
theorem WNp_uniq {N' : Nat → Nat} {e : Nat} (g : WNp W C N e) (g' : WNp W C N' e) : ∀ j, j < 32 → N j = N' j := by
  intro j hj
  have h1 := (g (j / 4) (j % 4) (by omega) (by omega)).2
  have h2 := (g' (j / 4) (j % 4) (by omega) (by omega)).2
  rw [show 4 * (j / 4) + j % 4 = j by omega] at h1 h2
  exact sb_eq (fun i hi => (h2 i).mpr ((h1 i).mp hi)) (fun i hi => (h1 i).mpr ((h2 i).mp hi))
end W4
section W5
variable {h : ZH} {W : Nat → Nat} {C : Nat}
/-- the object copies the edges of one vertex -/
theorem copyEdges_ok (hs : Sh h) (g : wM h 74 W) (hn : ∀ v, v < 64 → zI h 75 v = nI (und C v)) (hc : und C 64 ≤ 8) {v : Nat} {N : Nat → Nat} (hv : v < 64) (cv : C.testBit v = true) (hN : hasM h 32 N) (wn : WNp W C N (256 * v)) : ∃ h' N', fX8_copyEdges 73 (nI v) (nI (und C v)) (lN C) 31 h = some h' ∧ zfr [32] h h' ∧ hasM h' 32 N' ∧ WNp W C N' (256 * (v + 1)) := by
  have huv := und_lt hv cv
  have key : wp (fX8_copyEdges 73 (nI v) (nI (und C v)) (lN C) 31 h) (fun h' => zfr [32] h h' ∧ ∃ N', hasM h' 32 N' ∧ WNp W C N' (256 * (v + 1))) := by
    unfold fX8_copyEdges
    simp (disch := omega) only [SC (hs), zl_eq, bsm, ZS, ZT, ZN, ZU, eq_self, true_and, and_true, and_self, or_true, true_or, or_false, false_or, not_true, not_false_eq_true, Nat.reduceAdd, Nat.reduceMul, Nat.reduceLT, Nat.reduceLeDiff, Nat.reduceEqDiff, ↓reduceIte, ZQ, Bool.true_eq_false, Bool.false_eq_true, Bool.not_true, Bool.not_false]
    refine wloop (fun l y => y.1 = nI l ∧ zfr [32] h y.2 ∧ ∃ N', hasM y.2 32 N' ∧ WNp W C N' (256 * v + 64 * l)) 4 (fun l y self hl hy ih => ?_) (by decide) ⟨rfl, zfr.refl h, N, hN, wn⟩
    obtain ⟨y, h1⟩ := y
    obtain ⟨rfl, p1, N1, q1, w1⟩ := hy
    dsimp only at p1 q1
    have hs1 := p1.shp hs
    show wp (kX8_copyEdges_3 73 (nI v) (nI (und C v)) (lN C) 31 self (nI l) h1) _
    unfold kX8_copyEdges_3
    by_cases hlt : l < 4
    · have g1 : wM h1 74 W := fun j hj => by rw [p1.J (by decide)]; exact g j hj
      have gw := rowW_ok hs1 g1 hv hlt
      simp (disch := omega) only [Nat.not_le.mpr hlt, gw, lb_and, SC (hs1), zl_eq, bsm, ZS, ZT, ZN, ZU, eq_self, true_and, and_true, and_self, or_true, true_or, or_false, false_or, not_true, not_false_eq_true, Nat.reduceAdd, Nat.reduceMul, Nat.reduceLT, Nat.reduceLeDiff, Nat.reduceEqDiff, ↓reduceIte, ZQ, Bool.true_eq_false, Bool.false_eq_true, Bool.not_true, Bool.not_false]
      refine wloop (fun x y => y.1 = nI x ∧ zfr [32] h y.2 ∧ ∃ N', hasM y.2 32 N' ∧ WNp W C N' (256 * v + 64 * l + x)) 64 (fun x y self2 hx hy ih2 => ?_) (by decide) ⟨rfl, p1, N1, q1, w1⟩
      obtain ⟨y, h2⟩ := y
      obtain ⟨rfl, p2, N2, q2, w2⟩ := hy
      dsimp only at p2 q2
      have hs2 := p2.shp hs
      show wp (kX8_copyEdges_23 self 73 (nI v) (nI (und C v)) (lN C) 31 (nI l) (lN (W (4 * v + l) &&& C)) self2 (nI x) h2) _
      unfold kX8_copyEdges_23 bX8_copyEdges_57
      by_cases hlt2 : x < 64
      · have n2 : zI h2 75 x = nI (und C x) := by rw [p2.I (by decide)]; exact hn x hlt2
        by_cases hb : (W (4 * v + l) &&& C).testBit x = true
        · obtain ⟨wb, cx⟩ := and_bit.mp hb
          have hux := und_lt hlt2 cx
          obtain ⟨h3, e3, p3, q3⟩ := put_ok (g31 hs2) q2 (v := und C v) (l := l) (x := und C x) (by omega) hlt (by omega)
          simp (disch := omega) only [Nat.not_le.mpr hlt2, lb_bit0, hb, n2, e3, SC (hs2), zl_eq, bsm, ZS, ZT, ZN, ZU, eq_self, true_and, and_true, and_self, or_true, true_or, or_false, false_or, not_true, not_false_eq_true, Nat.reduceAdd, Nat.reduceMul, Nat.reduceLT, Nat.reduceLeDiff, Nat.reduceEqDiff, ↓reduceIte, ZQ, Bool.true_eq_false, Bool.false_eq_true, Bool.not_true, Bool.not_false]
          exact ih2 _ hlt2 ⟨rfl, p2.same p3, _, q3, WNp_yes w2 hc hv hlt hlt2 cv cx wb⟩
        · have hb' : (W (4 * v + l) &&& C).testBit x = false := by simpa using hb
          simp (disch := omega) only [Nat.not_le.mpr hlt2, lb_bit0, hb', SC (hs2), zl_eq, bsm, ZS, ZT, ZN, ZU, eq_self, true_and, and_true, and_self, or_true, true_or, or_false, false_or, not_true, not_false_eq_true, Nat.reduceAdd, Nat.reduceMul, Nat.reduceLT, Nat.reduceLeDiff, Nat.reduceEqDiff, ↓reduceIte, ZQ, Bool.true_eq_false, Bool.false_eq_true, Bool.not_true, Bool.not_false]
          refine ih2 _ hlt2 ⟨rfl, p2, N2, q2, WNp_no w2 (by omega) (fun v' l' x' a1 a2 a3 a4 a5 a6 => ?_)⟩
          have ev : v' = v := by omega
          have el : l' = l := by omega
          have ex : x' = x := by omega
          subst ev
          subst el
          subst ex
          exact hb (and_bit.mpr ⟨a6.2.2, a6.2.1⟩)
      · have : x = 64 := by omega
        subst this
        simp (disch := omega) only [Nat.le_refl, SC (hs2), zl_eq, bsm, ZS, ZT, ZN, ZU, eq_self, true_and, and_true, and_self, or_true, true_or, or_false, false_or, not_true, not_false_eq_true, Nat.reduceAdd, Nat.reduceMul, Nat.reduceLT, Nat.reduceLeDiff, Nat.reduceEqDiff, ↓reduceIte, ZQ, Bool.true_eq_false, Bool.false_eq_true, Bool.not_true, Bool.not_false]
        exact ih _ hlt ⟨rfl, p2, N2, q2, by rw [show 256 * v + 64 * (l + 1) = 256 * v + 64 * l + 64 by omega]; exact w2⟩
    · have : l = 4 := by omega
      subst this
      simp (disch := omega) only [Nat.le_refl, SC (hs1), zl_eq, bsm, ZS, ZT, ZN, ZU, eq_self, true_and, and_true, and_self, or_true, true_or, or_false, false_or, not_true, not_false_eq_true, Nat.reduceAdd, Nat.reduceMul, Nat.reduceLT, Nat.reduceLeDiff, Nat.reduceEqDiff, ↓reduceIte, ZQ, Bool.true_eq_false, Bool.false_eq_true, Bool.not_true, Bool.not_false]
      exact wp_some ⟨p1, N1, q1, by rw [show 256 * (v + 1) = 256 * v + 64 * 4 by omega]; exact w1⟩
  obtain ⟨h', e, p, N', q, w⟩ := key
  exact ⟨h', N', e, p, q, w⟩
end W5
