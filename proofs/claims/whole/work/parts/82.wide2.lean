/-! WIDE GRAPHS: the reference's essential part -/
section WR
variable {h : ZH} {W : Nat → Nat}
theorem wideUnion_ok (hs : Sh h) (g : wM h 147 W) {v : Nat} (hv : v < 64) : fX11_wideUnion 117 (nI v) h = some (lN (sxW W v), h) := by
  have e : sxW W v = ((W (4 * v + 0) ||| W (4 * v + 1)) ||| W (4 * v + 2)) ||| W (4 * v + 3) := by
    simp only [sxW, orf, if_true, Nat.zero_or]
  have g0 := (g (4 * v) (by omega)).1
  have g1 := (g (4 * v + 1) (by omega)).1
  have g2 := (g (4 * v + 2) (by omega)).1
  have g3 := (g (4 * v + 3) (by omega)).1
  simp (disch := omega) only [fX11_wideUnion, g0, g1, g2, g3, lb_or, SR (hs), zl_eq, bsm, ZS, ZT, ZN, ZU, eq_self, true_and, and_true, and_self, or_true, true_or, or_false, false_or, not_true, not_false_eq_true, Nat.reduceAdd, Nat.reduceMul, Nat.reduceLT, Nat.reduceLeDiff, Nat.reduceEqDiff, ↓reduceIte, ZQ, Bool.true_eq_false, Bool.false_eq_true, Bool.not_true, Bool.not_false]
  rw [e]
  rfl
theorem wideEssential_ok (hs : Sh h) (g : wM h 147 W) : fX11_wideEssential 117 h = some (lN (essW W), h) := by
  obtain ⟨t, h1, h2, h3⟩ := itr_stop (f := csW W) (n := 64) (S := 2 ^ 64 - 1) (fun T _ => csW_sub W T) (by decide)
  have e8 : essW W = itr (csW W) (t + 1) (2 ^ 64 - 1) := (itr_end h2 h1).trans h2.symm
  unfold fX11_wideEssential
  rw [lm1]
  simp (disch := omega) only [SR (hs), zl_eq, bsm, ZS, ZT, ZN, ZU, eq_self, true_and, and_true, and_self, or_true, true_or, or_false, false_or, not_true, not_false_eq_true, Nat.reduceAdd, Nat.reduceMul, Nat.reduceLT, Nat.reduceLeDiff, Nat.reduceEqDiff, ↓reduceIte, ZQ, Bool.true_eq_false, Bool.false_eq_true, Bool.not_true, Bool.not_false]
  have hit : itr (csW W) 0 (2 ^ 64 - 1) = 2 ^ 64 - 1 := rfl
  rw [← hit]
  refine zloop_run (fun j => (lN (itr (csW W) j (2 ^ 64 - 1)), lN (if j = 0 then 0 else itr (csW W) (j - 1) (2 ^ 64 - 1)), h)) (t + 1) (fun j hj self => ?_) (fun self => ?_) (show t + 1 < 100000 by omega)
  · show kX11_wideEssential_6 117 self (lN (itr (csW W) j (2 ^ 64 - 1))) (lN (if j = 0 then 0 else itr (csW W) (j - 1) (2 ^ 64 - 1))) h = _
    have hl := csW_itr_lt W j
    have hne : itr (csW W) j (2 ^ 64 - 1) ≠ (if j = 0 then 0 else itr (csW W) (j - 1) (2 ^ 64 - 1)) := by
      by_cases e : j = 0
      · subst e; rw [if_pos rfl]; exact (by decide : (2 ^ 64 - 1 : Nat) ≠ 0)
      · rw [if_neg e]
        have := h3 (j - 1) (by omega)
        rw [show j - 1 + 1 = j by omega] at this
        exact this
    have hl2 : (if j = 0 then 0 else itr (csW W) (j - 1) (2 ^ 64 - 1)) < 2 ^ 64 := by
      split
      · decide
      · exact csW_itr_lt W (j - 1)
    unfold kX11_wideEssential_6
    rw [if_neg (by rw [lcmpW hl hl2]; exact hne), if_neg (by omega : ¬ j + 1 = 0), Nat.add_sub_cancel]
    generalize hS : itr (csW W) j (2 ^ 64 - 1) = S at hl
    have eS : itr (csW W) (j + 1) (2 ^ 64 - 1) = csW W S := by rw [← hS]; rfl
    rw [eS]
    refine zloop_run (fun v => (lN (faW W S v), lN (goW W S v), nI v, h)) 64 (fun v hv self2 => ?_) (fun self2 => ?_) (by decide)
    · show kX11_wideEssential_23 self 117 (lN S) (lN S) self2 _ _ _ h = _
      unfold kX11_wideEssential_23 bX11_wideEssential_75 bX11_wideEssential_78
      have hx := sxW_lt g hv
      have hlt : sxW W v &&& S < 2 ^ 64 := Nat.lt_of_le_of_lt Nat.and_le_left hx
      have e1 : jlshl (lN 1) (nI v) = lN (2 ^ v) := by rw [lb_shl 1 hv, Nat.one_mul]
      by_cases hb : S.testBit v = true
      · by_cases hz : sxW W v &&& S = 0
        · simp (disch := omega) only [Nat.not_le.mpr hv, lb_bit1, hb, wideUnion_ok hs g hv, lb_and, lb_or, lcmpW, hz, faW, goW, orf, decide_true, Bool.and_false, Nat.or_zero, SR (hs), zl_eq, bsm, ZS, ZT, ZN, ZU, eq_self, true_and, and_true, and_self, or_true, true_or, or_false, false_or, not_true, not_false_eq_true, Nat.reduceAdd, Nat.reduceMul, Nat.reduceLT, Nat.reduceLeDiff, Nat.reduceEqDiff, ↓reduceIte, ZQ, Bool.true_eq_false, Bool.false_eq_true, Bool.not_true, Bool.not_false]
        · simp (disch := omega) only [Nat.not_le.mpr hv, lb_bit1, hb, wideUnion_ok hs g hv, lb_and, lb_or, lcmpW, hz, e1, faW, goW, orf, decide_false, Bool.and_self, SR (hs), zl_eq, bsm, ZS, ZT, ZN, ZU, eq_self, true_and, and_true, and_self, or_true, true_or, or_false, false_or, not_true, not_false_eq_true, Nat.reduceAdd, Nat.reduceMul, Nat.reduceLT, Nat.reduceLeDiff, Nat.reduceEqDiff, ↓reduceIte, ZQ, Bool.true_eq_false, Bool.false_eq_true, Bool.not_true, Bool.not_false]
      · have hb' : S.testBit v = false := by simpa using hb
        simp (disch := omega) only [Nat.not_le.mpr hv, lb_bit1, hb', faW, goW, orf, Bool.false_and, Nat.or_zero, SR (hs), zl_eq, bsm, ZS, ZT, ZN, ZU, eq_self, true_and, and_true, and_self, or_true, true_or, or_false, false_or, not_true, not_false_eq_true, Nat.reduceAdd, Nat.reduceMul, Nat.reduceLT, Nat.reduceLeDiff, Nat.reduceEqDiff, ↓reduceIte, ZQ, Bool.true_eq_false, Bool.false_eq_true, Bool.not_true, Bool.not_false]
    · show kX11_wideEssential_23 self 117 (lN S) (lN S) self2 _ _ _ h = _
      unfold kX11_wideEssential_23
      simp (disch := omega) only [Nat.le_refl, lb_and, SR (hs), zl_eq, bsm, ZS, ZT, ZN, ZU, eq_self, true_and, and_true, and_self, or_true, true_or, or_false, false_or, not_true, not_false_eq_true, Nat.reduceAdd, Nat.reduceMul, Nat.reduceLT, Nat.reduceLeDiff, Nat.reduceEqDiff, ↓reduceIte, ZQ, Bool.true_eq_false, Bool.false_eq_true, Bool.not_true, Bool.not_false]
      rfl
  · show kX11_wideEssential_6 117 self (lN (itr (csW W) (t + 1) (2 ^ 64 - 1))) (lN (if t + 1 = 0 then 0 else itr (csW W) (t + 1 - 1) (2 ^ 64 - 1))) h = _
    unfold kX11_wideEssential_6
    rw [if_neg (by omega : ¬ t + 1 = 0), Nat.add_sub_cancel, h2, if_pos (by rw [lcmpE]), e8, h2]
end WR
