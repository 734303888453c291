/-! WIDE GRAPHS: the essential part of a graph of 64 vertices, both sides -/
theorem lW {a b : Nat} (ha : a < 2 ^ 64) (hb : b < 2 ^ 64) : (lN a = lN b) = (a = b) := by
  apply propext
  constructor
  · intro e
    have h1 : (BitVec.ofNat 64 a).toNat = (BitVec.ofNat 64 b).toNat := congrArg (fun z : Int64 => z.toBitVec.toNat) e
    rw [BitVec.toNat_ofNat, BitVec.toNat_ofNat, Nat.mod_eq_of_lt ha, Nat.mod_eq_of_lt hb] at h1
    exact h1
  · intro e; rw [e]
theorem lcmpE (x y : Int64) : (lg_cmp x y = 0) = (x = y) := by
  apply propext
  unfold lg_cmp
  constructor
  · intro h
    by_cases h1 : y < x
    · simp [h1] at h
    · by_cases h2 : x = y
      · exact h2
      · simp [h1, h2] at h
  · intro h
    subst h
    simp
theorem lcmpW {a b : Nat} (ha : a < 2 ^ 64) (hb : b < 2 ^ 64) : (lg_cmp (lN a) (lN b) = 0) = (a = b) := by rw [lcmpE, lW ha hb]
def sxW (W : Nat → Nat) (v : Nat) : Nat := orf (fun _ => true) (fun l => W (4 * v + l)) 4
def faW (W : Nat → Nat) (S n : Nat) : Nat := orf (fun v => S.testBit v) (sxW W) n
def goW (W : Nat → Nat) (S n : Nat) : Nat := orf (fun v => S.testBit v && !decide (sxW W v &&& S = 0)) (fun v => 2 ^ v) n
def csW (W : Nat → Nat) (S : Nat) : Nat := S &&& (faW W S 64 &&& goW W S 64)
def essW (W : Nat → Nat) : Nat := itr (csW W) 64 (2 ^ 64 - 1)
theorem csW_sub (W : Nat → Nat) (T : Nat) : csW W T &&& T = csW W T := by
  apply Nat.eq_of_testBit_eq
  intro i
  simp only [csW, Nat.testBit_and]
  cases T.testBit i <;> simp
theorem csW_itr_lt (W : Nat → Nat) (j : Nat) : itr (csW W) j (2 ^ 64 - 1) < 2 ^ 64 := itr_lt (n := 64) (fun T _ => csW_sub W T) (by decide) j
theorem essW_lt (W : Nat → Nat) : essW W < 2 ^ 64 := csW_itr_lt W 64
def wM (h : ZH) (a : Nat) (W : Nat → Nat) : Prop := ∀ j, j < 256 → zJ h a j = lN (W j) ∧ W j < 2 ^ 64
theorem sxW_lt {h : ZH} {a : Nat} {W : Nat → Nat} (g : wM h a W) {v : Nat} (hv : v < 64) : sxW W v < 2 ^ 64 := orf_lt (b := 64) (fun k hk => (g _ (by omega)).2)
theorem goW_lt (W : Nat → Nat) (S : Nat) {n : Nat} (hn : n ≤ 64) : goW W S n < 2 ^ 64 := orf_lt (b := 64) (fun k hk => Nat.pow_lt_pow_right (by decide) (by omega))
theorem faW_lt {h : ZH} {a : Nat} {W : Nat → Nat} (g : wM h a W) (S : Nat) {n : Nat} (hn : n ≤ 64) : faW W S n < 2 ^ 64 := orf_lt (b := 64) (fun k hk => sxW_lt g (by omega))
theorem lm1 : (-1 : Int64) = lN (2 ^ 64 - 1) := by decide
section WC
variable {h : ZH} {W : Nat → Nat}
theorem rowW_ok (hs : Sh h) (g : wM h 74 W) {v l : Nat} (hv : v < 64) (hl : l < 4) : fX8_row 73 (nI v) (nI l) h = some (lN (W (4 * v + l)), h) := by
  unfold fX8_row bX8_row_31
  rw [if_pos ⟨(O73 hs).1, (O73 hs).2⟩, if_neg (nI_pos (by omega)), if_neg (nI_ge hv (by decide)), isLetter_ok hl h, bsm, if_neg ne10]
  simp (disch := omega) only [(g (4 * v + l) (by omega)).1, SC (hs), zl_eq, bsm, ZS, ZT, ZN, ZU, eq_self, true_and, and_true, and_self, or_true, true_or, or_false, false_or, not_true, not_false_eq_true, Nat.reduceAdd, Nat.reduceMul, Nat.reduceLT, Nat.reduceLeDiff, Nat.reduceEqDiff, ↓reduceIte, ZQ, Bool.true_eq_false, Bool.false_eq_true, Bool.not_true, Bool.not_false]
theorem successors_ok (hs : Sh h) (g : wM h 74 W) {v : Nat} (hv : v < 64) : fX8_successors 73 (nI v) h = some (lN (sxW W v), h) := by
  unfold fX8_successors
  simp (disch := omega) only [SC (hs), zl_eq, bsm, ZS, ZT, ZN, ZU, eq_self, true_and, and_true, and_self, or_true, true_or, or_false, false_or, not_true, not_false_eq_true, Nat.reduceAdd, Nat.reduceMul, Nat.reduceLT, Nat.reduceLeDiff, Nat.reduceEqDiff, ↓reduceIte, ZQ, Bool.true_eq_false, Bool.false_eq_true, Bool.not_true, Bool.not_false]
  refine zloop_run (fun l => (lN (orf (fun _ => true) (fun l => W (4 * v + l)) l), nI l, h)) 4 (fun l hl self => ?_) (fun self => ?_) (by decide)
  · show kX8_successors_5 73 (nI v) self _ _ h = _
    unfold kX8_successors_5
    simp (disch := omega) only [Nat.not_le.mpr hl, rowW_ok hs g hv hl, lb_or, SC (hs), zl_eq, bsm, ZS, ZT, ZN, ZU, eq_self, true_and, and_true, and_self, or_true, true_or, or_false, false_or, not_true, not_false_eq_true, Nat.reduceAdd, Nat.reduceMul, Nat.reduceLT, Nat.reduceLeDiff, Nat.reduceEqDiff, ↓reduceIte, ZQ, Bool.true_eq_false, Bool.false_eq_true, Bool.not_true, Bool.not_false]
    rw [orf, if_pos rfl]
  · show kX8_successors_5 73 (nI v) self _ _ h = _
    unfold kX8_successors_5
    simp (disch := omega) only [Nat.le_refl, SC (hs), zl_eq, bsm, ZS, ZT, ZN, ZU, eq_self, true_and, and_true, and_self, or_true, true_or, or_false, false_or, not_true, not_false_eq_true, Nat.reduceAdd, Nat.reduceMul, Nat.reduceLT, Nat.reduceLeDiff, Nat.reduceEqDiff, ↓reduceIte, ZQ, Bool.true_eq_false, Bool.false_eq_true, Bool.not_true, Bool.not_false]
    rfl
theorem trimW_step (hs : Sh h) (g : wM h 74 W) {S j : Nat} (hS : S < 2 ^ 64) (self : Int64 × Int32 × Int32 × ZH → Option (Int64 × ZH)) : zloop (lX8_trim_29 self 73 (lN S) (nI j)) zfu (lN 0, lN 0, nI 0, h) = self (lN (csW W S), (if csW W S = S then nI 0 else nI 1), nI (j + 1), h) := by
  refine zloop_run (fun v => (lN (orf (fun v => S.testBit v) (fun v => sxW W v &&& S) v), lN (goW W S v), nI v, h)) 64 (fun v hv self2 => ?_) (fun self2 => ?_) (by decide)
  · show kX8_trim_29 self 73 (lN S) (nI j) self2 _ _ _ h = _
    unfold kX8_trim_29 bX8_trim_59 bX8_trim_85
    have hx := sxW_lt g hv
    have hlt : sxW W v &&& S < 2 ^ 64 := Nat.lt_of_le_of_lt Nat.and_le_left hx
    have e1 : jlshl (lN 1) (nI v) = lN (2 ^ v) := by rw [lb_shl 1 hv, Nat.one_mul]
    by_cases hb : S.testBit v = true
    · by_cases hz : sxW W v &&& S = 0
      · simp (disch := omega) only [Nat.not_le.mpr hv, lb_bit0, hb, successors_ok hs g hv, lb_and, lb_or, lcmpW, hz, goW, orf, decide_true, Bool.and_false, Nat.or_zero, SC (hs), zl_eq, bsm, ZS, ZT, ZN, ZU, eq_self, true_and, and_true, and_self, or_true, true_or, or_false, false_or, not_true, not_false_eq_true, Nat.reduceAdd, Nat.reduceMul, Nat.reduceLT, Nat.reduceLeDiff, Nat.reduceEqDiff, ↓reduceIte, ZQ, Bool.true_eq_false, Bool.false_eq_true, Bool.not_true, Bool.not_false]
      · simp (disch := omega) only [Nat.not_le.mpr hv, lb_bit0, hb, successors_ok hs g hv, lb_and, lb_or, lcmpW, hz, e1, goW, orf, decide_false, Bool.and_self, SC (hs), zl_eq, bsm, ZS, ZT, ZN, ZU, eq_self, true_and, and_true, and_self, or_true, true_or, or_false, false_or, not_true, not_false_eq_true, Nat.reduceAdd, Nat.reduceMul, Nat.reduceLT, Nat.reduceLeDiff, Nat.reduceEqDiff, ↓reduceIte, ZQ, Bool.true_eq_false, Bool.false_eq_true, Bool.not_true, Bool.not_false]
    · have hb' : S.testBit v = false := by simpa using hb
      simp (disch := omega) only [Nat.not_le.mpr hv, lb_bit0, hb', lb_or, lcmpW, goW, orf, Bool.false_and, Nat.or_zero, SC (hs), zl_eq, bsm, ZS, ZT, ZN, ZU, eq_self, true_and, and_true, and_self, or_true, true_or, or_false, false_or, not_true, not_false_eq_true, Nat.reduceAdd, Nat.reduceMul, Nat.reduceLT, Nat.reduceLeDiff, Nat.reduceEqDiff, ↓reduceIte, ZQ, Bool.true_eq_false, Bool.false_eq_true, Bool.not_true, Bool.not_false]
  · show kX8_trim_29 self 73 (lN S) (nI j) self2 _ _ _ h = _
    unfold kX8_trim_29 bX8_trim_115
    have ec : (S &&& orf (fun v => S.testBit v) (fun v => sxW W v &&& S) 64) &&& goW W S 64 = csW W S := by
      rw [orf_and]
      unfold csW faW
      apply Nat.eq_of_testBit_eq
      intro i
      simp only [Nat.testBit_and]
      cases S.testBit i <;> simp
    have hl : csW W S < 2 ^ 64 := Nat.lt_of_le_of_lt Nat.and_le_left hS
    by_cases e : csW W S = S
    · simp (disch := omega) only [Nat.le_refl, lb_and, ec, lcmpW, eq_true e, SC (hs), zl_eq, bsm, ZS, ZT, ZN, ZU, eq_self, true_and, and_true, and_self, or_true, true_or, or_false, false_or, not_true, not_false_eq_true, Nat.reduceAdd, Nat.reduceMul, Nat.reduceLT, Nat.reduceLeDiff, Nat.reduceEqDiff, ↓reduceIte, ZQ, Bool.true_eq_false, Bool.false_eq_true, Bool.not_true, Bool.not_false]
    · simp (disch := omega) only [Nat.le_refl, lb_and, ec, lcmpW, eq_false e, SC (hs), zl_eq, bsm, ZS, ZT, ZN, ZU, eq_self, true_and, and_true, and_self, or_true, true_or, or_false, false_or, not_true, not_false_eq_true, Nat.reduceAdd, Nat.reduceMul, Nat.reduceLT, Nat.reduceLeDiff, Nat.reduceEqDiff, ↓reduceIte, ZQ, Bool.true_eq_false, Bool.false_eq_true, Bool.not_true, Bool.not_false]
theorem trimW_ok (hs : Sh h) (g : wM h 74 W) : fX8_trim 73 h = some (lN (essW W), h) := by
  obtain ⟨t, h1, h2, h3⟩ := itr_stop (f := csW W) (n := 64) (S := 2 ^ 64 - 1) (fun T _ => csW_sub W T) (by decide)
  have e8 : essW W = itr (csW W) (t + 1) (2 ^ 64 - 1) := (itr_end h2 h1).trans h2.symm
  unfold fX8_trim
  rw [lm1]
  simp (disch := omega) only [SC (hs), zl_eq, bsm, ZS, ZT, ZN, ZU, eq_self, true_and, and_true, and_self, or_true, true_or, or_false, false_or, not_true, not_false_eq_true, Nat.reduceAdd, Nat.reduceMul, Nat.reduceLT, Nat.reduceLeDiff, Nat.reduceEqDiff, ↓reduceIte, ZQ, Bool.true_eq_false, Bool.false_eq_true, Bool.not_true, Bool.not_false]
  have hit : itr (csW W) 0 (2 ^ 64 - 1) = 2 ^ 64 - 1 := rfl
  rw [← hit]
  refine zloop_run (fun j => (lN (itr (csW W) j (2 ^ 64 - 1)), (if j = t + 1 then nI 0 else nI 1), nI j, h)) (t + 1) (fun j hj self => ?_) (fun self => ?_) (show t + 1 < 100000 by omega)
  · show kX8_trim_9 73 self (lN (itr (csW W) j (2 ^ 64 - 1))) (if j = t + 1 then nI 0 else nI 1) (nI j) h = _
    unfold kX8_trim_9
    rw [if_neg (by omega : ¬ j = t + 1), if_neg (nI_nlt (by omega) (by omega)), if_neg ne10, trimW_step hs g (csW_itr_lt W j)]
    have es : csW W (itr (csW W) j (2 ^ 64 - 1)) = itr (csW W) (j + 1) (2 ^ 64 - 1) := rfl
    rw [es]
    by_cases e : j = t
    · subst e; rw [if_pos h2, if_pos rfl]
    · rw [if_neg (h3 j (by omega)), if_neg (by omega)]
  · show kX8_trim_9 73 self (lN (itr (csW W) (t + 1) (2 ^ 64 - 1))) (if t + 1 = t + 1 then nI 0 else nI 1) (nI (t + 1)) h = _
    unfold kX8_trim_9 bX8_trim_125
    rw [if_pos rfl, if_pos (c := nI 0 = 0) rfl, e8]
    split <;> rfl
end WC
