/-! CALL: union, by the object -/
/-- two graphs side by side -/
def uN (A B : Nat → Nat) (i : Nat) : Nat := if i < 32 then A i else if i < 64 then B (i - 32) * 2 ^ 8 else 0
/-- the first e rows of both -/
def uN2 (A B : Nat → Nat) (e i : Nat) : Nat := if i < e ∨ (32 ≤ i ∧ i < 32 + e) then uN A B i else 0
theorem uN2_put {A B : Nat → Nat} {e : Nat} (he : e < 32) : upM (upM (uN2 A B e) e (uN2 A B e e ||| A e)) (32 + e) (upM (uN2 A B e) e (uN2 A B e e ||| A e) (32 + e) ||| B e * 2 ^ 8) = uN2 A B (e + 1) := by
  have z1 : uN2 A B e e = 0 := if_neg (by omega)
  have z2 : uN2 A B e (32 + e) = 0 := if_neg (by omega)
  funext i
  unfold upM
  rw [if_neg (show ¬ (32 + e = e) by omega), z1, z2, Nat.zero_or, Nat.zero_or]
  by_cases q : i = 32 + e
  · rw [if_pos q]
    unfold uN2 uN
    rw [if_pos (by omega), if_neg (by omega), if_pos (by omega), q, Nat.add_sub_cancel_left]
  · rw [if_neg q]
    by_cases q2 : i = e
    · rw [if_pos q2]
      unfold uN2 uN
      rw [if_pos (by omega), if_pos (by omega), q2]
    · rw [if_neg q2]
      unfold uN2
      by_cases q3 : i < e ∨ (32 ≤ i ∧ i < 32 + e)
      · rw [if_pos q3, if_pos (by omega)]
      · rw [if_neg q3, if_neg (by omega)]
theorem uN2_all {h : ZH} {a : Nat} {A B : Nat → Nat} (g : wM h a (uN2 A B 32)) : wM h a (uN A B) := by
  intro j hj
  have := g j hj
  have e : uN2 A B 32 j = uN A B j := by
    unfold uN2
    by_cases q : j < 32 ∨ (32 ≤ j ∧ j < 32 + 32)
    · rw [if_pos q]
    · rw [if_neg q]
      unfold uN
      rw [if_neg (by omega), if_neg (by omega)]
  rwa [e] at this
section U1
variable {h : ZH} {P : Int32 × ZH → Prop}
theorem union_c {G : Nat → Nat → Nat} {n s r t : Nat} {c : Nat → Nat} (hI : INVg G n c h) (h6 : s < 6) (hr : r < 6) (ht : t < 6) (K : ∀ h', zfr [34, 36, 74] h h' → wM h' 74 (uN (coreM (G s)) (coreM (G r))) → wp (fX10_storeWide 0 (nI t) h') P) : wp (fX10_union 0 (nI s) (nI r) (nI t) h) P := by
  have hs := hI.1
  obtain ⟨k1, e1, p1, q1⟩ := trim_ok hI h6
  have I1 := hI.fr (fq34 p1)
  obtain ⟨k2, e2, p2, q2⟩ := copyCoreOf_ok (g35 I1.1) (gS I1.1 hr) (by omega) (I1.2.1.m hr)
  have hs2 := p2.shp I1.1
  obtain ⟨k3, e3, p3, q3⟩ := clear8_ok hs2
  have pa : zfr [34, 36] h k2 := (p1.trans p2).mono (by decide)
  have q1' : hasM k2 34 (coreM (G s)) := fun j hj => by rw [p2.I (by decide)]; exact q1 j hj
  unfold fX10_union
  simp (disch := omega) only [isSlot_ok h6, isSlot_ok hr, isSlot_ok ht, e1, SC (hs), zl_eq, bsm, ZS, ZT, ZN, ZU, eq_self, true_and, and_true, and_self, or_true, true_or, or_false, false_or, not_true, not_false_eq_true, Nat.reduceAdd, Nat.reduceMul, Nat.reduceLT, Nat.reduceLeDiff, Nat.reduceEqDiff, ↓reduceIte, ZQ, Bool.true_eq_false, Bool.false_eq_true, Bool.not_true, Bool.not_false]
  simp (disch := omega) only [e2, SC (I1.1), zl_eq, bsm, ZS, ZT, ZN, ZU, eq_self, true_and, and_true, and_self, or_true, true_or, or_false, false_or, not_true, not_false_eq_true, Nat.reduceAdd, Nat.reduceMul, Nat.reduceLT, Nat.reduceLeDiff, Nat.reduceEqDiff, ↓reduceIte, ZQ, Bool.true_eq_false, Bool.false_eq_true, Bool.not_true, Bool.not_false]
  simp (disch := omega) only [e3, SC (hs2), zl_eq, bsm, ZS, ZT, ZN, ZU, eq_self, true_and, and_true, and_self, or_true, true_or, or_false, false_or, not_true, not_false_eq_true, Nat.reduceAdd, Nat.reduceMul, Nat.reduceLT, Nat.reduceLeDiff, Nat.reduceEqDiff, ↓reduceIte, ZQ, Bool.true_eq_false, Bool.false_eq_true, Bool.not_true, Bool.not_false]
  generalize coreM (G s) = A at q1' K
  generalize coreM (G r) = B at q2 K
  refine wloop (fun v y => y.1 = nI v ∧ zfr [74] k2 y.2 ∧ wM y.2 74 (uN2 A B (4 * v))) 8 (fun v y self hv hy ih => ?_) (by decide) ⟨rfl, p3, ?_⟩
  · obtain ⟨y, h1⟩ := y
    obtain ⟨rfl, p4, q4⟩ := hy
    dsimp only at p4 q4
    have hs4 := p4.shp hs2
    show wp (kX10_union_60 0 (nI t) self (nI v) h1) _
    unfold kX10_union_60
    by_cases hlt : v < 8
    · simp (disch := omega) only [Nat.not_le.mpr hlt, SC (hs4), zl_eq, bsm, ZS, ZT, ZN, ZU, eq_self, true_and, and_true, and_self, or_true, true_or, or_false, false_or, not_true, not_false_eq_true, Nat.reduceAdd, Nat.reduceMul, Nat.reduceLT, Nat.reduceLeDiff, Nat.reduceEqDiff, ↓reduceIte, ZQ, Bool.true_eq_false, Bool.false_eq_true, Bool.not_true, Bool.not_false]
      refine wloop (fun l y => y.1 = nI l ∧ zfr [74] k2 y.2 ∧ wM y.2 74 (uN2 A B (4 * v + l))) 4 (fun l y self2 hl hy ih2 => ?_) (by decide) ⟨rfl, p4, q4⟩
      obtain ⟨y, h2⟩ := y
      obtain ⟨rfl, p5, q5⟩ := hy
      dsimp only at p5 q5
      have hs5 := p5.shp hs2
      show wp (kX10_union_70 self 0 (nI t) (nI v) self2 (nI l) h2) _
      unfold kX10_union_70
      by_cases hlt2 : l < 4
      · have mA : hasM h2 34 A := fun j hj => by rw [p5.I (by decide)]; exact q1' j hj
        have b1 := (mA (4 * v + l) (by omega)).2
        obtain ⟨h3, e6, p6, q6⟩ := wlink_ok (v := v) (l := l) (x := A (4 * v + l)) hs5 q5 (by omega) hlt2 (by omega)
        have hs6 := p6.shp hs5
        have mB : hasM h3 36 B := fun j hj => by rw [p6.I (by decide), p5.I (by decide)]; exact q2 j hj
        have b2 := (mB (4 * v + l) (by omega)).2
        obtain ⟨h4, e7, p7, q7⟩ := wlink_ok (v := 8 + v) (l := l) (x := B (4 * v + l) * 2 ^ 8) hs6 q6 (by omega) hlt2 (by omega)
        simp (disch := omega) only [Nat.not_le.mpr hlt2, row_ok (g33 hs5) mA hlt hlt2, i64 _ b1, e6, SC (hs5), zl_eq, bsm, ZS, ZT, ZN, ZU, eq_self, true_and, and_true, and_self, or_true, true_or, or_false, false_or, not_true, not_false_eq_true, Nat.reduceAdd, Nat.reduceMul, Nat.reduceLT, Nat.reduceLeDiff, Nat.reduceEqDiff, ↓reduceIte, ZQ, Bool.true_eq_false, Bool.false_eq_true, Bool.not_true, Bool.not_false]
        simp (disch := omega) only [row_ok (g35 hs6) mB hlt hlt2, i64 _ b2, lb_shl, e7, SC (hs6), zl_eq, bsm, ZS, ZT, ZN, ZU, eq_self, true_and, and_true, and_self, or_true, true_or, or_false, false_or, not_true, not_false_eq_true, Nat.reduceAdd, Nat.reduceMul, Nat.reduceLT, Nat.reduceLeDiff, Nat.reduceEqDiff, ↓reduceIte, ZQ, Bool.true_eq_false, Bool.false_eq_true, Bool.not_true, Bool.not_false]
        refine ih2 _ hlt2 ⟨rfl, p5.same (p6.same p7), ?_⟩
        rw [show 4 * (8 + v) + l = 32 + (4 * v + l) by omega, uN2_put (by omega)] at q7
        exact q7
      · have : l = 4 := by omega
        subst this
        simp (disch := omega) only [Nat.le_refl, SC (hs5), zl_eq, bsm, ZS, ZT, ZN, ZU, eq_self, true_and, and_true, and_self, or_true, true_or, or_false, false_or, not_true, not_false_eq_true, Nat.reduceAdd, Nat.reduceMul, Nat.reduceLT, Nat.reduceLeDiff, Nat.reduceEqDiff, ↓reduceIte, ZQ, Bool.true_eq_false, Bool.false_eq_true, Bool.not_true, Bool.not_false]
        exact ih _ hlt ⟨rfl, p5, by rw [show 4 * (v + 1) = 4 * v + 4 by omega]; exact q5⟩
    · have : v = 8 := by omega
      subst this
      obtain ⟨a, e, q⟩ := K h1 ((pa.trans p4).mono (by decide)) (uN2_all q4)
      simp (disch := omega) only [Nat.le_refl, SC (hs4), zl_eq, bsm, ZS, ZT, ZN, ZU, eq_self, true_and, and_true, and_self, or_true, true_or, or_false, false_or, not_true, not_false_eq_true, Nat.reduceAdd, Nat.reduceMul, Nat.reduceLT, Nat.reduceLeDiff, Nat.reduceEqDiff, ↓reduceIte, ZQ, Bool.true_eq_false, Bool.false_eq_true, Bool.not_true, Bool.not_false]
      rw [e, bsm]
      exact wp_some q
  · have : uN2 A B (4 * 0) = fun _ => 0 := by
      funext i
      exact if_neg (by omega)
    rw [this]
    exact q3
end U1
