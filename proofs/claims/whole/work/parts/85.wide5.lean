/-! WIDE GRAPHS: stored, by the object -/
section W6
variable {h : ZH} {W : Nat → Nat}
theorem compress_ok (hs : Sh h) (g : wM h 74 W) (hc : und (essW W) 64 ≤ 8) : ∃ h' N, fX8_compressCore 73 31 h = some (nI (und (essW W) 64), h') ∧ zfr [75, 32] h h' ∧ hasM h' 32 N ∧ WNp W (essW W) N 16384 := by
  have key : wp (fX8_compressCore 73 31 h) (fun r => r.1 = nI (und (essW W) 64) ∧ zfr [75, 32] h r.2 ∧ ∃ N, hasM r.2 32 N ∧ WNp W (essW W) N 16384) := by
    have eb := lbc_ok (essW_lt W) h
    generalize hC : essW W = C at hc eb
    obtain ⟨h1, e1, p1, n1⟩ := numberW_ok hs C
    have hs1 := p1.shp hs
    obtain ⟨h2, e2, p2, q2⟩ := clear_ok (g31 hs1)
    have et := trimW_ok hs g
    rw [hC] at et
    unfold fX8_compressCore
    simp (disch := omega) only [et, eb, show ¬ (8 < und C 64) by omega, SC (hs), zl_eq, bsm, ZS, ZT, ZN, ZU, eq_self, true_and, and_true, and_self, or_true, true_or, or_false, false_or, not_true, not_false_eq_true, Nat.reduceAdd, Nat.reduceMul, Nat.reduceLT, Nat.reduceLeDiff, Nat.reduceEqDiff, ↓reduceIte, ZQ, Bool.true_eq_false, Bool.false_eq_true, Bool.not_true, Bool.not_false]
    rw [e1, bsm, e2, bsm]
    refine wloop (fun v y => y.1 = nI v ∧ zfr [32] h1 y.2 ∧ ∃ N, hasM y.2 32 N ∧ WNp W C N (256 * v)) 64 (fun v y self hv hy ih => ?_) (by decide) ⟨rfl, p2, fun _ => 0, q2, WNp_0⟩
    obtain ⟨y, h3⟩ := y
    obtain ⟨rfl, p3, N3, q3, w3⟩ := hy
    dsimp only at p3 q3
    have hs3 := p3.shp hs1
    show wp (kX8_compressCore_30 73 31 (lN C) (nI (und C 64)) self (nI v) h3) _
    unfold kX8_compressCore_30 bX8_compressCore_63 bX8_compressCore_69
    by_cases hlt : v < 64
    · by_cases hb : C.testBit v = true
      · have g3 : wM h3 74 W := fun j hj => by rw [p3.J (by decide), p1.J (by decide)]; exact g j hj
        obtain ⟨h4, N4, e4, p4, q4, w4⟩ := copyEdges_ok hs3 g3 (fun u hu => by rw [p3.I (by decide)]; exact n1 u hu) hc hlt hb q3 w3
        have n3 : zI h3 75 v = nI (und C v) := by rw [p3.I (by decide)]; exact n1 v hlt
        simp (disch := omega) only [Nat.not_le.mpr hlt, lb_bit0, hb, n3, SC (hs3), zl_eq, bsm, ZS, ZT, ZN, ZU, eq_self, true_and, and_true, and_self, or_true, true_or, or_false, false_or, not_true, not_false_eq_true, Nat.reduceAdd, Nat.reduceMul, Nat.reduceLT, Nat.reduceLeDiff, Nat.reduceEqDiff, ↓reduceIte, ZQ, Bool.true_eq_false, Bool.false_eq_true, Bool.not_true, Bool.not_false]
        rw [e4, bsm]
        exact ih _ hlt ⟨rfl, p3.same p4, N4, q4, w4⟩
      · have hb' : C.testBit v = false := by simpa using hb
        simp (disch := omega) only [Nat.not_le.mpr hlt, lb_bit0, hb', SC (hs3), zl_eq, bsm, ZS, ZT, ZN, ZU, eq_self, true_and, and_true, and_self, or_true, true_or, or_false, false_or, not_true, not_false_eq_true, Nat.reduceAdd, Nat.reduceMul, Nat.reduceLT, Nat.reduceLeDiff, Nat.reduceEqDiff, ↓reduceIte, ZQ, Bool.true_eq_false, Bool.false_eq_true, Bool.not_true, Bool.not_false]
        refine ih _ hlt ⟨rfl, p3, N3, q3, WNp_no w3 (by omega) (fun v' l' x' a1 a2 a3 a4 a5 a6 => ?_)⟩
        have ev : v' = v := by omega
        rw [ev, hb'] at a6
        exact absurd a6.1 (by decide)
    · have : v = 64 := by omega
      subst this
      simp (disch := omega) only [Nat.le_refl, SC (hs3), zl_eq, bsm, ZS, ZT, ZN, ZU, eq_self, true_and, and_true, and_self, or_true, true_or, or_false, false_or, not_true, not_false_eq_true, Nat.reduceAdd, Nat.reduceMul, Nat.reduceLT, Nat.reduceLeDiff, Nat.reduceEqDiff, ↓reduceIte, ZQ, Bool.true_eq_false, Bool.false_eq_true, Bool.not_true, Bool.not_false]
      rw [show 256 * 64 = 16384 from rfl] at w3
      exact wp_some ⟨rfl, (p1.trans p3).mono (by decide), N3, q3, w3⟩
  obtain ⟨⟨r, h'⟩, e, h1, p, N, q, w⟩ := key
  dsimp only at h1
  subst h1
  exact ⟨h', N, e, p, q, w⟩
theorem compress_big (hs : Sh h) (g : wM h 74 W) (hc : 8 < und (essW W) 64) : fX8_compressCore 73 31 h = some (nI (und (essW W) 64), h) := by
  have eb := lbc_ok (essW_lt W) h
  have et := trimW_ok hs g
  have hu := und_le (essW W) 64
  unfold fX8_compressCore bX8_compressCore_69
  simp (disch := omega) only [et, eb, eq_true hc, SC (hs), zl_eq, bsm, ZS, ZT, ZN, ZU, eq_self, true_and, and_true, and_self, or_true, true_or, or_false, false_or, not_true, not_false_eq_true, Nat.reduceAdd, Nat.reduceMul, Nat.reduceLT, Nat.reduceLeDiff, Nat.reduceEqDiff, ↓reduceIte, ZQ, Bool.true_eq_false, Bool.false_eq_true, Bool.not_true, Bool.not_false]
theorem storeWideC {G : Nat → Nat → Nat} {n t : Nat} {c : Nat → Nat} (hI : INVg G n c h) (ht : t < 6) (g : wM h 74 W) : (8 < und (essW W) 64 ∧ fX10_storeWide 0 (nI t) h = some (-3, h)) ∨ (und (essW W) 64 ≤ 8 ∧ ∃ h' N, fX10_storeWide 0 (nI t) h = some (nI (und (essW W) 64), h') ∧ midI G N t n c h' ∧ WNp W (essW W) N 16384) := by
  have hs := hI.1
  have hu := und_le (essW W) 64
  by_cases hc : 8 < und (essW W) 64
  · left
    refine ⟨hc, ?_⟩
    unfold fX10_storeWide
    simp (disch := omega) only [compress_big hs g hc, show ¬ (und (essW W) 64 ≤ 8) by omega, SC (hs), zl_eq, bsm, ZS, ZT, ZN, ZU, eq_self, true_and, and_true, and_self, or_true, true_or, or_false, false_or, not_true, not_false_eq_true, Nat.reduceAdd, Nat.reduceMul, Nat.reduceLT, Nat.reduceLeDiff, Nat.reduceEqDiff, ↓reduceIte, ZQ, Bool.true_eq_false, Bool.false_eq_true, Bool.not_true, Bool.not_false]
  · right
    refine ⟨by omega, ?_⟩
    obtain ⟨h1, N, e1, p1, q1, w1⟩ := compress_ok hs g (by omega)
    have g1 := hI.fr (fq.of p1 (by decide) (by decide))
    obtain ⟨h2, e2, m2, -, -⟩ := storeFresh_ok g1 ht q1
    refine ⟨h2, N, ?_, m2, w1⟩
    unfold fX10_storeWide
    simp (disch := omega) only [e1, show und (essW W) 64 ≤ 8 by omega, SC (hs), zl_eq, bsm, ZS, ZT, ZN, ZU, eq_self, true_and, and_true, and_self, or_true, true_or, or_false, false_or, not_true, not_false_eq_true, Nat.reduceAdd, Nat.reduceMul, Nat.reduceLT, Nat.reduceLeDiff, Nat.reduceEqDiff, ↓reduceIte, ZQ, Bool.true_eq_false, Bool.false_eq_true, Bool.not_true, Bool.not_false]
    rw [e2, bsm]
end W6
/-- each number is a member's -/
theorem und_surj {C : Nat} (n : Nat) : ∀ k, k < und C n → ∃ v, v < n ∧ C.testBit v = true ∧ und C v = k := by
  induction n with
  | zero => intro k hk; exact absurd hk (Nat.not_lt_zero _)
  | succ n ih =>
    intro k hk
    by_cases hb : C.testBit n = true
    · have h1 : und C (n + 1) = und C n + 1 := by unfold und; rw [cnt_one hb]
      by_cases e : k = und C n
      · exact ⟨n, by omega, hb, e.symm⟩
      · obtain ⟨v, h2, h3, h4⟩ := ih k (by omega)
        exact ⟨v, by omega, h3, h4⟩
    · have hb' : C.testBit n = false := by simpa using hb
      have h1 : und C (n + 1) = und C n := by unfold und; rw [cnt_zero hb']
      obtain ⟨v, h2, h3, h4⟩ := ih k (by omega)
      exact ⟨v, by omega, h3, h4⟩
