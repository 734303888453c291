/-! CALL: characteristic: matrices of longs -/
def sumL (f : Nat → Int64) : Nat → Int64
  | 0 => lN 0
  | n + 1 => sumL f n + f n
theorem sumL_cong {f g : Nat → Int64} : ∀ n, (∀ i, i < n → f i = g i) → sumL f n = sumL g n
  | 0, _ => rfl
  | n + 1, h => by rw [sumL, sumL, sumL_cong n (fun i hi => h i (by omega)), h n (by omega)]
theorem lN00 : lN 0 + lN 0 = lN 0 := by decide
theorem lN0 : lN 0 = (0 : Int64) := by decide
theorem sumL_zero {f : Nat → Int64} : ∀ n, (∀ i, i < n → f i = lN 0) → sumL f n = lN 0
  | 0, _ => rfl
  | n + 1, h => by rw [sumL, sumL_zero n (fun i hi => h i (by omega)), h n (by omega), lN00]
def MM (h : ZH) (a n : Nat) (F : Nat → Nat → Int64) : Prop := ∀ u v, u < n → v < n → zJ h a (8 * u + v) = F u v
def MMp (h : ZH) (a n : Nat) (F : Nat → Nat → Int64) (x y : Nat) : Prop := ∀ u v, u < n → v < n → (u < x ∨ (u = x ∧ v < y)) → zJ h a (8 * u + v) = F u v
section MMs
variable {h h' : ZH} {a n x y : Nat} {F : Nat → Nat → Int64}
theorem MMp_0 : MMp h a n F 0 0 := fun u v _ _ h => by omega
theorem MMp_row (g : MMp h a n F x n) : MMp h a n F (x + 1) 0 := fun u v hu hv h => g u v hu hv (by omega)
theorem MMp_end (g : MMp h a n F n 0) : MM h a n F := fun u v hu hv => g u v hu hv (by omega)
theorem MMp_put (hn : n ≤ 8) (hy : y < n) (g : MMp h a n F x y) {X : Int64} (e : X = F x y) : MMp (zsJ h (zu (zJ h) a (8 * x + y) X)) a n F x (y + 1) := fun u v hu hv h => by
  dsimp only [zJ_zsJ]
  rw [zu_at]
  by_cases q : 8 * u + v = 8 * x + y
  · rw [if_pos q, e, show u = x by omega, show v = y by omega]
  · rw [if_neg q]
    exact g u v hu hv (by omega)
theorem MM.fr {A : List Nat} (p : zfr A h h') (ha : a ∉ A) (g : MM h a n F) : MM h' a n F := fun u v hu hv => by rw [p.J ha]; exact g u v hu hv
theorem MMp.fr {A : List Nat} (p : zfr A h h') (ha : a ∉ A) (g : MMp h a n F x y) : MMp h' a n F x y := fun u v hu hv q => by rw [p.J ha]; exact g u v hu hv q
end MMs
/-- one step of the recurrence -/
def pmul (A N : Nat → Nat → Int64) (n u v : Nat) : Int64 := sumL (fun w => A u w * N w v) n
def padd (P : Nat → Nat → Int64) (c : Int64) (u v : Nat) : Int64 := P u v + (if u = v then c else lN 0)
def ptr (P : Nat → Nat → Int64) (n : Nat) : Int64 := sumL (fun v => P v v) n
def fl (A : Nat → Nat → Int64) (n : Nat) : Nat → (Nat → Nat → Int64) × Int64
  | 0 => (fun _ _ => lN 0, lN 1)
  | k + 1 => (pmul A (padd (fl A n k).1 (fl A n k).2) n, (-(ptr (pmul A (padd (fl A n k).1 (fl A n k).2) n) n)) / lN (k + 1))
theorem fl_1 (A : Nat → Nat → Int64) (n k : Nat) : (fl A n (k + 1)).1 = pmul A (padd (fl A n k).1 (fl A n k).2) n := rfl
theorem fl_2 (A : Nat → Nat → Int64) (n k : Nat) : (fl A n (k + 1)).2 = (-(ptr (fl A n (k + 1)).1 n)) / lN (k + 1) := rfl
section MU
variable {h : ZH} {A N : Nat → Nat → Int64}
theorem mulR_ok {n : Nat} (hs : Sh h) (hn : n ≤ 8) (e17 : zI h 117 17 = nI n) (gA : MM h 129 n A) (gN : MM h 130 n N) : ∃ h', fX11_multiply 117 h = some h' ∧ zfr [131] h h' ∧ MM h' 131 n (pmul A N n) := by
  have key : wp (fX11_multiply 117 h) (fun h' => zfr [131] h h' ∧ MM h' 131 n (pmul A N n)) := by
    unfold fX11_multiply
    simp (disch := omega) only [SR (hs), zl_eq, bsm, ZS, ZT, ZN, ZU, eq_self, true_and, and_true, and_self, or_true, true_or, or_false, false_or, not_true, not_false_eq_true, Nat.reduceAdd, Nat.reduceMul, Nat.reduceLT, Nat.reduceLeDiff, Nat.reduceEqDiff, ↓reduceIte, ZQ, Bool.true_eq_false, Bool.false_eq_true, Bool.not_true, Bool.not_false]
    refine wloop (fun x y => y.1 = nI x ∧ zfr [131] h y.2 ∧ MMp y.2 131 n (pmul A N n) x 0) n (fun x y self hx hy ih => ?_) (show n < 100000 by omega) ⟨rfl, zfr.refl h, MMp_0⟩
    obtain ⟨y, h1⟩ := y
    obtain ⟨rfl, p1, q1⟩ := hy
    dsimp only at p1 q1
    have hs1 := p1.shp hs
    have z1 : zI h1 117 17 = nI n := by rw [p1.I (by decide)]; exact e17
    show wp (kX11_multiply_2 117 self (nI x) h1) _
    unfold kX11_multiply_2
    by_cases hlt : x < n
    · simp (disch := omega) only [z1, Nat.not_le.mpr hlt, SR (hs1), zl_eq, bsm, ZS, ZT, ZN, ZU, eq_self, true_and, and_true, and_self, or_true, true_or, or_false, false_or, not_true, not_false_eq_true, Nat.reduceAdd, Nat.reduceMul, Nat.reduceLT, Nat.reduceLeDiff, Nat.reduceEqDiff, ↓reduceIte, ZQ, Bool.true_eq_false, Bool.false_eq_true, Bool.not_true, Bool.not_false]
      refine wloop (fun v y => y.1 = nI v ∧ zfr [131] h y.2 ∧ MMp y.2 131 n (pmul A N n) x v) n (fun v y self2 hv hy ih2 => ?_) (show n < 100000 by omega) ⟨rfl, p1, q1⟩
      obtain ⟨y, h2⟩ := y
      obtain ⟨rfl, p2, q2⟩ := hy
      dsimp only at p2 q2
      have hs2 := p2.shp hs
      have z2 : zI h2 117 17 = nI n := by rw [p2.I (by decide)]; exact e17
      show wp (kX11_multiply_12 self 117 (nI x) self2 (nI v) h2) _
      unfold kX11_multiply_12
      by_cases hlt2 : v < n
      · simp (disch := omega) only [z2, Nat.not_le.mpr hlt2, SR (hs2), zl_eq, bsm, ZS, ZT, ZN, ZU, eq_self, true_and, and_true, and_self, or_true, true_or, or_false, false_or, not_true, not_false_eq_true, Nat.reduceAdd, Nat.reduceMul, Nat.reduceLT, Nat.reduceLeDiff, Nat.reduceEqDiff, ↓reduceIte, ZQ, Bool.true_eq_false, Bool.false_eq_true, Bool.not_true, Bool.not_false]
        refine wloop (fun j z => z = (sumL (fun w => A x w * N w v) j, nI j, h2)) n (fun j z self3 hj hz ih3 => ?_) (show n < 100000 by omega) rfl
        subst hz
        show wp (kX11_multiply_25 self self2 117 (nI x) (nI v) self3 (sumL (fun w => A x w * N w v) j) (nI j) h2) _
        unfold kX11_multiply_25
        by_cases hlt3 : j < n
        · have a1 : zJ h2 129 (8 * x + j) = A x j := by rw [p2.J (by decide)]; exact gA x j hlt hlt3
          have a2 : zJ h2 130 (8 * j + v) = N j v := by rw [p2.J (by decide)]; exact gN j v hlt3 hlt2
          simp (disch := omega) only [z2, Nat.not_le.mpr hlt3, a1, a2, SR (hs2), zl_eq, bsm, ZS, ZT, ZN, ZU, eq_self, true_and, and_true, and_self, or_true, true_or, or_false, false_or, not_true, not_false_eq_true, Nat.reduceAdd, Nat.reduceMul, Nat.reduceLT, Nat.reduceLeDiff, Nat.reduceEqDiff, ↓reduceIte, ZQ, Bool.true_eq_false, Bool.false_eq_true, Bool.not_true, Bool.not_false]
          exact ih3 _ hlt3 rfl
        · have : j = n := by omega
          subst this
          simp (disch := omega) only [z2, Nat.le_refl, SR (hs2), zl_eq, bsm, ZS, ZT, ZN, ZU, eq_self, true_and, and_true, and_self, or_true, true_or, or_false, false_or, not_true, not_false_eq_true, Nat.reduceAdd, Nat.reduceMul, Nat.reduceLT, Nat.reduceLeDiff, Nat.reduceEqDiff, ↓reduceIte, ZQ, Bool.true_eq_false, Bool.false_eq_true, Bool.not_true, Bool.not_false]
          exact ih2 _ hlt2 ⟨rfl, p2.same zfr_uJ, MMp_put hn hlt2 q2 rfl⟩
      · have : v = n := by omega
        subst this
        simp (disch := omega) only [z2, Nat.le_refl, SR (hs2), zl_eq, bsm, ZS, ZT, ZN, ZU, eq_self, true_and, and_true, and_self, or_true, true_or, or_false, false_or, not_true, not_false_eq_true, Nat.reduceAdd, Nat.reduceMul, Nat.reduceLT, Nat.reduceLeDiff, Nat.reduceEqDiff, ↓reduceIte, ZQ, Bool.true_eq_false, Bool.false_eq_true, Bool.not_true, Bool.not_false]
        exact ih _ hlt ⟨rfl, p2, MMp_row q2⟩
    · have : x = n := by omega
      subst this
      simp (disch := omega) only [z1, Nat.le_refl, SR (hs1), zl_eq, bsm, ZS, ZT, ZN, ZU, eq_self, true_and, and_true, and_self, or_true, true_or, or_false, false_or, not_true, not_false_eq_true, Nat.reduceAdd, Nat.reduceMul, Nat.reduceLT, Nat.reduceLeDiff, Nat.reduceEqDiff, ↓reduceIte, ZQ, Bool.true_eq_false, Bool.false_eq_true, Bool.not_true, Bool.not_false]
      exact wp_some ⟨p1, MMp_end q1⟩
  obtain ⟨h', e, p, q⟩ := key
  exact ⟨h', e, p, q⟩
theorem mulC_ok (hs : Sh h) (gA : MM h 77 8 A) (gN : MM h 78 8 N) : ∃ h', fX5_multiply 76 h = some h' ∧ zfr [79] h h' ∧ MM h' 79 8 (pmul A N 8) := by
  have key : wp (fX5_multiply 76 h) (fun h' => zfr [79] h h' ∧ MM h' 79 8 (pmul A N 8)) := by
    unfold fX5_multiply
    simp (disch := omega) only [SC (hs), zl_eq, bsm, ZS, ZT, ZN, ZU, eq_self, true_and, and_true, and_self, or_true, true_or, or_false, false_or, not_true, not_false_eq_true, Nat.reduceAdd, Nat.reduceMul, Nat.reduceLT, Nat.reduceLeDiff, Nat.reduceEqDiff, ↓reduceIte, ZQ, Bool.true_eq_false, Bool.false_eq_true, Bool.not_true, Bool.not_false]
    refine wloop (fun x y => y.1 = nI x ∧ zfr [79] h y.2 ∧ MMp y.2 79 8 (pmul A N 8) x 0) 8 (fun x y self hx hy ih => ?_) (by decide) ⟨rfl, zfr.refl h, MMp_0⟩
    obtain ⟨y, h1⟩ := y
    obtain ⟨rfl, p1, q1⟩ := hy
    dsimp only at p1 q1
    have hs1 := p1.shp hs
    show wp (kX5_multiply_2 76 self (nI x) h1) _
    unfold kX5_multiply_2
    by_cases hlt : x < 8
    · simp (disch := omega) only [Nat.not_le.mpr hlt, SC (hs1), zl_eq, bsm, ZS, ZT, ZN, ZU, eq_self, true_and, and_true, and_self, or_true, true_or, or_false, false_or, not_true, not_false_eq_true, Nat.reduceAdd, Nat.reduceMul, Nat.reduceLT, Nat.reduceLeDiff, Nat.reduceEqDiff, ↓reduceIte, ZQ, Bool.true_eq_false, Bool.false_eq_true, Bool.not_true, Bool.not_false]
      refine wloop (fun v y => y.1 = nI v ∧ zfr [79] h y.2 ∧ MMp y.2 79 8 (pmul A N 8) x v) 8 (fun v y self2 hv hy ih2 => ?_) (by decide) ⟨rfl, p1, q1⟩
      obtain ⟨y, h2⟩ := y
      obtain ⟨rfl, p2, q2⟩ := hy
      dsimp only at p2 q2
      have hs2 := p2.shp hs
      show wp (kX5_multiply_10 self 76 (nI x) self2 (nI v) h2) _
      unfold kX5_multiply_10
      by_cases hlt2 : v < 8
      · simp (disch := omega) only [Nat.not_le.mpr hlt2, SC (hs2), zl_eq, bsm, ZS, ZT, ZN, ZU, eq_self, true_and, and_true, and_self, or_true, true_or, or_false, false_or, not_true, not_false_eq_true, Nat.reduceAdd, Nat.reduceMul, Nat.reduceLT, Nat.reduceLeDiff, Nat.reduceEqDiff, ↓reduceIte, ZQ, Bool.true_eq_false, Bool.false_eq_true, Bool.not_true, Bool.not_false]
        refine wloop (fun j z => z = (sumL (fun w => A x w * N w v) j, nI j, h2)) 8 (fun j z self3 hj hz ih3 => ?_) (by decide) rfl
        subst hz
        show wp (kX5_multiply_21 self self2 76 (nI x) (nI v) self3 (sumL (fun w => A x w * N w v) j) (nI j) h2) _
        unfold kX5_multiply_21
        by_cases hlt3 : j < 8
        · have a1 : zJ h2 77 (8 * x + j) = A x j := by rw [p2.J (by decide)]; exact gA x j hlt hlt3
          have a2 : zJ h2 78 (8 * j + v) = N j v := by rw [p2.J (by decide)]; exact gN j v hlt3 hlt2
          simp (disch := omega) only [Nat.not_le.mpr hlt3, a1, a2, SC (hs2), zl_eq, bsm, ZS, ZT, ZN, ZU, eq_self, true_and, and_true, and_self, or_true, true_or, or_false, false_or, not_true, not_false_eq_true, Nat.reduceAdd, Nat.reduceMul, Nat.reduceLT, Nat.reduceLeDiff, Nat.reduceEqDiff, ↓reduceIte, ZQ, Bool.true_eq_false, Bool.false_eq_true, Bool.not_true, Bool.not_false]
          exact ih3 _ hlt3 rfl
        · have : j = 8 := by omega
          subst this
          simp (disch := omega) only [Nat.le_refl, SC (hs2), zl_eq, bsm, ZS, ZT, ZN, ZU, eq_self, true_and, and_true, and_self, or_true, true_or, or_false, false_or, not_true, not_false_eq_true, Nat.reduceAdd, Nat.reduceMul, Nat.reduceLT, Nat.reduceLeDiff, Nat.reduceEqDiff, ↓reduceIte, ZQ, Bool.true_eq_false, Bool.false_eq_true, Bool.not_true, Bool.not_false]
          exact ih2 _ hlt2 ⟨rfl, p2.same zfr_uJ, MMp_put (Nat.le_refl 8) hlt2 q2 rfl⟩
      · have : v = 8 := by omega
        subst this
        simp (disch := omega) only [Nat.le_refl, SC (hs2), zl_eq, bsm, ZS, ZT, ZN, ZU, eq_self, true_and, and_true, and_self, or_true, true_or, or_false, false_or, not_true, not_false_eq_true, Nat.reduceAdd, Nat.reduceMul, Nat.reduceLT, Nat.reduceLeDiff, Nat.reduceEqDiff, ↓reduceIte, ZQ, Bool.true_eq_false, Bool.false_eq_true, Bool.not_true, Bool.not_false]
        exact ih _ hlt ⟨rfl, p2, MMp_row q2⟩
    · have : x = 8 := by omega
      subst this
      simp (disch := omega) only [Nat.le_refl, SC (hs1), zl_eq, bsm, ZS, ZT, ZN, ZU, eq_self, true_and, and_true, and_self, or_true, true_or, or_false, false_or, not_true, not_false_eq_true, Nat.reduceAdd, Nat.reduceMul, Nat.reduceLT, Nat.reduceLeDiff, Nat.reduceEqDiff, ↓reduceIte, ZQ, Bool.true_eq_false, Bool.false_eq_true, Bool.not_true, Bool.not_false]
      exact wp_some ⟨p1, MMp_end q1⟩
  obtain ⟨h', e, p, q⟩ := key
  exact ⟨h', e, p, q⟩
theorem traceC_ok (hs : Sh h) (gN : MM h 79 8 N) : fX5_trace 76 h = some (ptr N 8, h) := by
  unfold fX5_trace
  simp (disch := omega) only [SC (hs), zl_eq, bsm, ZS, ZT, ZN, ZU, eq_self, true_and, and_true, and_self, or_true, true_or, or_false, false_or, not_true, not_false_eq_true, Nat.reduceAdd, Nat.reduceMul, Nat.reduceLT, Nat.reduceLeDiff, Nat.reduceEqDiff, ↓reduceIte, ZQ, Bool.true_eq_false, Bool.false_eq_true, Bool.not_true, Bool.not_false]
  refine zloop_run (fun j => (sumL (fun v => N v v) j, nI j, h)) 8 (fun j hj self => ?_) (fun self => ?_) (by decide)
  · show kX5_trace_4 76 self (sumL (fun v => N v v) j) (nI j) h = _
    unfold kX5_trace_4
    have a1 := gN j j hj hj
    simp (disch := omega) only [Nat.not_le.mpr hj, a1, SC (hs), zl_eq, bsm, ZS, ZT, ZN, ZU, eq_self, true_and, and_true, and_self, or_true, true_or, or_false, false_or, not_true, not_false_eq_true, Nat.reduceAdd, Nat.reduceMul, Nat.reduceLT, Nat.reduceLeDiff, Nat.reduceEqDiff, ↓reduceIte, ZQ, Bool.true_eq_false, Bool.false_eq_true, Bool.not_true, Bool.not_false]
    rfl
  · show kX5_trace_4 76 self (sumL (fun v => N v v) 8) (nI 8) h = _
    unfold kX5_trace_4
    simp (disch := omega) only [Nat.le_refl, SC (hs), zl_eq, bsm, ZS, ZT, ZN, ZU, eq_self, true_and, and_true, and_self, or_true, true_or, or_false, false_or, not_true, not_false_eq_true, Nat.reduceAdd, Nat.reduceMul, Nat.reduceLT, Nat.reduceLeDiff, Nat.reduceEqDiff, ↓reduceIte, ZQ, Bool.true_eq_false, Bool.false_eq_true, Bool.not_true, Bool.not_false]
    rfl
/-! the numbers of edges -/
def cE (M : Nat → Nat) (u v : Nat) : Nat → Nat
  | 0 => 0
  | l + 1 => cE M u v l + ((M (4 * u + l)).testBit v).toNat
theorem cE_le {M : Nat → Nat} {u v : Nat} : ∀ l, cE M u v l ≤ l
  | 0 => Nat.le_refl _
  | l + 1 => by
    have := cE_le (M := M) (u := u) (v := v) l
    rw [cE]
    cases (M (4 * u + l)).testBit v <;> simp only [Bool.toNat_true, Bool.toNat_false] <;> omega
theorem cE_cong {M M' : Nat → Nat} {u v u' v' : Nat} : ∀ l, (∀ i, i < l → (M (4 * u + i)).testBit v = (M' (4 * u' + i)).testBit v') → cE M u v l = cE M' u' v' l
  | 0, _ => rfl
  | l + 1, h => by rw [cE, cE, cE_cong l (fun i hi => h i (by omega)), h l (by omega)]
def mE (M : Nat → Nat) (u v : Nat) : Int64 := lN (cE M u v 4)
theorem countEC_ok {M : Nat → Nat} (hs : Sh h) (gM : hasM h 34 M) : ∃ h', fX5_countEdges 76 33 h = some h' ∧ zfr [77] h h' ∧ MM h' 77 8 (mE M) := by
  have key : wp (fX5_countEdges 76 33 h) (fun h' => zfr [77] h h' ∧ MM h' 77 8 (mE M)) := by
    unfold fX5_countEdges
    simp (disch := omega) only [SC (hs), zl_eq, bsm, ZS, ZT, ZN, ZU, eq_self, true_and, and_true, and_self, or_true, true_or, or_false, false_or, not_true, not_false_eq_true, Nat.reduceAdd, Nat.reduceMul, Nat.reduceLT, Nat.reduceLeDiff, Nat.reduceEqDiff, ↓reduceIte, ZQ, Bool.true_eq_false, Bool.false_eq_true, Bool.not_true, Bool.not_false]
    refine wloop (fun x y => y.1 = nI x ∧ zfr [77] h y.2 ∧ MMp y.2 77 8 (mE M) x 0) 8 (fun x y self hx hy ih => ?_) (by decide) ⟨rfl, zfr.refl h, MMp_0⟩
    obtain ⟨y, h1⟩ := y
    obtain ⟨rfl, p1, q1⟩ := hy
    dsimp only at p1 q1
    have hs1 := p1.shp hs
    show wp (kX5_countEdges_2 76 33 self (nI x) h1) _
    unfold kX5_countEdges_2
    by_cases hlt : x < 8
    · simp (disch := omega) only [Nat.not_le.mpr hlt, SC (hs1), zl_eq, bsm, ZS, ZT, ZN, ZU, eq_self, true_and, and_true, and_self, or_true, true_or, or_false, false_or, not_true, not_false_eq_true, Nat.reduceAdd, Nat.reduceMul, Nat.reduceLT, Nat.reduceLeDiff, Nat.reduceEqDiff, ↓reduceIte, ZQ, Bool.true_eq_false, Bool.false_eq_true, Bool.not_true, Bool.not_false]
      refine wloop (fun v y => y.1 = nI v ∧ zfr [77] h y.2 ∧ MMp y.2 77 8 (mE M) x v) 8 (fun v y self2 hv hy ih2 => ?_) (by decide) ⟨rfl, p1, q1⟩
      obtain ⟨y, h2⟩ := y
      obtain ⟨rfl, p2, q2⟩ := hy
      dsimp only at p2 q2
      have hs2 := p2.shp hs
      show wp (kX5_countEdges_10 self 76 33 (nI x) self2 (nI v) h2) _
      unfold kX5_countEdges_10
      by_cases hlt2 : v < 8
      · simp (disch := omega) only [Nat.not_le.mpr hlt2, SC (hs2), zl_eq, bsm, ZS, ZT, ZN, ZU, eq_self, true_and, and_true, and_self, or_true, true_or, or_false, false_or, not_true, not_false_eq_true, Nat.reduceAdd, Nat.reduceMul, Nat.reduceLT, Nat.reduceLeDiff, Nat.reduceEqDiff, ↓reduceIte, ZQ, Bool.true_eq_false, Bool.false_eq_true, Bool.not_true, Bool.not_false]
        refine wloop (fun j z => z = (nI (cE M x v j), nI j, h2)) 4 (fun j z self3 hj hz ih3 => ?_) (by decide) rfl
        subst hz
        show wp (kX5_countEdges_22 self self2 76 33 (nI x) (nI v) self3 (nI (cE M x v j)) (nI j) h2) _
        unfold kX5_countEdges_22 bX5_countEdges_46
        by_cases hlt3 : j < 4
        · have e1 := has_ok (g33 hs2) (p2.hasM (by decide) gM) hlt hlt3 hlt2
          cases hb : (M (4 * x + j)).testBit v with
          | true =>
            rw [hb, Bool.toNat_true] at e1
            simp (disch := omega) only [Nat.not_le.mpr hlt3, e1, SC (hs2), zl_eq, bsm, ZS, ZT, ZN, ZU, eq_self, true_and, and_true, and_self, or_true, true_or, or_false, false_or, not_true, not_false_eq_true, Nat.reduceAdd, Nat.reduceMul, Nat.reduceLT, Nat.reduceLeDiff, Nat.reduceEqDiff, ↓reduceIte, ZQ, Bool.true_eq_false, Bool.false_eq_true, Bool.not_true, Bool.not_false]
            exact ih3 _ hlt3 (by rw [cE, hb, Bool.toNat_true])
          | false =>
            rw [hb, Bool.toNat_false] at e1
            simp (disch := omega) only [Nat.not_le.mpr hlt3, e1, SC (hs2), zl_eq, bsm, ZS, ZT, ZN, ZU, eq_self, true_and, and_true, and_self, or_true, true_or, or_false, false_or, not_true, not_false_eq_true, Nat.reduceAdd, Nat.reduceMul, Nat.reduceLT, Nat.reduceLeDiff, Nat.reduceEqDiff, ↓reduceIte, ZQ, Bool.true_eq_false, Bool.false_eq_true, Bool.not_true, Bool.not_false]
            exact ih3 _ hlt3 (by rw [cE, hb, Bool.toNat_false])
        · have : j = 4 := by omega
          subst this
          have hc := cE_le (M := M) (u := x) (v := v) 4
          simp (disch := omega) only [Nat.le_refl, i64 (cE M x v 4) (by omega), SC (hs2), zl_eq, bsm, ZS, ZT, ZN, ZU, eq_self, true_and, and_true, and_self, or_true, true_or, or_false, false_or, not_true, not_false_eq_true, Nat.reduceAdd, Nat.reduceMul, Nat.reduceLT, Nat.reduceLeDiff, Nat.reduceEqDiff, ↓reduceIte, ZQ, Bool.true_eq_false, Bool.false_eq_true, Bool.not_true, Bool.not_false]
          exact ih2 _ hlt2 ⟨rfl, p2.same zfr_uJ, MMp_put (Nat.le_refl 8) hlt2 q2 rfl⟩
      · have : v = 8 := by omega
        subst this
        simp (disch := omega) only [Nat.le_refl, SC (hs2), zl_eq, bsm, ZS, ZT, ZN, ZU, eq_self, true_and, and_true, and_self, or_true, true_or, or_false, false_or, not_true, not_false_eq_true, Nat.reduceAdd, Nat.reduceMul, Nat.reduceLT, Nat.reduceLeDiff, Nat.reduceEqDiff, ↓reduceIte, ZQ, Bool.true_eq_false, Bool.false_eq_true, Bool.not_true, Bool.not_false]
        exact ih _ hlt ⟨rfl, p2, MMp_row q2⟩
    · have : x = 8 := by omega
      subst this
      simp (disch := omega) only [Nat.le_refl, SC (hs1), zl_eq, bsm, ZS, ZT, ZN, ZU, eq_self, true_and, and_true, and_self, or_true, true_or, or_false, false_or, not_true, not_false_eq_true, Nat.reduceAdd, Nat.reduceMul, Nat.reduceLT, Nat.reduceLeDiff, Nat.reduceEqDiff, ↓reduceIte, ZQ, Bool.true_eq_false, Bool.false_eq_true, Bool.not_true, Bool.not_false]
      exact wp_some ⟨p1, MMp_end q1⟩
  obtain ⟨h', e, p, q⟩ := key
  exact ⟨h', e, p, q⟩
end MU
