/-! CALL: forbid: the two graphs -/
theorem wM.cong {h : ZH} {a : Nat} {W W' : Nat → Nat} (g : wM h a W) (e : ∀ j, j < 256 → W j = W' j) : wM h a W' := fun j hj => by rw [← e j hj]; exact g j hj
def fW (w : Nat → Nat) (n : Nat) (M : Nat → Nat) (i : Nat) : Nat := if i / 4 % 8 < n ∧ ov w (i / 4 % 8) (i % 4) (i / 4 % 8 + 1) < n then prd (M (4 * (i / 32) + i % 4)) (2 ^ ov w (i / 4 % 8) (i % 4) (i / 4 % 8 + 1)) 8 else 0
theorem fW_at {w M : Nat → Nat} {n v k l : Nat} (hk : k < 8) (hl : l < 4) : fW w n M (4 * (8 * v + k) + l) = if k < n ∧ ov w k l (k + 1) < n then prd (M (4 * v + l)) (2 ^ ov w k l (k + 1)) 8 else 0 := by
  unfold fW
  rw [show (4 * (8 * v + k) + l) / 32 = v by omega, show (4 * (8 * v + k) + l) % 4 = l by omega, show (4 * (8 * v + k) + l) / 4 % 8 = k by omega]
/-- the object fills row by row, the word's places first -/
def uV (W : Nat → Nat) (e i : Nat) : Nat := if (i / 4 % 8 * 4 + i % 4) * 8 + i / 32 < e then W i else 0
theorem idx3 {i : Nat} (hi : i < 256) : ∃ v k l, v < 8 ∧ k < 8 ∧ l < 4 ∧ i = 4 * (8 * v + k) + l ∧ i / 4 % 8 = k ∧ i % 4 = l ∧ i / 32 = v := by
  refine ⟨i / 32, i / 4 % 8, i % 4, by omega, by omega, by omega, ?_, rfl, rfl, rfl⟩
  omega
theorem uV_put {W : Nat → Nat} {v k l : Nat} (hv : v < 8) (hk : k < 8) (hl : l < 4) : ∀ i, i < 256 → upM (uV W ((k * 4 + l) * 8 + v)) (4 * (8 * v + k) + l) (W (4 * (8 * v + k) + l)) i = uV W ((k * 4 + l) * 8 + v + 1) i := by
  intro i hi
  obtain ⟨v', k', l', h1, h2, h3, rfl, h5, h6, h7⟩ := idx3 hi
  unfold upM uV
  rw [h5, h6, h7]
  by_cases e : 4 * (8 * v' + k') + l' = 4 * (8 * v + k) + l
  · rw [if_pos e, if_pos (by omega), e]
  · rw [if_neg e]
    by_cases e2 : (k' * 4 + l') * 8 + v' < (k * 4 + l) * 8 + v
    · rw [if_pos e2, if_pos (by omega)]
    · rw [if_neg e2, if_neg (by omega)]
theorem uV_at {W : Nat → Nat} {v k l : Nat} (hv : v < 8) (hk : k < 8) (hl : l < 4) : uV W ((k * 4 + l) * 8 + v) (4 * (8 * v + k) + l) = 0 := by
  unfold uV
  rw [show (4 * (8 * v + k) + l) / 32 = v by omega, show (4 * (8 * v + k) + l) % 4 = l by omega, show (4 * (8 * v + k) + l) / 4 % 8 = k by omega, if_neg (by omega)]
theorem uV_skip {W : Nat → Nat} {k l : Nat} (hk : k < 8) (hl : l < 4) (z : ∀ v, v < 8 → W (4 * (8 * v + k) + l) = 0) : ∀ i, i < 256 → uV W ((k * 4 + l) * 8) i = uV W ((k * 4 + (l + 1)) * 8) i := by
  intro i hi
  obtain ⟨v', k', l', h1, h2, h3, rfl, h5, h6, h7⟩ := idx3 hi
  unfold uV
  rw [h5, h6, h7]
  by_cases e : (k' * 4 + l') * 8 + v' < (k * 4 + l) * 8
  · rw [if_pos e, if_pos (by omega)]
  · rw [if_neg e]
    by_cases e2 : (k' * 4 + l') * 8 + v' < (k * 4 + (l + 1)) * 8
    · clear h5 h6 h7
      have e4 : k' * 4 + l' = k * 4 + l := by
        generalize k' * 4 + l' = X at e e2 ⊢
        rw [show (k * 4 + (l + 1)) = k * 4 + l + 1 from rfl] at e2
        generalize k * 4 + l = Y at e e2 ⊢
        omega
      have e3 : k' = k ∧ l' = l := by omega
      rw [if_pos e2, e3.1, e3.2, z v' h1]
    · rw [if_neg e2]
section FT
variable {h : ZH}
theorem track_ok {G : Nat → Nat → Nat} {n s : Nat} {c : Nat → Nat} (hI : INVg G n c h) (h6 : s < 6) (n1 : 1 ≤ n) (n6 : n ≤ 6) (hw : ∀ i, i < n → 97 ≤ c i ∧ c i ≤ 100) : ∃ h', fX10_trackInput 0 (81 + 4 * s) h = some h' ∧ zfr [74] h h' ∧ wM h' 74 (fW (fun j => c j - 97) n (G s)) := by
  have key : wp (fX10_trackInput 0 (81 + 4 * s) h) (fun h' => zfr [74] h h' ∧ wM h' 74 (fW (fun j => c j - 97) n (G s))) := by
    have hs := hI.1
    have hG := hI.2.1
    obtain ⟨h0, e0, p0, q0⟩ := clear8_ok hs
    have g0 := hI.fr (fq73 p0)
    have hs0 := g0.1
    have el := len_ok (T26 hs0) g0.2.2.1.2.1
    unfold fX10_trackInput
    simp (disch := omega) only [e0, SC (hs), zl_eq, bsm, ZS, ZT, ZN, ZU, eq_self, true_and, and_true, and_self, or_true, true_or, or_false, false_or, not_true, not_false_eq_true, Nat.reduceAdd, Nat.reduceMul, Nat.reduceLT, Nat.reduceLeDiff, Nat.reduceEqDiff, ↓reduceIte, ZQ, Bool.true_eq_false, Bool.false_eq_true, Bool.not_true, Bool.not_false]
    simp (disch := omega) only [el, SC (hs0), zl_eq, bsm, ZS, ZT, ZN, ZU, eq_self, true_and, and_true, and_self, or_true, true_or, or_false, false_or, not_true, not_false_eq_true, Nat.reduceAdd, Nat.reduceMul, Nat.reduceLT, Nat.reduceLeDiff, Nat.reduceEqDiff, ↓reduceIte, ZQ, Bool.true_eq_false, Bool.false_eq_true, Bool.not_true, Bool.not_false]
    refine wloop (fun k y => y.1 = nI k ∧ zfr [74] h y.2 ∧ wM y.2 74 (uV (fW (fun j => c j - 97) n (G s)) ((k * 4 + 0) * 8))) n (fun k y self hk hy ih => ?_) (show n < 100000 by omega) ⟨rfl, p0, q0.cong (fun j hj => by unfold uV; rw [if_neg (by omega)])⟩
    obtain ⟨y, h1⟩ := y
    obtain ⟨rfl, p1, q1⟩ := hy
    dsimp only at p1 q1
    have g1 := hI.fr (fq73 p1)
    show wp (kX10_trackInput_17 0 (81 + 4 * s) (nI n) self (nI k) h1) _
    unfold kX10_trackInput_17 bX10_trackInput_111
    by_cases hlt : k < n
    · simp (disch := omega) only [Nat.not_le.mpr hlt, show ¬ (6 ≤ k) by omega, SC (g1.1), zl_eq, bsm, ZS, ZT, ZN, ZU, eq_self, true_and, and_true, and_self, or_true, true_or, or_false, false_or, not_true, not_false_eq_true, Nat.reduceAdd, Nat.reduceMul, Nat.reduceLT, Nat.reduceLeDiff, Nat.reduceEqDiff, ↓reduceIte, ZQ, Bool.true_eq_false, Bool.false_eq_true, Bool.not_true, Bool.not_false]
      refine wloop (fun l y => y.1 = nI l ∧ zfr [74] h y.2 ∧ wM y.2 74 (uV (fW (fun j => c j - 97) n (G s)) ((k * 4 + l) * 8))) 4 (fun l y self2 hl hy ih2 => ?_) (by decide) ⟨rfl, p1, q1⟩
      obtain ⟨y, h2⟩ := y
      obtain ⟨rfl, p2, q2⟩ := hy
      dsimp only at p2 q2
      have g2 := hI.fr (fq73 p2)
      show wp (kX10_trackInput_31 self 0 (81 + 4 * s) (nI n) (nI k) self2 (nI l) h2) _
      unfold kX10_trackInput_31
      by_cases hlt2 : l < 4
      · have i := g2.2.2.1
        have eo := overlap_ok (k := k) (l := l) g2.1 i.1 i.2.1 (fun j hj => ⟨(i.2.2.2 j hj).1, hw j hj⟩) hlt hlt2
        have ol := ov_le (w := fun j => c j - 97) (k := k) (l := l) (k + 1)
        by_cases hq : ov (fun j => c j - 97) k l (k + 1) < n
        · have fw : ∀ v, fW (fun j => c j - 97) n (G s) (4 * (8 * v + k) + l) = prd (G s (4 * v + l)) (2 ^ ov (fun j => c j - 97) k l (k + 1)) 8 := fun v => by rw [fW_at (by omega) hlt2, if_pos ⟨hlt, hq⟩]
          generalize ov (fun j => c j - 97) k l (k + 1) = q at eo hq fw
          have hq256 : 2 ^ q < 256 := show 2 ^ q < 2 ^ 8 from Nat.pow_lt_pow_right (by decide) (by omega)
          simp (disch := omega) only [Nat.not_le.mpr hlt2, eo, Nat.not_le.mpr hq, SC (g2.1), zl_eq, bsm, ZS, ZT, ZN, ZU, eq_self, true_and, and_true, and_self, or_true, true_or, or_false, false_or, not_true, not_false_eq_true, Nat.reduceAdd, Nat.reduceMul, Nat.reduceLT, Nat.reduceLeDiff, Nat.reduceEqDiff, ↓reduceIte, ZQ, Bool.true_eq_false, Bool.false_eq_true, Bool.not_true, Bool.not_false]
          refine wloop (fun v y => y.1 = nI v ∧ zfr [74] h y.2 ∧ wM y.2 74 (uV (fW (fun j => c j - 97) n (G s)) ((k * 4 + l) * 8 + v))) 8 (fun v y self3 hv hy ih3 => ?_) (by decide) ⟨rfl, p2, q2⟩
          obtain ⟨y, h3⟩ := y
          obtain ⟨rfl, p3, q3⟩ := hy
          dsimp only at p3 q3
          have g3 := hI.fr (fq73 p3)
          show wp (kX10_trackInput_55 self self2 0 (81 + 4 * s) (nI n) (nI k) (nI l) (nI q) self3 (nI v) h3) _
          unfold kX10_trackInput_55 bX10_trackInput_99
          by_cases hlt3 : v < 8
          · have b1 := (hG s h6 (4 * v + l) (by omega)).2.2
            obtain ⟨h4, e4, p4, q4⟩ := wlink_ok (v := 8 * v + k) (l := l) g3.1 q3 (by omega) hlt2 (prd_lt (a := G s (4 * v + l)) hq256 8 (Nat.le_refl _))
            simp (disch := omega) only [Nat.not_le.mpr hlt3, row_ok (gS g3.1 h6) (g3.2.1.m h6) hlt3 hlt2, product_ok b1 hq256, e4, SC (g3.1), zl_eq, bsm, ZS, ZT, ZN, ZU, eq_self, true_and, and_true, and_self, or_true, true_or, or_false, false_or, not_true, not_false_eq_true, Nat.reduceAdd, Nat.reduceMul, Nat.reduceLT, Nat.reduceLeDiff, Nat.reduceEqDiff, ↓reduceIte, ZQ, Bool.true_eq_false, Bool.false_eq_true, Bool.not_true, Bool.not_false]
            refine ih3 _ hlt3 ⟨rfl, p3.same p4, ?_⟩
            rw [uV_at hlt3 (by omega) hlt2, Nat.zero_or, ← fw v] at q4
            exact q4.cong (uV_put hlt3 (by omega) hlt2)
          · have : v = 8 := by omega
            subst this
            simp (disch := omega) only [Nat.le_refl, SC (g3.1), zl_eq, bsm, ZS, ZT, ZN, ZU, eq_self, true_and, and_true, and_self, or_true, true_or, or_false, false_or, not_true, not_false_eq_true, Nat.reduceAdd, Nat.reduceMul, Nat.reduceLT, Nat.reduceLeDiff, Nat.reduceEqDiff, ↓reduceIte, ZQ, Bool.true_eq_false, Bool.false_eq_true, Bool.not_true, Bool.not_false]
            exact ih2 _ hlt2 ⟨rfl, p3, by rw [show (k * 4 + (l + 1)) * 8 = (k * 4 + l) * 8 + 8 by omega]; exact q3⟩
        · have fz : ∀ v, v < 8 → fW (fun j => c j - 97) n (G s) (4 * (8 * v + k) + l) = 0 := fun v hv => by rw [fW_at (by omega) hlt2, if_neg (fun z => hq z.2)]
          unfold bX10_trackInput_99
          simp (disch := omega) only [Nat.not_le.mpr hlt2, eo, eq_true (Nat.not_lt.mp hq), SC (g2.1), zl_eq, bsm, ZS, ZT, ZN, ZU, eq_self, true_and, and_true, and_self, or_true, true_or, or_false, false_or, not_true, not_false_eq_true, Nat.reduceAdd, Nat.reduceMul, Nat.reduceLT, Nat.reduceLeDiff, Nat.reduceEqDiff, ↓reduceIte, ZQ, Bool.true_eq_false, Bool.false_eq_true, Bool.not_true, Bool.not_false]
          exact ih2 _ hlt2 ⟨rfl, p2, q2.cong (uV_skip (by omega) hlt2 fz)⟩
      · have : l = 4 := by omega
        subst this
        simp (disch := omega) only [Nat.le_refl, SC (g2.1), zl_eq, bsm, ZS, ZT, ZN, ZU, eq_self, true_and, and_true, and_self, or_true, true_or, or_false, false_or, not_true, not_false_eq_true, Nat.reduceAdd, Nat.reduceMul, Nat.reduceLT, Nat.reduceLeDiff, Nat.reduceEqDiff, ↓reduceIte, ZQ, Bool.true_eq_false, Bool.false_eq_true, Bool.not_true, Bool.not_false]
        exact ih _ hlt ⟨rfl, p2, by rw [show ((k + 1) * 4 + 0) * 8 = (k * 4 + 4) * 8 by omega]; exact q2⟩
    · have : k = n := by omega
      subst this
      simp (disch := omega) only [Nat.le_refl, SC (g1.1), zl_eq, bsm, ZS, ZT, ZN, ZU, eq_self, true_and, and_true, and_self, or_true, true_or, or_false, false_or, not_true, not_false_eq_true, Nat.reduceAdd, Nat.reduceMul, Nat.reduceLT, Nat.reduceLeDiff, Nat.reduceEqDiff, ↓reduceIte, ZQ, Bool.true_eq_false, Bool.false_eq_true, Bool.not_true, Bool.not_false]
      refine wp_some ⟨p1, q1.cong (fun i hi => ?_)⟩
      obtain ⟨v', k', l', h1, h2, h3, rfl, h5, h6, h7⟩ := idx3 hi
      unfold uV
      rw [h5, h6, h7]
      by_cases e : k' < k
      · rw [if_pos (by omega)]
      · rw [if_neg (by omega), fW_at h2 h3, if_neg (fun z => e z.1)]
  obtain ⟨h', e, p, q⟩ := key
  exact ⟨h', e, p, q⟩
end FT
def prn (a n q : Nat) : Nat → Nat
  | 0 => 0
  | j + 1 => prn a n q j ||| (if a.testBit j = true then 2 ^ (n * j + q) else 0)
theorem prn_lt {a n q : Nat} (ha : ∀ j, j < 8 → a.testBit j = true → n * j + q < 64) : ∀ k, k ≤ 8 → prn a n q k < 2 ^ 64
  | 0, _ => by rw [prn]; decide
  | k + 1, hk => by
    rw [prn]
    refine Nat.or_lt_two_pow (prn_lt ha k (by omega)) ?_
    split
    · rename_i hb
      exact Nat.pow_lt_pow_right (by decide) (ha k (by omega) hb)
    · decide
theorem prn_bit {a n q i : Nat} : ∀ k, (prn a n q k).testBit i = true ↔ ∃ j, j < k ∧ a.testBit j = true ∧ n * j + q = i
  | 0 => by
    rw [prn, Nat.zero_testBit]
    constructor
    · intro h; cases h
    · rintro ⟨j, hj, -⟩; omega
  | k + 1 => by
    rw [prn, Nat.testBit_or, Bool.or_eq_true, prn_bit k]
    constructor
    · rintro (⟨j, h1, h2, h3⟩ | h)
      · exact ⟨j, by omega, h2, h3⟩
      · by_cases hb : a.testBit k = true
        · rw [if_pos hb, Nat.testBit_two_pow] at h
          exact ⟨k, by omega, hb, of_decide_eq_true h⟩
        · rw [if_neg hb, Nat.zero_testBit] at h
          cases h
    · rintro ⟨j, h1, h2, h3⟩
      by_cases e : j = k
      · subst e
        right
        rw [if_pos h2, Nat.testBit_two_pow]
        exact decide_eq_true h3
      · exact Or.inl ⟨j, by omega, h2, h3⟩
def gm (w : Nat → Nat) (n : Nat) (M : Nat → Nat) (v k l : Nat) : Nat := if ov w k l (k + 1) < n then M (4 * v + l) else 0
def gW (w : Nat → Nat) (n : Nat) (M : Nat → Nat) (i : Nat) : Nat := if i < 32 * n then prn (gm w n M (i / 4 / n) (i / 4 % n) (i % 4)) n (ov w (i / 4 % n) (i % 4) (i / 4 % n + 1)) 8 else 0
theorem gW_at {w M : Nat → Nat} {n v k l : Nat} (hv : v < 8) (hk : k < n) (hl : l < 4) : gW w n M (4 * (n * v + k) + l) = prn (gm w n M v k l) n (ov w k l (k + 1)) 8 := by
  have a1 : n * v ≤ n * 7 := Nat.mul_le_mul_left n (by omega)
  have a2 : (n * v + k) / n = v := by rw [Nat.mul_add_div (by omega), Nat.div_eq_of_lt hk, Nat.add_zero]
  have a3 : (n * v + k) % n = k := by rw [Nat.mul_add_mod, Nat.mod_eq_of_lt hk]
  unfold gW
  rw [show (4 * (n * v + k) + l) % 4 = l by omega, show (4 * (n * v + k) + l) / 4 = n * v + k by omega, a2, a3, if_pos (by omega)]
section FR
variable {h : ZH} {P : Int32 × ZH → Prop}
theorem forbid_r {G : Nat → Nat → Nat} {w : Nat → Nat} {n s t : Nat} (hs : Sh h) (hG : vI h 118 192 (fun j => G (j / 32) (j % 32))) (bG : ∀ s, s < 6 → ∀ j, j < 32 → G s j < 256) (h6 : s < 6) (n1 : 1 ≤ n) (n6 : n ≤ 6) (i2 : zI h 117 12 = nI n) (i4 : ∀ i, i < n → zI h 125 i = nI (w i) ∧ w i < 4) (K : ∀ h', zfr [147] h h' → wM h' 147 (gW w n (G s)) → wp (fX11_storeWide 117 (nI t) h') P) : wp ((fX11_clearWide 117 h).bind fun h10 => zloop (lX11_forbid_55 117 (nI s) (nI t)) zfu ((nI 0), h10)) P := by
  obtain ⟨h0, e0, p0, q0⟩ := clearW_ok hs
  rw [e0, bsm]
  refine wloop (fun v y => y.1 = nI v ∧ zfr [147] h y.2 ∧ wM y.2 147 (uW (gW w n (G s)) (4 * (n * v + 0) + 0))) 8 (fun v y self hv hy ih => ?_) (by decide) ⟨rfl, p0, by rw [Nat.mul_zero, uW_0]; exact q0⟩
  obtain ⟨y, h1⟩ := y
  obtain ⟨rfl, p1, q1⟩ := hy
  dsimp only at p1 q1
  have hs1 := p1.shp hs
  show wp (kX11_forbid_55 117 (nI s) (nI t) self (nI v) h1) _
  unfold kX11_forbid_55
  by_cases hlt : v < 8
  · have a1 : n * v ≤ n * 7 := Nat.mul_le_mul_left n (by omega)
    simp (disch := omega) only [Nat.not_le.mpr hlt, SR (hs1), zl_eq, bsm, ZS, ZT, ZN, ZU, eq_self, true_and, and_true, and_self, or_true, true_or, or_false, false_or, not_true, not_false_eq_true, Nat.reduceAdd, Nat.reduceMul, Nat.reduceLT, Nat.reduceLeDiff, Nat.reduceEqDiff, ↓reduceIte, ZQ, Bool.true_eq_false, Bool.false_eq_true, Bool.not_true, Bool.not_false]
    refine wloop (fun k y => y.1 = nI k ∧ zfr [147] h y.2 ∧ wM y.2 147 (uW (gW w n (G s)) (4 * (n * v + k) + 0))) n (fun k y self2 hk hy ih2 => ?_) (show n < 100000 by omega) ⟨rfl, p1, q1⟩
    obtain ⟨y, h2⟩ := y
    obtain ⟨rfl, p2, q2⟩ := hy
    dsimp only at p2 q2
    have hs2 := p2.shp hs
    have l2 : zI h2 117 12 = nI n := by rw [p2.I (by decide)]; exact i2
    show wp (kX11_forbid_65 self 117 (nI s) (nI t) (nI v) self2 (nI k) h2) _
    unfold kX11_forbid_65
    by_cases hlt2 : k < n
    · simp (disch := omega) only [l2, Nat.not_le.mpr hlt2, SR (hs2), zl_eq, bsm, ZS, ZT, ZN, ZU, eq_self, true_and, and_true, and_self, or_true, true_or, or_false, false_or, not_true, not_false_eq_true, Nat.reduceAdd, Nat.reduceMul, Nat.reduceLT, Nat.reduceLeDiff, Nat.reduceEqDiff, ↓reduceIte, ZQ, Bool.true_eq_false, Bool.false_eq_true, Bool.not_true, Bool.not_false]
      refine wloop (fun l y => y.1 = nI l ∧ zfr [147] h y.2 ∧ wM y.2 147 (uW (gW w n (G s)) (4 * (n * v + k) + l))) 4 (fun l y self3 hl hy ih3 => ?_) (by decide) ⟨rfl, p2, q2⟩
      obtain ⟨y, h3⟩ := y
      obtain ⟨rfl, p3, q3⟩ := hy
      dsimp only at p3 q3
      have hs3 := p3.shp hs
      have l3 : zI h3 117 12 = nI n := by rw [p3.I (by decide)]; exact i2
      have hG3 : vI h3 118 192 (fun j => G (j / 32) (j % 32)) := fun j hj => by rw [p3.I (by decide)]; exact hG j hj
      show wp (kX11_forbid_77 self self2 117 (nI s) (nI t) (nI v) (nI k) self3 (nI l) h3) _
      unfold kX11_forbid_77
      by_cases hlt3 : l < 4
      · have eb := border_ok (w := w) (k := k) (l := l) hs3 (by omega) l3 (fun i hi => by rw [p3.I (by decide)]; exact i4 i hi) hlt2 hlt3
        have ol := ov_le (w := w) (k := k) (l := l) (k + 1)
        have ga := gW_at (w := w) (M := G s) hlt hlt2 hlt3
        have et : fX11_to 117 (nI s) (nI v) (nI l) h3 = some (nI (G s (4 * v + l)), h3) := by
          rw [to_ok hs3 hG3 h6 hlt hlt3, show (32 * s + 4 * v + l) / 32 = s by omega, show (32 * s + 4 * v + l) % 32 = 4 * v + l by omega]
        have bt := bG s h6 (4 * v + l) (by omega)
        -- the inner loop, of either mask
        have inner : ∀ A q, A < 256 → q ≤ 6 → (∀ j, j < 8 → A.testBit j = true → n * j + q < 64) → gW w n (G s) (4 * (n * v + k) + l) = prn A n q 8 → wp (bX11_forbid_115 self self2 self3 117 (nI s) (nI t) (nI v) (nI k) (nI l) (nI q) (nI A) h3) P := by
          intro A q hA hq6 hb ei
          unfold bX11_forbid_115
          refine wloop (fun j y => y.1 = nI j ∧ zfr [147] h y.2 ∧ wM y.2 147 (upM (uW (gW w n (G s)) (4 * (n * v + k) + l)) (4 * (n * v + k) + l) (prn A n q j))) 8 (fun j y self4 hj hy ih4 => ?_) (by decide) ⟨rfl, p3, by rw [prn, uW_nil]; exact q3⟩
          obtain ⟨y, h4⟩ := y
          obtain ⟨rfl, p4, q4⟩ := hy
          dsimp only at p4 q4
          have hs4 := p4.shp hs
          have l4 : zI h4 117 12 = nI n := by rw [p4.I (by decide)]; exact i2
          show wp (kX11_forbid_120 self self2 self3 117 (nI s) (nI t) (nI v) (nI k) (nI l) (nI q) (nI A) self4 (nI j) h4) _
          unfold kX11_forbid_120 bX11_forbid_175
          by_cases hlt4 : j < 8
          · have a1 : zJ h4 147 (4 * (n * v + k) + l) = lN (prn A n q j) := by
              have := (q4 (4 * (n * v + k) + l) (by omega)).1
              rwa [upM_at] at this
            have q5 := wM_up (i := 4 * (n * v + k) + l) q4 (prn_lt hb (j + 1) (by omega))
            rw [upM_2, prn] at q5
            by_cases hbj : A.testBit j = true
            · have hnj := hb j hlt4 hbj
              rw [if_pos hbj] at q5
              simp (disch := omega) only [Nat.not_le.mpr hlt4, l4, a1, nbz1 hA hlt4, hbj, lb_shl, lb_or, Nat.one_mul, SR (hs4), zl_eq, bsm, ZS, ZT, ZN, ZU, eq_self, true_and, and_true, and_self, or_true, true_or, or_false, false_or, not_true, not_false_eq_true, Nat.reduceAdd, Nat.reduceMul, Nat.reduceLT, Nat.reduceLeDiff, Nat.reduceEqDiff, ↓reduceIte, ZQ, Bool.true_eq_false, Bool.false_eq_true, Bool.not_true, Bool.not_false]
              refine ih4 _ hlt4 ⟨rfl, p4.same zfr_uJ, ?_⟩
              rw [prn, if_pos hbj]
              exact q5
            · have hbj' : A.testBit j = false := by simpa using hbj
              rw [if_neg hbj] at q5
              simp (disch := omega) only [Nat.not_le.mpr hlt4, l4, a1, nbz1 hA hlt4, hbj', lb_or, SR (hs4), zl_eq, bsm, ZS, ZT, ZN, ZU, eq_self, true_and, and_true, and_self, or_true, true_or, or_false, false_or, not_true, not_false_eq_true, Nat.reduceAdd, Nat.reduceMul, Nat.reduceLT, Nat.reduceLeDiff, Nat.reduceEqDiff, ↓reduceIte, ZQ, Bool.true_eq_false, Bool.false_eq_true, Bool.not_true, Bool.not_false]
              refine ih4 _ hlt4 ⟨rfl, p4.same zfr_uJ, ?_⟩
              rw [prn, if_neg hbj]
              exact q5
          · have : j = 8 := by omega
            subst this
            simp (disch := omega) only [Nat.le_refl, SR (hs4), zl_eq, bsm, ZS, ZT, ZN, ZU, eq_self, true_and, and_true, and_self, or_true, true_or, or_false, false_or, not_true, not_false_eq_true, Nat.reduceAdd, Nat.reduceMul, Nat.reduceLT, Nat.reduceLeDiff, Nat.reduceEqDiff, ↓reduceIte, ZQ, Bool.true_eq_false, Bool.false_eq_true, Bool.not_true, Bool.not_false]
            refine ih3 _ hlt3 ⟨rfl, p4, ?_⟩
            rw [← ei, uW_put] at q4
            exact q4
        unfold gm at ga
        by_cases hq : ov w k l (k + 1) < n
        · rw [if_pos hq] at ga
          generalize ov w k l (k + 1) = q at eb hq ga ol
          simp (disch := omega) only [Nat.not_le.mpr hlt3, eb, l3, Nat.not_le.mpr hq, et, SR (hs3), zl_eq, bsm, ZS, ZT, ZN, ZU, eq_self, true_and, and_true, and_self, or_true, true_or, or_false, false_or, not_true, not_false_eq_true, Nat.reduceAdd, Nat.reduceMul, Nat.reduceLT, Nat.reduceLeDiff, Nat.reduceEqDiff, ↓reduceIte, ZQ, Bool.true_eq_false, Bool.false_eq_true, Bool.not_true, Bool.not_false]
          exact inner _ q bt (by omega) (fun j hj _ => by
            have : n * j ≤ n * 7 := Nat.mul_le_mul_left n (by omega)
            omega) ga
        · rw [if_neg hq] at ga
          generalize ov w k l (k + 1) = q at eb hq ga ol
          simp (disch := omega) only [Nat.not_le.mpr hlt3, eb, l3, eq_true (Nat.not_lt.mp hq), SR (hs3), zl_eq, bsm, ZS, ZT, ZN, ZU, eq_self, true_and, and_true, and_self, or_true, true_or, or_false, false_or, not_true, not_false_eq_true, Nat.reduceAdd, Nat.reduceMul, Nat.reduceLT, Nat.reduceLeDiff, Nat.reduceEqDiff, ↓reduceIte, ZQ, Bool.true_eq_false, Bool.false_eq_true, Bool.not_true, Bool.not_false]
          exact inner 0 q (by decide) (by omega) (fun j hj z => by rw [Nat.zero_testBit] at z; cases z) ga
      · have : l = 4 := by omega
        subst this
        simp (disch := omega) only [Nat.le_refl, SR (hs3), zl_eq, bsm, ZS, ZT, ZN, ZU, eq_self, true_and, and_true, and_self, or_true, true_or, or_false, false_or, not_true, not_false_eq_true, Nat.reduceAdd, Nat.reduceMul, Nat.reduceLT, Nat.reduceLeDiff, Nat.reduceEqDiff, ↓reduceIte, ZQ, Bool.true_eq_false, Bool.false_eq_true, Bool.not_true, Bool.not_false]
        exact ih2 _ hlt2 ⟨rfl, p3, by rw [show 4 * (n * v + (k + 1)) + 0 = 4 * (n * v + k) + 4 by omega]; exact q3⟩
    · have : k = n := by omega
      subst this
      simp (disch := omega) only [l2, Nat.le_refl, SR (hs2), zl_eq, bsm, ZS, ZT, ZN, ZU, eq_self, true_and, and_true, and_self, or_true, true_or, or_false, false_or, not_true, not_false_eq_true, Nat.reduceAdd, Nat.reduceMul, Nat.reduceLT, Nat.reduceLeDiff, Nat.reduceEqDiff, ↓reduceIte, ZQ, Bool.true_eq_false, Bool.false_eq_true, Bool.not_true, Bool.not_false]
      exact ih _ hlt ⟨rfl, p2, by rw [Nat.mul_succ]; exact q2⟩
  · have : v = 8 := by omega
    subst this
    obtain ⟨a, e, q⟩ := K h1 p1 (q1.cong (fun i hi => by
      unfold uW
      by_cases e : i < 4 * (n * 8 + 0) + 0
      · rw [if_pos e]
      · rw [if_neg e]
        unfold gW
        rw [if_neg (by omega)]))
    simp (disch := omega) only [Nat.le_refl, SR (hs1), zl_eq, bsm, ZS, ZT, ZN, ZU, eq_self, true_and, and_true, and_self, or_true, true_or, or_false, false_or, not_true, not_false_eq_true, Nat.reduceAdd, Nat.reduceMul, Nat.reduceLT, Nat.reduceLeDiff, Nat.reduceEqDiff, ↓reduceIte, ZQ, Bool.true_eq_false, Bool.false_eq_true, Bool.not_true, Bool.not_false]
    rw [e, bsm]
    exact wp_some q
end FR
