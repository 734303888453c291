/-! CALL: intersect -/
def prd (a b : Nat) : Nat → Nat
  | 0 => 0
  | k + 1 => prd a b k ||| (if a.testBit k = true then b * 2 ^ (8 * k) else 0)
theorem prd_lt {a b : Nat} (hb : b < 256) : ∀ k, k ≤ 8 → prd a b k < 2 ^ 64
  | 0, _ => by rw [prd]; decide
  | k + 1, hk => by
    rw [prd]
    refine Nat.or_lt_two_pow (prd_lt hb k (by omega)) ?_
    split
    · have h1 : 2 ^ (8 * k) ≤ 2 ^ 56 := Nat.pow_le_pow_right (by decide) (by omega)
      calc b * 2 ^ (8 * k) ≤ 255 * 2 ^ 56 := Nat.mul_le_mul (by omega) h1
        _ < 2 ^ 64 := by decide
    · decide
def iW (A B : Nat → Nat) (i : Nat) : Nat := prd (A (4 * (i / 32) + i % 4)) (B (4 * (i / 4 % 8) + i % 4)) 8
theorem iW_at {A B : Nat → Nat} {u v l : Nat} (hv : v < 8) (hl : l < 4) : iW A B (4 * (8 * u + v) + l) = prd (A (4 * u + l)) (B (4 * v + l)) 8 := by
  unfold iW
  rw [show (4 * (8 * u + v) + l) / 32 = u by omega, show (4 * (8 * u + v) + l) % 4 = l by omega, show (4 * (8 * u + v) + l) / 4 % 8 = v by omega]
theorem i64 : ∀ b, b < 256 → (nI b).toInt64 = lN b := by decide +kernel
theorem nbz0 {a v : Nat} (ha : a < 256) (hv : v < 8) : (jshr (nI a) (nI v) &&& nI 1 = 0) = (a.testBit v = false) := by
  rw [nb_bit (by omega) (by omega)]
  apply propext
  cases a.testBit v <;> decide
theorem nbz1 {a v : Nat} (ha : a < 256) (hv : v < 8) : (jshr (nI a) (nI v) &&& nI 1 = nI 1) = (a.testBit v = true) := by
  rw [nb_bit (by omega) (by omega)]
  apply propext
  cases a.testBit v <;> decide
theorem product_ok {h : ZH} {a b : Nat} (ha : a < 256) (hb : b < 256) : fX10_product (nI a) (nI b) h = some (lN (prd a b 8), h) := by
  unfold fX10_product
  refine zloop_run (fun j => (lN (prd a b j), nI j, h)) 8 (fun j hj self => ?_) (fun self => ?_) (by decide)
  · show kX10_product_5 (nI a) (nI b) self (lN (prd a b j)) (nI j) h = _
    unfold kX10_product_5 bX10_product_32
    rw [prd]
    by_cases e : a.testBit j = true
    · simp (disch := omega) only [Nat.not_le.mpr hj, nbz0 ha hj, e, i64 b hb, lb_shl, lb_or, zl_eq, bsm, ZS, ZT, ZN, ZU, eq_self, true_and, and_true, and_self, or_true, true_or, or_false, false_or, not_true, not_false_eq_true, Nat.reduceAdd, Nat.reduceMul, Nat.reduceLT, Nat.reduceLeDiff, Nat.reduceEqDiff, ↓reduceIte, ZQ, Bool.true_eq_false, Bool.false_eq_true, Bool.not_true, Bool.not_false]
    · have e' : a.testBit j = false := by simpa using e
      simp (disch := omega) only [Nat.not_le.mpr hj, nbz0 ha hj, e', Nat.or_zero, zl_eq, bsm, ZS, ZT, ZN, ZU, eq_self, true_and, and_true, and_self, or_true, true_or, or_false, false_or, not_true, not_false_eq_true, Nat.reduceAdd, Nat.reduceMul, Nat.reduceLT, Nat.reduceLeDiff, Nat.reduceEqDiff, ↓reduceIte, ZQ, Bool.true_eq_false, Bool.false_eq_true, Bool.not_true, Bool.not_false]
  · show kX10_product_5 (nI a) (nI b) self (lN (prd a b 8)) (nI 8) h = _
    unfold kX10_product_5
    simp (disch := omega) only [Nat.le_refl, zl_eq, bsm, ZS, ZT, ZN, ZU, eq_self, true_and, and_true, and_self, or_true, true_or, or_false, false_or, not_true, not_false_eq_true, Nat.reduceAdd, Nat.reduceMul, Nat.reduceLT, Nat.reduceLeDiff, Nat.reduceEqDiff, ↓reduceIte, ZQ, Bool.true_eq_false, Bool.false_eq_true, Bool.not_true, Bool.not_false]
/-- the first e rows -/
def uW (W : Nat → Nat) (e i : Nat) : Nat := if i < e then W i else 0
theorem uW_0 {W : Nat → Nat} : uW W 0 = fun _ => 0 := by
  funext i
  unfold uW
  rw [if_neg (by omega)]
theorem uW_put {W : Nat → Nat} {e : Nat} : upM (uW W e) e (W e) = uW W (e + 1) := by
  funext i
  unfold upM uW
  by_cases q : i = e
  · rw [if_pos q, if_pos (by omega), q]
  · rw [if_neg q]
    by_cases q2 : i < e
    · rw [if_pos q2, if_pos (by omega)]
    · rw [if_neg q2, if_neg (by omega)]
theorem uW_at {W : Nat → Nat} {e : Nat} : uW W e e = 0 := if_neg (Nat.lt_irrefl _)
theorem uW_nil {W : Nat → Nat} {e : Nat} : upM (uW W e) e 0 = uW W e := by
  funext i
  unfold upM
  by_cases q : i = e
  · rw [if_pos q, q, uW_at]
  · rw [if_neg q]
theorem upM_at {f : Nat → Nat} {e a : Nat} : upM f e a e = a := if_pos rfl
theorem upM_2 {f : Nat → Nat} {e a b : Nat} : upM (upM f e a) e b = upM f e b := by
  funext i
  unfold upM
  by_cases q : i = e
  · rw [if_pos q, if_pos q]
  · rw [if_neg q, if_neg q, if_neg q]
theorem uW_all {h : ZH} {a : Nat} {W : Nat → Nat} (g : wM h a (uW W 256)) : wM h a W := by
  intro j hj
  have := g j hj
  unfold uW at this
  rwa [if_pos hj] at this
section I1
variable {h : ZH} {W : Nat → Nat}
theorem wM_up {a i x : Nat} (g : wM h a W) (hx : x < 2 ^ 64) : wM (zsJ h (zu (zJ h) a i (lN x))) a (upM W i x) := by
  intro j hj
  dsimp only [zJ_zsJ]
  unfold upM
  rw [zu_at]
  by_cases e : j = i
  · rw [if_pos e, if_pos e]; exact ⟨rfl, hx⟩
  · rw [if_neg e, if_neg e]; exact g j hj
theorem wlink_ok (hs : Sh h) (g : wM h 74 W) {v l x : Nat} (hv : v < 64) (hl : l < 4) (hx : x < 2 ^ 64) : ∃ h', fX8_link 73 (nI v) (nI l) (lN x) h = some h' ∧ zfr [74] h h' ∧ wM h' 74 (upM W (4 * v + l) (W (4 * v + l) ||| x)) := by
  obtain ⟨g1, g2⟩ := g (4 * v + l) (by omega)
  refine ⟨_, ?_, zfr_uJ, wM_up g (Nat.or_lt_two_pow g2 hx)⟩
  unfold fX8_link bX8_link_31
  simp (disch := omega) only [isLetter_ok hl, Nat.not_le.mpr hv, g1, lb_or, SC (hs), zl_eq, bsm, ZS, ZT, ZN, ZU, eq_self, true_and, and_true, and_self, or_true, true_or, or_false, false_or, not_true, not_false_eq_true, Nat.reduceAdd, Nat.reduceMul, Nat.reduceLT, Nat.reduceLeDiff, Nat.reduceEqDiff, ↓reduceIte, ZQ, Bool.true_eq_false, Bool.false_eq_true, Bool.not_true, Bool.not_false]
theorem clear8_ok (hs : Sh h) : ∃ h', fX8_clear 73 h = some h' ∧ zfr [74] h h' ∧ wM h' 74 (fun _ => 0) := by
  refine ⟨zsJ h (zfil (zJ h) 74 256 (fun _ => lN 0)), ?_, zfr_filJ, fun j hj => ⟨(zfil_in hj : zfil (zJ h) _ 256 (fun _ => lN 0) _ j = _), show 0 < 2 ^ 64 by decide⟩⟩
  have ea : isA h 15 74 256 := Aa hs (by decide) (by decide) (by decide)
  unfold fX8_clear
  simp (disch := omega) only [fillJ_ok ea (by decide), SC (hs), zl_eq, bsm, ZS, ZT, ZN, ZU, eq_self, true_and, and_true, and_self, or_true, true_or, or_false, false_or, not_true, not_false_eq_true, Nat.reduceAdd, Nat.reduceMul, Nat.reduceLT, Nat.reduceLeDiff, Nat.reduceEqDiff, ↓reduceIte, ZQ, Bool.true_eq_false, Bool.false_eq_true, Bool.not_true, Bool.not_false]
theorem clearW_ok (hs : Sh h) : ∃ h', fX11_clearWide 117 h = some h' ∧ zfr [147] h h' ∧ wM h' 147 (fun _ => 0) := by
  refine ⟨zsJ h (zfil (zJ h) 147 256 (fun _ => lN 0)), ?_, zfr_filJ, fun j hj => ⟨(zfil_in hj : zfil (zJ h) _ 256 (fun _ => lN 0) _ j = _), show 0 < 2 ^ 64 by decide⟩⟩
  simp (disch := omega) only [fX11_clearWide, SR (hs), zl_eq, bsm, ZS, ZT, ZN, ZU, eq_self, true_and, and_true, and_self, or_true, true_or, or_false, false_or, not_true, not_false_eq_true, Nat.reduceAdd, Nat.reduceMul, Nat.reduceLT, Nat.reduceLeDiff, Nat.reduceEqDiff, ↓reduceIte, ZQ, Bool.true_eq_false, Bool.false_eq_true, Bool.not_true, Bool.not_false]
  refine zfillJ 147 256 (fun _ => lN 0) (fun j hj self => ?_) (fun self => ?_) (by decide)
  · simp (disch := omega) only [lX11_clearWide_2, kX11_clearWide_2, Nat.not_le.mpr hj, SR (hs), zl_eq, bsm, ZS, ZT, ZN, ZU, eq_self, true_and, and_true, and_self, or_true, true_or, or_false, false_or, not_true, not_false_eq_true, Nat.reduceAdd, Nat.reduceMul, Nat.reduceLT, Nat.reduceLeDiff, Nat.reduceEqDiff, ↓reduceIte, ZQ, Bool.true_eq_false, Bool.false_eq_true, Bool.not_true, Bool.not_false]
  · simp (disch := omega) only [lX11_clearWide_2, kX11_clearWide_2, Nat.le_refl, SR (hs), zl_eq, bsm, ZS, ZT, ZN, ZU, eq_self, true_and, and_true, and_self, or_true, true_or, or_false, false_or, not_true, not_false_eq_true, Nat.reduceAdd, Nat.reduceMul, Nat.reduceLT, Nat.reduceLeDiff, Nat.reduceEqDiff, ↓reduceIte, ZQ, Bool.true_eq_false, Bool.false_eq_true, Bool.not_true, Bool.not_false]
end I1
section I2
variable {h : ZH} {P : Int32 × ZH → Prop}
theorem inter_c {G : Nat → Nat → Nat} {n s r t : Nat} {c : Nat → Nat} (hI : INVg G n c h) (h6 : s < 6) (hr : r < 6) (ht : t < 6) (K : ∀ h', zfr [74] h h' → wM h' 74 (iW (G s) (G r)) → wp (fX10_storeWide 0 (nI t) h') P) : wp (fX10_intersect 0 (nI s) (nI r) (nI t) h) P := by
  have hs := hI.1
  have hG := hI.2.1
  obtain ⟨h0, e0, p0, q0⟩ := clear8_ok hs
  unfold fX10_intersect
  simp (disch := omega) only [isSlot_ok h6, isSlot_ok hr, isSlot_ok ht, e0, SC (hs), zl_eq, bsm, ZS, ZT, ZN, ZU, eq_self, true_and, and_true, and_self, or_true, true_or, or_false, false_or, not_true, not_false_eq_true, Nat.reduceAdd, Nat.reduceMul, Nat.reduceLT, Nat.reduceLeDiff, Nat.reduceEqDiff, ↓reduceIte, ZQ, Bool.true_eq_false, Bool.false_eq_true, Bool.not_true, Bool.not_false]
  refine wloop (fun u y => y.1 = nI u ∧ zfr [74] h y.2 ∧ wM y.2 74 (uW (iW (G s) (G r)) (32 * u))) 8 (fun u y self hu hy ih => ?_) (by decide) ⟨rfl, p0, by rw [Nat.mul_zero, uW_0]; exact q0⟩
  obtain ⟨y, h1⟩ := y
  obtain ⟨rfl, p1, q1⟩ := hy
  dsimp only at p1 q1
  have g1 := hI.fr (fq73 p1)
  show wp (kX10_intersect_34 0 (nI s) (nI r) (nI t) self (nI u) h1) _
  unfold kX10_intersect_34
  by_cases hlt : u < 8
  · simp (disch := omega) only [Nat.not_le.mpr hlt, SC (g1.1), zl_eq, bsm, ZS, ZT, ZN, ZU, eq_self, true_and, and_true, and_self, or_true, true_or, or_false, false_or, not_true, not_false_eq_true, Nat.reduceAdd, Nat.reduceMul, Nat.reduceLT, Nat.reduceLeDiff, Nat.reduceEqDiff, ↓reduceIte, ZQ, Bool.true_eq_false, Bool.false_eq_true, Bool.not_true, Bool.not_false]
    refine wloop (fun v y => y.1 = nI v ∧ zfr [74] h y.2 ∧ wM y.2 74 (uW (iW (G s) (G r)) (4 * (8 * u + v)))) 8 (fun v y self2 hv hy ih2 => ?_) (by decide) ⟨rfl, p1, by rw [show 4 * (8 * u + 0) = 32 * u by omega]; exact q1⟩
    obtain ⟨y, h2⟩ := y
    obtain ⟨rfl, p2, q2⟩ := hy
    dsimp only at p2 q2
    have g2 := hI.fr (fq73 p2)
    show wp (kX10_intersect_44 self 0 (nI s) (nI r) (nI t) (nI u) self2 (nI v) h2) _
    unfold kX10_intersect_44
    by_cases hlt2 : v < 8
    · simp (disch := omega) only [Nat.not_le.mpr hlt2, SC (g2.1), zl_eq, bsm, ZS, ZT, ZN, ZU, eq_self, true_and, and_true, and_self, or_true, true_or, or_false, false_or, not_true, not_false_eq_true, Nat.reduceAdd, Nat.reduceMul, Nat.reduceLT, Nat.reduceLeDiff, Nat.reduceEqDiff, ↓reduceIte, ZQ, Bool.true_eq_false, Bool.false_eq_true, Bool.not_true, Bool.not_false]
      refine wloop (fun l y => y.1 = nI l ∧ zfr [74] h y.2 ∧ wM y.2 74 (uW (iW (G s) (G r)) (4 * (8 * u + v) + l))) 4 (fun l y self3 hl hy ih3 => ?_) (by decide) ⟨rfl, p2, q2⟩
      obtain ⟨y, h3⟩ := y
      obtain ⟨rfl, p3, q3⟩ := hy
      dsimp only at p3 q3
      have g3 := hI.fr (fq73 p3)
      show wp (kX10_intersect_54 self self2 0 (nI s) (nI r) (nI t) (nI u) (nI v) self3 (nI l) h3) _
      unfold kX10_intersect_54
      by_cases hlt3 : l < 4
      · have b1 := (hG s h6 (4 * u + l) (by omega)).2.2
        have b2 := (hG r hr (4 * v + l) (by omega)).2.2
        obtain ⟨h4, e4, p4, q4⟩ := wlink_ok (v := 8 * u + v) (l := l) g3.1 q3 (by omega) hlt3 (prd_lt (a := G s (4 * u + l)) b2 8 (Nat.le_refl _))
        simp (disch := omega) only [Nat.not_le.mpr hlt3, row_ok (gS g3.1 h6) (g3.2.1.m h6) hlt hlt3, row_ok (gS g3.1 hr) (g3.2.1.m hr) hlt2 hlt3, product_ok b1 b2, e4, SC (g3.1), zl_eq, bsm, ZS, ZT, ZN, ZU, eq_self, true_and, and_true, and_self, or_true, true_or, or_false, false_or, not_true, not_false_eq_true, Nat.reduceAdd, Nat.reduceMul, Nat.reduceLT, Nat.reduceLeDiff, Nat.reduceEqDiff, ↓reduceIte, ZQ, Bool.true_eq_false, Bool.false_eq_true, Bool.not_true, Bool.not_false]
        refine ih3 _ hlt3 ⟨rfl, p3.same p4, ?_⟩
        rw [uW_at, Nat.zero_or, ← iW_at (A := G s) (B := G r) hlt2 hlt3, uW_put] at q4
        exact q4
      · have : l = 4 := by omega
        subst this
        simp (disch := omega) only [Nat.le_refl, SC (g3.1), zl_eq, bsm, ZS, ZT, ZN, ZU, eq_self, true_and, and_true, and_self, or_true, true_or, or_false, false_or, not_true, not_false_eq_true, Nat.reduceAdd, Nat.reduceMul, Nat.reduceLT, Nat.reduceLeDiff, Nat.reduceEqDiff, ↓reduceIte, ZQ, Bool.true_eq_false, Bool.false_eq_true, Bool.not_true, Bool.not_false]
        exact ih2 _ hlt2 ⟨rfl, p3, by rw [show 4 * (8 * u + (v + 1)) = 4 * (8 * u + v) + 4 by omega]; exact q3⟩
    · have : v = 8 := by omega
      subst this
      simp (disch := omega) only [Nat.le_refl, SC (g2.1), zl_eq, bsm, ZS, ZT, ZN, ZU, eq_self, true_and, and_true, and_self, or_true, true_or, or_false, false_or, not_true, not_false_eq_true, Nat.reduceAdd, Nat.reduceMul, Nat.reduceLT, Nat.reduceLeDiff, Nat.reduceEqDiff, ↓reduceIte, ZQ, Bool.true_eq_false, Bool.false_eq_true, Bool.not_true, Bool.not_false]
      exact ih _ hlt ⟨rfl, p2, by rw [show 32 * (u + 1) = 4 * (8 * u + 8) by omega]; exact q2⟩
  · have : u = 8 := by omega
    subst this
    obtain ⟨a, e, q⟩ := K h1 p1 (uW_all q1)
    simp (disch := omega) only [Nat.le_refl, SC (g1.1), zl_eq, bsm, ZS, ZT, ZN, ZU, eq_self, true_and, and_true, and_self, or_true, true_or, or_false, false_or, not_true, not_false_eq_true, Nat.reduceAdd, Nat.reduceMul, Nat.reduceLT, Nat.reduceLeDiff, Nat.reduceEqDiff, ↓reduceIte, ZQ, Bool.true_eq_false, Bool.false_eq_true, Bool.not_true, Bool.not_false]
    rw [e, bsm]
    exact wp_some q
theorem inter_r {G : Nat → Nat → Nat} {s r t : Nat} (hs : Sh h) (hG : vI h 118 192 (fun j => G (j / 32) (j % 32))) (bG : ∀ s, s < 6 → ∀ j, j < 32 → G s j < 256) (h6 : s < 6) (hr : r < 6) (ht : t < 6) (K : ∀ h', zfr [147] h h' → wM h' 147 (iW (G s) (G r)) → wp (fX11_storeWide 117 (nI t) h') P) : wp (fX11_intersect 117 (nI s) (nI r) (nI t) h) P := by
  obtain ⟨h0, e0, p0, q0⟩ := clearW_ok hs
  unfold fX11_intersect
  simp (disch := omega) only [rSlot_ok h6, rSlot_ok hr, rSlot_ok ht, e0, SR (hs), zl_eq, bsm, ZS, ZT, ZN, ZU, eq_self, true_and, and_true, and_self, or_true, true_or, or_false, false_or, not_true, not_false_eq_true, Nat.reduceAdd, Nat.reduceMul, Nat.reduceLT, Nat.reduceLeDiff, Nat.reduceEqDiff, ↓reduceIte, ZQ, Bool.true_eq_false, Bool.false_eq_true, Bool.not_true, Bool.not_false]
  refine wloop (fun v y => y.1 = nI v ∧ zfr [147] h y.2 ∧ wM y.2 147 (uW (iW (G s) (G r)) (4 * v))) 64 (fun v y self hv hy ih => ?_) (by decide) ⟨rfl, p0, by rw [Nat.mul_zero, uW_0]; exact q0⟩
  obtain ⟨y, h1⟩ := y
  obtain ⟨rfl, p1, q1⟩ := hy
  dsimp only at p1 q1
  have hs1 := p1.shp hs
  show wp (kX11_intersect_31 117 (nI s) (nI r) (nI t) self (nI v) h1) _
  unfold kX11_intersect_31
  by_cases hlt : v < 64
  · simp (disch := omega) only [Nat.not_le.mpr hlt, SR (hs1), zl_eq, bsm, ZS, ZT, ZN, ZU, eq_self, true_and, and_true, and_self, or_true, true_or, or_false, false_or, not_true, not_false_eq_true, Nat.reduceAdd, Nat.reduceMul, Nat.reduceLT, Nat.reduceLeDiff, Nat.reduceEqDiff, ↓reduceIte, ZQ, Bool.true_eq_false, Bool.false_eq_true, Bool.not_true, Bool.not_false]
    refine wloop (fun l y => y.1 = nI l ∧ zfr [147] h y.2 ∧ wM y.2 147 (uW (iW (G s) (G r)) (4 * v + l))) 4 (fun l y self2 hl hy ih2 => ?_) (by decide) ⟨rfl, p1, q1⟩
    obtain ⟨y, h2⟩ := y
    obtain ⟨rfl, p2, q2⟩ := hy
    dsimp only at p2 q2
    have hs2 := p2.shp hs
    show wp (kX11_intersect_41 self 117 (nI s) (nI r) (nI t) (nI v) self2 (nI l) h2) _
    unfold kX11_intersect_41
    by_cases hlt2 : l < 4
    · have hG2 : vI h2 118 192 (fun j => G (j / 32) (j % 32)) := fun j hj => by rw [p2.I (by decide)]; exact hG j hj
      have t1 : fX11_to 117 (nI s) (nI (v / 8)) (nI l) h2 = some (nI (G s (4 * (v / 8) + l)), h2) := by
        rw [to_ok hs2 hG2 h6 (by omega) hlt2, show (32 * s + 4 * (v / 8) + l) / 32 = s by omega, show (32 * s + 4 * (v / 8) + l) % 32 = 4 * (v / 8) + l by omega]
      have t2 : fX11_to 117 (nI r) (nI (v % 8)) (nI l) h2 = some (nI (G r (4 * (v % 8) + l)), h2) := by
        rw [to_ok hs2 hG2 hr (by omega) hlt2, show (32 * r + 4 * (v % 8) + l) / 32 = r by omega, show (32 * r + 4 * (v % 8) + l) % 32 = 4 * (v % 8) + l by omega]
      have b1 := bG s h6 (4 * (v / 8) + l) (by omega)
      have b2 := bG r hr (4 * (v % 8) + l) (by omega)
      have ei : iW (G s) (G r) (4 * v + l) = prd (G s (4 * (v / 8) + l)) (G r (4 * (v % 8) + l)) 8 := by
        have := iW_at (A := G s) (B := G r) (u := v / 8) (v := v % 8) (l := l) (by omega) hlt2
        rwa [show 8 * (v / 8) + v % 8 = v by omega] at this
      generalize G s (4 * (v / 8) + l) = A at t1 b1 ei
      generalize G r (4 * (v % 8) + l) = B at t2 b2 ei
      simp (disch := omega) only [Nat.not_le.mpr hlt2, t1, t2, i64 B b2, SR (hs2), zl_eq, bsm, ZS, ZT, ZN, ZU, eq_self, true_and, and_true, and_self, or_true, true_or, or_false, false_or, not_true, not_false_eq_true, Nat.reduceAdd, Nat.reduceMul, Nat.reduceLT, Nat.reduceLeDiff, Nat.reduceEqDiff, ↓reduceIte, ZQ, Bool.true_eq_false, Bool.false_eq_true, Bool.not_true, Bool.not_false]
      refine wloop (fun k y => y.1 = nI k ∧ zfr [147] h y.2 ∧ wM y.2 147 (upM (uW (iW (G s) (G r)) (4 * v + l)) (4 * v + l) (prd A B k))) 8 (fun k y self3 hk hy ih3 => ?_) (by decide) ⟨rfl, p2, by rw [prd, uW_nil]; exact q2⟩
      obtain ⟨y, h3⟩ := y
      obtain ⟨rfl, p3, q3⟩ := hy
      dsimp only at p3 q3
      have hs3 := p3.shp hs
      show wp (kX11_intersect_79 self self2 117 (nI s) (nI r) (nI t) (nI v) (nI l) (nI A) (lN B) self3 (nI k) h3) _
      unfold kX11_intersect_79 bX11_intersect_122
      by_cases hlt3 : k < 8
      · have a1 : zJ h3 147 (4 * v + l) = lN (prd A B k) := by
          have := (q3 (4 * v + l) (by omega)).1
          rwa [upM_at] at this
        have q4 := wM_up (i := 4 * v + l) q3 (prd_lt (a := A) b2 (k + 1) (by omega))
        rw [upM_2, prd] at q4
        by_cases hb : A.testBit k = true
        · rw [if_pos hb] at q4
          simp (disch := omega) only [Nat.not_le.mpr hlt3, a1, nbz1 b1 hlt3, hb, lb_shl, lb_or, SR (hs3), zl_eq, bsm, ZS, ZT, ZN, ZU, eq_self, true_and, and_true, and_self, or_true, true_or, or_false, false_or, not_true, not_false_eq_true, Nat.reduceAdd, Nat.reduceMul, Nat.reduceLT, Nat.reduceLeDiff, Nat.reduceEqDiff, ↓reduceIte, ZQ, Bool.true_eq_false, Bool.false_eq_true, Bool.not_true, Bool.not_false]
          refine ih3 _ hlt3 ⟨rfl, p3.same zfr_uJ, ?_⟩
          rw [prd, if_pos hb]
          exact q4
        · have hb' : A.testBit k = false := by simpa using hb
          rw [if_neg hb] at q4
          simp (disch := omega) only [Nat.not_le.mpr hlt3, a1, nbz1 b1 hlt3, hb', lb_or, SR (hs3), zl_eq, bsm, ZS, ZT, ZN, ZU, eq_self, true_and, and_true, and_self, or_true, true_or, or_false, false_or, not_true, not_false_eq_true, Nat.reduceAdd, Nat.reduceMul, Nat.reduceLT, Nat.reduceLeDiff, Nat.reduceEqDiff, ↓reduceIte, ZQ, Bool.true_eq_false, Bool.false_eq_true, Bool.not_true, Bool.not_false]
          refine ih3 _ hlt3 ⟨rfl, p3.same zfr_uJ, ?_⟩
          rw [prd, if_neg hb]
          exact q4
      · have : k = 8 := by omega
        subst this
        simp (disch := omega) only [Nat.le_refl, SR (hs3), zl_eq, bsm, ZS, ZT, ZN, ZU, eq_self, true_and, and_true, and_self, or_true, true_or, or_false, false_or, not_true, not_false_eq_true, Nat.reduceAdd, Nat.reduceMul, Nat.reduceLT, Nat.reduceLeDiff, Nat.reduceEqDiff, ↓reduceIte, ZQ, Bool.true_eq_false, Bool.false_eq_true, Bool.not_true, Bool.not_false]
        refine ih2 _ hlt2 ⟨rfl, p3, ?_⟩
        rw [← ei, uW_put] at q3
        exact q3
    · have : l = 4 := by omega
      subst this
      simp (disch := omega) only [Nat.le_refl, SR (hs2), zl_eq, bsm, ZS, ZT, ZN, ZU, eq_self, true_and, and_true, and_self, or_true, true_or, or_false, false_or, not_true, not_false_eq_true, Nat.reduceAdd, Nat.reduceMul, Nat.reduceLT, Nat.reduceLeDiff, Nat.reduceEqDiff, ↓reduceIte, ZQ, Bool.true_eq_false, Bool.false_eq_true, Bool.not_true, Bool.not_false]
      exact ih _ hlt ⟨rfl, p2, by rw [show 4 * (v + 1) = 4 * v + 4 by omega]; exact q2⟩
  · have : v = 64 := by omega
    subst this
    obtain ⟨a, e, q⟩ := K h1 p1 (uW_all q1)
    simp (disch := omega) only [Nat.le_refl, SR (hs1), zl_eq, bsm, ZS, ZT, ZN, ZU, eq_self, true_and, and_true, and_self, or_true, true_or, or_false, false_or, not_true, not_false_eq_true, Nat.reduceAdd, Nat.reduceMul, Nat.reduceLT, Nat.reduceLeDiff, Nat.reduceEqDiff, ↓reduceIte, ZQ, Bool.true_eq_false, Bool.false_eq_true, Bool.not_true, Bool.not_false]
    rw [e, bsm]
    exact wp_some q
end I2
