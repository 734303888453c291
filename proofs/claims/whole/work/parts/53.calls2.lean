/-! CALLS: reverse, relabel, random -/
/-- rows that no kernel need compute with -/
theorem bsm {α β : Type} (a : α) (f : α → Option β) : (some a).bind f = f a := Eq.trans (Option.bind_some a f) (Eq.refl _)
theorem zl_eq {α β : Type} (a : α) (f : α → β) : zl a f = f a := Eq.trans (Eq.refl _) (Eq.refl _)
/-- the graph turned, edge by edge in their order -/
def rvN (M : Nat → Nat) : Nat → Nat → Nat
  | 0 => fun _ => 0
  | k + 1 => upM (rvN M k) (4 * (k % 8) + k / 8 % 4) (rvN M k (4 * (k % 8) + k / 8 % 4) ||| (if (M (k / 8)).testBit (k % 8) = true then 2 ^ (k / 32) else 0))
theorem upM_or0 {N : Nat → Nat} {k : Nat} : upM N k (N k ||| 0) = N := by
  funext j
  unfold upM
  by_cases e : j = k
  · rw [if_pos e, Nat.or_zero, e]
  · rw [if_neg e]
/-- what changes only what is built -/
theorem fq32 {h h' : ZH} (p : zfr [32] h h') : fq h h' := fq.of p (by decide) (by decide)
theorem fq118 {h h' : ZH} (p : zfr [119] h h') : fq h h' := fq.of p (by decide) (by decide)
theorem rev_r {h1 : ZH} {G : Nat → Nat → Nat} {n s t : Nat} {c : Nat → Nat} (h6 : s < 6) (ht : t < 6) (hb : ∀ k, k < 32 → G s k < 256) {N : Nat → Nat} (hN : rvN (G s) 256 = N) (m1 : midI G N t n c h1) : wp (fX11_reverse 117 (nI s) (nI t) h1) (fun y => y.1 = nE N ∧ INV y.2) := by
  obtain ⟨h0, e0, p0, q0⟩ := clearG m1.1
  show wp (fX11_reverse 117 (nI s) (nI t) h1) _
  unfold fX11_reverse
  simp (disch := omega) only [e0, SR (m1.1), zl_eq, bsm, ZS, ZT, ZN, ZU, eq_self, true_and, and_true, and_self, or_true, true_or, or_false, false_or, not_true, not_false_eq_true, Nat.reduceAdd, Nat.reduceMul, Nat.reduceLT, Nat.reduceLeDiff, Nat.reduceEqDiff, ↓reduceIte, ZQ, Bool.true_eq_false, Bool.false_eq_true, Bool.not_true, Bool.not_false]
  refine wloop (fun k y => y.1 = nI k ∧ zfr [119] h1 y.2 ∧ vI y.2 119 32 (rvN (G s) k)) 256 (fun k y self hk hy ih => ?_) (show 256 < 100000 by omega) ⟨rfl, p0, by rw [rvN]; exact q0⟩
  obtain ⟨y, h2⟩ := y
  obtain ⟨rfl, p2, q2⟩ := hy
  dsimp only at p2 q2
  have m2 := m1.fr (fq118 p2)
  show wp (kX11_reverse_23 117 (nI s) (nI t) self (nI k) h2) _
  unfold kX11_reverse_23
  by_cases hlt : k < 256
  · have hr : vI h2 118 192 (fun j => G (j / 32) (j % 32)) := by
      intro j hj
      have := (m2.2.1 (j / 32) (by omega) (j % 32) (by omega)).2.1
      rwa [show 32 * (j / 32) + j % 32 = j by omega] at this
    have e4 : fX11_to 117 (nI s) (nI (k / 32)) (nI (k / 8 % 4)) h2 = some (nI (G s (k / 8)), h2) := by
      have hq : k / 8 < 32 := by omega
      have hd : 4 * (k / 32) + k / 8 % 4 = k / 8 := by
        rw [show k / 32 = k / 8 / 4 by rw [Nat.div_div_eq_div_mul]]
        omega
      have ha : 32 * s + 4 * (k / 32) + k / 8 % 4 = 32 * s + k / 8 := by rw [Nat.add_assoc, hd]
      rw [to_ok m2.1 hr h6 (by omega) (by omega), ha]
      generalize k / 8 = q at hq
      rw [show (32 * s + q) / 32 = s by omega, show (32 * s + q) % 32 = q by omega]
    have hgb := hb (k / 8) (by omega)
    have hjb : jshr (nI (G s (k / 8))) (nI (k % 8)) &&& nI 1 = nI ((G s (k / 8)).testBit (k % 8)).toNat := nb_bit (by omega) (by omega)
    have hjl : jshl (nI ((G s (k / 8)).testBit (k % 8)).toNat) (nI (k / 32)) = nI (if (G s (k / 8)).testBit (k % 8) = true then 2 ^ (k / 32) else 0) := by
      have hp : 2 ^ (k / 32) ≤ 2 ^ 7 := Nat.pow_le_pow_right (by decide) (by omega)
      cases (G s (k / 8)).testBit (k % 8)
      · rw [Bool.toNat_false, nb_shl (by omega) (by omega), Nat.zero_mul, if_neg (by decide)]
      · rw [Bool.toNat_true, nb_1shl (by omega), if_pos rfl]
    simp (disch := omega) only [Nat.not_le.mpr hlt, e4, hjb, hjl, q2 (4 * (k % 8) + k / 8 % 4) (by omega), SR (m2.1), zl_eq, bsm, ZS, ZT, ZN, ZU, eq_self, true_and, and_true, and_self, or_true, true_or, or_false, false_or, not_true, not_false_eq_true, Nat.reduceAdd, Nat.reduceMul, Nat.reduceLT, Nat.reduceLeDiff, Nat.reduceEqDiff, ↓reduceIte, ZQ, Bool.true_eq_false, Bool.false_eq_true, Bool.not_true, Bool.not_false]
    exact ih _ hlt ⟨rfl, p2.same zfr_uI, by rw [rvN]; exact made_set q2⟩
  · have : k = 256 := by omega
    subst this
    rw [hN] at q2
    simp (disch := omega) only [Nat.le_refl, SR (m2.1), zl_eq, bsm, ZS, ZT, ZN, ZU, eq_self, true_and, and_true, and_self, or_true, true_or, or_false, false_or, not_true, not_false_eq_true, Nat.reduceAdd, Nat.reduceMul, Nat.reduceLT, Nat.reduceLeDiff, Nat.reduceEqDiff, ↓reduceIte, ZQ, Bool.true_eq_false, Bool.false_eq_true, Bool.not_true, Bool.not_false]
    exact fin_r ht m2 q2
theorem c_reverse (a1 a2 : Int32) : Ok2 (fX10_reverse 0 a1 a2) (fX11_reverse 117 a1 a2) := by
  refine Ok2.of (fun h G n c hI => ?_)
  have hs := hI.1
  have hG := hI.2.1
  rcases cSlot a1 with b | ⟨s, h6, rfl⟩
  · refine Ok2.same hI (r := -2) ?_ ?_
    · simp (disch := omega) only [fX10_reverse, bX10_reverse_14, fun q => (b q).1, SC (hs), zl_eq, bsm, ZS, ZT, ZN, ZU, eq_self, true_and, and_true, and_self, or_true, true_or, or_false, false_or, not_true, not_false_eq_true, Nat.reduceAdd, Nat.reduceMul, Nat.reduceLT, Nat.reduceLeDiff, Nat.reduceEqDiff, ↓reduceIte, ZQ, Bool.true_eq_false, Bool.false_eq_true, Bool.not_true, Bool.not_false]
    · simp (disch := omega) only [fX11_reverse, bX11_reverse_14, fun q => (b q).2, SR (hs), zl_eq, bsm, ZS, ZT, ZN, ZU, eq_self, true_and, and_true, and_self, or_true, true_or, or_false, false_or, not_true, not_false_eq_true, Nat.reduceAdd, Nat.reduceMul, Nat.reduceLT, Nat.reduceLeDiff, Nat.reduceEqDiff, ↓reduceIte, ZQ, Bool.true_eq_false, Bool.false_eq_true, Bool.not_true, Bool.not_false]
  rcases cSlot a2 with b | ⟨t, ht, rfl⟩
  · refine Ok2.same hI (r := -2) ?_ ?_
    · simp (disch := omega) only [fX10_reverse, bX10_reverse_14, isSlot_ok h6, fun q => (b q).1, SC hs, ZN, Option.bind_some, eq_self, and_self, Nat.reduceEqDiff, ↓reduceIte]
    · simp (disch := omega) only [fX11_reverse, bX11_reverse_14, rSlot_ok h6, fun q => (b q).2, SR hs, ZN, Option.bind_some, eq_self, and_self, Nat.reduceEqDiff, ↓reduceIte]
  have hb : ∀ k, k < 32 → G s k < 256 := fun k hk => (hG s h6 k hk).2.2
  obtain ⟨N, hN⟩ : ∃ N, rvN (G s) 256 = N := ⟨_, rfl⟩
  refine ⟨nE N, wp_mono (P := fun x => x.1 = nE N ∧ midI G N t n c x.2) ?_ ?_⟩
  · obtain ⟨h0, e0, p0, q0⟩ := clear_ok (g31 hs)
    unfold fX10_reverse
    simp (disch := omega) only [e0, SC (hs), zl_eq, bsm, ZS, ZT, ZN, ZU, eq_self, true_and, and_true, and_self, or_true, true_or, or_false, false_or, not_true, not_false_eq_true, Nat.reduceAdd, Nat.reduceMul, Nat.reduceLT, Nat.reduceLeDiff, Nat.reduceEqDiff, ↓reduceIte, ZQ, Bool.true_eq_false, Bool.false_eq_true, Bool.not_true, Bool.not_false]
    refine wloop (fun v y => y.1 = nI v ∧ zfr [32] h y.2 ∧ hasM y.2 32 (rvN (G s) (32 * v))) 8 (fun v y self hv hy ih => ?_) (by decide) ⟨rfl, p0, by rw [Nat.mul_zero, rvN]; exact q0⟩
    obtain ⟨y, h1⟩ := y
    obtain ⟨rfl, p1, q1⟩ := hy
    dsimp only at p1 q1
    show wp (kX10_reverse_26 0 (nI s) (nI t) self (nI v) h1) _
    have g1 := hI.fr (fq32 p1)
    by_cases hlt : v < 8
    · unfold kX10_reverse_26
      simp (disch := omega) only [Nat.not_le.mpr hlt, SC (g1.1), zl_eq, bsm, ZS, ZT, ZN, ZU, eq_self, true_and, and_true, and_self, or_true, true_or, or_false, false_or, not_true, not_false_eq_true, Nat.reduceAdd, Nat.reduceMul, Nat.reduceLT, Nat.reduceLeDiff, Nat.reduceEqDiff, ↓reduceIte, ZQ, Bool.true_eq_false, Bool.false_eq_true, Bool.not_true, Bool.not_false]
      refine wloop (fun l y => y.1 = nI l ∧ zfr [32] h y.2 ∧ hasM y.2 32 (rvN (G s) (32 * v + 8 * l))) 4 (fun l y self2 hl hy ih2 => ?_) (by decide) ⟨rfl, p1, by rw [Nat.mul_zero, Nat.add_zero]; exact q1⟩
      obtain ⟨y, h2⟩ := y
      obtain ⟨rfl, p2, q2⟩ := hy
      dsimp only at p2 q2
      show wp (kX10_reverse_35 self 0 (nI s) (nI t) (nI v) self2 (nI l) h2) _
      have g2 := hI.fr (fq32 p2)
      by_cases hlt2 : l < 4
      · unfold kX10_reverse_35
        simp (disch := omega) only [Nat.not_le.mpr hlt2, SC (g2.1), zl_eq, bsm, ZS, ZT, ZN, ZU, eq_self, true_and, and_true, and_self, or_true, true_or, or_false, false_or, not_true, not_false_eq_true, Nat.reduceAdd, Nat.reduceMul, Nat.reduceLT, Nat.reduceLeDiff, Nat.reduceEqDiff, ↓reduceIte, ZQ, Bool.true_eq_false, Bool.false_eq_true, Bool.not_true, Bool.not_false]
        refine wloop (fun x y => y.1 = nI x ∧ zfr [32] h y.2 ∧ hasM y.2 32 (rvN (G s) (32 * v + 8 * l + x))) 8 (fun x y self3 hx hy ih3 => ?_) (by decide) ⟨rfl, p2, by rw [Nat.add_zero]; exact q2⟩
        obtain ⟨y, h3⟩ := y
        obtain ⟨rfl, p3, q3⟩ := hy
        dsimp only at p3 q3
        show wp (kX10_reverse_44 self self2 0 (nI s) (nI t) (nI v) (nI l) self3 (nI x) h3) _
        have g3 := hI.fr (fq32 p3)
        unfold kX10_reverse_44 bX10_reverse_80
        by_cases hlt3 : x < 8
        · have e1 : (32 * v + 8 * l + x) / 8 = 4 * v + l := by omega
          have e2 : (32 * v + 8 * l + x) % 8 = x := by omega
          have e3 : (4 * v + l) % 4 = l := by omega
          have e4 : (32 * v + 8 * l + x) / 32 = v := by omega
          have er : rvN (G s) (32 * v + 8 * l + x + 1) = upM (rvN (G s) (32 * v + 8 * l + x)) (4 * x + l) (rvN (G s) (32 * v + 8 * l + x) (4 * x + l) ||| (if (G s (4 * v + l)).testBit x = true then 2 ^ v else 0)) := by
            rw [rvN, e1, e2, e3, e4]
          have hh := has_ok (gS g3.1 h6) (g3.2.1.m h6) hlt hlt2 hlt3
          by_cases hbit : (G s (4 * v + l)).testBit x = true
          · rw [if_pos hbit] at er
            rw [hbit] at hh
            obtain ⟨h4, e5, p4, q4⟩ := put_ok (g31 g3.1) q3 hlt3 hlt2 hlt
            simp (disch := omega) only [Nat.not_le.mpr hlt3, hh, Bool.toNat_true, e5, SC (g3.1), zl_eq, bsm, ZS, ZT, ZN, ZU, eq_self, true_and, and_true, and_self, or_true, true_or, or_false, false_or, not_true, not_false_eq_true, Nat.reduceAdd, Nat.reduceMul, Nat.reduceLT, Nat.reduceLeDiff, Nat.reduceEqDiff, ↓reduceIte, ZQ, Bool.true_eq_false, Bool.false_eq_true, Bool.not_true, Bool.not_false]
            exact ih3 _ hlt3 ⟨rfl, p3.same p4, by dsimp only; rw [← Nat.add_assoc, er]; exact q4⟩
          · rw [if_neg hbit, upM_or0] at er
            have hbit' : (G s (4 * v + l)).testBit x = false := by simpa using hbit
            rw [hbit'] at hh
            simp (disch := omega) only [Nat.not_le.mpr hlt3, hh, Bool.toNat_false, SC (g3.1), zl_eq, bsm, ZS, ZT, ZN, ZU, eq_self, true_and, and_true, and_self, or_true, true_or, or_false, false_or, not_true, not_false_eq_true, Nat.reduceAdd, Nat.reduceMul, Nat.reduceLT, Nat.reduceLeDiff, Nat.reduceEqDiff, ↓reduceIte, ZQ, Bool.true_eq_false, Bool.false_eq_true, Bool.not_true, Bool.not_false]
            exact ih3 _ hlt3 ⟨rfl, p3, by dsimp only; rw [← Nat.add_assoc, er]; exact q3⟩
        · have : x = 8 := by omega
          subst this
          simp (disch := omega) only [Nat.le_refl, SC (g3.1), zl_eq, bsm, ZS, ZT, ZN, ZU, eq_self, true_and, and_true, and_self, or_true, true_or, or_false, false_or, not_true, not_false_eq_true, Nat.reduceAdd, Nat.reduceMul, Nat.reduceLT, Nat.reduceLeDiff, Nat.reduceEqDiff, ↓reduceIte, ZQ, Bool.true_eq_false, Bool.false_eq_true, Bool.not_true, Bool.not_false]
          exact ih2 _ hlt2 ⟨rfl, p3, by dsimp only; rw [show 32 * v + 8 * (l + 1) = 32 * v + 8 * l + 8 by omega]; exact q3⟩
      · have : l = 4 := by omega
        subst this
        unfold kX10_reverse_35
        simp (disch := omega) only [Nat.le_refl, SC (g2.1), zl_eq, bsm, ZS, ZT, ZN, ZU, eq_self, true_and, and_true, and_self, or_true, true_or, or_false, false_or, not_true, not_false_eq_true, Nat.reduceAdd, Nat.reduceMul, Nat.reduceLT, Nat.reduceLeDiff, Nat.reduceEqDiff, ↓reduceIte, ZQ, Bool.true_eq_false, Bool.false_eq_true, Bool.not_true, Bool.not_false]
        exact ih _ hlt ⟨rfl, p2, by dsimp only; rw [show 32 * (v + 1) = 32 * v + 8 * 4 by omega]; exact q2⟩
    · have : v = 8 := by omega
      subst this
      unfold kX10_reverse_26
      simp (disch := omega) only [Nat.le_refl, SC (g1.1), zl_eq, bsm, ZS, ZT, ZN, ZU, eq_self, true_and, and_true, and_self, or_true, true_or, or_false, false_or, not_true, not_false_eq_true, Nat.reduceAdd, Nat.reduceMul, Nat.reduceLT, Nat.reduceLeDiff, Nat.reduceEqDiff, ↓reduceIte, ZQ, Bool.true_eq_false, Bool.false_eq_true, Bool.not_true, Bool.not_false]
      rw [show 32 * 8 = 256 from rfl, hN] at q1
      exact fin_c g1 ht q1
  · rintro ⟨r1, h1⟩ ⟨hr, m1⟩
    exact ⟨hr, rev_r h6 ht hb hN m1⟩
