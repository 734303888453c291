/-! CALL: characteristic, whole -/
section CR
variable {h : ZH} {A : Nat → Nat → Int64}
theorem charR_ok {n i : Nat} (hs : Sh h) (hn : n ≤ 8) (hi : i ≤ n) (e17 : zI h 117 17 = nI n) (gA : MM h 129 n A) (gZ : MM h 130 n (fun _ _ => lN 0)) (c0 : zJ h 132 n = lN 1) : ∃ h', zloop (lX11_characteristic_44 117 (nI i)) zfu (nI 1, h) = some ((fl A n (n - i)).2, h') ∧ zfr [130, 131, 132] h h' := by
  have key : wp (zloop (lX11_characteristic_44 117 (nI i)) zfu (nI 1, h)) (fun r => r.1 = (fl A n (n - i)).2 ∧ zfr [130, 131, 132] h r.2) := by
    refine wloop (fun k y => y.1 = nI (k + 1) ∧ zfr [130, 131, 132] h y.2 ∧ (∃ N, MM y.2 130 n N ∧ pmul A N n = (fl A n k).1) ∧ ∀ j, j ≤ k → zJ y.2 132 (n - j) = (fl A n j).2) n (fun k y self hk hy ih => ?_) (show n < 100000 by omega) ⟨rfl, zfr.refl h, ⟨_, gZ, ?_⟩, fun j hj => ?_⟩
    · obtain ⟨y, h1⟩ := y
      obtain ⟨rfl, p1, ⟨N, gN, eN⟩, c1⟩ := hy
      dsimp only at p1 gN c1
      have hs1 := p1.shp hs
      have z1 : zI h1 117 17 = nI n := by rw [p1.I (by decide)]; exact e17
      have gA1 : MM h1 129 n A := gA.fr p1 (by decide)
      show wp (kX11_characteristic_44 117 (nI i) self (nI (k + 1)) h1) _
      unfold kX11_characteristic_44
      by_cases hlt : k < n
      · obtain ⟨h2, e2, p2, q2⟩ := mulR_ok hs1 hn z1 gA1 gN
        rw [eN] at q2
        have hs2 := p2.shp hs1
        have c5 : zJ h2 132 (n - k) = (fl A n k).2 := by rw [p2.J (by decide)]; exact c1 k (Nat.le_refl k)
        have hP := fl_1 A n k
        have hc := fl_2 A n k
        generalize (fl A n k).1 = P at q2 hP
        generalize (fl A n k).2 = cc at c5 hP
        simp (disch := omega) only [z1, show ¬ (n < k + 1) by omega, e2, SR (hs1), zl_eq, bsm, ZS, ZT, ZN, ZU, eq_self, true_and, and_true, and_self, or_true, true_or, or_false, false_or, not_true, not_false_eq_true, Nat.reduceAdd, Nat.reduceMul, Nat.reduceLT, Nat.reduceLeDiff, Nat.reduceEqDiff, ↓reduceIte, ZQ, Bool.true_eq_false, Bool.false_eq_true, Bool.not_true, Bool.not_false]
        refine wloop (fun x y => y.1 = nI x ∧ zfr [130] h2 y.2 ∧ MMp y.2 130 n (padd P cc) x 0) n (fun x y self2 hx hy ih2 => ?_) (show n < 100000 by omega) ⟨rfl, zfr.refl h2, MMp_0⟩
        obtain ⟨y, h3⟩ := y
        obtain ⟨rfl, p3, q3⟩ := hy
        dsimp only at p3 q3
        have hs3 := p3.shp hs2
        have z3 : zI h3 117 17 = nI n := by rw [p3.I (by decide), p2.I (by decide)]; exact z1
        show wp (kX11_characteristic_59 self 117 (nI i) (nI (k + 1)) self2 (nI x) h3) _
        unfold kX11_characteristic_59
        by_cases hlt2 : x < n
        · simp (disch := omega) only [z3, Nat.not_le.mpr hlt2, SR (hs3), zl_eq, bsm, ZS, ZT, ZN, ZU, eq_self, true_and, and_true, and_self, or_true, true_or, or_false, false_or, not_true, not_false_eq_true, Nat.reduceAdd, Nat.reduceMul, Nat.reduceLT, Nat.reduceLeDiff, Nat.reduceEqDiff, ↓reduceIte, ZQ, Bool.true_eq_false, Bool.false_eq_true, Bool.not_true, Bool.not_false]
          refine wloop (fun v y => y.1 = nI v ∧ zfr [130] h2 y.2 ∧ MMp y.2 130 n (padd P cc) x v) n (fun v y self3 hv hy ih3 => ?_) (show n < 100000 by omega) ⟨rfl, p3, q3⟩
          obtain ⟨y, h4⟩ := y
          obtain ⟨rfl, p4, q4⟩ := hy
          dsimp only at p4 q4
          have hs4 := p4.shp hs2
          have z4 : zI h4 117 17 = nI n := by rw [p4.I (by decide), p2.I (by decide)]; exact z1
          show wp (kX11_characteristic_71 self self2 117 (nI i) (nI (k + 1)) (nI x) self3 (nI v) h4) _
          unfold kX11_characteristic_71 bX11_characteristic_129
          by_cases hlt3 : v < n
          · have a1 : zJ h4 131 (8 * x + v) = P x v := by rw [p4.J (by decide)]; exact q2 x v hlt2 hlt3
            have a2 : zJ h4 132 (n - (k + 1) + 1) = cc := by rw [p4.J (by decide), show n - (k + 1) + 1 = n - k by omega]; exact c5
            by_cases exv : x = v
            · subst exv
              simp (disch := omega) only [z4, Nat.not_le.mpr hlt3, a1, a2, SR (hs4), zl_eq, bsm, ZS, ZT, ZN, ZU, eq_self, true_and, and_true, and_self, or_true, true_or, or_false, false_or, not_true, not_false_eq_true, Nat.reduceAdd, Nat.reduceMul, Nat.reduceLT, Nat.reduceLeDiff, Nat.reduceEqDiff, ↓reduceIte, ZQ, Bool.true_eq_false, Bool.false_eq_true, Bool.not_true, Bool.not_false]
              exact ih3 _ hlt3 ⟨rfl, p4.same zfr_uJ, MMp_put hn hlt3 q4 padd_at.symm⟩
            · have ez : P x v + lN 0 = P x v := by rw [lN0, Int64.add_zero]
              simp (disch := omega) only [z4, Nat.not_le.mpr hlt3, a1, eq_false exv, ez, SR (hs4), zl_eq, bsm, ZS, ZT, ZN, ZU, eq_self, true_and, and_true, and_self, or_true, true_or, or_false, false_or, not_true, not_false_eq_true, Nat.reduceAdd, Nat.reduceMul, Nat.reduceLT, Nat.reduceLeDiff, Nat.reduceEqDiff, ↓reduceIte, ZQ, Bool.true_eq_false, Bool.false_eq_true, Bool.not_true, Bool.not_false]
              exact ih3 _ hlt3 ⟨rfl, p4.same zfr_uJ, MMp_put hn hlt3 q4 (padd_ne exv).symm⟩
          · have : v = n := by omega
            subst this
            simp (disch := omega) only [z4, Nat.le_refl, SR (hs4), zl_eq, bsm, ZS, ZT, ZN, ZU, eq_self, true_and, and_true, and_self, or_true, true_or, or_false, false_or, not_true, not_false_eq_true, Nat.reduceAdd, Nat.reduceMul, Nat.reduceLT, Nat.reduceLeDiff, Nat.reduceEqDiff, ↓reduceIte, ZQ, Bool.true_eq_false, Bool.false_eq_true, Bool.not_true, Bool.not_false]
            exact ih2 _ hlt2 ⟨rfl, p4, MMp_row q4⟩
        · have : x = n := by omega
          subst this
          have gA3 : MM h3 129 x A := (gA1.fr p2 (by decide)).fr p3 (by decide)
          have gN3 := MMp_end q3
          obtain ⟨h6, e6, p6, q6⟩ := mulR_ok hs3 hn z3 gA3 gN3
          rw [← hP] at q6
          have hs6 := p6.shp hs3
          have z6 : zI h6 117 17 = nI x := by rw [p6.I (by decide)]; exact z3
          have hz := eq_false (fun q => absurd ((lz (a := k + 1) (by omega)).mp q) (by omega))
          simp (disch := omega) only [z3, Nat.le_refl, e6, SR (hs3), zl_eq, bsm, ZS, ZT, ZN, ZU, eq_self, true_and, and_true, and_self, or_true, true_or, or_false, false_or, not_true, not_false_eq_true, Nat.reduceAdd, Nat.reduceMul, Nat.reduceLT, Nat.reduceLeDiff, Nat.reduceEqDiff, ↓reduceIte, ZQ, Bool.true_eq_false, Bool.false_eq_true, Bool.not_true, Bool.not_false]
          refine wloop (fun j z => z = (sumL (fun v => (fl A x (k + 1)).1 v v) j, nI j, h6)) x (fun j z self3 hj hz' ih3 => ?_) (show x < 100000 by omega) rfl
          subst hz'
          show wp (kX11_characteristic_153 self 117 (nI i) (nI (k + 1)) self3 (sumL (fun v => (fl A x (k + 1)).1 v v) j) (nI j) h6) _
          unfold kX11_characteristic_153
          by_cases hlt4 : j < x
          · have a1 : zJ h6 131 (9 * j) = (fl A x (k + 1)).1 j j := by rw [show 9 * j = 8 * j + j by omega]; exact q6 j j hlt4 hlt4
            simp (disch := omega) only [z6, Nat.not_le.mpr hlt4, a1, SR (hs6), zl_eq, bsm, ZS, ZT, ZN, ZU, eq_self, true_and, and_true, and_self, or_true, true_or, or_false, false_or, not_true, not_false_eq_true, Nat.reduceAdd, Nat.reduceMul, Nat.reduceLT, Nat.reduceLeDiff, Nat.reduceEqDiff, ↓reduceIte, ZQ, Bool.true_eq_false, Bool.false_eq_true, Bool.not_true, Bool.not_false]
            exact ih3 _ hlt4 rfl
          · have : j = x := by omega
            subst this
            simp (disch := omega) only [z6, Nat.le_refl, i64 (k + 1) (by omega), hz, SR (hs6), zl_eq, bsm, ZS, ZT, ZN, ZU, eq_self, true_and, and_true, and_self, or_true, true_or, or_false, false_or, not_true, not_false_eq_true, Nat.reduceAdd, Nat.reduceMul, Nat.reduceLT, Nat.reduceLeDiff, Nat.reduceEqDiff, ↓reduceIte, ZQ, Bool.true_eq_false, Bool.false_eq_true, Bool.not_true, Bool.not_false]
            refine ih _ hlt ⟨rfl, ?_, ⟨padd P cc, (gN3.fr p6 (by decide)).fr zfr_uJ (by decide), hP.symm⟩, fun m hm => ?_⟩
            · exact p1.same (((p2.trans p3).trans p6).mono (by decide) |>.same (zfr_uJ.mono (by decide)))
            · dsimp only [zJ_zsJ]
              rw [zu_at]
              by_cases q : m = k + 1
              · rw [if_pos (by omega), q, hc]
                rfl
              · rw [if_neg (by omega), p6.J (by decide), p3.J (by decide), p2.J (by decide)]
                exact c1 m (by omega)
      · have : k = n := by omega
        subst this
        have a1 : zJ h1 132 i = (fl A k (k - i)).2 := by
          have := c1 (k - i) (by omega)
          rwa [show k - (k - i) = i by omega] at this
        simp (disch := omega) only [z1, Nat.lt_succ_self, a1, SR (hs1), zl_eq, bsm, ZS, ZT, ZN, ZU, eq_self, true_and, and_true, and_self, or_true, true_or, or_false, false_or, not_true, not_false_eq_true, Nat.reduceAdd, Nat.reduceMul, Nat.reduceLT, Nat.reduceLeDiff, Nat.reduceEqDiff, ↓reduceIte, ZQ, Bool.true_eq_false, Bool.false_eq_true, Bool.not_true, Bool.not_false]
        exact wp_some ⟨rfl, p1⟩
    · funext u v
      refine sumL_zero n (fun w hw => ?_)
      rw [lN0, Int64.mul_zero]
    · have : j = 0 := by omega
      subst this
      exact c0
  obtain ⟨⟨r, h'⟩, e, h1, h2⟩ := key
  dsimp only at h1
  subst h1
  exact ⟨h', e, h2⟩
end CR
theorem fl_cong {A B : Nat → Nat → Int64} {n : Nat} (h : ∀ a b, a < n → b < n → A a b = B a b) : ∀ k, (∀ u v, u < n → (fl A n k).1 u v = (fl B n k).1 u v) ∧ (fl A n k).2 = (fl B n k).2 := by
  intro k
  induction k with
  | zero => exact ⟨fun _ _ _ => rfl, rfl⟩
  | succ k ih =>
    have j : ∀ u v, u < n → (fl A n (k + 1)).1 u v = (fl B n (k + 1)).1 u v := by
      intro u v hu
      rw [fl_1, fl_1]
      refine sumL_cong n (fun w hw => ?_)
      unfold padd
      rw [h u w hu hw, ih.1 w v hw, ih.2]
    refine ⟨j, ?_⟩
    rw [fl_2, fl_2]
    have : ptr (fl A n (k + 1)).1 n = ptr (fl B n (k + 1)).1 n := sumL_cong n (fun v hv => j v v hv)
    rw [this]
theorem c_characteristic (a1 a2 : Int32) : Ok2 (fX10_characteristic 0 a1 a2) (fX11_characteristic 117 a1 a2) := by
  refine Ok2.of (fun h G n c hI => ?_)
  have hs := hI.1
  rcases cSlot a1 with b | ⟨s, h6, rfl⟩
  · refine Ok2.same hI (r := -9223372036854775808) ?_ ?_
    · simp (disch := omega) only [fX10_characteristic, fun q => (b q).1, SC (hs), zl_eq, bsm, ZS, ZT, ZN, ZU, eq_self, true_and, and_true, and_self, or_true, true_or, or_false, false_or, not_true, not_false_eq_true, Nat.reduceAdd, Nat.reduceMul, Nat.reduceLT, Nat.reduceLeDiff, Nat.reduceEqDiff, ↓reduceIte, ZQ, Bool.true_eq_false, Bool.false_eq_true, Bool.not_true, Bool.not_false]
    · simp (disch := omega) only [fX11_characteristic, bX11_characteristic_23, fun q => (b q).2, SR (hs), zl_eq, bsm, ZS, ZT, ZN, ZU, eq_self, true_and, and_true, and_self, or_true, true_or, or_false, false_or, not_true, not_false_eq_true, Nat.reduceAdd, Nat.reduceMul, Nat.reduceLT, Nat.reduceLeDiff, Nat.reduceEqDiff, ↓reduceIte, ZQ, Bool.true_eq_false, Bool.false_eq_true, Bool.not_true, Bool.not_false]
  obtain ⟨h1, e1, p1, q1⟩ := trim_ok hI h6
  have g1 := hI.fr (fq34 p1)
  have hs1 := g1.1
  have ec := core_ok (g33 hs1) q1
  rw [ess_core] at ec
  have hC := ess_lt (G s)
  have hu := und_le (ess (G s)) 8
  have bu := bc_und _ hC
  have ee := essentialOf_ok hs1 g1.2.1.rr h6
  rcases cIn a2 (lo := 0) (hi := und (ess (G s)) 8) (by decide) (by omega) with b | ⟨i, -, hi, rfl⟩
  · refine ⟨-9223372036854775808, (-9223372036854775808, h1), ?_, rfl, wp_eq (a := (-9223372036854775808, h1)) ?_ ⟨rfl, G, n, c, g1⟩⟩
    · unfold fX10_characteristic
      simp (disch := omega) only [e1, SC (hs), zl_eq, bsm, ZS, ZT, ZN, ZU, eq_self, true_and, and_true, and_self, or_true, true_or, or_false, false_or, not_true, not_false_eq_true, Nat.reduceAdd, Nat.reduceMul, Nat.reduceLT, Nat.reduceLeDiff, Nat.reduceEqDiff, ↓reduceIte, ZQ, Bool.true_eq_false, Bool.false_eq_true, Bool.not_true, Bool.not_false]
      simp (disch := omega) only [ec, bc_ok, bu, fun q => (b q).1, SC (hs1), zl_eq, bsm, ZS, ZT, ZN, ZU, eq_self, true_and, and_true, and_self, or_true, true_or, or_false, false_or, not_true, not_false_eq_true, Nat.reduceAdd, Nat.reduceMul, Nat.reduceLT, Nat.reduceLeDiff, Nat.reduceEqDiff, ↓reduceIte, ZQ, Bool.true_eq_false, Bool.false_eq_true, Bool.not_true, Bool.not_false]
    · unfold fX11_characteristic bX11_characteristic_23
      simp (disch := omega) only [ee, bc_ok, bu, fun q => (b q).2, SR (hs1), zl_eq, bsm, ZS, ZT, ZN, ZU, eq_self, true_and, and_true, and_self, or_true, true_or, or_false, false_or, not_true, not_false_eq_true, Nat.reduceAdd, Nat.reduceMul, Nat.reduceLT, Nat.reduceLeDiff, Nat.reduceEqDiff, ↓reduceIte, ZQ, Bool.true_eq_false, Bool.false_eq_true, Bool.not_true, Bool.not_false]
  obtain ⟨h2, e2, p2, c2⟩ := computeC_ok hs1 q1
  have g2 := g1.fr (fq.of p2 (by decide) (by decide))
  have hs2 := g2.1
  obtain ⟨pl, hp1, hp2⟩ := plEx (ess (G s))
  have ee2 := essentialOf_ok hs2 g2.2.1.rr h6
  obtain ⟨h3, e3, p3, k3, z3, m3, m3'⟩ := fillM_ok hs2 g2.2.1.rr h6 hp2
  have hs3 := p3.shp hs2
  have p4 : zfr [132] h3 (zsJ h3 (zu (zJ h3) 132 (und (ess (G s)) 8) (lN 1))) := zfr_uJ
  have c4 : zJ (zsJ h3 (zu (zJ h3) 132 (und (ess (G s)) 8) (lN 1))) 132 (und (ess (G s)) 8) = lN 1 := by dsimp only [zJ_zsJ]; rw [zu_at, if_pos rfl]
  have m4 := m3.fr p4 (by decide)
  have m4' := m3'.fr p4 (by decide)
  have z4 : zI (zsJ h3 (zu (zJ h3) 132 (und (ess (G s)) 8) (lN 1))) 117 17 = nI (und (ess (G s)) 8) := z3
  have f1 := (fl_eq hp1 hp2 (A := mE (coreM (G s))) (fun u v hu hv hb => by
    have : cE (coreM (G s)) u v 4 = 0 := by
      have hz : ∀ l, l < 4 → (coreM (G s) (4 * u + l)).testBit v = false := by
        intro l hl
        unfold coreM
        rw [show (4 * u + l) / 4 = u by omega]
        by_cases q : (ess (G s)).testBit u = true
        · rw [if_pos q, Nat.testBit_and]
          rcases hb with z | z
          · rw [z] at q; cases q
          · rw [z, Bool.and_false]
        · rw [if_neg q, Nat.zero_testBit]
      rw [cE_cong (M' := fun _ => 0) (u' := 0) (v' := 0) 4 (fun l hl => by rw [hz l hl, Nat.zero_testBit])]
      rfl
    unfold mE
    rw [this]) (und (ess (G s)) 8 - i)).2.2
  have f2 := (fl_cong (n := und (ess (G s)) 8) (A := fun a b => mE (coreM (G s)) (pl a) (pl b)) (B := fun a b => mE (G s) (pl a) (pl b)) (fun a b ha hb => by
    obtain ⟨a1, a2, a3⟩ := hp2 a ha
    obtain ⟨b1, b2, b3⟩ := hp2 b hb
    have : cE (coreM (G s)) (pl a) (pl b) 4 = cE (G s) (pl a) (pl b) 4 := cE_cong 4 (fun l hl => by
      unfold coreM
      rw [show (4 * pl a + l) / 4 = pl a by omega, if_pos a2, Nat.testBit_and, b2, Bool.and_true])
    show lN _ = lN _
    rw [this]) (und (ess (G s)) 8 - i)).2
  have cC := c2 (und (ess (G s)) 8 - i) (by omega)
  rw [f1, f2] at cC
  have e34 : sJ h3 132 (nI (und (ess (G s)) 8)) (lN 1) = some (zsJ h3 (zu (zJ h3) 132 (und (ess (G s)) 8) (lN 1))) := by
    simp (disch := omega) only [SR (hs3), zl_eq, bsm, ZS, ZT, ZN, ZU, eq_self, true_and, and_true, and_self, or_true, true_or, or_false, false_or, not_true, not_false_eq_true, Nat.reduceAdd, Nat.reduceMul, Nat.reduceLT, Nat.reduceLeDiff, Nat.reduceEqDiff, ↓reduceIte, ZQ, Bool.true_eq_false, Bool.false_eq_true, Bool.not_true, Bool.not_false]
  generalize zsJ h3 (zu (zJ h3) 132 (und (ess (G s)) 8) (lN 1)) = h4 at p4 c4 m4 m4' z4 e34
  have hs4 := p4.shp hs3
  obtain ⟨h5, e5, p5⟩ := charR_ok hs4 hu hi z4 m4 m4' c4
  have p25 := (p3.trans p4).trans p5
  have g5 := g2.fr (fq.of2 (p25.mono (B := scr) (by decide)) (by decide) (fun k hk => by rw [p5.I (by decide), p4.I (by decide)]; exact k3 k (by omega)))
  generalize (fl (fun a b => mE (G s) (pl a) (pl b)) (und (ess (G s)) 8) (und (ess (G s)) 8 - i)).2 = ans at cC e5
  generalize und (ess (G s)) 8 = m at *
  refine ⟨ans, (ans, h2), ?_, rfl, wp_eq (a := (ans, h5)) ?_ ⟨rfl, G, n, c, g5⟩⟩
  · unfold fX10_characteristic fX5_coefficient bX5_coefficient_20
    simp (disch := omega) only [e1, SC (hs), zl_eq, bsm, ZS, ZT, ZN, ZU, eq_self, true_and, and_true, and_self, or_true, true_or, or_false, false_or, not_true, not_false_eq_true, Nat.reduceAdd, Nat.reduceMul, Nat.reduceLT, Nat.reduceLeDiff, Nat.reduceEqDiff, ↓reduceIte, ZQ, Bool.true_eq_false, Bool.false_eq_true, Bool.not_true, Bool.not_false]
    simp (disch := omega) only [ec, bc_ok, bu, e2, SC (hs1), zl_eq, bsm, ZS, ZT, ZN, ZU, eq_self, true_and, and_true, and_self, or_true, true_or, or_false, false_or, not_true, not_false_eq_true, Nat.reduceAdd, Nat.reduceMul, Nat.reduceLT, Nat.reduceLeDiff, Nat.reduceEqDiff, ↓reduceIte, ZQ, Bool.true_eq_false, Bool.false_eq_true, Bool.not_true, Bool.not_false]
    rw [show 8 - (m - i) = i + 8 - m by omega] at cC
    simp (disch := omega) only [show ¬ (8 < i + 8 - m) by omega, cC, SC (hs2), zl_eq, bsm, ZS, ZT, ZN, ZU, eq_self, true_and, and_true, and_self, or_true, true_or, or_false, false_or, not_true, not_false_eq_true, Nat.reduceAdd, Nat.reduceMul, Nat.reduceLT, Nat.reduceLeDiff, Nat.reduceEqDiff, ↓reduceIte, ZQ, Bool.true_eq_false, Bool.false_eq_true, Bool.not_true, Bool.not_false]
  · unfold fX11_characteristic
    simp (disch := omega) only [ee2, bc_ok, bu, e3, SR (hs2), zl_eq, bsm, ZS, ZT, ZN, ZU, eq_self, true_and, and_true, and_self, or_true, true_or, or_false, false_or, not_true, not_false_eq_true, Nat.reduceAdd, Nat.reduceMul, Nat.reduceLT, Nat.reduceLeDiff, Nat.reduceEqDiff, ↓reduceIte, ZQ, Bool.true_eq_false, Bool.false_eq_true, Bool.not_true, Bool.not_false]
    simp (disch := omega) only [z3, e34, e5, SR (hs3), zl_eq, bsm, ZS, ZT, ZN, ZU, eq_self, true_and, and_true, and_self, or_true, true_or, or_false, false_or, not_true, not_false_eq_true, Nat.reduceAdd, Nat.reduceMul, Nat.reduceLT, Nat.reduceLeDiff, Nat.reduceEqDiff, ↓reduceIte, ZQ, Bool.true_eq_false, Bool.false_eq_true, Bool.not_true, Bool.not_false]
