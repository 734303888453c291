/-! CALL: characteristic: the recurrence, both sides -/
section CP
variable {h : ZH}
theorem cpJ {a b : Nat} (ha : isA h 15 a 64) (hb : isA h 15 b 64) : zcpJ h a b (nI 0) (nI 0) (nI 64) = some (zsJ h (zrow (zJ h) b (va_cpy (zJ h a) (zJ h b) 0 0 64))) := by
  unfold zcpJ
  rw [if_pos ⟨⟨⟨ha.1, ha.2.1⟩, hb.1, hb.2.1⟩, ⟨by decide, by decide, by decide⟩, by rw [ha.2.2]; decide, by rw [hb.2.2]; decide⟩]
  rfl
theorem padd_at {P : Nat → Nat → Int64} {c : Int64} {v : Nat} : padd P c v v = P v v + c := by unfold padd; rw [if_pos rfl]
theorem padd_ne {P : Nat → Nat → Int64} {c : Int64} {u v : Nat} (h : u ≠ v) : padd P c u v = P u v := by
  unfold padd
  rw [if_neg h, lN0, Int64.add_zero]
theorem computeC_ok {M : Nat → Nat} (hs : Sh h) (gM : hasM h 34 M) : ∃ h', fX5_compute 76 33 h = some h' ∧ zfr [77, 78, 79, 80] h h' ∧ ∀ i, i ≤ 8 → zJ h' 80 (8 - i) = (fl (mE M) 8 i).2 := by
  have key : wp (fX5_compute 76 33 h) (fun h' => zfr [77, 78, 79, 80] h h' ∧ ∀ i, i ≤ 8 → zJ h' 80 (8 - i) = (fl (mE M) 8 i).2) := by
    obtain ⟨h1, e1, p1, q1⟩ := countEC_ok hs gM
    have hs1 := p1.shp hs
    unfold fX5_compute
    simp (disch := omega) only [e1, SC (hs), zl_eq, bsm, ZS, ZT, ZN, ZU, eq_self, true_and, and_true, and_self, or_true, true_or, or_false, false_or, not_true, not_false_eq_true, Nat.reduceAdd, Nat.reduceMul, Nat.reduceLT, Nat.reduceLeDiff, Nat.reduceEqDiff, ↓reduceIte, ZQ, Bool.true_eq_false, Bool.false_eq_true, Bool.not_true, Bool.not_false]
    simp (disch := omega) only [fillJ_ok (Aa hs1 (a := 79) (n := 64) (by decide) (by decide) (by decide)) (by decide), SC (hs1), zl_eq, bsm, ZS, ZT, ZN, ZU, eq_self, true_and, and_true, and_self, or_true, true_or, or_false, false_or, not_true, not_false_eq_true, Nat.reduceAdd, Nat.reduceMul, Nat.reduceLT, Nat.reduceLeDiff, Nat.reduceEqDiff, ↓reduceIte, ZQ, Bool.true_eq_false, Bool.false_eq_true, Bool.not_true, Bool.not_false]
    have pz : zfr [79, 80] h1 (zsJ h1 (zu (zfil (zJ h1) 79 64 fun _ => lN 0) 80 8 (lN 1))) := zfr_zsJ (fun b hb => by
      rw [zu_ne (fun e => hb (by rw [e]; decide)), zfil_ne (fun e => hb (by rw [e]; decide))])
    have z1 : MM (zsJ h1 (zu (zfil (zJ h1) 79 64 fun _ => lN 0) 80 8 (lN 1))) 79 8 (fl (mE M) 8 0).1 := fun u v hu hv => by
      dsimp only [zJ_zsJ]
      rw [zu_ne (by decide), zfil_in (by omega)]
      rfl
    have z2 : zJ (zsJ h1 (zu (zfil (zJ h1) 79 64 fun _ => lN 0) 80 8 (lN 1))) 80 8 = lN 1 := by
      dsimp only [zJ_zsJ]
      rw [zu_at, if_pos rfl]
    generalize zsJ h1 (zu (zfil (zJ h1) 79 64 fun _ => lN 0) 80 8 (lN 1)) = h2 at pz z1 z2
    have hs2 := pz.shp hs1
    have gA : MM h2 77 8 (mE M) := q1.fr pz (by decide)
    have p2 : zfr [77, 78, 79, 80] h h2 := (p1.trans pz).mono (by decide)
    generalize mE M = A at gA z1
    refine wloop (fun k y => y.1 = nI (k + 1) ∧ zfr [78, 79, 80] h2 y.2 ∧ MM y.2 79 8 (fl A 8 k).1 ∧ ∀ i, i ≤ k → zJ y.2 80 (8 - i) = (fl A 8 i).2) 8 (fun k y self hk hy ih => ?_) (by decide) ⟨rfl, zfr.refl h2, z1, fun i hi => ?_⟩
    · obtain ⟨y, h3⟩ := y
      obtain ⟨rfl, p3, q3, c3⟩ := hy
      dsimp only at p3 q3 c3
      have hs3 := p3.shp hs2
      show wp (kX5_compute_23 76 self (nI (k + 1)) h3) _
      unfold kX5_compute_23
      by_cases hlt : k < 8
      · have ecp := cpJ (h := h3) (Aa hs3 (a := 79) (n := 64) (by decide) (by decide) (by decide)) (Aa hs3 (a := 78) (n := 64) (by decide) (by decide) (by decide))
        simp (disch := omega) only [show ¬ (8 < k + 1) by omega, ecp, SC (hs3), zl_eq, bsm, ZS, ZT, ZN, ZU, eq_self, true_and, and_true, and_self, or_true, true_or, or_false, false_or, not_true, not_false_eq_true, Nat.reduceAdd, Nat.reduceMul, Nat.reduceLT, Nat.reduceLeDiff, Nat.reduceEqDiff, ↓reduceIte, ZQ, Bool.true_eq_false, Bool.false_eq_true, Bool.not_true, Bool.not_false]
        have p4 : zfr [78, 79, 80] h3 (zsJ h3 (zrow (zJ h3) 78 (va_cpy (zJ h3 79) (zJ h3 78) 0 0 64))) := zfr_zsJ (fun b hb => zrow_ne (fun e => hb (by rw [e]; decide)))
        have q4 : MM (zsJ h3 (zrow (zJ h3) 78 (va_cpy (zJ h3 79) (zJ h3 78) 0 0 64))) 78 8 (fl A 8 k).1 := fun u v hu hv => by
          dsimp only [zJ_zsJ]
          have hj : 8 * u + v < 64 := by omega
          have e2 : va_cpy (zJ h3 79) (zJ h3 78) 0 0 64 (8 * u + v) = zJ h3 79 (8 * u + v) := by simp [va_cpy, hj]
          rw [zrow_eq, e2]
          exact q3 u v hu hv
        have c4 : ∀ i, zJ (zsJ h3 (zrow (zJ h3) 78 (va_cpy (zJ h3 79) (zJ h3 78) 0 0 64))) 80 i = zJ h3 80 i := fun i => by
          dsimp only [zJ_zsJ]
          rw [zrow_ne (by decide)]
        generalize zsJ h3 (zrow (zJ h3) 78 (va_cpy (zJ h3 79) (zJ h3 78) 0 0 64)) = h4 at p4 q4 c4
        have hs4 := p4.shp hs3
        have c5 : zJ h4 80 (8 - k) = (fl A 8 k).2 := by rw [c4]; exact c3 k (Nat.le_refl k)
        have hP := fl_1 A 8 k
        have hc := fl_2 A 8 k
        generalize (fl A 8 k).1 = P at q4 hP
        generalize (fl A 8 k).2 = cc at c5 hP
        refine wloop (fun x y => y.1 = nI x ∧ zfr [78] h4 y.2 ∧ ∀ u v, u < 8 → v < 8 → zJ y.2 78 (8 * u + v) = if u < x then padd P cc u v else P u v) 8 (fun x y self2 hx hy ih2 => ?_) (by decide) ⟨rfl, zfr.refl h4, fun u v hu hv => by rw [if_neg (by omega)]; exact q4 u v hu hv⟩
        obtain ⟨y, h5⟩ := y
        obtain ⟨rfl, p5, q5⟩ := hy
        dsimp only at p5 q5
        have hs5 := p5.shp hs4
        show wp (kX5_compute_46 self 76 (nI (k + 1)) self2 (nI x) h5) _
        unfold kX5_compute_46
        by_cases hlt2 : x < 8
        · have a1 : zJ h5 78 (8 * x + x) = P x x := by rw [q5 x x hlt2 hlt2, if_neg (by omega)]
          have a2 : zJ h5 80 (8 - (k + 1) + 1) = cc := by rw [p5.J (by decide), show 8 - (k + 1) + 1 = 8 - k by omega]; exact c5
          simp (disch := omega) only [Nat.not_le.mpr hlt2, a1, a2, SC (hs5), zl_eq, bsm, ZS, ZT, ZN, ZU, eq_self, true_and, and_true, and_self, or_true, true_or, or_false, false_or, not_true, not_false_eq_true, Nat.reduceAdd, Nat.reduceMul, Nat.reduceLT, Nat.reduceLeDiff, Nat.reduceEqDiff, ↓reduceIte, ZQ, Bool.true_eq_false, Bool.false_eq_true, Bool.not_true, Bool.not_false]
          refine ih2 _ hlt2 ⟨rfl, p5.same zfr_uJ, fun u v hu hv => ?_⟩
          dsimp only [zJ_zsJ]
          rw [zu_at]
          by_cases q : 8 * u + v = 8 * x + x
          · have e1 : u = x := by omega
            have e2 : v = x := by omega
            rw [if_pos q, e1, e2, if_pos (by omega), padd_at]
          · rw [if_neg q, q5 u v hu hv]
            by_cases e1 : u < x
            · rw [if_pos e1, if_pos (by omega)]
            · rw [if_neg e1]
              by_cases e2 : u = x
              · rw [if_pos (by omega), padd_ne (by omega)]
              · rw [if_neg (by omega)]
        · have : x = 8 := by omega
          subst this
          have gA5 : MM h5 77 8 A := ((gA.fr p3 (by decide)).fr p4 (by decide)).fr p5 (by decide)
          have gN5 : MM h5 78 8 (padd P cc) := fun u v hu hv => by rw [q5 u v hu hv, if_pos hu]
          obtain ⟨h6, e6, p6, q6⟩ := mulC_ok hs5 gA5 gN5
          rw [← hP] at q6
          have hs6 := p6.shp hs5
          have et := traceC_ok hs6 q6
          have hz := eq_false (fun q => absurd ((lz (a := k + 1) (by omega)).mp q) (by omega))
          simp (disch := omega) only [Nat.le_refl, e6, SC (hs5), zl_eq, bsm, ZS, ZT, ZN, ZU, eq_self, true_and, and_true, and_self, or_true, true_or, or_false, false_or, not_true, not_false_eq_true, Nat.reduceAdd, Nat.reduceMul, Nat.reduceLT, Nat.reduceLeDiff, Nat.reduceEqDiff, ↓reduceIte, ZQ, Bool.true_eq_false, Bool.false_eq_true, Bool.not_true, Bool.not_false]
          simp (disch := omega) only [et, i64 (k + 1) (by omega), hz, SC (hs6), zl_eq, bsm, ZS, ZT, ZN, ZU, eq_self, true_and, and_true, and_self, or_true, true_or, or_false, false_or, not_true, not_false_eq_true, Nat.reduceAdd, Nat.reduceMul, Nat.reduceLT, Nat.reduceLeDiff, Nat.reduceEqDiff, ↓reduceIte, ZQ, Bool.true_eq_false, Bool.false_eq_true, Bool.not_true, Bool.not_false]
          rw [← hc]
          refine ih _ hlt ⟨rfl, ?_, ?_, fun i hi => ?_⟩
          · exact ((p3.same p4).same ((p5.trans p6).mono (by decide))).same (zfr_uJ.mono (by decide))
          · exact q6.fr zfr_uJ (by decide)
          · dsimp only [zJ_zsJ]
            rw [zu_at]
            by_cases q : i = k + 1
            · rw [if_pos (by omega), q]
            · rw [if_neg (by omega), p6.J (by decide), p5.J (by decide), c4]
              exact c3 i (by omega)
      · have : k = 8 := by omega
        subst this
        simp (disch := omega) only [SC (hs3), zl_eq, bsm, ZS, ZT, ZN, ZU, eq_self, true_and, and_true, and_self, or_true, true_or, or_false, false_or, not_true, not_false_eq_true, Nat.reduceAdd, Nat.reduceMul, Nat.reduceLT, Nat.reduceLeDiff, Nat.reduceEqDiff, ↓reduceIte, ZQ, Bool.true_eq_false, Bool.false_eq_true, Bool.not_true, Bool.not_false]
        exact wp_some ⟨p2.same (p3.mono (by decide)), c3⟩
    · have : i = 0 := by omega
      subst this
      exact z2
  obtain ⟨h', e, p, q⟩ := key
  exact ⟨h', e, p, q⟩
end CP
