/-! CALL: writeDifference, whole -/
theorem load2_ok {h : ZH} {G : Nat → Nat → Nat} {n : Nat} {c : Nat → Nat} (hI : INVg G n c h) {s r : Nat} (h6 : s < 6) (hr : r < 6) : ∃ h1 h2 h3, fX10_loadSubsets 0 (81 + 4 * s) h = some h1 ∧ fX1_copyCoreOf 35 (81 + 4 * r) h1 = some h2 ∧ fX6_build 43 35 h2 = some h3 ∧ Sh h1 ∧ Sh h2 ∧ INVg G n c h3 ∧ aut 37 (G s) h3 ∧ aut 43 (G r) h3 := by
  obtain ⟨h1, e1, p1, au1, -⟩ := load_ok hI h6
  have g1 := hI.fr (fqL p1)
  obtain ⟨h2, e2, p2, q2⟩ := copyCoreOf_ok (g35 g1.1) (gS g1.1 hr) (by omega) (g1.2.1.m hr)
  have g2 := g1.fr (fq.of p2 (by decide) (by decide))
  obtain ⟨h3, e3, p3, q3⟩ := build_ok (sub43 g2.1) (g35 g2.1) q2 (by decide)
  have g3 := g2.fr (fq.of p3 (by decide) (by decide))
  refine ⟨h1, h2, h3, e1, e2, e3, g1.1, g2.1, g3, ?_, aut_of q3⟩
  exact subOK.fr p3 (by decide) (by decide) (by decide) (by decide) (by decide) (subOK.fr p2 (by decide) (by decide) (by decide) (by decide) (by decide) au1)
theorem c_writeDifference (a1 a2 : Int32) : Ok2 (fX10_writeDifference 0 a1 a2) (fX11_writeDifference 117 a1 a2) := by
  refine Ok2.of (fun h G n c hI => ?_)
  have hs := hI.1
  rcases cSlot a1 with b | ⟨s, h6, rfl⟩
  · refine Ok2.same hI (r := -2) ?_ ?_
    · simp (disch := omega) only [fX10_writeDifference, bX10_writeDifference_14, fun q => (b q).1, SC (hs), zl_eq, bsm, ZS, ZT, ZN, ZU, eq_self, true_and, and_true, and_self, or_true, true_or, or_false, false_or, not_true, not_false_eq_true, Nat.reduceAdd, Nat.reduceMul, Nat.reduceLT, Nat.reduceLeDiff, Nat.reduceEqDiff, ↓reduceIte, ZQ, Bool.true_eq_false, Bool.false_eq_true, Bool.not_true, Bool.not_false]
    · simp (disch := omega) only [fX11_writeDifference, bX11_writeDifference_14, fun q => (b q).2, SR (hs), zl_eq, bsm, ZS, ZT, ZN, ZU, eq_self, true_and, and_true, and_self, or_true, true_or, or_false, false_or, not_true, not_false_eq_true, Nat.reduceAdd, Nat.reduceMul, Nat.reduceLT, Nat.reduceLeDiff, Nat.reduceEqDiff, ↓reduceIte, ZQ, Bool.true_eq_false, Bool.false_eq_true, Bool.not_true, Bool.not_false]
  rcases cSlot a2 with b | ⟨r, hr, rfl⟩
  · refine Ok2.same hI (r := -2) ?_ ?_
    · simp (disch := omega) only [fX10_writeDifference, bX10_writeDifference_14, isSlot_ok h6, fun q => (b q).1, SC hs, ZN, bsm, eq_self, and_self, Nat.reduceEqDiff, ↓reduceIte]
    · simp (disch := omega) only [fX11_writeDifference, bX11_writeDifference_14, rSlot_ok h6, fun q => (b q).2, SR hs, ZN, bsm, eq_self, and_self, Nat.reduceEqDiff, ↓reduceIte]
  obtain ⟨h1, h2, h3, e1, e2, e3, hs1, hs2, g3, au1, au2⟩ := load2_ok hI h6 hr
  have hs3 := g3.1
  have b1 := ess_lt (G s)
  have b2 := ess_lt (G r)
  have cls : ∀ (P : Int32 × ZH → Prop) x, fX4_findDifference 51 37 43 h3 = some x → wp (if x.1 = 0 then some ((-1 : Int32), x.2) else ((gR x.2 10 0 13).bind fun v18 => (gR x.2 10 0 5).bind fun v19 => (fX4_spellDifference v18 v19 x.2).bind fun h20 => (gR h20 10 0 5).bind fun v21 => (fX7_length v21 h20).bind fun q22 => some (q22.1, q22.2))) P → wp (fX10_writeDifference 0 (nI s) (nI r) h) P := by
    intro P x ex k
    unfold fX10_writeDifference
    simp (disch := omega) only [e1, SC (hs), zl_eq, bsm, ZS, ZT, ZN, ZU, eq_self, true_and, and_true, and_self, or_true, true_or, or_false, false_or, not_true, not_false_eq_true, Nat.reduceAdd, Nat.reduceMul, Nat.reduceLT, Nat.reduceLeDiff, Nat.reduceEqDiff, ↓reduceIte, ZQ, Bool.true_eq_false, Bool.false_eq_true, Bool.not_true, Bool.not_false]
    simp (disch := omega) only [e2, SC (hs1), zl_eq, bsm, ZS, ZT, ZN, ZU, eq_self, true_and, and_true, and_self, or_true, true_or, or_false, false_or, not_true, not_false_eq_true, Nat.reduceAdd, Nat.reduceMul, Nat.reduceLT, Nat.reduceLeDiff, Nat.reduceEqDiff, ↓reduceIte, ZQ, Bool.true_eq_false, Bool.false_eq_true, Bool.not_true, Bool.not_false]
    simp (disch := omega) only [e3, SC (hs2), zl_eq, bsm, ZS, ZT, ZN, ZU, eq_self, true_and, and_true, and_self, or_true, true_or, or_false, false_or, not_true, not_false_eq_true, Nat.reduceAdd, Nat.reduceMul, Nat.reduceLT, Nat.reduceLeDiff, Nat.reduceEqDiff, ↓reduceIte, ZQ, Bool.true_eq_false, Bool.false_eq_true, Bool.not_true, Bool.not_false]
    simp (disch := omega) only [ex, SC (hs3), zl_eq, bsm, ZS, ZT, ZN, ZU, eq_self, true_and, and_true, and_self, or_true, true_or, or_false, false_or, not_true, not_false_eq_true, Nat.reduceAdd, Nat.reduceMul, Nat.reduceLT, Nat.reduceLeDiff, Nat.reduceEqDiff, ↓reduceIte, ZQ, Bool.true_eq_false, Bool.false_eq_true, Bool.not_true, Bool.not_false]
    exact k
  -- the end of the object's call with a word
  have yes : ∀ (P : Int32 × ZH → Prop) (h4 h5 : ZH) (L : Nat) (f : Nat → Nat), Sh h4 → fX4_spellDifference 51 28 h4 = some h5 → Sh h5 → txC L f h5 → P (nI L, h5) → wp (if (nI 1, h4).1 = 0 then some ((-1 : Int32), (nI 1, h4).2) else ((gR (nI 1, h4).2 10 0 13).bind fun v18 => (gR (nI 1, h4).2 10 0 5).bind fun v19 => (fX4_spellDifference v18 v19 (nI 1, h4).2).bind fun h20 => (gR h20 10 0 5).bind fun v21 => (fX7_length v21 h20).bind fun q22 => some (q22.1, q22.2))) P := by
    intro P h4 h5 L f hs4 e5 hs5 t5 k
    have el := len_ok (T28 hs5) t5.1
    simp (disch := omega) only [e5, SC (hs4), zl_eq, bsm, ZS, ZT, ZN, ZU, eq_self, true_and, and_true, and_self, or_true, true_or, or_false, false_or, not_true, not_false_eq_true, Nat.reduceAdd, Nat.reduceMul, Nat.reduceLT, Nat.reduceLeDiff, Nat.reduceEqDiff, ↓reduceIte, ZQ, Bool.true_eq_false, Bool.false_eq_true, Bool.not_true, Bool.not_false]
    simp (disch := omega) only [el, SC (hs5), zl_eq, bsm, ZS, ZT, ZN, ZU, eq_self, true_and, and_true, and_self, or_true, true_or, or_false, false_or, not_true, not_false_eq_true, Nat.reduceAdd, Nat.reduceMul, Nat.reduceLT, Nat.reduceLeDiff, Nat.reduceEqDiff, ↓reduceIte, ZQ, Bool.true_eq_false, Bool.false_eq_true, Bool.not_true, Bool.not_false]
    exact wp_some k
  rcases findC g3 au1 au2 with ⟨hd, h4, e4, g4, z3⟩ | ⟨z1, z2, h4, e4, g4⟩ | ⟨hA, hnd, τ, x, hτ, hall, e4, g4, fd⟩
  · -- one graph is empty, the other is not
    have hs4 := g4.1
    have ecl := tclear_ok (T28 hs4)
    have p5 : zfr [28] h4 (zsI h4 (zu (zI h4) 28 1 (nI 0))) := zfr_uI
    have z28 : zI (zsI h4 (zu (zI h4) 28 1 (nI 0))) 28 1 = nI 0 := by dsimp only [zI_zsI]; rw [zu_at, if_pos rfl]
    have z3' : zI (zsI h4 (zu (zI h4) 28 1 (nI 0))) 51 3 = -1 := by rw [p5.I (by decide)]; exact z3
    generalize zsI h4 (zu (zI h4) 28 1 (nI 0)) = h5 at ecl p5 z28 z3'
    have hs5 := p5.shp hs4
    have t5 : txC 0 (fun _ => 0) h5 := ⟨z28, fun i hi => by omega⟩
    obtain ⟨h6', e6, p6, t6⟩ := turn_ok hs5 (by omega) (fun i hi => by omega) t5
    have hs6 := p6.shp hs5
    have p56 : zfr [28, 29] h4 h6' := (p5.trans p6).mono (by decide)
    have esp : fX4_spellDifference 51 28 h4 = some h6' := by
      unfold fX4_spellDifference
      simp (disch := omega) only [S51 hs4, ecl, zl_eq, bsm, ZS, ZT, ZN, ZU, eq_self, true_and, and_true, and_self, or_true, true_or, or_false, false_or, not_true, not_false_eq_true, Nat.reduceAdd, Nat.reduceMul, Nat.reduceLT, Nat.reduceLeDiff, Nat.reduceEqDiff, ↓reduceIte, ZQ, Bool.true_eq_false, Bool.false_eq_true, Bool.not_true, Bool.not_false]
      simp (disch := omega) only [S51 hs5, z3', zl_eq, bsm, ZS, ZT, ZN, ZU, eq_self, true_and, and_true, and_self, or_true, true_or, or_false, false_or, not_true, not_false_eq_true, Nat.reduceAdd, Nat.reduceMul, Nat.reduceLT, Nat.reduceLeDiff, Nat.reduceEqDiff, ↓reduceIte, ZQ, Bool.true_eq_false, Bool.false_eq_true, Bool.not_true, Bool.not_false]
      show kX4_spellDifference_11 51 28 (zloop (lX4_spellDifference_11 51 28) 99999) (-1) (nI 0) h5 = _
      unfold kX4_spellDifference_11 bX4_spellDifference_42
      simp (disch := omega) only [i65536, show ¬ (65536 ≤ 0) by omega, show ((-1 : Int32) < 0) = True by decide, e6, zl_eq, bsm, ZS, ZT, ZN, ZU, eq_self, true_and, and_true, and_self, or_true, true_or, or_false, false_or, not_true, not_false_eq_true, Nat.reduceAdd, Nat.reduceMul, Nat.reduceLT, Nat.reduceLeDiff, Nat.reduceEqDiff, ↓reduceIte, ZQ, Bool.true_eq_false, Bool.false_eq_true, Bool.not_true, Bool.not_false]
    have x6 := g4.x.fr (fx28 p56)
    refine ⟨nI 0, cls _ _ e4 (yes _ h4 h6' 0 _ hs4 esp hs6 t6 ⟨rfl, ?_⟩)⟩
    dsimp only
    refine diffR x6.1 x6.2.1.rr h6 hr (fun h7 p7 k7 _ _ _ => ?_)
    have hs7 := p7.shp x6.1
    have p8 : zfr [117] h7 (zsI h7 (zu (zI h7) 117 12 (nI 0))) := zfr_uI
    have z12 : zI (zsI h7 (zu (zI h7) 117 12 (nI 0))) 117 12 = nI 0 := by dsimp only [zI_zsI]; rw [zu_at, if_pos rfl]
    have o8 : ∀ k, k ≠ 12 → zI (zsI h7 (zu (zI h7) 117 12 (nI 0))) 117 k = zI h7 117 k := fun k hk => by dsimp only [zI_zsI]; rw [zu_at, if_neg hk]
    have hne : ¬ (nI (decide (ess (G s) = 0)).toNat = nI (decide (ess (G r) = 0)).toNat) := by
      intro q
      have : (decide (ess (G s) = 0)) = (decide (ess (G r) = 0)) := by
        revert q
        cases decide (ess (G s) = 0) <;> cases decide (ess (G r) = 0) <;> decide
      unfold dfB at hd
      rw [Nat.mul_add_div (by decide), Nat.div_eq_of_lt b2, Nat.add_zero, Nat.mul_add_mod, Nat.mod_eq_of_lt b2, this, Bool.xor_self] at hd
      cases hd
    unfold bX11_writeDifference_120
    rw [if_neg hne]
    simp (disch := omega) only [SR (hs7), zl_eq, bsm, ZS, ZT, ZN, ZU, eq_self, true_and, and_true, and_self, or_true, true_or, or_false, false_or, not_true, not_false_eq_true, Nat.reduceAdd, Nat.reduceMul, Nat.reduceLT, Nat.reduceLeDiff, Nat.reduceEqDiff, ↓reduceIte, ZQ, Bool.true_eq_false, Bool.false_eq_true, Bool.not_true, Bool.not_false]
    generalize zsI h7 (zu (zI h7) 117 12 (nI 0)) = h8 at p8 z12 o8
    have hs8 := p8.shp hs7
    obtain ⟨h9, e9, p9, k9, t9⟩ := writeOut_ok (n := 0) (w := fun _ => 0) hs8 (by omega) z12 (fun i hi => by omega)
    rw [e9, bsm]
    have p79 := (p7.trans p8).trans p9
    have x9 := x6.fr ⟨p79.mono (by decide), fun k hk => by rw [k9 k (by omega), o8 k (by omega), k7 k (by omega)]⟩
    refine wp_some ⟨rfl, G, n, c, x9.g (iOut.mk (n := 0) (f := fun _ => 0) (by omega) (fun i hi => by omega) ⟨?_, fun i hi => by omega⟩ ⟨t9.1, fun i hi => by omega⟩)⟩
    rw [p79.I (by decide)]
    exact t6.1
  · -- both are empty
    refine ⟨-1, cls _ _ e4 ?_⟩
    rw [if_pos (show (nI 0, h4).1 = 0 from eq00)]
    refine wp_some ⟨rfl, ?_⟩
    dsimp only
    refine diffR g4.1 g4.2.1.rr h6 hr (fun h7 p7 k7 i1 i2 v145 => ?_)
    have hs7 := p7.shp g4.1
    rw [z1, z2]
    have eA : 256 * 0 + 0 = 0 := rfl
    rw [eA]
    have p8 : zfr [145, 146] h7 (zsI h7 (zu (zu (zI h7) 145 0 (nI 0)) 146 0 (nI 0))) := zfr_zsI (fun b hb => by
      rw [zu_ne (fun e => hb (by rw [e]; decide)), zu_ne (fun e => hb (by rw [e]; decide))])
    have q8 : zI (zsI h7 (zu (zu (zI h7) 145 0 (nI 0)) 146 0 (nI 0))) 145 0 = nI 0 := by dsimp only [zI_zsI]; rw [zu_ne (by decide), zu_at, if_pos rfl]
    unfold bX11_writeDifference_120
    rw [if_pos rfl]
    simp (disch := omega) only [SR (hs7), zl_eq, bsm, ZS, ZT, ZN, ZU, eq_self, true_and, and_true, and_self, or_true, true_or, or_false, false_or, not_true, not_false_eq_true, Nat.reduceAdd, Nat.reduceMul, Nat.reduceLT, Nat.reduceLeDiff, Nat.reduceEqDiff, ↓reduceIte, ZQ, Bool.true_eq_false, Bool.false_eq_true, Bool.not_true, Bool.not_false]
    generalize zsI h7 (zu (zu (zI h7) 145 0 (nI 0)) 146 0 (nI 0)) = h8 at p8 q8
    have hs8 := p8.shp hs7
    have v1 : ∀ l, l < 4 → zI h8 126 (4 * (0 / 256) + l) = nI 0 := fun l hl => by
      rw [p8.I (by decide)]
      have := i1 0 (by decide) l hl
      rw [ims_0] at this
      exact this
    have v2 : ∀ l, l < 4 → zI h8 144 (4 * (0 % 256) + l) = nI 0 := fun l hl => by
      rw [p8.I (by decide)]
      have := i2 0 (by decide) l hl
      rw [ims_0] at this
      exact this
    have fin : INVg G n c h8 := g4.fr (fq.of2 (p7.trans p8) (by decide) (fun k hk => by rw [p8.I (by decide), k7 k (by omega)]))
    refine wloop (fun p y => y = (nI 1, nI p, h8)) 1 (fun p y self hp hy ih => ?_) (by decide) rfl
    subst hy
    show wp (kX11_writeDifference_155 117 (nI 0) self (nI 1) (nI p) h8) _
    unfold kX11_writeDifference_155
    by_cases hp1 : p = 1
    · subst hp1
      simp (disch := omega) only [Nat.le_refl, zl_eq, bsm, ZS, ZT, ZN, ZU, eq_self, true_and, and_true, and_self, or_true, true_or, or_false, false_or, not_true, not_false_eq_true, Nat.reduceAdd, Nat.reduceMul, Nat.reduceLT, Nat.reduceLeDiff, Nat.reduceEqDiff, ↓reduceIte, ZQ, Bool.true_eq_false, Bool.false_eq_true, Bool.not_true, Bool.not_false]
      exact wp_some ⟨rfl, G, n, c, fin⟩
    · have hp0 : p = 0 := by omega
      subst hp0
      simp (disch := omega) only [show ¬ (1 ≤ 0) by omega, zl_eq, bsm, ZS, ZT, ZN, ZU, eq_self, true_and, and_true, and_self, or_true, true_or, or_false, false_or, not_true, not_false_eq_true, Nat.reduceAdd, Nat.reduceMul, Nat.reduceLT, Nat.reduceLeDiff, Nat.reduceEqDiff, ↓reduceIte, ZQ, Bool.true_eq_false, Bool.false_eq_true, Bool.not_true, Bool.not_false]
      refine wloop (fun l y => y = (nI 1, nI l, h8)) 4 (fun l y self2 hl hy ih2 => ?_) (by decide) rfl
      subst hy
      show wp (kX11_writeDifference_165 self 117 (nI 0) (nI 0) self2 (nI 1) (nI l) h8) _
      unfold kX11_writeDifference_165 bX11_writeDifference_294
      by_cases hl4 : l = 4
      · subst hl4
        simp (disch := omega) only [Nat.le_refl, zl_eq, bsm, ZS, ZT, ZN, ZU, eq_self, true_and, and_true, and_self, or_true, true_or, or_false, false_or, not_true, not_false_eq_true, Nat.reduceAdd, Nat.reduceMul, Nat.reduceLT, Nat.reduceLeDiff, Nat.reduceEqDiff, ↓reduceIte, ZQ, Bool.true_eq_false, Bool.false_eq_true, Bool.not_true, Bool.not_false]
        exact ih _ (by omega) rfl
      · have hl4' : l < 4 := by omega
        simp (disch := omega) only [Nat.not_le.mpr hl4', q8, v1 l hl4', v2 l hl4', SR (hs8), zl_eq, bsm, ZS, ZT, ZN, ZU, eq_self, true_and, and_true, and_self, or_true, true_or, or_false, false_or, not_true, not_false_eq_true, Nat.reduceAdd, Nat.reduceMul, Nat.reduceLT, Nat.reduceLeDiff, Nat.reduceEqDiff, ↓reduceIte, ZQ, Bool.true_eq_false, Bool.false_eq_true, Bool.not_true, Bool.not_false]
        exact ih2 _ hl4' rfl
  · -- the search
    have fin120 : ∀ (Q : Int32 × ZH → Prop) h7, Sh h7 → (∀ P, P < 65536 → zI h7 146 P = -1) → (∀ h8, zfr [145, 146] h7 h8 → Rt (G s) (G r) h7 0 h8 → wp (zloop (lX11_writeDifference_155 117 (nI (256 * ess (G s) + ess (G r)))) zfu (nI 1, nI 0, h8)) Q) → wp (bX11_writeDifference_120 117 (nI (256 * ess (G s) + ess (G r))) (nI (decide (ess (G r) = 0)).toNat) (nI (decide (ess (G s) = 0)).toNat) h7) Q := by
      intro Q h7 hs7 v145 k
      have hd2 := (dfB_iff (a := ess (G s)) b2).mp hnd
      have eqd : nI (decide (ess (G s) = 0)).toNat = nI (decide (ess (G r) = 0)).toNat := by rw [decide_eq_decide.mpr hd2]
      have p8 : zfr [145, 146] h7 (zsI h7 (zu (zu (zI h7) 145 0 (nI (256 * ess (G s) + ess (G r)))) 146 (256 * ess (G s) + ess (G r)) (nI 0))) := zfr_zsI (fun b hb => by
        rw [zu_ne (fun e => hb (by rw [e]; decide)), zu_ne (fun e => hb (by rw [e]; decide))])
      have eb0 : bq (pd (G s) (G r)) (256 * ess (G s) + ess (G r)) 0 = ([256 * ess (G s) + ess (G r)], [0]) := by
        show noteL ([], []) _ 0 = _
        unfold noteL
        rw [if_neg (by rintro (z | z); exact hA z; cases z)]
        rfl
      have eq0 : ql (G s) (G r) 0 = 1 := by unfold ql; rw [eb0]; rfl
      have rt : Rt (G s) (G r) h7 0 (zsI h7 (zu (zu (zI h7) 145 0 (nI (256 * ess (G s) + ess (G r)))) 146 (256 * ess (G s) + ess (G r)) (nI 0))) := by
        refine ⟨p8, fun i hi => ?_, fun P hP hn => ?_, fun i hi => ?_⟩
        · rw [eq0] at hi
          have : i = 0 := by omega
          subst this
          rw [eb0]
          dsimp only [zI_zsI]
          rw [zu_ne (by decide), zu_at, if_pos rfl]
          rfl
        · rw [eb0] at hn
          have : P ≠ 256 * ess (G s) + ess (G r) := fun z => hn (by rw [z]; exact List.mem_singleton.mpr rfl)
          dsimp only [zI_zsI]
          rw [zu_at, if_neg this, zu_ne (by decide)]
          exact v145 P hP
        · rw [eq0] at hi
          have : i = 0 := by omega
          subst this
          rw [eb0]
          show zI _ 146 (256 * ess (G s) + ess (G r)) = _
          dsimp only [zI_zsI]
          rw [zu_at, if_pos rfl, if_pos rfl]
      have hb1 : 256 * ess (G s) + ess (G r) < 65536 := by omega
      unfold bX11_writeDifference_120
      rw [if_pos eqd]
      simp (disch := omega) only [SR (hs7), zl_eq, bsm, ZS, ZT, ZN, ZU, eq_self, true_and, and_true, and_self, or_true, true_or, or_false, false_or, not_true, not_false_eq_true, Nat.reduceAdd, Nat.reduceMul, Nat.reduceLT, Nat.reduceLeDiff, Nat.reduceEqDiff, ↓reduceIte, ZQ, Bool.true_eq_false, Bool.false_eq_true, Bool.not_true, Bool.not_false]
      exact k _ p8 rt
    rcases fd with ⟨f1, f2, st⟩ | ⟨f1, f2, f3, st, f5⟩
    · obtain ⟨x1, h4⟩ := x
      dsimp only at f1 st g4
      subst f1
      refine ⟨-1, cls _ _ e4 ?_⟩
      rw [if_pos (show (nI 0, h4).1 = 0 from eq00)]
      refine wp_some ⟨rfl, ?_⟩
      dsimp only
      refine diffR g4.1 g4.2.1.rr h6 hr (fun h7 p7 k7 i1 i2 v145 => ?_)
      have hs7 := p7.shp g4.1
      refine fin120 _ h7 hs7 v145 (fun h8 p8 rt => ?_)
      refine loopR hA hnd hs7 i1 i2 hτ hall rt (fun _ h9 p9 => ?_) (fun z => by omega) (Or.inl f2)
      refine ⟨rfl, G, n, c, g4.fr (fq.of2 (p7.trans p9) (by decide) (fun k hk => by rw [p9.I (by decide), k7 k (by omega)]))⟩
    · obtain ⟨x1, h4⟩ := x
      dsimp only at f1 st f5 g4
      subst f1
      have bI := BI_all (d := pd (G s) (G r)) hA τ (fun s hs => (hall s hs).1)
      have hL := found_len bI (bq_nd hnd τ (fun s hs => (hall s hs).2)) f2 f3
      obtain ⟨h5, e5, p5, t5⟩ := spellC st hA hτ hall f2 f5 hL
      have hs5 := p5.shp g4.1
      have x5 := g4.x.fr (fx28 p5)
      refine ⟨_, cls _ _ e4 (yes _ h4 h5 _ _ g4.1 e5 hs5 t5 ⟨rfl, ?_⟩)⟩
      dsimp only
      refine diffR x5.1 x5.2.1.rr h6 hr (fun h7 p7 k7 i1 i2 v145 => ?_)
      have hs7 := p7.shp x5.1
      refine fin120 _ h7 hs7 v145 (fun h8 p8 rt => ?_)
      refine loopR hA hnd hs7 i1 i2 hτ hall rt (fun z => by omega) (fun _ _ h9 rf => ?_) (Or.inr ⟨f2, f3⟩)
      have hs9 := rf.1.shp hs7
      obtain ⟨h10, e10, p10, k10, t10⟩ := spellDR hs9 hA hnd hall f2 f3 rf hL
      unfold bX11_writeDifference_285
      rw [e10, bsm]
      have pp := (p7.trans rf.1).trans p10
      have x10 := x5.fr ⟨pp.mono (by decide), fun k hk => by rw [k10 k (by omega) (by omega), rf.1.I (by decide), k7 k (by omega)]⟩
      refine wp_some ⟨rfl, G, n, c, x10.g (iOut.mk (by omega) (fun i hi => ?_) (t5.fr pp (by decide) (by decide)) t10)⟩
      omega
