/-! CALL: characteristic: the reference, and the two are one -/
theorem plEx (C : Nat) : ∃ pl : Nat → Nat, (∀ v, v < 8 → C.testBit v = true → pl (und C v) = v) ∧ ∀ i, i < und C 8 → pl i < 8 ∧ C.testBit (pl i) = true ∧ und C (pl i) = i := by
  classical
  have h : ∀ i, ∃ w, i < und C 8 → w < 8 ∧ C.testBit w = true ∧ und C w = i := by
    intro i
    by_cases hi : i < und C 8
    · obtain ⟨v, h1, h2, h3⟩ := und_surj 8 i hi
      exact ⟨v, fun _ => ⟨h1, h2, h3⟩⟩
    · exact ⟨0, fun q => absurd q hi⟩
  refine ⟨fun i => Classical.choose (h i), fun v hv cv => ?_, fun i hi => Classical.choose_spec (h i) hi⟩
  have := Classical.choose_spec (h (und C v)) (und_lt8 hv cv)
  exact und_inj this.2.1 cv this.2.2
theorem sumL_pl {C : Nat} {pl : Nat → Nat} {f : Nat → Int64} : ∀ m, (∀ w, w < m → C.testBit w = false → f w = lN 0) → (∀ v, v < m → C.testBit v = true → pl (und C v) = v) → sumL f m = sumL (fun i => f (pl i)) (und C m)
  | 0, _, _ => rfl
  | m + 1, h1, h2 => by
    have ih := sumL_pl (C := C) (pl := pl) (f := f) m (fun w hw => h1 w (by omega)) (fun v hv => h2 v (by omega))
    cases hb : C.testBit m with
    | true => rw [und_1 hb, sumL, sumL, ih, h2 m (by omega) hb]
    | false => rw [und_0 hb, sumL, ih, h1 m (by omega) hb, lN0, Int64.add_zero]
theorem fl_eq {C : Nat} {pl : Nat → Nat} {A : Nat → Nat → Int64} (hp1 : ∀ v, v < 8 → C.testBit v = true → pl (und C v) = v) (hp2 : ∀ i, i < und C 8 → pl i < 8 ∧ C.testBit (pl i) = true ∧ und C (pl i) = i) (hA : ∀ u v, u < 8 → v < 8 → (C.testBit u = false ∨ C.testBit v = false) → A u v = lN 0) : ∀ k, (∀ u v, u < 8 → v < 8 → (C.testBit u = false ∨ C.testBit v = false) → (fl A 8 k).1 u v = lN 0) ∧ (∀ a b, a < und C 8 → b < und C 8 → (fl A 8 k).1 (pl a) (pl b) = (fl (fun a b => A (pl a) (pl b)) (und C 8) k).1 a b) ∧ (fl A 8 k).2 = (fl (fun a b => A (pl a) (pl b)) (und C 8) k).2 := by
  intro k
  induction k with
  | zero => exact ⟨fun _ _ _ _ _ => rfl, fun _ _ _ _ => rfl, rfl⟩
  | succ k ih =>
    obtain ⟨i1, i2, i3⟩ := ih
    have e1 := fl_1 A 8 k
    have e2 := fl_2 A 8 k
    have r1 := fl_1 (fun a b => A (pl a) (pl b)) (und C 8) k
    have r2 := fl_2 (fun a b => A (pl a) (pl b)) (und C 8) k
    rw [← i3] at r1
    generalize (fl A 8 k).1 = P at i1 i2 e1
    generalize (fl A 8 k).2 = cc at e1 r1
    generalize (fl (fun a b => A (pl a) (pl b)) (und C 8) k).1 = R at i2 r1
    have z0 : ∀ x : Int64, lN 0 * x = lN 0 := fun x => by rw [lN0, Int64.zero_mul]
    have z1 : ∀ x : Int64, x * lN 0 = lN 0 := fun x => by rw [lN0, Int64.mul_zero]
    have j1 : ∀ u v, u < 8 → v < 8 → (C.testBit u = false ∨ C.testBit v = false) → (fl A 8 (k + 1)).1 u v = lN 0 := by
      intro u v hu hv hb
      rw [e1]
      refine sumL_zero 8 (fun w hw => ?_)
      cases hcu : C.testBit u with
      | false => rw [hA u w hu hw (Or.inl hcu), z0]
      | true =>
        have hcv : C.testBit v = false := by
          rcases hb with q | q
          · rw [hcu] at q; cases q
          · exact q
        cases hcw : C.testBit w with
        | false => rw [hA u w hu hw (Or.inr hcw), z0]
        | true =>
          have hne : w ≠ v := fun q => by rw [q, hcv] at hcw; cases hcw
          rw [padd_ne hne, i1 w v hw hv (Or.inr hcv), z1]
    have j2 : ∀ a b, a < und C 8 → b < und C 8 → (fl A 8 (k + 1)).1 (pl a) (pl b) = (fl (fun a b => A (pl a) (pl b)) (und C 8) (k + 1)).1 a b := by
      intro a b ha hb
      obtain ⟨a1, a2, a3⟩ := hp2 a ha
      obtain ⟨b1, b2, b3⟩ := hp2 b hb
      rw [e1, r1]
      unfold pmul
      rw [sumL_pl (C := C) (pl := pl) 8 (fun w hw hcw => by rw [hA _ w a1 hw (Or.inr hcw), z0]) hp1]
      refine sumL_cong _ (fun i hi => ?_)
      obtain ⟨d1, d2, d3⟩ := hp2 i hi
      have : padd P cc (pl i) (pl b) = padd R cc i b := by
        by_cases q : i = b
        · rw [q, padd_at, padd_at, i2 b b hb hb]
        · rw [padd_ne q, padd_ne (fun z => q (by rw [← d3, z, b3])), i2 i b hi hb]
      rw [this]
    refine ⟨j1, j2, ?_⟩
    rw [e2, r2]
    have : ptr (fl A 8 (k + 1)).1 8 = ptr (fl (fun a b => A (pl a) (pl b)) (und C 8) (k + 1)).1 (und C 8) := by
      unfold ptr
      rw [sumL_pl (C := C) (pl := pl) 8 (fun w hw hcw => j1 w w hw hw (Or.inl hcw)) hp1]
      exact sumL_cong _ (fun i hi => j2 i i hi hi)
    rw [this]
section FM
variable {h : ZH} {G : Nat → Nat → Nat} {s : Nat} {pl : Nat → Nat}
theorem und64 {C : Nat} (hC : C < 256) : und C 64 = und C 8 := und_past hC 56
theorem fillM_ok (hs : Sh h) (g : rG G h) (h6 : s < 6) (hp2 : ∀ i, i < und (ess (G s)) 8 → pl i < 8 ∧ (ess (G s)).testBit (pl i) = true ∧ und (ess (G s)) (pl i) = i) : ∃ h', fX11_fillMatrix 117 (nI s) h = some h' ∧ zfr [117, 128, 129, 130] h h' ∧ (∀ i, i ≠ 17 → zI h' 117 i = zI h 117 i) ∧ zI h' 117 17 = nI (und (ess (G s)) 8) ∧ MM h' 129 (und (ess (G s)) 8) (fun a b => mE (G s) (pl a) (pl b)) ∧ MM h' 130 (und (ess (G s)) 8) (fun _ _ => lN 0) := by
  have key : wp (fX11_fillMatrix 117 (nI s) h) (fun h' => zfr [117, 128, 129, 130] h h' ∧ (∀ i, i ≠ 17 → zI h' 117 i = zI h 117 i) ∧ zI h' 117 17 = nI (und (ess (G s)) 8) ∧ MM h' 129 (und (ess (G s)) 8) (fun a b => mE (G s) (pl a) (pl b)) ∧ MM h' 130 (und (ess (G s)) 8) (fun _ _ => lN 0)) := by
    have hC := ess_lt (G s)
    have ee := essentialOf_ok hs g h6
    have bM : ∀ j, j < 32 → G s j < 256 := fun j hj => (g s h6 j hj).2
    have vM : ∀ j, j < 32 → zI h 118 (32 * s + j) = nI (G s j) := fun j hj => (g s h6 j hj).1
    generalize G s = M at hp2 hC ee bM vM
    generalize ess M = C at hp2 hC ee
    obtain ⟨h1, e1, p1, k1, z1, v1⟩ := place_ok (a := C) hs
    rw [und64 hC] at z1
    have hn := und_le C 8
    have hs1 := p1.shp hs
    unfold fX11_fillMatrix
    simp (disch := omega) only [ee, i64 C hC, e1, SR (hs), zl_eq, bsm, ZS, ZT, ZN, ZU, eq_self, true_and, and_true, and_self, or_true, true_or, or_false, false_or, not_true, not_false_eq_true, Nat.reduceAdd, Nat.reduceMul, Nat.reduceLT, Nat.reduceLeDiff, Nat.reduceEqDiff, ↓reduceIte, ZQ, Bool.true_eq_false, Bool.false_eq_true, Bool.not_true, Bool.not_false]
    have pv : ∀ i, i < und C 8 → zI h1 128 i = nI (pl i) := fun i hi => by
      obtain ⟨a1, a2, a3⟩ := hp2 i hi
      have := v1 (pl i) (by omega) a2
      rwa [a3] at this
    have px : ∀ i, i < und C 8 → pl i < 8 := fun i hi => (hp2 i hi).1
    generalize und C 8 = n at hn z1 pv px
    refine wloop (fun x y => y.1 = nI x ∧ zfr [129, 130] h1 y.2 ∧ MMp y.2 129 n (fun a b => mE M (pl a) (pl b)) x 0 ∧ MMp y.2 130 n (fun _ _ => lN 0) x 0) n (fun x y self hx hy ih => ?_) (show n < 100000 by omega) ⟨rfl, zfr.refl h1, MMp_0, MMp_0⟩
    obtain ⟨y, h2⟩ := y
    obtain ⟨rfl, p2, q2, r2⟩ := hy
    dsimp only at p2 q2 r2
    have hs2 := p2.shp hs1
    have z2 : zI h2 117 17 = nI n := by rw [p2.I (by decide)]; exact z1
    show wp (kX11_fillMatrix_12 117 (nI s) self (nI x) h2) _
    unfold kX11_fillMatrix_12
    by_cases hlt : x < n
    · simp (disch := omega) only [z2, Nat.not_le.mpr hlt, SR (hs2), zl_eq, bsm, ZS, ZT, ZN, ZU, eq_self, true_and, and_true, and_self, or_true, true_or, or_false, false_or, not_true, not_false_eq_true, Nat.reduceAdd, Nat.reduceMul, Nat.reduceLT, Nat.reduceLeDiff, Nat.reduceEqDiff, ↓reduceIte, ZQ, Bool.true_eq_false, Bool.false_eq_true, Bool.not_true, Bool.not_false]
      refine wloop (fun v y => y.1 = nI v ∧ zfr [129, 130] h1 y.2 ∧ MMp y.2 129 n (fun a b => mE M (pl a) (pl b)) x v ∧ MMp y.2 130 n (fun _ _ => lN 0) x v) n (fun v y self2 hv hy ih2 => ?_) (show n < 100000 by omega) ⟨rfl, p2, q2, r2⟩
      obtain ⟨y, h3⟩ := y
      obtain ⟨rfl, p3, q3, r3⟩ := hy
      dsimp only at p3 q3 r3
      have hs3 := p3.shp hs1
      have z3 : zI h3 117 17 = nI n := by rw [p3.I (by decide)]; exact z1
      show wp (kX11_fillMatrix_22 self 117 (nI s) (nI x) self2 (nI v) h3) _
      unfold kX11_fillMatrix_22
      by_cases hlt2 : v < n
      · have w1 : zI h3 128 x = nI (pl x) := by rw [p3.I (by decide)]; exact pv x hlt
        have w2 : zI h3 128 v = nI (pl v) := by rw [p3.I (by decide)]; exact pv v hlt2
        have b1 := px x hlt
        have b2 := px v hlt2
        simp (disch := omega) only [z3, Nat.not_le.mpr hlt2, SR (hs3), zl_eq, bsm, ZS, ZT, ZN, ZU, eq_self, true_and, and_true, and_self, or_true, true_or, or_false, false_or, not_true, not_false_eq_true, Nat.reduceAdd, Nat.reduceMul, Nat.reduceLT, Nat.reduceLeDiff, Nat.reduceEqDiff, ↓reduceIte, ZQ, Bool.true_eq_false, Bool.false_eq_true, Bool.not_true, Bool.not_false]
        refine wloop (fun j z => z = (nI (cE M (pl x) (pl v) j), nI j, h3)) 4 (fun j z self3 hj hz ih3 => ?_) (by decide) rfl
        subst hz
        show wp (kX11_fillMatrix_36 self self2 117 (nI s) (nI x) (nI v) self3 (nI (cE M (pl x) (pl v) j)) (nI j) h3) _
        unfold kX11_fillMatrix_36
        by_cases hlt3 : j < 4
        · have et : fX11_to 117 (nI s) (nI (pl x)) (nI j) h3 = some (nI (M (4 * pl x + j)), h3) := by
            have hv3 : vI h3 118 192 (fun j => G (j / 32) (j % 32)) := fun i hi => by
              rw [p3.I (by decide), p1.I (by decide)]
              have := (g (i / 32) (by omega) (i % 32) (by omega)).1
              rwa [show 32 * (i / 32) + i % 32 = i by omega] at this
            have e := to_ok hs3 hv3 h6 b1 hlt3
            have e5 : zI h3 118 (32 * s + 4 * pl x + j) = nI (M (4 * pl x + j)) := by
              rw [p3.I (by decide), p1.I (by decide), Nat.add_assoc]
              exact vM _ (by omega)
            rw [hv3 _ (by omega)] at e5
            rw [e, e5]
          have bm := bM (4 * pl x + j) (by omega)
          have eb := nb_bit (a := M (4 * pl x + j)) (v := pl v) (by omega) (by omega)
          simp (disch := omega) only [Nat.not_le.mpr hlt3, w1, w2, et, eb, SR (hs3), zl_eq, bsm, ZS, ZT, ZN, ZU, eq_self, true_and, and_true, and_self, or_true, true_or, or_false, false_or, not_true, not_false_eq_true, Nat.reduceAdd, Nat.reduceMul, Nat.reduceLT, Nat.reduceLeDiff, Nat.reduceEqDiff, ↓reduceIte, ZQ, Bool.true_eq_false, Bool.false_eq_true, Bool.not_true, Bool.not_false]
          exact ih3 _ hlt3 rfl
        · have : j = 4 := by omega
          subst this
          have hc := cE_le (M := M) (u := pl x) (v := pl v) 4
          simp (disch := omega) only [Nat.le_refl, i64 (cE M (pl x) (pl v) 4) (by omega), SR (hs3), zl_eq, bsm, ZS, ZT, ZN, ZU, eq_self, true_and, and_true, and_self, or_true, true_or, or_false, false_or, not_true, not_false_eq_true, Nat.reduceAdd, Nat.reduceMul, Nat.reduceLT, Nat.reduceLeDiff, Nat.reduceEqDiff, ↓reduceIte, ZQ, Bool.true_eq_false, Bool.false_eq_true, Bool.not_true, Bool.not_false]
          have ea := MMp_put (F := fun a b => mE M (pl a) (pl b)) hn hlt2 q3 (X := lN (cE M (pl x) (pl v) 4)) rfl
          have pa : zfr [129] h3 (zsJ h3 (zu (zJ h3) 129 (8 * x + v) (lN (cE M (pl x) (pl v) 4)))) := zfr_uJ
          have ra := r3.fr pa (by decide)
          rw [show zsJ h3 (zu (zu (zJ h3) 129 (8 * x + v) (lN (cE M (pl x) (pl v) 4))) 130 (8 * x + v) (lN 0)) = zsJ (zsJ h3 (zu (zJ h3) 129 (8 * x + v) (lN (cE M (pl x) (pl v) 4)))) (zu (zJ (zsJ h3 (zu (zJ h3) 129 (8 * x + v) (lN (cE M (pl x) (pl v) 4))))) 130 (8 * x + v) (lN 0)) from rfl]
          generalize zsJ h3 (zu (zJ h3) 129 (8 * x + v) (lN (cE M (pl x) (pl v) 4))) = h4 at ea pa ra ⊢
          have eb := MMp_put (F := fun _ _ => lN 0) hn hlt2 ra (X := lN 0) rfl
          exact ih2 _ hlt2 ⟨rfl, (p3.same (pa.mono (by decide))).same (zfr_uJ.mono (by decide)), ea.fr zfr_uJ (by decide), eb⟩
      · have : v = n := by omega
        subst this
        simp (disch := omega) only [z3, Nat.le_refl, SR (hs3), zl_eq, bsm, ZS, ZT, ZN, ZU, eq_self, true_and, and_true, and_self, or_true, true_or, or_false, false_or, not_true, not_false_eq_true, Nat.reduceAdd, Nat.reduceMul, Nat.reduceLT, Nat.reduceLeDiff, Nat.reduceEqDiff, ↓reduceIte, ZQ, Bool.true_eq_false, Bool.false_eq_true, Bool.not_true, Bool.not_false]
        exact ih _ hlt ⟨rfl, p3, MMp_row q3, MMp_row r3⟩
    · have : x = n := by omega
      subst this
      simp (disch := omega) only [z2, Nat.le_refl, SR (hs2), zl_eq, bsm, ZS, ZT, ZN, ZU, eq_self, true_and, and_true, and_self, or_true, true_or, or_false, false_or, not_true, not_false_eq_true, Nat.reduceAdd, Nat.reduceMul, Nat.reduceLT, Nat.reduceLeDiff, Nat.reduceEqDiff, ↓reduceIte, ZQ, Bool.true_eq_false, Bool.false_eq_true, Bool.not_true, Bool.not_false]
      exact wp_some ⟨(p1.trans p2).mono (by decide), fun i hi => by rw [p2.I (by decide)]; exact k1 i hi, z2, MMp_end q2, MMp_end r2⟩
  obtain ⟨h', e, q⟩ := key
  exact ⟨h', e, q⟩
end FM
