/-! CALLS: save, restore, undo -/
def tot (G : Nat → Nat → Nat) : Int32 := sumI (fun s => nE (G s)) 6
section C4
variable {h : ZH} {G : Nat → Nat → Nat} {n : Nat} {c : Nat → Nat}
theorem countAll_ok (hs : Sh h) (hG : ∀ s, s < 6 → hasM h (82 + 4 * s) (G s)) : fX10_countAllEdges 0 h = some (tot G, h) := by
  unfold fX10_countAllEdges tot
  simp (disch := omega) only [SC (hs), zl_eq, bsm, ZS, ZT, ZN, ZU, eq_self, true_and, and_true, and_self, or_true, true_or, or_false, false_or, not_true, not_false_eq_true, Nat.reduceAdd, Nat.reduceMul, Nat.reduceLT, Nat.reduceLeDiff, Nat.reduceEqDiff, ↓reduceIte, ZQ, Bool.true_eq_false, Bool.false_eq_true, Bool.not_true, Bool.not_false]
  refine zloop_run (fun j => (sumI (fun s => nE (G s)) j, nI j, h)) 6 (fun j hj self => ?_) (fun self => ?_) (by decide)
  · show kX10_countAllEdges_4 0 self _ _ h = _
    unfold kX10_countAllEdges_4
    simp (disch := omega) only [Nat.not_le.mpr hj, countS hs hj (hG j hj), SC (hs), zl_eq, bsm, ZS, ZT, ZN, ZU, eq_self, true_and, and_true, and_self, or_true, true_or, or_false, false_or, not_true, not_false_eq_true, Nat.reduceAdd, Nat.reduceMul, Nat.reduceLT, Nat.reduceLeDiff, Nat.reduceEqDiff, ↓reduceIte, ZQ, Bool.true_eq_false, Bool.false_eq_true, Bool.not_true, Bool.not_false]
    rw [sumI]
  · show kX10_countAllEdges_4 0 self _ _ h = _
    unfold kX10_countAllEdges_4
    simp (disch := omega) only [Nat.le_refl, SC (hs), zl_eq, bsm, ZS, ZT, ZN, ZU, eq_self, true_and, and_true, and_self, or_true, true_or, or_false, false_or, not_true, not_false_eq_true, Nat.reduceAdd, Nat.reduceMul, Nat.reduceLT, Nat.reduceLeDiff, Nat.reduceEqDiff, ↓reduceIte, ZQ, Bool.true_eq_false, Bool.false_eq_true, Bool.not_true, Bool.not_false]
theorem total_ok (hs : Sh h) (g : iG G h) : fX11_total 117 h = some (tot G, h) := by
  unfold fX11_total tot
  simp (disch := omega) only [SR (hs), zl_eq, bsm, ZS, ZT, ZN, ZU, eq_self, true_and, and_true, and_self, or_true, true_or, or_false, false_or, not_true, not_false_eq_true, Nat.reduceAdd, Nat.reduceMul, Nat.reduceLT, Nat.reduceLeDiff, Nat.reduceEqDiff, ↓reduceIte, ZQ, Bool.true_eq_false, Bool.false_eq_true, Bool.not_true, Bool.not_false]
  refine zloop_run (fun j => (sumI (fun s => nE (G s)) j, nI j, h)) 6 (fun j hj self => ?_) (fun self => ?_) (by decide)
  · show kX11_total_4 117 self _ _ h = _
    unfold kX11_total_4
    simp (disch := omega) only [Nat.not_le.mpr hj, edgesG hs g hj, SR (hs), zl_eq, bsm, ZS, ZT, ZN, ZU, eq_self, true_and, and_true, and_self, or_true, true_or, or_false, false_or, not_true, not_false_eq_true, Nat.reduceAdd, Nat.reduceMul, Nat.reduceLT, Nat.reduceLeDiff, Nat.reduceEqDiff, ↓reduceIte, ZQ, Bool.true_eq_false, Bool.false_eq_true, Bool.not_true, Bool.not_false]
    rw [sumI]
  · show kX11_total_4 117 self _ _ h = _
    unfold kX11_total_4
    simp (disch := omega) only [Nat.le_refl, SR (hs), zl_eq, bsm, ZS, ZT, ZN, ZU, eq_self, true_and, and_true, and_self, or_true, true_or, or_false, false_or, not_true, not_false_eq_true, Nat.reduceAdd, Nat.reduceMul, Nat.reduceLT, Nat.reduceLeDiff, Nat.reduceEqDiff, ↓reduceIte, ZQ, Bool.true_eq_false, Bool.false_eq_true, Bool.not_true, Bool.not_false]
end C4
def KL : List Nat := [84, 88, 92, 96, 100, 104]
theorem KL_in : ∀ s, s < 6 → 84 + 4 * s ∈ KL := by decide
theorem KL_g : ∀ s, s < 6 → 82 + 4 * s ∉ KL := by decide
theorem pZ116 {h : ZH} (hs : Sh h) {k b : Nat} (hb : b < 2) : pZ h 11 117 k (nI b) = some (zsI h (zu (zI h) 117 k (nI b))) := pZ_ok (O117 hs).1 (O117 hs).2 hb
theorem pZ0 {h : ZH} (hs : Sh h) {k b : Nat} (hb : b < 2) : pZ h 10 0 k (nI b) = some (zsI h (zu (zI h) 0 k (nI b))) := pZ_ok (O0 hs).1 (O0 hs).2 hb
theorem save_c {h : ZH} {G : Nat → Nat → Nat} {n : Nat} {c : Nat → Nat} (hI : INVg G n c h) : wp (fX10_save 0 h) (fun x => x.1 = tot G ∧ zfr (0 :: KL) h x.2 ∧ zI x.2 0 2 = nI 1 ∧ ∀ s, s < 6 → hasM x.2 (84 + 4 * s) (G s)) := by
  have hs := hI.1
  unfold fX10_save
  simp (disch := omega) only [SC (hs), zl_eq, bsm, ZS, ZT, ZN, ZU, eq_self, true_and, and_true, and_self, or_true, true_or, or_false, false_or, not_true, not_false_eq_true, Nat.reduceAdd, Nat.reduceMul, Nat.reduceLT, Nat.reduceLeDiff, Nat.reduceEqDiff, ↓reduceIte, ZQ, Bool.true_eq_false, Bool.false_eq_true, Bool.not_true, Bool.not_false]
  refine wloop (fun s y => y.1 = nI s ∧ zfr KL h y.2 ∧ ∀ t, t < s → hasM y.2 (84 + 4 * t) (G t)) 6 (fun s y self hsl hy ih => ?_) (by decide) ⟨rfl, zfr.refl h, fun t ht => by omega⟩
  obtain ⟨y, h1⟩ := y
  obtain ⟨rfl, p, q⟩ := hy
  dsimp only at p q
  have hs1 := p.shp hs
  have hG : ∀ s, s < 6 → hasM h1 (82 + 4 * s) (G s) := fun s h6 => p.hasM (KL_g s h6) (hI.2.1.m h6)
  show wp (kX10_save_2 0 self (nI s) h1) _
  unfold kX10_save_2
  by_cases hlt : s < 6
  · obtain ⟨h2, e2, p2, q2⟩ := copyOf_ok (gK hs1 hlt) (gS hs1 hlt) (hG s hlt)
    simp (disch := omega) only [Nat.not_le.mpr hlt, e2, SC (hs1), zl_eq, bsm, ZS, ZT, ZN, ZU, eq_self, true_and, and_true, and_self, or_true, true_or, or_false, false_or, not_true, not_false_eq_true, Nat.reduceAdd, Nat.reduceMul, Nat.reduceLT, Nat.reduceLeDiff, Nat.reduceEqDiff, ↓reduceIte, ZQ, Bool.true_eq_false, Bool.false_eq_true, Bool.not_true, Bool.not_false]
    refine ih _ hlt ⟨rfl, p.same (p2.mono (fun b hb => by rw [List.mem_singleton.mp hb]; exact KL_in s hlt)), fun t ht => ?_⟩
    by_cases e : t = s
    · subst e; exact q2
    · exact p2.hasM (mem1.mpr (by omega)) (q t (by omega))
  · have : s = 6 := by omega
    subst this
    have p3 : zfr [0] h1 (zsI h1 (zu (zI h1) 0 2 (nI 1))) := zfr_uI
    have e3 := countAll_ok (p3.shp hs1) (fun s h6 => p3.hasM (mem1.mpr (by omega)) (hG s h6))
    simp (disch := omega) only [Nat.le_refl, pZ0 hs1, e3, SC (hs1), zl_eq, bsm, ZS, ZT, ZN, ZU, eq_self, true_and, and_true, and_self, or_true, true_or, or_false, false_or, not_true, not_false_eq_true, Nat.reduceAdd, Nat.reduceMul, Nat.reduceLT, Nat.reduceLeDiff, Nat.reduceEqDiff, ↓reduceIte, ZQ, Bool.true_eq_false, Bool.false_eq_true, Bool.not_true, Bool.not_false]
    refine wp_some ⟨rfl, (p.mono (fun b hb => List.mem_cons_of_mem _ hb)).same (p3.mono (fun b hb => by rw [List.mem_singleton.mp hb]; exact List.mem_cons_self)), ?_, fun t ht => p3.hasM (mem1.mpr (by omega)) (q t ht)⟩
    dsimp only [zI_zsI]
    rw [zu_at, if_pos rfl]
theorem c_save  : Ok2 (fX10_save 0) (fX11_save 117) := by
  refine Ok2.of (fun h G n c hI => ?_)
  refine ⟨tot G, wp_mono (save_c hI) ?_⟩
  rintro ⟨r, h1⟩ ⟨hr, p, k1, k2⟩
  dsimp only at hr p k1 k2 ⊢
  refine ⟨hr, ?_⟩
  obtain ⟨g1, g2, g3, g4, g5, g6, g7, g8⟩ := hI
  have hs1 := p.shp g1
  have hG1 : iG G h1 := g2.fr p (by decide) (by decide)
  show wp (fX11_save 117 h1) _
  unfold fX11_save
  simp (disch := omega) only [SR (hs1), zl_eq, bsm, ZS, ZT, ZN, ZU, eq_self, true_and, and_true, and_self, or_true, true_or, or_false, false_or, not_true, not_false_eq_true, Nat.reduceAdd, Nat.reduceMul, Nat.reduceLT, Nat.reduceLeDiff, Nat.reduceEqDiff, ↓reduceIte, ZQ, Bool.true_eq_false, Bool.false_eq_true, Bool.not_true, Bool.not_false]
  refine wloop (fun j y => y.1 = nI j ∧ zfr [122] h1 y.2 ∧ ∀ i, i < j → zI y.2 122 i = zI h1 118 i) 192 (fun j y self hj hy ih => ?_) (show 192 < 100000 by omega) ⟨rfl, zfr.refl h1, fun i hi => by omega⟩
  obtain ⟨y, h2⟩ := y
  obtain ⟨rfl, p2, q2⟩ := hy
  dsimp only at p2 q2
  have hs2 := p2.shp hs1
  show wp (kX11_save_2 117 self (nI j) h2) _
  unfold kX11_save_2
  by_cases hlt : j < 192
  · simp (disch := omega) only [Nat.not_le.mpr hlt, SR (hs2), zl_eq, bsm, ZS, ZT, ZN, ZU, eq_self, true_and, and_true, and_self, or_true, true_or, or_false, false_or, not_true, not_false_eq_true, Nat.reduceAdd, Nat.reduceMul, Nat.reduceLT, Nat.reduceLeDiff, Nat.reduceEqDiff, ↓reduceIte, ZQ, Bool.true_eq_false, Bool.false_eq_true, Bool.not_true, Bool.not_false]
    refine ih _ hlt ⟨rfl, p2.same zfr_uI, fun i hi => ?_⟩
    dsimp only [zI_zsI]
    rw [zu_at]
    by_cases e : i = j
    · rw [if_pos e, e, p2.I (by decide)]
    · rw [if_neg e]; exact q2 i (by omega)
  · have : j = 192 := by omega
    subst this
    have p3 : zfr [117] h2 (zsI h2 (zu (zI h2) 117 6 (nI 1))) := zfr_uI
    have p4 : zfr [122, 117] h1 (zsI h2 (zu (zI h2) 117 6 (nI 1))) := p2.trans p3
    have p5 := p.trans p4
    have k6 : ∀ k, k ≠ 6 → zI (zsI h2 (zu (zI h2) 117 6 (nI 1))) 117 k = zI h 117 k := by
      intro k hk
      dsimp only [zI_zsI]
      rw [zu_at, if_neg hk, p2.I (by decide), p.I (by decide)]
    have hG3 : iG G (zsI h2 (zu (zI h2) 117 6 (nI 1))) := hG1.fr p4 (by decide) (by decide)
    have e3 := total_ok (p3.shp hs2) hG3
    simp (disch := omega) only [Nat.le_refl, pZ116 hs2, e3, SR (hs2), zl_eq, bsm, ZS, ZT, ZN, ZU, eq_self, true_and, and_true, and_self, or_true, true_or, or_false, false_or, not_true, not_false_eq_true, Nat.reduceAdd, Nat.reduceMul, Nat.reduceLT, Nat.reduceLeDiff, Nat.reduceEqDiff, ↓reduceIte, ZQ, Bool.true_eq_false, Bool.false_eq_true, Bool.not_true, Bool.not_false]
    refine wp_some ⟨rfl, G, n, c, p5.shp g1, hG3, g3.fr p5 (by decide) (by decide) (by decide) (k6 8 (by decide)), g4.fr p5 (by decide) (by decide) (by decide) (by decide) (by decide) (k6 4 (by decide)), ⟨1, by decide, ?_, ?_, fun _ => ⟨G, fun s hs j hj => ⟨?_, ?_, (g2 s hs j hj).2.2⟩⟩⟩, g6.fr p5 (by decide) (by decide) (by decide) (k6 10 (by decide)), g7.fr p5 (by decide) (by decide) (by decide) (by decide) (by decide) (by decide) (by decide), g8.fr p5 (by decide) (by decide) (by decide)⟩
    · rw [p4.I (by decide)]; exact k1
    · dsimp only [zI_zsI]
      rw [zu_at, if_pos rfl]
    · rw [p4.I (show 84 + 4 * s ∉ [122, 117] by simp only [List.mem_cons, List.not_mem_nil, or_false]; omega)]
      exact (k2 s hs j hj).1
    · rw [p3.I (by decide), q2 _ (by omega), p.I (by decide)]
      exact (g2 s hs j hj).2.1
def SL : List Nat := [82, 86, 90, 94, 98, 102]
theorem SL_in : ∀ s, s < 6 → 82 + 4 * s ∈ SL := by decide
theorem SL_g : ∀ s, s < 6 → 84 + 4 * s ∉ SL := by decide
theorem c_restore  : Ok2 (fX10_restore 0) (fX11_restore 117) := by
  refine Ok2.of (fun h G n c hI => ?_)
  obtain ⟨g1, g2, g3, g4, g5, g6, g7, g8⟩ := id hI
  obtain ⟨b, b1, b2, b3, b4⟩ := g5
  have hs := g1
  by_cases hb : b = 0
  · subst hb
    refine Ok2.same hI (r := -6) ?_ ?_
    · simp (disch := omega) only [fX10_restore, b2, SC (hs), zl_eq, bsm, ZS, ZT, ZN, ZU, eq_self, true_and, and_true, and_self, or_true, true_or, or_false, false_or, not_true, not_false_eq_true, Nat.reduceAdd, Nat.reduceMul, Nat.reduceLT, Nat.reduceLeDiff, Nat.reduceEqDiff, ↓reduceIte, ZQ, Bool.true_eq_false, Bool.false_eq_true, Bool.not_true, Bool.not_false]
    · simp (disch := omega) only [fX11_restore, b3, SR (hs), zl_eq, bsm, ZS, ZT, ZN, ZU, eq_self, true_and, and_true, and_self, or_true, true_or, or_false, false_or, not_true, not_false_eq_true, Nat.reduceAdd, Nat.reduceMul, Nat.reduceLT, Nat.reduceLeDiff, Nat.reduceEqDiff, ↓reduceIte, ZQ, Bool.true_eq_false, Bool.false_eq_true, Bool.not_true, Bool.not_false]
  have hb1 : b = 1 := by omega
  subst hb1
  obtain ⟨K, hK⟩ := b4 rfl
  refine ⟨tot K, wp_mono (P := fun x => x.1 = tot K ∧ zfr (3 :: SL) h x.2 ∧ zI x.2 3 3 = nI 0 ∧ zI x.2 3 2 = zI h 3 2 ∧ ∀ s, s < 6 → hasM x.2 (82 + 4 * s) (K s)) ?_ ?_⟩
  · unfold fX10_restore
    simp (disch := omega) only [b2, SC (hs), zl_eq, bsm, ZS, ZT, ZN, ZU, eq_self, true_and, and_true, and_self, or_true, true_or, or_false, false_or, not_true, not_false_eq_true, Nat.reduceAdd, Nat.reduceMul, Nat.reduceLT, Nat.reduceLeDiff, Nat.reduceEqDiff, ↓reduceIte, ZQ, Bool.true_eq_false, Bool.false_eq_true, Bool.not_true, Bool.not_false]
    refine wloop (fun s y => y.1 = nI s ∧ zfr SL h y.2 ∧ ∀ t, t < s → hasM y.2 (82 + 4 * t) (K t)) 6 (fun s y self hsl hy ih => ?_) (by decide) ⟨rfl, zfr.refl h, fun t ht => by omega⟩
    obtain ⟨y, h1⟩ := y
    obtain ⟨rfl, p, q⟩ := hy
    dsimp only at p q
    have hs1 := p.shp hs
    have hKm : ∀ s, s < 6 → hasM h1 (84 + 4 * s) (K s) := fun s h6 => p.hasM (SL_g s h6) (fun j hj => ⟨(hK s h6 j hj).1, (hK s h6 j hj).2.2⟩)
    show wp (kX10_restore_12 0 self (nI s) h1) _
    unfold kX10_restore_12
    by_cases hlt : s < 6
    · obtain ⟨h2, e2, p2, q2⟩ := copyOf_ok (gS hs1 hlt) (gK hs1 hlt) (hKm s hlt)
      simp (disch := omega) only [Nat.not_le.mpr hlt, e2, SC (hs1), zl_eq, bsm, ZS, ZT, ZN, ZU, eq_self, true_and, and_true, and_self, or_true, true_or, or_false, false_or, not_true, not_false_eq_true, Nat.reduceAdd, Nat.reduceMul, Nat.reduceLT, Nat.reduceLeDiff, Nat.reduceEqDiff, ↓reduceIte, ZQ, Bool.true_eq_false, Bool.false_eq_true, Bool.not_true, Bool.not_false]
      refine ih _ hlt ⟨rfl, p.same (p2.mono (fun b hb => by rw [List.mem_singleton.mp hb]; exact SL_in s hlt)), fun t ht => ?_⟩
      by_cases e : t = s
      · subst e; exact q2
      · exact p2.hasM (mem1.mpr (by omega)) (q t (by omega))
    · have : s = 6 := by omega
      subst this
      have p3 : zfr [3] h1 (zsI h1 (zu (zI h1) 3 3 (nI 0))) := zfr_uI
      have e3 := countAll_ok (p3.shp hs1) (fun s h6 => p3.hasM (mem1.mpr (by omega)) (q s h6))
      simp (disch := omega) only [Nat.le_refl, fX2_clear, e3, SC (hs1), zl_eq, bsm, ZS, ZT, ZN, ZU, eq_self, true_and, and_true, and_self, or_true, true_or, or_false, false_or, not_true, not_false_eq_true, Nat.reduceAdd, Nat.reduceMul, Nat.reduceLT, Nat.reduceLeDiff, Nat.reduceEqDiff, ↓reduceIte, ZQ, Bool.true_eq_false, Bool.false_eq_true, Bool.not_true, Bool.not_false]
      refine wp_some ⟨rfl, (p.mono (fun b hb => List.mem_cons_of_mem _ hb)).same (p3.mono (fun b hb => by rw [List.mem_singleton.mp hb]; exact List.mem_cons_self)), ?_, ?_, fun t ht => p3.hasM (mem1.mpr (by omega)) (q t ht)⟩
      · dsimp only [zI_zsI]
        rw [zu_at, if_pos rfl]
      · dsimp only [zI_zsI]
        rw [zu_at, if_neg (by decide), p.I (by decide)]
  · rintro ⟨r, h1⟩ ⟨hr, p, k1, k1b, k2⟩
    dsimp only at hr p k1 k1b k2 ⊢
    refine ⟨hr, ?_⟩
    have hs1 := p.shp g1
    have e6 : zI h1 117 6 = nI 1 := by rw [p.I (by decide)]; exact b3
    show wp (fX11_restore 117 h1) _
    unfold fX11_restore
    simp (disch := omega) only [e6, SR (hs1), zl_eq, bsm, ZS, ZT, ZN, ZU, eq_self, true_and, and_true, and_self, or_true, true_or, or_false, false_or, not_true, not_false_eq_true, Nat.reduceAdd, Nat.reduceMul, Nat.reduceLT, Nat.reduceLeDiff, Nat.reduceEqDiff, ↓reduceIte, ZQ, Bool.true_eq_false, Bool.false_eq_true, Bool.not_true, Bool.not_false]
    refine wloop (fun j y => y.1 = nI j ∧ zfr [118] h1 y.2 ∧ ∀ i, i < j → zI y.2 118 i = zI h1 122 i) 192 (fun j y self hj hy ih => ?_) (show 192 < 100000 by omega) ⟨rfl, zfr.refl h1, fun i hi => by omega⟩
    obtain ⟨y, h2⟩ := y
    obtain ⟨rfl, p2, q2⟩ := hy
    dsimp only at p2 q2
    have hs2 := p2.shp hs1
    show wp (kX11_restore_12 117 self (nI j) h2) _
    unfold kX11_restore_12
    by_cases hlt : j < 192
    · simp (disch := omega) only [Nat.not_le.mpr hlt, SR (hs2), zl_eq, bsm, ZS, ZT, ZN, ZU, eq_self, true_and, and_true, and_self, or_true, true_or, or_false, false_or, not_true, not_false_eq_true, Nat.reduceAdd, Nat.reduceMul, Nat.reduceLT, Nat.reduceLeDiff, Nat.reduceEqDiff, ↓reduceIte, ZQ, Bool.true_eq_false, Bool.false_eq_true, Bool.not_true, Bool.not_false]
      refine ih _ hlt ⟨rfl, p2.same zfr_uI, fun i hi => ?_⟩
      dsimp only [zI_zsI]
      rw [zu_at]
      by_cases e : i = j
      · rw [if_pos e, e, p2.I (by decide)]
      · rw [if_neg e]; exact q2 i (by omega)
    · have : j = 192 := by omega
      subst this
      have p3 : zfr [117] h2 (zsI h2 (zu (zI h2) 117 4 (nI 0))) := zfr_uI
      have p4 : zfr [118, 117] h1 (zsI h2 (zu (zI h2) 117 4 (nI 0))) := p2.trans p3
      have p5 := p.trans p4
      have k6 : ∀ k, k ≠ 4 → zI (zsI h2 (zu (zI h2) 117 4 (nI 0))) 117 k = zI h 117 k := by
        intro k hk
        dsimp only [zI_zsI]
        rw [zu_at, if_neg hk, p2.I (by decide), p.I (by decide)]
      have hG3 : iG K (zsI h2 (zu (zI h2) 117 4 (nI 0))) := by
        intro s h6 j hj
        refine ⟨?_, ?_, (hK s h6 j hj).2.2⟩
        · rw [p4.I (show 82 + 4 * s ∉ [118, 117] by simp only [List.mem_cons, List.not_mem_nil, or_false]; omega)]
          exact (k2 s h6 j hj).1
        · rw [p3.I (by decide), q2 _ (by omega), p.I (by decide)]
          exact (hK s h6 j hj).2.1
      have e3 := total_ok (p3.shp hs2) hG3
      obtain ⟨nh, lat, l1, l2, l3, l4, l5, l6⟩ := g4
      simp (disch := omega) only [Nat.le_refl, e3, SR (hs2), zl_eq, bsm, ZS, ZT, ZN, ZU, eq_self, true_and, and_true, and_self, or_true, true_or, or_false, false_or, not_true, not_false_eq_true, Nat.reduceAdd, Nat.reduceMul, Nat.reduceLT, Nat.reduceLeDiff, Nat.reduceEqDiff, ↓reduceIte, ZQ, Bool.true_eq_false, Bool.false_eq_true, Bool.not_true, Bool.not_false]
      refine wp_some ⟨rfl, K, n, c, p5.shp g1, hG3, g3.fr p5 (by decide) (by decide) (by decide) (k6 8 (by decide)), ⟨0, lat, by decide, l2, ?_, ?_, ?_, fun i hi => by omega⟩, hI.2.2.2.2.1.fr p5 (by decide) (by decide) (by decide) (k6 6 (by decide)), g6.fr p5 (by decide) (by decide) (by decide) (k6 10 (by decide)), g7.fr p5 (by decide) (by decide) (by decide) (by decide) (by decide) (by decide) (by decide), g8.fr p5 (by decide) (by decide) (by decide)⟩
      · rw [p4.I (by decide)]; exact k1
      · dsimp only [zI_zsI]
        rw [zu_at, if_pos rfl]
      · rw [p4.I (by decide), k1b]; exact l5
theorem c_undo  : Ok2 (fX10_undo 0) (fX11_undo 117) := by
  refine Ok2.of (fun h G n c hI => ?_)
  obtain ⟨g1, g2, g3, g4, g5, g6, g7, g8⟩ := id hI
  obtain ⟨nh, lat, l1, l2, l3, l4, l5, l6⟩ := g4
  have hs := g1
  by_cases hn : nh = 0
  · subst hn
    refine Ok2.same hI (r := -6) ?_ ?_
    · simp (disch := omega) only [fX10_undo, fX2_pop, bX2_pop_20, bX10_undo_23, l3, SC (hs), zl_eq, bsm, ZS, ZT, ZN, ZU, eq_self, true_and, and_true, and_self, or_true, true_or, or_false, false_or, not_true, not_false_eq_true, Nat.reduceAdd, Nat.reduceMul, Nat.reduceLT, Nat.reduceLeDiff, Nat.reduceEqDiff, ↓reduceIte, ZQ, Bool.true_eq_false, Bool.false_eq_true, Bool.not_true, Bool.not_false]
    · simp (disch := omega) only [fX11_undo, l4, SR (hs), zl_eq, bsm, ZS, ZT, ZN, ZU, eq_self, true_and, and_true, and_self, or_true, true_or, or_false, false_or, not_true, not_false_eq_true, Nat.reduceAdd, Nat.reduceMul, Nat.reduceLT, Nat.reduceLeDiff, Nat.reduceEqDiff, ↓reduceIte, ZQ, Bool.true_eq_false, Bool.false_eq_true, Bool.not_true, Bool.not_false]
  obtain ⟨s, m, m1, m2, m3, m4⟩ := l6 0 (by omega)
  rw [show (lat + 10 - 0) % 10 = lat by omega] at m2 m4
  rw [Nat.sub_zero] at m3 m4
  have hm : hasM h (7 + 2 * lat) m := fun j hj => ⟨(m4 j hj).1, (m4 j hj).2.2⟩
  obtain ⟨h1, e1, p1, q1⟩ := copyOf_ok (gS hs m1) (gH hs l2) hm
  have hs1 := p1.shp hs
  have n3 : 3 ∉ [82 + 4 * s] := mem1.mpr (by omega)
  have l3' : zI h1 3 3 = nI nh := by rw [p1.I n3]; exact l3
  have l5' : zI h1 3 2 = nI lat := by rw [p1.I n3]; exact l5
  have pc : zfr [82 + 4 * s, 3] h (zsI h1 (zu (zu (zI h1) 3 2 (nI ((lat + 10 - 1) % 10))) 3 3 (nI (nh - 1)))) := by
    refine p1.trans (zfr_zsI (fun b hb => ?_))
    rw [zu_ne (fun e => hb (by rw [e]; decide)), zu_ne (fun e => hb (by rw [e]; decide))]
  refine ⟨nI s, (nI s, zsI h1 (zu (zu (zI h1) 3 2 (nI ((lat + 10 - 1) % 10))) 3 3 (nI (nh - 1)))), ?_, rfl, ?_⟩
  · have az := Aa hs (a := 1) (kind := 17) (n := 6) (by decide) (by decide) (by decide)
    have ez : zlen h 1 = some (nI 6) := by rw [zlen_ok az.1 (by rw [az.2.1]; decide), az.2.2]
    have ew := isWithin_ok (Nat.zero_le lat) (show lat ≤ 9 by omega) (by decide) h
    have hm : ¬ nI s = (-1 : Int32) := by
      have : ∀ s, s < 6 → ¬ nI s = (-1 : Int32) := by decide
      exact this s m1
    unfold fX10_undo
    simp (disch := omega) only [fX2_pop, l3, l5, hn, ew, m2, ez, m1, e1, SC (hs), zl_eq, bsm, ZS, ZT, ZN, ZU, eq_self, true_and, and_true, and_self, or_true, true_or, or_false, false_or, not_true, not_false_eq_true, Nat.reduceAdd, Nat.reduceMul, Nat.reduceLT, Nat.reduceLeDiff, Nat.reduceEqDiff, ↓reduceIte, ZQ, Bool.true_eq_false, Bool.false_eq_true, Bool.not_true, Bool.not_false]
    by_cases hl0 : lat = 0
    · rw [show (lat + 10 - 1) % 10 = 9 by omega]
      simp (disch := omega) only [bX2_pop_78, bX10_undo_23, l3', l5', hl0, hm, SC (hs1), zl_eq, bsm, ZS, ZT, ZN, ZU, eq_self, true_and, and_true, and_self, or_true, true_or, or_false, false_or, not_true, not_false_eq_true, Nat.reduceAdd, Nat.reduceMul, Nat.reduceLT, Nat.reduceLeDiff, Nat.reduceEqDiff, ↓reduceIte, ZQ, Bool.true_eq_false, Bool.false_eq_true, Bool.not_true, Bool.not_false]
    · rw [show (lat + 10 - 1) % 10 = lat - 1 by omega]
      simp (disch := omega) only [bX2_pop_78, bX10_undo_23, l3', l5', hl0, hm, SC (hs1), zl_eq, bsm, ZS, ZT, ZN, ZU, eq_self, true_and, and_true, and_self, or_true, true_or, or_false, false_or, not_true, not_false_eq_true, Nat.reduceAdd, Nat.reduceMul, Nat.reduceLT, Nat.reduceLeDiff, Nat.reduceEqDiff, ↓reduceIte, ZQ, Bool.true_eq_false, Bool.false_eq_true, Bool.not_true, Bool.not_false]
  · dsimp only
    have hsc := pc.shp hs
    have nin : ∀ b, b ≠ 82 + 4 * s → b ≠ 3 → b ∉ [82 + 4 * s, 3] := by
      intro b x1 x2 hb
      simp only [List.mem_cons, List.not_mem_nil, or_false] at hb
      omega
    generalize hh : zsI h1 (zu (zu (zI h1) 3 2 (nI ((lat + 10 - 1) % 10))) 3 3 (nI (nh - 1))) = h2 at pc hsc ⊢
    have c33 : zI h2 3 3 = nI (nh - 1) := by
      rw [← hh]; dsimp only [zI_zsI]; rw [zu_at, if_pos rfl]
    have c32 : zI h2 3 2 = nI ((lat + 10 - 1) % 10) := by
      rw [← hh]; dsimp only [zI_zsI]; rw [zu_at, if_neg (by decide), zu_at, if_pos rfl]
    have cg : ∀ j, j < 32 → zI h2 (82 + 4 * s) j = nI (m j) := by
      intro j hj
      rw [← hh]; dsimp only [zI_zsI]; rw [zu_ne (by omega), zu_ne (by omega)]; exact (q1 j hj).1
    have d4 : zI h2 117 4 = nI nh := by rw [pc.I (nin _ (by omega) (by omega))]; exact l4
    have d120 : zI h2 121 (nh - 1) = nI s := by rw [pc.I (nin _ (by omega) (by omega))]; exact m3
    have ps : zfr [117] h2 (zsI h2 (zu (zI h2) 117 4 (nI (nh - 1)))) := zfr_uI
    unfold fX11_undo
    simp (disch := omega) only [d4, hn, SR (hsc), zl_eq, bsm, ZS, ZT, ZN, ZU, eq_self, true_and, and_true, and_self, or_true, true_or, or_false, false_or, not_true, not_false_eq_true, Nat.reduceAdd, Nat.reduceMul, Nat.reduceLT, Nat.reduceLeDiff, Nat.reduceEqDiff, ↓reduceIte, ZQ, Bool.true_eq_false, Bool.false_eq_true, Bool.not_true, Bool.not_false]
    refine wloop (fun j y => y.1 = nI j ∧ zfr [118, 117] h2 y.2 ∧ (∀ k, k ≠ 4 → zI y.2 117 k = zI h2 117 k) ∧ zI y.2 117 4 = nI (nh - 1) ∧ (∀ i, i < j → zI y.2 118 (32 * s + i) = nI (m i)) ∧ (∀ i, (i < 32 * s ∨ 32 * s + j ≤ i) → zI y.2 118 i = zI h2 118 i)) 32 (fun j y self hj hy ih => ?_) (by decide) ⟨rfl, ps.mono (by decide), ?_, ?_, fun i hi => by omega, fun i hi => ?_⟩
    · obtain ⟨y, h3⟩ := y
      obtain ⟨rfl, p3, k1, k2, k3, k4⟩ := hy
      dsimp only at p3 k1 k2 k3 k4
      have hs3 := p3.shp hsc
      have d120' : zI h3 121 (nh - 1) = nI s := by rw [p3.I (by decide)]; exact d120
      show wp (kX11_undo_22 117 self (nI j) h3) _
      unfold kX11_undo_22
      by_cases hlt : j < 32
      · have d119 : zI h3 120 (32 * (nh - 1) + j) = nI (m j) := by
          rw [p3.I (by decide), pc.I (nin _ (by omega) (by omega))]; exact (m4 j hlt).2.1
        simp (disch := omega) only [Nat.not_le.mpr hlt, k2, d120', d119, SR (hs3), zl_eq, bsm, ZS, ZT, ZN, ZU, eq_self, true_and, and_true, and_self, or_true, true_or, or_false, false_or, not_true, not_false_eq_true, Nat.reduceAdd, Nat.reduceMul, Nat.reduceLT, Nat.reduceLeDiff, Nat.reduceEqDiff, ↓reduceIte, ZQ, Bool.true_eq_false, Bool.false_eq_true, Bool.not_true, Bool.not_false]
        refine ih _ hlt ⟨rfl, p3.same ((zfr_uI (a := 118)).mono (by decide)), ?_, ?_, ?_, ?_⟩
        · intro k hk
          dsimp only [zI_zsI]
          rw [zu_ne (by decide)]; exact k1 k hk
        · dsimp only [zI_zsI]
          rw [zu_ne (by decide)]; exact k2
        · intro i hi
          dsimp only [zI_zsI]
          rw [zu_at]
          by_cases e : i = j
          · rw [if_pos (by omega), e]
          · rw [if_neg (by omega)]; exact k3 i (by omega)
        · intro i hi
          dsimp only [zI_zsI]
          rw [zu_at, if_neg (by omega)]; exact k4 i (by omega)
      · have : j = 32 := by omega
        subst this
        have p5 := pc.trans p3
        have nin5 : ∀ b, b ≠ 82 + 4 * s → b ≠ 3 → b ≠ 118 → b ≠ 117 → b ∉ [82 + 4 * s, 3] ++ [118, 117] := by
          intro b x1 x2 x3 x4 hb
          simp only [List.mem_append, List.mem_cons, List.not_mem_nil, or_false] at hb
          omega
        have kk : ∀ k, k ≠ 4 → zI h3 117 k = zI h 117 k := fun k hk => by rw [k1 k hk, pc.I (nin _ (by omega) (by omega))]
        simp (disch := omega) only [Nat.le_refl, k2, d120', SR (hs3), zl_eq, bsm, ZS, ZT, ZN, ZU, eq_self, true_and, and_true, and_self, or_true, true_or, or_false, false_or, not_true, not_false_eq_true, Nat.reduceAdd, Nat.reduceMul, Nat.reduceLT, Nat.reduceLeDiff, Nat.reduceEqDiff, ↓reduceIte, ZQ, Bool.true_eq_false, Bool.false_eq_true, Bool.not_true, Bool.not_false]
        refine wp_some ⟨rfl, upG G s m, n, c, p5.shp g1, ?_, g3.fr p5 (nin5 _ (by omega) (by omega) (by omega) (by omega)) (nin5 _ (by omega) (by omega) (by omega) (by omega)) (nin5 _ (by omega) (by omega) (by omega) (by omega)) (kk 8 (by decide)), ⟨nh - 1, (lat + 10 - 1) % 10, by omega, Nat.mod_lt _ (by decide), by rw [p3.I (by decide)]; exact c33, k2, by rw [p3.I (by decide)]; exact c32, fun i hi => ?_⟩, g5.fr p5 (nin5 _ (by omega) (by omega) (by omega) (by omega)) (nin5 _ (by omega) (by omega) (by omega) (by omega)) (fun t ht => nin5 _ (by omega) (by omega) (by omega) (by omega)) (kk 6 (by decide)), g6.fr p5 (nin5 _ (by omega) (by omega) (by omega) (by omega)) (nin5 _ (by omega) (by omega) (by omega) (by omega)) (nin5 _ (by omega) (by omega) (by omega) (by omega)) (kk 10 (by decide)), g7.fr p5 (fun t ht => nin5 _ (by omega) (by omega) (by omega) (by omega)) (fun t ht => nin5 _ (by omega) (by omega) (by omega) (by omega)) (fun t ht => nin5 _ (by omega) (by omega) (by omega) (by omega)) (nin5 _ (by omega) (by omega) (by omega) (by omega)) (nin5 _ (by omega) (by omega) (by omega) (by omega)) (nin5 _ (by omega) (by omega) (by omega) (by omega)) (nin5 _ (by omega) (by omega) (by omega) (by omega)), g8.fr p5 (fun b hb => ?_) (nin5 _ (by omega) (by omega) (by omega) (by omega)) (nin5 _ (by omega) (by omega) (by omega) (by omega))⟩
        · intro t ht j hj
          unfold upG
          by_cases e : t = s
          · subst e
            rw [if_pos rfl]
            refine ⟨?_, k3 j hj, (m4 j hj).2.2⟩
            rw [p3.I (show 82 + 4 * t ∉ [118, 117] by simp only [List.mem_cons, List.not_mem_nil, or_false]; omega)]
            exact cg j hj
          · rw [if_neg e]
            obtain ⟨w1, w2, w3⟩ := g2 t ht j hj
            refine ⟨?_, ?_, w3⟩
            · rw [p5.I (nin5 _ (by omega) (by omega) (by omega) (by omega))]; exact w1
            · rw [k4 _ (by omega), pc.I (nin _ (by omega) (by omega))]; exact w2
        · obtain ⟨t, mm, w1, w2, w3, w4⟩ := l6 (i + 1) (by omega)
          have er : ((lat + 10 - 1) % 10 + 10 - i) % 10 = (lat + 10 - (i + 1)) % 10 := by omega
          have ei : nh - 1 - 1 - i = nh - 1 - (i + 1) := by omega
          refine ⟨t, mm, w1, ?_, ?_, fun j hj => ?_⟩
          · rw [er, p5.I (nin5 _ (by omega) (by omega) (by omega) (by omega))]; exact w2
          · rw [ei, p5.I (nin5 _ (by omega) (by omega) (by omega) (by omega))]; exact w3
          · rw [er, ei, p5.I (nin5 _ (by omega) (by omega) (by omega) (by omega)), p5.I (nin5 _ (by omega) (by omega) (by omega) (by omega))]
            exact w4 j hj
        · simp only [List.mem_append, List.mem_cons, List.not_mem_nil, or_false] at hb
          omega
    · intro k hk
      dsimp only [zI_zsI]
      rw [zu_at, if_neg hk]
    · dsimp only [zI_zsI]
      rw [zu_at, if_pos rfl]
    · dsimp only [zI_zsI]
      rw [zu_ne (by decide)]
