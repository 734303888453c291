theorem midI.rg {h : ZH} {G : Nat → Nat → Nat} {N : Nat → Nat} {t n : Nat} {c : Nat → Nat} (m : midI G N t n c h) : rG G h := fun s hs j hj => by
  obtain ⟨-, k2, k3, -⟩ := m.2.1 s hs j hj
  exact ⟨k2, k3⟩
theorem union_r {h : ZH} {G : Nat → Nat → Nat} {N : Nat → Nat} {n s r t : Nat} {c : Nat → Nat} (m : midI G N t n c h) (h6 : s < 6) (hr : r < 6) (ht : t < 6) (hc : und (ess (G s)) 8 + und (ess (G r)) 8 ≤ 8) (wn : WNp (uN (coreM (G s)) (coreM (G r))) (uC (ess (G s)) (ess (G r))) N 16384) : wp (fX11_union 117 (nI s) (nI r) (nI t) h) (fun y => y.1 = nI (und (ess (G s)) 8 + und (ess (G r)) 8) ∧ INV y.2) := by
  have hs := m.1
  have rr := m.rg
  have hv := m.r
  obtain ⟨h0, e0, p0, q0⟩ := clearG hs
  have hs0 := p0.shp hs
  have r0 : rG G h0 := rr.fr p0 (by decide)
  have v0 : vI h0 118 192 (fun j => G (j / 32) (j % 32)) := fun j hj => by rw [p0.I (by decide)]; exact hv j hj
  obtain ⟨⟨y1, h1⟩, e1, d1, p1, k1, N1, q1, w1⟩ := append_ok (o := 0) hs0 v0 (fun j hj => (rr s h6 j hj).2) h6 (essentialOf_ok hs0 r0 h6) q0 (fun _ _ _ _ => by decide) (by omega)
  dsimp only at d1 p1 k1 q1
  subst d1
  have hs1 := p1.shp hs0
  have r1 : rG G h1 := r0.fr p1 (by decide)
  have v1 : vI h1 118 192 (fun j => G (j / 32) (j % 32)) := fun j hj => by rw [p1.I (by decide)]; exact v0 j hj
  obtain ⟨⟨y2, h2⟩, e2, d2, p2, k2, N2, q2, w2⟩ := append_ok (o := und (ess (G s)) 8) hs1 v1 (fun j hj => (rr r hr j hj).2) hr (essentialOf_ok hs1 r1 hr) q1 (fun k l hk hl => (w1 k l hk hl).1) hc
  dsimp only at d2 p2 k2 q2
  subst d2
  have m2 : midI G N t n c h2 := ((m.fr (fq118 p0)).fr (fq.of2 p1 (by decide) (fun k hk => k1 k (by omega)))).fr (fq.of2 p2 (by decide) (fun k hk => k2 k (by omega)))
  have qN : vI h2 119 32 N := fun j hj => by rw [q2 j hj, WNp_uniq (WN_uN hc w1 w2) wn j hj]
  obtain ⟨h3, e3, g3⟩ := mid_replace ht m2 qN
  unfold fX11_union
  simp (disch := omega) only [rSlot_ok h6, rSlot_ok hr, rSlot_ok ht, essentialOf_ok hs rr h6, essentialOf_ok hs rr hr, bc_ok, bc_und _ (ess_lt (G s)), bc_und _ (ess_lt (G r)), hc, e0, e1, e2, e3, SR (hs), zl_eq, bsm, ZS, ZT, ZN, ZU, eq_self, true_and, and_true, and_self, or_true, true_or, or_false, false_or, not_true, not_false_eq_true, Nat.reduceAdd, Nat.reduceMul, Nat.reduceLT, Nat.reduceLeDiff, Nat.reduceEqDiff, ↓reduceIte, ZQ, Bool.true_eq_false, Bool.false_eq_true, Bool.not_true, Bool.not_false]
  exact wp_some ⟨rfl, _, n, c, g3⟩
theorem c_union (a1 a2 a3 : Int32) : Ok2 (fX10_union 0 a1 a2 a3) (fX11_union 117 a1 a2 a3) := by
  refine Ok2.of (fun h G n c hI => ?_)
  have hs := hI.1
  rcases cSlot a1 with b | ⟨s, h6, rfl⟩
  · refine Ok2.same hI (r := -2) ?_ ?_
    · simp (disch := omega) only [fX10_union, bX10_union_21, fun q => (b q).1, SC (hs), zl_eq, bsm, ZS, ZT, ZN, ZU, eq_self, true_and, and_true, and_self, or_true, true_or, or_false, false_or, not_true, not_false_eq_true, Nat.reduceAdd, Nat.reduceMul, Nat.reduceLT, Nat.reduceLeDiff, Nat.reduceEqDiff, ↓reduceIte, ZQ, Bool.true_eq_false, Bool.false_eq_true, Bool.not_true, Bool.not_false]
    · simp (disch := omega) only [fX11_union, bX11_union_21, fun q => (b q).2, SR (hs), zl_eq, bsm, ZS, ZT, ZN, ZU, eq_self, true_and, and_true, and_self, or_true, true_or, or_false, false_or, not_true, not_false_eq_true, Nat.reduceAdd, Nat.reduceMul, Nat.reduceLT, Nat.reduceLeDiff, Nat.reduceEqDiff, ↓reduceIte, ZQ, Bool.true_eq_false, Bool.false_eq_true, Bool.not_true, Bool.not_false]
  rcases cSlot a2 with b | ⟨r, hr, rfl⟩
  · refine Ok2.same hI (r := -2) ?_ ?_
    · simp (disch := omega) only [fX10_union, bX10_union_21, isSlot_ok h6, fun q => (b q).1, SC hs, ZN, bsm, eq_self, and_self, Nat.reduceEqDiff, ↓reduceIte]
    · simp (disch := omega) only [fX11_union, bX11_union_21, rSlot_ok h6, fun q => (b q).2, SR hs, ZN, bsm, eq_self, and_self, Nat.reduceEqDiff, ↓reduceIte]
  rcases cSlot a3 with b | ⟨t, ht, rfl⟩
  · refine Ok2.same hI (r := -2) ?_ ?_
    · simp (disch := omega) only [fX10_union, bX10_union_21, isSlot_ok h6, isSlot_ok hr, fun q => (b q).1, SC hs, ZN, bsm, eq_self, and_self, Nat.reduceEqDiff, ↓reduceIte]
    · simp (disch := omega) only [fX11_union, bX11_union_21, rSlot_ok h6, rSlot_ok hr, fun q => (b q).2, SR hs, ZN, bsm, eq_self, and_self, Nat.reduceEqDiff, ↓reduceIte]
  have eW := essW_uN (G s) (G r)
  have eU := und_uC (ess_lt (G s)) (ess_lt (G r))
  have l1 := und_le (ess (G s)) 8
  have l2 := und_le (ess (G r)) 8
  by_cases hc : und (ess (G s)) 8 + und (ess (G r)) 8 ≤ 8
  · refine ⟨nI (und (ess (G s)) 8 + und (ess (G r)) 8), union_c hI h6 hr ht (fun h' p w => ?_)⟩
    rcases storeWideC (hI.fr (fq.of p (by decide) (by decide))) ht w with ⟨b, -⟩ | ⟨-, h2, N, e, m, wn⟩
    · rw [eW, eU] at b
      omega
    · rw [eW] at e wn
      rw [eU] at e
      rw [e]
      exact wp_some ⟨rfl, union_r m h6 hr ht hc wn⟩
  · refine ⟨-3, union_c hI h6 hr ht (fun h' p w => ?_)⟩
    have g1 := hI.fr (fq.of p (by decide) (by decide))
    rcases storeWideC g1 ht w with ⟨b, e⟩ | ⟨b, -⟩
    · rw [e]
      refine wp_some ⟨rfl, ?_⟩
      have hs1 := g1.1
      have rr := g1.2.1.rr
      show wp (fX11_union 117 (nI s) (nI r) (nI t) h') _
      unfold fX11_union
      simp (disch := omega) only [rSlot_ok h6, rSlot_ok hr, rSlot_ok ht, essentialOf_ok hs1 rr h6, essentialOf_ok hs1 rr hr, bc_ok, bc_und _ (ess_lt (G s)), bc_und _ (ess_lt (G r)), eq_false hc, SR (hs1), zl_eq, bsm, ZS, ZT, ZN, ZU, eq_self, true_and, and_true, and_self, or_true, true_or, or_false, false_or, not_true, not_false_eq_true, Nat.reduceAdd, Nat.reduceMul, Nat.reduceLT, Nat.reduceLeDiff, Nat.reduceEqDiff, ↓reduceIte, ZQ, Bool.true_eq_false, Bool.false_eq_true, Bool.not_true, Bool.not_false]
      exact wp_some ⟨rfl, _, n, c, g1⟩
    · rw [eW, eU] at b
      omega
