theorem c_memory (a1 : Int32) : Ok2 (fX10_memory 0 a1) (fX11_memory 117 a1) := by
  refine Ok2.of (fun h G n c hI => ?_)
  have hs := hI.1
  rcases cSlot a1 with b | ⟨s, h6, rfl⟩
  · refine Ok2.same hI (r := -2) ?_ ?_
    · simp (disch := omega) only [fX10_memory, fun q => (b q).1, SC (hs), zl_eq, bsm, ZS, ZT, ZN, ZU, eq_self, true_and, and_true, and_self, or_true, true_or, or_false, false_or, not_true, not_false_eq_true, Nat.reduceAdd, Nat.reduceMul, Nat.reduceLT, Nat.reduceLeDiff, Nat.reduceEqDiff, ↓reduceIte, ZQ, Bool.true_eq_false, Bool.false_eq_true, Bool.not_true, Bool.not_false]
    · simp (disch := omega) only [fX11_memory, fun q => (b q).2, SR (hs), zl_eq, bsm, ZS, ZT, ZN, ZU, eq_self, true_and, and_true, and_self, or_true, true_or, or_false, false_or, not_true, not_false_eq_true, Nat.reduceAdd, Nat.reduceMul, Nat.reduceLT, Nat.reduceLeDiff, Nat.reduceEqDiff, ↓reduceIte, ZQ, Bool.true_eq_false, Bool.false_eq_true, Bool.not_true, Bool.not_false]
  obtain ⟨h1, r, e1, g1, res⟩ := bothCover hI h6
  have hs1 := g1.1
  rcases res with ⟨hr, h2, e2, g2⟩ | ⟨T, Ld, cl, r0, v0, τ, cv, rfl, ref⟩
  · refine ⟨r, ?_⟩
    have n1 : (0 ≤ r) = False := by rcases hr with rfl | rfl <;> decide
    have n2 : (r = 0) = False := by rcases hr with rfl | rfl <;> decide
    unfold fX10_memory fX11_memory bX10_memory_36
    simp (disch := omega) only [isSlot_ok h6, e1, n1, SC (hs), zl_eq, bsm, ZS, ZT, ZN, ZU, eq_self, true_and, and_true, and_self, or_true, true_or, or_false, false_or, not_true, not_false_eq_true, Nat.reduceAdd, Nat.reduceMul, Nat.reduceLT, Nat.reduceLeDiff, Nat.reduceEqDiff, ↓reduceIte, ZQ, Bool.true_eq_false, Bool.false_eq_true, Bool.not_true, Bool.not_false]
    refine wp_some ⟨rfl, ?_⟩
    dsimp only
    simp (disch := omega) only [rSlot_ok h6, e2, n2, SR (hs1), zl_eq, bsm, ZS, ZT, ZN, ZU, eq_self, true_and, and_true, and_self, or_true, true_or, or_false, false_or, not_true, not_false_eq_true, Nat.reduceAdd, Nat.reduceMul, Nat.reduceLT, Nat.reduceLeDiff, Nat.reduceEqDiff, ↓reduceIte, ZQ, Bool.true_eq_false, Bool.false_eq_true, Bool.not_true, Bool.not_false]
    exact wp_some ⟨rfl, G, n, c, g2⟩
  · obtain ⟨lc, vt, l1, hm61, z6, -⟩ := cv
    have h8 : Ld.length ≤ 8 := vt.1
    have hle : ∀ v l, v < Ld.length → l < 4 → le1 (G s) Ld cl v l ≤ Ld.length := fun v l hv hl => le1_le lc vt hv hl
    obtain ⟨h7, Q, le, φ, e7, p7, k7, mr, lr, hQ, is⟩ := ref h1 hs1 g1.2.1.rr
    have hs7 := p7.shp hs1
    have v30 := mr.1
    rw [hQ] at v30 lr
    have tg : ∀ v l, v < Ld.length → l < 4 → fX0_targetInMerged 54 (nI v) (nI l) h1 = some (if le1 (G s) Ld cl v l = 0 then -1 else nI (le1 (G s) Ld cl v l - 1), h1) := fun v l hv hl => targetC hs1 hm61 (fun v l hv hl => by have := hle v l hv hl; omega) h8 hv hl
    obtain ⟨⟨w, hx⟩, ec, ex, rc⟩ := stepsC hs1 h8 hle tg z6
    dsimp only at ex rc
    subst ex
    obtain ⟨h8', e8, p8, k8, s8⟩ := clearSeen_ok hs7 0
    have hs8 := p8.shp hs7
    have ppos : 2 ≤ 2 ^ Ld.length := by
      have : 2 ^ 1 ≤ 2 ^ Ld.length := Nat.pow_le_pow_right (by decide) l1
      omega
    have hA : 2 ^ Ld.length - 1 < 256 := inN_lt h8 full_in
    have p31 : 2 ^ Ld.length < 2 ^ 31 := by omega
    obtain ⟨h9, e9, p9, k9, s9⟩ := see_new (Q := []) hs8 s8 hA (fun z => by cases z) (by decide)
    have hs9 := p9.shp hs8
    have v30' : zI h8' 117 30 = nI Ld.length := by rw [k8 30 (by decide)]; exact v30
    obtain ⟨⟨w2, h10⟩, e10, p10, k10, rr⟩ := memRef (Q0 := [2 ^ Ld.length - 1]) hs9 h8 (by rw [k9 30 (by decide)]; exact v30') (fun k hk l hl => by rw [p9.I (by decide), p8.I (by decide)]; exact lr k hk l hl) (iso_leB is) s9 ⟨List.nodup_cons.mpr ⟨(fun z => by cases z), List.nodup_nil⟩, (fun z => by rw [List.mem_singleton] at z; omega), (fun x hx => by rw [List.mem_singleton] at hx; omega)⟩ (fun S => List.mem_singleton)
    dsimp only at p10 k10 rr
    have tr : ∀ m, (∃ x y, apt Ld.length (le1 (G s) Ld cl) m x y) ↔ ∃ x y, apt Ld.length le m x y := fun m => ⟨fun ⟨x, y, a⟩ => ⟨_, _, iso_apt is a⟩, fun ⟨x, y, a⟩ => by obtain ⟨x, y, -, -, q⟩ := iso_apt' is a; exact ⟨x, y, q⟩⟩
    have ew : w2 = w := by
      rcases rc with ⟨m, m1, rfl, m3, m4⟩ | ⟨rfl, m4⟩ <;> rcases rr with ⟨k, q1, rfl, q3, q4⟩ | ⟨rfl, q4⟩
      · rcases Nat.lt_trichotomy k m with q | q | q
        · exact absurd ((tr k).mp (m4 k q)) q3
        · rw [q]
        · exact absurd ((tr m).mpr (q4 m q)) m3
      · exact absurd ((tr m).mpr (q4 m (by omega))) m3
      · exact absurd ((tr k).mp (apt_pig h8 hle (m4 28 (Nat.le_refl _)) k)) q3
      · rfl
    subst ew
    have l0 : (0 ≤ nI Ld.length) = True := by
      have : (nI 0 ≤ nI Ld.length) = True := by
        simp (disch := omega) only [Nat.zero_le, zl_eq, bsm, ZS, ZT, ZN, ZU, eq_self, true_and, and_true, and_self, or_true, true_or, or_false, false_or, not_true, not_false_eq_true, Nat.reduceAdd, Nat.reduceMul, Nat.reduceLT, Nat.reduceLeDiff, Nat.reduceEqDiff, ↓reduceIte, ZQ, Bool.true_eq_false, Bool.false_eq_true, Bool.not_true, Bool.not_false]
      exact this
    have pp := ((p7.trans p8).trans p9).trans p10
    have fin : INVg G n c h10 := g1.fr (fq.of2 pp (by decide) (fun k hk => by rw [k10 k (by omega), k9 k (by omega), k8 k (by omega), k7 k (by omega) (by omega) (by omega) (by omega)]))
    refine ⟨w2, wp_eq (a := (w2, hx)) ?_ ⟨rfl, wp_eq (a := (w2, h10)) ?_ ⟨rfl, G, n, c, fin⟩⟩⟩
    · unfold fX10_memory bX10_memory_36
      simp (disch := omega) only [isSlot_ok h6, e1, l0, SC (hs), zl_eq, bsm, ZS, ZT, ZN, ZU, eq_self, true_and, and_true, and_self, or_true, true_or, or_false, false_or, not_true, not_false_eq_true, Nat.reduceAdd, Nat.reduceMul, Nat.reduceLT, Nat.reduceLeDiff, Nat.reduceEqDiff, ↓reduceIte, ZQ, Bool.true_eq_false, Bool.false_eq_true, Bool.not_true, Bool.not_false]
      simp (disch := omega) only [ec, SC (hs1), zl_eq, bsm, ZS, ZT, ZN, ZU, eq_self, true_and, and_true, and_self, or_true, true_or, or_false, false_or, not_true, not_false_eq_true, Nat.reduceAdd, Nat.reduceMul, Nat.reduceLT, Nat.reduceLeDiff, Nat.reduceEqDiff, ↓reduceIte, ZQ, Bool.true_eq_false, Bool.false_eq_true, Bool.not_true, Bool.not_false]
    · unfold fX11_memory
      simp (disch := omega) only [rSlot_ok h6, e7, SR (hs1), zl_eq, bsm, ZS, ZT, ZN, ZU, eq_self, true_and, and_true, and_self, or_true, true_or, or_false, false_or, not_true, not_false_eq_true, Nat.reduceAdd, Nat.reduceMul, Nat.reduceLT, Nat.reduceLeDiff, Nat.reduceEqDiff, ↓reduceIte, ZQ, Bool.true_eq_false, Bool.false_eq_true, Bool.not_true, Bool.not_false]
      simp (disch := omega) only [e8, SR (hs7), zl_eq, bsm, ZS, ZT, ZN, ZU, eq_self, true_and, and_true, and_self, or_true, true_or, or_false, false_or, not_true, not_false_eq_true, Nat.reduceAdd, Nat.reduceMul, Nat.reduceLT, Nat.reduceLeDiff, Nat.reduceEqDiff, ↓reduceIte, ZQ, Bool.true_eq_false, Bool.false_eq_true, Bool.not_true, Bool.not_false]
      simp (disch := omega) only [v30', e9, SR (hs8), zl_eq, bsm, ZS, ZT, ZN, ZU, eq_self, true_and, and_true, and_self, or_true, true_or, or_false, false_or, not_true, not_false_eq_true, Nat.reduceAdd, Nat.reduceMul, Nat.reduceLT, Nat.reduceLeDiff, Nat.reduceEqDiff, ↓reduceIte, ZQ, Bool.true_eq_false, Bool.false_eq_true, Bool.not_true, Bool.not_false]
      exact e10
