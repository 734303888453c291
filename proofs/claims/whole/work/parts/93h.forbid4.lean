/-! CALL: forbid, whole -/
theorem storeWideD {h : ZH} {G : Nat → Nat → Nat} {W : Nat → Nat} {t : Nat} (hs : Sh h) (g2 : iG G h) (g4 : iH h) (ht : t < 6) (g : wM h 74 W) : (8 < und (essW W) 64 ∧ fX10_storeWide 0 (nI t) h = some (-3, h)) ∨ (und (essW W) 64 ≤ 8 ∧ ∃ h' N, fX10_storeWide 0 (nI t) h = some (nI (und (essW W) 64), h') ∧ zfr ([75, 32] ++ HL t) h h' ∧ iGm G N t h' ∧ iHm t (G t) h' ∧ WNp W (essW W) N 16384) := by
  have hu := und_le (essW W) 64
  by_cases hc : 8 < und (essW W) 64
  · left
    refine ⟨hc, ?_⟩
    unfold fX10_storeWide
    simp (disch := omega) only [compress_big hs g hc, show ¬ (und (essW W) 64 ≤ 8) by omega, SC (hs), zl_eq, bsm, ZS, ZT, ZN, ZU, eq_self, true_and, and_true, and_self, or_true, true_or, or_false, false_or, not_true, not_false_eq_true, Nat.reduceAdd, Nat.reduceMul, Nat.reduceLT, Nat.reduceLeDiff, Nat.reduceEqDiff, ↓reduceIte, ZQ, Bool.true_eq_false, Bool.false_eq_true, Bool.not_true, Bool.not_false]
  · right
    refine ⟨by omega, ?_⟩
    obtain ⟨h1, N, e1, p1, q1, w1⟩ := compress_ok hs g (by omega)
    obtain ⟨h2, e2, p2, m1, m2, -⟩ := storeCore (G := G) (p1.shp hs) (g2.fr p1 (by decide) (by decide)) (g4.fr p1 (by decide) (by decide) (by decide) (by decide) (by decide) (by rw [p1.I (by decide)])) ht q1
    refine ⟨h2, N, ?_, p1.trans p2, m1, m2, w1⟩
    unfold fX10_storeWide
    simp (disch := omega) only [e1, show und (essW W) 64 ≤ 8 by omega, SC (hs), zl_eq, bsm, ZS, ZT, ZN, ZU, eq_self, true_and, and_true, and_self, or_true, true_or, or_false, false_or, not_true, not_false_eq_true, Nat.reduceAdd, Nat.reduceMul, Nat.reduceLT, Nat.reduceLeDiff, Nat.reduceEqDiff, ↓reduceIte, ZQ, Bool.true_eq_false, Bool.false_eq_true, Bool.not_true, Bool.not_false]
    rw [e2, bsm]
/-- the object has stored, both inputs are read -/
theorem mid_in0 {h h1 h' : ZH} {A B : List Nat} {G : Nat → Nat → Nat} {N : Nat → Nat} {n t : Nat} {c : Nat → Nat} (hI : INVg G n c h) (ht : t < 6) (p1 : zfr (A ++ HL t) h h1) (p2 : zfr B h1 h') (hA : ∀ b, b ∈ A ++ B → b ∈ 26 :: scr) (m1 : iGm G N t h1) (m2 : iHm t (G t) h1) (kz : ∀ i, (i = 4 ∨ i = 6 ∨ i = 10) → zI h' 117 i = zI h 117 i) (k4 : zI h' 117 4 = zI h1 117 4) (z1 : zI h' 26 1 = nI 0) (z8 : zI h' 117 8 = nI 0) : midI G N t 0 c h' := by
  obtain ⟨g1, g2, g3, g4, g5, g6, g7, g8⟩ := hI
  have p5 := p1.trans p2
  have dB : ∀ b, b ∉ 26 :: scr → b ∉ B := fun b hb hx => hb (hA b (List.mem_append_right _ hx))
  have nj : ∀ b, b ∉ 26 :: scr → b ≠ 3 → b ≠ 5 → (∀ x, x < 10 → b ≠ 7 + 2 * x) → b ≠ 82 + 4 * t → b ∉ (A ++ HL t) ++ B := by
    intro b x1 x3 x4 x5 x6 hb
    rcases List.mem_append.mp hb with q | q
    · rcases List.mem_append.mp q with q | q
      · exact x1 (hA b (List.mem_append_left _ q))
      · exact HL_no ht x3 x4 x5 x6 q
    · exact dB b x1 q
  have nk : ∀ b, b ∉ 26 :: scr → 26 ≤ b → b ≠ 82 + 4 * t → b ∉ (A ++ HL t) ++ B := fun b x1 x2 x3 => nj b x1 (by omega) (by omega) (fun x hx => by omega) x3
  have d1 : ∀ u, u < 6 → 82 + 4 * u ∉ 26 :: scr := by decide
  have d2 : ∀ x, x < 10 → 7 + 2 * x ∉ 26 :: scr := by decide
  have d3 : ∀ u, u < 6 → 84 + 4 * u ∉ 26 :: scr := by decide
  have d4 : ∀ u, u < 4 → 105 + 3 * u ∉ 26 :: scr := by decide
  have d5 : ∀ u, u < 4 → 106 + 3 * u ∉ 26 :: scr := by decide
  have d6 : ∀ u, u < 4 → 107 + 3 * u ∉ 26 :: scr := by decide
  have d7 : ∀ b, b ∈ 26 :: scr → b < 152 ∧ b ≠ 52 := by decide
  refine ⟨p5.shp g1, ?_, ⟨by decide, z1, z8, fun i hi => by omega⟩, m2.fr p2 (dB _ (by decide)) (dB _ (by decide)) (dB _ (by decide)) (dB _ (by decide)) (fun x hx => dB _ (d2 x hx)) k4, ?_, ?_, ?_, ?_⟩
  · intro u hu j hj
    rw [p2.I (dB _ (d1 u hu)), p2.I (dB _ (by decide))]
    exact m1 u hu j hj
  · exact g5.fr p5 (nj _ (by decide) (by omega) (by omega) (fun x hx => by omega) (by omega)) (nk _ (by decide) (by omega) (by omega)) (fun u hu => nk _ (d3 u hu) (by omega) (by omega)) (kz 6 (by decide))
  · exact g6.fr p5 (nk _ (by decide) (by omega) (by omega)) (nk _ (by decide) (by omega) (by omega)) (nk _ (by decide) (by omega) (by omega)) (kz 10 (by decide))
  · exact g7.fr p5 (fun u hu => nk _ (d4 u hu) (by omega) (by omega)) (fun u hu => nk _ (d5 u hu) (by omega) (by omega)) (fun u hu => nk _ (d6 u hu) (by omega) (by omega)) (nk _ (by decide) (by omega) (by omega)) (nk _ (by decide) (by omega) (by omega)) (nk _ (by decide) (by omega) (by omega)) (nk _ (by decide) (by omega) (by omega))
  · refine g8.fr p5 (fun b hb => ?_) (nk _ (by decide) (by omega) (by omega)) (nk _ (by decide) (by omega) (by omega))
    rcases List.mem_append.mp hb with q | q
    · rcases List.mem_append.mp q with q | q
      · exact d7 b (hA b (List.mem_append_left _ q))
      · simp only [HL, List.mem_cons, List.not_mem_nil, or_false] at q
        omega
    · exact d7 b (hA b (List.mem_append_right _ q))
theorem c_forbid (a1 a2 : Int32) : Ok2 (fX10_forbid 0 a1 a2) (fX11_forbid 117 a1 a2) := by
  refine Ok2.of (fun h G n c hI => ?_)
  have hs := hI.1
  rcases cSlot a1 with b | ⟨s, h6, rfl⟩
  · refine Ok2.same hI (r := -2) ?_ ?_
    · simp (disch := omega) only [fX10_forbid, bX10_forbid_14, fun q => (b q).1, SC (hs), zl_eq, bsm, ZS, ZT, ZN, ZU, eq_self, true_and, and_true, and_self, or_true, true_or, or_false, false_or, not_true, not_false_eq_true, Nat.reduceAdd, Nat.reduceMul, Nat.reduceLT, Nat.reduceLeDiff, Nat.reduceEqDiff, ↓reduceIte, ZQ, Bool.true_eq_false, Bool.false_eq_true, Bool.not_true, Bool.not_false]
    · simp (disch := omega) only [fX11_forbid, bX11_forbid_14, fun q => (b q).2, SR (hs), zl_eq, bsm, ZS, ZT, ZN, ZU, eq_self, true_and, and_true, and_self, or_true, true_or, or_false, false_or, not_true, not_false_eq_true, Nat.reduceAdd, Nat.reduceMul, Nat.reduceLT, Nat.reduceLeDiff, Nat.reduceEqDiff, ↓reduceIte, ZQ, Bool.true_eq_false, Bool.false_eq_true, Bool.not_true, Bool.not_false]
  rcases cSlot a2 with b | ⟨t, ht, rfl⟩
  · refine Ok2.same hI (r := -2) ?_ ?_
    · simp (disch := omega) only [fX10_forbid, bX10_forbid_14, isSlot_ok h6, fun q => (b q).1, SC hs, ZN, bsm, eq_self, and_self, Nat.reduceEqDiff, ↓reduceIte]
    · simp (disch := omega) only [fX11_forbid, bX11_forbid_14, rSlot_ok h6, fun q => (b q).2, SR hs, ZN, bsm, eq_self, and_self, Nat.reduceEqDiff, ↓reduceIte]
  obtain ⟨i1, i2, i3, i4⟩ := id hI.2.2.1
  obtain ⟨k, hk, hf, hb⟩ := exWord n c
  have ew := wordFault_ok hs hI.2.2.1 hk hf hb
  have el := len_ok (T26 hs) i2
  by_cases hgo : k = n ∧ 1 ≤ n ∧ n ≤ 6
  · obtain ⟨rfl, n1, n6⟩ := hgo
    have ewq : wfQ k k = -1 := if_pos rfl
    rw [ewq] at ew
    obtain ⟨h1, e1, p1, q1⟩ := track_ok hI h6 n1 n6 (fun i hi => ltB_b (hf i hi))
    have hs1 := p1.shp hs
    have ecl := tclear_ok (T26 hs1)
    have p2 : zfr [26] h1 (zsI h1 (zu (zI h1) 26 1 (nI 0))) := zfr_uI
    have z26 : zI (zsI h1 (zu (zI h1) 26 1 (nI 0))) 26 1 = nI 0 := by dsimp only [zI_zsI]; rw [zu_at, if_pos rfl]
    have q2 : wM (zsI h1 (zu (zI h1) 26 1 (nI 0))) 74 (fW (fun j => c j - 97) k (G s)) := fun j hj => q1 j hj
    generalize zsI h1 (zu (zI h1) 26 1 (nI 0)) = h2 at ecl p2 z26 q2
    have p12 := p1.trans p2
    have hs2 := p12.shp hs
    have g2 : iG G h2 := hI.2.1.fr p12 (by decide) (by decide)
    have g4 : iH h2 := hI.2.2.2.1.fr p12 (by decide) (by decide) (by decide) (by decide) (by decide) (by rw [p12.I (by decide)])
    have hw : ∀ j, j < k → c j - 97 < 4 := fun j hj => by have := ltB_b (hf j hj); omega
    have cls : ∀ r, fX10_storeWide 0 (nI t) h2 = some r → fX10_forbid 0 (nI s) (nI t) h = some r := by
      intro r er
      unfold fX10_forbid bX10_forbid_51 bX10_forbid_68 bX10_forbid_99
      simp (disch := omega) only [ew, el, show (0 ≤ (-1 : Int32)) = False by decide, e1, SC (hs), zl_eq, bsm, ZS, ZT, ZN, ZU, eq_self, true_and, and_true, and_self, or_true, true_or, or_false, false_or, not_true, not_false_eq_true, Nat.reduceAdd, Nat.reduceMul, Nat.reduceLT, Nat.reduceLeDiff, Nat.reduceEqDiff, ↓reduceIte, ZQ, Bool.true_eq_false, Bool.false_eq_true, Bool.not_true, Bool.not_false]
      simp (disch := omega) only [ecl, show ((-1 : Int32) < 0) = True by decide, SC (hs1), zl_eq, bsm, ZS, ZT, ZN, ZU, eq_self, true_and, and_true, and_self, or_true, true_or, or_false, false_or, not_true, not_false_eq_true, Nat.reduceAdd, Nat.reduceMul, Nat.reduceLT, Nat.reduceLeDiff, Nat.reduceEqDiff, ↓reduceIte, ZQ, Bool.true_eq_false, Bool.false_eq_true, Bool.not_true, Bool.not_false]
      rw [er, bsm]
    have R := f_rnm (w := fun j => c j - 97) (M := G s) n1 n6
    have cn := R.cnt
    -- the reference, from any state that the object leaves
    have ref : ∀ (P : Int32 × ZH → Prop) (h3 : ZH), Sh h3 → zI h3 117 8 = nI k → (∀ i, i < k → zI h3 123 i = nI (c i)) → vI h3 118 192 (fun j => G (j / 32) (j % 32)) → (∀ h4 h5, zfr [117, 125] h3 h4 → (∀ i, i ≠ 8 → i ≠ 12 → zI h4 117 i = zI h3 117 i) → zI h4 117 8 = nI 0 → zfr [147] h4 h5 → wM h5 147 (gW (fun j => c j - 97) k (G s)) → wp (fX11_storeWide 117 (nI t) h5) P) → wp (fX11_forbid 117 (nI s) (nI t) h3) P := by
      intro P h3 hs3 z3 c3 v3 K
      obtain ⟨h4, e4, p4, zo, z8, z12, w4⟩ := readWord_ok (c := c) (k := k) hs3 i1 z3 (fun i hi => ⟨c3 i hi, (i4 i hi).2.2⟩) (Nat.le_refl k) hf hb
      rw [ewq] at e4
      have hs4 := p4.shp hs3
      unfold fX11_forbid
      simp (disch := omega) only [e4, SR (hs3), zl_eq, bsm, ZS, ZT, ZN, ZU, eq_self, true_and, and_true, and_self, or_true, true_or, or_false, false_or, not_true, not_false_eq_true, Nat.reduceAdd, Nat.reduceMul, Nat.reduceLT, Nat.reduceLeDiff, Nat.reduceEqDiff, ↓reduceIte, ZQ, Bool.true_eq_false, Bool.false_eq_true, Bool.not_true, Bool.not_false]
      simp (disch := omega) only [z12, SR (hs4), zl_eq, bsm, ZS, ZT, ZN, ZU, eq_self, true_and, and_true, and_self, or_true, true_or, or_false, false_or, not_true, not_false_eq_true, Nat.reduceAdd, Nat.reduceMul, Nat.reduceLT, Nat.reduceLeDiff, Nat.reduceEqDiff, ↓reduceIte, ZQ, Bool.true_eq_false, Bool.false_eq_true, Bool.not_true, Bool.not_false]
      refine forbid_r (G := G) (w := fun j => c j - 97) (n := k) hs4 (fun j hj => by rw [p4.I (by decide)]; exact v3 j hj) (fun s hs j hj => (hI.2.1 s hs j hj).2.2) h6 n1 n6 z12 (fun i hi => ⟨w4 i hi, hw i hi⟩) (fun h5 p5 w5 => K h4 h5 p4 zo z8 p5 w5)
    rcases storeWideD (G := G) hs2 g2 g4 ht q2 with ⟨b, er⟩ | ⟨b, h3, N, er, p3, m1, m2, wn⟩
    · refine ⟨-3, (-3, h2), cls _ er, rfl, ?_⟩
      refine ref _ h2 hs2 (by rw [p12.I (by decide)]; exact i3) (fun i hi => by rw [p12.I (by decide)]; exact (i4 i hi).2.1) (fun j hj => ?_) (fun h4 h5 p4 zo z8 p5 w5 => ?_)
      · have := (g2 (j / 32) (by omega) (j % 32) (by omega)).2.1
        rwa [show 32 * (j / 32) + j % 32 = j by omega] at this
      · have g5 := INV_in0 hI ((p12.trans p4).mono (by decide)) (fun i hi => by rw [zo i (by omega) (by omega), p12.I (by decide)]) (by rw [p4.I (by decide)]; exact z26) z8
        exact storeWideR_big (g5.fr (fq146 p5)) w5 (by rw [cn]; exact b)
    · refine ⟨nI (und (essW (fW (fun j => c j - 97) k (G s))) 64), (nI (und (essW (fW (fun j => c j - 97) k (G s))) 64), h3), cls _ er, rfl, ?_⟩
      have hs3 := p3.shp hs2
      have p123 : zfr (([74] ++ [26] ++ [75, 32]) ++ HL t) h h3 := (p12.trans p3).mono (fun b hb => by simpa using hb)
      have ni : ∀ b, b ≠ 32 → b ≠ 75 → b ≠ 3 → b ≠ 5 → (∀ x, x < 10 → b ≠ 7 + 2 * x) → b ≠ 82 + 4 * t → b ∉ [75, 32] ++ HL t := by
        intro b x1 x2 x3 x4 x5 x6 hb
        rcases List.mem_append.mp hb with q | q
        · simp only [List.mem_cons, List.not_mem_nil, or_false] at q; omega
        · exact HL_no ht x3 x4 x5 x6 q
      have n116 := ni 117 (by omega) (by omega) (by omega) (by omega) (fun x hx => by omega) (by omega)
      have n122 := ni 123 (by omega) (by omega) (by omega) (by omega) (fun x hx => by omega) (by omega)
      have n26 := ni 26 (by omega) (by omega) (by omega) (by omega) (fun x hx => by omega) (by omega)
      refine ref _ h3 hs3 (by rw [p3.I n116, p12.I (by decide)]; exact i3) (fun i hi => by rw [p3.I n122, p12.I (by decide)]; exact (i4 i hi).2.1) (fun j hj => ?_) (fun h4 h5 p4 zo z8 p5 w5 => ?_)
      · have := (m1 (j / 32) (by omega) (j % 32) (by omega)).2.1
        rwa [show 32 * (j / 32) + j % 32 = j by omega] at this
      · have m := mid_in0 (c := c) hI ht p123 p4 (by decide) m1 m2 (fun i hi => by rw [zo i (by omega) (by omega), p3.I n116, p12.I (by decide)]) (zo 4 (by decide) (by decide)) (by rw [p4.I (by decide), p3.I n26]; exact z26) z8
        have := storeWideR (m.fr (fq146 p5)) ht w5 (by rw [cn]; exact b) (f_wn n1 n6 wn)
        rw [cn] at this
        exact this
  · have ecl := tclear_ok (T26 hs)
    have p2 : zfr [26] h (zsI h (zu (zI h) 26 1 (nI 0))) := zfr_uI
    have z26 : zI (zsI h (zu (zI h) 26 1 (nI 0))) 26 1 = nI 0 := by dsimp only [zI_zsI]; rw [zu_at, if_pos rfl]
    generalize zsI h (zu (zI h) 26 1 (nI 0)) = h2 at ecl p2 z26
    have hs2 := p2.shp hs
    obtain ⟨h3, e3, p3, zo, z8, z12, v3⟩ := readWord_ok (c := c) (k := k) hs2 i1 (by rw [p2.I (by decide)]; exact i3) (fun i hi => by rw [p2.I (by decide)]; exact (i4 i hi).2) hk hf hb
    have hs3 := p3.shp hs2
    have kf : ∀ i, (i = 4 ∨ i = 6 ∨ i = 10) → zI h3 117 i = zI h 117 i := fun i hi => by
      rw [zo i (by omega) (by omega), p2.I (by decide)]
    have g4 := INV_in0 hI ((p2.trans p3).mono (by decide)) kf (by rw [p3.I (by decide)]; exact z26) z8
    by_cases hkn : k = n
    · subst hkn
      have ewq : wfQ k k = -1 := if_pos rfl
      rw [ewq] at ew e3
      have out : nI k < nI 1 ∨ nI 6 < nI k := by
        simp (disch := omega) only [ZN]
        omega
      refine ⟨-2, (-2, h2), ?_, rfl, wp_eq (a := (-2, h3)) ?_ ⟨rfl, G, 0, c, g4⟩⟩
      · unfold fX10_forbid bX10_forbid_50 bX10_forbid_51 bX10_forbid_68 bX10_forbid_99
        simp (disch := omega) only [ew, el, show (0 ≤ (-1 : Int32)) = False by decide, isWithin_no out, ecl, show ((-1 : Int32) < 0) = True by decide, SC (hs), zl_eq, bsm, ZS, ZT, ZN, ZU, eq_self, true_and, and_true, and_self, or_true, true_or, or_false, false_or, not_true, not_false_eq_true, Nat.reduceAdd, Nat.reduceMul, Nat.reduceLT, Nat.reduceLeDiff, Nat.reduceEqDiff, ↓reduceIte, ZQ, Bool.true_eq_false, Bool.false_eq_true, Bool.not_true, Bool.not_false]
      · unfold fX11_forbid
        simp (disch := omega) only [e3, SR (hs2), zl_eq, bsm, ZS, ZT, ZN, ZU, eq_self, true_and, and_true, and_self, or_true, true_or, or_false, false_or, not_true, not_false_eq_true, Nat.reduceAdd, Nat.reduceMul, Nat.reduceLT, Nat.reduceLeDiff, Nat.reduceEqDiff, ↓reduceIte, ZQ, Bool.true_eq_false, Bool.false_eq_true, Bool.not_true, Bool.not_false]
        simp (disch := omega) only [z12, isIn_no out, SR (hs3), zl_eq, bsm, ZS, ZT, ZN, ZU, eq_self, true_and, and_true, and_self, or_true, true_or, or_false, false_or, not_true, not_false_eq_true, Nat.reduceAdd, Nat.reduceMul, Nat.reduceLT, Nat.reduceLeDiff, Nat.reduceEqDiff, ↓reduceIte, ZQ, Bool.true_eq_false, Bool.false_eq_true, Bool.not_true, Bool.not_false]
    · have ewq : wfQ n k = nI k := if_neg hkn
      rw [ewq] at ew e3
      refine ⟨(-100 : Int32) - nI k, ((-100 : Int32) - nI k, h2), ?_, rfl, wp_eq (a := ((-100 : Int32) - nI k, h3)) ?_ ⟨rfl, G, 0, c, g4⟩⟩
      · unfold fX10_forbid bX10_forbid_50 bX10_forbid_51 bX10_forbid_68
        simp (disch := omega) only [ew, el, ecl, SC (hs), zl_eq, bsm, ZS, ZT, ZN, ZU, eq_self, true_and, and_true, and_self, or_true, true_or, or_false, false_or, not_true, not_false_eq_true, Nat.reduceAdd, Nat.reduceMul, Nat.reduceLT, Nat.reduceLeDiff, Nat.reduceEqDiff, ↓reduceIte, ZQ, Bool.true_eq_false, Bool.false_eq_true, Bool.not_true, Bool.not_false]
      · unfold fX11_forbid
        simp (disch := omega) only [e3, SR (hs2), zl_eq, bsm, ZS, ZT, ZN, ZU, eq_self, true_and, and_true, and_self, or_true, true_or, or_false, false_or, not_true, not_false_eq_true, Nat.reduceAdd, Nat.reduceMul, Nat.reduceLT, Nat.reduceLeDiff, Nat.reduceEqDiff, ↓reduceIte, ZQ, Bool.true_eq_false, Bool.false_eq_true, Bool.not_true, Bool.not_false]
