/-! CALLS: parse, from the reading on -/
def HL (t : Nat) : List Nat := [3, 5, 7, 9, 11, 13, 15, 17, 19, 21, 23, 25, 82 + 4 * t]
theorem HL_no {t b : Nat} (ht : t < 6) (h1 : b ≠ 3) (h2 : b ≠ 5) (h3 : ∀ x, x < 10 → b ≠ 7 + 2 * x) (h4 : b ≠ 82 + 4 * t) : b ∉ HL t := by
  intro hb
  have := h3 0 (by decide)
  have := h3 1 (by decide)
  have := h3 2 (by decide)
  have := h3 3 (by decide)
  have := h3 4 (by decide)
  have := h3 5 (by decide)
  have := h3 6 (by decide)
  have := h3 7 (by decide)
  have := h3 8 (by decide)
  have := h3 9 (by decide)
  simp only [HL, List.mem_cons, List.not_mem_nil, or_false] at hb
  omega
/-- the store alone, without what it leaves as it is -/
theorem storeCore {h : ZH} {G : Nat → Nat → Nat} {N : Nat → Nat} {t : Nat} (hs : Sh h) (g2 : iG G h) (g4 : iH h) (ht : t < 6) (hN : hasM h 32 N) : ∃ h', fX10_storeFresh 0 (nI t) h = some h' ∧ zfr (HL t) h h' ∧ iGm G N t h' ∧ iHm t (G t) h' ∧ hasM h' 32 N := by
  obtain ⟨nh, lat, a1, a2, a3, a4, a5, a6⟩ := g4
  obtain ⟨h1, e, p, b1, b2, b3, b4, b5⟩ := push_ok hs (s := t) a1 a2 a3 a5 (gS hs ht) (by omega) (g2.m ht)
  have hl : (lat + 1) % 10 < 10 := Nat.mod_lt _ (by decide)
  have nin : ∀ b, b ≠ 3 → b ≠ 5 → b ≠ 7 + 2 * ((lat + 1) % 10) → b ∉ [3, 5, 7 + 2 * ((lat + 1) % 10)] := by
    intro b x1 x2 x3 hb
    simp only [List.mem_cons, List.not_mem_nil, or_false] at hb
    omega
  have hs1 := p.shp hs
  have hN1 : hasM h1 32 N := p.hasM (nin _ (by omega) (by omega) (by omega)) hN
  obtain ⟨h2, e2, p2, q2⟩ := copyOf_ok (gS hs1 ht) (g31 hs1) hN1
  refine ⟨h2, ?_, (p.trans p2).mono (fun b hb => ?_), ?_, ?_, p2.hasM (mem1.mpr (by omega)) hN1⟩
  · unfold fX10_storeFresh
    simp (disch := omega) only [isSlot_ok ht, SC (hs), zl_eq, bsm, ZS, ZT, ZN, ZU, eq_self, true_and, and_true, and_self, or_true, true_or, or_false, false_or, not_true, not_false_eq_true, Nat.reduceAdd, Nat.reduceMul, Nat.reduceLT, Nat.reduceLeDiff, Nat.reduceEqDiff, ↓reduceIte, ZQ, Bool.true_eq_false, Bool.false_eq_true, Bool.not_true, Bool.not_false]
    rw [e, Option.bind_some]
    simp (disch := omega) only [e2, bX10_storeFresh_34, SC (hs1), zl_eq, bsm, ZS, ZT, ZN, ZU, eq_self, true_and, and_true, and_self, or_true, true_or, or_false, false_or, not_true, not_false_eq_true, Nat.reduceAdd, Nat.reduceMul, Nat.reduceLT, Nat.reduceLeDiff, Nat.reduceEqDiff, ↓reduceIte, ZQ, Bool.true_eq_false, Bool.false_eq_true, Bool.not_true, Bool.not_false]
  · have key : ∀ x, x < 10 → 7 + 2 * x ∈ [3, 5, 7, 9, 11, 13, 15, 17, 19, 21, 23, 25] := by decide
    have h3 := key _ hl
    simp only [HL, List.mem_append, List.mem_cons, List.not_mem_nil, or_false] at hb h3 ⊢
    omega
  · intro u hu j hj
    obtain ⟨k1, k2, k3⟩ := g2 u hu j hj
    rw [p2.I (show 118 ∉ [82 + 4 * t] from mem1.mpr (by omega)), p.I (nin 118 (by omega) (by omega) (by omega))]
    refine ⟨?_, k2, k3, (q2 j hj).2⟩
    unfold upG
    by_cases eu : u = t
    · subst eu; rw [if_pos rfl]; exact (q2 j hj).1
    · rw [if_neg eu, p2.I (mem1.mpr (by omega)), p.I (nin _ (by omega) (by omega) (by omega))]; exact k1
  · have d : ∀ x, x < 10 → 7 + 2 * x ∉ [82 + 4 * t] := fun x hx => mem1.mpr (by omega)
    refine ⟨nh, (lat + 1) % 10, a1, hl, by rw [p2.I (mem1.mpr (by omega))]; exact b2, by rw [p2.I (mem1.mpr (by omega)), p.I (nin _ (by omega) (by omega) (by omega))]; exact a4, by rw [p2.I (mem1.mpr (by omega))]; exact b1, by rw [p2.I (mem1.mpr (by omega))]; exact b4, fun j hj => by rw [p2.I (d _ hl)]; exact (b3 j hj).1, fun i hi => ?_⟩
    obtain ⟨u, m, k1, k2, k3, k4⟩ := a6 i (by omega)
    have er : ((lat + 1) % 10 + 10 - (i + 1)) % 10 = (lat + 10 - i) % 10 := by omega
    have hne : (lat + 10 - i) % 10 ≠ (lat + 1) % 10 := by omega
    refine ⟨u, m, k1, by rw [er, p2.I (mem1.mpr (by omega)), b5 _ hne]; exact k2, by rw [p2.I (mem1.mpr (by omega)), p.I (nin _ (by omega) (by omega) (by omega))]; exact k3, fun j hj => ?_⟩
    rw [er, p2.I (d _ (Nat.mod_lt _ (by decide))), p.I (nin _ (by omega) (by omega) (by omega)), p2.I (mem1.mpr (by omega)), p.I (nin _ (by omega) (by omega) (by omega))]
    exact k4 j hj
/-- the reference reads the same signs -/
theorem parse_r {h : ZH} {n k s : Nat} {c : Nat → Nat} {Q : Int32 × ZH → Prop} (hs : Sh h) (h6 : s < 6) (hn : n ≤ 120) (e8 : zI h 117 8 = nI n) (i4 : ∀ i, i < n → zI h 123 i = nI (c i) ∧ 1 ≤ c i ∧ c i ≤ 127) (hk : k ≤ n) (hf : ∀ j, j < k → fitB j (c j) = true) (hb : k < n → fitB k (c k) = false)
    (kk : ∀ h', zfr [117, 119] h h' → (∀ i, i ≠ 8 → zI h' 117 i = zI h 117 i) → zI h' 117 8 = nI 0 → vI h' 119 32 (pN c k) → wp (if k = n ∧ n % 4 = 3 then ((fX11_replace 117 (nI s) h').bind fun h3 => (fX11_edgesOf 117 (nI s) h3).bind fun q4 => some (q4.1, q4.2)) else some ((-100 : Int32) - nI k, h')) Q) : wp (fX11_parse 117 (nI s) h) Q := by
  have p0 : zfr [117] h (zsI h (zu (zI h) 117 8 (nI 0))) := zfr_uI
  obtain ⟨h0, e0, p1, q0⟩ := clearG (p0.shp hs)
  have p01 := p0.trans p1
  have z8 : zI h0 117 8 = nI 0 := by rw [p1.I (by decide)]; dsimp only [zI_zsI]; rw [zu_at, if_pos rfl]
  have zo : ∀ i, i ≠ 8 → zI h0 117 i = zI h 117 i := fun i hi => by rw [p1.I (by decide)]; dsimp only [zI_zsI]; rw [zu_at, if_neg hi]
  unfold fX11_parse
  simp (disch := omega) only [e8, e0, SR (hs), zl_eq, bsm, ZS, ZT, ZN, ZU, eq_self, true_and, and_true, and_self, or_true, true_or, or_false, false_or, not_true, not_false_eq_true, Nat.reduceAdd, Nat.reduceMul, Nat.reduceLT, Nat.reduceLeDiff, Nat.reduceEqDiff, ↓reduceIte, ZQ, Bool.true_eq_false, Bool.false_eq_true, Bool.not_true, Bool.not_false]
  refine wloop (fun j y => y.1 = nI j ∧ zfr [119] h0 y.2 ∧ vI y.2 119 32 (pN c j)) k (fun j y self hj hy ih => ?_) (show k < 100000 by omega) ⟨rfl, zfr.refl h0, by rw [pN]; exact q0⟩
  obtain ⟨y, h1⟩ := y
  obtain ⟨rfl, p2, q2⟩ := hy
  dsimp only at p2 q2
  have p3 : zfr [117, 119] h h1 := (p01.mono (by decide)).same (p2.mono (by decide))
  have hs1 := p3.shp hs
  have hk1 := kk h1 p3 (fun i hi => by rw [p2.I (by decide)]; exact zo i hi) (by rw [p2.I (by decide)]; exact z8)
  show wp (kX11_parse_26 117 (nI s) (nI n) self (nI j) h1) _
  unfold kX11_parse_26 bX11_parse_102
  by_cases hjn : j = n
  · have hkn : k = n := by omega
    subst hjn
    subst hkn
    have hk2 := hk1 q2
    by_cases e3 : k % 4 = 3
    · rw [if_pos ⟨rfl, e3⟩] at hk2
      simp (disch := omega) only [Nat.le_refl, e3, SR (hs1), zl_eq, bsm, ZS, ZT, ZN, ZU, eq_self, true_and, and_true, and_self, or_true, true_or, or_false, false_or, not_true, not_false_eq_true, Nat.reduceAdd, Nat.reduceMul, Nat.reduceLT, Nat.reduceLeDiff, Nat.reduceEqDiff, ↓reduceIte, ZQ, Bool.true_eq_false, Bool.false_eq_true, Bool.not_true, Bool.not_false]
      exact hk2
    · rw [if_neg (fun q => e3 q.2)] at hk2
      simp (disch := omega) only [Nat.le_refl, eq_false e3, SR (hs1), zl_eq, bsm, ZS, ZT, ZN, ZU, eq_self, true_and, and_true, and_self, or_true, true_or, or_false, false_or, not_true, not_false_eq_true, Nat.reduceAdd, Nat.reduceMul, Nat.reduceLT, Nat.reduceLeDiff, Nat.reduceEqDiff, ↓reduceIte, ZQ, Bool.true_eq_false, Bool.false_eq_true, Bool.not_true, Bool.not_false]
      exact hk2
  · have hjn' : j < n := by omega
    have ec : ∀ i, i < n → zI h1 123 i = nI (c i) := fun i hi => by rw [p3.I (by decide)]; exact (i4 i hi).1
    have hcb := (i4 j hjn').2
    have ef := stands_ok (i := j) (ch := c j) (by omega) h1
    by_cases hlt : j < k
    · have hfj := hf j hlt
      rw [hfj, Bool.toNat_true] at ef
      by_cases m : j % 4 = 2
      · have f2 := fit0 hfj (Or.inr m)
        have f0 := fit0 (hf (j - 2) (by omega)) (Or.inl (by omega))
        have f1 := fit1 (hf (j - 1) (by omega)) (by omega)
        rw [m] at ef
        have ei : 4 * (c (j - 2) - 48) + c (j - 1) - 97 = 4 * (c (j - 2) - 48) + (c (j - 1) - 97) := by omega
        have q3 := q2 (4 * (c (j - 2) - 48) + (c (j - 1) - 97)) (by omega)
        simp (disch := omega) only [Nat.not_le.mpr hjn', ec j hjn', ec (j - 2) (by omega), ec (j - 1) (by omega), ef, m, ei, q3, SR (hs1), zl_eq, bsm, ZS, ZT, ZN, ZU, eq_self, true_and, and_true, and_self, or_true, true_or, or_false, false_or, not_true, not_false_eq_true, Nat.reduceAdd, Nat.reduceMul, Nat.reduceLT, Nat.reduceLeDiff, Nat.reduceEqDiff, ↓reduceIte, ZQ, Bool.true_eq_false, Bool.false_eq_true, Bool.not_true, Bool.not_false]
        exact ih _ hlt ⟨rfl, p2.same zfr_uI, by rw [pN, if_pos m]; exact made_set q2⟩
      · simp (disch := omega) only [Nat.not_le.mpr hjn', ec j hjn', ef, eq_false m, SR (hs1), zl_eq, bsm, ZS, ZT, ZN, ZU, eq_self, true_and, and_true, and_self, or_true, true_or, or_false, false_or, not_true, not_false_eq_true, Nat.reduceAdd, Nat.reduceMul, Nat.reduceLT, Nat.reduceLeDiff, Nat.reduceEqDiff, ↓reduceIte, ZQ, Bool.true_eq_false, Bool.false_eq_true, Bool.not_true, Bool.not_false]
        exact ih _ hlt ⟨rfl, p2, by rw [pN, if_neg m]; exact q2⟩
    · have hjk : j = k := by omega
      subst hjk
      have hfj := hb hjn'
      rw [hfj, Bool.toNat_false] at ef
      have hk2 := hk1 q2
      rw [if_neg (fun q => hjn q.1)] at hk2
      simp (disch := omega) only [Nat.not_le.mpr hjn', ec j hjn', ef, SR (hs1), zl_eq, bsm, ZS, ZT, ZN, ZU, eq_self, true_and, and_true, and_self, or_true, true_or, or_false, false_or, not_true, not_false_eq_true, Nat.reduceAdd, Nat.reduceMul, Nat.reduceLT, Nat.reduceLeDiff, Nat.reduceEqDiff, ↓reduceIte, ZQ, Bool.true_eq_false, Bool.false_eq_true, Bool.not_true, Bool.not_false]
      exact hk2
theorem c_parse (a1 : Int32) : Ok2 (fX10_parse 0 a1) (fX11_parse 117 a1) := by
  refine Ok2.of (fun h G n c hI => ?_)
  have hs := hI.1
  rcases cSlot a1 with b | ⟨s, h6, rfl⟩
  · refine Ok2.same hI (r := -2) ?_ ?_
    · simp (disch := omega) only [fX10_parse, fun q => (b q).1, SC (hs), zl_eq, bsm, ZS, ZT, ZN, ZU, eq_self, true_and, and_true, and_self, or_true, true_or, or_false, false_or, not_true, not_false_eq_true, Nat.reduceAdd, Nat.reduceMul, Nat.reduceLT, Nat.reduceLeDiff, Nat.reduceEqDiff, ↓reduceIte, ZQ, Bool.true_eq_false, Bool.false_eq_true, Bool.not_true, Bool.not_false]
    · simp (disch := omega) only [fX11_parse, fun q => (b q).2, SR (hs), zl_eq, bsm, ZS, ZT, ZN, ZU, eq_self, true_and, and_true, and_self, or_true, true_or, or_false, false_or, not_true, not_false_eq_true, Nat.reduceAdd, Nat.reduceMul, Nat.reduceLT, Nat.reduceLeDiff, Nat.reduceEqDiff, ↓reduceIte, ZQ, Bool.true_eq_false, Bool.false_eq_true, Bool.not_true, Bool.not_false]
  obtain ⟨g1, g2, g3, g4, g5, g6, g7, g8⟩ := id hI
  obtain ⟨i1, i2, i3, i4⟩ := id g3
  obtain ⟨k, hk, hf, hb⟩ := exFault n c
  obtain ⟨⟨r, h1⟩, e1, e2, p1, q1⟩ := readGraph_ok hs g3 hk hf hb
  dsimp only at e2 p1 q1
  have hs1 := p1.shp hs
  have p2 : zfr [26] h1 (zsI h1 (zu (zI h1) 26 1 (nI 0))) := zfr_uI
  have ecl := tclear_ok (T26 hs1)
  have p12 : zfr [32, 26] h (zsI h1 (zu (zI h1) 26 1 (nI 0))) := p1.trans p2
  have z26 : zI (zsI h1 (zu (zI h1) 26 1 (nI 0))) 26 1 = nI 0 := by dsimp only [zI_zsI]; rw [zu_at, if_pos rfl]
  generalize hh : zsI h1 (zu (zI h1) 26 1 (nI 0)) = h2 at p2 p12 z26 ecl
  have hs2 := p12.shp hs
  by_cases hg : k = n ∧ n % 4 = 3
  · have hm := q1 hg.1
    have hr : r = -1 := by rw [e2]; unfold rdQ; rw [if_pos hg]
    subst hr
    have hm2 : hasM h2 32 (pN c n) := p2.hasM (by decide) hm
    obtain ⟨h3, e3, p3, m1, m2, m3⟩ := storeCore (G := G) hs2 (g2.fr p12 (by decide) (by decide)) (g4.fr p12 (by decide) (by decide) (by decide) (by decide) (by decide) (by rw [p12.I (by decide)])) h6 hm2
    have hs3 := p3.shp hs2
    have p123 := p12.trans p3
    have ni : ∀ b, b ≠ 32 → b ≠ 26 → b ≠ 3 → b ≠ 5 → (∀ x, x < 10 → b ≠ 7 + 2 * x) → b ≠ 82 + 4 * s → b ∉ [32, 26] ++ HL s := by
      intro b x1 x2 x3 x4 x5 x6 hb
      rcases List.mem_append.mp hb with q | q
      · simp only [List.mem_cons, List.not_mem_nil, or_false] at q; omega
      · exact HL_no h6 x3 x4 x5 x6 q
    refine ⟨nE (pN c n), (nE (pN c n), h3), ?_, rfl, ?_⟩
    · unfold fX10_parse
      simp (disch := omega) only [e1, SC (hs), zl_eq, bsm, ZS, ZT, ZN, ZU, eq_self, true_and, and_true, and_self, or_true, true_or, or_false, false_or, not_true, not_false_eq_true, Nat.reduceAdd, Nat.reduceMul, Nat.reduceLT, Nat.reduceLeDiff, Nat.reduceEqDiff, ↓reduceIte, ZQ, Bool.true_eq_false, Bool.false_eq_true, Bool.not_true, Bool.not_false]
      simp (disch := omega) only [ecl, show ((-1 : Int32) < 0) = True by decide, e3, SC (hs1), zl_eq, bsm, ZS, ZT, ZN, ZU, eq_self, true_and, and_true, and_self, or_true, true_or, or_false, false_or, not_true, not_false_eq_true, Nat.reduceAdd, Nat.reduceMul, Nat.reduceLT, Nat.reduceLeDiff, Nat.reduceEqDiff, ↓reduceIte, ZQ, Bool.true_eq_false, Bool.false_eq_true, Bool.not_true, Bool.not_false]
      simp (disch := omega) only [show fX1_countEdges 31 h3 = some (nE (pN c n), h3) from countEdges_ok (g31 hs3) m3, SC (hs3), zl_eq, bsm, ZS, ZT, ZN, ZU, eq_self, true_and, and_true, and_self, or_true, true_or, or_false, false_or, not_true, not_false_eq_true, Nat.reduceAdd, Nat.reduceMul, Nat.reduceLT, Nat.reduceLeDiff, Nat.reduceEqDiff, ↓reduceIte, ZQ, Bool.true_eq_false, Bool.false_eq_true, Bool.not_true, Bool.not_false]
    · dsimp only
      have d116 : 117 ∉ [32, 26] ++ HL s := ni _ (by omega) (by omega) (by omega) (by omega) (fun x hx => by omega) (by omega)
      have d122 : 123 ∉ [32, 26] ++ HL s := ni _ (by omega) (by omega) (by omega) (by omega) (fun x hx => by omega) (by omega)
      refine parse_r (c := c) (n := n) (k := k) hs3 h6 i1 (by rw [p123.I d116]; exact i3) (fun i hi => by rw [p123.I d122]; exact (i4 i hi).2) hk hf hb (fun h4 p4 zo z8 v4 => ?_)
      rw [if_pos hg]
      have hkn := hg.1
      subst hkn
      have p5 := p123.trans p4
      have nj : ∀ b, b ≠ 32 → b ≠ 26 → b ≠ 3 → b ≠ 5 → (∀ x, x < 10 → b ≠ 7 + 2 * x) → b ≠ 82 + 4 * s → b ≠ 117 → b ≠ 119 → b ∉ ([32, 26] ++ HL s) ++ [117, 119] := by
        intro b x1 x2 x3 x4 x5 x6 x7 x8 hb
        rcases List.mem_append.mp hb with q | q
        · exact ni b x1 x2 x3 x4 x5 x6 q
        · simp only [List.mem_cons, List.not_mem_nil, or_false] at q; omega
      have kz : ∀ i, i ≠ 8 → zI h4 117 i = zI h 117 i := fun i hi => by rw [zo i hi, p123.I d116]
      have m : midI G (pN c k) s 0 c h4 := by
        refine ⟨p4.shp hs3, ?_, ⟨by decide, ?_, z8, fun i hi => by omega⟩, m2.fr p4 (by decide) (by decide) (by decide) (by decide) (by decide) (zo 4 (by decide)), g5.fr p5 (nj _ (by omega) (by omega) (by omega) (by omega) (fun x hx => by omega) (by omega) (by omega) (by omega)) (nj _ (by omega) (by omega) (by omega) (by omega) (fun x hx => by omega) (by omega) (by omega) (by omega)) (fun t ht => nj _ (by omega) (by omega) (by omega) (by omega) (fun x hx => by omega) (by omega) (by omega) (by omega)) (kz 6 (by decide)), g6.fr p5 (nj _ (by omega) (by omega) (by omega) (by omega) (fun x hx => by omega) (by omega) (by omega) (by omega)) (nj _ (by omega) (by omega) (by omega) (by omega) (fun x hx => by omega) (by omega) (by omega) (by omega)) (nj _ (by omega) (by omega) (by omega) (by omega) (fun x hx => by omega) (by omega) (by omega) (by omega)) (kz 10 (by decide)), g7.fr p5 (fun t ht => nj _ (by omega) (by omega) (by omega) (by omega) (fun x hx => by omega) (by omega) (by omega) (by omega)) (fun t ht => nj _ (by omega) (by omega) (by omega) (by omega) (fun x hx => by omega) (by omega) (by omega) (by omega)) (fun t ht => nj _ (by omega) (by omega) (by omega) (by omega) (fun x hx => by omega) (by omega) (by omega) (by omega)) (nj _ (by omega) (by omega) (by omega) (by omega) (fun x hx => by omega) (by omega) (by omega) (by omega)) (nj _ (by omega) (by omega) (by omega) (by omega) (fun x hx => by omega) (by omega) (by omega) (by omega)) (nj _ (by omega) (by omega) (by omega) (by omega) (fun x hx => by omega) (by omega) (by omega) (by omega)) (nj _ (by omega) (by omega) (by omega) (by omega) (fun x hx => by omega) (by omega) (by omega) (by omega)), g8.fr p5 (fun b hb => ?_) (nj _ (by omega) (by omega) (by omega) (by omega) (fun x hx => by omega) (by omega) (by omega) (by omega)) (nj _ (by omega) (by omega) (by omega) (by omega) (fun x hx => by omega) (by omega) (by omega) (by omega))⟩
        · intro u hu j hj
          rw [p4.I (show 82 + 4 * u ∉ [117, 119] by simp only [List.mem_cons, List.not_mem_nil, or_false]; omega), p4.I (by decide)]
          exact m1 u hu j hj
        · rw [p4.I (by decide), p3.I (HL_no h6 (by omega) (by omega) (fun x hx => by omega) (by omega))]; exact z26
        · simp only [HL, List.mem_append, List.mem_cons, List.not_mem_nil, or_false] at hb
          omega
      exact fin_r h6 m v4
  · have hr : r = nI k := by rw [e2]; unfold rdQ; rw [if_neg hg]
    subst hr
    refine ⟨(-100 : Int32) - nI k, ((-100 : Int32) - nI k, h2), ?_, rfl, ?_⟩
    · unfold fX10_parse
      simp (disch := omega) only [e1, SC (hs), zl_eq, bsm, ZS, ZT, ZN, ZU, eq_self, true_and, and_true, and_self, or_true, true_or, or_false, false_or, not_true, not_false_eq_true, Nat.reduceAdd, Nat.reduceMul, Nat.reduceLT, Nat.reduceLeDiff, Nat.reduceEqDiff, ↓reduceIte, ZQ, Bool.true_eq_false, Bool.false_eq_true, Bool.not_true, Bool.not_false]
      simp (disch := omega) only [ecl, SC (hs1), zl_eq, bsm, ZS, ZT, ZN, ZU, eq_self, true_and, and_true, and_self, or_true, true_or, or_false, false_or, not_true, not_false_eq_true, Nat.reduceAdd, Nat.reduceMul, Nat.reduceLT, Nat.reduceLeDiff, Nat.reduceEqDiff, ↓reduceIte, ZQ, Bool.true_eq_false, Bool.false_eq_true, Bool.not_true, Bool.not_false]
    · dsimp only
      refine parse_r (c := c) (n := n) (k := k) hs2 h6 i1 (by rw [p12.I (by decide)]; exact i3) (fun i hi => by rw [p12.I (by decide)]; exact (i4 i hi).2) hk hf hb (fun h4 p4 zo z8 v4 => ?_)
      rw [if_neg hg]
      have p5 := p12.trans p4
      have kz : ∀ i, i ≠ 8 → zI h4 117 i = zI h 117 i := fun i hi => by rw [zo i hi, p12.I (by decide)]
      refine wp_some ⟨rfl, G, 0, c, p5.shp hs, g2.fr p5 (by decide) (by decide), ⟨by decide, ?_, z8, fun i hi => by omega⟩, g4.fr p5 (by decide) (by decide) (by decide) (by decide) (by decide) (kz 4 (by decide)), g5.fr p5 (by decide) (by decide) (by decide) (kz 6 (by decide)), g6.fr p5 (by decide) (by decide) (by decide) (kz 10 (by decide)), g7.fr p5 (by decide) (by decide) (by decide) (by decide) (by decide) (by decide) (by decide), g8.fr p5 (by decide) (by decide) (by decide)⟩
      rw [p4.I (by decide)]; exact z26
