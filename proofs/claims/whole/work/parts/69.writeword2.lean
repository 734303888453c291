/-! CALLS: writeWord -/
theorem txC.cong {n : Nat} {f g : Nat → Nat} {h : ZH} (t : txC n f h) (e : ∀ i, i < n → f i = g i) : txC n g h := ⟨t.1, fun i hi => by rw [← e i hi]; exact t.2 i hi⟩
theorem txR.cong {n : Nat} {f g : Nat → Nat} {h : ZH} (t : txR n f h) (e : ∀ i, i < n → f i = g i) : txR n g h := ⟨t.1, fun i hi => by rw [← e i hi]; exact t.2 i hi⟩
theorem spell_ok {h : ZH} {M : Nat → Nat} {n i : Nat} (hs : Sh h) (au : aut 37 M h) (ct : ctab M n h) (hn : n ≤ 30) (hi : i < wc M n (ess M)) : ∃ h', fX9_spell 49 37 (nI n) (lN i) 28 h = some h' ∧ zfr [28, 29] h h' ∧ txC n (fun j => 97 + wlt M n i j) h' := by
  have gd := LL_good M
  have p63 : (2 : Nat) ^ 61 < 2 ^ 63 := by decide
  have key : wp (fX9_spell 49 37 (nI n) (lN i) 28 h) (fun h' => zfr [28, 29] h h' ∧ txC n (fun j => 97 + wlt M n i j) h') := by
    obtain ⟨j0, z0, st0⟩ := ct.1
    unfold fX9_spell
    have p0 : zfr [28, 29] h (zsI h (zu (zI h) 28 1 (nI 0))) := (zfr_uI (a := 28)).mono (by decide)
    have t0 : zI (zsI h (zu (zI h) 28 1 (nI 0))) 28 1 = nI 0 := by dsimp only [zI_zsI]; rw [zu_at, if_pos rfl]
    simp (disch := omega) only [tclear_ok (T28 hs), z0, SC (hs), zl_eq, bsm, ZS, ZT, ZN, ZU, eq_self, true_and, and_true, and_self, or_true, true_or, or_false, false_or, not_true, not_false_eq_true, Nat.reduceAdd, Nat.reduceMul, Nat.reduceLT, Nat.reduceLeDiff, Nat.reduceEqDiff, ↓reduceIte, ZQ, Bool.true_eq_false, Bool.false_eq_true, Bool.not_true, Bool.not_false]
    generalize zsI h (zu (zI h) 28 1 (nI 0)) = h0 at p0 t0
    refine wloop (fun k y => y.1 = lN (wst M n i k).2 ∧ (∃ j, y.2.1 = nI j ∧ stt (LL M) j (wst M n i k).1) ∧ y.2.2.1 = nI (n - k) ∧ zfr [28, 29] h y.2.2.2 ∧ txC k (fun j => 97 + wlt M n i j) y.2.2.2) n (fun k y self hk hy ih => ?_) (show n < 100000 by omega) ⟨rfl, ⟨j0, rfl, st0⟩, rfl, p0, t0, fun i hi => by omega⟩
    obtain ⟨x6, x8, x9, h1⟩ := y
    obtain ⟨rfl, ⟨j, rfl, st⟩, rfl, p1, t1⟩ := hy
    dsimp only at p1 t1
    have hs1 := p1.shp hs
    have au1 : aut 37 M h1 := subOK.fr p1 (by decide) (by decide) (by decide) (by decide) (by decide) au
    have ct1 : ctab M n h1 := ct.fr p1 (by decide) (by decide)
    obtain ⟨w1, w2⟩ := wst_ok hi k hk
    show wp (kX9_spell_17 49 37 28 self (lN (wst M n i k).2) (nI j) (nI (n - k)) h1) _
    unfold kX9_spell_17
    by_cases hlt : k < n
    · have e : n - k = (n - 1 - k) + 1 := by omega
      have wb := wc_lt M (k := n - k) (by omega) (wst M n i k).1
      rw [e] at w1 wb
      obtain ⟨l1, l2, l3⟩ := plt_ok w1
      have hp : wlt M n i k = plt M (n - 1 - k) (wst M n i k).1 (wst M n i k).2 := rfl
      rw [← hp] at l1 l2 l3
      have es : wst M n i (k + 1) = (ims M (wst M n i k).1 (wlt M n i k), (wst M n i k).2 - wsum M (n - 1 - k) (wst M n i k).1 (wlt M n i k)) := rfl
      generalize hS : (wst M n i k).1 = S at st w1 w2 l1 l2 l3 es wb
      generalize hR : (wst M n i k).2 = r at w1 l2 l3 es
      generalize hP : wlt M n i k = p at l1 l2 l3 es
      rw [if_neg (nI_nle (by omega) (by omega))]
      refine wloop (fun l y => y.1 = lN (r - wsum M (n - 1 - k) S l) ∧ y.2.1 = nI l ∧ y.2.2 = h1) p (fun l y self2 hl hy ih2 => ?_) (show p < 100000 by omega) ⟨by rw [show wsum M (n - 1 - k) S 0 = 0 from rfl, Nat.sub_zero], rfl, rfl⟩
      obtain ⟨z, y, h2⟩ := y
      obtain ⟨rfl, rfl, rfl⟩ := hy
      obtain ⟨ja, ea, sa⟩ := after_ok (sub37 hs1) au1 gd (fun l => ims_0 l) st (show l < 4 by omega)
      have ec := count_ok (k := n - k - 1) hs1 ct1 hn sa (by omega)
      have ek : n - k - 1 = n - 1 - k := by omega
      rw [ek] at ec
      have cb := wc_lt M (k := n - 1 - k) (by omega) (ims M S l)
      have hm1 := wsum_mono (M := M) (m := n - 1 - k) (S := S) p hl
      show wp (kX9_spell_25 self 49 37 28 (nI j) (nI (n - k)) self2 (lN (r - wsum M (n - 1 - k) S l)) (nI l) h2) _
      unfold kX9_spell_25 bX9_spell_88
      have hwst := wsum_step M (n - 1 - k) S l
      by_cases hlp : l < p
      · have hm2 := wsum_mono (M := M) (m := n - 1 - k) (S := S) p (show l + 1 ≤ p by omega)
        have hge : wc M (n - 1 - k) (ims M S l) ≤ r - wsum M (n - 1 - k) S l := by omega
        have el : r - wsum M (n - 1 - k) S l - wc M (n - 1 - k) (ims M S l) = r - wsum M (n - 1 - k) S (l + 1) := by omega
        simp (disch := omega) only [show ¬ (4 ≤ l) by omega, ea, ek, ec, lcmp_ge, eq_true hge, lsub hge, el, SC (hs1), zl_eq, bsm, ZS, ZT, ZN, ZU, eq_self, true_and, and_true, and_self, or_true, true_or, or_false, false_or, not_true, not_false_eq_true, Nat.reduceAdd, Nat.reduceMul, Nat.reduceLT, Nat.reduceLeDiff, Nat.reduceEqDiff, ↓reduceIte, ZQ, Bool.true_eq_false, Bool.false_eq_true, Bool.not_true, Bool.not_false]
        exact ih2 _ hlp ⟨rfl, rfl, rfl⟩
      · have hlp' : l = p := by omega
        subst hlp'
        have hge : ¬ wc M (n - 1 - k) (ims M S l) ≤ r - wsum M (n - 1 - k) S l := by omega
        obtain ⟨h3, e3, p3, t3⟩ := addLC hs1 t1 (by omega) (l := l) (by omega)
        simp (disch := omega) only [show ¬ (4 ≤ l) by omega, ea, ek, ec, lcmp_ge, eq_false hge, e3, SC (hs1), zl_eq, bsm, ZS, ZT, ZN, ZU, eq_self, true_and, and_true, and_self, or_true, true_or, or_false, false_or, not_true, not_false_eq_true, Nat.reduceAdd, Nat.reduceMul, Nat.reduceLT, Nat.reduceLeDiff, Nat.reduceEqDiff, ↓reduceIte, ZQ, Bool.true_eq_false, Bool.false_eq_true, Bool.not_true, Bool.not_false]
        rw [e, pk_m1]
        refine ih _ hlt ⟨?_, ⟨ja, rfl, ?_⟩, ?_, p1.same p3, t3.cong (fun j' hj' => ?_)⟩
        · rw [es]
        · rw [es]; exact sa
        · dsimp only; congr 1; omega
        · unfold upM
          by_cases ee : j' = k
          · rw [if_pos ee, ee, hP]
          · rw [if_neg ee]
    · have hkn : k = n := by omega
      subst hkn
      rw [Nat.sub_self, if_pos (by decide)]
      exact wp_some ⟨p1, t1⟩
  exact key
theorem wlt_lt {M : Nat → Nat} {n i : Nat} (hi : i < wc M n (ess M)) {k : Nat} (hk : k < n) : wlt M n i k < 4 := by
  have w1 := (wst_ok hi k (by omega)).1
  rw [show n - k = (n - 1 - k) + 1 by omega] at w1
  exact (plt_ok w1).1
/-- the reference spells the same word -/
theorem spellR {h : ZH} {M : Nat → Nat} {n i : Nat} (hs : Sh h) (pr : prep M h) (wtb : wtab M n h) (hn : n ≤ 30) (hi : i < wc M n (ess M)) : wp (zloop (lX11_writeWord_70 117 (nI n)) zfu (nI (ess M), lN i, nI 0, h)) (fun r => r.1 = nI n ∧ zfr [125, 117, 124] h r.2 ∧ (∀ k, k ≠ 10 → k ≠ 12 → zI r.2 117 k = zI h 117 k) ∧ txR n (fun j => 97 + wlt M n i j) r.2) := by
  have p63 : (2 : Nat) ^ 61 < 2 ^ 63 := by decide
  refine wloop (fun k y => y.1 = nI (wst M n i k).1 ∧ y.2.1 = lN (wst M n i k).2 ∧ y.2.2.1 = nI k ∧ zfr [125] h y.2.2.2 ∧ vI y.2.2.2 125 k (wlt M n i)) n (fun k y self hk hy ih => ?_) (show n < 100000 by omega) ⟨rfl, rfl, rfl, zfr.refl h, fun j hj => by omega⟩
  obtain ⟨x5, x6, x8, h1⟩ := y
  obtain ⟨rfl, rfl, rfl, p1, t1⟩ := hy
  dsimp only at p1 t1
  have hs1 := p1.shp hs
  have pr1 := pr.fr p1 (by decide) (by rw [p1.I (by decide)])
  have wt1 : wtab M n h1 := fun k hk S hS => by rw [p1.J (by decide)]; exact wtb k hk S hS
  obtain ⟨w1, w2⟩ := wst_ok hi k hk
  show wp (kX11_writeWord_70 117 (nI n) self (nI (wst M n i k).1) (lN (wst M n i k).2) (nI k) h1) _
  unfold kX11_writeWord_70
  by_cases hlt : k < n
  · have e : n - k = (n - 1 - k) + 1 := by omega
    have wb := wc_lt M (k := n - k) (by omega) (wst M n i k).1
    rw [e] at w1 wb
    obtain ⟨l1, l2, l3⟩ := plt_ok w1
    have hp : wlt M n i k = plt M (n - 1 - k) (wst M n i k).1 (wst M n i k).2 := rfl
    rw [← hp] at l1 l2 l3
    have es : wst M n i (k + 1) = (ims M (wst M n i k).1 (wlt M n i k), (wst M n i k).2 - wsum M (n - 1 - k) (wst M n i k).1 (wlt M n i k)) := rfl
    generalize hS : (wst M n i k).1 = S at w1 w2 l1 l2 l3 es wb
    generalize hR : (wst M n i k).2 = r at w1 l2 l3 es
    generalize hP : wlt M n i k = p at l1 l2 l3 es
    have c0 := pr1.2 S w2 0 (by decide)
    rw [Nat.add_zero] at c0
    have d0 := wt1 (n - 1 - k) (by omega) _ (ims_lt (M := M) (S := S) (l := 0) (by decide))
    have i0 := ims_lt (M := M) (S := S) (l := 0) (by decide)
    simp (disch := omega) only [show ¬ (n ≤ k) by omega, c0, d0, SR (hs1), zl_eq, bsm, ZS, ZT, ZN, ZU, eq_self, true_and, and_true, and_self, or_true, true_or, or_false, false_or, not_true, not_false_eq_true, Nat.reduceAdd, Nat.reduceMul, Nat.reduceLT, Nat.reduceLeDiff, Nat.reduceEqDiff, ↓reduceIte, ZQ, Bool.true_eq_false, Bool.false_eq_true, Bool.not_true, Bool.not_false]
    refine wloop (fun l y => y.1 = lN (r - wsum M (n - 1 - k) S l) ∧ y.2.1 = nI l ∧ y.2.2.1 = lN (wc M (n - 1 - k) (ims M S l)) ∧ y.2.2.2 = h1) p (fun l y self2 hl hy ih2 => ?_) (show p < 100000 by omega) ⟨by rw [show wsum M (n - 1 - k) S 0 = 0 from rfl, Nat.sub_zero], rfl, rfl, rfl⟩
    obtain ⟨z, y, zz, h2⟩ := y
    obtain ⟨rfl, rfl, rfl, rfl⟩ := hy
    have cb := wc_lt M (k := n - 1 - k) (by omega) (ims M S l)
    have hm1 := wsum_mono (M := M) (m := n - 1 - k) (S := S) p hl
    have hwst := wsum_step M (n - 1 - k) S l
    show wp (kX11_writeWord_106 self 117 (nI n) (nI S) (nI k) self2 (lN (r - wsum M (n - 1 - k) S l)) (nI l) (lN (wc M (n - 1 - k) (ims M S l))) h2) _
    unfold kX11_writeWord_106
    by_cases hlp : l < p
    · have hm2 := wsum_mono (M := M) (m := n - 1 - k) (S := S) p (show l + 1 ≤ p by omega)
      have hge : wc M (n - 1 - k) (ims M S l) ≤ r - wsum M (n - 1 - k) S l := by omega
      have hnl : ¬ r - wsum M (n - 1 - k) S l < wc M (n - 1 - k) (ims M S l) := by omega
      have el : r - wsum M (n - 1 - k) S l - wc M (n - 1 - k) (ims M S l) = r - wsum M (n - 1 - k) S (l + 1) := by omega
      have c1 := pr1.2 S w2 (l + 1) (by omega)
      have d1 := wt1 (n - 1 - k) (by omega) _ (ims_lt (M := M) (S := S) (l := l + 1) (by omega))
      have i1 := ims_lt (M := M) (S := S) (l := l + 1) (by omega)
      simp (disch := omega) only [lcmp_lt, eq_false hnl, lsub hge, el, c1, d1, SR (hs1), zl_eq, bsm, ZS, ZT, ZN, ZU, eq_self, true_and, and_true, and_self, or_true, true_or, or_false, false_or, not_true, not_false_eq_true, Nat.reduceAdd, Nat.reduceMul, Nat.reduceLT, Nat.reduceLeDiff, Nat.reduceEqDiff, ↓reduceIte, ZQ, Bool.true_eq_false, Bool.false_eq_true, Bool.not_true, Bool.not_false]
      exact ih2 _ hlp ⟨rfl, rfl, rfl, rfl⟩
    · have hlp' : l = p := by omega
      subst hlp'
      have hl2 : r - wsum M (n - 1 - k) S l < wc M (n - 1 - k) (ims M S l) := by omega
      have c1 := pr1.2 S w2 l (by omega)
      simp (disch := omega) only [lcmp_lt, eq_true hl2, c1, SR (hs1), zl_eq, bsm, ZS, ZT, ZN, ZU, eq_self, true_and, and_true, and_self, or_true, true_or, or_false, false_or, not_true, not_false_eq_true, Nat.reduceAdd, Nat.reduceMul, Nat.reduceLT, Nat.reduceLeDiff, Nat.reduceEqDiff, ↓reduceIte, ZQ, Bool.true_eq_false, Bool.false_eq_true, Bool.not_true, Bool.not_false]
      refine ih _ hlt ⟨by rw [es], by rw [es], rfl, p1.same zfr_uI, fun j hj => ?_⟩
      dsimp only [zI_zsI]
      rw [zu_at]
      by_cases ee : j = k
      · rw [if_pos ee, ee, hP]
      · rw [if_neg ee]; exact t1 j (by omega)
  · have hkn : k = n := by omega
    subst hkn
    have p2 : zfr [117] h1 (zsI h1 (zu (zI h1) 117 12 (nI k))) := zfr_uI
    obtain ⟨h2, e2, p3, k3, t3⟩ := writeOut_ok (n := k) (w := wlt M k i) (p2.shp hs1) (by omega) (by dsimp only [zI_zsI]; rw [zu_at, if_pos rfl]) (fun j hj => by rw [p2.I (by decide)]; exact t1 j hj)
    simp (disch := omega) only [Nat.le_refl, e2, SR (hs1), zl_eq, bsm, ZS, ZT, ZN, ZU, eq_self, true_and, and_true, and_self, or_true, true_or, or_false, false_or, not_true, not_false_eq_true, Nat.reduceAdd, Nat.reduceMul, Nat.reduceLT, Nat.reduceLeDiff, Nat.reduceEqDiff, ↓reduceIte, ZQ, Bool.true_eq_false, Bool.false_eq_true, Bool.not_true, Bool.not_false]
    refine wp_some ⟨rfl, ((p1.trans p2).trans p3).mono (by decide), fun j h10 h12 => ?_, t3⟩
    rw [k3 j h10]
    dsimp only [zI_zsI]
    rw [zu_at, if_neg h12, p1.I (by decide)]
theorem c_writeWord (a1 : Int32) (a2 : Int32) (a3 : Int64) : Ok2 (fX10_writeWord 0 a1 a2 a3) (fX11_writeWord 117 a1 a2 a3) := by
  refine Ok2.of (fun h G n c hI => ?_)
  have hs := hI.1
  rcases cSlot a1 with b | ⟨s, h6, rfl⟩
  · refine Ok2.same hI (r := -2) ?_ ?_
    · simp (disch := omega) only [fX10_writeWord, bX10_writeWord_17, fun q => (b q).1, SC (hs), zl_eq, bsm, ZS, ZT, ZN, ZU, eq_self, true_and, and_true, and_self, or_true, true_or, or_false, false_or, not_true, not_false_eq_true, Nat.reduceAdd, Nat.reduceMul, Nat.reduceLT, Nat.reduceLeDiff, Nat.reduceEqDiff, ↓reduceIte, ZQ, Bool.true_eq_false, Bool.false_eq_true, Bool.not_true, Bool.not_false]
    · simp (disch := omega) only [fX11_writeWord, bX11_writeWord_17, fun q => (b q).2, SR (hs), zl_eq, bsm, ZS, ZT, ZN, ZU, eq_self, true_and, and_true, and_self, or_true, true_or, or_false, false_or, not_true, not_false_eq_true, Nat.reduceAdd, Nat.reduceMul, Nat.reduceLT, Nat.reduceLeDiff, Nat.reduceEqDiff, ↓reduceIte, ZQ, Bool.true_eq_false, Bool.false_eq_true, Bool.not_true, Bool.not_false]
  rcases cIn a2 (lo := 0) (hi := 30) (by decide) (by decide) with b | ⟨m, -, hm, rfl⟩
  · refine Ok2.same hI (r := -2) ?_ ?_
    · simp (disch := omega) only [fX10_writeWord, bX10_writeWord_17, fun q => (b q).1, SC (hs), zl_eq, bsm, ZS, ZT, ZN, ZU, eq_self, true_and, and_true, and_self, or_true, true_or, or_false, false_or, not_true, not_false_eq_true, Nat.reduceAdd, Nat.reduceMul, Nat.reduceLT, Nat.reduceLeDiff, Nat.reduceEqDiff, ↓reduceIte, ZQ, Bool.true_eq_false, Bool.false_eq_true, Bool.not_true, Bool.not_false]
    · simp (disch := omega) only [fX11_writeWord, bX11_writeWord_17, fun q => (b q).2, SR (hs), zl_eq, bsm, ZS, ZT, ZN, ZU, eq_self, true_and, and_true, and_self, or_true, true_or, or_false, false_or, not_true, not_false_eq_true, Nat.reduceAdd, Nat.reduceMul, Nat.reduceLT, Nat.reduceLeDiff, Nat.reduceEqDiff, ↓reduceIte, ZQ, Bool.true_eq_false, Bool.false_eq_true, Bool.not_true, Bool.not_false]
  have p63 : (2 : Nat) ^ 61 < 2 ^ 63 := by decide
  obtain ⟨h1, e1, p1, au, ct⟩ := countWords_ok hI h6 hm (hxN hm)
  have g1 := hI.fr (fqS p1)
  have he := ess_lt (G s)
  have tt := total_okC g1.1 ct hm (Nat.le_refl m)
  have wb := wc_lt (G s) hm (ess (G s))
  have c0 : (lg_cmp a3 (lN 0) < 0) = (a3 < 0) := by
    apply propext
    unfold lg_cmp
    rw [show lN 0 = (0 : Int64) from rfl]
    have z0 : (0 : Int64).toInt = 0 := by decide
    by_cases hx : a3 < 0
    · have x1 : ¬ 0 < a3 := fun q => by
        rw [Int64.lt_iff_toInt_lt] at hx q
        omega
      have x2 : ¬ a3 = 0 := fun q => by
        rw [Int64.lt_iff_toInt_lt, q] at hx
        omega
      simp [hx, x1, x2]
    · by_cases h0 : a3 = 0
      · simp [h0]
      · have x1 : 0 < a3 := by
          have x3 : a3.toInt ≠ 0 := fun q => h0 (Int64.toInt_inj.mp (q.trans z0.symm))
          rw [Int64.lt_iff_toInt_lt] at hx ⊢
          omega
        simp [hx, x1]
  by_cases hneg : a3 < 0
  · obtain ⟨h2, h3, e2, e3, f3, -, pr, wt⟩ := tables_ok g1.1 g1.2.1.rr h6 hm
    have g3 := g1.fr f3
    refine ⟨-1, (-1, h1), ?_, rfl, wp_eq (a := (-1, h3)) ?_ ⟨rfl, G, n, c, g3⟩⟩
    · unfold fX10_writeWord bX10_writeWord_50
      simp (disch := omega) only [e1, c0, eq_true hneg, SC (hs), zl_eq, bsm, ZS, ZT, ZN, ZU, eq_self, true_and, and_true, and_self, or_true, true_or, or_false, false_or, not_true, not_false_eq_true, Nat.reduceAdd, Nat.reduceMul, Nat.reduceLT, Nat.reduceLeDiff, Nat.reduceEqDiff, ↓reduceIte, ZQ, Bool.true_eq_false, Bool.false_eq_true, Bool.not_true, Bool.not_false]
    · unfold fX11_writeWord bX11_writeWord_56
      simp (disch := omega) only [e2, e3, c0, eq_true hneg, SR (g1.1), zl_eq, bsm, ZS, ZT, ZN, ZU, eq_self, true_and, and_true, and_self, or_true, true_or, or_false, false_or, not_true, not_false_eq_true, Nat.reduceAdd, Nat.reduceMul, Nat.reduceLT, Nat.reduceLeDiff, Nat.reduceEqDiff, ↓reduceIte, ZQ, Bool.true_eq_false, Bool.false_eq_true, Bool.not_true, Bool.not_false]
  · obtain ⟨i, hi63, rfl⟩ := pk_lOf hneg
    by_cases hlt : i < wc (G s) m (ess (G s))
    · obtain ⟨h2, e2, p2, t2⟩ := spell_ok g1.1 au ct hm hlt
      have x2 := g1.x.fr (fx28 p2)
      obtain ⟨h3, h4, e3, e4, f4, p4, pr, wt⟩ := tables_ok x2.1 x2.2.1.rr h6 hm
      have x4 := x2.fr f4.fx
      have sp := spellR x4.1 pr wt hm hlt
      refine ⟨nI m, (nI m, h2), ?_, rfl, ?_⟩
      · unfold fX10_writeWord
        simp (disch := omega) only [e1, c0, eq_false hneg, SC (hs), zl_eq, bsm, ZS, ZT, ZN, ZU, eq_self, true_and, and_true, and_self, or_true, true_or, or_false, false_or, not_true, not_false_eq_true, Nat.reduceAdd, Nat.reduceMul, Nat.reduceLT, Nat.reduceLeDiff, Nat.reduceEqDiff, ↓reduceIte, ZQ, Bool.true_eq_false, Bool.false_eq_true, Bool.not_true, Bool.not_false]
        simp (disch := omega) only [tt, lcmp_lt, eq_true hlt, SC (g1.1), zl_eq, bsm, ZS, ZT, ZN, ZU, eq_self, true_and, and_true, and_self, or_true, true_or, or_false, false_or, not_true, not_false_eq_true, Nat.reduceAdd, Nat.reduceMul, Nat.reduceLT, Nat.reduceLeDiff, Nat.reduceEqDiff, ↓reduceIte, ZQ, Bool.true_eq_false, Bool.false_eq_true, Bool.not_true, Bool.not_false]
        rw [e2, bsm]
      · dsimp only
        unfold fX11_writeWord
        simp (disch := omega) only [e3, e4, c0, eq_false hneg, SR (x2.1), zl_eq, bsm, ZS, ZT, ZN, ZU, eq_self, true_and, and_true, and_self, or_true, true_or, or_false, false_or, not_true, not_false_eq_true, Nat.reduceAdd, Nat.reduceMul, Nat.reduceLT, Nat.reduceLeDiff, Nat.reduceEqDiff, ↓reduceIte, ZQ, Bool.true_eq_false, Bool.false_eq_true, Bool.not_true, Bool.not_false]
        simp (disch := omega) only [pr.1, wt m (Nat.le_refl m) _ he, lcmp_lt, eq_true hlt, SR (x4.1), zl_eq, bsm, ZS, ZT, ZN, ZU, eq_self, true_and, and_true, and_self, or_true, true_or, or_false, false_or, not_true, not_false_eq_true, Nat.reduceAdd, Nat.reduceMul, Nat.reduceLT, Nat.reduceLeDiff, Nat.reduceEqDiff, ↓reduceIte, ZQ, Bool.true_eq_false, Bool.false_eq_true, Bool.not_true, Bool.not_false]
        refine wp_mono sp ?_
        rintro ⟨r, h5⟩ ⟨hr, p5, k5, t5⟩
        dsimp only at hr p5 k5 t5 ⊢
        have x5 := x4.fr ⟨p5.mono (by decide), fun k hk => k5 k (by omega) (by omega)⟩
        refine ⟨hr, G, n, c, x5.g (iOut.mk (by omega) (fun j hj => ?_) ((t2.fr p4 (by decide) (by decide)).fr p5 (by decide) (by decide)) t5)⟩
        have := wlt_lt hlt hj
        omega
    · obtain ⟨h2, h3, e2, e3, f3, -, pr, wt⟩ := tables_ok g1.1 g1.2.1.rr h6 hm
      have g3 := g1.fr f3
      refine ⟨-1, (-1, h1), ?_, rfl, wp_eq (a := (-1, h3)) ?_ ⟨rfl, G, n, c, g3⟩⟩
      · unfold fX10_writeWord bX10_writeWord_50
        simp (disch := omega) only [e1, c0, eq_false hneg, SC (hs), zl_eq, bsm, ZS, ZT, ZN, ZU, eq_self, true_and, and_true, and_self, or_true, true_or, or_false, false_or, not_true, not_false_eq_true, Nat.reduceAdd, Nat.reduceMul, Nat.reduceLT, Nat.reduceLeDiff, Nat.reduceEqDiff, ↓reduceIte, ZQ, Bool.true_eq_false, Bool.false_eq_true, Bool.not_true, Bool.not_false]
        simp (disch := omega) only [tt, lcmp_lt, eq_false hlt, SC (g1.1), zl_eq, bsm, ZS, ZT, ZN, ZU, eq_self, true_and, and_true, and_self, or_true, true_or, or_false, false_or, not_true, not_false_eq_true, Nat.reduceAdd, Nat.reduceMul, Nat.reduceLT, Nat.reduceLeDiff, Nat.reduceEqDiff, ↓reduceIte, ZQ, Bool.true_eq_false, Bool.false_eq_true, Bool.not_true, Bool.not_false]
      · unfold fX11_writeWord bX11_writeWord_56
        simp (disch := omega) only [e2, e3, c0, eq_false hneg, SR (g1.1), zl_eq, bsm, ZS, ZT, ZN, ZU, eq_self, true_and, and_true, and_self, or_true, true_or, or_false, false_or, not_true, not_false_eq_true, Nat.reduceAdd, Nat.reduceMul, Nat.reduceLT, Nat.reduceLeDiff, Nat.reduceEqDiff, ↓reduceIte, ZQ, Bool.true_eq_false, Bool.false_eq_true, Bool.not_true, Bool.not_false]
        simp (disch := omega) only [pr.1, wt m (Nat.le_refl m) _ he, lcmp_lt, eq_false hlt, SR (g3.1), zl_eq, bsm, ZS, ZT, ZN, ZU, eq_self, true_and, and_true, and_self, or_true, true_or, or_false, false_or, not_true, not_false_eq_true, Nat.reduceAdd, Nat.reduceMul, Nat.reduceLT, Nat.reduceLeDiff, Nat.reduceEqDiff, ↓reduceIte, ZQ, Bool.true_eq_false, Bool.false_eq_true, Bool.not_true, Bool.not_false]
