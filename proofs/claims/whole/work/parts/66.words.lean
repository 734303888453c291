/-! CALLS: words, growth -/
theorem bq_core (M : Nat → Nat) (t : Nat) : bq (fo (coreM M)) (ess M) t = bq (ims M) (ess M) t ∧ ∀ S ∈ (bq (ims M) (ess M) t).1, sb S (ess M) := by
  induction t with
  | zero =>
    refine ⟨rfl, fun S hS => ?_⟩
    rw [bq] at hS
    unfold noteL at hS
    by_cases e : ess M = 0 ∨ ess M ∈ ([] : List Nat)
    · rw [if_pos e] at hS; cases hS
    · rw [if_neg e] at hS
      rw [List.nil_append] at hS
      rw [List.mem_singleton.mp hS]; exact sb_rfl _
  | succ t ih =>
    obtain ⟨h1, h2⟩ := ih
    rw [bq, bq, h1]
    by_cases e : t / 4 < (bq (ims M) (ess M) t).1.length
    · rw [if_pos e, if_pos e]
      have hS := h2 _ (List.mem_of_getElem? (getD_get e))
      rw [ims_in hS]
      refine ⟨rfl, fun S hS' => ?_⟩
      unfold noteL at hS'
      split at hS'
      · exact h2 S hS'
      · rcases List.mem_append.mp hS' with q | q
        · exact h2 S q
        · rw [List.mem_singleton.mp q]; exact fo_core_sb _ (Nat.mod_lt _ (by decide))
    · rw [if_neg e, if_neg e]; exact ⟨rfl, h2⟩
/-- the states of a graph's automaton, in their order -/
noncomputable def LL (M : Nat → Nat) : List Nat := (BQ (ims M) (ess M)).1
theorem LL_good (M : Nat → Nat) : good (BQ (ims M) (ess M)).1 := by
  rw [BQ_eq]
  exact bq_good (ess_lt M) (fun S l hl => ims_lt hl) 1020
theorem LL_sb {M : Nat → Nat} {S : Nat} (h : S ∈ LL M) : sb S (ess M) := by
  unfold LL at h
  rw [BQ_eq] at h
  exact (bq_core M 1020).2 S h
/-- an automaton that stands for a graph -/
def aut (x : Nat) (M : Nat → Nat) (h : ZH) : Prop := subOK x (ims M) (ess M) h
theorem aut_of {x : Nat} {M : Nat → Nat} {h : ZH} (g : subOK x (fo (coreM M)) (ess (coreM M)) h) : aut x M h := by
  rw [ess_core] at g
  have e : BQ (fo (coreM M)) (ess M) = BQ (ims M) (ess M) := by rw [BQ_eq, BQ_eq, (bq_core M 1020).1]
  refine ⟨by rw [← e]; exact g.1, fun i S hS l hl => ?_⟩
  have := g.2 i S (by rw [e]; exact hS) l hl
  rw [e, ← ims_in (LL_sb (List.mem_of_getElem? hS))] at this
  exact this
theorem load_ok {h : ZH} {G : Nat → Nat → Nat} {n : Nat} {c : Nat → Nat} (hI : INVg G n c h) {s : Nat} (h6 : s < 6) : ∃ h', fX10_loadSubsets 0 (81 + 4 * s) h = some h' ∧ zfr [34, 37, 38, 39, 40, 41] h h' ∧ aut 37 (G s) h' ∧ hasM h' 34 (coreM (G s)) := by
  have hs := hI.1
  obtain ⟨h1, e1, p1, q1⟩ := trim_ok hI h6
  have hs1 := p1.shp hs
  obtain ⟨h2, e2, p2, q2⟩ := build_ok (sub37 hs1) (g33 hs1) q1 (by decide)
  refine ⟨h2, ?_, (p1.trans p2).mono (by decide), aut_of q2, p2.hasM (by decide) q1⟩
  unfold fX10_loadSubsets
  simp (disch := omega) only [SC (hs), zl_eq, bsm, ZS, ZT, ZN, ZU, eq_self, true_and, and_true, and_self, or_true, true_or, or_false, false_or, not_true, not_false_eq_true, Nat.reduceAdd, Nat.reduceMul, Nat.reduceLT, Nat.reduceLeDiff, Nat.reduceEqDiff, ↓reduceIte, ZQ, Bool.true_eq_false, Bool.false_eq_true, Bool.not_true, Bool.not_false]
  rw [e1, bsm]
  simp (disch := omega) only [SC (hs1), zl_eq, bsm, ZS, ZT, ZN, ZU, eq_self, true_and, and_true, and_self, or_true, true_or, or_false, false_or, not_true, not_false_eq_true, Nat.reduceAdd, Nat.reduceMul, Nat.reduceLT, Nat.reduceLeDiff, Nat.reduceEqDiff, ↓reduceIte, ZQ, Bool.true_eq_false, Bool.false_eq_true, Bool.not_true, Bool.not_false]
  rw [e2, bsm]
def SCR1 : List Nat := [34, 37, 38, 39, 40, 41, 49, 50]
theorem fqS {h h' : ZH} (p : zfr SCR1 h h') : fq h h' := fq.of p (by decide) (by decide)
section WD
variable {h : ZH} {M : Nat → Nat} {n : Nat}
def ctab (M : Nat → Nat) (n : Nat) (h : ZH) : Prop := (∃ j, zI h 49 1 = nI j ∧ stt (LL M) j (ess M)) ∧ ∀ k, k ≤ n → ∀ i S, (LL M)[i]? = some S → zJ h 50 (256 * k + i) = lN (wc M k S)
theorem ctab.fr {h' : ZH} {A : List Nat} (p : zfr A h h') (h1 : 49 ∉ A) (h2 : 50 ∉ A) (g : ctab M n h) : ctab M n h' := by
  unfold ctab at g ⊢
  rw [p.I h1, p.J h2]
  exact g
theorem count_ok (hs : Sh h) (ct : ctab M n h) (hn : n ≤ 30) {j S k : Nat} (hj : stt (LL M) j S) (hk : k ≤ n) : fX9_count 49 (nI j) (nI k) h = some (lN (wc M k S), h) := by
  have hl : (LL M).length ≤ 255 := (LL_good M).len
  rcases hj with ⟨e, rfl⟩ | hj
  · subst e
    rw [wc_0]
    simp (disch := omega) only [fX9_count, bX9_count_25, bX9_count_26, bX9_count_47, show 255 ≤ 255 by decide, SC (hs), zl_eq, bsm, ZS, ZT, ZN, ZU, eq_self, true_and, and_true, and_self, or_true, true_or, or_false, false_or, not_true, not_false_eq_true, Nat.reduceAdd, Nat.reduceMul, Nat.reduceLT, Nat.reduceLeDiff, Nat.reduceEqDiff, ↓reduceIte, ZQ, Bool.true_eq_false, Bool.false_eq_true, Bool.not_true, Bool.not_false]
  · have hjl := (List.getElem?_eq_some_iff.mp hj).1
    have e1 := ct.2 k hk j S hj
    simp (disch := omega) only [fX9_count, bX9_count_25, bX9_count_26, bX9_count_47, show ¬ (255 ≤ j) by omega, show ¬ (30 < k) by omega, e1, SC (hs), zl_eq, bsm, ZS, ZT, ZN, ZU, eq_self, true_and, and_true, and_self, or_true, true_or, or_false, false_or, not_true, not_false_eq_true, Nat.reduceAdd, Nat.reduceMul, Nat.reduceLT, Nat.reduceLeDiff, Nat.reduceEqDiff, ↓reduceIte, ZQ, Bool.true_eq_false, Bool.false_eq_true, Bool.not_true, Bool.not_false]
theorem total_okC (hs : Sh h) (ct : ctab M n h) (hn : n ≤ 30) {k : Nat} (hk : k ≤ n) : fX9_total 49 (nI k) h = some (lN (wc M k (ess M)), h) := by
  obtain ⟨j, e, st⟩ := ct.1
  have e2 := count_ok hs ct hn st hk
  simp (disch := omega) only [fX9_total, e, e2, SC (hs), zl_eq, bsm, ZS, ZT, ZN, ZU, eq_self, true_and, and_true, and_self, or_true, true_or, or_false, false_or, not_true, not_false_eq_true, Nat.reduceAdd, Nat.reduceMul, Nat.reduceLT, Nat.reduceLeDiff, Nat.reduceEqDiff, ↓reduceIte, ZQ, Bool.true_eq_false, Bool.false_eq_true, Bool.not_true, Bool.not_false]
theorem fill_ok {x2 : Int32} (hs : Sh h) (au : aut 37 M h) (hn : n ≤ 30) (hx : ∀ k, 1 ≤ k → k ≤ 31 → (x2 < nI k ↔ n < k)) : ∃ h', fX9_fill 49 37 x2 h = some h' ∧ zfr [49, 50] h h' ∧ ctab M n h' := by
  have gd := LL_good M
  have hl : (LL M).length ≤ 255 := gd.len
  have key : wp (fX9_fill 49 37 x2 h) (fun h' => zfr [49, 50] h h' ∧ ctab M n h') := by
    obtain ⟨j0, es, st0⟩ := start_ok (sub37 hs) au gd
    unfold fX9_fill
    simp (disch := omega) only [es, SC (hs), zl_eq, bsm, ZS, ZT, ZN, ZU, eq_self, true_and, and_true, and_self, or_true, true_or, or_false, false_or, not_true, not_false_eq_true, Nat.reduceAdd, Nat.reduceMul, Nat.reduceLT, Nat.reduceLeDiff, Nat.reduceEqDiff, ↓reduceIte, ZQ, Bool.true_eq_false, Bool.false_eq_true, Bool.not_true, Bool.not_false]
    have p0 : zfr [49, 50] h (zsI h (zu (zI h) 49 1 (nI j0))) := (zfr_uI (a := 49)).mono (by decide)
    have z0 : zI (zsI h (zu (zI h) 49 1 (nI j0))) 49 1 = nI j0 := by dsimp only [zI_zsI]; rw [zu_at, if_pos rfl]
    generalize zsI h (zu (zI h) 49 1 (nI j0)) = h0 at p0 z0
    have hs0 := p0.shp hs
    refine wloop (fun i y => y.1 = nI i ∧ zfr [50] h0 y.2 ∧ ∀ t, t < i → zJ y.2 50 t = lN 1) (LL M).length (fun i y self hi hy ih => ?_) (show (LL M).length < 100000 by omega) ⟨rfl, zfr.refl h0, fun t ht => by omega⟩
    obtain ⟨y, h1⟩ := y
    obtain ⟨rfl, p1, q1⟩ := hy
    dsimp only at p1 q1
    have hs1 := p1.shp hs0
    have au1 : aut 37 M h1 := subOK.fr (p0.trans p1) (by decide) (by decide) (by decide) (by decide) (by decide) au
    have sz : fX6_size 37 h1 = some (nI (LL M).length, h1) := size_ok (sub37 hs1) au1
    show wp (kX9_fill_10 49 37 x2 self (nI i) h1) _
    unfold kX9_fill_10
    by_cases hlt : i < (LL M).length
    · simp (disch := omega) only [sz, Nat.not_le.mpr hlt, show ¬ (255 ≤ i) by omega, SC (hs1), zl_eq, bsm, ZS, ZT, ZN, ZU, eq_self, true_and, and_true, and_self, or_true, true_or, or_false, false_or, not_true, not_false_eq_true, Nat.reduceAdd, Nat.reduceMul, Nat.reduceLT, Nat.reduceLeDiff, Nat.reduceEqDiff, ↓reduceIte, ZQ, Bool.true_eq_false, Bool.false_eq_true, Bool.not_true, Bool.not_false]
      refine ih _ hlt ⟨rfl, p1.same zfr_uJ, fun t ht => ?_⟩
      dsimp only [zJ_zsJ]
      rw [zu_at]
      by_cases e : t = i
      · rw [if_pos e]
      · rw [if_neg e]; exact q1 t (by omega)
    · have hie : i = (LL M).length := by omega
      unfold bX9_fill_38
      simp (disch := omega) only [sz, hie, Nat.le_refl, SC (hs1), zl_eq, bsm, ZS, ZT, ZN, ZU, eq_self, true_and, and_true, and_self, or_true, true_or, or_false, false_or, not_true, not_false_eq_true, Nat.reduceAdd, Nat.reduceMul, Nat.reduceLT, Nat.reduceLeDiff, Nat.reduceEqDiff, ↓reduceIte, ZQ, Bool.true_eq_false, Bool.false_eq_true, Bool.not_true, Bool.not_false]
      have q0 : ∀ k, k ≤ 0 → ∀ i S, (LL M)[i]? = some S → zJ h1 50 (256 * k + i) = lN (wc M k S) := by
        intro k hk i' S hS
        have hil := (List.getElem?_eq_some_iff.mp hS).1
        have hS0 := (gd.2 S (List.mem_of_getElem? hS)).1
        rw [show k = 0 by omega, Nat.mul_zero, Nat.zero_add, q1 i' (by omega), wc, if_neg hS0]
      refine wloop (fun k y => y.1 = nI (k + 1) ∧ zfr [50] h0 y.2 ∧ ∀ k', k' ≤ k → ∀ i S, (LL M)[i]? = some S → zJ y.2 50 (256 * k' + i) = lN (wc M k' S)) n (fun k y self2 hk hy ih2 => ?_) (show n < 100000 by omega) ⟨rfl, p1, q0⟩
      obtain ⟨y, h2⟩ := y
      obtain ⟨rfl, p2, q2⟩ := hy
      dsimp only at p2 q2
      have hs2 := p2.shp hs0
      show wp (kX9_fill_40 49 37 x2 self2 (nI (k + 1)) h2) _
      unfold kX9_fill_40 bX9_fill_136
      by_cases hlt2 : k < n
      · have hxx : ¬ x2 < nI (k + 1) := fun q => by
          have := (hx (k + 1) (by omega) (by omega)).mp q
          omega
        rw [if_neg hxx, if_neg (nI_nlt (by omega) (by decide))]
        refine wloop (fun i y => y.1 = nI i ∧ zfr [50] h0 y.2 ∧ (∀ k', k' ≤ k → ∀ i S, (LL M)[i]? = some S → zJ y.2 50 (256 * k' + i) = lN (wc M k' S)) ∧ ∀ i', i' < i → ∀ S, (LL M)[i']? = some S → zJ y.2 50 (256 * (k + 1) + i') = lN (wc M (k + 1) S)) (LL M).length (fun i y self3 hi3 hy ih3 => ?_) (show (LL M).length < 100000 by omega) ⟨rfl, p2, q2, fun i' hi' => by omega⟩
        obtain ⟨y, h3⟩ := y
        obtain ⟨rfl, p3, q3, q4⟩ := hy
        dsimp only at p3 q3 q4
        have hs3 := p3.shp hs0
        have au3 : aut 37 M h3 := subOK.fr (p0.trans p3) (by decide) (by decide) (by decide) (by decide) (by decide) au
        have sz3 : fX6_size 37 h3 = some (nI (LL M).length, h3) := size_ok (sub37 hs3) au3
        have ct3 : ctab M k h3 := ⟨⟨j0, by rw [p3.I (by decide)]; exact z0, st0⟩, q3⟩
        show wp (kX9_fill_54 self2 49 37 x2 (nI (k + 1)) self3 (nI i) h3) _
        unfold kX9_fill_54 bX9_fill_130
        by_cases hlt3 : i < (LL M).length
        · have eS := getD_get hlt3
          generalize (LL M).getD i 0 = S at eS
          simp (disch := omega) only [sz3, Nat.not_le.mpr hlt3, show ¬ (255 ≤ i) by omega, SC (hs3), zl_eq, bsm, ZS, ZT, ZN, ZU, eq_self, true_and, and_true, and_self, or_true, true_or, or_false, false_or, not_true, not_false_eq_true, Nat.reduceAdd, Nat.reduceMul, Nat.reduceLT, Nat.reduceLeDiff, Nat.reduceEqDiff, ↓reduceIte, ZQ, Bool.true_eq_false, Bool.false_eq_true, Bool.not_true, Bool.not_false]
          refine wloop (fun l y => y.1 = lN (wsum M k S l) ∧ y.2.1 = nI l ∧ y.2.2 = h3) 4 (fun l y self4 hl4 hy ih4 => ?_) (by decide) ⟨rfl, rfl, rfl⟩
          obtain ⟨z, y, h4⟩ := y
          obtain ⟨rfl, rfl, rfl⟩ := hy
          show wp (kX9_fill_77 self2 self3 49 37 x2 (nI (k + 1)) (nI i) self4 (lN (wsum M k S l)) (nI l) h4) _
          unfold kX9_fill_77
          by_cases hlt4 : l < 4
          · obtain ⟨j, ea, sa⟩ := after_ok (sub37 hs3) au3 gd (fun l => ims_0 l) (Or.inr eS) hlt4
            have ec := count_ok hs3 ct3 (by omega) sa (Nat.le_refl k)
            simp (disch := omega) only [Nat.not_le.mpr hlt4, ea, Nat.add_sub_cancel, ec, lN_plus, SC (hs3), zl_eq, bsm, ZS, ZT, ZN, ZU, eq_self, true_and, and_true, and_self, or_true, true_or, or_false, false_or, not_true, not_false_eq_true, Nat.reduceAdd, Nat.reduceMul, Nat.reduceLT, Nat.reduceLeDiff, Nat.reduceEqDiff, ↓reduceIte, ZQ, Bool.true_eq_false, Bool.false_eq_true, Bool.not_true, Bool.not_false]
            exact ih4 _ hlt4 ⟨rfl, rfl, rfl⟩
          · have : l = 4 := by omega
            subst this
            simp (disch := omega) only [Nat.le_refl, SC (hs3), zl_eq, bsm, ZS, ZT, ZN, ZU, eq_self, true_and, and_true, and_self, or_true, true_or, or_false, false_or, not_true, not_false_eq_true, Nat.reduceAdd, Nat.reduceMul, Nat.reduceLT, Nat.reduceLeDiff, Nat.reduceEqDiff, ↓reduceIte, ZQ, Bool.true_eq_false, Bool.false_eq_true, Bool.not_true, Bool.not_false]
            refine ih3 _ hlt3 ⟨rfl, p3.same zfr_uJ, fun k' hk' i' T hT => ?_, fun i' hi' T hT => ?_⟩
            · have hil := (List.getElem?_eq_some_iff.mp hT).1
              dsimp only [zJ_zsJ]
              rw [zu_at, if_neg (by omega)]; exact q3 k' hk' i' T hT
            · dsimp only [zJ_zsJ]
              rw [zu_at]
              by_cases e : i' = i
              · subst e
                rw [eS] at hT
                rw [if_pos rfl, wsum4, Option.some.inj hT]
              · rw [if_neg (by omega)]; exact q4 i' (by omega) T hT
        · have hie3 : i = (LL M).length := by omega
          simp (disch := omega) only [sz3, hie3, Nat.le_refl, SC (hs3), zl_eq, bsm, ZS, ZT, ZN, ZU, eq_self, true_and, and_true, and_self, or_true, true_or, or_false, false_or, not_true, not_false_eq_true, Nat.reduceAdd, Nat.reduceMul, Nat.reduceLT, Nat.reduceLeDiff, Nat.reduceEqDiff, ↓reduceIte, ZQ, Bool.true_eq_false, Bool.false_eq_true, Bool.not_true, Bool.not_false]
          refine ih2 _ hlt2 ⟨rfl, p3, fun k' hk' i' S hS => ?_⟩
          have hil := (List.getElem?_eq_some_iff.mp hS).1
          by_cases e : k' = k + 1
          · rw [e]; exact q4 i' (by omega) S hS
          · exact q3 k' (by omega) i' S hS
      · have hkn : k = n := by omega
        rw [if_pos ((hx (k + 1) (by omega) (by omega)).mpr (by omega))]
        exact wp_some ⟨(p0.trans p2).mono (by decide), ⟨j0, by rw [p2.I (by decide)]; exact z0, st0⟩, by rw [← hkn]; exact q2⟩
  exact key
end WD
theorem hxN {n : Nat} (hn : n ≤ 30) : ∀ k, 1 ≤ k → k ≤ 31 → (nI n < nI k ↔ n < k) := fun k _ hk => nI_ltI (by omega) (by omega)
theorem countWords_ok {h : ZH} {G : Nat → Nat → Nat} {n m : Nat} {c : Nat → Nat} {x2 : Int32} (hI : INVg G n c h) {s : Nat} (h6 : s < 6) (hm : m ≤ 30) (hx : ∀ k, 1 ≤ k → k ≤ 31 → (x2 < nI k ↔ m < k)) : ∃ h', fX10_countWords 0 (81 + 4 * s) x2 h = some h' ∧ zfr SCR1 h h' ∧ aut 37 (G s) h' ∧ ctab (G s) m h' := by
  have hs := hI.1
  obtain ⟨h1, e1, p1, q1, -⟩ := load_ok hI h6
  have hs1 := p1.shp hs
  obtain ⟨h2, e2, p2, q2⟩ := fill_ok hs1 q1 hm hx
  refine ⟨h2, ?_, (p1.trans p2).mono (by decide), subOK.fr p2 (by decide) (by decide) (by decide) (by decide) (by decide) q1, q2⟩
  unfold fX10_countWords
  rw [if_pos (O0 hs), e1, bsm]
  simp (disch := omega) only [SC (hs1), zl_eq, bsm, ZS, ZT, ZN, ZU, eq_self, true_and, and_true, and_self, or_true, true_or, or_false, false_or, not_true, not_false_eq_true, Nat.reduceAdd, Nat.reduceMul, Nat.reduceLT, Nat.reduceLeDiff, Nat.reduceEqDiff, ↓reduceIte, ZQ, Bool.true_eq_false, Bool.false_eq_true, Bool.not_true, Bool.not_false]
  rw [e2, bsm]
/-- the reference's tables up to a length -/
theorem tables_ok {h : ZH} {G : Nat → Nat → Nat} {m s : Nat} (hs : Sh h) (g : rG G h) (h6 : s < 6) (hm : m ≤ 30) : ∃ h1 h2, fX11_prepare 117 (nI s) h = some h1 ∧ fX11_countTo 117 (nI m) h1 = some h2 ∧ fq h h2 ∧ zfr [126, 117, 127] h h2 ∧ prep (G s) h2 ∧ wtab (G s) m h2 := by
  obtain ⟨h1, e1, p1, k1, q1⟩ := prepare_ok hs g h6
  obtain ⟨h2, e2, p2, q2⟩ := countTo_ok (p1.shp hs) q1 hm
  refine ⟨h1, h2, e1, e2, fq.of2 (p1.trans p2) (by decide) (fun k hk => by rw [p2.I (by decide)]; exact k1 k (by omega)), p1.trans p2, q1.fr p2 (by decide) (by rw [p2.I (by decide)]), q2⟩
theorem c_words (a1 a2 : Int32) : Ok2 (fX10_words 0 a1 a2) (fX11_words 117 a1 a2) := by
  refine Ok2.of (fun h G n c hI => ?_)
  have hs := hI.1
  rcases cSlot a1 with b | ⟨s, h6, rfl⟩
  · refine Ok2.same hI (r := -2) ?_ ?_
    · simp (disch := omega) only [fX10_words, bX10_words_17, fun q => (b q).1, SC (hs), zl_eq, bsm, ZS, ZT, ZN, ZU, eq_self, true_and, and_true, and_self, or_true, true_or, or_false, false_or, not_true, not_false_eq_true, Nat.reduceAdd, Nat.reduceMul, Nat.reduceLT, Nat.reduceLeDiff, Nat.reduceEqDiff, ↓reduceIte, ZQ, Bool.true_eq_false, Bool.false_eq_true, Bool.not_true, Bool.not_false]
    · simp (disch := omega) only [fX11_words, bX11_words_17, fun q => (b q).2, SR (hs), zl_eq, bsm, ZS, ZT, ZN, ZU, eq_self, true_and, and_true, and_self, or_true, true_or, or_false, false_or, not_true, not_false_eq_true, Nat.reduceAdd, Nat.reduceMul, Nat.reduceLT, Nat.reduceLeDiff, Nat.reduceEqDiff, ↓reduceIte, ZQ, Bool.true_eq_false, Bool.false_eq_true, Bool.not_true, Bool.not_false]
  rcases cIn a2 (lo := 0) (hi := 30) (by decide) (by decide) with b | ⟨m, -, hm, rfl⟩
  · refine Ok2.same hI (r := -2) ?_ ?_
    · simp (disch := omega) only [fX10_words, bX10_words_17, fun q => (b q).1, SC (hs), zl_eq, bsm, ZS, ZT, ZN, ZU, eq_self, true_and, and_true, and_self, or_true, true_or, or_false, false_or, not_true, not_false_eq_true, Nat.reduceAdd, Nat.reduceMul, Nat.reduceLT, Nat.reduceLeDiff, Nat.reduceEqDiff, ↓reduceIte, ZQ, Bool.true_eq_false, Bool.false_eq_true, Bool.not_true, Bool.not_false]
    · simp (disch := omega) only [fX11_words, bX11_words_17, fun q => (b q).2, SR (hs), zl_eq, bsm, ZS, ZT, ZN, ZU, eq_self, true_and, and_true, and_self, or_true, true_or, or_false, false_or, not_true, not_false_eq_true, Nat.reduceAdd, Nat.reduceMul, Nat.reduceLT, Nat.reduceLeDiff, Nat.reduceEqDiff, ↓reduceIte, ZQ, Bool.true_eq_false, Bool.false_eq_true, Bool.not_true, Bool.not_false]
  obtain ⟨h1, e1, p1, -, q1⟩ := countWords_ok hI h6 hm (hxN hm)
  have g1 := hI.fr (fqS p1)
  obtain ⟨h2, h3, e2, e3, f3, -, pr, wt⟩ := tables_ok g1.1 g1.2.1.rr h6 hm
  have g3 := g1.fr f3
  have he := ess_lt (G s)
  refine ⟨lN (wc (G s) m (ess (G s))), (lN (wc (G s) m (ess (G s))), h1), ?_, rfl, wp_eq (a := (lN (wc (G s) m (ess (G s))), h3)) ?_ ⟨rfl, G, n, c, g3⟩⟩
  · unfold fX10_words
    simp (disch := omega) only [e1, SC (hs), zl_eq, bsm, ZS, ZT, ZN, ZU, eq_self, true_and, and_true, and_self, or_true, true_or, or_false, false_or, not_true, not_false_eq_true, Nat.reduceAdd, Nat.reduceMul, Nat.reduceLT, Nat.reduceLeDiff, Nat.reduceEqDiff, ↓reduceIte, ZQ, Bool.true_eq_false, Bool.false_eq_true, Bool.not_true, Bool.not_false]
    simp (disch := omega) only [total_okC g1.1 q1 hm (Nat.le_refl m), SC (g1.1), zl_eq, bsm, ZS, ZT, ZN, ZU, eq_self, true_and, and_true, and_self, or_true, true_or, or_false, false_or, not_true, not_false_eq_true, Nat.reduceAdd, Nat.reduceMul, Nat.reduceLT, Nat.reduceLeDiff, Nat.reduceEqDiff, ↓reduceIte, ZQ, Bool.true_eq_false, Bool.false_eq_true, Bool.not_true, Bool.not_false]
  · unfold fX11_words
    simp (disch := omega) only [e2, e3, SR (g1.1), zl_eq, bsm, ZS, ZT, ZN, ZU, eq_self, true_and, and_true, and_self, or_true, true_or, or_false, false_or, not_true, not_false_eq_true, Nat.reduceAdd, Nat.reduceMul, Nat.reduceLT, Nat.reduceLeDiff, Nat.reduceEqDiff, ↓reduceIte, ZQ, Bool.true_eq_false, Bool.false_eq_true, Bool.not_true, Bool.not_false]
    simp (disch := omega) only [pr.1, wt m (Nat.le_refl m) _ he, SR (g3.1), zl_eq, bsm, ZS, ZT, ZN, ZU, eq_self, true_and, and_true, and_self, or_true, true_or, or_false, false_or, not_true, not_false_eq_true, Nat.reduceAdd, Nat.reduceMul, Nat.reduceLT, Nat.reduceLeDiff, Nat.reduceEqDiff, ↓reduceIte, ZQ, Bool.true_eq_false, Bool.false_eq_true, Bool.not_true, Bool.not_false]
