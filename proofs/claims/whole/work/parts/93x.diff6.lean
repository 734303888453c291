/-! CALL: writeDifference: the object's search -/
def hcut (h0 h : ZH) : ZH := (zn h0, zs h0, zK h0, zN h0, zI h, zJ h, zF h, zR h0)
theorem pF.cut {h0 h : ZH} (f : pF h0 h) : zfr PA h0 (hcut h0 h) := ⟨⟨rfl, rfl, rfl, rfl, rfl⟩, f.2⟩
theorem pF_aut {h0 h : ZH} {M : Nat → Nat} {x : Nat} (f : pF h0 h) (hx : x = 37 ∨ x = 43) (a : aut x M h0) : aut x M h := by
  have : aut x M (hcut h0 h) := by
    rcases hx with rfl | rfl
    · exact subOK.fr f.cut (by decide) (by decide) (by decide) (by decide) (by decide) a
    · exact subOK.fr f.cut (by decide) (by decide) (by decide) (by decide) (by decide) a
  exact this
section SE
variable {M1 M2 : Nat → Nat} {h h0 : ZH}
theorem bq_s {t : Nat} (h : t / 4 < ql M1 M2 t) : bq (pd M1 M2) (256 * ess M1 + ess M2) (t + 1) = noteL (bq (pd M1 M2) (256 * ess M1 + ess M2) t) (nx M1 M2 t) t := by
  rw [bq]
  exact if_pos h
theorem bq_keep {t i : Nat} (h : t / 4 < ql M1 M2 t) (hi : i < ql M1 M2 t) : (bq (pd M1 M2) (256 * ess M1 + ess M2) (t + 1)).1.getD i 0 = (bq (pd M1 M2) (256 * ess M1 + ess M2) t).1.getD i 0 := by
  rw [bq_s h]
  unfold noteL
  split
  · rfl
  · exact getD_l hi
theorem noteStep {t k1 k2 : Nat} (hA : 256 * ess M1 + ess M2 ≠ 0) (ht : ∀ s, s < t + 1 → s / 4 < ql M1 M2 s) (ht2 : t ≤ 4 * 65536) (hd : dfB (nx M1 M2 t) = false) (st : St M1 M2 h0 t h) (s1 : stt (LL M1) k1 (nx M1 M2 t / 256)) (s2 : stt (LL M2) k2 (nx M1 M2 t % 256)) : ∃ h', fX4_note 51 (nI (256 * k1 + k2)) (nI t) h = some h' ∧ St M1 M2 h0 (t + 1) h' := by
  obtain ⟨q, g, cd, f, p, e, s, hn, c⟩ := st
  have b1 := stt255 s1
  have b2 := stt255 s2
  have hl := bq_len (t := t + 1) hA ht
  have htt := ht t (by omega)
  have bI := BI_all (d := pd M1 M2) hA t (fun s hs => ht s (by omega))
  have eb := bq_s htt
  have hlr : (bq (pd M1 M2) (256 * ess M1 + ess M2) t).2.length = ql M1 M2 t := bI.1
  have ci := cd_iff c s1 s2
  unfold dfB at hd
  by_cases h0' : nx M1 M2 t = 0
  · -- both are empty
    have e1 : k1 = 255 := b1.2.mpr (by rw [h0'])
    have e2 : k2 = 255 := b2.2.mpr (by rw [h0'])
    have ebq : bq (pd M1 M2) (256 * ess M1 + ess M2) (t + 1) = bq (pd M1 M2) (256 * ess M1 + ess M2) t := by
      rw [eb]
      unfold noteL
      rw [if_pos (Or.inl h0')]
    refine ⟨h, note_old f.1 s (Or.inl (by omega)), ?_⟩
    unfold St ql
    rw [ebq]
    exact ⟨q, g, cd, f, p, e, s, hn, c⟩
  · have hS : nx M1 M2 t / 256 ≠ 0 ∧ nx M1 M2 t % 256 ≠ 0 := by
      by_cases z1 : nx M1 M2 t / 256 = 0
      · rw [decide_eq_true z1] at hd
        have z2 : nx M1 M2 t % 256 = 0 := by
          apply Classical.byContradiction
          intro z
          rw [decide_eq_false z] at hd
          cases hd
        exact absurd (by omega) h0'
      · rw [decide_eq_false z1] at hd
        refine ⟨z1, fun z => ?_⟩
        rw [decide_eq_true z] at hd
        cases hd
    have e1 : k1 ≠ 255 := fun z => hS.1 (b1.2.mp z)
    have e2 : k2 ≠ 255 := fun z => hS.2 (b2.2.mp z)
    have hx : 256 * k1 + k2 < 65535 := by omega
    by_cases hin : nx M1 M2 t ∈ (bq (pd M1 M2) (256 * ess M1 + ess M2) t).1
    · have ebq : bq (pd M1 M2) (256 * ess M1 + ess M2) (t + 1) = bq (pd M1 M2) (256 * ess M1 + ess M2) t := by
        rw [eb]
        unfold noteL
        rw [if_pos (Or.inr hin)]
      refine ⟨h, note_old f.1 s (Or.inr ⟨hx, ci.mpr hin⟩), ?_⟩
      unfold St ql
      rw [ebq]
      exact ⟨q, g, cd, f, p, e, s, hn, c⟩
    · have ebq : bq (pd M1 M2) (256 * ess M1 + ess M2) (t + 1) = ((bq (pd M1 M2) (256 * ess M1 + ess M2) t).1 ++ [nx M1 M2 t], (bq (pd M1 M2) (256 * ess M1 + ess M2) t).2 ++ [t]) := by
        rw [eb]
        unfold noteL
        rw [if_neg (by rintro (z | z); exact h0' z; exact hin z)]
      have hq1 : ql M1 M2 (t + 1) = ql M1 M2 t + 1 := by
        unfold ql
        rw [ebq, List.length_append]
        rfl
      obtain ⟨h', q', g', en, f', p', e', s', hn'⟩ := note_new (y := t) f p e s hn (by omega) hx (by omega) (fun i hi z => hin (ci.mp ⟨i, hi, z⟩))
      refine ⟨h', en, q', g', upM cd (ql M1 M2 t) (256 * k1 + k2), f', p', ?_, by rw [hq1]; exact s', by rw [hq1]; exact hn', ?_⟩
      · rw [hq1]
        refine e'.cong (fun i hi => ⟨rfl, ?_⟩)
        rw [ebq]
        dsimp only
        unfold upM
        by_cases z : i = ql M1 M2 t
        · rw [if_pos z, z, ← hlr, getD_r]
        · rw [if_neg z, getD_l (by rw [hlr]; omega)]
      · intro i hi
        rw [ebq] at hi ⊢
        dsimp only at hi ⊢
        rw [List.length_append] at hi
        have hi' : i < ql M1 M2 t + 1 := hi
        unfold upM
        by_cases z : i = ql M1 M2 t
        · refine ⟨k1, k2, if_pos z, ?_, ?_⟩
          · rw [z]
            show stt (LL M1) k1 (((bq (pd M1 M2) (256 * ess M1 + ess M2) t).1 ++ [nx M1 M2 t]).getD (bq (pd M1 M2) (256 * ess M1 + ess M2) t).1.length 0 / 256)
            rw [getD_r]
            exact s1
          · rw [z]
            show stt (LL M2) k2 (((bq (pd M1 M2) (256 * ess M1 + ess M2) t).1 ++ [nx M1 M2 t]).getD (bq (pd M1 M2) (256 * ess M1 + ess M2) t).1.length 0 % 256)
            rw [getD_r]
            exact s2
        · rw [if_neg z, getD_l (show i < (bq (pd M1 M2) (256 * ess M1 + ess M2) t).1.length from (show i < ql M1 M2 t by omega))]
          exact c i (show i < ql M1 M2 t by omega)
theorem after43 (hs : Sh h) (au : aut 43 M2 h) {j S l : Nat} (hj : stt (LL M2) j S) (hl : l < 4) : ∃ k, fX6_after 43 (nI j) (nI l) h = some (nI k, h) ∧ stt (LL M2) k (ims M2 S l) :=
  after_ok (sub43 hs) au (LL_good M2) (fun l => ims_0 l) hj hl
/-- what the search leaves -/
def FdS (M1 M2 : Nat → Nat) (h0 : ZH) (τ : Nat) (r : Int32 × ZH) : Prop := (r.1 = nI 0 ∧ ql M1 M2 τ ≤ τ / 4 ∧ St M1 M2 h0 τ r.2) ∨ (r.1 = nI 1 ∧ τ / 4 < ql M1 M2 τ ∧ dfB (nx M1 M2 τ) = true ∧ St M1 M2 h0 τ r.2 ∧ zI r.2 51 3 = nI τ)
theorem St.last {t : Nat} {v : Int32} (s : St M1 M2 h0 t h) : St M1 M2 h0 t (zsI h (zu (zI h) 51 3 v)) := by
  obtain ⟨q, g, cd, f, p, e, s, hn, c⟩ := s
  obtain ⟨sw, s1, s2⟩ := s
  have pz : zfr [51] h (zsI h (zu (zI h) 51 3 v)) := zfr_uI
  refine ⟨q, g, cd, f.next pz (by intro b hb; rw [List.mem_singleton] at hb; rw [hb]; decide), p.fr pz, ⟨?_, e.2⟩, ⟨sw, fun w hw => ?_, s2⟩, hn, c⟩
  · dsimp only [zI_zsI]
    rw [zu_at, if_neg (by decide)]
    exact e.1
  · dsimp only [zI_zsI]
    rw [zu_ne (by decide)]
    exact s1 w hw
theorem loopC {τ : Nat} (hA : 256 * ess M1 + ess M2 ≠ 0) (a1 : aut 37 M1 h0) (a2 : aut 43 M2 h0) (hτ : τ ≤ 4 * 65536) (h1 : ∀ t, t < τ → t / 4 < ql M1 M2 t ∧ dfB (nx M1 M2 t) = false) (h2 : ql M1 M2 τ ≤ τ / 4 ∨ (τ / 4 < ql M1 M2 τ ∧ dfB (nx M1 M2 τ) = true)) (st : St M1 M2 h0 0 h) : wp (zloop (lX4_findDifference_41 51 37 43) zfu (nI 0, h)) (FdS M1 M2 h0 τ) := by
  have hlt : ∀ t, t ≤ τ → ql M1 M2 t ≤ 65535 := fun t ht => bq_len hA (fun s hs => (h1 s (by omega)).1)
  refine wloop (fun p y => y.1 = nI p ∧ St M1 M2 h0 (4 * p) y.2) (τ / 4) (fun p y self hp hy ih => ?_) (show τ / 4 < 100000 by omega) ⟨rfl, st⟩
  obtain ⟨y, h3⟩ := y
  obtain ⟨rfl, st3⟩ := hy
  dsimp only at st3
  have st3' := st3
  obtain ⟨q, g, cd, f, pq, e, s, hn, c⟩ := st3'
  have hs3 := f.1
  have hl4 := hlt (4 * p) (by omega)
  show wp (kX4_findDifference_41 51 37 43 self (nI p) h3) _
  unfold kX4_findDifference_41 bX4_findDifference_158
  by_cases hend : ql M1 M2 (4 * p) ≤ p
  · have hpt : 4 * p = τ := by
      apply Classical.byContradiction
      intro z
      have := (h1 (4 * p) (by omega)).1
      omega
    simp (disch := omega) only [S51 hs3, e.1, eq_true hend, zl_eq, bsm, ZS, ZT, ZN, ZU, eq_self, true_and, and_true, and_self, or_true, true_or, or_false, false_or, not_true, not_false_eq_true, Nat.reduceAdd, Nat.reduceMul, Nat.reduceLT, Nat.reduceLeDiff, Nat.reduceEqDiff, ↓reduceIte, ZQ, Bool.true_eq_false, Bool.false_eq_true, Bool.not_true, Bool.not_false]
    rw [← hpt]
    exact wp_some (Or.inl ⟨rfl, by omega, st3⟩)
  · have hpq : p < ql M1 M2 (4 * p) := by omega
    obtain ⟨j1, j2, ecd, t1, t2⟩ := c p hpq
    have b1 := (stt255 t1).1
    have b2 := (stt255 t2).1
    have epa := pairAt_ok hs3 pq e hn hpq
    rw [ecd] at epa
    generalize hP : (bq (pd M1 M2) (256 * ess M1 + ess M2) (4 * p)).1.getD p 0 = P at t1 t2
    simp (disch := omega) only [S51 hs3, e.1, eq_false hend, i65536, show ¬ (65536 ≤ p) by omega, epa, zl_eq, bsm, ZS, ZT, ZN, ZU, eq_self, true_and, and_true, and_self, or_true, true_or, or_false, false_or, not_true, not_false_eq_true, Nat.reduceAdd, Nat.reduceMul, Nat.reduceLT, Nat.reduceLeDiff, Nat.reduceEqDiff, ↓reduceIte, ZQ, Bool.true_eq_false, Bool.false_eq_true, Bool.not_true, Bool.not_false]
    refine wloop (fun l y => y.1 = nI l ∧ St M1 M2 h0 (4 * p + l) y.2 ∧ p < ql M1 M2 (4 * p + l) ∧ (bq (pd M1 M2) (256 * ess M1 + ess M2) (4 * p + l)).1.getD p 0 = P) (min 4 (τ - 4 * p)) (fun l y self2 hl hy ih2 => ?_) (show min 4 (τ - 4 * p) < 100000 by omega) ⟨rfl, st3, hpq, hP⟩
    obtain ⟨y, h4⟩ := y
    obtain ⟨rfl, st4, hp4, hP4⟩ := hy
    dsimp only at st4
    show wp (kX4_findDifference_68 self 51 37 43 (nI p) (nI (256 * j1 + j2)) self2 (nI l) h4) _
    unfold kX4_findDifference_68
    have hs4 : Sh h4 := by obtain ⟨_, _, _, f, _⟩ := st4; exact f.1
    have au4 : aut 37 M1 h4 := by obtain ⟨_, _, _, f, _⟩ := st4; exact pF_aut f (Or.inl rfl) a1
    have au5 : aut 43 M2 h4 := by obtain ⟨_, _, _, f, _⟩ := st4; exact pF_aut f (Or.inr rfl) a2
    by_cases hl4 : l = 4
    · subst hl4
      simp (disch := omega) only [Nat.le_refl, zl_eq, bsm, ZS, ZT, ZN, ZU, eq_self, true_and, and_true, and_self, or_true, true_or, or_false, false_or, not_true, not_false_eq_true, Nat.reduceAdd, Nat.reduceMul, Nat.reduceLT, Nat.reduceLeDiff, Nat.reduceEqDiff, ↓reduceIte, ZQ, Bool.true_eq_false, Bool.false_eq_true, Bool.not_true, Bool.not_false]
      exact ih _ (by omega) ⟨rfl, by rw [show 4 * (p + 1) = 4 * p + 4 by omega]; exact st4⟩
    · have hl4' : l < 4 := by omega
      obtain ⟨k1, ek1, sk1⟩ := afterC hs4 au4 t1 hl4'
      obtain ⟨k2, ek2, sk2⟩ := after43 hs4 au5 t2 hl4'
      have c1 := stt255 sk1
      have c2 := stt255 sk2
      have enx : nx M1 M2 (4 * p + l) = 256 * ims M1 (P / 256) l + ims M2 (P % 256) l := by
        unfold nx
        rw [show (4 * p + l) / 4 = p by omega, show (4 * p + l) % 4 = l by omega, hP4]
        rfl
      have i2 := ims_lt (M := M2) (S := P % 256) hl4'
      have s1 : stt (LL M1) k1 (nx M1 M2 (4 * p + l) / 256) := by
        rw [enx, Nat.mul_add_div (by decide), Nat.div_eq_of_lt i2, Nat.add_zero]
        exact sk1
      have s2 : stt (LL M2) k2 (nx M1 M2 (4 * p + l) % 256) := by
        rw [enx, Nat.mul_add_mod, Nat.mod_eq_of_lt i2]
        exact sk2
      have z1 := (stt255 s1).2
      have z2 := (stt255 s2).2
      have ed := isDiff_ok c1.1 c2.1 h4
      have edd : xor (decide (k1 = 255)) (decide (k2 = 255)) = dfB (nx M1 M2 (4 * p + l)) := by
        unfold dfB
        rw [decide_eq_decide.mpr z1, decide_eq_decide.mpr z2]
      rw [edd] at ed
      have ej1 : (256 * j1 + j2) / 256 = j1 := by omega
      have ej2 : (256 * j1 + j2) % 256 = j2 := by omega
      by_cases hm : l < min 4 (τ - 4 * p)
      · have hd := (h1 (4 * p + l) (by omega)).2
        rw [hd, Bool.toNat_false] at ed
        obtain ⟨h5, en, st5⟩ := noteStep hA (fun s hs => by
          by_cases z : s = 4 * p + l
          · rw [z, show (4 * p + l) / 4 = p by omega]; exact hp4
          · exact (h1 s (by omega)).1) (by omega) hd st4 s1 s2
        simp (disch := omega) only [Nat.not_le.mpr hl4', ej1, ej2, ek1, ek2, ed, en, zl_eq, bsm, ZS, ZT, ZN, ZU, eq_self, true_and, and_true, and_self, or_true, true_or, or_false, false_or, not_true, not_false_eq_true, Nat.reduceAdd, Nat.reduceMul, Nat.reduceLT, Nat.reduceLeDiff, Nat.reduceEqDiff, ↓reduceIte, ZQ, Bool.true_eq_false, Bool.false_eq_true, Bool.not_true, Bool.not_false]
        refine ih2 _ hm ⟨rfl, st5, ?_, ?_⟩
        · have := bq_grow (d := pd M1 M2) (A := 256 * ess M1 + ess M2) (4 * p + l)
          exact Nat.lt_of_lt_of_le hp4 this
        · rw [← Nat.add_assoc, bq_keep (by rw [show (4 * p + l) / 4 = p by omega]; exact hp4) hp4]
          exact hP4
      · have hτl : 4 * p + l = τ := by omega
        have hτ4 : τ / 4 = p := by omega
        rw [hτl] at ed st4 hp4
        rcases h2 with z | ⟨z, hd⟩
        · omega
        · rw [hd, Bool.toNat_true] at ed
          simp (disch := omega) only [Nat.not_le.mpr hl4', ej1, ej2, ek1, ek2, ed, S51 hs4, hτl, zl_eq, bsm, ZS, ZT, ZN, ZU, eq_self, true_and, and_true, and_self, or_true, true_or, or_false, false_or, not_true, not_false_eq_true, Nat.reduceAdd, Nat.reduceMul, Nat.reduceLT, Nat.reduceLeDiff, Nat.reduceEqDiff, ↓reduceIte, ZQ, Bool.true_eq_false, Bool.false_eq_true, Bool.not_true, Bool.not_false]
          exact wp_some (Or.inr ⟨rfl, z, hd, st4.last, by dsimp only [zI_zsI]; rw [zu_at, if_pos rfl]⟩)
end SE
