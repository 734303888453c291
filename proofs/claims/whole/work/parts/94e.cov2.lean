/-! COVERS: the object collects what can be reached -/
theorem bq_st {d : Nat → Nat → Nat} {A τ : Nat} (h : (bq d A τ).1.length ≤ τ / 4) : ∀ k, bq d A (τ + k) = bq d A τ
  | 0 => rfl
  | k + 1 => by
    rw [← Nat.add_assoc, bq, bq_st h k, if_neg (by omega)]
theorem LLrc {M : Nat → Nat} (hE : ess M ≠ 0) : rcL M (ess M) (LL M) := by
  obtain ⟨N, hN⟩ : ∃ N, N = 256 := ⟨_, rfl⟩
  obtain ⟨τ, h1, h2, h3, h4, h5⟩ := exStop1 (d := ims M) (A := ess M) N (by omega) hE (bq_bd (by rw [hN]; exact ess_lt M) (fun P l hl => by rw [hN]; exact ims_lt hl))
  have hτ : τ ≤ 1020 := by
    apply Classical.byContradiction
    intro hn
    have := h2 (τ - 1) (by omega)
    have g := bq_grow (d := ims M) (A := ess M) (τ - 1)
    rw [show τ - 1 + 1 = τ by omega] at g
    omega
  have e : LL M = (bq (ims M) (ess M) τ).1 := by
    unfold LL
    rw [BQ_eq]
    obtain ⟨T, hT⟩ : ∃ T, T = 1020 := ⟨_, rfl⟩
    rw [← hT] at hτ ⊢
    obtain ⟨k, rfl⟩ : ∃ k, T = τ + k := ⟨T - τ, by omega⟩
    rw [bq_st h3]
  rw [e]
  exact rcL_of h4 h3
theorem stt_mem {M : Nat → Nat} {j S : Nat} (h : stt (LL M) j S) (h0 : S ≠ 0) : S ∈ LL M := by
  rcases h with ⟨z, -⟩ | h
  · exact absurd z h0
  · exact List.mem_of_getElem? h
theorem mem_stt {M : Nat → Nat} {S : Nat} (h : S ∈ LL M) : ∃ j, stt (LL M) j S ∧ j < 255 := by
  obtain ⟨j, hj, e⟩ := List.mem_iff_getElem.mp h
  have hl : (LL M).length ≤ 255 := (LL_good M).len
  exact ⟨j, Or.inr (by rw [List.getElem?_eq_getElem hj, e]), by omega⟩
/-- the set of a state; 0 where there is no state -/
noncomputable def nmS (M : Nat → Nat) (j : Nat) : Nat := (LL M).getD j 0
theorem nmS_of {M : Nat → Nat} {j S : Nat} (st : stt (LL M) j S) : nmS M j = S := by
  unfold nmS
  rcases st with ⟨rfl, rfl⟩ | e
  · have hl : (LL M).length ≤ 255 := (LL_good M).len
    rw [List.getD_eq_getElem?_getD, List.getElem?_eq_none hl]
    rfl
  · rw [List.getD_eq_getElem?_getD, e]
    rfl
theorem nmS_stt {M : Nat → Nat} {j : Nat} (h : nmS M j ≠ 0) : stt (LL M) j (nmS M j) ∧ j < 255 := by
  have hl : (LL M).length ≤ 255 := (LL_good M).len
  by_cases hj : j < (LL M).length
  · refine ⟨Or.inr ?_, by omega⟩
    unfold nmS
    rw [List.getD_eq_getElem?_getD, List.getElem?_eq_getElem hj]
    rfl
  · refine absurd ?_ h
    unfold nmS
    rw [List.getD_eq_getElem?_getD, List.getElem?_eq_none (by omega)]
    rfl
theorem nmS_lt {M : Nat → Nat} {j : Nat} (hj : j < (LL M).length) : stt (LL M) j (nmS M j) := by
  right
  unfold nmS
  rw [List.getD_eq_getElem?_getD, List.getElem?_eq_getElem hj]
  rfl
theorem nmS_inj {M : Nat → Nat} {i j S : Nat} (st : stt (LL M) j S) (h : S ≠ 0) (e : nmS M i = S) : i = j :=
  (stt_eq (nmS_stt (by rw [e]; exact h)).1 st).mpr e
def mbI (M : Nat → Nat) (T : List Nat) (h : ZH) : Prop := ∀ j, j < 256 → zI h 55 j = nI (decide (nmS M j ∈ T)).toNat
def quI (M : Nat → Nat) (T : List Nat) (h : ZH) : Prop := zI h 54 3 = nI T.length ∧ ∀ i, i < T.length → ∃ j, zI h 57 i = nI j ∧ stt (LL M) j (T.getD i 0)
def mkI (M : Nat → Nat) (K : List Nat) (h : ZH) : Prop := ∀ j S, stt (LL M) j S → zI h 56 j = nI (decide (S ∈ K)).toNat
section CF
variable {M : Nat → Nat} {h h0 : ZH}
theorem mbI.fr {T : List Nat} {h' : ZH} {A : List Nat} (p : zfr A h h') (h1 : 55 ∉ A) (g : mbI M T h) : mbI M T h' := fun j hj => by rw [p.I h1]; exact g j hj
theorem quI.fr {T : List Nat} {h' : ZH} {A : List Nat} (p : zfr A h h') (h1 : 54 ∉ A) (h2 : 57 ∉ A) (g : quI M T h) : quI M T h' := ⟨by rw [p.I h1]; exact g.1, fun i hi => by rw [p.I h2]; exact g.2 i hi⟩
theorem mkI.fr {K : List Nat} {h' : ZH} {A : List Nat} (p : zfr A h h') (h1 : 56 ∉ A) (g : mkI M K h) : mkI M K h' := fun j S st => by rw [p.I h1]; exact g j S st
theorem mbI.st {T : List Nat} (g : mbI M T h) {j S : Nat} (st : stt (LL M) j S) : zI h 55 j = nI (decide (S ∈ T)).toNat := by
  have := g j (by have := (stt255 st).1; omega)
  rw [nmS_of st] at this
  exact this
theorem z16_0 : zvn 16 (nI 0) = nI 0 := zvn16 (by decide)
theorem z16_1 : zvn 16 (nI 1) = nI 1 := zvn16 (by decide)
theorem clearA55 (hs : Sh h) : ∃ h', fX0_clearAll 55 h = some h' ∧ zfr [55] h h' ∧ ∀ j, j < 256 → zI h' 55 j = nI 0 := by
  refine ⟨zsI h (zfil (zI h) 55 256 (fun _ => nI 0)), ?_, zfr_filI, fun j hj => by dsimp only [zI_zsI]; exact zfil_in hj⟩
  have a := A55 hs
  have ez : zlen h 55 = some (nI 256) := by rw [zlen_ok a.1 (by rw [a.2.1]; decide), a.2.2]
  unfold fX0_clearAll
  refine zfill 55 256 (fun _ => nI 0) (fun j hj self => ?_) (fun self => ?_) (by decide)
  · simp (disch := omega) only [lX0_clearAll_2, kX0_clearAll_2, ez, Nat.not_le.mpr hj, z16_0, SC (hs), zl_eq, bsm, ZS, ZT, ZN, ZU, eq_self, true_and, and_true, and_self, or_true, true_or, or_false, false_or, not_true, not_false_eq_true, Nat.reduceAdd, Nat.reduceMul, Nat.reduceLT, Nat.reduceLeDiff, Nat.reduceEqDiff, ↓reduceIte, ZQ, Bool.true_eq_false, Bool.false_eq_true, Bool.not_true, Bool.not_false]
  · simp (disch := omega) only [lX0_clearAll_2, kX0_clearAll_2, ez, Nat.le_refl, SC (hs), zl_eq, bsm, ZS, ZT, ZN, ZU, eq_self, true_and, and_true, and_self, or_true, true_or, or_false, false_or, not_true, not_false_eq_true, Nat.reduceAdd, Nat.reduceMul, Nat.reduceLT, Nat.reduceLeDiff, Nat.reduceEqDiff, ↓reduceIte, ZQ, Bool.true_eq_false, Bool.false_eq_true, Bool.not_true, Bool.not_false]
theorem clearM_ok (hs : Sh h) : ∃ h', fX0_clearAll 56 h = some h' ∧ zfr [56] h h' ∧ mkI M [] h' := by
  refine ⟨zsI h (zfil (zI h) 56 256 (fun _ => nI 0)), ?_, zfr_filI, fun j S st => ?_⟩
  · have a := A56 hs
    have ez : zlen h 56 = some (nI 256) := by rw [zlen_ok a.1 (by rw [a.2.1]; decide), a.2.2]
    unfold fX0_clearAll
    refine zfill 56 256 (fun _ => nI 0) (fun j hj self => ?_) (fun self => ?_) (by decide)
    · simp (disch := omega) only [lX0_clearAll_2, kX0_clearAll_2, ez, Nat.not_le.mpr hj, z16_0, SC (hs), zl_eq, bsm, ZS, ZT, ZN, ZU, eq_self, true_and, and_true, and_self, or_true, true_or, or_false, false_or, not_true, not_false_eq_true, Nat.reduceAdd, Nat.reduceMul, Nat.reduceLT, Nat.reduceLeDiff, Nat.reduceEqDiff, ↓reduceIte, ZQ, Bool.true_eq_false, Bool.false_eq_true, Bool.not_true, Bool.not_false]
    · simp (disch := omega) only [lX0_clearAll_2, kX0_clearAll_2, ez, Nat.le_refl, SC (hs), zl_eq, bsm, ZS, ZT, ZN, ZU, eq_self, true_and, and_true, and_self, or_true, true_or, or_false, false_or, not_true, not_false_eq_true, Nat.reduceAdd, Nat.reduceMul, Nat.reduceLT, Nat.reduceLeDiff, Nat.reduceEqDiff, ↓reduceIte, ZQ, Bool.true_eq_false, Bool.false_eq_true, Bool.not_true, Bool.not_false]
  · have := (stt255 st).1
    dsimp only [zI_zsI]
    rw [zfil_in (by omega), decide_eq_false (fun z => by cases z)]
    rfl
/-- a state is taken up, if it is new -/
theorem collect_old (hs : Sh h) {T : List Nat} {j S : Nat} (mb : mbI M T h) (st : stt (LL M) j S) (hz : S = 0 ∨ S ∈ T) : fX0_collect 54 (nI j) h = some h := by
  have b := stt255 st
  have v := mb.st st
  unfold fX0_collect bX0_collect_61
  by_cases h0 : j = 255
  · subst h0
    have ew := isWithin_no (x := nI 255) (lo := 0) (hi := 254) (Or.inr (by decide)) h
    simp (disch := omega) only [ew, SC (hs), zl_eq, bsm, ZS, ZT, ZN, ZU, eq_self, true_and, and_true, and_self, or_true, true_or, or_false, false_or, not_true, not_false_eq_true, Nat.reduceAdd, Nat.reduceMul, Nat.reduceLT, Nat.reduceLeDiff, Nat.reduceEqDiff, ↓reduceIte, ZQ, Bool.true_eq_false, Bool.false_eq_true, Bool.not_true, Bool.not_false]
  · have hS : S ∈ T := by
      rcases hz with z | z
      · exact absurd (b.2.mpr z) h0
      · exact z
    rw [decide_eq_true hS, Bool.toNat_true] at v
    have ew := isWithin_ok (Nat.zero_le j) (show j ≤ 254 by omega) (by decide) h
    simp (disch := omega) only [ew, v, SC (hs), zl_eq, bsm, ZS, ZT, ZN, ZU, eq_self, true_and, and_true, and_self, or_true, true_or, or_false, false_or, not_true, not_false_eq_true, Nat.reduceAdd, Nat.reduceMul, Nat.reduceLT, Nat.reduceLeDiff, Nat.reduceEqDiff, ↓reduceIte, ZQ, Bool.true_eq_false, Bool.false_eq_true, Bool.not_true, Bool.not_false]
theorem collect_new (hs : Sh h) {T : List Nat} {j S : Nat} (mb : mbI M T h) (qu : quI M T h) (st : stt (LL M) j S) (h0 : S ≠ 0) (hn : S ∉ T) (hl : T.length < 255) : ∃ h', fX0_collect 54 (nI j) h = some h' ∧ zfr [54, 55, 57] h h' ∧ mbI M (T ++ [S]) h' ∧ quI M (T ++ [S]) h' := by
  have b := stt255 st
  have hj : j ≠ 255 := fun z => h0 (b.2.mp z)
  have v := mb.st st
  rw [decide_eq_false hn, Bool.toNat_false] at v
  have e54 := qu.1
  have ew := isWithin_ok (Nat.zero_le j) (show j ≤ 254 by omega) (by decide) h
  have ew2 := isWithin_ok (Nat.zero_le T.length) (show T.length ≤ 254 by omega) (by decide) h
  refine ⟨zsI h (zu (zu (zu (zI h) 55 j (nI 1)) 57 T.length (nI j)) 54 3 (nI (T.length + 1))), ?_, zfr_zsI (fun b hb => ?_), fun i hi => ?_, ⟨?_, fun i hi => ?_⟩⟩
  · unfold fX0_collect bX0_collect_61
    simp (disch := omega) only [ew, v, e54, ew2, z16_1, SC (hs), zl_eq, bsm, ZS, ZT, ZN, ZU, eq_self, true_and, and_true, and_self, or_true, true_or, or_false, false_or, not_true, not_false_eq_true, Nat.reduceAdd, Nat.reduceMul, Nat.reduceLT, Nat.reduceLeDiff, Nat.reduceEqDiff, ↓reduceIte, ZQ, Bool.true_eq_false, Bool.false_eq_true, Bool.not_true, Bool.not_false]
  · rw [zu_ne (fun e => hb (by rw [e]; decide)), zu_ne (fun e => hb (by rw [e]; decide)), zu_ne (fun e => hb (by rw [e]; decide))]
  · dsimp only [zI_zsI]
    rw [zu_ne (by decide), zu_ne (by decide), zu_at]
    by_cases e : i = j
    · rw [if_pos e, e, nmS_of st, decide_eq_true (List.mem_append_right _ (List.mem_singleton.mpr rfl)), Bool.toNat_true]
    · rw [if_neg e, mb i hi]
      have hne : nmS M i ≠ S := fun z => e (nmS_inj st h0 z)
      congr 2
      apply decide_eq_decide.mpr
      constructor
      · exact fun z => List.mem_append_left _ z
      · intro z
        rcases List.mem_append.mp z with z | z
        · exact z
        · rw [List.mem_singleton] at z
          exact absurd z hne
  · dsimp only [zI_zsI]
    rw [zu_at, if_pos rfl, List.length_append]
    rfl
  · rw [List.length_append] at hi
    have hi' : i < T.length + 1 := hi
    dsimp only [zI_zsI]
    rw [zu_ne (by decide), zu_at]
    by_cases e : i = T.length
    · rw [if_pos e, e, getD_r]
      exact ⟨j, rfl, st⟩
    · rw [if_neg e, zu_ne (by decide), getD_l (by omega)]
      exact qu.2 i (by omega)
theorem collectFrom_ok (hs : Sh h) (au : aut 37 M h) {j0 S0 : Nat} (st0 : stt (LL M) j0 S0) (h0 : S0 ≠ 0) : ∃ h' T, fX0_collectFrom 54 37 (nI j0) h = some h' ∧ zfr [54, 55, 57] h h' ∧ rcL M S0 T ∧ mbI M T h' ∧ T.length ≤ 255 := by
  obtain ⟨N, hN⟩ : ∃ N, N = 256 := ⟨_, rfl⟩
  have hS256 : S0 < 256 := by
    have := stt_mem st0 h0
    exact ((LL_good M).2 S0 this).2
  obtain ⟨τ, t1, t2, t3, t4, t5⟩ := exStop1 (d := ims M) (A := S0) N (by omega) h0 (bq_bd (by rw [hN]; exact hS256) (fun P l hl => by rw [hN]; exact ims_lt hl))
  have lens : ∀ t, t ≤ τ → (bq (ims M) S0 t).1.length ≤ 255 := by
    intro t ht
    have b := BI_all (d := ims M) h0 t (fun s hs => t2 s (by omega))
    have := len_lt (N := N) b.2.1 b.2.2.1 (bq_bd (by rw [hN]; exact hS256) (fun P l hl => by rw [hN]; exact ims_lt hl) t) (by omega)
    omega
  have hτ4 : τ % 4 = 0 := by
    apply Classical.byContradiction
    intro hn
    have a := t2 (τ - 1) (by omega)
    have b := bq_grow (d := ims M) (A := S0) (τ - 1)
    rw [show τ - 1 + 1 = τ by omega] at b
    omega
  have key : wp (fX0_collectFrom 54 37 (nI j0) h) (fun h' => zfr [54, 55, 57] h h' ∧ mbI M (bq (ims M) S0 τ).1 h') := by
    obtain ⟨h1, e1, p1, cl1⟩ := clearA55 hs
    have hs1 := p1.shp hs
    have p2 : zfr [54] h1 (zsI h1 (zu (zI h1) 54 3 (nI 0))) := zfr_uI
    have qu2 : quI M [] (zsI h1 (zu (zI h1) 54 3 (nI 0))) := ⟨by dsimp only [zI_zsI]; rw [zu_at, if_pos rfl]; rfl, fun i hi => by cases hi⟩
    have mb2 : mbI M [] (zsI h1 (zu (zI h1) 54 3 (nI 0))) := fun i hi => by
      rw [p2.I (by decide), cl1 i hi, decide_eq_false (fun z => by cases z)]
      rfl
    have ep : pI h1 0 54 3 (nI 0) = some (zsI h1 (zu (zI h1) 54 3 (nI 0))) := pI_ok (O54 hs1).1 (O54 hs1).2
    generalize zsI h1 (zu (zI h1) 54 3 (nI 0)) = h2 at p2 mb2 qu2 ep
    have hs2 := p2.shp hs1
    obtain ⟨h3, e3, p3, mb3, qu3⟩ := collect_new hs2 mb2 qu2 st0 h0 (fun z => by cases z) (by decide)
    have p123 : zfr [54, 55, 57] h h3 := ((p1.mono (by decide)).same (p2.mono (by decide))).same p3
    have e0 : (bq (ims M) S0 0).1 = [S0] := by
      show (noteL ([], []) S0 0).1 = _
      unfold noteL
      rw [if_neg (by rintro (z | z); exact h0 z; cases z)]
      rfl
    unfold fX0_collectFrom
    simp (disch := omega) only [e1, SC (hs), zl_eq, bsm, ZS, ZT, ZN, ZU, eq_self, true_and, and_true, and_self, or_true, true_or, or_false, false_or, not_true, not_false_eq_true, Nat.reduceAdd, Nat.reduceMul, Nat.reduceLT, Nat.reduceLeDiff, Nat.reduceEqDiff, ↓reduceIte, ZQ, Bool.true_eq_false, Bool.false_eq_true, Bool.not_true, Bool.not_false]
    simp (disch := omega) only [ep, e3, zl_eq, bsm, ZS, ZT, ZN, ZU, eq_self, true_and, and_true, and_self, or_true, true_or, or_false, false_or, not_true, not_false_eq_true, Nat.reduceAdd, Nat.reduceMul, Nat.reduceLT, Nat.reduceLeDiff, Nat.reduceEqDiff, ↓reduceIte, ZQ, Bool.true_eq_false, Bool.false_eq_true, Bool.not_true, Bool.not_false]
    refine wloop (fun p y => y.1 = nI p ∧ zfr [54, 55, 57] h y.2 ∧ mbI M (bq (ims M) S0 (4 * p)).1 y.2 ∧ quI M (bq (ims M) S0 (4 * p)).1 y.2) (τ / 4) (fun p y self hp hy ih => ?_) (show τ / 4 < 100000 by omega) ⟨rfl, p123, by rw [Nat.mul_zero, e0]; exact mb3, by rw [Nat.mul_zero, e0]; exact qu3⟩
    obtain ⟨y, h4⟩ := y
    obtain ⟨rfl, p4, mb4, qu4⟩ := hy
    dsimp only at p4 mb4 qu4
    have hs4 := p4.shp hs
    have l4 := lens (4 * p) (by omega)
    have v4 := qu4.1
    show wp (kX0_collectFrom_19 54 37 self (nI p) h4) _
    unfold kX0_collectFrom_19 bX0_collectFrom_71
    by_cases hlt : p < τ / 4
    · have hpq := t2 (4 * p) (by omega)
      rw [show 4 * p / 4 = p by omega] at hpq
      simp (disch := omega) only [v4, Nat.not_le.mpr hpq, show ¬ (255 ≤ p) by omega, SC (hs4), zl_eq, bsm, ZS, ZT, ZN, ZU, eq_self, true_and, and_true, and_self, or_true, true_or, or_false, false_or, not_true, not_false_eq_true, Nat.reduceAdd, Nat.reduceMul, Nat.reduceLT, Nat.reduceLeDiff, Nat.reduceEqDiff, ↓reduceIte, ZQ, Bool.true_eq_false, Bool.false_eq_true, Bool.not_true, Bool.not_false]
      refine wloop (fun l y => y.1 = nI l ∧ zfr [54, 55, 57] h y.2 ∧ mbI M (bq (ims M) S0 (4 * p + l)).1 y.2 ∧ quI M (bq (ims M) S0 (4 * p + l)).1 y.2) 4 (fun l y self2 hl hy ih2 => ?_) (by decide) ⟨rfl, p4, mb4, qu4⟩
      obtain ⟨y, h5⟩ := y
      obtain ⟨rfl, p5, mb5, qu5⟩ := hy
      dsimp only at p5 mb5 qu5
      have hs5 := p5.shp hs
      have au5 : aut 37 M h5 := subOK.fr p5 (by decide) (by decide) (by decide) (by decide) (by decide) au
      show wp (kX0_collectFrom_37 self 54 37 (nI p) self2 (nI l) h5) _
      unfold kX0_collectFrom_37
      by_cases hl4 : l < 4
      · have hpl := t2 (4 * p + l) (by omega)
        rw [show (4 * p + l) / 4 = p by omega] at hpl
        have l5 := lens (4 * p + l) (by omega)
        obtain ⟨j, ej, sj⟩ := qu5.2 p hpl
        obtain ⟨k, ek, sk⟩ := afterC hs5 au5 sj hl4
        have eb : bq (ims M) S0 (4 * p + l + 1) = noteL (bq (ims M) S0 (4 * p + l)) (ims M ((bq (ims M) S0 (4 * p + l)).1.getD p 0) l) (4 * p + l) := by
          rw [bq, if_pos (by rw [show (4 * p + l) / 4 = p by omega]; exact hpl), show (4 * p + l) / 4 = p by omega, show (4 * p + l) % 4 = l by omega]
        by_cases hz : ims M ((bq (ims M) S0 (4 * p + l)).1.getD p 0) l = 0 ∨ ims M ((bq (ims M) S0 (4 * p + l)).1.getD p 0) l ∈ (bq (ims M) S0 (4 * p + l)).1
        · have ec := collect_old hs5 mb5 sk hz
          unfold noteL at eb
          rw [if_pos hz] at eb
          simp (disch := omega) only [Nat.not_le.mpr hl4, ej, ek, ec, SC (hs5), zl_eq, bsm, ZS, ZT, ZN, ZU, eq_self, true_and, and_true, and_self, or_true, true_or, or_false, false_or, not_true, not_false_eq_true, Nat.reduceAdd, Nat.reduceMul, Nat.reduceLT, Nat.reduceLeDiff, Nat.reduceEqDiff, ↓reduceIte, ZQ, Bool.true_eq_false, Bool.false_eq_true, Bool.not_true, Bool.not_false]
          exact ih2 _ hl4 ⟨rfl, p5, by rw [← Nat.add_assoc, eb]; exact mb5, by rw [← Nat.add_assoc, eb]; exact qu5⟩
        · have hz1 : ims M ((bq (ims M) S0 (4 * p + l)).1.getD p 0) l ≠ 0 := fun z => hz (Or.inl z)
          have hz2 : ims M ((bq (ims M) S0 (4 * p + l)).1.getD p 0) l ∉ (bq (ims M) S0 (4 * p + l)).1 := fun z => hz (Or.inr z)
          unfold noteL at eb
          rw [if_neg hz] at eb
          have l6 := lens (4 * p + l + 1) (by omega)
          rw [eb, List.length_append] at l6
          have l6' : (bq (ims M) S0 (4 * p + l)).1.length + 1 ≤ 255 := l6
          obtain ⟨h6, e6, p6, mb6, qu6⟩ := collect_new hs5 mb5 qu5 sk hz1 hz2 (by omega)
          simp (disch := omega) only [Nat.not_le.mpr hl4, ej, ek, e6, SC (hs5), zl_eq, bsm, ZS, ZT, ZN, ZU, eq_self, true_and, and_true, and_self, or_true, true_or, or_false, false_or, not_true, not_false_eq_true, Nat.reduceAdd, Nat.reduceMul, Nat.reduceLT, Nat.reduceLeDiff, Nat.reduceEqDiff, ↓reduceIte, ZQ, Bool.true_eq_false, Bool.false_eq_true, Bool.not_true, Bool.not_false]
          exact ih2 _ hl4 ⟨rfl, p5.same p6, by rw [← Nat.add_assoc, eb]; exact mb6, by rw [← Nat.add_assoc, eb]; exact qu6⟩
      · have : l = 4 := by omega
        subst this
        simp (disch := omega) only [Nat.le_refl, SC (hs5), zl_eq, bsm, ZS, ZT, ZN, ZU, eq_self, true_and, and_true, and_self, or_true, true_or, or_false, false_or, not_true, not_false_eq_true, Nat.reduceAdd, Nat.reduceMul, Nat.reduceLT, Nat.reduceLeDiff, Nat.reduceEqDiff, ↓reduceIte, ZQ, Bool.true_eq_false, Bool.false_eq_true, Bool.not_true, Bool.not_false]
        exact ih _ hlt ⟨rfl, p5, by rw [show 4 * (p + 1) = 4 * p + 4 by omega]; exact mb5, by rw [show 4 * (p + 1) = 4 * p + 4 by omega]; exact qu5⟩
    · have hpe : 4 * p = τ := by omega
      rw [hpe] at mb4 v4
      simp (disch := omega) only [v4, show (bq (ims M) S0 τ).1.length ≤ p by omega, SC (hs4), zl_eq, bsm, ZS, ZT, ZN, ZU, eq_self, true_and, and_true, and_self, or_true, true_or, or_false, false_or, not_true, not_false_eq_true, Nat.reduceAdd, Nat.reduceMul, Nat.reduceLT, Nat.reduceLeDiff, Nat.reduceEqDiff, ↓reduceIte, ZQ, Bool.true_eq_false, Bool.false_eq_true, Bool.not_true, Bool.not_false]
      exact wp_some ⟨p4, mb4⟩
  obtain ⟨h', e, p, q⟩ := key
  exact ⟨h', _, e, p, rcL_of t4 t3, q, lens τ (Nat.le_refl _)⟩
end CF
