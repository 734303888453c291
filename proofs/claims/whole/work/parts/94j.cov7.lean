/-! COVERS: the reference sees -/
def seI (s : Nat) (Q : List Nat) (h : ZH) : Prop := zI h 117 28 = nI Q.length ∧ (∀ i, i < Q.length → zI h 137 i = nI (Q.getD i 0 - s)) ∧ ∀ x, x < 256 → zI h 136 x = nI (decide (x + s ∈ Q)).toNat
section SEE
variable {M : Nat → Nat} {h : ZH} {s : Nat} {Q : List Nat}
theorem clearSeen_ok (hs : Sh h) (s : Nat) : ∃ h', fX11_clearSeen 117 h = some h' ∧ zfr [117, 136] h h' ∧ (∀ k, k ≠ 28 → zI h' 117 k = zI h 117 k) ∧ seI s [] h' := by
  refine ⟨zsI h (zu (zfil (zI h) 136 256 (fun _ => nI 0)) 117 28 (nI 0)), ?_, zfr_zsI (fun b hb => ?_), fun k hk => ?_, ?_, (fun i hi => by cases hi), fun x hx => ?_⟩
  · unfold fX11_clearSeen
    simp (disch := omega) only [SR (hs), zl_eq, bsm, ZS, ZT, ZN, ZU, eq_self, true_and, and_true, and_self, or_true, true_or, or_false, false_or, not_true, not_false_eq_true, Nat.reduceAdd, Nat.reduceMul, Nat.reduceLT, Nat.reduceLeDiff, Nat.reduceEqDiff, ↓reduceIte, ZQ, Bool.true_eq_false, Bool.false_eq_true, Bool.not_true, Bool.not_false]
    refine zfill 136 256 (fun _ => nI 0) (fun j hj self => ?_) (fun self => ?_) (by decide)
    · simp (disch := omega) only [lX11_clearSeen_2, kX11_clearSeen_2, Nat.not_le.mpr hj, z16_0, SR (hs), zl_eq, bsm, ZS, ZT, ZN, ZU, eq_self, true_and, and_true, and_self, or_true, true_or, or_false, false_or, not_true, not_false_eq_true, Nat.reduceAdd, Nat.reduceMul, Nat.reduceLT, Nat.reduceLeDiff, Nat.reduceEqDiff, ↓reduceIte, ZQ, Bool.true_eq_false, Bool.false_eq_true, Bool.not_true, Bool.not_false]
    · simp (disch := omega) only [lX11_clearSeen_2, kX11_clearSeen_2, Nat.le_refl, SR (hs), zl_eq, bsm, ZS, ZT, ZN, ZU, eq_self, true_and, and_true, and_self, or_true, true_or, or_false, false_or, not_true, not_false_eq_true, Nat.reduceAdd, Nat.reduceMul, Nat.reduceLT, Nat.reduceLeDiff, Nat.reduceEqDiff, ↓reduceIte, ZQ, Bool.true_eq_false, Bool.false_eq_true, Bool.not_true, Bool.not_false]
  · rw [zu_ne (fun e => hb (by rw [e]; decide)), zfil_ne (fun e => hb (by rw [e]; decide))]
  · dsimp only [zI_zsI]
    rw [zu_at, if_neg hk, zfil_ne (by decide)]
  · dsimp only [zI_zsI]
    rw [zu_at, if_pos rfl]
    rfl
  · dsimp only [zI_zsI]
    rw [zu_ne (by decide), zfil_in hx, decide_eq_false (fun z => by cases z)]
    rfl
theorem seI.fr {h' : ZH} {A : List Nat} (p : zfr A h h') (h1 : 136 ∉ A) (h2 : 137 ∉ A) (h3 : zI h' 117 28 = zI h 117 28) (g : seI s Q h) : seI s Q h' := ⟨by rw [h3]; exact g.1, fun i hi => by rw [p.I h2]; exact g.2.1 i hi, fun x hx => by rw [p.I h1]; exact g.2.2 x hx⟩
theorem see_old (hs : Sh h) (g : seI s Q h) {x : Nat} (hx : x < 256) (hin : x + s ∈ Q) : fX11_see 117 (nI x) h = some h := by
  have v := g.2.2 x hx
  rw [decide_eq_true hin, Bool.toNat_true] at v
  unfold fX11_see bX11_see_36
  simp (disch := omega) only [v, SR (hs), zl_eq, bsm, ZS, ZT, ZN, ZU, eq_self, true_and, and_true, and_self, or_true, true_or, or_false, false_or, not_true, not_false_eq_true, Nat.reduceAdd, Nat.reduceMul, Nat.reduceLT, Nat.reduceLeDiff, Nat.reduceEqDiff, ↓reduceIte, ZQ, Bool.true_eq_false, Bool.false_eq_true, Bool.not_true, Bool.not_false]
theorem see_new (hs : Sh h) (g : seI s Q h) {x : Nat} (hx : x < 256) (hin : x + s ∉ Q) (hl : Q.length < 256) : ∃ h', fX11_see 117 (nI x) h = some h' ∧ zfr [117, 136, 137] h h' ∧ (∀ k, k ≠ 28 → zI h' 117 k = zI h 117 k) ∧ seI s (Q ++ [x + s]) h' := by
  have v := g.2.2 x hx
  rw [decide_eq_false hin, Bool.toNat_false] at v
  have e := g.1
  refine ⟨zsI h (zu (zu (zu (zI h) 136 x (nI 1)) 137 Q.length (nI x)) 117 28 (nI (Q.length + 1))), ?_, zfr_zsI (fun b hb => ?_), fun k hk => ?_, ?_, fun i hi => ?_, fun y hy => ?_⟩
  · unfold fX11_see bX11_see_36
    simp (disch := omega) only [v, e, z16_1, SR (hs), zl_eq, bsm, ZS, ZT, ZN, ZU, eq_self, true_and, and_true, and_self, or_true, true_or, or_false, false_or, not_true, not_false_eq_true, Nat.reduceAdd, Nat.reduceMul, Nat.reduceLT, Nat.reduceLeDiff, Nat.reduceEqDiff, ↓reduceIte, ZQ, Bool.true_eq_false, Bool.false_eq_true, Bool.not_true, Bool.not_false]
  · rw [zu_ne (fun e => hb (by rw [e]; decide)), zu_ne (fun e => hb (by rw [e]; decide)), zu_ne (fun e => hb (by rw [e]; decide))]
  · dsimp only [zI_zsI]
    rw [zu_at, if_neg hk, zu_ne (by decide), zu_ne (by decide)]
  · dsimp only [zI_zsI]
    rw [zu_at, if_pos rfl, List.length_append]
    rfl
  · rw [List.length_append] at hi
    have hi' : i < Q.length + 1 := hi
    dsimp only [zI_zsI]
    rw [zu_ne (by decide), zu_at]
    by_cases e : i = Q.length
    · rw [if_pos e, e, getD_r, Nat.add_sub_cancel]
    · rw [if_neg e, zu_ne (by decide), getD_l (by omega)]
      exact g.2.1 i (by omega)
  · dsimp only [zI_zsI]
    rw [zu_ne (by decide), zu_ne (by decide), zu_at]
    by_cases e : y = x
    · rw [if_pos e, e, decide_eq_true (List.mem_append_right _ (List.mem_singleton.mpr rfl)), Bool.toNat_true]
    · rw [if_neg e, g.2.2 y hy]
      congr 2
      apply decide_eq_decide.mpr
      constructor
      · exact fun z => List.mem_append_left _ z
      · intro z
        rcases List.mem_append.mp z with z | z
        · exact z
        · rw [List.mem_singleton] at z
          omega
/-- one step of a search -/
theorem see_step (hs : Sh h) {d : Nat → Nat → Nat} {A t : Nat} (g : seI s (bq d A t).1 h) (ht : t / 4 < (bq d A t).1.length) {x : Nat} (hx : x < 256) (hP : d ((bq d A t).1.getD (t / 4) 0) (t % 4) = x + s) (h0 : x + s ≠ 0) (hl : (bq d A (t + 1)).1.length ≤ 256) : ∃ h', fX11_see 117 (nI x) h = some h' ∧ zfr [117, 136, 137] h h' ∧ (∀ k, k ≠ 28 → zI h' 117 k = zI h 117 k) ∧ seI s (bq d A (t + 1)).1 h' := by
  have eb : bq d A (t + 1) = noteL (bq d A t) (x + s) t := by rw [bq, if_pos ht, hP]
  by_cases hin : x + s ∈ (bq d A t).1
  · refine ⟨h, see_old hs g hx hin, zfr.refl h, fun _ _ => rfl, ?_⟩
    unfold noteL at eb
    rw [if_pos (Or.inr hin)] at eb
    rw [eb]; exact g
  · unfold noteL at eb
    rw [if_neg (by rintro (z | z); exact h0 z; exact hin z)] at eb
    rw [eb] at hl ⊢
    dsimp only at hl ⊢
    rw [List.length_append] at hl
    have hl' : (bq d A t).1.length + 1 ≤ 256 := hl
    exact see_new hs g hx hin (by omega)
theorem bq_skip {d : Nat → Nat → Nat} {A t : Nat} (hP : d ((bq d A t).1.getD (t / 4) 0) (t % 4) = 0) : bq d A (t + 1) = bq d A t := by
  rw [bq]
  split
  · unfold noteL
    rw [if_pos (Or.inl hP)]
  · rfl
theorem seI_0 (hs : Sh h) {d : Nat → Nat → Nat} {A x : Nat} (g : seI s [] h) (hx : x < 256) (hA : A = x + s) (h0 : A ≠ 0) : ∃ h', fX11_see 117 (nI x) h = some h' ∧ zfr [117, 136, 137] h h' ∧ (∀ k, k ≠ 28 → zI h' 117 k = zI h 117 k) ∧ seI s (bq d A 0).1 h' := by
  have e0 : (bq d A 0).1 = [] ++ [x + s] := by
    show (noteL ([], []) A 0).1 = _
    unfold noteL
    rw [if_neg (by rintro (z | z); exact h0 z; cases z), hA]
  rw [e0]
  exact see_new hs g hx (fun z => by cases z) (by decide)
/-! the sets -/
def stR (M : Nat → Nat) (h : ZH) : Prop := zI h 117 23 = nI (LL M).length ∧ ∀ i, i < (LL M).length → zI h 133 i = nI ((LL M).getD i 0)
theorem findSets_ok (hs : Sh h) (pr : prep M h) (hE : ess M ≠ 0) : ∃ h', fX11_findSets 117 h = some h' ∧ zfr [117, 133, 136, 137] h h' ∧ (∀ k, k ≠ 28 → k ≠ 23 → zI h' 117 k = zI h 117 k) ∧ stR M h' := by
  obtain ⟨N, hN⟩ : ∃ N, N = 256 := ⟨_, rfl⟩
  have bd := bq_bd (d := ims M) (A := ess M) (N := N) (by rw [hN]; exact ess_lt M) (fun P l hl => by rw [hN]; exact ims_lt hl)
  obtain ⟨τ, t1, t2, t3, t4, t5⟩ := exStop1 (d := ims M) (A := ess M) N (by omega) hE bd
  have lens : ∀ t, t ≤ τ → (bq (ims M) (ess M) t).1.length ≤ 255 := by
    intro t ht
    have b := BI_all (d := ims M) hE t (fun s hs => t2 s (by omega))
    have := len_lt (N := N) b.2.1 b.2.2.1 (bd t) (by omega)
    omega
  have hτ4 : τ % 4 = 0 := by
    apply Classical.byContradiction
    intro hn
    have a := t2 (τ - 1) (by omega)
    have b := bq_grow (d := ims M) (A := ess M) (τ - 1)
    rw [show τ - 1 + 1 = τ by omega] at b
    omega
  have hτ : τ ≤ 1020 := by
    apply Classical.byContradiction
    intro hn
    have := t2 (τ - 1) (by omega)
    have g := bq_grow (d := ims M) (A := ess M) (τ - 1)
    rw [show τ - 1 + 1 = τ by omega] at g
    omega
  have eLL : LL M = (bq (ims M) (ess M) τ).1 := by
    unfold LL
    rw [BQ_eq]
    obtain ⟨X, hX⟩ : ∃ X, X = 1020 := ⟨_, rfl⟩
    rw [← hX] at hτ ⊢
    obtain ⟨k, rfl⟩ : ∃ k, X = τ + k := ⟨X - τ, by omega⟩
    rw [bq_st t3]
  have key : wp (fX11_findSets 117 h) (fun h' => zfr [117, 133, 136, 137] h h' ∧ (∀ k, k ≠ 28 → k ≠ 23 → zI h' 117 k = zI h 117 k) ∧ stR M h') := by
    obtain ⟨h1, e1, p1, k1, s1⟩ := clearSeen_ok hs 0
    have hs1 := p1.shp hs
    have v14 : zI h1 117 14 = nI (ess M) := by rw [k1 14 (by decide)]; exact pr.1
    obtain ⟨h2, e2, p2, k2, s2⟩ := seI_0 (d := ims M) (A := ess M) (x := ess M) hs1 s1 (ess_lt M) rfl hE
    unfold fX11_findSets
    simp (disch := omega) only [e1, SR (hs), zl_eq, bsm, ZS, ZT, ZN, ZU, eq_self, true_and, and_true, and_self, or_true, true_or, or_false, false_or, not_true, not_false_eq_true, Nat.reduceAdd, Nat.reduceMul, Nat.reduceLT, Nat.reduceLeDiff, Nat.reduceEqDiff, ↓reduceIte, ZQ, Bool.true_eq_false, Bool.false_eq_true, Bool.not_true, Bool.not_false]
    simp (disch := omega) only [v14, e2, SR (hs1), zl_eq, bsm, ZS, ZT, ZN, ZU, eq_self, true_and, and_true, and_self, or_true, true_or, or_false, false_or, not_true, not_false_eq_true, Nat.reduceAdd, Nat.reduceMul, Nat.reduceLT, Nat.reduceLeDiff, Nat.reduceEqDiff, ↓reduceIte, ZQ, Bool.true_eq_false, Bool.false_eq_true, Bool.not_true, Bool.not_false]
    have p12 : zfr [117, 136, 137] h h2 := (p1.mono (by decide)).same p2
    refine wloop (fun p y => y.1 = nI p ∧ zfr [117, 136, 137] h y.2 ∧ (∀ k, k ≠ 28 → zI y.2 117 k = zI h 117 k) ∧ seI 0 (bq (ims M) (ess M) (4 * p)).1 y.2) (τ / 4) (fun p y self hp hy ih => ?_) (show τ / 4 < 100000 by omega) ⟨rfl, p12, fun k hk => by rw [k2 k hk, k1 k hk], s2⟩
    obtain ⟨y, h3⟩ := y
    obtain ⟨rfl, p3, k3, s3⟩ := hy
    dsimp only at p3 k3 s3
    have hs3 := p3.shp hs
    have v28 := s3.1
    have l3 := lens (4 * p) (by omega)
    show wp (kX11_findSets_14 117 self (nI p) h3) _
    unfold kX11_findSets_14
    by_cases hlt : p < τ / 4
    · have hpq := t2 (4 * p) (by omega)
      rw [show 4 * p / 4 = p by omega] at hpq
      simp (disch := omega) only [v28, Nat.not_le.mpr hpq, SR (hs3), zl_eq, bsm, ZS, ZT, ZN, ZU, eq_self, true_and, and_true, and_self, or_true, true_or, or_false, false_or, not_true, not_false_eq_true, Nat.reduceAdd, Nat.reduceMul, Nat.reduceLT, Nat.reduceLeDiff, Nat.reduceEqDiff, ↓reduceIte, ZQ, Bool.true_eq_false, Bool.false_eq_true, Bool.not_true, Bool.not_false]
      refine wloop (fun l y => y.1 = nI l ∧ zfr [117, 136, 137] h y.2 ∧ (∀ k, k ≠ 28 → zI y.2 117 k = zI h 117 k) ∧ seI 0 (bq (ims M) (ess M) (4 * p + l)).1 y.2) 4 (fun l y self2 hl hy ih2 => ?_) (by decide) ⟨rfl, p3, k3, s3⟩
      obtain ⟨y, h4⟩ := y
      obtain ⟨rfl, p4, k4, s4⟩ := hy
      dsimp only at p4 k4 s4
      have hs4 := p4.shp hs
      show wp (kX11_findSets_24 self 117 (nI p) self2 (nI l) h4) _
      unfold kX11_findSets_24 bX11_findSets_54
      by_cases hl4 : l < 4
      · have hpl := t2 (4 * p + l) (by omega)
        have hpl' : p < (bq (ims M) (ess M) (4 * p + l)).1.length := by rw [show (4 * p + l) / 4 = p by omega] at hpl; exact hpl
        have l5 := lens (4 * p + l + 1) (by omega)
        have v4 := s4.2.1 p hpl'
        rw [Nat.sub_zero] at v4
        have hS256 : (bq (ims M) (ess M) (4 * p + l)).1.getD p 0 < 256 := by rw [← hN]; exact bd _ _ (getD_mem hpl')
        have v5 : zI h4 126 (4 * (bq (ims M) (ess M) (4 * p + l)).1.getD p 0 + l) = nI (ims M ((bq (ims M) (ess M) (4 * p + l)).1.getD p 0) l) := by rw [p4.I (by decide)]; exact pr.2 _ hS256 l hl4
        have i256 := ims_lt (M := M) (S := (bq (ims M) (ess M) (4 * p + l)).1.getD p 0) hl4
        have ed : ims M ((bq (ims M) (ess M) (4 * p + l)).1.getD ((4 * p + l) / 4) 0) ((4 * p + l) % 4) = ims M ((bq (ims M) (ess M) (4 * p + l)).1.getD p 0) l := by rw [show (4 * p + l) / 4 = p by omega, show (4 * p + l) % 4 = l by omega]
        by_cases hz : ims M ((bq (ims M) (ess M) (4 * p + l)).1.getD p 0) l = 0
        · have ebq := bq_skip (d := ims M) (A := ess M) (t := 4 * p + l) (ed.trans hz)
          generalize (bq (ims M) (ess M) (4 * p + l)).1.getD p 0 = SS at v4 v5 hz hS256 i256
          simp (disch := omega) only [Nat.not_le.mpr hl4, v4, v5, eq_true hz, SR (hs4), zl_eq, bsm, ZS, ZT, ZN, ZU, eq_self, true_and, and_true, and_self, or_true, true_or, or_false, false_or, not_true, not_false_eq_true, Nat.reduceAdd, Nat.reduceMul, Nat.reduceLT, Nat.reduceLeDiff, Nat.reduceEqDiff, ↓reduceIte, ZQ, Bool.true_eq_false, Bool.false_eq_true, Bool.not_true, Bool.not_false]
          exact ih2 _ hl4 ⟨rfl, p4, k4, by rw [← Nat.add_assoc, ebq]; exact s4⟩
        · obtain ⟨h5, e5, p5, k5, s5⟩ := see_step hs4 s4 hpl i256 (by rw [ed]; rfl) hz (by omega)
          generalize (bq (ims M) (ess M) (4 * p + l)).1.getD p 0 = SS at v4 v5 hz hS256 i256 e5
          simp (disch := omega) only [Nat.not_le.mpr hl4, v4, v5, eq_false hz, e5, SR (hs4), zl_eq, bsm, ZS, ZT, ZN, ZU, eq_self, true_and, and_true, and_self, or_true, true_or, or_false, false_or, not_true, not_false_eq_true, Nat.reduceAdd, Nat.reduceMul, Nat.reduceLT, Nat.reduceLeDiff, Nat.reduceEqDiff, ↓reduceIte, ZQ, Bool.true_eq_false, Bool.false_eq_true, Bool.not_true, Bool.not_false]
          exact ih2 _ hl4 ⟨rfl, p4.same p5, fun k hk => by rw [k5 k hk, k4 k hk], s5⟩
      · have : l = 4 := by omega
        subst this
        simp (disch := omega) only [Nat.le_refl, SR (hs4), zl_eq, bsm, ZS, ZT, ZN, ZU, eq_self, true_and, and_true, and_self, or_true, true_or, or_false, false_or, not_true, not_false_eq_true, Nat.reduceAdd, Nat.reduceMul, Nat.reduceLT, Nat.reduceLeDiff, Nat.reduceEqDiff, ↓reduceIte, ZQ, Bool.true_eq_false, Bool.false_eq_true, Bool.not_true, Bool.not_false]
        exact ih _ hlt ⟨rfl, p4, k4, by rw [show 4 * (p + 1) = 4 * p + 4 by omega]; exact s4⟩
    · have hpe : 4 * p = τ := by omega
      rw [hpe, ← eLL] at s3 v28 l3
      have hend : (LL M).length ≤ p := by rw [eLL]; omega
      have p6 : zfr [117] h3 (zsI h3 (zu (zI h3) 117 23 (nI (LL M).length))) := zfr_uI
      have k6 : ∀ k, k ≠ 23 → zI (zsI h3 (zu (zI h3) 117 23 (nI (LL M).length))) 117 k = zI h3 117 k := fun k hk => by dsimp only [zI_zsI]; rw [zu_at, if_neg hk]
      have v6 : zI (zsI h3 (zu (zI h3) 117 23 (nI (LL M).length))) 117 23 = nI (LL M).length := by dsimp only [zI_zsI]; rw [zu_at, if_pos rfl]
      simp (disch := omega) only [v28, eq_true hend, SR (hs3), zl_eq, bsm, ZS, ZT, ZN, ZU, eq_self, true_and, and_true, and_self, or_true, true_or, or_false, false_or, not_true, not_false_eq_true, Nat.reduceAdd, Nat.reduceMul, Nat.reduceLT, Nat.reduceLeDiff, Nat.reduceEqDiff, ↓reduceIte, ZQ, Bool.true_eq_false, Bool.false_eq_true, Bool.not_true, Bool.not_false]
      generalize zsI h3 (zu (zI h3) 117 23 (nI (LL M).length)) = h6 at p6 k6 v6
      have hs6 := p6.shp hs3
      refine wloop (fun i y => y.1 = nI i ∧ zfr [133] h6 y.2 ∧ ∀ i', i' < i → zI y.2 133 i' = nI ((LL M).getD i' 0)) (LL M).length (fun i y self2 hi hy ih2 => ?_) (show (LL M).length < 100000 by omega) ⟨rfl, zfr.refl h6, fun i' hi' => by omega⟩
      obtain ⟨y, h7⟩ := y
      obtain ⟨rfl, p7, q7⟩ := hy
      dsimp only at p7 q7
      have hs7 := p7.shp hs6
      have v23 : zI h7 117 23 = nI (LL M).length := by rw [p7.I (by decide)]; exact v6
      show wp (kX11_findSets_76 117 self2 (nI i) h7) _
      unfold kX11_findSets_76
      by_cases hil : i < (LL M).length
      · have v5 : zI h7 137 i = nI ((LL M).getD i 0) := by
          rw [p7.I (by decide), p6.I (by decide)]
          have := s3.2.1 i hil
          rwa [Nat.sub_zero] at this
        simp (disch := omega) only [v23, Nat.not_le.mpr hil, v5, SR (hs7), zl_eq, bsm, ZS, ZT, ZN, ZU, eq_self, true_and, and_true, and_self, or_true, true_or, or_false, false_or, not_true, not_false_eq_true, Nat.reduceAdd, Nat.reduceMul, Nat.reduceLT, Nat.reduceLeDiff, Nat.reduceEqDiff, ↓reduceIte, ZQ, Bool.true_eq_false, Bool.false_eq_true, Bool.not_true, Bool.not_false]
        refine ih2 _ hil ⟨rfl, p7.same zfr_uI, fun i' hi' => ?_⟩
        dsimp only [zI_zsI]
        rw [zu_at]
        by_cases e : i' = i
        · rw [if_pos e, e]
        · rw [if_neg e]; exact q7 i' (by omega)
      · have hie : i = (LL M).length := by omega
        subst hie
        simp (disch := omega) only [v23, Nat.le_refl, SR (hs7), zl_eq, bsm, ZS, ZT, ZN, ZU, eq_self, true_and, and_true, and_self, or_true, true_or, or_false, false_or, not_true, not_false_eq_true, Nat.reduceAdd, Nat.reduceMul, Nat.reduceLT, Nat.reduceLeDiff, Nat.reduceEqDiff, ↓reduceIte, ZQ, Bool.true_eq_false, Bool.false_eq_true, Bool.not_true, Bool.not_false]
        exact wp_some ⟨(((p3.mono (by decide)).same (p6.mono (by decide))).same (p7.mono (by decide))), fun k h28 h23 => by rw [p7.I (by decide), k6 k h23, k3 k h28], v23, q7⟩
  obtain ⟨h', e, p, q⟩ := key
  exact ⟨h', e, p, q⟩
end SEE
