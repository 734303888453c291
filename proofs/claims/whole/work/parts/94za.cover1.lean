/-! COVER: the reference numbers the vertices -/
section FCV
variable {h0 h : ZH} {n v0 : Nat} {le : Nat → Nat → Nat}
/-- the numbers given so far -/
def nuR (Q : List Nat) (p : Nat) (h : ZH) : Prop := ∀ i, i < p → zI h 142 (Q.getD i 0 - 1) = nI i
/-- the search over the vertices, up to what follows it -/
theorem numR {P : Int32 × ZH → Prop} {τ : Nat} (hs0 : Sh h0) (h8 : n ≤ 8) (hv : v0 < n) (lr : leR n le h0) (hle : ∀ v l, v < n → l < 4 → le v l ≤ n) (t2 : ∀ t, t < τ → t / 4 < (bq (vF le) (v0 + 1) t).1.length) (t3 : (bq (vF le) (v0 + 1) τ).1.length ≤ τ / 4) (hτ4 : τ % 4 = 0) (hτn : τ / 4 ≤ n) (hb : ∀ t, t ≤ τ → (bq (vF le) (v0 + 1) t).1.length ≤ n ∧ ∀ P, P ∈ (bq (vF le) (v0 + 1) t).1 → 1 ≤ P ∧ P ≤ n) (s0 : seI 1 (bq (vF le) (v0 + 1) 0).1 h0)
    (K : ∀ h', zfr [117, 136, 137, 142] h0 h' → (∀ k, k ≠ 28 → zI h' 117 k = zI h0 117 k) → nuR (bq (vF le) (v0 + 1) τ).1 (bq (vF le) (v0 + 1) τ).1.length h' → wp (zloop (lX11_findCover_99 117) zfu (nI 0, h')) P) : wp (zloop (lX11_findCover_26 117) zfu (nI 0, h0)) P := by
  have BIt : ∀ t, t ≤ τ → BI (vF le) (v0 + 1) t (bq (vF le) (v0 + 1) t) := fun t ht => BI_all (by omega) t (fun s hs => t2 s (by omega))
  refine wloop (fun p y => y.1 = nI p ∧ zfr [117, 136, 137, 142] h0 y.2 ∧ (∀ k, k ≠ 28 → zI y.2 117 k = zI h0 117 k) ∧ seI 1 (bq (vF le) (v0 + 1) (4 * p)).1 y.2 ∧ nuR (bq (vF le) (v0 + 1) (4 * p)).1 p y.2) (τ / 4) (fun p y self hp hy ih => ?_) (show τ / 4 < 100000 by omega) ⟨rfl, zfr.refl h0, fun _ _ => rfl, s0, fun i hi => by omega⟩
  obtain ⟨y, h3⟩ := y
  obtain ⟨rfl, p3, k3, s3, u3⟩ := hy
  dsimp only at p3 k3 s3 u3
  have hs3 := p3.shp hs0
  have v28 := s3.1
  have l3 := (hb (4 * p) (by omega)).1
  show wp (kX11_findCover_26 117 self (nI p) h3) _
  unfold kX11_findCover_26
  by_cases hlt : p < τ / 4
  · have hpq := t2 (4 * p) (by omega)
    rw [show 4 * p / 4 = p by omega] at hpq
    have v5 := s3.2.1 p hpq
    have bp := (hb (4 * p) (by omega)).2 _ (getD_mem hpq)
    have nd3 := (BIt (4 * p) (by omega)).2.1
    have p4 : zfr [117, 136, 137, 142] h0 (zsI h3 (zu (zI h3) 142 ((bq (vF le) (v0 + 1) (4 * p)).1.getD p 0 - 1) (nI p))) := p3.same (zfr_uI.mono (by decide))
    have w4 : zfr [142] h3 (zsI h3 (zu (zI h3) 142 ((bq (vF le) (v0 + 1) (4 * p)).1.getD p 0 - 1) (nI p))) := zfr_uI
    have u4 : nuR (bq (vF le) (v0 + 1) (4 * p)).1 (p + 1) (zsI h3 (zu (zI h3) 142 ((bq (vF le) (v0 + 1) (4 * p)).1.getD p 0 - 1) (nI p))) := by
      intro i hi
      dsimp only [zI_zsI]
      rw [zu_at]
      by_cases e : i = p
      · rw [e, if_pos rfl]
      · have bi := (hb (4 * p) (by omega)).2 _ (getD_mem (show i < (bq (vF le) (v0 + 1) (4 * p)).1.length by omega))
        rw [if_neg (fun z => e (getD_inj nd3 (by omega) hpq (by omega)))]
        exact u3 i (by omega)
    generalize hX : (bq (vF le) (v0 + 1) (4 * p)).1.getD p 0 = X at v5 bp p4 w4 u4
    simp (disch := omega) only [v28, Nat.not_le.mpr hpq, v5, SR (hs3), zl_eq, bsm, ZS, ZT, ZN, ZU, eq_self, true_and, and_true, and_self, or_true, true_or, or_false, false_or, not_true, not_false_eq_true, Nat.reduceAdd, Nat.reduceMul, Nat.reduceLT, Nat.reduceLeDiff, Nat.reduceEqDiff, ↓reduceIte, ZQ, Bool.true_eq_false, Bool.false_eq_true, Bool.not_true, Bool.not_false]
    generalize zsI h3 (zu (zI h3) 142 (X - 1) (nI p)) = h4 at p4 w4 u4
    have s4 := s3.fr w4 (by decide) (by decide) (by rw [w4.I (by decide)])
    have k4 : ∀ k, k ≠ 28 → zI h4 117 k = zI h0 117 k := fun k hk => by rw [w4.I (by decide), k3 k hk]
    refine wloop (fun l y => y.1 = nI l ∧ zfr [117, 136, 137, 142] h0 y.2 ∧ (∀ k, k ≠ 28 → zI y.2 117 k = zI h0 117 k) ∧ seI 1 (bq (vF le) (v0 + 1) (4 * p + l)).1 y.2 ∧ nuR (bq (vF le) (v0 + 1) (4 * p)).1 (p + 1) y.2) 4 (fun l y self2 hl hy ih2 => ?_) (by decide) ⟨rfl, p4, k4, s4, u4⟩
    clear u4 p4 w4 s4 k4
    obtain ⟨y, h5⟩ := y
    obtain ⟨rfl, p5, k5, s5, u5⟩ := hy
    dsimp only at p5 k5 s5 u5
    have hs5 := p5.shp hs0
    show wp (kX11_findCover_49 self 117 (nI p) self2 (nI l) h5) _
    unfold kX11_findCover_49 bX11_findCover_85
    by_cases hl4 : l < 4
    · have hpl := t2 (4 * p + l) (by omega)
      have hpl' : p < (bq (vF le) (v0 + 1) (4 * p + l)).1.length := by rw [show (4 * p + l) / 4 = p by omega] at hpl; exact hpl
      obtain ⟨R, eR⟩ := bq_prf (d := vF le) (A := v0 + 1) (t := 4 * p) l
      have eX : (bq (vF le) (v0 + 1) (4 * p + l)).1.getD p 0 = X := by rw [eR, getD_app hpq]; exact hX
      have v6 := s5.2.1 p hpl'
      rw [eX] at v6
      have l6 := (hb (4 * p + l + 1) (by omega)).1
      have v7 : zI h5 139 (4 * (X - 1) + l) = if le (X - 1) l = 0 then -1 else nI (le (X - 1) l - 1) := by rw [p5.I (by decide)]; exact lr _ (by omega) l hl4
      have lb := hle (X - 1) l (by omega) hl4
      have ed : vF le ((bq (vF le) (v0 + 1) (4 * p + l)).1.getD ((4 * p + l) / 4) 0) ((4 * p + l) % 4) = le (X - 1) l := by
        rw [show (4 * p + l) / 4 = p by omega, show (4 * p + l) % 4 = l by omega, eX]
        unfold vF
        rw [if_neg (by omega)]
      by_cases hz : le (X - 1) l = 0
      · rw [if_pos hz] at v7
        have ebq := bq_skip (d := vF le) (A := v0 + 1) (t := 4 * p + l) (ed.trans hz)
        simp (disch := omega) only [Nat.not_le.mpr hl4, v6, v7, SR (hs5), zl_eq, bsm, ZS, ZT, ZN, ZU, eq_self, true_and, and_true, and_self, or_true, true_or, or_false, false_or, not_true, not_false_eq_true, Nat.reduceAdd, Nat.reduceMul, Nat.reduceLT, Nat.reduceLeDiff, Nat.reduceEqDiff, ↓reduceIte, ZQ, Bool.true_eq_false, Bool.false_eq_true, Bool.not_true, Bool.not_false]
        exact ih2 _ hl4 ⟨rfl, p5, k5, by rw [← Nat.add_assoc, ebq]; exact s5, u5⟩
      · rw [if_neg hz] at v7
        obtain ⟨h6, e6, p6, k6, s6⟩ := see_step hs5 s5 hpl (x := le (X - 1) l - 1) (by omega) (by rw [ed]; omega) (by omega) (by omega)
        simp (disch := omega) only [Nat.not_le.mpr hl4, v6, v7, e6, SR (hs5), zl_eq, bsm, ZS, ZT, ZN, ZU, eq_self, true_and, and_true, and_self, or_true, true_or, or_false, false_or, not_true, not_false_eq_true, Nat.reduceAdd, Nat.reduceMul, Nat.reduceLT, Nat.reduceLeDiff, Nat.reduceEqDiff, ↓reduceIte, ZQ, Bool.true_eq_false, Bool.false_eq_true, Bool.not_true, Bool.not_false]
        exact ih2 _ hl4 ⟨rfl, p5.same (p6.mono (by decide)), fun k hk => by rw [k6 k hk, k5 k hk], s6, fun i hi => by rw [p6.I (by decide)]; exact u5 i hi⟩
    · have : l = 4 := by omega
      subst this
      simp (disch := omega) only [Nat.le_refl, SR (hs5), zl_eq, bsm, ZS, ZT, ZN, ZU, eq_self, true_and, and_true, and_self, or_true, true_or, or_false, false_or, not_true, not_false_eq_true, Nat.reduceAdd, Nat.reduceMul, Nat.reduceLT, Nat.reduceLeDiff, Nat.reduceEqDiff, ↓reduceIte, ZQ, Bool.true_eq_false, Bool.false_eq_true, Bool.not_true, Bool.not_false]
      obtain ⟨R, eR⟩ := bq_prf (d := vF le) (A := v0 + 1) (t := 4 * p) 4
      refine ih _ hlt ⟨rfl, p5, k5, by rw [show 4 * (p + 1) = 4 * p + 4 by omega]; exact s5, fun i hi => ?_⟩
      rw [show 4 * (p + 1) = 4 * p + 4 by omega, eR, getD_app (by omega)]
      exact u5 i hi
  · have hpe : 4 * p = τ := by omega
    rw [hpe] at s3 v28 l3 u3
    have hend : (bq (vF le) (v0 + 1) τ).1.length ≤ p := by omega
    simp (disch := omega) only [v28, eq_true hend, SR (hs3), zl_eq, bsm, ZS, ZT, ZN, ZU, eq_self, true_and, and_true, and_self, or_true, true_or, or_false, false_or, not_true, not_false_eq_true, Nat.reduceAdd, Nat.reduceMul, Nat.reduceLT, Nat.reduceLeDiff, Nat.reduceEqDiff, ↓reduceIte, ZQ, Bool.true_eq_false, Bool.false_eq_true, Bool.not_true, Bool.not_false]
    exact K h3 p3 k3 (fun i hi => u3 i (by omega))
end FCV
