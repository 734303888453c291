/-! CALL: writeDifference, whole -/
section SP
variable {M1 M2 : Nat → Nat} {h h0 : ZH}
theorem m1_add (a : Nat) : nI a - nI 1 = nI a + (-1 : Int32) := by
  rw [show nI 1 = (1 : Int32) by decide]
  generalize nI a = x
  grind
theorem spellDR {τ : Nat} (hs : Sh h) (hA : 256 * ess M1 + ess M2 ≠ 0) (hr : dfB (256 * ess M1 + ess M2) = false) (hall : ∀ t, t < τ → t / 4 < ql M1 M2 t ∧ dfB (nx M1 M2 t) = false) (hp : τ / 4 < ql M1 M2 τ) (hd : dfB (nx M1 M2 τ) = true) (rf : Rfin M1 M2 h0 τ h) (hL : dp (fun i => (bq (pd M1 M2) (256 * ess M1 + ess M2) τ).2.getD i 0) (τ / 4) + 1 ≤ 511) : ∃ h', fX11_spellDifference 117 (nI (256 * ess M1 + ess M2)) (nI (nx M1 M2 τ)) h = some (nI (dp (fun i => (bq (pd M1 M2) (256 * ess M1 + ess M2) τ).2.getD i 0) (τ / 4) + 1), h') ∧ zfr [117, 125, 124] h h' ∧ (∀ k, k ≠ 12 → k ≠ 10 → zI h' 117 k = zI h 117 k) ∧ txR (dp (fun i => (bq (pd M1 M2) (256 * ess M1 + ess M2) τ).2.getD i 0) (τ / 4) + 1) (fun i => 97 + am (fun i => (bq (pd M1 M2) (256 * ess M1 + ess M2) τ).2.getD i 0) τ (dp (fun i => (bq (pd M1 M2) (256 * ess M1 + ess M2) τ).2.getD i 0) (τ / 4) - i) % 4) h' := by
  obtain ⟨-, r2, r3⟩ := rf
  have bI := BI_all (d := pd M1 M2) hA τ (fun s hs => (hall s hs).1)
  have ha : ∀ i, 1 ≤ i → i < ql M1 M2 τ → (fun i => (bq (pd M1 M2) (256 * ess M1 + ess M2) τ).2.getD i 0) i / 4 < i := fun i h1 h2 => (bI.2.2.2.2.2.1 i h1 h2).2.1
  have q0 : (bq (pd M1 M2) (256 * ess M1 + ess M2) τ).1.getD 0 0 = 256 * ess M1 + ess M2 := bI.2.2.2.2.1
  have hnd := bI.2.1
  have hq65 : ∀ i, i < ql M1 M2 τ → (bq (pd M1 M2) (256 * ess M1 + ess M2) τ).1.getD i 0 < 65536 := fun i hi => bq_lt τ _ (getD_mem hi)
  have hlen : (bq (pd M1 M2) (256 * ess M1 + ess M2) τ).1.length = ql M1 M2 τ := rfl
  have hn65 : nx M1 M2 τ < 65536 := pd_lt (Nat.mod_lt _ (by decide))
  have hnA : nx M1 M2 τ ≠ 256 * ess M1 + ess M2 := fun z => by rw [z, hr] at hd; cases hd
  have hA65 : 256 * ess M1 + ess M2 < 65536 := by have := ess_lt M1; have := ess_lt M2; omega
  have qpos : 0 < ql M1 M2 τ := bI.2.2.2.1
  generalize (bq (pd M1 M2) (256 * ess M1 + ess M2) τ).1 = Q at r2 r3 q0 hnd hq65 hlen
  have r3' : ∀ i, 1 ≤ i → i < ql M1 M2 τ → zI h 146 (Q.getD i 0) = nI (4 * Q.getD ((fun i => (bq (pd M1 M2) (256 * ess M1 + ess M2) τ).2.getD i 0) i / 4) 0 + (fun i => (bq (pd M1 M2) (256 * ess M1 + ess M2) τ).2.getD i 0) i % 4) := r3
  generalize (fun i => (bq (pd M1 M2) (256 * ess M1 + ess M2) τ).2.getD i 0) = a at ha hL r3' ⊢
  have amo := am_ok ha hp
  have am0 : ∀ {m}, m ≤ dp a (τ / 4) → (am a τ m / 4 = 0 ↔ m = dp a (τ / 4)) := fun hm => am_0 ha hp hm
  generalize dp a (τ / 4) = D at hL amo am0 ⊢
  generalize 256 * ess M1 + ess M2 = A at hA q0 hnA hA65 ⊢
  generalize nx M1 M2 τ = P at r2 hn65 hnA hd ⊢
  generalize ql M1 M2 τ = N at hp ha hq65 hlen r3' amo qpos
  -- the pairs on the way back
  obtain ⟨X, hX⟩ : ∃ X : Nat → Nat, X = fun m => match m with | 0 => P | m + 1 => Q.getD (am a τ m / 4) 0 := ⟨_, rfl⟩
  have X0 : X 0 = P := by rw [hX]
  have Xs : ∀ m, X (m + 1) = Q.getD (am a τ m / 4) 0 := fun m => by rw [hX]
  have X65 : ∀ m, m ≤ D + 1 → X m < 65536 := by
    intro m hm
    cases m with
    | zero => rw [X0]; exact hn65
    | succ m => rw [Xs]; exact hq65 _ (amo m (by omega)).1
  have XA : ∀ m, m ≤ D + 1 → (X m = A ↔ m = D + 1) := by
    intro m hm
    cases m with
    | zero =>
      rw [X0]
      constructor
      · intro z; exact absurd z hnA
      · intro z; omega
    | succ m =>
      rw [Xs, ← q0]
      constructor
      · intro z
        have := getD_inj hnd (by rw [hlen]; exact (amo m (by omega)).1) (by rw [hlen]; exact qpos) z
        have := (am0 (by omega)).mp this
        omega
      · intro z
        rw [(am0 (m := m) (by omega)).mpr (by omega)]
  have come : ∀ m, m ≤ D → zI h 146 (X m) = nI (4 * X (m + 1) + am a τ m % 4) := by
    intro m hm
    cases m with
    | zero =>
      rw [X0, Xs]
      exact r2
    | succ m =>
      have o := amo m (by omega)
      have hne : am a τ m / 4 ≠ 0 := fun z => by have := (am0 (m := m) (by omega)).mp z; omega
      rw [Xs, Xs, r3' _ (by omega) o.1]
      rfl
  have key : wp (fX11_spellDifference 117 (nI A) (nI P) h) (fun r => r.1 = nI (D + 1) ∧ zfr [117, 125, 124] h r.2 ∧ (∀ k, k ≠ 12 → k ≠ 10 → zI r.2 117 k = zI h 117 k) ∧ txR (D + 1) (fun i => 97 + am a τ (D - i) % 4) r.2) := by
    have p1 : zfr [117] h (zsI h (zu (zI h) 117 12 (nI 0))) := zfr_uI
    have z1 : zI (zsI h (zu (zI h) 117 12 (nI 0))) 117 12 = nI 0 := by dsimp only [zI_zsI]; rw [zu_at, if_pos rfl]
    have o1 : ∀ k, k ≠ 12 → zI (zsI h (zu (zI h) 117 12 (nI 0))) 117 k = zI h 117 k := fun k hk => by dsimp only [zI_zsI]; rw [zu_at, if_neg hk]
    unfold fX11_spellDifference
    simp (disch := omega) only [SR (hs), zl_eq, bsm, ZS, ZT, ZN, ZU, eq_self, true_and, and_true, and_self, or_true, true_or, or_false, false_or, not_true, not_false_eq_true, Nat.reduceAdd, Nat.reduceMul, Nat.reduceLT, Nat.reduceLeDiff, Nat.reduceEqDiff, ↓reduceIte, ZQ, Bool.true_eq_false, Bool.false_eq_true, Bool.not_true, Bool.not_false]
    generalize zsI h (zu (zI h) 117 12 (nI 0)) = h1 at p1 z1 o1
    refine wloop (fun m y => y.1 = nI (X m) ∧ zfr [117] h y.2 ∧ zI y.2 117 12 = nI m ∧ ∀ k, k ≠ 12 → zI y.2 117 k = zI h 117 k) (D + 1) (fun m y self hm hy ih => ?_) (show D + 1 < 100000 by omega) ⟨by rw [X0], p1, z1, o1⟩
    obtain ⟨y1, h2⟩ := y
    obtain ⟨rfl, p2, z2, o2⟩ := hy
    dsimp only at p2 z2 o2
    have hs2 := p2.shp hs
    have x65 := X65 m hm
    show wp (kX11_spellDifference_7 117 (nI A) (nI P) self (nI (X m)) h2) _
    unfold kX11_spellDifference_7
    by_cases hlt : m < D + 1
    · have hne : ¬ (X m = A) := fun z => by have := (XA m hm).mp z; omega
      have c1 : zI h2 146 (X m) = nI (4 * X (m + 1) + am a τ m % 4) := by rw [p2.I (by decide)]; exact come m (by omega)
      have x65' := X65 (m + 1) (by omega)
      have p3 : zfr [117] h (zsI h2 (zu (zI h2) 117 12 (nI (m + 1)))) := p2.same zfr_uI
      have z3 : zI (zsI h2 (zu (zI h2) 117 12 (nI (m + 1)))) 117 12 = nI (m + 1) := by dsimp only [zI_zsI]; rw [zu_at, if_pos rfl]
      have o3 : ∀ k, k ≠ 12 → zI (zsI h2 (zu (zI h2) 117 12 (nI (m + 1)))) 117 k = zI h 117 k := fun k hk => by dsimp only [zI_zsI]; rw [zu_at, if_neg hk]; exact o2 k hk
      simp (disch := omega) only [eq_false hne, z2, c1, show (4 * X (m + 1) + am a τ m % 4) / 4 = X (m + 1) by omega, SR (hs2), zl_eq, bsm, ZS, ZT, ZN, ZU, eq_self, true_and, and_true, and_self, or_true, true_or, or_false, false_or, not_true, not_false_eq_true, Nat.reduceAdd, Nat.reduceMul, Nat.reduceLT, Nat.reduceLeDiff, Nat.reduceEqDiff, ↓reduceIte, ZQ, Bool.true_eq_false, Bool.false_eq_true, Bool.not_true, Bool.not_false]
      exact ih _ hlt ⟨rfl, p3, z3, o3⟩
    · have hmD : m = D + 1 := by omega
      have hA' : X m = A := (XA m hm).mpr hmD
      rw [hmD] at z2
      simp (disch := omega) only [eq_true hA', z2, SR (hs2), zl_eq, bsm, ZS, ZT, ZN, ZU, eq_self, true_and, and_true, and_self, or_true, true_or, or_false, false_or, not_true, not_false_eq_true, Nat.reduceAdd, Nat.reduceMul, Nat.reduceLT, Nat.reduceLeDiff, Nat.reduceEqDiff, ↓reduceIte, ZQ, Bool.true_eq_false, Bool.false_eq_true, Bool.not_true, Bool.not_false]
      rw [show D + 1 - 1 = D by omega, ← nI_prd D]
      refine wloop (fun m y => y.1 = nI (D + 1 - m) + (-1 : Int32) ∧ y.2.1 = nI (X m) ∧ zfr [125] h2 y.2.2 ∧ ∀ i, D + 1 - m ≤ i → i < D + 1 → zI y.2.2 125 i = nI (am a τ (D - i) % 4)) (D + 1) (fun m y self2 hm hy ih2 => ?_) (show D + 1 < 100000 by omega) ⟨rfl, by rw [X0], zfr.refl h2, fun i h1 h2 => by omega⟩
      obtain ⟨y1, y2, h3⟩ := y
      obtain ⟨rfl, rfl, p3, q3⟩ := hy
      dsimp only at p3 q3
      have hs3 := p3.shp hs2
      have x65 := X65 m hm
      show wp (kX11_spellDifference_44 117 (nI A) self2 (nI (D + 1 - m) + (-1 : Int32)) (nI (X m)) h3) _
      unfold kX11_spellDifference_44
      by_cases hlt2 : m < D + 1
      · have hne : ¬ (X m = A) := fun z => by have := (XA m hm).mp z; omega
        have c1 : zI h3 146 (X m) = nI (4 * X (m + 1) + am a τ m % 4) := by rw [p3.I (by decide), p2.I (by decide)]; exact come m (by omega)
        have x65' := X65 (m + 1) (by omega)
        have ei : nI (D + 1 - m) + (-1 : Int32) = nI (D + 1 - (m + 1)) := by rw [show D + 1 - m = (D + 1 - (m + 1)) + 1 by omega]; exact nI_prd _
        rw [ei]
        simp (disch := omega) only [eq_false hne, c1, show (4 * X (m + 1) + am a τ m % 4) / 4 = X (m + 1) by omega, show (4 * X (m + 1) + am a τ m % 4) % 4 = am a τ m % 4 by omega, SR (hs3), zl_eq, bsm, ZS, ZT, ZN, ZU, eq_self, true_and, and_true, and_self, or_true, true_or, or_false, false_or, not_true, not_false_eq_true, Nat.reduceAdd, Nat.reduceMul, Nat.reduceLT, Nat.reduceLeDiff, Nat.reduceEqDiff, ↓reduceIte, ZQ, Bool.true_eq_false, Bool.false_eq_true, Bool.not_true, Bool.not_false]
        refine ih2 _ hlt2 ⟨rfl, rfl, p3.same zfr_uI, fun i h1 h2 => ?_⟩
        dsimp only [zI_zsI]
        rw [zu_at]
        by_cases e : i = D + 1 - (m + 1)
        · rw [if_pos e, show D - i = m by omega]
        · rw [if_neg e]
          exact q3 i (by omega) h2
      · have hmD : m = D + 1 := by omega
        have hA' : X m = A := (XA m hm).mpr hmD
        obtain ⟨h5, e5, p5, k5, t5⟩ := writeOut_ok (n := D + 1) (w := fun i => am a τ (D - i) % 4) hs3 (by omega) (by rw [p3.I (by decide)]; exact z2) (fun i hi => q3 i (by omega) hi)
        simp (disch := omega) only [eq_true hA', e5, SR (hs3), zl_eq, bsm, ZS, ZT, ZN, ZU, eq_self, true_and, and_true, and_self, or_true, true_or, or_false, false_or, not_true, not_false_eq_true, Nat.reduceAdd, Nat.reduceMul, Nat.reduceLT, Nat.reduceLeDiff, Nat.reduceEqDiff, ↓reduceIte, ZQ, Bool.true_eq_false, Bool.false_eq_true, Bool.not_true, Bool.not_false]
        exact wp_some ⟨rfl, ((p2.trans p3).trans p5).mono (by decide), fun k h12 h10 => by rw [k5 k h10, p3.I (by decide), o2 k h12], t5⟩
  obtain ⟨⟨r, h'⟩, e, q1, q2⟩ := key
  dsimp only at q1
  subst q1
  exact ⟨h', e, q2⟩
end SP
/-- the reference, up to its search -/
theorem diffR {G : Nat → Nat → Nat} {h : ZH} {s r : Nat} {Q : Int32 × ZH → Prop} (hs : Sh h) (g : rG G h) (h6 : s < 6) (hr : r < 6)
    (K : ∀ h1, zfr [117, 126, 144, 146] h h1 → (∀ k, k ≠ 14 → zI h1 117 k = zI h 117 k) → (∀ S, S < 256 → ∀ l, l < 4 → zI h1 126 (4 * S + l) = nI (ims (G s) S l)) → (∀ S, S < 256 → ∀ l, l < 4 → zI h1 144 (4 * S + l) = nI (ims (G r) S l)) → (∀ P, P < 65536 → zI h1 146 P = -1) → wp (bX11_writeDifference_120 117 (nI (256 * ess (G s) + ess (G r))) (nI (decide (ess (G r) = 0)).toNat) (nI (decide (ess (G s) = 0)).toNat) h1) Q) : wp (fX11_writeDifference 117 (nI s) (nI r) h) Q := by
  obtain ⟨h1, e1, p1, k1, pr1⟩ := prepare_ok hs g hr
  have hs1 := p1.shp hs
  unfold fX11_writeDifference
  simp (disch := omega) only [e1, SR (hs), zl_eq, bsm, ZS, ZT, ZN, ZU, eq_self, true_and, and_true, and_self, or_true, true_or, or_false, false_or, not_true, not_false_eq_true, Nat.reduceAdd, Nat.reduceMul, Nat.reduceLT, Nat.reduceLeDiff, Nat.reduceEqDiff, ↓reduceIte, ZQ, Bool.true_eq_false, Bool.false_eq_true, Bool.not_true, Bool.not_false]
  simp (disch := omega) only [pr1.1, SR (hs1), zl_eq, bsm, ZS, ZT, ZN, ZU, eq_self, true_and, and_true, and_self, or_true, true_or, or_false, false_or, not_true, not_false_eq_true, Nat.reduceAdd, Nat.reduceMul, Nat.reduceLT, Nat.reduceLeDiff, Nat.reduceEqDiff, ↓reduceIte, ZQ, Bool.true_eq_false, Bool.false_eq_true, Bool.not_true, Bool.not_false]
  have p2 : zfr [144] h1 (zsI h1 (zfil (zI h1) 144 1024 (fun i => zI h1 126 i))) := zfr_filI
  have v2 : ∀ i, i < 1024 → zI (zsI h1 (zfil (zI h1) 144 1024 (fun i => zI h1 126 i))) 144 i = zI h1 126 i := fun i hi => by
    dsimp only [zI_zsI]
    exact zfil_in hi
  have main : wp (zloop (lX11_writeDifference_66 117 (nI (ess (G r)))) zfu (nI 0, h1)) (fun _ => True) ∨ True := Or.inr trivial
  have tail : ∀ h2, zfr [144] h1 h2 → (∀ i, i < 1024 → zI h2 144 i = zI h1 126 i) → wp ((fX11_prepare 117 (nI s) h2).bind fun h3 => zloop (lX11_writeDifference_66 117 (nI (ess (G r)))) zfu (nI 0, h3)) Q := by
    intro h2 p2 v2
    have hs2 := p2.shp hs1
    have g2 : rG G h2 := (g.fr p1 (by decide)).fr p2 (by decide)
    obtain ⟨h3, e3, p3, k3, pr3⟩ := prepare_ok hs2 g2 h6
    have hs3 := p3.shp hs2
    rw [e3, bsm]
    have p4 : zfr [146] h3 (zsI h3 (zfil (zI h3) 146 65536 (fun _ => -1))) := zfr_filI
    have v4 : ∀ i, i < 65536 → zI (zsI h3 (zfil (zI h3) 146 65536 (fun _ => -1))) 146 i = -1 := fun i hi => by
      dsimp only [zI_zsI]
      exact zfil_in hi
    have hs4 := p4.shp hs3
    have z14 : zI (zsI h3 (zfil (zI h3) 146 65536 (fun _ => -1))) 117 14 = nI (ess (G s)) := by rw [p4.I (by decide)]; exact pr3.1
    have kk := K (zsI h3 (zfil (zI h3) 146 65536 (fun _ => -1))) ((((p1.trans p2).trans p3).trans p4).mono (by decide)) (fun k hk => by rw [p4.I (by decide), k3 k hk, p2.I (by decide), k1 k hk]) (fun S hS l hl => by rw [p4.I (by decide)]; exact pr3.2 S hS l hl) (fun S hS l hl => by rw [p4.I (by decide), p3.I (by decide), v2 _ (by omega)]; exact pr1.2 S hS l hl) v4
    have efin : zloop (lX11_writeDifference_66 117 (nI (ess (G r)))) zfu (nI 0, h3) = bX11_writeDifference_120 117 (nI (256 * ess (G s) + ess (G r))) (nI (decide (ess (G r) = 0)).toNat) (nI (decide (ess (G s) = 0)).toNat) (zsI h3 (zfil (zI h3) 146 65536 (fun _ => -1))) := by
      refine zfill 146 65536 (fun _ => -1) (fun j hj self => ?_) (fun self => ?_) (by decide)
      · show kX11_writeDifference_66 117 (nI (ess (G r))) self (nI j) _ = _
        unfold kX11_writeDifference_66
        simp (disch := omega) only [i65536, Nat.not_le.mpr hj, SR (hs3), zl_eq, bsm, ZS, ZT, ZN, ZU, eq_self, true_and, and_true, and_self, or_true, true_or, or_false, false_or, not_true, not_false_eq_true, Nat.reduceAdd, Nat.reduceMul, Nat.reduceLT, Nat.reduceLeDiff, Nat.reduceEqDiff, ↓reduceIte, ZQ, Bool.true_eq_false, Bool.false_eq_true, Bool.not_true, Bool.not_false]
      · show kX11_writeDifference_66 117 (nI (ess (G r))) self (nI 65536) _ = _
        have b1 := ess_lt (G s)
        have b2 := ess_lt (G r)
        unfold kX11_writeDifference_66
        generalize zsI h3 (zfil (zI h3) 146 65536 (fun _ => -1)) = h4 at hs4 z14
        by_cases c1 : ess (G s) = 0 <;> by_cases c2 : ess (G r) = 0
        · unfold bX11_writeDifference_111
          simp (disch := omega) only [i65536, Nat.le_refl, z14, eq_true c1, eq_true c2, SR (hs4), zl_eq, bsm, ZS, ZT, ZN, ZU, eq_self, true_and, and_true, and_self, or_true, true_or, or_false, false_or, not_true, not_false_eq_true, Nat.reduceAdd, Nat.reduceMul, Nat.reduceLT, Nat.reduceLeDiff, Nat.reduceEqDiff, ↓reduceIte, ZQ, Bool.true_eq_false, Bool.false_eq_true, Bool.not_true, Bool.not_false]
          simp [c1, c2]
        · unfold bX11_writeDifference_111
          simp (disch := omega) only [i65536, Nat.le_refl, z14, eq_true c1, eq_false c2, SR (hs4), zl_eq, bsm, ZS, ZT, ZN, ZU, eq_self, true_and, and_true, and_self, or_true, true_or, or_false, false_or, not_true, not_false_eq_true, Nat.reduceAdd, Nat.reduceMul, Nat.reduceLT, Nat.reduceLeDiff, Nat.reduceEqDiff, ↓reduceIte, ZQ, Bool.true_eq_false, Bool.false_eq_true, Bool.not_true, Bool.not_false]
          simp [c1, c2]
        · unfold bX11_writeDifference_111
          simp (disch := omega) only [i65536, Nat.le_refl, z14, eq_false c1, eq_true c2, SR (hs4), zl_eq, bsm, ZS, ZT, ZN, ZU, eq_self, true_and, and_true, and_self, or_true, true_or, or_false, false_or, not_true, not_false_eq_true, Nat.reduceAdd, Nat.reduceMul, Nat.reduceLT, Nat.reduceLeDiff, Nat.reduceEqDiff, ↓reduceIte, ZQ, Bool.true_eq_false, Bool.false_eq_true, Bool.not_true, Bool.not_false]
          simp [c1, c2]
        · unfold bX11_writeDifference_111
          simp (disch := omega) only [i65536, Nat.le_refl, z14, eq_false c1, eq_false c2, SR (hs4), zl_eq, bsm, ZS, ZT, ZN, ZU, eq_self, true_and, and_true, and_self, or_true, true_or, or_false, false_or, not_true, not_false_eq_true, Nat.reduceAdd, Nat.reduceMul, Nat.reduceLT, Nat.reduceLeDiff, Nat.reduceEqDiff, ↓reduceIte, ZQ, Bool.true_eq_false, Bool.false_eq_true, Bool.not_true, Bool.not_false]
          simp [c1, c2]
    rw [efin]
    exact kk
  have e2 : zloop (lX11_writeDifference_30 117 (nI s) (nI (ess (G r)))) zfu (nI 0, h1) = ((fX11_prepare 117 (nI s) (zsI h1 (zfil (zI h1) 144 1024 (fun i => zI h1 126 i)))).bind fun h3 => zloop (lX11_writeDifference_66 117 (nI (ess (G r)))) zfu (nI 0, h3)) := by
    refine zfill 144 1024 (fun i => zI h1 126 i) (fun j hj self => ?_) (fun self => ?_) (by decide)
    · show kX11_writeDifference_30 117 (nI s) (nI (ess (G r))) self (nI j) _ = _
      unfold kX11_writeDifference_30
      simp (disch := omega) only [Nat.not_le.mpr hj, zfil_ne (show (126 : Nat) ≠ 144 by decide), SR (hs1), zl_eq, bsm, ZS, ZT, ZN, ZU, eq_self, true_and, and_true, and_self, or_true, true_or, or_false, false_or, not_true, not_false_eq_true, Nat.reduceAdd, Nat.reduceMul, Nat.reduceLT, Nat.reduceLeDiff, Nat.reduceEqDiff, ↓reduceIte, ZQ, Bool.true_eq_false, Bool.false_eq_true, Bool.not_true, Bool.not_false]
    · show kX11_writeDifference_30 117 (nI s) (nI (ess (G r))) self (nI 1024) _ = _
      unfold kX11_writeDifference_30
      rw [if_pos (by decide)]
  rw [e2]
  exact tail _ p2 v2
