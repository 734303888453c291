/-! CALL: writeDifference: the object spells the word -/
def am (a : Nat → Nat) (τ : Nat) : Nat → Nat
  | 0 => τ
  | m + 1 => a (am a τ m / 4)
theorem am_ok {a : Nat → Nat} {n τ : Nat} (ha : ∀ i, 1 ≤ i → i < n → a i / 4 < i) (hτ : τ / 4 < n) : ∀ m, m ≤ dp a (τ / 4) → am a τ m / 4 < n ∧ dp a (am a τ m / 4) = dp a (τ / 4) - m
  | 0, _ => ⟨hτ, rfl⟩
  | m + 1, hm => by
    obtain ⟨h1, h2⟩ := am_ok ha hτ m (by omega)
    have hne : am a τ m / 4 ≠ 0 := fun z => by rw [z, dp_0] at h2; omega
    have h3 := ha _ (by omega) h1
    have h4 := dp_s ha (by omega) h1
    rw [am]
    exact ⟨by omega, by omega⟩
theorem am_0 {a : Nat → Nat} {n τ : Nat} (ha : ∀ i, 1 ≤ i → i < n → a i / 4 < i) (hτ : τ / 4 < n) {m : Nat} (hm : m ≤ dp a (τ / 4)) : am a τ m / 4 = 0 ↔ m = dp a (τ / 4) := by
  obtain ⟨h1, h2⟩ := am_ok ha hτ m hm
  constructor
  · intro z
    rw [z, dp_0] at h2
    omega
  · intro z
    apply Classical.byContradiction
    intro hne
    have := dp_s ha (by omega) h1
    omega
theorem turn_ok {h : ZH} {n : Nat} {f : Nat → Nat} (hs : Sh h) (hn : n ≤ 1024) (hf : ∀ i, i < n → f i < 128) (t : txC n f h) : ∃ h', fX7_turnAround 28 h = some h' ∧ zfr [29] h h' ∧ txC n (fun i => f (n - 1 - i)) h' := by
  have T := T28 hs
  have k1 : ∀ h', zfr [29] h h' → gR h' 7 28 0 = some 29 := fun h' p => by
    have := T28 (p.shp hs)
    exact (gR_ok this.1.1 this.1.2.1).trans this.1.2.2
  have k2 : ∀ h', zfr [29] h h' → ∀ i, i < 1024 → lI h' 12 29 (nI i) = some (zI h' 29 i) := fun h' p i hi => by
    have := (T28 (p.shp hs)).2
    exact lI_ok this.1 this.2.1 (by rw [this.2.2]; exact hi) (by rw [this.2.2]; decide)
  have k3 : ∀ h', zfr [29] h h' → ∀ i v, i < 1024 → v < 65536 → sI h' 12 29 (nI i) (nI v) = some (zsI h' (zu (zI h') 29 i (nI v))) := fun h' p i v hi hv => by
    have := (T28 (p.shp hs)).2
    rw [sI_ok this.1 this.2.1 (by rw [this.2.2]; exact hi) (by rw [this.2.2]; decide), zvn12 hv]
  have key : wp (fX7_turnAround 28 h) (fun h' => zfr [29] h h' ∧ ∀ i, i < n → zI h' 29 i = nI (f (n - 1 - i))) := by
    have e0 : gI h 7 28 1 = some (nI n) := (gI_ok T.1.1 T.1.2.1).trans (congrArg some t.1)
    unfold fX7_turnAround
    have ez : zlen h 29 = some (nI 1024) := by rw [zlen_ok T.2.1 (by rw [T.2.2.1]; decide), T.2.2.2]
    have ejm : jmmin (nI n) (nI 1024) = nI n := by rw [jmmin_ok (by omega) (by decide), Nat.min_eq_left hn]
    rw [if_pos ⟨T.1.1, T.1.2.1⟩, e0, bsm, k1 h (zfr.refl h), bsm, ez, bsm, ejm, zl_eq]
    by_cases hn0 : n = 0
    · subst hn0
      show wp (kX7_turnAround_17 28 (zloop (lX7_turnAround_17 28) 99999) (nI 0 - nI 1) (nI 0) h) _
      unfold kX7_turnAround_17
      rw [if_pos (by decide)]
      exact wp_some ⟨zfr.refl h, fun i hi => by omega⟩
    · rw [pk_sub (by omega)]
      refine wloop (fun j y => y.1 = nI (n - 1 - j) ∧ y.2.1 = nI j ∧ zfr [29] h y.2.2 ∧ ∀ i, i < n → zI y.2.2 29 i = nI (if i < j ∨ n - 1 - j < i then f (n - 1 - i) else f i)) (n / 2) (fun j y self hj hy ih => ?_) (show n / 2 < 100000 by omega) ⟨rfl, rfl, zfr.refl h, fun i hi => by rw [if_neg (by omega)]; exact t.2 i hi⟩
      obtain ⟨y1, y2, h1⟩ := y
      obtain ⟨rfl, rfl, p1, q1⟩ := hy
      dsimp only at p1 q1
      show wp (kX7_turnAround_17 28 self (nI (n - 1 - j)) (nI j) h1) _
      unfold kX7_turnAround_17
      by_cases hlt : j < n - 1 - j
      · have v1 := q1 j (by omega)
        have v2 := q1 (n - 1 - j) (by omega)
        rw [if_neg (by omega)] at v1 v2
        have f1 := hf j (by omega)
        have f2 := hf (n - 1 - j) (by omega)
        have pa : zfr [29] h (zsI h1 (zu (zI h1) 29 j (nI (f (n - 1 - j))))) := p1.same zfr_uI
        have va : ∀ i, zI (zsI h1 (zu (zI h1) 29 j (nI (f (n - 1 - j))))) 29 i = if i = j then nI (f (n - 1 - j)) else zI h1 29 i := fun i => by dsimp only [zI_zsI]; rw [zu_at]
        have esa := k3 h1 p1 j (f (n - 1 - j)) (by omega) (by omega)
        rw [if_neg (nI_ge hlt (by omega)), k1 h1 p1, bsm, k2 h1 p1 j (by omega), bsm, v1, bsm, bsm, k2 h1 p1 (n - 1 - j) (by omega), bsm, v2, esa, bsm]
        generalize zsI h1 (zu (zI h1) 29 j (nI (f (n - 1 - j)))) = h2 at pa va
        have esb := k3 h2 pa (n - 1 - j) (f j) (by omega) (by omega)
        rw [k1 h2 pa, bsm, esb, bsm, show nI (n - 1 - j) + (-1 : Int32) = nI (n - 1 - (j + 1)) by rw [show n - 1 - j = (n - 1 - (j + 1)) + 1 by omega]; exact nI_prd _, nI_add]
        refine ih _ (by omega) ⟨rfl, rfl, pa.same zfr_uI, fun i hi => ?_⟩
        dsimp only [zI_zsI]
        rw [zu_at, va i]
        by_cases c1 : i = n - 1 - j
        · rw [if_pos c1, if_pos (by omega), c1]
          congr 2
          omega
        · rw [if_neg c1]
          by_cases c2 : i = j
          · rw [if_pos c2, if_pos (by omega), c2]
          · rw [if_neg c2, q1 i hi]
            by_cases c3 : i < j ∨ n - 1 - j < i
            · rw [if_pos c3, if_pos (by omega)]
            · rw [if_neg c3, if_neg (by omega)]
      · rw [if_pos (nI_le (by omega) (by omega))]
        refine wp_some ⟨p1, fun i hi => ?_⟩
        rw [q1 i hi]
        by_cases c3 : i < j ∨ n - 1 - j < i
        · rw [if_pos c3]
        · rw [if_neg c3]
          congr 2
          omega
  obtain ⟨h', e, p, q⟩ := key
  exact ⟨h', e, p, by rw [p.I (by decide)]; exact t.1, q⟩
/-- the arrivals, from the last to the root -/
theorem spellC {M1 M2 : Nat → Nat} {h0 h : ZH} {τ : Nat} (st : St M1 M2 h0 τ h) (hA : 256 * ess M1 + ess M2 ≠ 0) (hτ : τ ≤ 4 * 65536) (hall : ∀ t, t < τ → t / 4 < ql M1 M2 t ∧ dfB (nx M1 M2 t) = false) (hp : τ / 4 < ql M1 M2 τ) (h3 : zI h 51 3 = nI τ) (hL : dp (fun i => (bq (pd M1 M2) (256 * ess M1 + ess M2) τ).2.getD i 0) (τ / 4) + 1 ≤ 511) : ∃ h', fX4_spellDifference 51 28 h = some h' ∧ zfr [28, 29] h h' ∧ txC (dp (fun i => (bq (pd M1 M2) (256 * ess M1 + ess M2) τ).2.getD i 0) (τ / 4) + 1) (fun i => 97 + am (fun i => (bq (pd M1 M2) (256 * ess M1 + ess M2) τ).2.getD i 0) τ (dp (fun i => (bq (pd M1 M2) (256 * ess M1 + ess M2) τ).2.getD i 0) (τ / 4) - i) % 4) h' := by
  obtain ⟨q, g, cd, f, pq, e, s, hn, c⟩ := st
  have hs := f.1
  have bI := BI_all (d := pd M1 M2) hA τ (fun s hs => (hall s hs).1)
  have ha : ∀ i, 1 ≤ i → i < ql M1 M2 τ → (fun i => (bq (pd M1 M2) (256 * ess M1 + ess M2) τ).2.getD i 0) i / 4 < i := fun i h1 h2 => (bI.2.2.2.2.2.1 i h1 h2).2.1
  have hlt : ∀ i, 1 ≤ i → i < ql M1 M2 τ → (fun i => (bq (pd M1 M2) (256 * ess M1 + ess M2) τ).2.getD i 0) i < τ := fun i h1 h2 => (bI.2.2.2.2.2.1 i h1 h2).1
  generalize (fun i => (bq (pd M1 M2) (256 * ess M1 + ess M2) τ).2.getD i 0) = a at e ha hlt hL ⊢
  have amo := am_ok ha hp
  have am0 : ∀ {m}, m ≤ dp a (τ / 4) → (am a τ m / 4 = 0 ↔ m = dp a (τ / 4)) := fun hm => am_0 ha hp hm
  have amb : ∀ m, m ≤ dp a (τ / 4) → am a τ m ≤ τ := by
    intro m
    cases m with
    | zero => intro _; exact Nat.le_refl _
    | succ m =>
      intro hm
      have h1 := amo m (by omega)
      have h0 : am a τ m / 4 ≠ 0 := fun z => by have := (am0 (by omega)).mp z; omega
      exact Nat.le_of_lt (hlt _ (by omega) h1.1)
  generalize hD : dp a (τ / 4) = D at hL amo am0 amb ⊢
  have key : wp (fX4_spellDifference 51 28 h) (fun h' => zfr [28, 29] h h' ∧ txC (D + 1) (fun i => 97 + am a τ (D - i) % 4) h') := by
    have ecl := tclear_ok (T28 hs)
    have p1 : zfr [28, 29] h (zsI h (zu (zI h) 28 1 (nI 0))) := (zfr_uI (a := 28)).mono (by decide)
    have z28 : zI (zsI h (zu (zI h) 28 1 (nI 0))) 28 1 = nI 0 := by dsimp only [zI_zsI]; rw [zu_at, if_pos rfl]
    generalize zsI h (zu (zI h) 28 1 (nI 0)) = h1 at ecl p1 z28
    have hs1 := p1.shp hs
    have qne : q ∉ [28, 29] := by
      have := pq.2.2.1
      simp only [List.mem_cons, List.not_mem_nil, or_false]
      omega
    have z3 : zI h1 51 3 = nI τ := by rw [p1.I (by decide)]; exact h3
    unfold fX4_spellDifference
    simp (disch := omega) only [S51 hs, ecl, zl_eq, bsm, ZS, ZT, ZN, ZU, eq_self, true_and, and_true, and_self, or_true, true_or, or_false, false_or, not_true, not_false_eq_true, Nat.reduceAdd, Nat.reduceMul, Nat.reduceLT, Nat.reduceLeDiff, Nat.reduceEqDiff, ↓reduceIte, ZQ, Bool.true_eq_false, Bool.false_eq_true, Bool.not_true, Bool.not_false]
    simp (disch := omega) only [S51 hs1, z3, zl_eq, bsm, ZS, ZT, ZN, ZU, eq_self, true_and, and_true, and_self, or_true, true_or, or_false, false_or, not_true, not_false_eq_true, Nat.reduceAdd, Nat.reduceMul, Nat.reduceLT, Nat.reduceLeDiff, Nat.reduceEqDiff, ↓reduceIte, ZQ, Bool.true_eq_false, Bool.false_eq_true, Bool.not_true, Bool.not_false]
    refine wloop (fun m y => y.1 = (if m = D + 1 then (-1 : Int32) else nI (am a τ m)) ∧ y.2.1 = nI m ∧ zfr [28, 29] h y.2.2 ∧ ∃ f, txC m f y.2.2 ∧ ∀ i, i < m → f i = 97 + am a τ i % 4) (D + 1) (fun m y self hm hy ih => ?_) (show D + 1 < 100000 by omega) ⟨by rw [if_neg (by omega)]; rfl, rfl, p1, fun _ => 0, ⟨z28, fun i hi => by omega⟩, fun i hi => by omega⟩
    obtain ⟨y1, y2, h2⟩ := y
    obtain ⟨ey, rfl, p2, tf, tx, htf⟩ := hy
    dsimp only at ey p2 tx
    have hs2 := p2.shp hs
    show wp (kX4_spellDifference_11 51 28 self y1 (nI m) h2) _
    unfold kX4_spellDifference_11 bX4_spellDifference_42
    by_cases hmD : m = D + 1
    · rw [if_pos hmD] at ey
      subst ey
      obtain ⟨h5, e5, p5, t5⟩ := turn_ok hs2 (by omega) (fun i hi => by rw [htf i hi]; omega) tx
      simp (disch := omega) only [i65536, show ¬ (65536 ≤ m) by omega, show ((-1 : Int32) < 0) = True by decide, e5, zl_eq, bsm, ZS, ZT, ZN, ZU, eq_self, true_and, and_true, and_self, or_true, true_or, or_false, false_or, not_true, not_false_eq_true, Nat.reduceAdd, Nat.reduceMul, Nat.reduceLT, Nat.reduceLeDiff, Nat.reduceEqDiff, ↓reduceIte, ZQ, Bool.true_eq_false, Bool.false_eq_true, Bool.not_true, Bool.not_false]
      refine wp_some ⟨p2.same (p5.mono (by decide)), ?_⟩
      rw [hmD] at t5
      refine ⟨t5.1, fun i hi => ?_⟩
      rw [t5.2 i hi]
      dsimp only
      rw [htf (D + 1 - 1 - i) (by omega), show D + 1 - 1 - i = D - i by omega]
    · rw [if_neg hmD] at ey
      subst ey
      have hmle : m ≤ D := by omega
      obtain ⟨o1, o2⟩ := amo m hmle
      have ob := amb m hmle
      obtain ⟨h4, e4, p4, t4⟩ := addLC hs2 tx (by omega) (l := am a τ m % 4) (Nat.mod_lt _ (by decide))
      have hs4 := p4.shp hs2
      have p24 := p2.same p4
      have e24 : pE q (ql M1 M2 τ) cd a h4 := ⟨by rw [p24.I (by decide)]; exact e.1, fun i hi => by rw [p24.J qne]; exact e.2 i hi⟩
      have ea := arrAt_ok hs4 (pq.fr p24) e24 hn o1
      simp (disch := omega) only [i65536, show ¬ (65536 ≤ m) by omega, e4, ea, zl_eq, bsm, ZS, ZT, ZN, ZU, eq_self, true_and, and_true, and_self, or_true, true_or, or_false, false_or, not_true, not_false_eq_true, Nat.reduceAdd, Nat.reduceMul, Nat.reduceLT, Nat.reduceLeDiff, Nat.reduceEqDiff, ↓reduceIte, ZQ, Bool.true_eq_false, Bool.false_eq_true, Bool.not_true, Bool.not_false]
      refine ih _ (by omega) ⟨?_, rfl, p24, _, t4, fun i hi => ?_⟩
      · dsimp only
        by_cases z : m = D
        · rw [if_pos ((am0 hmle).mpr z), if_pos (by omega)]
        · rw [if_neg (fun q => z ((am0 hmle).mp q)), if_neg (by omega)]
          rfl
      · unfold upM
        by_cases z : i = m
        · rw [if_pos z, z]
        · rw [if_neg z]
          exact htf i (by omega)
  obtain ⟨h', e, p, q⟩ := key
  exact ⟨h', e, p, q⟩
