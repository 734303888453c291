/-! COVERS: the way back from a set of the search -/
def bk (a : Nat → Nat) (r : Nat) : Nat → Nat
  | 0 => r
  | m + 1 => a (bk a r m) / 4
section BK
variable {a : Nat → Nat} {n r : Nat}
theorem bk_ok (ha : ∀ i, 1 ≤ i → i < n → a i / 4 < i) (hr : r < n) : ∀ m, m ≤ dp a r → bk a r m < n ∧ dp a (bk a r m) = dp a r - m
  | 0, _ => ⟨hr, rfl⟩
  | m + 1, hm => by
    obtain ⟨i1, i2⟩ := bk_ok ha hr m (by omega)
    by_cases z : bk a r m = 0
    · rw [z, dp_0] at i2
      omega
    · have h1 := ha _ (by omega) i1
      have h2 := dp_s ha (i := bk a r m) (by omega) i1
      refine ⟨?_, ?_⟩
      · show a (bk a r m) / 4 < n
        omega
      · show dp a (a (bk a r m) / 4) = _
        omega
theorem bk_0 (ha : ∀ i, 1 ≤ i → i < n → a i / 4 < i) (hr : r < n) {m : Nat} (hm : m ≤ dp a r) : bk a r m = 0 ↔ m = dp a r := by
  obtain ⟨i1, i2⟩ := bk_ok ha hr m hm
  constructor
  · intro z
    rw [z, dp_0] at i2
    omega
  · intro z
    apply Classical.byContradiction
    intro q
    have h2 := dp_s ha (i := bk a r m) (by omega) i1
    omega
theorem dp_le (ha : ∀ i, 1 ≤ i → i < n → a i / 4 < i) : ∀ N r, r < N → r < n → dp a r ≤ r
  | 0, r, h, _ => absurd h (Nat.not_lt_zero _)
  | N + 1, r, h, hn => by
    by_cases z : r = 0
    · rw [z, dp_0]; exact Nat.le_refl 0
    · have h1 := ha r (by omega) hn
      have h2 := dp_s ha (i := r) (by omega) hn
      have := dp_le ha N (a r / 4) (by omega) (by omega)
      omega
end BK
theorem ntz_ok {v : Nat} (hv : v < 8) (h : ZH) : fJ6_numberOfTrailingZeros_0f7a4 (nI (2 ^ v)) h = some (nI v, h) := by
  match v, hv with
  | 0, _ => rfl
  | 1, _ => rfl
  | 2, _ => rfl
  | 3, _ => rfl
  | 4, _ => rfl
  | 5, _ => rfl
  | 6, _ => rfl
  | 7, _ => rfl
/-- where the reference's sets came from -/
def cmR (Q : List Nat) (a : Nat → Nat) (m : Nat) (h : ZH) : Prop := ∀ i, 1 ≤ i → i < m → zI h 140 (Q.getD i 0) = nI (Q.getD (a i / 4) 0) ∧ zI h 141 (Q.getD i 0) = nI (a i % 4)
section SRR
variable {h : ZH} {Q : List Nat} {a : Nat → Nat} {A r v : Nat}
theorem spellRR (hs : Sh h) (nd : Q.Nodup) (l5 : Q.length ≤ 255) (q256 : ∀ i, i < Q.length → Q.getD i 0 < 256) (q0 : Q.getD 0 0 = A) (hA : A < 256) (hr : r < Q.length) (hv : v < 8) (er : Q.getD r 0 = 2 ^ v) (ha : ∀ i, 1 ≤ i → i < r + 1 → a i / 4 < i) (cm : cmR Q a (r + 1) h) (z0 : zI h 117 12 = nI 0) : wp (zloop (lX11_findReset_143 117 (nI A) (nI (Q.getD r 0))) zfu (nI (Q.getD r 0), h)) (fun y => y.1 = nI v ∧ zfr [117, 125] h y.2 ∧ (∀ k, k ≠ 12 → zI y.2 117 k = zI h 117 k) ∧ zI y.2 117 12 = nI (dp a r) ∧ ∀ i, i < dp a r → zI y.2 125 i = nI (a (bk a r (dp a r - 1 - i)) % 4)) := by
  have bo := bk_ok ha (r := r) (by omega)
  have b0 : ∀ {m}, m ≤ dp a r → (bk a r m = 0 ↔ m = dp a r) := fun hm => bk_0 ha (r := r) (by omega) hm
  have dl := dp_le ha (r + 1) r (by omega) (by omega)
  generalize hD : dp a r = D at bo b0 dl ⊢
  have x256 : ∀ m, m ≤ D → Q.getD (bk a r m) 0 < 256 := fun m hm => q256 _ (by have := (bo m hm).1; omega)
  have XA : ∀ m, m ≤ D → (Q.getD (bk a r m) 0 = A ↔ m = D) := by
    intro m hm
    rw [← q0]
    constructor
    · intro z
      exact (b0 hm).mp (getD_inj nd (by have := (bo m hm).1; omega) (by omega) z)
    · intro z
      rw [(b0 hm).mpr z]
  have come : ∀ m, m < D → zI h 140 (Q.getD (bk a r m) 0) = nI (Q.getD (bk a r (m + 1)) 0) ∧ zI h 141 (Q.getD (bk a r m) 0) = nI (a (bk a r m) % 4) := by
    intro m hm
    have hne : bk a r m ≠ 0 := fun z => by have := (b0 (m := m) (by omega)).mp z; omega
    exact cm _ (by omega) (bo m (by omega)).1
  have e0 : Q.getD r 0 = Q.getD (bk a r 0) 0 := rfl
  generalize hX : (fun m => Q.getD (bk a r m) 0) = X at *
  have hX' : ∀ m, Q.getD (bk a r m) 0 = X m := fun m => by rw [← hX]
  simp only [hX'] at x256 XA come e0
  rw [e0] at er ⊢
  refine wloop (fun m y => y.1 = nI (X m) ∧ zfr [117] h y.2 ∧ zI y.2 117 12 = nI m ∧ ∀ k, k ≠ 12 → zI y.2 117 k = zI h 117 k) D (fun m y self hm hy ih => ?_) (show D < 100000 by omega) ⟨rfl, zfr.refl h, z0, fun _ _ => rfl⟩
  obtain ⟨y1, h2⟩ := y
  obtain ⟨rfl, p2, z2, o2⟩ := hy
  dsimp only at p2 z2 o2
  have hs2 := p2.shp hs
  have x2 := x256 m hm
  have x0 := x256 0 (by omega)
  show wp (kX11_findReset_143 117 (nI A) (nI (X 0)) self (nI (X m)) h2) _
  unfold kX11_findReset_143
  by_cases hlt : m < D
  · have hne : ¬ (X m = A) := fun z => by have := (XA m hm).mp z; omega
    have c1 : zI h2 140 (X m) = nI (X (m + 1)) := by rw [p2.I (by decide)]; exact (come m hlt).1
    have p3 : zfr [117] h (zsI h2 (zu (zI h2) 117 12 (nI (m + 1)))) := p2.same zfr_uI
    have z3 : zI (zsI h2 (zu (zI h2) 117 12 (nI (m + 1)))) 117 12 = nI (m + 1) := by dsimp only [zI_zsI]; rw [zu_at, if_pos rfl]
    have o3 : ∀ k, k ≠ 12 → zI (zsI h2 (zu (zI h2) 117 12 (nI (m + 1)))) 117 k = zI h 117 k := fun k hk => by dsimp only [zI_zsI]; rw [zu_at, if_neg hk]; exact o2 k hk
    simp (disch := omega) only [eq_false hne, z2, c1, SR (hs2), zl_eq, bsm, ZS, ZT, ZN, ZU, eq_self, true_and, and_true, and_self, or_true, true_or, or_false, false_or, not_true, not_false_eq_true, Nat.reduceAdd, Nat.reduceMul, Nat.reduceLT, Nat.reduceLeDiff, Nat.reduceEqDiff, ↓reduceIte, ZQ, Bool.true_eq_false, Bool.false_eq_true, Bool.not_true, Bool.not_false]
    exact ih _ hlt ⟨rfl, p3, z3, o3⟩
  · have hmD : m = D := by omega
    have hA' : X m = A := (XA m hm).mpr hmD
    rw [hmD] at z2
    have est : nI D - nI 1 = nI D + (-1 : Int32) := Int32.sub_eq_add_neg _ _
    simp (disch := omega) only [eq_true hA', z2, SR (hs2), zl_eq, bsm, ZS, ZT, ZN, ZU, eq_self, true_and, and_true, and_self, or_true, true_or, or_false, false_or, not_true, not_false_eq_true, Nat.reduceAdd, Nat.reduceMul, Nat.reduceLT, Nat.reduceLeDiff, Nat.reduceEqDiff, ↓reduceIte, ZQ, Bool.true_eq_false, Bool.false_eq_true, Bool.not_true, Bool.not_false]
    refine wloop (fun m y => y.1 = nI (D - m) + (-1 : Int32) ∧ y.2.1 = nI (X m) ∧ zfr [125] h2 y.2.2 ∧ ∀ i, D - m ≤ i → i < D → zI y.2.2 125 i = nI (a (bk a r (D - 1 - i)) % 4)) D (fun m y self2 hm hy ih2 => ?_) (show D < 100000 by omega) ⟨est, rfl, zfr.refl h2, fun i h1 h2 => by omega⟩
    obtain ⟨y1, y2, h3⟩ := y
    obtain ⟨rfl, rfl, p3, q3⟩ := hy
    dsimp only at p3 q3
    have hs3 := p3.shp hs2
    have x3 := x256 m hm
    show wp (kX11_findReset_178 117 (nI A) (nI (X 0)) self2 (nI (D - m) + (-1 : Int32)) (nI (X m)) h3) _
    unfold kX11_findReset_178
    by_cases hlt2 : m < D
    · have hne : ¬ (X m = A) := fun z => by have := (XA m hm).mp z; omega
      have c1 : zI h3 141 (X m) = nI (a (bk a r m) % 4) := by rw [p3.I (by decide), p2.I (by decide)]; exact (come m hlt2).2
      have c2 : zI h3 140 (X m) = nI (X (m + 1)) := by rw [p3.I (by decide), p2.I (by decide)]; exact (come m hlt2).1
      have ei : nI (D - m) + (-1 : Int32) = nI (D - (m + 1)) := by rw [show D - m = (D - (m + 1)) + 1 by omega]; exact nI_prd _
      rw [ei]
      simp (disch := omega) only [eq_false hne, c1, c2, SR (hs3), zl_eq, bsm, ZS, ZT, ZN, ZU, eq_self, true_and, and_true, and_self, or_true, true_or, or_false, false_or, not_true, not_false_eq_true, Nat.reduceAdd, Nat.reduceMul, Nat.reduceLT, Nat.reduceLeDiff, Nat.reduceEqDiff, ↓reduceIte, ZQ, Bool.true_eq_false, Bool.false_eq_true, Bool.not_true, Bool.not_false]
      refine ih2 _ hlt2 ⟨rfl, rfl, p3.same zfr_uI, fun i h1 h2 => ?_⟩
      dsimp only [zI_zsI]
      rw [zu_at]
      by_cases e : i = D - (m + 1)
      · rw [if_pos e, show D - 1 - i = m by omega]
      · rw [if_neg e]
        exact q3 i (by omega) h2
    · have hmD : m = D := by omega
      have hA' : X m = A := (XA m hm).mpr hmD
      have en := ntz_ok hv h3
      rw [er]
      simp (disch := omega) only [eq_true hA', en, SR (hs3), zl_eq, bsm, ZS, ZT, ZN, ZU, eq_self, true_and, and_true, and_self, or_true, true_or, or_false, false_or, not_true, not_false_eq_true, Nat.reduceAdd, Nat.reduceMul, Nat.reduceLT, Nat.reduceLeDiff, Nat.reduceEqDiff, ↓reduceIte, ZQ, Bool.true_eq_false, Bool.false_eq_true, Bool.not_true, Bool.not_false]
      exact wp_some ⟨rfl, (p2.trans p3).mono (by decide), fun k h12 => by rw [p3.I (by decide), o2 k h12], by rw [p3.I (by decide)]; exact z2, fun i hi => q3 i (by omega) hi⟩
end SRR
