/-! COVERS: the reset word's set, and the vertices' numbers, in the object -/
theorem inN_lt {n S : Nat} (h8 : n ≤ 8) (h : inN n S) : S < 256 := by
  apply Classical.byContradiction
  intro q
  obtain ⟨i, hi, hb⟩ := Nat.exists_ge_and_testBit_of_ge_two_pow (n := 8) (x := S) (by omega)
  have := h i hb
  omega
theorem RQ_facts {n : Nat} {la : Nat → Nat → Nat} (n1 : 1 ≤ n) (h8 : n ≤ 8) (hle : ∀ v l, v < n → l < 4 → la v l ≤ n) : ∃ τ, BQ (stF n la) (2 ^ n - 1) = bq (stF n la) (2 ^ n - 1) τ ∧ τ ≤ 1020 ∧ BI (stF n la) (2 ^ n - 1) τ (bq (stF n la) (2 ^ n - 1) τ) ∧ (bq (stF n la) (2 ^ n - 1) τ).1.length ≤ 255 ∧ rcD (stF n la) (2 ^ n - 1) (bq (stF n la) (2 ^ n - 1) τ).1 ∧ (∀ t, t < τ → t / 4 < (bq (stF n la) (2 ^ n - 1) t).1.length) ∧ ∀ x, x ∈ (bq (stF n la) (2 ^ n - 1) τ).1 → inN n x := by
  obtain ⟨N, hN⟩ : ∃ N, N = 256 := ⟨_, rfl⟩
  have ppos : 2 ≤ 2 ^ n := by
    have : 2 ^ 1 ≤ 2 ^ n := Nat.pow_le_pow_right (by decide) n1
    omega
  have hA : 2 ^ n - 1 < N := by
    rw [hN]; exact inN_lt h8 full_in
  have bd := bq_bd (d := stF n la) (A := 2 ^ n - 1) (N := N) hA (fun P l hl => by rw [hN]; exact inN_lt h8 (stF_in hle hl))
  obtain ⟨τ, t1, t2, t3, t4, t5⟩ := exStop1 (d := stF n la) (A := 2 ^ n - 1) N (by omega) (by omega) bd
  have hτ : τ ≤ 1020 := by
    apply Classical.byContradiction
    intro hn
    have := t2 (τ - 1) (by omega)
    have g := bq_grow (d := stF n la) (A := 2 ^ n - 1) (τ - 1)
    rw [show τ - 1 + 1 = τ by omega] at g
    omega
  refine ⟨τ, ?_, hτ, t4, by omega, rcD_of t4 t3, t2, ?_⟩
  · rw [BQ_eq]
    obtain ⟨X, hX⟩ : ∃ X, X = 1020 := ⟨_, rfl⟩
    rw [← hX] at hτ ⊢
    obtain ⟨k, rfl⟩ : ∃ k, X = τ + k := ⟨X - τ, by omega⟩
    rw [bq_st t3]
  · have all : ∀ t, ∀ x, x ∈ (bq (stF n la) (2 ^ n - 1) t).1 → inN n x := by
      intro t
      induction t with
      | zero =>
        intro P hP
        rw [bq] at hP
        unfold noteL at hP
        split at hP
        · cases hP
        · rcases List.mem_append.mp hP with e | e
          · cases e
          · rw [List.mem_singleton] at e
            rw [e]; exact full_in
      | succ t ih =>
        intro P hP
        rw [bq] at hP
        split at hP
        · unfold noteL at hP
          split at hP
          · exact ih P hP
          · rcases List.mem_append.mp hP with e | e
            · exact ih P e
            · rw [List.mem_singleton] at e
              rw [e]
              exact stF_in hle (Nat.mod_lt _ (by decide))
        · exact ih P hP
    exact all τ
theorem one_und : ∀ S, S < 256 → (und S 8 = 1 ↔ ∃ v, v < 8 ∧ S = 2 ^ v) := by decide +kernel
theorem one_bc {S : Nat} (hS : S < 256) : bc (nI S) = nI 1 ↔ one1 S := by
  have hu := und_le S 8
  rw [bc_und S hS, nI_eq (by omega) (by decide), one_und S hS]
  constructor
  · rintro ⟨v, -, e⟩; exact ⟨v, e⟩
  · rintro ⟨v, e⟩
    exact ⟨v, tb8 hS (by rw [e]; exact pow_bit.mpr rfl), e⟩
/-- the first set that is one vertex -/
def rsI (Q : List Nat) (r : Nat) : Prop := r < Q.length ∧ one1 (Q.getD r 0) ∧ ∀ i, i < r → ¬ one1 (Q.getD i 0)
theorem rsEx {Q : List Nat} (h : ∃ S, S ∈ Q ∧ one1 S) : ∃ r, rsI Q r := by
  classical
  obtain ⟨S, hS, h1⟩ := h
  obtain ⟨i, hi, e⟩ := mem_getD hS
  obtain ⟨r, r1, r2, r3⟩ := exMin (p := fun i => decide (one1 (Q.getD i 0))) Q.length ⟨i, hi, decide_eq_true (by rw [e]; exact h1)⟩
  exact ⟨r, r1, of_decide_eq_true r2, fun i hi => of_decide_eq_false (r3 i hi)⟩
section RC
variable {h : ZH} {Q R : List Nat}
theorem setC (hs : Sh h) (sq : subQ 63 (Q, R) h) (hl : Q.length ≤ 255) {i : Nat} (hi : i < Q.length) : fX6_set 63 (nI i) h = some (nI (Q.getD i 0), h) := by
  have e := sq.1
  dsimp only at e
  have v : zI h 64 i = nI (Q.getD i 0) := (sq.2.2.1 i (Q.getD i 0) (by rw [List.getD_eq_getElem?_getD, List.getElem?_eq_getElem hi]; rfl)).1
  unfold fX6_set bX6_set_29
  simp (disch := omega) only [e, Nat.not_le.mpr hi, show ¬ (255 ≤ i) by omega, v, SC (hs), zl_eq, bsm, ZS, ZT, ZN, ZU, eq_self, true_and, and_true, and_self, or_true, true_or, or_false, false_or, not_true, not_false_eq_true, Nat.reduceAdd, Nat.reduceMul, Nat.reduceLT, Nat.reduceLeDiff, Nat.reduceEqDiff, ↓reduceIte, ZQ, Bool.true_eq_false, Bool.false_eq_true, Bool.not_true, Bool.not_false]
theorem resetC (hs : Sh h) (sq : subQ 63 (Q, R) h) (hl : Q.length ≤ 255) (h256 : ∀ S, S ∈ Q → S < 256) {r : Nat} (hr : rsI Q r) : ∃ h', fX0_findReset 54 h = some h' ∧ zfr [54] h h' ∧ (∀ k, k ≠ 10 → zI h' 54 k = zI h 54 k) ∧ zI h' 54 10 = nI r := by
  obtain ⟨r1, r2, r3⟩ := hr
  have key : wp (fX0_findReset 54 h) (fun h' => zfr [54] h h' ∧ (∀ k, k ≠ 10 → zI h' 54 k = zI h 54 k) ∧ zI h' 54 10 = nI r) := by
    have p1 : zfr [54] h (zsI h (zu (zI h) 54 10 (nI 0))) := zfr_uI
    have k1 : ∀ k, k ≠ 10 → zI (zsI h (zu (zI h) 54 10 (nI 0))) 54 k = zI h 54 k := fun k hk => by dsimp only [zI_zsI]; rw [zu_at, if_neg hk]
    have ep : pI h 0 54 10 (nI 0) = some (zsI h (zu (zI h) 54 10 (nI 0))) := pI_ok (O54 hs).1 (O54 hs).2
    have e8 : gR h 0 54 9 = some 63 := (gR_ok (O54 hs).1 (O54 hs).2).trans (Rr hs (by decide) (by decide) (by decide) (by decide))
    generalize zsI h (zu (zI h) 54 10 (nI 0)) = h1 at p1 k1 ep
    have hs1 := p1.shp hs
    have esz : fX6_size 63 h1 = some (nI Q.length, h1) := by
      have e := sq.1
      dsimp only at e
      have e' : zI h1 63 5 = nI Q.length := by rw [p1.I (by decide)]; exact e
      unfold fX6_size
      simp (disch := omega) only [e', SC (hs1), zl_eq, bsm, ZS, ZT, ZN, ZU, eq_self, true_and, and_true, and_self, or_true, true_or, or_false, false_or, not_true, not_false_eq_true, Nat.reduceAdd, Nat.reduceMul, Nat.reduceLT, Nat.reduceLeDiff, Nat.reduceEqDiff, ↓reduceIte, ZQ, Bool.true_eq_false, Bool.false_eq_true, Bool.not_true, Bool.not_false]
    unfold fX0_findReset
    simp (disch := omega) only [(O54 hs).1, (O54 hs).2, ep, zl_eq, bsm, ZS, ZT, ZN, ZU, eq_self, true_and, and_true, and_self, or_true, true_or, or_false, false_or, not_true, not_false_eq_true, Nat.reduceAdd, Nat.reduceMul, Nat.reduceLT, Nat.reduceLeDiff, Nat.reduceEqDiff, ↓reduceIte, ZQ, Bool.true_eq_false, Bool.false_eq_true, Bool.not_true, Bool.not_false]
    simp (disch := omega) only [esz, SC (hs1), zl_eq, bsm, ZS, ZT, ZN, ZU, eq_self, true_and, and_true, and_self, or_true, true_or, or_false, false_or, not_true, not_false_eq_true, Nat.reduceAdd, Nat.reduceMul, Nat.reduceLT, Nat.reduceLeDiff, Nat.reduceEqDiff, ↓reduceIte, ZQ, Bool.true_eq_false, Bool.false_eq_true, Bool.not_true, Bool.not_false]
    rw [show nI (Q.length - 1) = nI (Q.length - 0) + (-1 : Int32) by rw [show Q.length - 0 = (Q.length - 1) + 1 by omega]; exact (nI_prd _).symm]
    refine wloop (fun i y => y.1 = nI (Q.length - i) + (-1 : Int32) ∧ zfr [54] h y.2 ∧ (∀ k, k ≠ 10 → zI y.2 54 k = zI h 54 k) ∧ (Q.length - i ≤ r → zI y.2 54 10 = nI r)) Q.length (fun i y self hi hy ih => ?_) (show Q.length < 100000 by omega) ⟨rfl, p1, k1, fun z => by omega⟩
    obtain ⟨y1, h2⟩ := y
    obtain ⟨rfl, p2, k2, z2⟩ := hy
    dsimp only at p2 k2 z2
    have hs2 := p2.shp hs
    show wp (kX0_findReset_15 54 self (nI (Q.length - i) + (-1 : Int32)) h2) _
    unfold kX0_findReset_15 bX0_findReset_39
    by_cases hlt : i < Q.length
    · have ei : nI (Q.length - i) + (-1 : Int32) = nI (Q.length - (i + 1)) := by rw [show Q.length - i = (Q.length - (i + 1)) + 1 by omega]; exact nI_prd _
      have sq2 : subQ 63 (Q, R) h2 := sq.fr p2 (by decide) (by decide) (by decide) (by decide)
      have es := setC hs2 sq2 hl (i := Q.length - (i + 1)) (by omega)
      have s256 := h256 _ (getD_mem (show Q.length - (i + 1) < Q.length by omega))
      have ob := one_bc s256
      rw [ei]
      by_cases ho : one1 (Q.getD (Q.length - (i + 1)) 0)
      · have eb := ob.mpr ho
        simp (disch := omega) only [es, bc_ok, eb, SC (hs2), zl_eq, bsm, ZS, ZT, ZN, ZU, eq_self, true_and, and_true, and_self, or_true, true_or, or_false, false_or, not_true, not_false_eq_true, Nat.reduceAdd, Nat.reduceMul, Nat.reduceLT, Nat.reduceLeDiff, Nat.reduceEqDiff, ↓reduceIte, ZQ, Bool.true_eq_false, Bool.false_eq_true, Bool.not_true, Bool.not_false]
        refine ih _ hlt ⟨rfl, p2.same zfr_uI, fun k hk => by dsimp only [zI_zsI]; rw [zu_at, if_neg hk]; exact k2 k hk, fun z => ?_⟩
        have hle : ¬ (Q.length - (i + 1) < r) := fun q => r3 _ q ho
        dsimp only [zI_zsI]
        rw [zu_at, if_pos rfl]
        congr 1
        omega
      · have eb : (bc (nI (Q.getD (Q.length - (i + 1)) 0)) = nI 1) = False := eq_false (fun q => ho (ob.mp q))
        simp (disch := omega) only [es, bc_ok, eb, SC (hs2), zl_eq, bsm, ZS, ZT, ZN, ZU, eq_self, true_and, and_true, and_self, or_true, true_or, or_false, false_or, not_true, not_false_eq_true, Nat.reduceAdd, Nat.reduceMul, Nat.reduceLT, Nat.reduceLeDiff, Nat.reduceEqDiff, ↓reduceIte, ZQ, Bool.true_eq_false, Bool.false_eq_true, Bool.not_true, Bool.not_false]
        refine ih _ hlt ⟨rfl, p2, k2, fun z => ?_⟩
        by_cases e : Q.length - (i + 1) = r
        · rw [e] at ho
          exact absurd r2 ho
        · exact z2 (by omega)
    · have hie : i = Q.length := by omega
      rw [hie, Nat.sub_self] at z2 ⊢
      rw [if_pos (by decide)]
      exact wp_some ⟨p2, k2, z2 (Nat.zero_le _)⟩
  obtain ⟨h', e, p, q⟩ := key
  exact ⟨h', e, p, q⟩
end RC
theorem targetC {M : Nat → Nat} {Ld : List Nat} {cl : Nat → Nat} {h : ZH} (hs : Sh h) (hM : hasM h 62 (mgM M Ld cl)) (hcl : ∀ v l, v < Ld.length → l < 4 → le1 M Ld cl v l ≤ 8) (h8 : Ld.length ≤ 8) {v l : Nat} (hv : v < Ld.length) (hl : l < 4) : fX0_targetInMerged 54 (nI v) (nI l) h = some (if le1 M Ld cl v l = 0 then -1 else nI (le1 M Ld cl v l - 1), h) := by
  have bit : ∀ x, (mgM M Ld cl (4 * v + l)).testBit x = decide (le1 M Ld cl v l = x + 1) := by
    intro x
    rw [mgM_at hl, le1_eq]
    by_cases z : ims M (Ld.getD v 0) l = 0
    · rw [if_neg (fun q => q.2 z), if_pos z, Nat.zero_testBit, decide_eq_false (by omega)]
    · rw [if_pos ⟨hv, z⟩, if_neg z, Nat.testBit_two_pow]
      apply decide_eq_decide.mpr
      omega
  have hb := hcl v l hv hl
  generalize le1 M Ld cl v l = e at bit hb
  have has : ∀ x, x < 8 → fX1_has 61 (nI v) (nI l) (nI x) h = some (nI (decide (e = x + 1)).toNat, h) := fun x hx => by
    rw [has_ok (g61 hs) hM (by omega) hl hx, bit]
  unfold fX0_targetInMerged
  simp (disch := omega) only [SC (hs), zl_eq, bsm, ZS, ZT, ZN, ZU, eq_self, true_and, and_true, and_self, or_true, true_or, or_false, false_or, not_true, not_false_eq_true, Nat.reduceAdd, Nat.reduceMul, Nat.reduceLT, Nat.reduceLeDiff, Nat.reduceEqDiff, ↓reduceIte, ZQ, Bool.true_eq_false, Bool.false_eq_true, Bool.not_true, Bool.not_false]
  by_cases e0 : e = 0
  · rw [if_pos e0]
    refine zloop_run (fun x => (nI x, h)) 8 (fun x hx self => ?_) (fun self => ?_) (by decide)
    · show kX0_targetInMerged_2 54 (nI v) (nI l) self (nI x) h = _
      unfold kX0_targetInMerged_2
      have hh := has x hx
      rw [decide_eq_false (by omega), Bool.toNat_false] at hh
      simp (disch := omega) only [Nat.not_le.mpr hx, hh, SC (hs), zl_eq, bsm, ZS, ZT, ZN, ZU, eq_self, true_and, and_true, and_self, or_true, true_or, or_false, false_or, not_true, not_false_eq_true, Nat.reduceAdd, Nat.reduceMul, Nat.reduceLT, Nat.reduceLeDiff, Nat.reduceEqDiff, ↓reduceIte, ZQ, Bool.true_eq_false, Bool.false_eq_true, Bool.not_true, Bool.not_false]
    · show kX0_targetInMerged_2 54 (nI v) (nI l) self (nI 8) h = _
      unfold kX0_targetInMerged_2
      simp (disch := omega) only [Nat.le_refl, SC (hs), zl_eq, bsm, ZS, ZT, ZN, ZU, eq_self, true_and, and_true, and_self, or_true, true_or, or_false, false_or, not_true, not_false_eq_true, Nat.reduceAdd, Nat.reduceMul, Nat.reduceLT, Nat.reduceLeDiff, Nat.reduceEqDiff, ↓reduceIte, ZQ, Bool.true_eq_false, Bool.false_eq_true, Bool.not_true, Bool.not_false]
  · rw [if_neg e0]
    refine zloop_run (fun x => (nI x, h)) (e - 1) (fun x hx self => ?_) (fun self => ?_) (show e - 1 < 100000 by omega)
    · show kX0_targetInMerged_2 54 (nI v) (nI l) self (nI x) h = _
      unfold kX0_targetInMerged_2
      have hh := has x (by omega)
      rw [decide_eq_false (by omega), Bool.toNat_false] at hh
      simp (disch := omega) only [show ¬ (8 ≤ x) by omega, hh, SC (hs), zl_eq, bsm, ZS, ZT, ZN, ZU, eq_self, true_and, and_true, and_self, or_true, true_or, or_false, false_or, not_true, not_false_eq_true, Nat.reduceAdd, Nat.reduceMul, Nat.reduceLT, Nat.reduceLeDiff, Nat.reduceEqDiff, ↓reduceIte, ZQ, Bool.true_eq_false, Bool.false_eq_true, Bool.not_true, Bool.not_false]
    · show kX0_targetInMerged_2 54 (nI v) (nI l) self (nI (e - 1)) h = _
      unfold kX0_targetInMerged_2
      have hh := has (e - 1) (by omega)
      rw [decide_eq_true (by omega), Bool.toNat_true] at hh
      simp (disch := omega) only [show ¬ (8 ≤ e - 1) by omega, hh, SC (hs), zl_eq, bsm, ZS, ZT, ZN, ZU, eq_self, true_and, and_true, and_self, or_true, true_or, or_false, false_or, not_true, not_false_eq_true, Nat.reduceAdd, Nat.reduceMul, Nat.reduceLT, Nat.reduceLeDiff, Nat.reduceEqDiff, ↓reduceIte, ZQ, Bool.true_eq_false, Bool.false_eq_true, Bool.not_true, Bool.not_false]
