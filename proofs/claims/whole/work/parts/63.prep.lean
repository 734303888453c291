/-! THE REFERENCE'S TABLES: images of sets, numbers of words -/
theorem nb_xor (a b : Nat) : nI a ^^^ nI b = nI (a ^^^ b) := by
  apply Int32.toBitVec_inj.mp
  rw [Int32.toBitVec_xor]
  show BitVec.ofNat 32 a ^^^ BitVec.ofNat 32 b = BitVec.ofNat 32 (a ^^^ b)
  apply BitVec.eq_of_getLsbD_eq
  intro i hi
  simp [hi]
theorem nm1_eq : (-1 : Int32) = nI 4294967295 := by decide
theorem t32 : ∀ i, i < 8 → (4294967295 : Nat).testBit i = true := by decide
theorem out_ok {S A : Nat} (hS : S < 256) : (nI S &&& (nI A ^^^ (-1 : Int32)) = 0) ↔ sb S A := by
  rw [nm1_eq, nb_xor, nb_and, nb_z (Nat.lt_of_le_of_lt Nat.and_le_left (by omega))]
  constructor
  · intro h i hi
    cases hb : A.testBit i
    · have : (S &&& (A ^^^ 4294967295)).testBit i = true := by
        rw [Nat.testBit_and, Nat.testBit_xor, hi, hb, t32 i (tb8 hS hi)]; rfl
      rw [h, Nat.zero_testBit] at this
      cases this
    · rfl
  · intro h
    apply Classical.byContradiction
    intro hne
    obtain ⟨i, hi⟩ := nz_bit.mp hne
    rw [Nat.testBit_and, Nat.testBit_xor, Bool.and_eq_true] at hi
    rw [h i hi.1, t32 i (tb8 hS hi.1)] at hi
    exact absurd hi.2 (by decide)
/-- where a set leads within the essential part: nowhere, if it isn't within -/
def ims (M : Nat → Nat) (S l : Nat) : Nat := if S &&& ess M = S then fo (coreM M) S l else 0
theorem sb_and {S T : Nat} : S &&& T = S ↔ sb S T := ⟨fun h i hi => by rw [← h] at hi; exact (and_bit.mp hi).2, and_sb⟩
theorem ims_sb {M : Nat → Nat} {S l : Nat} (hl : l < 4) : sb (ims M S l) (ess M) := by
  unfold ims
  split
  · exact fo_core_sb S hl
  · exact fun i hi => by rw [Nat.zero_testBit] at hi; cases hi
theorem ims_lt {M : Nat → Nat} {S l : Nat} (hl : l < 4) : ims M S l < 256 := sb_lt (ims_sb hl) (ess_lt M)
theorem ims_0 {M : Nat → Nat} (l : Nat) : ims M 0 l = 0 := by
  unfold ims
  rw [if_pos (Nat.zero_and _)]
  apply Classical.byContradiction
  intro h
  obtain ⟨i, hi⟩ := nz_bit.mp h
  obtain ⟨v, _, h2, _⟩ := fo_bit.mp hi
  rw [Nat.zero_testBit] at h2
  cases h2
theorem ims_in {M : Nat → Nat} {S l : Nat} (hS : sb S (ess M)) : ims M S l = fo (coreM M) S l := if_pos (sb_and.mpr hS)
def prep (M : Nat → Nat) (h : ZH) : Prop := zI h 117 14 = nI (ess M) ∧ ∀ S, S < 256 → ∀ l, l < 4 → zI h 126 (4 * S + l) = nI (ims M S l)
theorem prep.fr {M : Nat → Nat} {h h' : ZH} {A : List Nat} (p : zfr A h h') (h1 : 126 ∉ A) (h2 : zI h' 117 14 = zI h 117 14) (g : prep M h) : prep M h' := ⟨by rw [h2]; exact g.1, fun S hS l hl => by rw [p.I h1]; exact g.2 S hS l hl⟩
theorem prepare_ok {h : ZH} {G : Nat → Nat → Nat} {s : Nat} (hs : Sh h) (g : rG G h) (h6 : s < 6) : ∃ h', fX11_prepare 117 (nI s) h = some h' ∧ zfr [126, 117] h h' ∧ (∀ k, k ≠ 14 → zI h' 117 k = zI h 117 k) ∧ prep (G s) h' := by
  have he := ess_lt (G s)
  have key : wp (fX11_prepare 117 (nI s) h) (fun h' => zfr [126, 117] h h' ∧ (∀ k, k ≠ 14 → zI h' 117 k = zI h 117 k) ∧ prep (G s) h') := by
    unfold fX11_prepare
    simp (disch := omega) only [essentialOf_ok hs g h6, SR (hs), zl_eq, bsm, ZS, ZT, ZN, ZU, eq_self, true_and, and_true, and_self, or_true, true_or, or_false, false_or, not_true, not_false_eq_true, Nat.reduceAdd, Nat.reduceMul, Nat.reduceLT, Nat.reduceLeDiff, Nat.reduceEqDiff, ↓reduceIte, ZQ, Bool.true_eq_false, Bool.false_eq_true, Bool.not_true, Bool.not_false]
    have p0 : zfr [117] h (zsI h (zu (zI h) 117 14 (nI (ess (G s))))) := zfr_uI
    have z14 : zI (zsI h (zu (zI h) 117 14 (nI (ess (G s))))) 117 14 = nI (ess (G s)) := by dsimp only [zI_zsI]; rw [zu_at, if_pos rfl]
    have zo : ∀ k, k ≠ 14 → zI (zsI h (zu (zI h) 117 14 (nI (ess (G s))))) 117 k = zI h 117 k := fun k hk => by dsimp only [zI_zsI]; rw [zu_at, if_neg hk]
    generalize zsI h (zu (zI h) 117 14 (nI (ess (G s)))) = h0 at p0 z14 zo
    have hs0 := p0.shp hs
    refine wloop (fun S y => y.1 = nI S ∧ zfr [126] h0 y.2 ∧ ∀ T, T < S → ∀ l, l < 4 → zI y.2 126 (4 * T + l) = nI (ims (G s) T l)) 256 (fun S y self hS hy ih => ?_) (show 256 < 100000 by omega) ⟨rfl, zfr.refl h0, fun T hT => by omega⟩
    obtain ⟨y, h1⟩ := y
    obtain ⟨rfl, p1, q1⟩ := hy
    dsimp only at p1 q1
    have hs1 := p1.shp hs0
    show wp (kX11_prepare_11 117 (nI s) self (nI S) h1) _
    unfold kX11_prepare_11
    by_cases hlt : S < 256
    · simp (disch := omega) only [Nat.not_le.mpr hlt, SR (hs1), zl_eq, bsm, ZS, ZT, ZN, ZU, eq_self, true_and, and_true, and_self, or_true, true_or, or_false, false_or, not_true, not_false_eq_true, Nat.reduceAdd, Nat.reduceMul, Nat.reduceLT, Nat.reduceLeDiff, Nat.reduceEqDiff, ↓reduceIte, ZQ, Bool.true_eq_false, Bool.false_eq_true, Bool.not_true, Bool.not_false]
      refine wloop (fun l y => y.1 = nI l ∧ zfr [126] h0 y.2 ∧ (∀ T, T < S → ∀ l, l < 4 → zI y.2 126 (4 * T + l) = nI (ims (G s) T l)) ∧ ∀ k, k < l → zI y.2 126 (4 * S + k) = nI (ims (G s) S k)) 4 (fun l y self2 hl hy ih2 => ?_) (by decide) ⟨rfl, p1, q1, fun k hk => by omega⟩
      obtain ⟨y, h2⟩ := y
      obtain ⟨rfl, p2, q2, q3⟩ := hy
      dsimp only at p2 q2 q3
      have hs2 := p2.shp hs0
      have g2 : rG G h2 := (g.fr p0 (by decide)).fr p2 (by decide)
      have z2 : zI h2 117 14 = nI (ess (G s)) := by rw [p2.I (by decide)]; exact z14
      show wp (kX11_prepare_20 self 117 (nI s) (nI S) self2 (nI l) h2) _
      unfold kX11_prepare_20 bX11_prepare_61
      by_cases hlt2 : l < 4
      · have fin : ∀ h3 v, h3 = zsI h2 (zu (zI h2) 126 (4 * S + l) (nI v)) → v = ims (G s) S l → wp (self2 (nI (l + 1), h3)) (fun h' => zfr [126, 117] h h' ∧ (∀ k, k ≠ 14 → zI h' 117 k = zI h 117 k) ∧ prep (G s) h') := by
          intro h3 v e ev
          subst e
          refine ih2 _ hlt2 ⟨rfl, p2.same zfr_uI, fun T hT k hk => ?_, fun k hk => ?_⟩
          · dsimp only [zI_zsI]
            rw [zu_at, if_neg (by omega)]; exact q2 T hT k hk
          · dsimp only [zI_zsI]
            rw [zu_at]
            by_cases e : k = l
            · rw [if_pos (by omega), ev, e]
            · rw [if_neg (by omega)]; exact q3 k (by omega)
        by_cases hsb : sb S (ess (G s))
        · simp (disch := omega) only [Nat.not_le.mpr hlt2, z2, eq_true ((out_ok (A := ess (G s)) hlt).mpr hsb), image_ok hs2 g2 h6 hlt hlt2, SR (hs2), zl_eq, bsm, ZS, ZT, ZN, ZU, eq_self, true_and, and_true, and_self, or_true, true_or, or_false, false_or, not_true, not_false_eq_true, Nat.reduceAdd, Nat.reduceMul, Nat.reduceLT, Nat.reduceLeDiff, Nat.reduceEqDiff, ↓reduceIte, ZQ, Bool.true_eq_false, Bool.false_eq_true, Bool.not_true, Bool.not_false]
          exact fin _ _ rfl (by rw [ims_in hsb, fo_core hlt2 hsb])
        · simp (disch := omega) only [Nat.not_le.mpr hlt2, z2, eq_false (fun q => hsb ((out_ok (A := ess (G s)) hlt).mp q)), SR (hs2), zl_eq, bsm, ZS, ZT, ZN, ZU, eq_self, true_and, and_true, and_self, or_true, true_or, or_false, false_or, not_true, not_false_eq_true, Nat.reduceAdd, Nat.reduceMul, Nat.reduceLT, Nat.reduceLeDiff, Nat.reduceEqDiff, ↓reduceIte, ZQ, Bool.true_eq_false, Bool.false_eq_true, Bool.not_true, Bool.not_false]
          exact fin _ _ rfl (by unfold ims; rw [if_neg (fun q => hsb (sb_and.mp q))])
      · have : l = 4 := by omega
        subst this
        simp (disch := omega) only [Nat.le_refl, SR (hs2), zl_eq, bsm, ZS, ZT, ZN, ZU, eq_self, true_and, and_true, and_self, or_true, true_or, or_false, false_or, not_true, not_false_eq_true, Nat.reduceAdd, Nat.reduceMul, Nat.reduceLT, Nat.reduceLeDiff, Nat.reduceEqDiff, ↓reduceIte, ZQ, Bool.true_eq_false, Bool.false_eq_true, Bool.not_true, Bool.not_false]
        refine ih _ hlt ⟨rfl, p2, fun T hT k hk => ?_⟩
        by_cases e : T = S
        · rw [e]; exact q3 k hk
        · exact q2 T (by omega) k hk
    · have : S = 256 := by omega
      subst this
      simp (disch := omega) only [Nat.le_refl, SR (hs1), zl_eq, bsm, ZS, ZT, ZN, ZU, eq_self, true_and, and_true, and_self, or_true, true_or, or_false, false_or, not_true, not_false_eq_true, Nat.reduceAdd, Nat.reduceMul, Nat.reduceLT, Nat.reduceLeDiff, Nat.reduceEqDiff, ↓reduceIte, ZQ, Bool.true_eq_false, Bool.false_eq_true, Bool.not_true, Bool.not_false]
      exact wp_some ⟨(p0.trans p1).mono (by decide), fun k hk => by rw [p1.I (by decide)]; exact zo k hk, by rw [p1.I (by decide)]; exact z14, q1⟩
  exact key
/-- how many words of a length go on from a set -/
def wc (M : Nat → Nat) : Nat → Nat → Nat
  | 0, S => if S = 0 then 0 else 1
  | k + 1, S => ((wc M k (ims M S 0) + wc M k (ims M S 1)) + wc M k (ims M S 2)) + wc M k (ims M S 3)
theorem wc_le (M : Nat → Nat) (k : Nat) : ∀ S, wc M k S ≤ 4 ^ k := by
  induction k with
  | zero => intro S; rw [wc]; split <;> decide
  | succ k ih =>
    intro S
    rw [wc, Nat.pow_succ]
    have h0 := ih (ims M S 0)
    have h1 := ih (ims M S 1)
    have h2 := ih (ims M S 2)
    have h3 := ih (ims M S 3)
    omega
theorem wc_lt (M : Nat → Nat) {k : Nat} (hk : k ≤ 30) (S : Nat) : wc M k S < 2 ^ 61 := by
  have h1 := wc_le M k S
  have h2 : 4 ^ k ≤ 4 ^ 30 := Nat.pow_le_pow_right (by decide) hk
  have h3 : (4 : Nat) ^ 30 < 2 ^ 61 := by decide
  omega
theorem wc_0 (M : Nat → Nat) (k : Nat) : wc M k 0 = 0 := by
  induction k with
  | zero => rfl
  | succ k ih => rw [wc, ims_0, ims_0, ims_0, ims_0, ih]
theorem lN_plus (a b : Nat) : lN a + lN b = lN (a + b) := (Int64.ofNat_add a b).symm
theorem ws4 (M : Nat → Nat) (k S : Nat) : wc M (k + 1) S = wc M k (ims M S 0) + wc M k (ims M S 1) + wc M k (ims M S 2) + wc M k (ims M S 3) := rfl
/-- the sum over the first letters -/
def wsum (M : Nat → Nat) (k S : Nat) : Nat → Nat
  | 0 => 0
  | l + 1 => wsum M k S l + wc M k (ims M S l)
theorem wsum4 (M : Nat → Nat) (k S : Nat) : wsum M k S 4 = wc M (k + 1) S := by
  rw [ws4]
  simp only [wsum, Nat.zero_add]
def wtab (M : Nat → Nat) (n : Nat) (h : ZH) : Prop := ∀ k, k ≤ n → ∀ S, S < 256 → zJ h 127 (256 * k + S) = lN (wc M k S)
theorem countTo_ok {h : ZH} {M : Nat → Nat} {n : Nat} (hs : Sh h) (g : prep M h) (hn : n ≤ 30) : ∃ h', fX11_countTo 117 (nI n) h = some h' ∧ zfr [127] h h' ∧ wtab M n h' := by
  have key : wp (fX11_countTo 117 (nI n) h) (fun h' => zfr [127] h h' ∧ wtab M n h') := by
    unfold fX11_countTo
    simp (disch := omega) only [SR (hs), zl_eq, bsm, ZS, ZT, ZN, ZU, eq_self, true_and, and_true, and_self, or_true, true_or, or_false, false_or, not_true, not_false_eq_true, Nat.reduceAdd, Nat.reduceMul, Nat.reduceLT, Nat.reduceLeDiff, Nat.reduceEqDiff, ↓reduceIte, ZQ, Bool.true_eq_false, Bool.false_eq_true, Bool.not_true, Bool.not_false]
    refine wloop (fun S y => y.1 = nI S ∧ zfr [127] h y.2 ∧ ∀ T, T < S → zJ y.2 127 T = lN (wc M 0 T)) 256 (fun S y self hS hy ih => ?_) (show 256 < 100000 by omega) ⟨rfl, zfr.refl h, fun T hT => by omega⟩
    obtain ⟨y, h1⟩ := y
    obtain ⟨rfl, p1, q1⟩ := hy
    dsimp only at p1 q1
    have hs1 := p1.shp hs
    show wp (kX11_countTo_2 117 (nI n) self (nI S) h1) _
    unfold kX11_countTo_2 bX11_countTo_23
    by_cases hlt : S < 256
    · have fin : ∀ h3 v, h3 = zsJ h1 (zu (zJ h1) 127 S (lN v)) → v = wc M 0 S → wp (self (nI (S + 1), h3)) (fun h' => zfr [127] h h' ∧ wtab M n h') := by
        intro h3 v e ev
        subst e
        refine ih _ hlt ⟨rfl, p1.same zfr_uJ, fun T hT => ?_⟩
        dsimp only [zJ_zsJ]
        rw [zu_at]
        by_cases e : T = S
        · rw [if_pos e, e, ev]
        · rw [if_neg e]; exact q1 T (by omega)
      by_cases e0 : S = 0
      · simp (disch := omega) only [Nat.not_le.mpr hlt, eq_true e0, SR (hs1), zl_eq, bsm, ZS, ZT, ZN, ZU, eq_self, true_and, and_true, and_self, or_true, true_or, or_false, false_or, not_true, not_false_eq_true, Nat.reduceAdd, Nat.reduceMul, Nat.reduceLT, Nat.reduceLeDiff, Nat.reduceEqDiff, ↓reduceIte, ZQ, Bool.true_eq_false, Bool.false_eq_true, Bool.not_true, Bool.not_false]
        exact fin _ _ rfl (by rw [wc, if_pos e0])
      · simp (disch := omega) only [Nat.not_le.mpr hlt, eq_false e0, SR (hs1), zl_eq, bsm, ZS, ZT, ZN, ZU, eq_self, true_and, and_true, and_self, or_true, true_or, or_false, false_or, not_true, not_false_eq_true, Nat.reduceAdd, Nat.reduceMul, Nat.reduceLT, Nat.reduceLeDiff, Nat.reduceEqDiff, ↓reduceIte, ZQ, Bool.true_eq_false, Bool.false_eq_true, Bool.not_true, Bool.not_false]
        exact fin _ _ rfl (by rw [wc, if_neg e0])
    · have : S = 256 := by omega
      subst this
      simp (disch := omega) only [Nat.le_refl, SR (hs1), zl_eq, bsm, ZS, ZT, ZN, ZU, eq_self, true_and, and_true, and_self, or_true, true_or, or_false, false_or, not_true, not_false_eq_true, Nat.reduceAdd, Nat.reduceMul, Nat.reduceLT, Nat.reduceLeDiff, Nat.reduceEqDiff, ↓reduceIte, ZQ, Bool.true_eq_false, Bool.false_eq_true, Bool.not_true, Bool.not_false]
      refine wloop (fun k y => y.1 = nI (k + 1) ∧ zfr [127] h y.2 ∧ wtab M k y.2) n (fun k y self2 hk hy ih2 => ?_) (show n < 100000 by omega) ⟨rfl, p1, fun k hk S hS => by rw [show k = 0 by omega, Nat.mul_zero, Nat.zero_add]; exact q1 S hS⟩
      obtain ⟨y, h2⟩ := y
      obtain ⟨rfl, p2, q2⟩ := hy
      dsimp only at p2 q2
      have hs2 := p2.shp hs
      show wp (kX11_countTo_32 117 (nI n) self2 (nI (k + 1)) h2) _
      unfold kX11_countTo_32
      by_cases hlt2 : k < n
      · simp (disch := omega) only [show ¬ n < k + 1 by omega, SR (hs2), zl_eq, bsm, ZS, ZT, ZN, ZU, eq_self, true_and, and_true, and_self, or_true, true_or, or_false, false_or, not_true, not_false_eq_true, Nat.reduceAdd, Nat.reduceMul, Nat.reduceLT, Nat.reduceLeDiff, Nat.reduceEqDiff, ↓reduceIte, ZQ, Bool.true_eq_false, Bool.false_eq_true, Bool.not_true, Bool.not_false]
        refine wloop (fun S y => y.1 = nI S ∧ zfr [127] h y.2 ∧ wtab M k y.2 ∧ ∀ T, T < S → zJ y.2 127 (256 * (k + 1) + T) = lN (wc M (k + 1) T)) 256 (fun S y self3 hS hy ih3 => ?_) (show 256 < 100000 by omega) ⟨rfl, p2, q2, fun T hT => by omega⟩
        obtain ⟨y, h3⟩ := y
        obtain ⟨rfl, p3, q3, q4⟩ := hy
        dsimp only at p3 q3 q4
        have hs3 := p3.shp hs
        show wp (kX11_countTo_39 self2 117 (nI n) (nI (k + 1)) self3 (nI S) h3) _
        unfold kX11_countTo_39
        by_cases hlt3 : S < 256
        · simp (disch := omega) only [Nat.not_le.mpr hlt3, SR (hs3), zl_eq, bsm, ZS, ZT, ZN, ZU, eq_self, true_and, and_true, and_self, or_true, true_or, or_false, false_or, not_true, not_false_eq_true, Nat.reduceAdd, Nat.reduceMul, Nat.reduceLT, Nat.reduceLeDiff, Nat.reduceEqDiff, ↓reduceIte, ZQ, Bool.true_eq_false, Bool.false_eq_true, Bool.not_true, Bool.not_false]
          refine wloop (fun l y => y.1 = lN (wsum M k S l) ∧ y.2.1 = nI l ∧ y.2.2 = h3) 4 (fun l y self4 hl hy ih4 => ?_) (by decide) ⟨rfl, rfl, rfl⟩
          obtain ⟨z, y, h4⟩ := y
          obtain ⟨rfl, rfl, rfl⟩ := hy
          show wp (kX11_countTo_52 self2 self3 117 (nI n) (nI (k + 1)) (nI S) self4 (lN (wsum M k S l)) (nI l) h4) _
          unfold kX11_countTo_52
          by_cases hlt4 : l < 4
          · have e1 : zI h4 126 (4 * S + l) = nI (ims M S l) := by rw [p3.I (by decide)]; exact g.2 S hlt3 l hlt4
            have hil := ims_lt (M := M) (S := S) hlt4
            have e2 := q3 k (Nat.le_refl _) _ hil
            simp (disch := omega) only [Nat.not_le.mpr hlt4, e1, Nat.add_sub_cancel, e2, lN_plus, SR (hs3), zl_eq, bsm, ZS, ZT, ZN, ZU, eq_self, true_and, and_true, and_self, or_true, true_or, or_false, false_or, not_true, not_false_eq_true, Nat.reduceAdd, Nat.reduceMul, Nat.reduceLT, Nat.reduceLeDiff, Nat.reduceEqDiff, ↓reduceIte, ZQ, Bool.true_eq_false, Bool.false_eq_true, Bool.not_true, Bool.not_false]
            exact ih4 _ hlt4 ⟨rfl, rfl, rfl⟩
          · have : l = 4 := by omega
            subst this
            simp (disch := omega) only [Nat.le_refl, SR (hs3), zl_eq, bsm, ZS, ZT, ZN, ZU, eq_self, true_and, and_true, and_self, or_true, true_or, or_false, false_or, not_true, not_false_eq_true, Nat.reduceAdd, Nat.reduceMul, Nat.reduceLT, Nat.reduceLeDiff, Nat.reduceEqDiff, ↓reduceIte, ZQ, Bool.true_eq_false, Bool.false_eq_true, Bool.not_true, Bool.not_false]
            refine ih3 _ hlt3 ⟨rfl, p3.same zfr_uJ, fun k' hk' T hT => ?_, fun T hT => ?_⟩
            · dsimp only [zJ_zsJ]
              rw [zu_at, if_neg (by omega)]; exact q3 k' hk' T hT
            · dsimp only [zJ_zsJ]
              rw [zu_at]
              by_cases e : T = S
              · rw [if_pos (by omega), e, wsum4]
              · rw [if_neg (by omega)]; exact q4 T (by omega)
        · have : S = 256 := by omega
          subst this
          simp (disch := omega) only [Nat.le_refl, SR (hs3), zl_eq, bsm, ZS, ZT, ZN, ZU, eq_self, true_and, and_true, and_self, or_true, true_or, or_false, false_or, not_true, not_false_eq_true, Nat.reduceAdd, Nat.reduceMul, Nat.reduceLT, Nat.reduceLeDiff, Nat.reduceEqDiff, ↓reduceIte, ZQ, Bool.true_eq_false, Bool.false_eq_true, Bool.not_true, Bool.not_false]
          refine ih2 _ hlt2 ⟨rfl, p3, fun k' hk' T hT => ?_⟩
          by_cases e : k' = k + 1
          · rw [e]; exact q4 T hT
          · exact q3 k' (by omega) T hT
      · have : k = n := by omega
        subst this
        simp (disch := omega) only [show k < k + 1 by omega, SR (hs2), zl_eq, bsm, ZS, ZT, ZN, ZU, eq_self, true_and, and_true, and_self, or_true, true_or, or_false, false_or, not_true, not_false_eq_true, Nat.reduceAdd, Nat.reduceMul, Nat.reduceLT, Nat.reduceLeDiff, Nat.reduceEqDiff, ↓reduceIte, ZQ, Bool.true_eq_false, Bool.false_eq_true, Bool.not_true, Bool.not_false]
        exact wp_some ⟨p2, q2⟩
  exact key
