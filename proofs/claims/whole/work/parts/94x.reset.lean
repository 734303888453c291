/-! CALL: writeReset -/
theorem spellPathC {h : ZH} {Q R : List Nat} {r : Nat} (hs : Sh h) (sq : subQ 63 (Q, R) h) (hr : r < Q.length) (l5 : Q.length ≤ 255) (ha : ∀ i, 1 ≤ i → i < Q.length → R.getD i 0 / 4 < i) (e9 : zI h 54 10 = nI r) : ∃ h', fX0_spellReset 54 28 h = some h' ∧ zfr [28, 29] h h' ∧ txC (dp (fun i => R.getD i 0) r) (fun i => 97 + R.getD (bk (fun i => R.getD i 0) r (dp (fun i => R.getD i 0) r - 1 - i)) 0 % 4) h' := by
  have len2 : R.length = Q.length := sq.2.1
  have v66 : ∀ i, i < Q.length → zI h 67 i = nI (R.getD i 0) := fun i hi => sq.2.2.2.1 i _ (by
    dsimp only
    rw [List.getD_eq_getElem?_getD, List.getElem?_eq_getElem (by omega)]
    rfl)
  have v5 : zI h 63 5 = nI Q.length := sq.1
  have bo := bk_ok (a := fun i => R.getD i 0) ha hr
  have b0 : ∀ {m}, m ≤ dp (fun i => R.getD i 0) r → (bk (fun i => R.getD i 0) r m = 0 ↔ m = dp (fun i => R.getD i 0) r) := fun hm => bk_0 (a := fun i => R.getD i 0) ha hr hm
  have bs : ∀ m, bk (fun i => R.getD i 0) r (m + 1) = R.getD (bk (fun i => R.getD i 0) r m) 0 / 4 := fun m => rfl
  have dl := dp_le (a := fun i => R.getD i 0) ha (r + 1) r (by omega) hr
  have bz : bk (fun i => R.getD i 0) r 0 = r := rfl
  generalize dp (fun i => R.getD i 0) r = D at bo b0 dl ⊢
  generalize bk (fun i => R.getD i 0) r = b at bo b0 bs bz ⊢
  have key : wp (fX6_spellPath 63 (nI r) 28 h) (fun h' => zfr [28, 29] h h' ∧ txC D (fun i => 97 + R.getD (b (D - 1 - i)) 0 % 4) h') := by
    have ecl := tclear_ok (T28 hs)
    have p1 : zfr [28, 29] h (zsI h (zu (zI h) 28 1 (nI 0))) := (zfr_uI (a := 28)).mono (by decide)
    have z28 : zI (zsI h (zu (zI h) 28 1 (nI 0))) 28 1 = nI 0 := by dsimp only [zI_zsI]; rw [zu_at, if_pos rfl]
    generalize zsI h (zu (zI h) 28 1 (nI 0)) = h1 at ecl p1 z28
    have hs1 := p1.shp hs
    unfold fX6_spellPath
    simp (disch := omega) only [ecl, SC (hs), zl_eq, bsm, ZS, ZT, ZN, ZU, eq_self, true_and, and_true, and_self, or_true, true_or, or_false, false_or, not_true, not_false_eq_true, Nat.reduceAdd, Nat.reduceMul, Nat.reduceLT, Nat.reduceLeDiff, Nat.reduceEqDiff, ↓reduceIte, ZQ, Bool.true_eq_false, Bool.false_eq_true, Bool.not_true, Bool.not_false]
    refine wloop (fun m y => y.1 = nI (b m) ∧ y.2.1 = nI m ∧ zfr [28, 29] h y.2.2 ∧ ∃ f, txC m f y.2.2 ∧ ∀ i, i < m → f i = 97 + R.getD (b i) 0 % 4) D (fun m y self hm hy ih => ?_) (show D < 100000 by omega) ⟨by rw [bz], rfl, p1, fun _ => 0, ⟨z28, fun i hi => by omega⟩, fun i hi => by omega⟩
    obtain ⟨y1, y2, h2⟩ := y
    obtain ⟨rfl, rfl, p2, tf, tx, htf⟩ := hy
    dsimp only at p2 tx
    have hs2 := p2.shp hs
    have o := (bo m hm).1
    have oz := b0 hm
    show wp (kX6_spellPath_9 63 28 self (nI (b m)) (nI m) h2) _
    unfold kX6_spellPath_9 bX6_spellPath_63
    by_cases hmD : m = D
    · obtain ⟨h5, e5, p5, t5⟩ := turn_ok hs2 (by omega) (fun i hi => by rw [htf i hi]; omega) tx
      have bm := oz.mpr hmD
      rw [bm]
      simp (disch := omega) only [show ¬ (256 ≤ m) by omega, show ((nI 0 : Int32) ≤ 0) = True by decide, e5, SC (hs2), zl_eq, bsm, ZS, ZT, ZN, ZU, eq_self, true_and, and_true, and_self, or_true, true_or, or_false, false_or, not_true, not_false_eq_true, Nat.reduceAdd, Nat.reduceMul, Nat.reduceLT, Nat.reduceLeDiff, Nat.reduceEqDiff, ↓reduceIte, ZQ, Bool.true_eq_false, Bool.false_eq_true, Bool.not_true, Bool.not_false]
      refine wp_some ⟨p2.same (p5.mono (by decide)), ?_⟩
      rw [hmD] at t5
      refine ⟨t5.1, fun i hi => ?_⟩
      rw [t5.2 i hi]
      dsimp only
      rw [htf (D - 1 - i) (by omega)]
    · have bm : ¬ (b m = 0) := fun z => hmD (oz.mp z)
      have bn : (nI (b m) ≤ (0 : Int32)) = False := by
        have bl : ¬ (b m ≤ 0) := by omega
        have : (nI (b m) ≤ nI 0) = False := by
          simp (disch := omega) only [eq_false bl, zl_eq, bsm, ZS, ZT, ZN, ZU, eq_self, true_and, and_true, and_self, or_true, true_or, or_false, false_or, not_true, not_false_eq_true, Nat.reduceAdd, Nat.reduceMul, Nat.reduceLT, Nat.reduceLeDiff, Nat.reduceEqDiff, ↓reduceIte, ZQ, Bool.true_eq_false, Bool.false_eq_true, Bool.not_true, Bool.not_false]
        exact this
      obtain ⟨h4, e4, p4, t4⟩ := addLC hs2 tx (by omega) (l := R.getD (b m) 0 % 4) (Nat.mod_lt _ (by decide))
      have hs4 := p4.shp hs2
      have p24 := p2.same p4
      have v5' : zI h2 63 5 = nI Q.length := by rw [p2.I (by decide)]; exact v5
      have v6 : zI h2 67 (b m) = nI (R.getD (b m) 0) := by rw [p2.I (by decide)]; exact v66 _ o
      have v7 : zI h4 67 (b m) = nI (R.getD (b m) 0) := by rw [p24.I (by decide)]; exact v66 _ o
      have a31 : R.getD (b m) 0 < 2 ^ 31 := by have := ha (b m) (by omega) o; omega
      have en := bs m
      generalize hAm : R.getD (b m) 0 = am at *
      simp (disch := omega) only [show ¬ (256 ≤ m) by omega, bn, v5', Nat.not_le.mpr o, show ¬ (255 ≤ b m) by omega, v6, e4, SC (hs2), zl_eq, bsm, ZS, ZT, ZN, ZU, eq_self, true_and, and_true, and_self, or_true, true_or, or_false, false_or, not_true, not_false_eq_true, Nat.reduceAdd, Nat.reduceMul, Nat.reduceLT, Nat.reduceLeDiff, Nat.reduceEqDiff, ↓reduceIte, ZQ, Bool.true_eq_false, Bool.false_eq_true, Bool.not_true, Bool.not_false]
      simp (disch := omega) only [v7, SC (hs4), zl_eq, bsm, ZS, ZT, ZN, ZU, eq_self, true_and, and_true, and_self, or_true, true_or, or_false, false_or, not_true, not_false_eq_true, Nat.reduceAdd, Nat.reduceMul, Nat.reduceLT, Nat.reduceLeDiff, Nat.reduceEqDiff, ↓reduceIte, ZQ, Bool.true_eq_false, Bool.false_eq_true, Bool.not_true, Bool.not_false]
      refine ih _ (by omega) ⟨by rw [en], rfl, p24, _, t4, fun i hi => ?_⟩
      unfold upM
      by_cases z : i = m
      · rw [if_pos z, z]
        rw [hAm]
      · rw [if_neg z]
        exact htf i (by omega)
  have e8 : gR h 0 54 9 = some 63 := (gR_ok (O54 hs).1 (O54 hs).2).trans (Rr hs (by decide) (by decide) (by decide) (by decide))
  have e9' : gI h 0 54 10 = some (nI r) := by rw [gI_ok (O54 hs).1 (O54 hs).2, e9]
  obtain ⟨h', e, p, q⟩ := key
  refine ⟨h', ?_, p, q⟩
  unfold fX0_spellReset
  rw [if_pos (O54 hs), e8, bsm, e9', bsm, e, bsm]
theorem mapD {f : Nat → Nat} {L : List Nat} {i : Nat} (h : i < L.length) : (L.map f).getD i 0 = f (L.getD i 0) := by
  rw [List.getD_eq_getElem?_getD, List.getD_eq_getElem?_getD, List.getElem?_map, List.getElem?_eq_getElem h]
  rfl
theorem iso_leB {n : Nat} {la lb : Nat → Nat → Nat} {φ : Nat → Nat} (is : iso n la lb φ) : ∀ v l, v < n → l < 4 → lb v l ≤ n := by
  intro w l hw hl
  obtain ⟨v, hv, rfl⟩ := is.2.2.1 w hw
  rcases is.2.2.2 v l hv hl with ⟨-, z⟩ | ⟨z0, z1, z⟩
  · omega
  · have := is.1 (la v l - 1) (by omega)
    omega
theorem reset_BQ {n : Nat} {la lb : Nat → Nat → Nat} {φ : Nat → Nat} (is : iso n la lb φ) : BQ (stF n lb) (2 ^ n - 1) = ((BQ (stF n la) (2 ^ n - 1)).1.map (sP n φ), (BQ (stF n la) (2 ^ n - 1)).2) := by
  rw [BQ_eq, BQ_eq]
  obtain ⟨X, hX⟩ : ∃ X, X = 1020 := ⟨_, rfl⟩
  rw [← hX]
  exact (reset_map is X).2
theorem reset_rs {n : Nat} {la lb : Nat → Nat → Nat} {φ : Nat → Nat} (n1 : 1 ≤ n) (h8 : n ≤ 8) (is : iso n la lb φ) {r v : Nat} (hr : rsI (BQ (stF n la) (2 ^ n - 1)).1 r) (hv : v < n) (er : (BQ (stF n la) (2 ^ n - 1)).1.getD r 0 = 2 ^ v) : rsI (BQ (stF n lb) (2 ^ n - 1)).1 r ∧ (BQ (stF n lb) (2 ^ n - 1)).1.getD r 0 = 2 ^ φ v ∧ (BQ (stF n lb) (2 ^ n - 1)).2 = (BQ (stF n la) (2 ^ n - 1)).2 := by
  obtain ⟨τ, eBQ, -, -, -, -, -, hin⟩ := RQ_facts n1 h8 (iso_le is)
  rw [← eBQ] at hin
  rw [reset_BQ is]
  dsimp only
  have len : ((BQ (stF n la) (2 ^ n - 1)).1.map (sP n φ)).length = (BQ (stF n la) (2 ^ n - 1)).1.length := List.length_map _
  refine ⟨⟨by rw [len]; exact hr.1, ?_, fun i hi => ?_⟩, ?_, rfl⟩
  · rw [mapD hr.1, sP_one is (hin _ (getD_mem hr.1))]
    exact hr.2.1
  · have hi' : i < (BQ (stF n la) (2 ^ n - 1)).1.length := Nat.lt_trans hi hr.1
    rw [mapD hi', sP_one is (hin _ (getD_mem hi'))]
    exact hr.2.2 i hi
  · rw [mapD hr.1, er, sP_pow hv]
