/-! COVERS: the reference's members -/
def memR (Q : List Nat) (h : ZH) : Prop := zI h 117 30 = nI Q.length ∧ ∀ k, k < Q.length → zI h 138 k = nI (Q.getD k 0 - 1)
/-- where a letter leads: 0 is nowhere, else the place and one more -/
def leQ (d : Nat → Nat → Nat) (Q : List Nat) (le : Nat → Nat → Nat) : Prop := ∀ k, k < Q.length → ∀ l, l < 4 → (le k l = 0 ∧ d (Q.getD k 0) l = 0) ∨ (le k l ≠ 0 ∧ le k l ≤ Q.length ∧ Q.getD (le k l - 1) 0 = d (Q.getD k 0) l ∧ d (Q.getD k 0) l ≠ 0)
def leR (n : Nat) (le : Nat → Nat → Nat) (h : ZH) : Prop := ∀ k, k < n → ∀ l, l < 4 → zI h 139 (4 * k + l) = if le k l = 0 then -1 else nI (le k l - 1)
section FMB
variable {M : Nat → Nat} {h : ZH} {cr : Nat → Nat} {Q : List Nat}
theorem memberOf_no (hs : Sh h) (m : memR Q h) (hl : Q.length ≤ 8) (hb : ∀ P, P ∈ Q → P < 257) : fX11_memberOf 117 (-1) h = some (-1, h) := by
  unfold fX11_memberOf
  simp (disch := omega) only [SR (hs), zl_eq, bsm, ZS, ZT, ZN, ZU, eq_self, true_and, and_true, and_self, or_true, true_or, or_false, false_or, not_true, not_false_eq_true, Nat.reduceAdd, Nat.reduceMul, Nat.reduceLT, Nat.reduceLeDiff, Nat.reduceEqDiff, ↓reduceIte, ZQ, Bool.true_eq_false, Bool.false_eq_true, Bool.not_true, Bool.not_false]
  refine zloop_run (fun k => (nI k, h)) Q.length (fun k hk self => ?_) (fun self => ?_) (show Q.length < 100000 by omega)
  · show kX11_memberOf_2 117 (-1) self (nI k) h = _
    unfold kX11_memberOf_2
    have v := m.2 k hk
    have := hb _ (getD_mem hk)
    simp (disch := omega) only [m.1, Nat.not_le.mpr hk, v, SR (hs), zl_eq, bsm, ZS, ZT, ZN, ZU, eq_self, true_and, and_true, and_self, or_true, true_or, or_false, false_or, not_true, not_false_eq_true, Nat.reduceAdd, Nat.reduceMul, Nat.reduceLT, Nat.reduceLeDiff, Nat.reduceEqDiff, ↓reduceIte, ZQ, Bool.true_eq_false, Bool.false_eq_true, Bool.not_true, Bool.not_false]
  · show kX11_memberOf_2 117 (-1) self (nI Q.length) h = _
    unfold kX11_memberOf_2
    simp (disch := omega) only [m.1, Nat.le_refl, SR (hs), zl_eq, bsm, ZS, ZT, ZN, ZU, eq_self, true_and, and_true, and_self, or_true, true_or, or_false, false_or, not_true, not_false_eq_true, Nat.reduceAdd, Nat.reduceMul, Nat.reduceLT, Nat.reduceLeDiff, Nat.reduceEqDiff, ↓reduceIte, ZQ, Bool.true_eq_false, Bool.false_eq_true, Bool.not_true, Bool.not_false]
theorem memberOf_ok (hs : Sh h) (m : memR Q h) (hl : Q.length ≤ 8) (hb : ∀ P, P ∈ Q → P < 257) (hnd : Q.Nodup) (q0 : 0 ∉ Q) {i : Nat} (hi : i < Q.length) : fX11_memberOf 117 (nI (Q.getD i 0 - 1)) h = some (nI i, h) := by
  have ib := hb _ (getD_mem hi)
  have i0 : Q.getD i 0 ≠ 0 := fun z => q0 (by rw [← z]; exact getD_mem hi)
  unfold fX11_memberOf
  simp (disch := omega) only [SR (hs), zl_eq, bsm, ZS, ZT, ZN, ZU, eq_self, true_and, and_true, and_self, or_true, true_or, or_false, false_or, not_true, not_false_eq_true, Nat.reduceAdd, Nat.reduceMul, Nat.reduceLT, Nat.reduceLeDiff, Nat.reduceEqDiff, ↓reduceIte, ZQ, Bool.true_eq_false, Bool.false_eq_true, Bool.not_true, Bool.not_false]
  refine zloop_run (fun k => (nI k, h)) i (fun k hk self => ?_) (fun self => ?_) (show i < 100000 by omega)
  · show kX11_memberOf_2 117 (nI (Q.getD i 0 - 1)) self (nI k) h = _
    unfold kX11_memberOf_2
    have v := m.2 k (by omega)
    have kb := hb _ (getD_mem (show k < Q.length by omega))
    have k0 : Q.getD k 0 ≠ 0 := fun z => q0 (by rw [← z]; exact getD_mem (by omega))
    have hne : ¬ (Q.getD k 0 - 1 = Q.getD i 0 - 1) := fun z => by
      have := getD_inj hnd (show k < Q.length by omega) hi (by omega)
      omega
    simp (disch := omega) only [m.1, show ¬ (Q.length ≤ k) by omega, v, eq_false hne, SR (hs), zl_eq, bsm, ZS, ZT, ZN, ZU, eq_self, true_and, and_true, and_self, or_true, true_or, or_false, false_or, not_true, not_false_eq_true, Nat.reduceAdd, Nat.reduceMul, Nat.reduceLT, Nat.reduceLeDiff, Nat.reduceEqDiff, ↓reduceIte, ZQ, Bool.true_eq_false, Bool.false_eq_true, Bool.not_true, Bool.not_false]
  · show kX11_memberOf_2 117 (nI (Q.getD i 0 - 1)) self (nI i) h = _
    unfold kX11_memberOf_2
    have v := m.2 i hi
    simp (disch := omega) only [m.1, Nat.not_le.mpr hi, v, SR (hs), zl_eq, bsm, ZS, ZT, ZN, ZU, eq_self, true_and, and_true, and_self, or_true, true_or, or_false, false_or, not_true, not_false_eq_true, Nat.reduceAdd, Nat.reduceMul, Nat.reduceLT, Nat.reduceLeDiff, Nat.reduceEqDiff, ↓reduceIte, ZQ, Bool.true_eq_false, Bool.false_eq_true, Bool.not_true, Bool.not_false]
def bestQ (M : Nat → Nat) (cr : Nat → Nat) (b : Nat) (Q : List Nat) : Prop := b < (LL M).length ∧ cr ((LL M).getD b 0) = b ∧ rcD (dN M cr) (b + 1) Q ∧ ∀ k, k < (LL M).length → cr ((LL M).getD k 0) = k → ∀ Q', rcD (dN M cr) (k + 1) Q' → Q.length ≤ Q'.length
theorem members_ok (hs : Sh h) (pr : prep M h) (hE : ess M ≠ 0) (sr : stR M h) (g : numV M cr) (cH : crH M cr h) : ∃ h' r b Q, zloop (lX11_findMembers_31 117) zfu (-1, nI 0, nI 0, h) = some (r, h') ∧ zfr [117, 136, 137, 138, 139] h h' ∧ (∀ k, k ≠ 28 → k ≠ 30 → zI h' 117 k = zI h 117 k) ∧ bestQ M cr b Q ∧ ((8 < Q.length ∧ r = -5) ∨ (Q.length ≤ 8 ∧ r = nI 0 ∧ memR Q h' ∧ ∃ le, leQ (dN M cr) Q le ∧ leR Q.length le h')) := by
  have hlen : (LL M).length ≤ 255 := (LL_good M).len
  have hLL := LLrc hE
  have hpos : 0 < (LL M).length := List.length_pos_of_mem hLL.2.2.1
  have mem : ∀ i, i < (LL M).length → (LL M).getD i 0 ∈ LL M := fun i hi => getD_mem hi
  have rep0 : cr ((LL M).getD 0 0) = 0 := by
    apply Classical.byContradiction
    intro q
    exact (g _ (mem 0 hpos)).2.2 0 (by omega) eqv_rfl
  have key : wp (zloop (lX11_findMembers_31 117) zfu (-1, nI 0, nI 0, h)) (fun y => zfr [117, 136, 137, 138, 139] h y.2 ∧ (∀ k, k ≠ 28 → k ≠ 30 → zI y.2 117 k = zI h 117 k) ∧ ∃ b Q, bestQ M cr b Q ∧ ((8 < Q.length ∧ y.1 = -5) ∨ (Q.length ≤ 8 ∧ y.1 = nI 0 ∧ memR Q y.2 ∧ ∃ le, leQ (dN M cr) Q le ∧ leR Q.length le y.2))) := by
    refine wloop (fun k y => y.2.2.1 = nI k ∧ zfr [117, 136, 137] h y.2.2.2 ∧ (∀ j, j ≠ 28 → zI y.2.2.2 117 j = zI h 117 j) ∧ ((k = 0 ∧ y.1 = -1 ∧ y.2.1 = nI 0) ∨ ∃ b Q, b < k ∧ y.1 = nI b ∧ y.2.1 = nI (Q : List Nat).length ∧ Q.length ≤ 255 ∧ cr ((LL M).getD b 0) = b ∧ rcD (dN M cr) (b + 1) Q ∧ ∀ k', k' < k → cr ((LL M).getD k' 0) = k' → ∀ Q', rcD (dN M cr) (k' + 1) Q' → Q.length ≤ Q'.length)) (LL M).length (fun k y self hk hy ih => ?_) (show (LL M).length < 100000 by omega) ⟨rfl, zfr.refl h, fun _ _ => rfl, Or.inl ⟨rfl, rfl, rfl⟩⟩
    obtain ⟨y1, y2, y3, h1⟩ := y
    obtain ⟨rfl, p1, k1, bst⟩ := hy
    dsimp only at p1 k1 bst
    have hs1 := p1.shp hs
    have pr1 : prep M h1 := ⟨by rw [k1 14 (by decide)]; exact pr.1, fun S hS l hl => by rw [p1.I (by decide)]; exact pr.2 S hS l hl⟩
    have sr1 : stR M h1 := ⟨by rw [k1 23 (by decide)]; exact sr.1, fun i hi => by rw [p1.I (by decide)]; exact sr.2 i hi⟩
    have cH1 : crH M cr h1 := ⟨by rw [p1.I (by decide)]; exact cH.1, fun S hS => by rw [p1.I (by decide)]; exact cH.2 S hS⟩
    have v23 := sr1.1
    show wp (kX11_findMembers_31 117 self y1 y2 (nI k) h1) _
    unfold kX11_findMembers_31
    by_cases hkl : k < (LL M).length
    · have w1 := sr1.2 k hkl
      have w2 := cH1.2 _ (mem k hkl)
      obtain ⟨xz, x256⟩ := LL256 (mem k hkl)
      have hcl := (g _ (mem k hkl)).1
      by_cases hrep : cr ((LL M).getD k 0) = k
      · obtain ⟨h2, Q2, e2, p2, k2, s2, rc2, l2⟩ := seeFrom_ok hs1 pr1 hE sr1 g cH1 hkl
        have hs2 := p2.shp hs1
        have p12 := p1.same p2
        have k12 : ∀ j, j ≠ 28 → zI h2 117 j = zI h 117 j := fun j hj => by rw [k2 j hj, k1 j hj]
        have v28 := s2.1
        have take : (∀ b Q, b < k → Q.length ≤ 255 → (∀ k', k' < k → cr ((LL M).getD k' 0) = k' → ∀ Q', rcD (dN M cr) (k' + 1) Q' → (Q : List Nat).length ≤ Q'.length) → Q2.length < Q.length ∨ True) := fun _ _ _ _ _ => Or.inr trivial
        rcases bst with ⟨rfl, rfl, rfl⟩ | ⟨b, Q, hbk, rfl, rfl, lQ, hb, rcb, mn⟩
        · unfold bX11_findMembers_76 bX11_findMembers_84
          simp (disch := omega) only [v23, Nat.not_le.mpr hkl, w1, w2, eq_true hrep, e2, SR (hs1), zl_eq, bsm, ZS, ZT, ZN, ZU, eq_self, true_and, and_true, and_self, or_true, true_or, or_false, false_or, not_true, not_false_eq_true, Nat.reduceAdd, Nat.reduceMul, Nat.reduceLT, Nat.reduceLeDiff, Nat.reduceEqDiff, ↓reduceIte, ZQ, Bool.true_eq_false, Bool.false_eq_true, Bool.not_true, Bool.not_false]
          simp (disch := omega) only [v28, SR (hs2), zl_eq, bsm, ZS, ZT, ZN, ZU, eq_self, true_and, and_true, and_self, or_true, true_or, or_false, false_or, not_true, not_false_eq_true, Nat.reduceAdd, Nat.reduceMul, Nat.reduceLT, Nat.reduceLeDiff, Nat.reduceEqDiff, ↓reduceIte, ZQ, Bool.true_eq_false, Bool.false_eq_true, Bool.not_true, Bool.not_false]
          refine ih _ hkl ⟨rfl, p12, k12, Or.inr ⟨0, Q2, by omega, rfl, rfl, l2, hrep, rc2, fun k' hk' _ Q' rc' => ?_⟩⟩
          have : k' = 0 := by omega
          subst this
          rw [rcD_len dN_0 rc2 rc']
          exact Nat.le_refl _
        · by_cases hle : Q.length ≤ Q2.length
          · unfold bX11_findMembers_84
            simp (disch := omega) only [v23, Nat.not_le.mpr hkl, w1, w2, eq_true hrep, e2, SR (hs1), zl_eq, bsm, ZS, ZT, ZN, ZU, eq_self, true_and, and_true, and_self, or_true, true_or, or_false, false_or, not_true, not_false_eq_true, Nat.reduceAdd, Nat.reduceMul, Nat.reduceLT, Nat.reduceLeDiff, Nat.reduceEqDiff, ↓reduceIte, ZQ, Bool.true_eq_false, Bool.false_eq_true, Bool.not_true, Bool.not_false]
            simp (disch := omega) only [v28, eq_true hle, SR (hs2), zl_eq, bsm, ZS, ZT, ZN, ZU, eq_self, true_and, and_true, and_self, or_true, true_or, or_false, false_or, not_true, not_false_eq_true, Nat.reduceAdd, Nat.reduceMul, Nat.reduceLT, Nat.reduceLeDiff, Nat.reduceEqDiff, ↓reduceIte, ZQ, Bool.true_eq_false, Bool.false_eq_true, Bool.not_true, Bool.not_false]
            refine ih _ hkl ⟨rfl, p12, k12, Or.inr ⟨b, Q, by omega, rfl, rfl, lQ, hb, rcb, fun k' hk' hr' Q' rc' => ?_⟩⟩
            by_cases e : k' = k
            · rw [e] at rc'
              rw [← rcD_len dN_0 rc2 rc']
              exact hle
            · exact mn k' (by omega) hr' Q' rc'
          · unfold bX11_findMembers_76 bX11_findMembers_84
            simp (disch := omega) only [v23, Nat.not_le.mpr hkl, w1, w2, eq_true hrep, e2, SR (hs1), zl_eq, bsm, ZS, ZT, ZN, ZU, eq_self, true_and, and_true, and_self, or_true, true_or, or_false, false_or, not_true, not_false_eq_true, Nat.reduceAdd, Nat.reduceMul, Nat.reduceLT, Nat.reduceLeDiff, Nat.reduceEqDiff, ↓reduceIte, ZQ, Bool.true_eq_false, Bool.false_eq_true, Bool.not_true, Bool.not_false]
            simp (disch := omega) only [v28, eq_false hle, SR (hs2), zl_eq, bsm, ZS, ZT, ZN, ZU, eq_self, true_and, and_true, and_self, or_true, true_or, or_false, false_or, not_true, not_false_eq_true, Nat.reduceAdd, Nat.reduceMul, Nat.reduceLT, Nat.reduceLeDiff, Nat.reduceEqDiff, ↓reduceIte, ZQ, Bool.true_eq_false, Bool.false_eq_true, Bool.not_true, Bool.not_false]
            refine ih _ hkl ⟨rfl, p12, k12, Or.inr ⟨k, Q2, by omega, rfl, rfl, l2, hrep, rc2, fun k' hk' hr' Q' rc' => ?_⟩⟩
            by_cases e : k' = k
            · rw [e] at rc'
              rw [rcD_len dN_0 rc2 rc']
              exact Nat.le_refl _
            · have := mn k' (by omega) hr' Q' rc'
              omega
      · have hk0 : k ≠ 0 := fun z => by subst z; exact hrep rep0
        unfold bX11_findMembers_84
        simp (disch := omega) only [v23, Nat.not_le.mpr hkl, w1, w2, eq_false hrep, SR (hs1), zl_eq, bsm, ZS, ZT, ZN, ZU, eq_self, true_and, and_true, and_self, or_true, true_or, or_false, false_or, not_true, not_false_eq_true, Nat.reduceAdd, Nat.reduceMul, Nat.reduceLT, Nat.reduceLeDiff, Nat.reduceEqDiff, ↓reduceIte, ZQ, Bool.true_eq_false, Bool.false_eq_true, Bool.not_true, Bool.not_false]
        refine ih _ hkl ⟨rfl, p1, k1, ?_⟩
        rcases bst with ⟨z, -⟩ | ⟨b, Q, hbk, e1, e2, lQ, hb, rcb, mn⟩
        · exact absurd z hk0
        · refine Or.inr ⟨b, Q, by omega, e1, e2, lQ, hb, rcb, fun k' hk' hr' Q' rc' => ?_⟩
          by_cases e : k' = k
          · rw [e] at hr'
            exact absurd hr' hrep
          · exact mn k' (by omega) hr' Q' rc'
    · have hke : k = (LL M).length := by omega
      subst hke
      rcases bst with ⟨z, -⟩ | ⟨b, Q, hbk, rfl, rfl, lQ, hb, rcb, mn⟩
      · omega
      · have bq : bestQ M cr b Q := ⟨hbk, hb, rcb, mn⟩
        by_cases h8 : Q.length ≤ 8
        · obtain ⟨h2, Q2, e2, p2, k2, s2, rc2, l2⟩ := seeFrom_ok hs1 pr1 hE sr1 g cH1 hbk
          have hs2 := p2.shp hs1
          have hl2 : Q2.length ≤ 8 := by rw [rcD_len dN_0 rc2 rcb]; exact h8
          have bq2 : bestQ M cr b Q2 := ⟨hbk, hb, rc2, fun k' hk' hr' Q' rc' => by rw [rcD_len dN_0 rc2 rcb]; exact mn k' hk' hr' Q' rc'⟩
          have v28 := s2.1
          have qb : ∀ P, P ∈ Q2 → P < (LL M).length + 1 := fun P hP => by
            obtain ⟨w, w1, w2⟩ := rc2.2.2.2.2 P hP
            have hPne : P ≠ 0 := fun z => rc2.2.1 (by rw [← z]; exact hP)
            have e := rn_dN hE g w w1 _ (mem b hbk)
            rw [hb, w2] at e
            by_cases z : rn (ims M) ((LL M).getD b 0) w = 0
            · rw [if_pos z] at e; exact absurd e hPne
            · rw [if_neg z] at e
              rcases rcL_rn hLL (mem b hbk) w w1 with q | q
              · exact absurd q z
              · have := (g _ q).1
                omega
          have p3 : zfr [117] h2 (zsI h2 (zu (zI h2) 117 30 (nI Q2.length))) := zfr_uI
          have k3 : ∀ j, j ≠ 30 → zI (zsI h2 (zu (zI h2) 117 30 (nI Q2.length))) 117 j = zI h2 117 j := fun j hj => by dsimp only [zI_zsI]; rw [zu_at, if_neg hj]
          have v3 : zI (zsI h2 (zu (zI h2) 117 30 (nI Q2.length))) 117 30 = nI Q2.length := by dsimp only [zI_zsI]; rw [zu_at, if_pos rfl]
          simp (disch := omega) only [v23, Nat.le_refl, eq_true h8, e2, SR (hs1), zl_eq, bsm, ZS, ZT, ZN, ZU, eq_self, true_and, and_true, and_self, or_true, true_or, or_false, false_or, not_true, not_false_eq_true, Nat.reduceAdd, Nat.reduceMul, Nat.reduceLT, Nat.reduceLeDiff, Nat.reduceEqDiff, ↓reduceIte, ZQ, Bool.true_eq_false, Bool.false_eq_true, Bool.not_true, Bool.not_false]
          simp (disch := omega) only [v28, SR (hs2), zl_eq, bsm, ZS, ZT, ZN, ZU, eq_self, true_and, and_true, and_self, or_true, true_or, or_false, false_or, not_true, not_false_eq_true, Nat.reduceAdd, Nat.reduceMul, Nat.reduceLT, Nat.reduceLeDiff, Nat.reduceEqDiff, ↓reduceIte, ZQ, Bool.true_eq_false, Bool.false_eq_true, Bool.not_true, Bool.not_false]
          generalize zsI h2 (zu (zI h2) 117 30 (nI Q2.length)) = h3 at p3 k3 v3
          have hs3 := p3.shp hs2
          -- the members
          refine wloop (fun i y => y.1 = nI i ∧ zfr [138] h3 y.2 ∧ ∀ i', i' < i → zI y.2 138 i' = nI (Q2.getD i' 0 - 1)) Q2.length (fun i y self2 hi hy ih2 => ?_) (show Q2.length < 100000 by omega) ⟨rfl, zfr.refl h3, fun i' hi' => by omega⟩
          obtain ⟨y, h4⟩ := y
          obtain ⟨rfl, p4, q4⟩ := hy
          dsimp only at p4 q4
          have hs4 := p4.shp hs3
          have v30 : zI h4 117 30 = nI Q2.length := by rw [p4.I (by decide)]; exact v3
          show wp (kX11_findMembers_115 117 self2 (nI i) h4) _
          unfold kX11_findMembers_115
          by_cases hil : i < Q2.length
          · have v5 : zI h4 137 i = nI (Q2.getD i 0 - 1) := by
              rw [p4.I (by decide), p3.I (by decide)]
              exact s2.2.1 i hil
            simp (disch := omega) only [v30, Nat.not_le.mpr hil, v5, SR (hs4), zl_eq, bsm, ZS, ZT, ZN, ZU, eq_self, true_and, and_true, and_self, or_true, true_or, or_false, false_or, not_true, not_false_eq_true, Nat.reduceAdd, Nat.reduceMul, Nat.reduceLT, Nat.reduceLeDiff, Nat.reduceEqDiff, ↓reduceIte, ZQ, Bool.true_eq_false, Bool.false_eq_true, Bool.not_true, Bool.not_false]
            refine ih2 _ hil ⟨rfl, p4.same zfr_uI, fun i' hi' => ?_⟩
            dsimp only [zI_zsI]
            rw [zu_at]
            by_cases e : i' = i
            · rw [if_pos e, e]
            · rw [if_neg e]; exact q4 i' (by omega)
          · have hie : i = Q2.length := by omega
            subst hie
            have m4 : memR Q2 h4 := ⟨v30, q4⟩
            simp (disch := omega) only [v30, Nat.le_refl, SR (hs4), zl_eq, bsm, ZS, ZT, ZN, ZU, eq_self, true_and, and_true, and_self, or_true, true_or, or_false, false_or, not_true, not_false_eq_true, Nat.reduceAdd, Nat.reduceMul, Nat.reduceLT, Nat.reduceLeDiff, Nat.reduceEqDiff, ↓reduceIte, ZQ, Bool.true_eq_false, Bool.false_eq_true, Bool.not_true, Bool.not_false]
            -- where they lead
            refine wloop (fun i y => y.1 = nI i ∧ zfr [139] h4 y.2 ∧ ∃ le, (∀ k, k < i → ∀ l, l < 4 → ((le k l = 0 ∧ dN M cr (Q2.getD k 0) l = 0) ∨ (le k l ≠ 0 ∧ le k l ≤ Q2.length ∧ Q2.getD (le k l - 1) 0 = dN M cr (Q2.getD k 0) l ∧ dN M cr (Q2.getD k 0) l ≠ 0)) ∧ zI y.2 139 (4 * k + l) = if (le k l : Nat) = 0 then -1 else nI (le k l - 1))) Q2.length (fun i y self3 hi hy ih3 => ?_) (show Q2.length < 100000 by omega) ⟨rfl, zfr.refl h4, fun _ _ => 0, fun k hk => by omega⟩
            obtain ⟨y, h5⟩ := y
            obtain ⟨rfl, p5, le, ff⟩ := hy
            dsimp only at p5 ff
            have hs5 := p5.shp hs4
            have v30' : zI h5 117 30 = nI Q2.length := by rw [p5.I (by decide)]; exact v30
            show wp (kX11_findMembers_147 117 self3 (nI i) h5) _
            unfold kX11_findMembers_147
            by_cases hil : i < Q2.length
            · simp (disch := omega) only [v30', Nat.not_le.mpr hil, SR (hs5), zl_eq, bsm, ZS, ZT, ZN, ZU, eq_self, true_and, and_true, and_self, or_true, true_or, or_false, false_or, not_true, not_false_eq_true, Nat.reduceAdd, Nat.reduceMul, Nat.reduceLT, Nat.reduceLeDiff, Nat.reduceEqDiff, ↓reduceIte, ZQ, Bool.true_eq_false, Bool.false_eq_true, Bool.not_true, Bool.not_false]
              refine wloop (fun l y => y.1 = nI l ∧ zfr [139] h4 y.2 ∧ ∃ le, (∀ k l', (k < i ∧ l' < 4) ∨ (k = i ∧ l' < l) → ((le k l' = 0 ∧ dN M cr (Q2.getD k 0) l' = 0) ∨ (le k l' ≠ 0 ∧ le k l' ≤ Q2.length ∧ Q2.getD (le k l' - 1) 0 = dN M cr (Q2.getD k 0) l' ∧ dN M cr (Q2.getD k 0) l' ≠ 0)) ∧ zI y.2 139 (4 * k + l') = if (le k l' : Nat) = 0 then -1 else nI (le k l' - 1))) 4 (fun l y self4 hl hy ih4 => ?_) (by decide) ⟨rfl, p5, le, fun k l' hk => by
                rcases hk with ⟨q1, q2⟩ | ⟨-, q2⟩
                · exact ff k q1 l' q2
                · omega⟩
              obtain ⟨y, h6⟩ := y
              obtain ⟨rfl, p6, le6, f6⟩ := hy
              dsimp only at p6 f6
              have hs6 := p6.shp hs4
              have m6 : memR Q2 h6 := ⟨by rw [p6.I (by decide)]; exact m4.1, fun k hk => by rw [p6.I (by decide)]; exact m4.2 k hk⟩
              show wp (kX11_findMembers_159 self3 117 (nI i) self4 (nI l) h6) _
              unfold kX11_findMembers_159
              by_cases hl4 : l < 4
              · have hPin := getD_mem hil
                have hPN := qb _ hPin
                have hP0 : Q2.getD i 0 ≠ 0 := fun z => rc2.2.1 (by rw [← z]; exact hPin)
                obtain ⟨x, hx⟩ : ∃ x, Q2.getD i 0 = x + 1 := ⟨Q2.getD i 0 - 1, by omega⟩
                have v7 := m6.2 i hil
                rw [hx] at v7 hPN
                rw [Nat.add_sub_cancel] at v7
                have hxl : x < (LL M).length := by omega
                obtain ⟨xz, x256⟩ := LL256 (mem x hxl)
                have pall : zfr [117, 136, 137, 138, 139] h h6 := (((p1.mono (by decide)).same (p2.mono (by decide))).same (p3.mono (by decide))).same ((p4.mono (by decide)).same (p6.mono (by decide)))
                have v8 : zI h6 133 x = nI ((LL M).getD x 0) := by rw [pall.I (by decide)]; exact sr.2 x hxl
                have v9 : zI h6 126 (4 * (LL M).getD x 0 + l) = nI (ims M ((LL M).getD x 0) l) := by rw [pall.I (by decide)]; exact pr.2 _ x256 l hl4
                have i256 := ims_lt (M := M) (S := (LL M).getD x 0) hl4
                have edx : dN M cr (x + 1) l = if ims M ((LL M).getD x 0) l = 0 then 0 else cr (ims M ((LL M).getD x 0) l) + 1 := dN_s
                have q257 : ∀ P, P ∈ Q2 → P < 257 := fun P hP => by have := qb P hP; omega
                have step : ∀ v : Nat, (v = 0 ∧ dN M cr (Q2.getD i 0) l = 0) ∨ (v ≠ 0 ∧ v ≤ Q2.length ∧ Q2.getD (v - 1) 0 = dN M cr (Q2.getD i 0) l ∧ dN M cr (Q2.getD i 0) l ≠ 0) → wp (self4 (nI (l + 1), zsI h6 (zu (zI h6) 139 (4 * i + l) (if v = 0 then -1 else nI (v - 1))))) _ := fun v hv => by
                  refine ih4 _ hl4 ⟨rfl, p6.same zfr_uI, fun k l' => if k = i ∧ l' = l then v else le6 k l', fun k l' hk => ?_⟩
                  dsimp only [zI_zsI]
                  rw [zu_at]
                  by_cases e : k = i ∧ l' = l
                  · have e2 : 4 * k + l' = 4 * i + l := by omega
                    simp only [if_pos e, if_pos e2]
                    rw [e.1, e.2]
                    exact ⟨hv, trivial⟩
                  · have e2 : ¬ (4 * k + l' = 4 * i + l) := by omega
                    simp only [if_neg e, if_neg e2]
                    exact f6 k l' (by omega)
                rcases hLL.2.2.2.1 _ (mem x hxl) l hl4 with z | z
                · have v10 : zI h6 134 (ims M ((LL M).getD x 0) l) = -1 := by rw [z, pall.I (by decide)]; exact cH.1
                  rw [if_pos z] at edx
                  have emo := memberOf_no hs6 m6 hl2 q257
                  simp (disch := omega) only [Nat.not_le.mpr hl4, v7, v8, v9, v10, emo, SR (hs6), zl_eq, bsm, ZS, ZT, ZN, ZU, eq_self, true_and, and_true, and_self, or_true, true_or, or_false, false_or, not_true, not_false_eq_true, Nat.reduceAdd, Nat.reduceMul, Nat.reduceLT, Nat.reduceLeDiff, Nat.reduceEqDiff, ↓reduceIte, ZQ, Bool.true_eq_false, Bool.false_eq_true, Bool.not_true, Bool.not_false]
                  have := step 0 (Or.inl ⟨rfl, by rw [hx]; exact edx⟩)
                  rw [if_pos rfl] at this
                  exact this
                · have hz := (LL256 z).1
                  have v10 : zI h6 134 (ims M ((LL M).getD x 0) l) = nI (cr (ims M ((LL M).getD x 0) l)) := by rw [pall.I (by decide)]; exact cH.2 _ z
                  have hcl := (g _ z).1
                  rw [if_neg hz] at edx
                  have hin : cr (ims M ((LL M).getD x 0) l) + 1 ∈ Q2 := by
                    rcases rc2.2.2.2.1 _ hPin l hl4 with q | q
                    · rw [hx, edx] at q; omega
                    · rw [hx, edx] at q; exact q
                  obtain ⟨i2, hi2, ei2⟩ := mem_getD hin
                  have emo := memberOf_ok hs6 m6 hl2 q257 rc2.1 rc2.2.1 hi2
                  rw [ei2, Nat.add_sub_cancel] at emo
                  simp (disch := omega) only [Nat.not_le.mpr hl4, v7, v8, v9, v10, emo, SR (hs6), zl_eq, bsm, ZS, ZT, ZN, ZU, eq_self, true_and, and_true, and_self, or_true, true_or, or_false, false_or, not_true, not_false_eq_true, Nat.reduceAdd, Nat.reduceMul, Nat.reduceLT, Nat.reduceLeDiff, Nat.reduceEqDiff, ↓reduceIte, ZQ, Bool.true_eq_false, Bool.false_eq_true, Bool.not_true, Bool.not_false]
                  have := step (i2 + 1) (Or.inr ⟨by omega, by omega, by rw [Nat.add_sub_cancel, ei2, hx, edx], by rw [hx, edx]; omega⟩)
                  rw [if_neg (by omega), Nat.add_sub_cancel] at this
                  exact this
              · have : l = 4 := by omega
                subst this
                simp (disch := omega) only [Nat.le_refl, SR (hs6), zl_eq, bsm, ZS, ZT, ZN, ZU, eq_self, true_and, and_true, and_self, or_true, true_or, or_false, false_or, not_true, not_false_eq_true, Nat.reduceAdd, Nat.reduceMul, Nat.reduceLT, Nat.reduceLeDiff, Nat.reduceEqDiff, ↓reduceIte, ZQ, Bool.true_eq_false, Bool.false_eq_true, Bool.not_true, Bool.not_false]
                exact ih3 _ hil ⟨rfl, p6, le6, fun k hk l hl => f6 k l (by omega)⟩
            · have hie : i = Q2.length := by omega
              subst hie
              simp (disch := omega) only [v30', Nat.le_refl, SR (hs5), zl_eq, bsm, ZS, ZT, ZN, ZU, eq_self, true_and, and_true, and_self, or_true, true_or, or_false, false_or, not_true, not_false_eq_true, Nat.reduceAdd, Nat.reduceMul, Nat.reduceLT, Nat.reduceLeDiff, Nat.reduceEqDiff, ↓reduceIte, ZQ, Bool.true_eq_false, Bool.false_eq_true, Bool.not_true, Bool.not_false]
              refine wp_some ⟨(((p1.mono (by decide)).same (p2.mono (by decide))).same (p3.mono (by decide))).same ((p4.mono (by decide)).same (p5.mono (by decide))), fun k h28 h30 => by rw [p5.I (by decide), p4.I (by decide), k3 k h30, k2 k h28, k1 k h28], b, Q2, bq2, Or.inr ⟨hl2, rfl, ⟨v30', fun k hk => by rw [p5.I (by decide)]; exact m4.2 k hk⟩, le, fun k hk l hl => (ff k hk l hl).1, fun k hk l hl => (ff k hk l hl).2⟩⟩
        · simp (disch := omega) only [v23, Nat.le_refl, eq_false h8, SR (hs1), zl_eq, bsm, ZS, ZT, ZN, ZU, eq_self, true_and, and_true, and_self, or_true, true_or, or_false, false_or, not_true, not_false_eq_true, Nat.reduceAdd, Nat.reduceMul, Nat.reduceLT, Nat.reduceLeDiff, Nat.reduceEqDiff, ↓reduceIte, ZQ, Bool.true_eq_false, Bool.false_eq_true, Bool.not_true, Bool.not_false]
          exact wp_some ⟨p1.mono (by decide), fun k h28 _ => k1 k h28, b, Q, bq, Or.inl ⟨by omega, rfl⟩⟩
  obtain ⟨⟨r, h'⟩, e, p, q, b, Q, q2⟩ := key
  exact ⟨h', r, b, Q, e, p, q, q2⟩
end FMB
