/-! CALLS: periodic, orbits: the reference's count; whole -/
section PR
variable {h : ZH} {M : Nat → Nat}
theorem isPer_ok {n x : Nat} (hs : Sh h) (pr : prep M h) (hn : n ≤ 7) (z12 : zI h 117 12 = nI n) (hw : vI h 125 n (dgt n x)) : fX11_isPeriodic 117 h = some (nI (per M n x).toNat, h) := by
  have key : wp (fX11_isPeriodic 117 h) (fun y => y = (nI (per M n x).toNat, h)) := by
    obtain ⟨m, h1, h2, h3, h4⟩ := dwn_stop (ess_lt M) (dwn_Fw M n x)
    have hp := per_of h1 h4
    have lt : ∀ k, itr (Fw M n x) k (ess M) < 256 := fun k => sb_lt (dwn_in (dwn_Fw M n x) k) (ess_lt M)
    have eb : ∀ k, fX11_behind 117 (nI (itr (Fw M n x) k (ess M))) (nI 0) (nI n) h = some (nI (itr (Fw M n x) (k + 1) (ess M)), h) := by
      intro k
      have := behind_ok (w := dgt n x) (a := 0) (k := n) hs pr (lt k) (by omega) (fun j hj => by rw [Nat.zero_add]; exact ⟨hw j hj, dgt_lt _ _ _⟩)
      rw [Nat.zero_add] at this
      exact this
    have e0 := eb 0
    rw [show itr (Fw M n x) 0 (ess M) = ess M from rfl] at e0
    unfold fX11_isPeriodic
    simp (disch := omega) only [pr.1, z12, e0, SR (hs), zl_eq, bsm, ZS, ZT, ZN, ZU, eq_self, true_and, and_true, and_self, or_true, true_or, or_false, false_or, not_true, not_false_eq_true, Nat.reduceAdd, Nat.reduceMul, Nat.reduceLT, Nat.reduceLeDiff, Nat.reduceEqDiff, ↓reduceIte, ZQ, Bool.true_eq_false, Bool.false_eq_true, Bool.not_true, Bool.not_false]
    refine wloop (fun r z => z = (nI (itr (Fw M n x) r (ess M)), nI (itr (Fw M n x) (r + 1) (ess M)), h)) m (fun r z self hr hz ih => ?_) (show m < 100000 by omega) rfl
    subst hz
    show wp (kX11_isPeriodic_16 117 self (nI (itr (Fw M n x) r (ess M))) (nI (itr (Fw M n x) (r + 1) (ess M))) h) _
    unfold kX11_isPeriodic_16 bX11_isPeriodic_46
    have l1 := lt r
    have l2 := lt (r + 1)
    have eb1 := eb (r + 1)
    by_cases hlt : r < m
    · have hne := h3 r hlt
      generalize itr (Fw M n x) r (ess M) = A at *
      simp (disch := omega) only [eq_false hne, z12, eb1, SR (hs), zl_eq, bsm, ZS, ZT, ZN, ZU, eq_self, true_and, and_true, and_self, or_true, true_or, or_false, false_or, not_true, not_false_eq_true, Nat.reduceAdd, Nat.reduceMul, Nat.reduceLT, Nat.reduceLeDiff, Nat.reduceEqDiff, ↓reduceIte, ZQ, Bool.true_eq_false, Bool.false_eq_true, Bool.not_true, Bool.not_false]
      exact ih _ hlt rfl
    · have : r = m := by omega
      subst this
      rw [h2]
      by_cases hz : itr (Fw M n x) r (ess M) = 0
      · rw [decide_eq_true hz] at hp
        rw [hp, hz]
        simp (disch := omega) only [SR (hs), zl_eq, bsm, ZS, ZT, ZN, ZU, eq_self, true_and, and_true, and_self, or_true, true_or, or_false, false_or, not_true, not_false_eq_true, Nat.reduceAdd, Nat.reduceMul, Nat.reduceLT, Nat.reduceLeDiff, Nat.reduceEqDiff, ↓reduceIte, ZQ, Bool.true_eq_false, Bool.false_eq_true, Bool.not_true, Bool.not_false]
        exact wp_some rfl
      · rw [decide_eq_false hz] at hp
        rw [hp]
        generalize itr (Fw M n x) r (ess M) = A at *
        simp (disch := omega) only [eq_false hz, SR (hs), zl_eq, bsm, ZS, ZT, ZN, ZU, eq_self, true_and, and_true, and_self, or_true, true_or, or_false, false_or, not_true, not_false_eq_true, Nat.reduceAdd, Nat.reduceMul, Nat.reduceLT, Nat.reduceLeDiff, Nat.reduceEqDiff, ↓reduceIte, ZQ, Bool.true_eq_false, Bool.false_eq_true, Bool.not_true, Bool.not_false]
        exact wp_some rfl
  obtain ⟨y, e, rfl⟩ := key
  exact e
theorem prB_no {w : Nat → Nat} {n j : Nat} (h : prB w n j = false) : ∀ i, prB w n (j + i) = false
  | 0 => h
  | i + 1 => by rw [← Nat.add_assoc, prB, prB_no h i, Bool.false_and]
theorem isPrim_ok {n x : Nat} (hs : Sh h) (n1 : 1 ≤ n) (hn : n ≤ 7) (z12 : zI h 117 12 = nI n) (hw : vI h 125 n (dgt n x)) : fX11_isPrimitive 117 h = some (nI (primB n x).toNat, h) := by
  have key : wp (fX11_isPrimitive 117 h) (fun y => y = (nI (primB n x).toNat, h)) := by
    unfold fX11_isPrimitive primB
    have hd : ∀ j, dgt n x j < 4 := fun j => dgt_lt n x j
    generalize dgt n x = w at hw hd
    simp (disch := omega) only [SR (hs), zl_eq, bsm, ZS, ZT, ZN, ZU, eq_self, true_and, and_true, and_self, or_true, true_or, or_false, false_or, not_true, not_false_eq_true, Nat.reduceAdd, Nat.reduceMul, Nat.reduceLT, Nat.reduceLeDiff, Nat.reduceEqDiff, ↓reduceIte, ZQ, Bool.true_eq_false, Bool.false_eq_true, Bool.not_true, Bool.not_false]
    refine wloop (fun j z => z = (nI (j + 1), h) ∧ prB w n j = true) (n - 1) (fun j z self hj hz ih => ?_) (show n - 1 < 100000 by omega) ⟨rfl, rfl⟩
    obtain ⟨rfl, hb⟩ := hz
    show wp (kX11_isPrimitive_2 117 self (nI (j + 1)) h) _
    unfold kX11_isPrimitive_2
    by_cases hlt : j < n - 1
    · -- the inner loop
      have inner : ∀ f : Bool, bX11_isPrimitive_24 self 117 (nI (j + 1)) (nI f.toNat) h = if (esB w (j + 1) (n - (j + 1)) && f) = true then some (nI 0, h) else self (nI (j + 2), h) := by
        intro f
        unfold bX11_isPrimitive_24
        show zloop (lX11_isPrimitive_27 self 117 (nI (j + 1))) zfu ((fun i => (nI (esB w (j + 1) i && f).toNat, nI (j + 1 + i), h)) 0) = _
        refine zloop_run (fun i => (nI (esB w (j + 1) i && f).toNat, nI (j + 1 + i), h)) (n - (j + 1)) (fun i hi self2 => ?_) (fun self2 => ?_) (show n - (j + 1) < 100000 by omega)
        · show kX11_isPrimitive_27 self 117 (nI (j + 1)) self2 (nI (esB w (j + 1) i && f).toNat) (nI (j + 1 + i)) h = self2 (nI (esB w (j + 1) (i + 1) && f).toNat, nI (j + 1 + (i + 1)), h)
          unfold kX11_isPrimitive_27 bX11_isPrimitive_60 bX11_isPrimitive_61
          have d1 := hw (j + 1 + i) (by omega)
          have d2 := hw i (by omega)
          have f1 := hd (j + 1 + i)
          have f2 := hd i
          rw [esB]
          cases hr : esB w (j + 1) i with
          | false =>
            rw [Bool.false_and, Bool.false_and, Bool.false_and, Bool.toNat_false]
            simp (disch := omega) only [z12, show ¬ (n ≤ j + 1 + i) by omega, SR (hs), zl_eq, bsm, ZS, ZT, ZN, ZU, eq_self, true_and, and_true, and_self, or_true, true_or, or_false, false_or, not_true, not_false_eq_true, Nat.reduceAdd, Nat.reduceMul, Nat.reduceLT, Nat.reduceLeDiff, Nat.reduceEqDiff, ↓reduceIte, ZQ, Bool.true_eq_false, Bool.false_eq_true, Bool.not_true, Bool.not_false]
            rfl
          | true =>
            cases f with
            | false =>
              rw [Bool.and_false, Bool.and_false, Bool.toNat_false]
              simp (disch := omega) only [z12, show ¬ (n ≤ j + 1 + i) by omega, SR (hs), zl_eq, bsm, ZS, ZT, ZN, ZU, eq_self, true_and, and_true, and_self, or_true, true_or, or_false, false_or, not_true, not_false_eq_true, Nat.reduceAdd, Nat.reduceMul, Nat.reduceLT, Nat.reduceLeDiff, Nat.reduceEqDiff, ↓reduceIte, ZQ, Bool.true_eq_false, Bool.false_eq_true, Bool.not_true, Bool.not_false]
              rfl
            | true =>
              rw [Bool.true_and, Bool.true_and, Bool.and_true, Bool.toNat_true]
              by_cases e : w (j + 1 + i) = w i
              · rw [decide_eq_true e, Bool.toNat_true]
                simp (disch := omega) only [z12, show ¬ (n ≤ j + 1 + i) by omega, d1, Nat.add_sub_cancel_left, d2, eq_true e, SR (hs), zl_eq, bsm, ZS, ZT, ZN, ZU, eq_self, true_and, and_true, and_self, or_true, true_or, or_false, false_or, not_true, not_false_eq_true, Nat.reduceAdd, Nat.reduceMul, Nat.reduceLT, Nat.reduceLeDiff, Nat.reduceEqDiff, ↓reduceIte, ZQ, Bool.true_eq_false, Bool.false_eq_true, Bool.not_true, Bool.not_false]
                rfl
              · rw [decide_eq_false e, Bool.toNat_false]
                simp (disch := omega) only [z12, show ¬ (n ≤ j + 1 + i) by omega, d1, Nat.add_sub_cancel_left, d2, eq_false e, SR (hs), zl_eq, bsm, ZS, ZT, ZN, ZU, eq_self, true_and, and_true, and_self, or_true, true_or, or_false, false_or, not_true, not_false_eq_true, Nat.reduceAdd, Nat.reduceMul, Nat.reduceLT, Nat.reduceLeDiff, Nat.reduceEqDiff, ↓reduceIte, ZQ, Bool.true_eq_false, Bool.false_eq_true, Bool.not_true, Bool.not_false]
                rfl
        · show kX11_isPrimitive_27 self 117 (nI (j + 1)) self2 (nI (esB w (j + 1) (n - (j + 1)) && f).toNat) (nI (j + 1 + (n - (j + 1)))) h = _
          unfold kX11_isPrimitive_27
          rw [show j + 1 + (n - (j + 1)) = n by omega]
          cases hf : (esB w (j + 1) (n - (j + 1)) && f) with
          | false => simp (disch := omega) only [z12, Nat.le_refl, Bool.toNat_false, SR (hs), zl_eq, bsm, ZS, ZT, ZN, ZU, eq_self, true_and, and_true, and_self, or_true, true_or, or_false, false_or, not_true, not_false_eq_true, Nat.reduceAdd, Nat.reduceMul, Nat.reduceLT, Nat.reduceLeDiff, Nat.reduceEqDiff, ↓reduceIte, ZQ, Bool.true_eq_false, Bool.false_eq_true, Bool.not_true, Bool.not_false]
          | true => simp (disch := omega) only [z12, Nat.le_refl, Bool.toNat_true, SR (hs), zl_eq, bsm, ZS, ZT, ZN, ZU, eq_self, true_and, and_true, and_self, or_true, true_or, or_false, false_or, not_true, not_false_eq_true, Nat.reduceAdd, Nat.reduceMul, Nat.reduceLT, Nat.reduceLeDiff, Nat.reduceEqDiff, ↓reduceIte, ZQ, Bool.true_eq_false, Bool.false_eq_true, Bool.not_true, Bool.not_false]
      have pe : prB w n (j + 1) = !pqB w n (j + 1) := by rw [prB, hb, Bool.true_and]
      have fin0 : pqB w n (j + 1) = true → prB w n (n - 1) = false := by
        intro q
        rw [q] at pe
        have := prB_no pe (n - 1 - (j + 1))
        rwa [show j + 1 + (n - 1 - (j + 1)) = n - 1 by omega] at this
      have hmb : n % (j + 1) ≤ n := Nat.mod_le _ _
      by_cases hm : n % (j + 1) = 0
      · have i1 := inner true
        rw [Bool.toNat_true, Bool.and_true] at i1
        simp (disch := omega) only [z12, show ¬ (n ≤ j + 1) by omega, show ¬ (j + 1 = 0) by omega, eq_true hm, i1, SR (hs), zl_eq, bsm, ZS, ZT, ZN, ZU, eq_self, true_and, and_true, and_self, or_true, true_or, or_false, false_or, not_true, not_false_eq_true, Nat.reduceAdd, Nat.reduceMul, Nat.reduceLT, Nat.reduceLeDiff, Nat.reduceEqDiff, ↓reduceIte, ZQ, Bool.true_eq_false, Bool.false_eq_true, Bool.not_true, Bool.not_false]
        have pq : pqB w n (j + 1) = esB w (j + 1) (n - (j + 1)) := by unfold pqB; rw [decide_eq_true hm, Bool.true_and]
        by_cases e : esB w (j + 1) (n - (j + 1)) = true
        · rw [if_pos e, fin0 (pq.trans e)]
          exact wp_some rfl
        · rw [if_neg e]
          refine ih _ hlt ⟨rfl, ?_⟩
          rw [pe, pq]
          simpa using e
      · have i1 := inner false
        rw [Bool.toNat_false, Bool.and_false, if_neg (by decide)] at i1
        simp (disch := omega) only [z12, show ¬ (n ≤ j + 1) by omega, show ¬ (j + 1 = 0) by omega, eq_false hm, i1, SR (hs), zl_eq, bsm, ZS, ZT, ZN, ZU, eq_self, true_and, and_true, and_self, or_true, true_or, or_false, false_or, not_true, not_false_eq_true, Nat.reduceAdd, Nat.reduceMul, Nat.reduceLT, Nat.reduceLeDiff, Nat.reduceEqDiff, ↓reduceIte, ZQ, Bool.true_eq_false, Bool.false_eq_true, Bool.not_true, Bool.not_false]
        refine ih _ hlt ⟨rfl, ?_⟩
        rw [pe]
        unfold pqB
        rw [decide_eq_false hm, Bool.false_and]
        rfl
    · have : j = n - 1 := by omega
      subst this
      rw [hb]
      simp (disch := omega) only [z12, show n ≤ n - 1 + 1 by omega, SR (hs), zl_eq, bsm, ZS, ZT, ZN, ZU, eq_self, true_and, and_true, and_self, or_true, true_or, or_false, false_or, not_true, not_false_eq_true, Nat.reduceAdd, Nat.reduceMul, Nat.reduceLT, Nat.reduceLeDiff, Nat.reduceEqDiff, ↓reduceIte, ZQ, Bool.true_eq_false, Bool.false_eq_true, Bool.not_true, Bool.not_false]
      exact wp_some rfl
  obtain ⟨y, e, rfl⟩ := key
  exact e
theorem countPer_ok {G : Nat → Nat → Nat} {s n : Nat} (hs : Sh h) (g : rG G h) (h6 : s < 6) (n1 : 1 ≤ n) (hn : n ≤ 7) (b : Bool) : ∃ h', fX11_countPeriodic 117 (nI s) (nI n) (nI b.toNat) h = some (nI (cnt (fun x => (!b || primB n x) && per (G s) n x) (4 ^ n)), h') ∧ fq h h' := by
  have key : wp (fX11_countPeriodic 117 (nI s) (nI n) (nI b.toNat) h) (fun r => r.1 = nI (cnt (fun x => (!b || primB n x) && per (G s) n x) (4 ^ n)) ∧ zfr [126, 117, 125] h r.2 ∧ ∀ k, k ≠ 14 → k ≠ 12 → zI r.2 117 k = zI h 117 k) := by
    obtain ⟨h1, e1, p1, k1, pr⟩ := prepare_ok hs g h6
    have hs1 := p1.shp hs
    have hN := p47 hn
    unfold fX11_countPeriodic
    simp (disch := omega) only [e1, SR (hs), zl_eq, bsm, ZS, ZT, ZN, ZU, eq_self, true_and, and_true, and_self, or_true, true_or, or_false, false_or, not_true, not_false_eq_true, Nat.reduceAdd, Nat.reduceMul, Nat.reduceLT, Nat.reduceLeDiff, Nat.reduceEqDiff, ↓reduceIte, ZQ, Bool.true_eq_false, Bool.false_eq_true, Bool.not_true, Bool.not_false]
    obtain ⟨N, eN⟩ : ∃ N, N = 4 ^ n := ⟨_, rfl⟩
    have eN2 : 2 ^ (2 * n) = N := by rw [pow24, eN]
    rw [← eN] at hN ⊢
    refine wloop (fun x y => y.1 = nI (cnt (fun x => (!b || primB n x) && per (G s) n x) x) ∧ y.2.1 = nI x ∧ zfr [117, 125] h1 y.2.2 ∧ ∀ k, k ≠ 12 → zI y.2.2 117 k = zI h1 117 k) N (fun x y self hx hy ih => ?_) (show N < 100000 by omega) ⟨rfl, rfl, zfr.refl h1, fun _ _ => rfl⟩
    obtain ⟨y1, y2, h2⟩ := y
    obtain ⟨rfl, rfl, p2, k2⟩ := hy
    dsimp only at p2 k2
    have hs2 := p2.shp hs1
    show wp (kX11_countPeriodic_11 117 (nI n) (nI b.toNat) self (nI (cnt (fun x => (!b || primB n x) && per (G s) n x) x)) (nI x) h2) _
    unfold kX11_countPeriodic_11
    by_cases hlt : x < N
    · obtain ⟨h3, e3, p3, k3, z3, w3⟩ := spellW_ok (n := n) (k := x) hs2 hn (by rw [← eN]; exact hlt)
      have hs3 := p3.shp hs2
      have pr3 : prep (G s) h3 := ⟨by rw [k3 14 (by decide), k2 14 (by decide)]; exact pr.1, fun S hS l hl => by rw [p3.I (by decide), p2.I (by decide)]; exact pr.2 S hS l hl⟩
      have eper := isPer_ok (x := x) hs3 pr3 hn z3 w3
      have eprm := isPrim_ok (x := x) hs3 n1 hn z3 w3
      have nxt : wp (self (nI (cnt (fun x => (!b || primB n x) && per (G s) n x) (x + 1)), nI (x + 1), h3)) _ := ih _ hlt ⟨rfl, rfl, p2.same p3, fun k hk => by rw [k3 k hk, k2 k hk]⟩
      have per41 : (!b || primB n x) = true → wp (bX11_countPeriodic_41 self 117 (nI n) (nI b.toNat) (nI x) (nI (cnt (fun x => (!b || primB n x) && per (G s) n x) x)) h3) (fun r => r.1 = nI (cnt (fun x => (!b || primB n x) && per (G s) n x) N) ∧ zfr [126, 117, 125] h r.2 ∧ ∀ k, k ≠ 14 → k ≠ 12 → zI r.2 117 k = zI h 117 k) := by
        intro hb
        unfold bX11_countPeriodic_41 bX11_countPeriodic_52 bX11_countPeriodic_53
        cases hp : per (G s) n x with
        | true =>
          rw [hp, Bool.toNat_true] at eper
          rw [cnt_one (by rw [hb, hp]; rfl)] at nxt
          simp (disch := omega) only [eper, SR (hs3), zl_eq, bsm, ZS, ZT, ZN, ZU, eq_self, true_and, and_true, and_self, or_true, true_or, or_false, false_or, not_true, not_false_eq_true, Nat.reduceAdd, Nat.reduceMul, Nat.reduceLT, Nat.reduceLeDiff, Nat.reduceEqDiff, ↓reduceIte, ZQ, Bool.true_eq_false, Bool.false_eq_true, Bool.not_true, Bool.not_false]
          exact nxt
        | false =>
          rw [hp, Bool.toNat_false] at eper
          rw [cnt_zero (by rw [hp, Bool.and_false])] at nxt
          simp (disch := omega) only [eper, Nat.add_zero, SR (hs3), zl_eq, bsm, ZS, ZT, ZN, ZU, eq_self, true_and, and_true, and_self, or_true, true_or, or_false, false_or, not_true, not_false_eq_true, Nat.reduceAdd, Nat.reduceMul, Nat.reduceLT, Nat.reduceLeDiff, Nat.reduceEqDiff, ↓reduceIte, ZQ, Bool.true_eq_false, Bool.false_eq_true, Bool.not_true, Bool.not_false]
          exact nxt
      cases hb : b with
      | false =>
        subst hb
        have q := per41 rfl
        rw [Bool.toNat_false] at q ⊢
        simp (disch := omega) only [eN2, Nat.not_le.mpr hlt, e3, SR (hs2), zl_eq, bsm, ZS, ZT, ZN, ZU, eq_self, true_and, and_true, and_self, or_true, true_or, or_false, false_or, not_true, not_false_eq_true, Nat.reduceAdd, Nat.reduceMul, Nat.reduceLT, Nat.reduceLeDiff, Nat.reduceEqDiff, ↓reduceIte, ZQ, Bool.true_eq_false, Bool.false_eq_true, Bool.not_true, Bool.not_false]
        exact q
      | true =>
        subst hb
        rw [Bool.toNat_true] at per41 ⊢
        cases hp : primB n x with
        | true =>
          rw [hp, Bool.toNat_true] at eprm
          have q := per41 hp
          simp (disch := omega) only [eN2, Nat.not_le.mpr hlt, e3, SR (hs2), zl_eq, bsm, ZS, ZT, ZN, ZU, eq_self, true_and, and_true, and_self, or_true, true_or, or_false, false_or, not_true, not_false_eq_true, Nat.reduceAdd, Nat.reduceMul, Nat.reduceLT, Nat.reduceLeDiff, Nat.reduceEqDiff, ↓reduceIte, ZQ, Bool.true_eq_false, Bool.false_eq_true, Bool.not_true, Bool.not_false]
          simp (disch := omega) only [eprm, SR (hs3), zl_eq, bsm, ZS, ZT, ZN, ZU, eq_self, true_and, and_true, and_self, or_true, true_or, or_false, false_or, not_true, not_false_eq_true, Nat.reduceAdd, Nat.reduceMul, Nat.reduceLT, Nat.reduceLeDiff, Nat.reduceEqDiff, ↓reduceIte, ZQ, Bool.true_eq_false, Bool.false_eq_true, Bool.not_true, Bool.not_false]
          exact q
        | false =>
          rw [hp, Bool.toNat_false] at eprm
          rw [cnt_zero (by rw [hp]; rfl)] at nxt
          unfold bX11_countPeriodic_52 bX11_countPeriodic_53
          simp (disch := omega) only [eN2, Nat.not_le.mpr hlt, e3, SR (hs2), zl_eq, bsm, ZS, ZT, ZN, ZU, eq_self, true_and, and_true, and_self, or_true, true_or, or_false, false_or, not_true, not_false_eq_true, Nat.reduceAdd, Nat.reduceMul, Nat.reduceLT, Nat.reduceLeDiff, Nat.reduceEqDiff, ↓reduceIte, ZQ, Bool.true_eq_false, Bool.false_eq_true, Bool.not_true, Bool.not_false]
          simp (disch := omega) only [eprm, Nat.add_zero, SR (hs3), zl_eq, bsm, ZS, ZT, ZN, ZU, eq_self, true_and, and_true, and_self, or_true, true_or, or_false, false_or, not_true, not_false_eq_true, Nat.reduceAdd, Nat.reduceMul, Nat.reduceLT, Nat.reduceLeDiff, Nat.reduceEqDiff, ↓reduceIte, ZQ, Bool.true_eq_false, Bool.false_eq_true, Bool.not_true, Bool.not_false]
          exact nxt
    · have : x = N := by omega
      subst this
      simp (disch := omega) only [eN2, Nat.le_refl, SR (hs2), zl_eq, bsm, ZS, ZT, ZN, ZU, eq_self, true_and, and_true, and_self, or_true, true_or, or_false, false_or, not_true, not_false_eq_true, Nat.reduceAdd, Nat.reduceMul, Nat.reduceLT, Nat.reduceLeDiff, Nat.reduceEqDiff, ↓reduceIte, ZQ, Bool.true_eq_false, Bool.false_eq_true, Bool.not_true, Bool.not_false]
      exact wp_some ⟨rfl, (p1.trans p2).mono (by decide), fun k h1 h2 => by rw [k2 k h2, k1 k h1]⟩
  obtain ⟨⟨r, h'⟩, e, h1, h2, h3⟩ := key
  dsimp only at h1
  subst h1
  exact ⟨h', e, fq.of2 h2 (by decide) (fun k hk => h3 k (by omega) (by omega))⟩
end PR
theorem fqL {h h' : ZH} (p : zfr [34, 37, 38, 39, 40, 41] h h') : fq h h' := fq.of p (by decide) (by decide)
theorem fq42 {h h' : ZH} (p : zfr [42] h h') : fq h h' := fq.of p (by decide) (by decide)
theorem nL_le (M : Nat → Nat) {n : Nat} (hn : n ≤ 7) : nL M n ≤ 16384 := Nat.le_trans (cnt_le _ _) (p47 hn)
theorem c_orbits (a1 a2 : Int32) : Ok2 (fX10_orbits 0 a1 a2) (fX11_orbits 117 a1 a2) := by
  refine Ok2.of (fun h G n c hI => ?_)
  have hs := hI.1
  rcases cSlot a1 with b | ⟨s, h6, rfl⟩
  · refine Ok2.same hI (r := -2) ?_ ?_
    · simp (disch := omega) only [fX10_orbits, bX10_orbits_17, fun q => (b q).1, SC (hs), zl_eq, bsm, ZS, ZT, ZN, ZU, eq_self, true_and, and_true, and_self, or_true, true_or, or_false, false_or, not_true, not_false_eq_true, Nat.reduceAdd, Nat.reduceMul, Nat.reduceLT, Nat.reduceLeDiff, Nat.reduceEqDiff, ↓reduceIte, ZQ, Bool.true_eq_false, Bool.false_eq_true, Bool.not_true, Bool.not_false]
    · simp (disch := omega) only [fX11_orbits, bX11_orbits_29, bX11_orbits_31, fun q => (b q).2, SR (hs), zl_eq, bsm, ZS, ZT, ZN, ZU, eq_self, true_and, and_true, and_self, or_true, true_or, or_false, false_or, not_true, not_false_eq_true, Nat.reduceAdd, Nat.reduceMul, Nat.reduceLT, Nat.reduceLeDiff, Nat.reduceEqDiff, ↓reduceIte, ZQ, Bool.true_eq_false, Bool.false_eq_true, Bool.not_true, Bool.not_false]
  rcases cIn a2 (lo := 1) (hi := 7) (by decide) (by decide) with b | ⟨m, h1, h7, rfl⟩
  · refine Ok2.same hI (r := -2) ?_ ?_
    · simp (disch := omega) only [fX10_orbits, bX10_orbits_17, fun q => (b q).1, SC (hs), zl_eq, bsm, ZS, ZT, ZN, ZU, eq_self, true_and, and_true, and_self, or_true, true_or, or_false, false_or, not_true, not_false_eq_true, Nat.reduceAdd, Nat.reduceMul, Nat.reduceLT, Nat.reduceLeDiff, Nat.reduceEqDiff, ↓reduceIte, ZQ, Bool.true_eq_false, Bool.false_eq_true, Bool.not_true, Bool.not_false]
    · simp (disch := omega) only [fX11_orbits, bX11_orbits_29, bX11_orbits_31, fun q => (b q).2, SR (hs), zl_eq, bsm, ZS, ZT, ZN, ZU, eq_self, true_and, and_true, and_self, or_true, true_or, or_false, false_or, not_true, not_false_eq_true, Nat.reduceAdd, Nat.reduceMul, Nat.reduceLT, Nat.reduceLeDiff, Nat.reduceEqDiff, ↓reduceIte, ZQ, Bool.true_eq_false, Bool.false_eq_true, Bool.not_true, Bool.not_false]
  obtain ⟨m, rfl⟩ : ∃ k, m = k + 1 := ⟨m - 1, by omega⟩
  obtain ⟨h1, e1, p1, au, -⟩ := load_ok hI h6
  have g1 := hI.fr (fqL p1)
  obtain ⟨h2, e2, p2⟩ := orbitsC g1.1 au (n := m + 1) (by omega) h7
  have g2 := g1.fr (fq42 p2)
  obtain ⟨h3, e3, f3⟩ := countPer_ok g2.1 g2.2.1.rr h6 (n := m + 1) (by omega) h7 true
  have ec : cnt (fun x => (!true || primB (m + 1) x) && per (G s) (m + 1) x) (4 ^ (m + 1)) = (m + 1) * nL (G s) (m + 1) := by
    rw [E1 (by omega)]
    rfl
  rw [ec, Bool.toNat_true] at e3
  have hb := nL_le (G s) (n := m + 1) h7
  have hb2 : (m + 1) * nL (G s) (m + 1) ≤ 7 * 16384 := Nat.mul_le_mul h7 hb
  refine ⟨nI (nL (G s) (m + 1)), (nI (nL (G s) (m + 1)), h2), ?_, rfl, wp_eq (a := (nI (nL (G s) (m + 1)), h3)) ?_ ⟨rfl, G, n, c, g2.fr f3⟩⟩
  · unfold fX10_orbits
    simp (disch := omega) only [e1, SC (hs), zl_eq, bsm, ZS, ZT, ZN, ZU, eq_self, true_and, and_true, and_self, or_true, true_or, or_false, false_or, not_true, not_false_eq_true, Nat.reduceAdd, Nat.reduceMul, Nat.reduceLT, Nat.reduceLeDiff, Nat.reduceEqDiff, ↓reduceIte, ZQ, Bool.true_eq_false, Bool.false_eq_true, Bool.not_true, Bool.not_false]
    simp (disch := omega) only [e2, SC (g1.1), zl_eq, bsm, ZS, ZT, ZN, ZU, eq_self, true_and, and_true, and_self, or_true, true_or, or_false, false_or, not_true, not_false_eq_true, Nat.reduceAdd, Nat.reduceMul, Nat.reduceLT, Nat.reduceLeDiff, Nat.reduceEqDiff, ↓reduceIte, ZQ, Bool.true_eq_false, Bool.false_eq_true, Bool.not_true, Bool.not_false]
  · unfold fX11_orbits bX11_orbits_31
    simp (disch := omega) only [e3, show ¬ (m + 1 = 0) by omega, Nat.mul_div_cancel_left _ (Nat.succ_pos m), SR (g2.1), zl_eq, bsm, ZS, ZT, ZN, ZU, eq_self, true_and, and_true, and_self, or_true, true_or, or_false, false_or, not_true, not_false_eq_true, Nat.reduceAdd, Nat.reduceMul, Nat.reduceLT, Nat.reduceLeDiff, Nat.reduceEqDiff, ↓reduceIte, ZQ, Bool.true_eq_false, Bool.false_eq_true, Bool.not_true, Bool.not_false]
theorem c_periodic (a1 a2 : Int32) : Ok2 (fX10_periodic 0 a1 a2) (fX11_periodic 117 a1 a2) := by
  refine Ok2.of (fun h G n c hI => ?_)
  have hs := hI.1
  rcases cSlot a1 with b | ⟨s, h6, rfl⟩
  · refine Ok2.same hI (r := -2) ?_ ?_
    · simp (disch := omega) only [fX10_periodic, bX10_periodic_17, fun q => (b q).1, SC (hs), zl_eq, bsm, ZS, ZT, ZN, ZU, eq_self, true_and, and_true, and_self, or_true, true_or, or_false, false_or, not_true, not_false_eq_true, Nat.reduceAdd, Nat.reduceMul, Nat.reduceLT, Nat.reduceLeDiff, Nat.reduceEqDiff, ↓reduceIte, ZQ, Bool.true_eq_false, Bool.false_eq_true, Bool.not_true, Bool.not_false]
    · simp (disch := omega) only [fX11_periodic, bX11_periodic_27, bX11_periodic_29, fun q => (b q).2, SR (hs), zl_eq, bsm, ZS, ZT, ZN, ZU, eq_self, true_and, and_true, and_self, or_true, true_or, or_false, false_or, not_true, not_false_eq_true, Nat.reduceAdd, Nat.reduceMul, Nat.reduceLT, Nat.reduceLeDiff, Nat.reduceEqDiff, ↓reduceIte, ZQ, Bool.true_eq_false, Bool.false_eq_true, Bool.not_true, Bool.not_false]
  rcases cIn a2 (lo := 1) (hi := 7) (by decide) (by decide) with b | ⟨m, h1, h7, rfl⟩
  · refine Ok2.same hI (r := -2) ?_ ?_
    · simp (disch := omega) only [fX10_periodic, bX10_periodic_17, fun q => (b q).1, SC (hs), zl_eq, bsm, ZS, ZT, ZN, ZU, eq_self, true_and, and_true, and_self, or_true, true_or, or_false, false_or, not_true, not_false_eq_true, Nat.reduceAdd, Nat.reduceMul, Nat.reduceLT, Nat.reduceLeDiff, Nat.reduceEqDiff, ↓reduceIte, ZQ, Bool.true_eq_false, Bool.false_eq_true, Bool.not_true, Bool.not_false]
    · simp (disch := omega) only [fX11_periodic, bX11_periodic_27, bX11_periodic_29, fun q => (b q).2, SR (hs), zl_eq, bsm, ZS, ZT, ZN, ZU, eq_self, true_and, and_true, and_self, or_true, true_or, or_false, false_or, not_true, not_false_eq_true, Nat.reduceAdd, Nat.reduceMul, Nat.reduceLT, Nat.reduceLeDiff, Nat.reduceEqDiff, ↓reduceIte, ZQ, Bool.true_eq_false, Bool.false_eq_true, Bool.not_true, Bool.not_false]
  obtain ⟨m, rfl⟩ : ∃ k, m = k + 1 := ⟨m - 1, by omega⟩
  obtain ⟨h1, e1, p1, au, -⟩ := load_ok hI h6
  have g1 := hI.fr (fqL p1)
  have key : wp (zloop (lX10_periodic_35 0 (nI (m + 1))) zfu (nI 0, nI 1, h1)) (fun r => r.1 = nI (sm (fun d => if (m + 1) % (d + 1) = 0 then (d + 1) * nL (G s) (d + 1) else 0) (m + 1)) ∧ zfr [42] h1 r.2) := by
    refine wloop (fun d y => y.1 = nI (sm (fun d => if (m + 1) % (d + 1) = 0 then (d + 1) * nL (G s) (d + 1) else 0) d) ∧ y.2.1 = nI (d + 1) ∧ zfr [42] h1 y.2.2) (m + 1) (fun d y self hd hy ih => ?_) (show m + 1 < 100000 by omega) ⟨rfl, rfl, zfr.refl h1⟩
    obtain ⟨y1, y2, h2⟩ := y
    obtain ⟨rfl, rfl, p2⟩ := hy
    dsimp only at p2
    have hs2 := p2.shp g1.1
    show wp (kX10_periodic_35 0 (nI (m + 1)) self (nI (sm (fun d => if (m + 1) % (d + 1) = 0 then (d + 1) * nL (G s) (d + 1) else 0) d)) (nI (d + 1)) h2) _
    unfold kX10_periodic_35 bX10_periodic_63
    by_cases hlt : d < m + 1
    · have hmb : (m + 1) % (d + 1) ≤ m + 1 := Nat.mod_le _ _
      by_cases q : (m + 1) % (d + 1) = 0
      · have au2 : aut 37 (G s) h2 := subOK.fr p2 (by decide) (by decide) (by decide) (by decide) (by decide) au
        obtain ⟨h3, e3, p3⟩ := orbitsC hs2 au2 (n := d + 1) (by omega) (by omega)
        simp (disch := omega) only [show ¬ (m + 1 < d + 1) by omega, show ¬ (d + 1 = 0) by omega, eq_true q, e3, SC (hs2), zl_eq, bsm, ZS, ZT, ZN, ZU, eq_self, true_and, and_true, and_self, or_true, true_or, or_false, false_or, not_true, not_false_eq_true, Nat.reduceAdd, Nat.reduceMul, Nat.reduceLT, Nat.reduceLeDiff, Nat.reduceEqDiff, ↓reduceIte, ZQ, Bool.true_eq_false, Bool.false_eq_true, Bool.not_true, Bool.not_false]
        refine ih _ hlt ⟨?_, rfl, p2.same p3⟩
        rw [sm, if_pos q]
      · simp (disch := omega) only [show ¬ (m + 1 < d + 1) by omega, show ¬ (d + 1 = 0) by omega, eq_false q, SC (hs2), zl_eq, bsm, ZS, ZT, ZN, ZU, eq_self, true_and, and_true, and_self, or_true, true_or, or_false, false_or, not_true, not_false_eq_true, Nat.reduceAdd, Nat.reduceMul, Nat.reduceLT, Nat.reduceLeDiff, Nat.reduceEqDiff, ↓reduceIte, ZQ, Bool.true_eq_false, Bool.false_eq_true, Bool.not_true, Bool.not_false]
        refine ih _ hlt ⟨congrArg nI ?_, rfl, p2⟩
        rw [sm, if_neg q]
        rfl
    · have : d = m + 1 := by omega
      subst this
      simp (disch := omega) only [Nat.lt_succ_self, SC (hs2), zl_eq, bsm, ZS, ZT, ZN, ZU, eq_self, true_and, and_true, and_self, or_true, true_or, or_false, false_or, not_true, not_false_eq_true, Nat.reduceAdd, Nat.reduceMul, Nat.reduceLT, Nat.reduceLeDiff, Nat.reduceEqDiff, ↓reduceIte, ZQ, Bool.true_eq_false, Bool.false_eq_true, Bool.not_true, Bool.not_false]
      exact wp_some ⟨rfl, p2⟩
  obtain ⟨⟨r, h2⟩, e2, r2, p2⟩ := key
  dsimp only at r2 p2
  subst r2
  rw [E2 (by omega)] at e2
  have g2 := g1.fr (fq42 p2)
  obtain ⟨h3, e3, f3⟩ := countPer_ok g2.1 g2.2.1.rr h6 (n := m + 1) (by omega) h7 false
  have ec : cnt (fun x => (!false || primB (m + 1) x) && per (G s) (m + 1) x) (4 ^ (m + 1)) = cnt (per (G s) (m + 1)) (4 ^ (m + 1)) := rfl
  rw [ec, Bool.toNat_false] at e3
  generalize cnt (per (G s) (m + 1)) (4 ^ (m + 1)) = ans at e2 e3
  refine ⟨nI ans, (nI ans, h2), ?_, rfl, wp_eq (a := (nI ans, h3)) ?_ ⟨rfl, G, n, c, g2.fr f3⟩⟩
  · unfold fX10_periodic
    simp (disch := omega) only [e1, SC (hs), zl_eq, bsm, ZS, ZT, ZN, ZU, eq_self, true_and, and_true, and_self, or_true, true_or, or_false, false_or, not_true, not_false_eq_true, Nat.reduceAdd, Nat.reduceMul, Nat.reduceLT, Nat.reduceLeDiff, Nat.reduceEqDiff, ↓reduceIte, ZQ, Bool.true_eq_false, Bool.false_eq_true, Bool.not_true, Bool.not_false]
    rw [e2]
  · unfold fX11_periodic bX11_periodic_29
    simp (disch := omega) only [e3, SR (g2.1), zl_eq, bsm, ZS, ZT, ZN, ZU, eq_self, true_and, and_true, and_self, or_true, true_or, or_false, false_or, not_true, not_false_eq_true, Nat.reduceAdd, Nat.reduceMul, Nat.reduceLT, Nat.reduceLeDiff, Nat.reduceEqDiff, ↓reduceIte, ZQ, Bool.true_eq_false, Bool.false_eq_true, Bool.not_true, Bool.not_false]
