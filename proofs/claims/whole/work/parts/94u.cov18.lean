/-! COVERS: the reference's reset word -/
section LED
variable {h : ZH} {n : Nat} {lb : Nat → Nat → Nat}
theorem led_ok (hs : Sh h) (h8 : n ≤ 8) (v30 : zI h 117 30 = nI n) (lr : leR n lb h) (hle : ∀ v l, v < n → l < 4 → lb v l ≤ n) {S l : Nat} (hS : S < 256) (hl : l < 4) : fX11_led 117 (nI S) (nI l) h = some (nI (stF n lb S l), h) := by
  unfold fX11_led
  simp (disch := omega) only [SR (hs), zl_eq, bsm, ZS, ZT, ZN, ZU, eq_self, true_and, and_true, and_self, or_true, true_or, or_false, false_or, not_true, not_false_eq_true, Nat.reduceAdd, Nat.reduceMul, Nat.reduceLT, Nat.reduceLeDiff, Nat.reduceEqDiff, ↓reduceIte, ZQ, Bool.true_eq_false, Bool.false_eq_true, Bool.not_true, Bool.not_false]
  refine zloop_run (fun k => (nI (stF k lb S l), nI k, h)) n (fun k hk self => ?_) (fun self => ?_) (show n < 100000 by omega)
  · show kX11_led_5 117 (nI S) (nI l) self (nI (stF k lb S l)) (nI k) h = self (nI (stF (k + 1) lb S l), nI (k + 1), h)
    unfold kX11_led_5 bX11_led_56 bX11_led_57
    have v := lr k hk l hl
    have e : stF (k + 1) lb S l = stF k lb S l ||| (if (S.testBit k && !decide (lb k l = 0)) = true then 2 ^ (lb k l - 1) else 0) := rfl
    have hb := hle k l hk hl
    cases hbit : S.testBit k with
    | false =>
      have e' : stF (k + 1) lb S l = stF k lb S l := by rw [e, hbit]; exact Nat.or_zero _
      rw [e']
      simp (disch := omega) only [v30, Nat.not_le.mpr hk, hbit, Nat.or_zero, SR (hs), zl_eq, bsm, ZS, ZT, ZN, ZU, eq_self, true_and, and_true, and_self, or_true, true_or, or_false, false_or, not_true, not_false_eq_true, Nat.reduceAdd, Nat.reduceMul, Nat.reduceLT, Nat.reduceLeDiff, Nat.reduceEqDiff, ↓reduceIte, ZQ, Bool.true_eq_false, Bool.false_eq_true, Bool.not_true, Bool.not_false]
    | true =>
      by_cases z : lb k l = 0
      · rw [if_pos z] at v
        have e' : stF (k + 1) lb S l = stF k lb S l := by rw [e, hbit, decide_eq_true z]; exact Nat.or_zero _
        rw [e']
        simp (disch := omega) only [v30, Nat.not_le.mpr hk, hbit, v, Nat.or_zero, SR (hs), zl_eq, bsm, ZS, ZT, ZN, ZU, eq_self, true_and, and_true, and_self, or_true, true_or, or_false, false_or, not_true, not_false_eq_true, Nat.reduceAdd, Nat.reduceMul, Nat.reduceLT, Nat.reduceLeDiff, Nat.reduceEqDiff, ↓reduceIte, ZQ, Bool.true_eq_false, Bool.false_eq_true, Bool.not_true, Bool.not_false]
      · rw [if_neg z] at v
        have e' : stF (k + 1) lb S l = stF k lb S l ||| 2 ^ (lb k l - 1) := by rw [e, hbit, decide_eq_false z]; rfl
        rw [e']
        simp (disch := omega) only [v30, Nat.not_le.mpr hk, hbit, v, SR (hs), zl_eq, bsm, ZS, ZT, ZN, ZU, eq_self, true_and, and_true, and_self, or_true, true_or, or_false, false_or, not_true, not_false_eq_true, Nat.reduceAdd, Nat.reduceMul, Nat.reduceLT, Nat.reduceLeDiff, Nat.reduceEqDiff, ↓reduceIte, ZQ, Bool.true_eq_false, Bool.false_eq_true, Bool.not_true, Bool.not_false]
  · show kX11_led_5 117 (nI S) (nI l) self (nI (stF n lb S l)) (nI n) h = _
    unfold kX11_led_5
    simp (disch := omega) only [v30, Nat.le_refl, SR (hs), zl_eq, bsm, ZS, ZT, ZN, ZU, eq_self, true_and, and_true, and_self, or_true, true_or, or_false, false_or, not_true, not_false_eq_true, Nat.reduceAdd, Nat.reduceMul, Nat.reduceLT, Nat.reduceLeDiff, Nat.reduceEqDiff, ↓reduceIte, ZQ, Bool.true_eq_false, Bool.false_eq_true, Bool.not_true, Bool.not_false]
end LED
theorem bq_pr2 {d : Nat → Nat → Nat} {A t : Nat} : ∀ k, ∃ R R', (bq d A (t + k)).1 = (bq d A t).1 ++ R ∧ (bq d A (t + k)).2 = (bq d A t).2 ++ R'
  | 0 => ⟨[], [], (List.append_nil _).symm, (List.append_nil _).symm⟩
  | k + 1 => by
    obtain ⟨R, R', hR, hR'⟩ := bq_pr2 (d := d) (A := A) (t := t) k
    rw [← Nat.add_assoc, bq]
    split
    · unfold noteL
      split
      · exact ⟨R, R', hR, hR'⟩
      · exact ⟨R ++ [_], R' ++ [_], by dsimp only; rw [hR, List.append_assoc], by dsimp only; rw [hR', List.append_assoc]⟩
    · exact ⟨R, R', hR, hR'⟩
theorem getD_app {L R : List Nat} {i : Nat} (h : i < L.length) : (L ++ R).getD i 0 = L.getD i 0 := by
  rw [List.getD_eq_getElem?_getD, List.getD_eq_getElem?_getD, List.getElem?_append_left h]
theorem rsI_uniq {Q : List Nat} {r r' : Nat} (a : rsI Q r) (b : rsI Q r') : r = r' := by
  rcases Nat.lt_trichotomy r r' with q | q | q
  · exact absurd a.2.1 (b.2.2 r q)
  · exact q
  · exact absurd b.2.1 (a.2.2 r' q)
/-- when the first single set is met -/
theorem resetTime {d : Nat → Nat → Nat} {A τ : Nat} (hA : A ≠ 0) (t2 : ∀ t, t < τ → t / 4 < (bq d A t).1.length) {r : Nat} (hr : rsI (bq d A τ).1 r) (h1 : 1 ≤ r) : ∃ t0, t0 < τ ∧ (bq d A t0).1.length = r ∧ (bq d A τ).2.getD r 0 = t0 ∧ d ((bq d A t0).1.getD (t0 / 4) 0) (t0 % 4) = (bq d A τ).1.getD r 0 ∧ (bq d A τ).1.getD r 0 ∉ (bq d A t0).1 ∧ (∀ i, i < r → (bq d A τ).1.getD i 0 = (bq d A t0).1.getD i 0 ∧ (bq d A τ).2.getD i 0 = (bq d A t0).2.getD i 0) ∧ ∀ t, t < t0 → ¬ one1 (d ((bq d A t).1.getD (t / 4) 0) (t % 4)) := by
  have bI := BI_all (d := d) hA τ t2
  obtain ⟨a1, a2, a3⟩ := bI.2.2.2.2.2.1 r h1 hr.1
  generalize ht0 : (bq d A τ).2.getD r 0 = t0 at a1 a2 a3
  have b0 := BI_all (d := d) hA t0 (fun s hs => t2 s (by omega))
  have ht := t2 t0 a1
  obtain ⟨R, R', e1, e2⟩ := bq_pr2 (d := d) (A := A) (t := t0) (τ - t0)
  rw [show t0 + (τ - t0) = τ by omega] at e1 e2
  have len2 : (bq d A t0).2.length = (bq d A t0).1.length := b0.1
  -- r is not there yet: its arrival would be earlier
  have hlen : (bq d A t0).1.length = r := by
    rcases Nat.lt_trichotomy (bq d A t0).1.length r with q | q | q
    · -- the next one noted is at t0 or later, but before r: it comes earlier than r
      exfalso
      have hi : (bq d A t0).1.length < (bq d A τ).1.length := by have := hr.1; omega
      have pos0 := b0.2.2.2.1
      have lt := bI.2.2.2.2.2.2.1 (bq d A t0).1.length r (by omega) q hr.1
      rw [ht0] at lt
      obtain ⟨c1, c2, c3⟩ := bI.2.2.2.2.2.1 (bq d A t0).1.length (by omega) hi
      generalize hs0 : (bq d A τ).2.getD (bq d A t0).1.length 0 = s0 at lt c1 c2 c3
      -- noted before t0, so it stands among the first
      have h8 := b0.2.2.2.2.2.2.2.1 s0 lt
      have hs4 := b0.2.2.2.2.2.2.2.2 s0 lt
      have eq1 : (bq d A τ).1.getD (s0 / 4) 0 = (bq d A t0).1.getD (s0 / 4) 0 := by rw [e1, getD_app hs4]
      rw [eq1] at c3
      rcases h8 with z | ⟨j, hj, ej, -⟩
      · rw [z] at c3
        exact bI.2.2.1 (by rw [← c3]; exact getD_mem hi)
      · have := getD_inj bI.2.1 hi (show j < (bq d A τ).1.length by omega) (by rw [c3, ← ej, e1, getD_app hj])
        omega
    · exact q
    · exfalso
      have : (bq d A τ).2.getD r 0 = (bq d A t0).2.getD r 0 := by rw [e2, getD_app (by omega)]
      have c := (b0.2.2.2.2.2.1 r h1 q).1
      omega
  have hQ4 : (bq d A τ).1.getD (t0 / 4) 0 = (bq d A t0).1.getD (t0 / 4) 0 := by rw [e1, getD_app ht]
  have hnin : (bq d A τ).1.getD r 0 ∉ (bq d A t0).1 := fun z => by
    obtain ⟨j, hj, ej⟩ := mem_getD z
    have := getD_inj bI.2.1 (show j < (bq d A τ).1.length by have := hr.1; omega) hr.1 (by rw [← ej, e1, getD_app hj])
    omega
  refine ⟨t0, a1, hlen, rfl, by rw [a3, hQ4], hnin, fun i hi => ⟨by rw [e1, getD_app (by omega)], by rw [e2, getD_app (by omega)]⟩, fun t htt ho => ?_⟩
  have h8 := b0.2.2.2.2.2.2.2.1 t htt
  have ht4 := t2 t (by omega)
  obtain ⟨R2, -, e3, -⟩ := bq_pr2 (d := d) (A := A) (t := t) (t0 - t)
  rw [show t + (t0 - t) = t0 by omega] at e3
  have : (bq d A t0).1.getD (t / 4) 0 = (bq d A t).1.getD (t / 4) 0 := by rw [e3, getD_app ht4]
  rw [this] at h8
  rcases h8 with z | ⟨j, hj, ej, -⟩
  · obtain ⟨v, hv⟩ := ho
    rw [z] at hv
    have := Nat.pow_pos (n := v) (show 0 < 2 by decide)
    omega
  · refine hr.2.2 j (by omega) ?_
    rw [e1, getD_app hj, ej]
    exact ho
