/-! CALLS: period; the reference's common divisor -/
theorem gcdR_run (n : Nat) : ∀ (a b fuel : Nat) (h : ZH), a < 2 ^ 63 → b < 2 ^ 63 → b ≤ a → (b < fibo (n + 1) ∨ a < fibo (n + 2)) → n < fuel → zloop lX11_gcd_6 fuel (lN a, lN b, h) = some (lN (Nat.gcd b a), h) := by
  induction n with
  | zero =>
    intro a b fuel h ha hb hab hf hfu
    have hz : b = 0 := by
      rcases hf with q | q
      · simp [fibo] at q; omega
      · simp [fibo] at q; omega
    subst hz
    obtain ⟨fuel, rfl⟩ : ∃ k, fuel = k + 1 := ⟨fuel - 1, by omega⟩
    show kX11_gcd_6 (zloop lX11_gcd_6 fuel) (lN a) (lN 0) h = _
    unfold kX11_gcd_6
    rw [if_pos ((lcmp0 (by decide)).mpr rfl), Nat.gcd_zero_left]
  | succ n ih =>
    intro a b fuel h ha hb hab hf hfu
    obtain ⟨fuel, rfl⟩ : ∃ k, fuel = k + 1 := ⟨fuel - 1, by omega⟩
    show kX11_gcd_6 (zloop lX11_gcd_6 fuel) (lN a) (lN b) h = _
    unfold kX11_gcd_6
    by_cases hz : b = 0
    · subst hz
      rw [if_pos ((lcmp0 (by decide)).mpr rfl), Nat.gcd_zero_left]
    · have hlt : a % b < b := Nat.mod_lt _ (by omega)
      have hne : ¬ lN b = 0 := fun q => hz ((pk_lEQ hb (by decide)).mp (q.trans (rfl : (0 : Int64) = lN 0)))
      rw [if_neg (fun q => hz ((lcmp0 hb).mp q)), if_neg hne, zl_eq]
      unfold jlrem
      rw [pk_lRem ha (by omega) hb, ih b (a % b) fuel h hb (by omega) (by omega) ?_ (by omega)]
      · rw [Nat.gcd_rec b a]
      · have hst := (euclid_step (a := a) (b := b) (by omega)).resolve_right (by omega)
        have hfib : fibo (n + 3) = fibo (n + 2) + fibo (n + 1) := rfl
        rcases hf with q | q
        · exact Or.inr q
        · have q' : a < fibo (n + 3) := q
          rw [hfib] at q'
          by_cases hr : a % b < fibo (n + 1)
          · exact Or.inl hr
          · exact Or.inr (by omega)
theorem gcdR_ok {a b : Nat} (ha : a < 2 ^ 61) (hb : b < 2 ^ 61) (h : ZH) : fX11_gcd (lN a) (lN b) h = some (lN (Nat.gcd a b), h) := by
  unfold fX11_gcd
  have hf := fibo91
  have p61 : (2 : Nat) ^ 61 < 2 ^ 63 := by decide
  by_cases hab : b ≤ a
  · rw [gcdR_run 89 a b zfu h (by omega) (by omega) hab (Or.inr (by show a < fibo 91; omega)) (by decide), Nat.gcd_comm]
  · show kX11_gcd_6 (zloop lX11_gcd_6 99999) (lN a) (lN b) h = _
    unfold kX11_gcd_6
    have hz : ¬ b = 0 := by omega
    have hne : ¬ lN b = 0 := fun q => hz ((pk_lEQ (by omega) (by decide)).mp (q.trans (rfl : (0 : Int64) = lN 0)))
    rw [if_neg (fun q => hz ((lcmp0 (by omega)).mp q)), if_neg hne, zl_eq]
    unfold jlrem
    rw [pk_lRem (by omega) (by omega) (by omega), Nat.mod_eq_of_lt (by omega), gcdR_run 89 b a 99999 h (by omega) (by omega) (by omega) (Or.inr (by show b < fibo 91; omega)) (by decide)]
/-- divisors of the lengths at which a vertex comes back -/
def gin (e : Nat → Bool) (d : Nat) : Nat → Nat
  | 0 => d
  | k + 1 => if e (k + 1) = true then Nat.gcd (k + 1) (gin e d k) else gin e d k
def gout (e : Nat → Nat → Bool) : Nat → Nat
  | 0 => 0
  | v + 1 => gin (e v) (gout e v) 8
theorem gin_le {e : Nat → Bool} {d : Nat} (hd : d ≤ 8) (k : Nat) (hk : k ≤ 8) : gin e d k ≤ 8 := by
  induction k with
  | zero => exact hd
  | succ k ih =>
    rw [gin]
    split
    · exact Nat.le_trans (Nat.gcd_le_left _ (by omega)) hk
    · exact ih (by omega)
theorem gout_le {e : Nat → Nat → Bool} (v : Nat) : gout e v ≤ 8 := by
  induction v with
  | zero => exact Nat.zero_le _
  | succ v ih => exact gin_le ih 8 (Nat.le_refl _)
theorem gin_cong {e e' : Nat → Bool} {d k : Nat} (h : ∀ j, 1 ≤ j → j ≤ k → e j = e' j) : gin e d k = gin e' d k := by
  induction k with
  | zero => rfl
  | succ k ih => rw [gin, gin, ih (fun j h1 h2 => h j h1 (by omega)), h (k + 1) (by omega) (Nat.le_refl _)]
theorem gout_cong {e e' : Nat → Nat → Bool} {v : Nat} (h : ∀ u, u < v → ∀ j, 1 ≤ j → j ≤ 8 → e u j = e' u j) : gout e v = gout e' v := by
  induction v with
  | zero => rfl
  | succ v ih => rw [gout, gout, ih (fun u hu => h u (by omega)), gin_cong (h v (by omega))]
theorem l32 : ∀ d, d < 9 → (lN d).toInt32 = nI d := by decide
theorem cycleDivisor_ok {h : ZH} {a m : Nat} {M : Nat → Nat} (g : isG h a m) (hM : hasM h m M) : fX1_cycleDivisor a h = some (nI (gout (fun v k => (itr (fa M) k (2 ^ v)).testBit v) 8), h) := by
  have hlt : ∀ v, v < 8 → ∀ k, itr (fa M) k (2 ^ v) < 256 := by
    intro v hv k
    cases k with
    | zero => exact p8 hv
    | succ k => exact fa_lt hM _
  unfold fX1_cycleDivisor
  rw [if_pos ⟨g.1.1, g.1.2.1⟩]
  refine zloop_run (fun v => (lN (gout (fun v k => (itr (fa M) k (2 ^ v)).testBit v) v), nI v, h)) 8 (fun v hv self => ?_) (fun self => ?_) (by decide)
  · show kX1_cycleDivisor_4 a self _ _ h = _
    unfold kX1_cycleDivisor_4
    rw [if_neg (nI_ge hv (by decide)), zl_eq, nb_1shl (by omega)]
    refine zloop_run (fun k => (lN (gin (fun k => (itr (fa M) k (2 ^ v)).testBit v) (gout (fun v k => (itr (fa M) k (2 ^ v)).testBit v) v) k), nI (itr (fa M) k (2 ^ v)), nI (k + 1), h)) 8 (fun k hk self2 => ?_) (fun self2 => ?_) (by decide)
    · show kX1_cycleDivisor_18 self a (nI v) self2 _ _ _ h = _
      have hb := hlt v hv (k + 1)
      have hd := gin_le (e := fun k => (itr (fa M) k (2 ^ v)).testBit v) (gout_le (e := fun v k => (itr (fa M) k (2 ^ v)).testBit v) v) k (by omega)
      have p61 : (8 : Nat) < 2 ^ 61 := by decide
      unfold kX1_cycleDivisor_18 bX1_cycleDivisor_50
      rw [if_neg (nI_nlt (by omega) (by decide)), followAny_ok g hM (Nat.lt_trans (hlt v hv k) (by decide)), Option.bind_some]
      have ei : fa M (itr (fa M) k (2 ^ v)) = itr (fa M) (k + 1) (2 ^ v) := rfl
      rw [ei]
      by_cases hbit : (itr (fa M) (k + 1) (2 ^ v)).testBit v = true
      · rw [if_neg (by rw [nb_bit0 (by omega) (by omega), hbit]; decide), nI_l (by omega), commonDivisor_ok (by omega) (by omega), Option.bind_some, nI_add, gin, if_pos hbit]
      · have hbit' : (itr (fa M) (k + 1) (2 ^ v)).testBit v = false := by simpa using hbit
        rw [if_pos ((nb_bit0 (by omega) (by omega)).mpr hbit'), nI_add, gin, if_neg hbit]
    · show kX1_cycleDivisor_18 self a (nI v) self2 _ _ _ h = _
      unfold kX1_cycleDivisor_18
      rw [if_pos (nI_lt (by decide) (by decide)), nI_add, gout]
  · show kX1_cycleDivisor_4 a self _ _ h = _
    unfold kX1_cycleDivisor_4
    have := gout_le (e := fun v k => (itr (fa M) k (2 ^ v)).testBit v) 8
    rw [if_pos (nI_le (Nat.le_refl 8) (by decide)), l32 _ (by omega)]
/-- where the steps within the essential part lead -/
theorem fa_pow (M : Nat → Nat) (v : Nat) : fa (coreM M) (2 ^ v) = fa (coreM M) (2 ^ v &&& ess M) := by
  apply sb_eq
  · intro x hx
    obtain ⟨u, u1, u2, l, hl, u3⟩ := fa_bit.mp hx
    exact fa_bit.mpr ⟨u, u1, and_bit.mpr ⟨u2, ((coreM_bit hl).mp u3).1⟩, l, hl, u3⟩
  · intro x hx
    obtain ⟨u, u1, u2, u3⟩ := fa_bit.mp hx
    exact fa_bit.mpr ⟨u, u1, (and_bit.mp u2).1, u3⟩
theorem itr_core {M : Nat → Nat} {S : Nat} (hS : sb S (ess M)) (k : Nat) : itr (fun R => fa M R &&& ess M) k S = itr (fa (coreM M)) k S ∧ sb (itr (fa (coreM M)) k S) (ess M) := by
  induction k with
  | zero => exact ⟨rfl, hS⟩
  | succ k ih =>
    refine ⟨?_, fa_core_sb _⟩
    show fa M (itr (fun R => fa M R &&& ess M) k S) &&& ess M = fa (coreM M) (itr (fa (coreM M)) k S)
    rw [ih.1, fa_core ih.2]
theorem itr_pow {M : Nat → Nat} (v k : Nat) : itr (fa (coreM M)) (k + 1) (2 ^ v) = itr (fun R => fa M R &&& ess M) (k + 1) (2 ^ v &&& ess M) := by
  rw [(itr_core (fun i hi => (and_bit.mp hi).2) (k + 1)).1]
  induction k with
  | zero => exact fa_pow M v
  | succ k ih =>
    show fa (coreM M) (itr (fa (coreM M)) (k + 1) (2 ^ v)) = fa (coreM M) (itr (fa (coreM M)) (k + 1) (2 ^ v &&& ess M))
    rw [ih]
theorem perR {h : ZH} {G : Nat → Nat → Nat} {s : Nat} (hs : Sh h) (g : rG G h) (h6 : s < 6) : zloop (lX11_period_21 117 (nI s) (nI (ess (G s)))) zfu (lN 0, nI 0, h) = some (nI (gout (fun v k => (itr (fun R => fa (G s) R &&& ess (G s)) k (2 ^ v &&& ess (G s))).testBit v) 8), h) := by
  have he := ess_lt (G s)
  have hlt : ∀ v k, itr (fun R => fa (G s) R &&& ess (G s)) k (2 ^ v &&& ess (G s)) < 256 := by
    intro v k
    cases k with
    | zero => exact Nat.lt_of_le_of_lt Nat.and_le_right he
    | succ k => exact Nat.lt_of_le_of_lt Nat.and_le_right he
  generalize hE : (fun v k => (itr (fun R => fa (G s) R &&& ess (G s)) k (2 ^ v &&& ess (G s))).testBit v) = E
  have hEv : ∀ v k, E v k = (itr (fun R => fa (G s) R &&& ess (G s)) k (2 ^ v &&& ess (G s))).testBit v := fun v k => by rw [← hE]
  refine zloop_run (fun v => (lN (gout E v), nI v, h)) 8 (fun v hv self => ?_) (fun self => ?_) (by decide)
  · show kX11_period_21 117 (nI s) (nI (ess (G s))) self _ _ h = _
    unfold kX11_period_21
    rw [if_neg (nI_ge hv (by decide)), zl_eq, nb_1shl (by omega), nb_and]
    refine zloop_run (fun k => (lN (gin (E v) (gout E v) k), nI (itr (fun R => fa (G s) R &&& ess (G s)) k (2 ^ v &&& ess (G s))), nI (k + 1), h)) 8 (fun k hk self2 => ?_) (fun self2 => ?_) (by decide)
    · show kX11_period_39 self 117 (nI s) (nI (ess (G s))) (nI v) self2 _ _ _ h = _
      have hb := hlt v (k + 1)
      have hd := gin_le (e := E v) (gout_le (e := E) v) k (by omega)
      have p61 : (8 : Nat) < 2 ^ 61 := by decide
      unfold kX11_period_39 bX11_period_78
      rw [if_neg (nI_nlt (by omega) (by decide)), step_ok hs g h6 (hlt v k), Option.bind_some]
      have ei : fa (G s) (itr (fun R => fa (G s) R &&& ess (G s)) k (2 ^ v &&& ess (G s))) &&& ess (G s) = itr (fun R => fa (G s) R &&& ess (G s)) (k + 1) (2 ^ v &&& ess (G s)) := rfl
      rw [ei]
      have hv' := hEv v (k + 1)
      by_cases hbit : (itr (fun R => fa (G s) R &&& ess (G s)) (k + 1) (2 ^ v &&& ess (G s))).testBit v = true
      · rw [hbit] at hv'
        rw [if_pos ((nb_bit1 (by omega) (by omega)).mpr hbit), nI_l (by omega), gcdR_ok (by omega) (by omega), Option.bind_some, nI_add, gin, if_pos hv']
      · have hbit' : (itr (fun R => fa (G s) R &&& ess (G s)) (k + 1) (2 ^ v &&& ess (G s))).testBit v = false := by simpa using hbit
        rw [hbit'] at hv'
        rw [if_neg (fun q => hbit ((nb_bit1 (by omega) (by omega)).mp q)), nI_add, gin, if_neg (by rw [hv']; decide)]
    · show kX11_period_39 self 117 (nI s) (nI (ess (G s))) (nI v) self2 _ _ _ h = _
      unfold kX11_period_39
      rw [if_pos (nI_lt (by decide) (by decide)), nI_add, gout]
  · show kX11_period_21 117 (nI s) (nI (ess (G s))) self _ _ h = _
    unfold kX11_period_21
    have := gout_le (e := E) 8
    rw [if_pos (nI_le (Nat.le_refl 8) (by decide)), l32 _ (by omega)]
theorem c_period (a1 : Int32) : Ok2 (fX10_period 0 a1) (fX11_period 117 a1) := by
  refine Ok2.of (fun h G n c hI => ?_)
  have hs := hI.1
  rcases cSlot a1 with b | ⟨s, h6, rfl⟩
  · refine Ok2.same hI (r := -2) ?_ ?_
    · simp (disch := omega) only [fX10_period, fun q => (b q).1, SC (hs), zl_eq, bsm, ZS, ZT, ZN, ZU, eq_self, true_and, and_true, and_self, or_true, true_or, or_false, false_or, not_true, not_false_eq_true, Nat.reduceAdd, Nat.reduceMul, Nat.reduceLT, Nat.reduceLeDiff, Nat.reduceEqDiff, ↓reduceIte, ZQ, Bool.true_eq_false, Bool.false_eq_true, Bool.not_true, Bool.not_false]
    · simp (disch := omega) only [fX11_period, fun q => (b q).2, SR (hs), zl_eq, bsm, ZS, ZT, ZN, ZU, eq_self, true_and, and_true, and_self, or_true, true_or, or_false, false_or, not_true, not_false_eq_true, Nat.reduceAdd, Nat.reduceMul, Nat.reduceLT, Nat.reduceLeDiff, Nat.reduceEqDiff, ↓reduceIte, ZQ, Bool.true_eq_false, Bool.false_eq_true, Bool.not_true, Bool.not_false]
  obtain ⟨h1, e1, p1, q1⟩ := trim_ok hI h6
  have g1 := hI.fr (fq34 p1)
  have e2 := cycleDivisor_ok (g33 g1.1) q1
  have e3 := perR g1.1 g1.2.1.rr h6
  have ee : gout (fun v k => (itr (fa (coreM (G s))) k (2 ^ v)).testBit v) 8 = gout (fun v k => (itr (fun R => fa (G s) R &&& ess (G s)) k (2 ^ v &&& ess (G s))).testBit v) 8 := by
    refine gout_cong (fun u _ j j1 _ => ?_)
    obtain ⟨k, rfl⟩ : ∃ k, j = k + 1 := ⟨j - 1, by omega⟩
    rw [itr_pow]
  rw [← ee] at e3
  generalize gout (fun v k => (itr (fa (coreM (G s))) k (2 ^ v)).testBit v) 8 = d at e2 e3
  refine ⟨nI d, (nI d, h1), ?_, rfl, wp_eq (a := (nI d, h1)) ?_ ⟨rfl, G, n, c, g1⟩⟩
  · unfold fX10_period
    simp (disch := omega) only [e1, SC (hs), zl_eq, bsm, ZS, ZT, ZN, ZU, eq_self, true_and, and_true, and_self, or_true, true_or, or_false, false_or, not_true, not_false_eq_true, Nat.reduceAdd, Nat.reduceMul, Nat.reduceLT, Nat.reduceLeDiff, Nat.reduceEqDiff, ↓reduceIte, ZQ, Bool.true_eq_false, Bool.false_eq_true, Bool.not_true, Bool.not_false]
    simp (disch := omega) only [e2, SC (g1.1), zl_eq, bsm, ZS, ZT, ZN, ZU, eq_self, true_and, and_true, and_self, or_true, true_or, or_false, false_or, not_true, not_false_eq_true, Nat.reduceAdd, Nat.reduceMul, Nat.reduceLT, Nat.reduceLeDiff, Nat.reduceEqDiff, ↓reduceIte, ZQ, Bool.true_eq_false, Bool.false_eq_true, Bool.not_true, Bool.not_false]
  · unfold fX11_period
    simp (disch := omega) only [essentialOf_ok g1.1 g1.2.1.rr h6, SR (g1.1), zl_eq, bsm, ZS, ZT, ZN, ZU, eq_self, true_and, and_true, and_self, or_true, true_or, or_false, false_or, not_true, not_false_eq_true, Nat.reduceAdd, Nat.reduceMul, Nat.reduceLT, Nat.reduceLeDiff, Nat.reduceEqDiff, ↓reduceIte, ZQ, Bool.true_eq_false, Bool.false_eq_true, Bool.not_true, Bool.not_false]
    exact e3
