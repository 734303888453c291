/-! CALLS: periodic, orbits: the object's count -/
section PC
variable {h : ZH} {M : Nat → Nat}
theorem stt_eq {j j' S S' : Nat} (a : stt (LL M) j S) (b : stt (LL M) j' S') : j = j' ↔ S = S' := by
  have a1 := stt255 a
  have b1 := stt255 b
  have gd := LL_good M
  constructor
  · intro e
    subst e
    by_cases h : j = 255
    · rw [a1.2.mp h, b1.2.mp h]
    · rcases a with ⟨-, q⟩ | a
      · exact absurd q h
      · rcases b with ⟨-, q⟩ | b
        · exact absurd q h
        · rw [a] at b
          exact Option.some.inj b
  · intro e
    subst e
    by_cases h : S = 0
    · rw [a1.2.mpr h, b1.2.mpr h]
    · rcases a with ⟨q, -⟩ | a
      · exact absurd q h
      · rcases b with ⟨q, -⟩ | b
        · exact absurd q h
        · exact (List.getElem?_inj (List.getElem?_eq_some_iff.mp a).1 gd.1).mp (a.trans b.symm)
theorem afterC (hs : Sh h) (au : aut 37 M h) {j S l : Nat} (hj : stt (LL M) j S) (hl : l < 4) : ∃ k, fX6_after 37 (nI j) (nI l) h = some (nI k, h) ∧ stt (LL M) k (ims M S l) :=
  after_ok (sub37 hs) au (LL_good M) (fun l => ims_0 l) hj hl
theorem per_of {n x m : Nat} (hm : m ≤ 8) (hk : ∀ k, itr (Fw M n x) (m + k) (ess M) = itr (Fw M n x) m (ess M)) : per M n x = !decide (itr (Fw M n x) m (ess M) = 0) := by
  unfold per
  have := hk (8 - m)
  rw [show m + (8 - m) = 8 by omega] at this
  rw [this]
theorem reps_ok (hs : Sh h) (au : aut 37 M h) {n x j : Nat} (hn : n ≤ 7) (hc : ∀ i, i < n → zI h 42 (i + 1) = nI (dgt n x i)) (st : stt (LL M) j (Fw M n x (ess M))) : fX6_repeatsForever 37 (nI n) (nI j) h = some (nI (per M n x).toNat, h) := by
  have key : wp (fX6_repeatsForever 37 (nI n) (nI j) h) (fun y => y = (nI (per M n x).toNat, h)) := by
    have g := sub37 hs
    obtain ⟨j0, e0, s0⟩ := start_ok g au (LL_good M)
    obtain ⟨m, h1, h2, h3, h4⟩ := dwn_stop (ess_lt M) (dwn_Fw M n x)
    have hp := per_of h1 h4
    unfold fX6_repeatsForever
    simp (disch := omega) only [e0, SC (hs), zl_eq, bsm, ZS, ZT, ZN, ZU, eq_self, true_and, and_true, and_self, or_true, true_or, or_false, false_or, not_true, not_false_eq_true, Nat.reduceAdd, Nat.reduceMul, Nat.reduceLT, Nat.reduceLeDiff, Nat.reduceEqDiff, ↓reduceIte, ZQ, Bool.true_eq_false, Bool.false_eq_true, Bool.not_true, Bool.not_false]
    refine wloop (fun r y => ∃ jb js, y = (nI jb, nI js, nI r, h) ∧ stt (LL M) jb (itr (Fw M n x) r (ess M)) ∧ stt (LL M) js (itr (Fw M n x) (r + 1) (ess M))) m (fun r y self hr hy ih => ?_) (show m < 100000 by omega) ⟨j0, j, rfl, s0, st⟩
    obtain ⟨jb, js, rfl, sb1, ss1⟩ := hy
    have bb := (stt255 sb1).1
    have bs := (stt255 ss1).1
    have q := stt_eq ss1 sb1
    show wp (kX6_repeatsForever_11 37 (nI n) self (nI jb) (nI js) (nI r) h) _
    unfold kX6_repeatsForever_11
    by_cases hlt : r < m
    · have hne : js ≠ jb := fun e => h3 r hlt (q.mp e)
      simp (disch := omega) only [show ¬ (8 < r) by omega, eq_false hne, SC (hs), zl_eq, bsm, ZS, ZT, ZN, ZU, eq_self, true_and, and_true, and_self, or_true, true_or, or_false, false_or, not_true, not_false_eq_true, Nat.reduceAdd, Nat.reduceMul, Nat.reduceLT, Nat.reduceLeDiff, Nat.reduceEqDiff, ↓reduceIte, ZQ, Bool.true_eq_false, Bool.false_eq_true, Bool.not_true, Bool.not_false]
      refine wloop (fun i z => ∃ k, z = (nI k, nI (i + 1), h) ∧ stt (LL M) k (bh M (dgt n x) (itr (Fw M n x) (r + 1) (ess M)) 0 i)) n (fun i z self2 hi hz ih2 => ?_) (show n < 100000 by omega) ⟨js, rfl, ss1⟩
      obtain ⟨k, rfl, sk⟩ := hz
      show wp (kX6_repeatsForever_30 self 37 (nI n) (nI js) (nI r) self2 (nI k) (nI (i + 1)) h) _
      unfold kX6_repeatsForever_30 bX6_repeatsForever_64
      by_cases hlt2 : i < n
      · obtain ⟨k', ek, sk'⟩ := afterC (l := dgt n x i) hs au sk (dgt_lt _ _ _)
        simp (disch := omega) only [show ¬ (n < i + 1) by omega, show ¬ (7 < i + 1) by omega, hc i hlt2, ek, SC (hs), zl_eq, bsm, ZS, ZT, ZN, ZU, eq_self, true_and, and_true, and_self, or_true, true_or, or_false, false_or, not_true, not_false_eq_true, Nat.reduceAdd, Nat.reduceMul, Nat.reduceLT, Nat.reduceLeDiff, Nat.reduceEqDiff, ↓reduceIte, ZQ, Bool.true_eq_false, Bool.false_eq_true, Bool.not_true, Bool.not_false]
        refine ih2 _ hlt2 ⟨k', rfl, ?_⟩
        rw [bh, Nat.zero_add]
        exact sk'
      · have : i = n := by omega
        subst this
        simp (disch := omega) only [Nat.lt_succ_self, SC (hs), zl_eq, bsm, ZS, ZT, ZN, ZU, eq_self, true_and, and_true, and_self, or_true, true_or, or_false, false_or, not_true, not_false_eq_true, Nat.reduceAdd, Nat.reduceMul, Nat.reduceLT, Nat.reduceLeDiff, Nat.reduceEqDiff, ↓reduceIte, ZQ, Bool.true_eq_false, Bool.false_eq_true, Bool.not_true, Bool.not_false]
        exact ih _ hlt ⟨js, k, rfl, ss1, sk⟩
    · have : r = m := by omega
      subst this
      have he : js = jb := q.mpr h2
      have z255 := (stt255 ss1).2
      rw [h2] at z255
      unfold bX6_repeatsForever_70 bX6_repeatsForever_83
      by_cases hz : itr (Fw M n x) r (ess M) = 0
      · rw [decide_eq_true hz] at hp
        rw [hp]
        simp (disch := omega) only [show ¬ (8 < r) by omega, eq_true he, eq_true (z255.mpr hz), SC (hs), zl_eq, bsm, ZS, ZT, ZN, ZU, eq_self, true_and, and_true, and_self, or_true, true_or, or_false, false_or, not_true, not_false_eq_true, Nat.reduceAdd, Nat.reduceMul, Nat.reduceLT, Nat.reduceLeDiff, Nat.reduceEqDiff, ↓reduceIte, ZQ, Bool.true_eq_false, Bool.false_eq_true, Bool.not_true, Bool.not_false]
        exact wp_some rfl
      · rw [decide_eq_false hz] at hp
        rw [hp]
        simp (disch := omega) only [show ¬ (8 < r) by omega, eq_true he, eq_false (fun q => hz (z255.mp q)), SC (hs), zl_eq, bsm, ZS, ZT, ZN, ZU, eq_self, true_and, and_true, and_self, or_true, true_or, or_false, false_or, not_true, not_false_eq_true, Nat.reduceAdd, Nat.reduceMul, Nat.reduceLT, Nat.reduceLeDiff, Nat.reduceEqDiff, ↓reduceIte, ZQ, Bool.true_eq_false, Bool.false_eq_true, Bool.not_true, Bool.not_false]
        exact wp_some rfl
  obtain ⟨y, e, rfl⟩ := key
  exact e
theorem dgt_ext {k x l i : Nat} (hl : l < 4) (hi : i < k) : dgt (k + 1) (x * 4 + l) i = dgt k x i := by
  unfold dgt
  have e0 : (x * 4 + l) / 4 = x := by omega
  rw [show k + 1 - 1 - i = (k - 1 - i) + 1 by omega, Nat.pow_succ, Nat.mul_comm (4 ^ (k - 1 - i)), ← Nat.div_div_eq_div_mul, e0]
theorem dgt_new {k x l : Nat} (hl : l < 4) : dgt (k + 1) (x * 4 + l) k = l := by
  unfold dgt
  rw [show k + 1 - 1 - k = 0 by omega, Nat.pow_zero, Nat.div_one]
  omega
theorem dgt_app {k m x t i : Nat} (ht : t < 4 ^ m) (hi : i < k) : dgt (k + m) (x * 4 ^ m + t) i = dgt k x i := by
  unfold dgt
  rw [show k + m - 1 - i = m + (k - 1 - i) by omega, Nat.pow_add, ← Nat.div_div_eq_div_mul, Nat.mul_comm x, Nat.mul_add_div (p4 m), Nat.div_eq_of_lt ht, Nat.add_zero]
theorem per_dead {n x : Nat} (h : Fw M n x (ess M) = 0) : per M n x = false := by
  unfold per
  have : itr (Fw M n x) 8 (ess M) = 0 := by
    have g := dwn_Fw M n x
    have key : ∀ k, sb (itr (Fw M n x) (1 + k) (ess M)) 0 := by
      intro k
      induction k with
      | zero =>
        show sb (Fw M n x (ess M)) 0
        rw [h]
        exact fun _ h => h
      | succ k ih => exact sb_tr (dwn_step g (1 + k)) ih
    exact sb0 (key 7)
  rw [decide_eq_true this]
  rfl
def lpB (M : Nat → Nat) (n x : Nat) : Bool := lynB n x && per M n x
theorem LP_split (M : Nat → Nat) (n x m : Nat) : cnt (fun t => lpB M n (x * 4 ^ (m + 1) + t)) (4 ^ (m + 1)) = sm (fun l => cnt (fun t => lpB M n ((x * 4 + l) * 4 ^ m + t)) (4 ^ m)) 4 := by
  rw [sm_cnt, show 4 ^ (m + 1) = 4 * 4 ^ m by rw [Nat.pow_succ, Nat.mul_comm], sm_block]
  refine sm_cong 4 (fun l hl => ?_)
  rw [sm_cnt]
  refine sm_cong _ (fun t ht => ?_)
  rw [show x * (4 * 4 ^ m) + (l * 4 ^ m + t) = (x * 4 + l) * 4 ^ m + t by rw [Nat.add_mul, Nat.mul_assoc, Nat.add_assoc]]
theorem LP_fail {k m x : Nat} (hn : 1 ≤ k + m) (h : fk (dgt k x) k = 0) : cnt (fun t => lpB M (k + m) (x * 4 ^ m + t)) (4 ^ m) = 0 := by
  refine cnt_false (fun t ht => ?_)
  have h1 : fk (dgt (k + m) (x * 4 ^ m + t)) k = 0 := by
    rw [fk_cong k (fun i hi => dgt_app ht hi)]
    exact h
  have h2 := fk_no h1 m
  show (lynB (k + m) (x * 4 ^ m + t) && _) = false
  unfold lynB
  rw [h2, decide_eq_false (by omega), Bool.false_and]
theorem LP_dead {k m x : Nat} (h : bh M (dgt k x) (ess M) 0 k = 0) : cnt (fun t => lpB M (k + m) (x * 4 ^ m + t)) (4 ^ m) = 0 := by
  refine cnt_false (fun t ht => ?_)
  have h1 : Fw M (k + m) (x * 4 ^ m + t) (ess M) = 0 := by
    unfold Fw
    refine bh_dead k m ?_
    rw [bh_cong (w' := dgt k x) (a' := 0) k (fun i hi => by rw [Nat.zero_add]; exact dgt_app ht hi)]
    exact h
  show (_ && per M (k + m) (x * 4 ^ m + t)) = false
  rw [per_dead h1, Bool.and_false]
theorem neck_ok {n : Nat} (n1 : 1 ≤ n) (n7 : n ≤ 7) (m : Nat) : ∀ f k x j h, k + m = n → m < f → x < 4 ^ k → Sh h → aut 37 M h → zI h 42 0 = nI 0 → (∀ i, i < k → zI h 42 (i + 1) = nI (dgt k x i)) → fk (dgt k x) k ≠ 0 → stt (LL M) j (bh M (dgt k x) (ess M) 0 k) → wp (fX6_countNecklaces f 37 (nI (k + 1)) (nI (fk (dgt k x) k)) (nI n) (nI j) h) (fun r => r.1 = nI (cnt (fun t => lpB M n (x * 4 ^ m + t)) (4 ^ m)) ∧ zfr [42] h r.2 ∧ ∀ i, i ≤ k → zI r.2 42 i = zI h 42 i) := by
  induction m with
  | zero =>
    intro f k x j h hkm hf hx hs au c0 hc hp st
    obtain ⟨f, rfl⟩ : ∃ q, f = q + 1 := ⟨f - 1, by omega⟩
    have hkn : k = n := by omega
    subst hkn
    rw [fX6_countNecklaces]
    unfold gX6_countNecklaces bX6_countNecklaces_26 bX6_countNecklaces_45 bX6_countNecklaces_46
    have hj := stt255 st
    have hpl := fk_le (w := dgt k x) k
    have e1 : cnt (fun t => lpB M k (x * 4 ^ 0 + t)) (4 ^ 0) = (lpB M k x).toNat := by
      rw [sm_cnt, Nat.pow_zero, sm, sm, Nat.zero_add, Nat.mul_one, Nat.add_zero]
    by_cases hd : j = 255
    · have := LP_dead (M := M) (k := k) (m := 0) (x := x) (hj.2.mp hd)
      rw [Nat.add_zero] at this
      rw [this]
      simp (disch := omega) only [eq_true hd, SC (hs), zl_eq, bsm, ZS, ZT, ZN, ZU, eq_self, true_and, and_true, and_self, or_true, true_or, or_false, false_or, not_true, not_false_eq_true, Nat.reduceAdd, Nat.reduceMul, Nat.reduceLT, Nat.reduceLeDiff, Nat.reduceEqDiff, ↓reduceIte, ZQ, Bool.true_eq_false, Bool.false_eq_true, Bool.not_true, Bool.not_false]
      exact wp_some ⟨rfl, zfr.refl h, fun _ _ => rfl⟩
    · rw [e1]
      unfold lpB
      by_cases hq : fk (dgt k x) k = k
      · have er := reps_ok hs au n7 hc st
        have hl : lynB k x = true := decide_eq_true hq
        rw [hl, Bool.true_and, hq]
        cases hpr : per M k x with
        | true =>
          rw [hpr, Bool.toNat_true] at er
          simp (disch := omega) only [eq_false hd, show ¬ (k + 1 < 1) by omega, Nat.lt_succ_self, er, SC (hs), zl_eq, bsm, ZS, ZT, ZN, ZU, eq_self, true_and, and_true, and_self, or_true, true_or, or_false, false_or, not_true, not_false_eq_true, Nat.reduceAdd, Nat.reduceMul, Nat.reduceLT, Nat.reduceLeDiff, Nat.reduceEqDiff, ↓reduceIte, ZQ, Bool.true_eq_false, Bool.false_eq_true, Bool.not_true, Bool.not_false]
          exact wp_some ⟨rfl, zfr.refl h, fun _ _ => rfl⟩
        | false =>
          rw [hpr, Bool.toNat_false] at er
          simp (disch := omega) only [eq_false hd, show ¬ (k + 1 < 1) by omega, Nat.lt_succ_self, er, SC (hs), zl_eq, bsm, ZS, ZT, ZN, ZU, eq_self, true_and, and_true, and_self, or_true, true_or, or_false, false_or, not_true, not_false_eq_true, Nat.reduceAdd, Nat.reduceMul, Nat.reduceLT, Nat.reduceLeDiff, Nat.reduceEqDiff, ↓reduceIte, ZQ, Bool.true_eq_false, Bool.false_eq_true, Bool.not_true, Bool.not_false]
          exact wp_some ⟨rfl, zfr.refl h, fun _ _ => rfl⟩
      · have hl : lynB k x = false := decide_eq_false hq
        rw [hl, Bool.false_and]
        simp (disch := omega) only [eq_false hd, show ¬ (k + 1 < 1) by omega, Nat.lt_succ_self, eq_false hq, SC (hs), zl_eq, bsm, ZS, ZT, ZN, ZU, eq_self, true_and, and_true, and_self, or_true, true_or, or_false, false_or, not_true, not_false_eq_true, Nat.reduceAdd, Nat.reduceMul, Nat.reduceLT, Nat.reduceLeDiff, Nat.reduceEqDiff, ↓reduceIte, ZQ, Bool.true_eq_false, Bool.false_eq_true, Bool.not_true, Bool.not_false]
        exact wp_some ⟨rfl, zfr.refl h, fun _ _ => rfl⟩
  | succ m ih =>
    intro f k x j h hkm hf hx hs au c0 hc hp st
    obtain ⟨f, rfl⟩ : ∃ q, f = q + 1 := ⟨f - 1, by omega⟩
    rw [fX6_countNecklaces]
    unfold gX6_countNecklaces
    have hj := stt255 st
    have hpl := fk_le (w := dgt k x) k
    by_cases hd : j = 255
    · have := LP_dead (M := M) (k := k) (m := m + 1) (x := x) (hj.2.mp hd)
      rw [hkm] at this
      rw [this]
      simp (disch := omega) only [eq_true hd, SC (hs), zl_eq, bsm, ZS, ZT, ZN, ZU, eq_self, true_and, and_true, and_self, or_true, true_or, or_false, false_or, not_true, not_false_eq_true, Nat.reduceAdd, Nat.reduceMul, Nat.reduceLT, Nat.reduceLeDiff, Nat.reduceEqDiff, ↓reduceIte, ZQ, Bool.true_eq_false, Bool.false_eq_true, Bool.not_true, Bool.not_false]
      exact wp_some ⟨rfl, zfr.refl h, fun _ _ => rfl⟩
    · obtain ⟨lo, hlo⟩ : ∃ lo, lo = if fk (dgt k x) k = k + 1 then 0 else dgt k x (k - fk (dgt k x) k) := ⟨_, rfl⟩
      have hlo4 : lo < 4 := by
        rw [hlo]
        split
        · decide
        · exact dgt_lt _ _ _
      have el : zI h 42 (k + 1 - fk (dgt k x) k) = nI lo := by
        rw [hlo]
        by_cases e : fk (dgt k x) k = k + 1
        · rw [if_pos e, e, Nat.sub_self]; exact c0
        · rw [if_neg e, show k + 1 - fk (dgt k x) k = (k - fk (dgt k x) k) + 1 by omega]
          exact hc _ (by omega)
      have fkn : ∀ l, l < 4 → fk (dgt (k + 1) (x * 4 + l)) (k + 1) = if l < lo then 0 else if l = lo then fk (dgt k x) k else k + 1 := by
        intro l hl
        rw [fk, fk_cong (w' := dgt k x) k (fun i hi => dgt_ext hl hi)]
        unfold fks
        rw [dgt_new hl, if_neg hp]
        have : (if fk (dgt k x) k = k + 1 then 0 else dgt (k + 1) (x * 4 + l) (k - fk (dgt k x) k)) = lo := by
          rw [hlo]
          by_cases e : fk (dgt k x) k = k + 1
          · rw [if_pos e, if_pos e]
          · rw [if_neg e, if_neg e, dgt_ext hl (by omega)]
        rw [this]
      rw [LP_split]
      generalize hP : fk (dgt k x) k = p at hp hpl el fkn
      simp (disch := omega) only [eq_false hd, show ¬ (k + 1 < 1) by omega, show ¬ (n < k + 1) by omega, show k + 1 ≤ 7 by omega, show ¬ (p < 1) by omega, show ¬ (k + 1 < p) by omega, el, SC (hs), zl_eq, bsm, ZS, ZT, ZN, ZU, eq_self, true_and, and_true, and_self, or_true, true_or, or_false, false_or, not_true, not_false_eq_true, Nat.reduceAdd, Nat.reduceMul, Nat.reduceLT, Nat.reduceLeDiff, Nat.reduceEqDiff, ↓reduceIte, ZQ, Bool.true_eq_false, Bool.false_eq_true, Bool.not_true, Bool.not_false]
      unfold bX6_countNecklaces_72
      refine wloop (fun i y => ∃ h1, y = (nI (sm (fun l => cnt (fun t => lpB M n ((x * 4 + l) * 4 ^ m + t)) (4 ^ m)) (lo + i)), nI (lo + i), h1) ∧ zfr [42] h h1 ∧ ∀ i, i ≤ k → zI h1 42 i = zI h 42 i) (4 - lo) (fun i y self hi hy ih2 => ?_) (show 4 - lo < 100000 by omega) ⟨h, ?_, zfr.refl h, fun _ _ => rfl⟩
      · obtain ⟨h1, rfl, p1, k1⟩ := hy
        have hs1 := p1.shp hs
        show wp (kX6_countNecklaces_78 (fX6_countNecklaces f) 37 (nI (k + 1)) (nI p) (nI n) (nI j) (nI lo) self (nI (sm (fun l => cnt (fun t => lpB M n ((x * 4 + l) * 4 ^ m + t)) (4 ^ m)) (lo + i))) (nI (lo + i)) h1) _
        unfold kX6_countNecklaces_78 bX6_countNecklaces_104
        by_cases hlt : lo + i < 4
        · obtain ⟨l, hl⟩ : ∃ l, l = lo + i := ⟨_, rfl⟩
          rw [← hl] at hlt ⊢
          have p2 : zfr [42] h1 (zsI h1 (zu (zI h1) 42 (k + 1) (nI l))) := zfr_uI
          have k2 : ∀ i, i ≤ k → zI (zsI h1 (zu (zI h1) 42 (k + 1) (nI l))) 42 i = zI h1 42 i := fun i hi => by
            dsimp only [zI_zsI]
            rw [zu_at, if_neg (by omega)]
          have k2' : zI (zsI h1 (zu (zI h1) 42 (k + 1) (nI l))) 42 (k + 1) = nI l := by
            dsimp only [zI_zsI]
            rw [zu_at, if_pos rfl]
          have es : sI h1 14 42 (nI (k + 1)) (nI l) = some (zsI h1 (zu (zI h1) 42 (k + 1) (nI l))) := by
            simp (disch := omega) only [SC (hs1), zl_eq, bsm, ZS, ZT, ZN, ZU, eq_self, true_and, and_true, and_self, or_true, true_or, or_false, false_or, not_true, not_false_eq_true, Nat.reduceAdd, Nat.reduceMul, Nat.reduceLT, Nat.reduceLeDiff, Nat.reduceEqDiff, ↓reduceIte, ZQ, Bool.true_eq_false, Bool.false_eq_true, Bool.not_true, Bool.not_false]
          generalize zsI h1 (zu (zI h1) 42 (k + 1) (nI l)) = h2 at p2 k2 k2' es
          have hs2 := p2.shp hs1
          have au2 : aut 37 M h2 := subOK.fr (p1.same p2) (by decide) (by decide) (by decide) (by decide) (by decide) au
          obtain ⟨j', ej, sj⟩ := afterC hs2 au2 st hlt
          have fl := fkn l hlt
          rw [if_neg (by omega)] at fl
          have eb : ims M (bh M (dgt k x) (ess M) 0 k) l = bh M (dgt (k + 1) (x * 4 + l)) (ess M) 0 (k + 1) := by
            rw [bh, Nat.zero_add, dgt_new hlt, bh_cong (w := dgt (k + 1) (x * 4 + l)) (a := 0) (w' := dgt k x) (a' := 0) k (fun i hi => by rw [Nat.zero_add]; exact dgt_ext hlt hi)]
          rw [eb] at sj
          have hx2 : x * 4 + l < 4 ^ (k + 1) := by rw [Nat.pow_succ]; omega
          have rcu := ih f (k + 1) (x * 4 + l) j' h2 (by omega) (by omega) hx2 hs2 au2 (by rw [k2 0 (by omega), k1 0 (by omega)]; exact c0) (fun i hi => by
            by_cases e : i = k
            · rw [e, k2', dgt_new hlt]
            · rw [k2 _ (by omega), k1 _ (by omega), hc i (by omega), dgt_ext hlt (by omega)]) (by rw [fl]; split <;> omega) sj
          rw [fl] at rcu
          obtain ⟨⟨r, h3⟩, er, rr, pr, kr⟩ := rcu
          dsimp only at rr pr kr
          subst rr
          have fin : wp (self (nI (sm (fun l => cnt (fun t => lpB M n ((x * 4 + l) * 4 ^ m + t)) (4 ^ m)) (l + 1)), nI (l + 1), h3)) _ := ih2 _ (by omega) ⟨h3, by rw [hl, Nat.add_assoc], (p1.same p2).same pr, fun i hi => by rw [kr i (by omega), k2 i hi, k1 i hi]⟩
          by_cases e : l = lo
          · rw [if_pos e] at er
            simp (disch := omega) only [Nat.not_le.mpr hlt, es, SC (hs1), zl_eq, bsm, ZS, ZT, ZN, ZU, eq_self, true_and, and_true, and_self, or_true, true_or, or_false, false_or, not_true, not_false_eq_true, Nat.reduceAdd, Nat.reduceMul, Nat.reduceLT, Nat.reduceLeDiff, Nat.reduceEqDiff, ↓reduceIte, ZQ, Bool.true_eq_false, Bool.false_eq_true, Bool.not_true, Bool.not_false]
            simp (disch := omega) only [ej, eq_true e, er, SC (hs2), zl_eq, bsm, ZS, ZT, ZN, ZU, eq_self, true_and, and_true, and_self, or_true, true_or, or_false, false_or, not_true, not_false_eq_true, Nat.reduceAdd, Nat.reduceMul, Nat.reduceLT, Nat.reduceLeDiff, Nat.reduceEqDiff, ↓reduceIte, ZQ, Bool.true_eq_false, Bool.false_eq_true, Bool.not_true, Bool.not_false]
            exact fin
          · rw [if_neg e] at er
            simp (disch := omega) only [Nat.not_le.mpr hlt, es, SC (hs1), zl_eq, bsm, ZS, ZT, ZN, ZU, eq_self, true_and, and_true, and_self, or_true, true_or, or_false, false_or, not_true, not_false_eq_true, Nat.reduceAdd, Nat.reduceMul, Nat.reduceLT, Nat.reduceLeDiff, Nat.reduceEqDiff, ↓reduceIte, ZQ, Bool.true_eq_false, Bool.false_eq_true, Bool.not_true, Bool.not_false]
            simp (disch := omega) only [ej, eq_false e, er, SC (hs2), zl_eq, bsm, ZS, ZT, ZN, ZU, eq_self, true_and, and_true, and_self, or_true, true_or, or_false, false_or, not_true, not_false_eq_true, Nat.reduceAdd, Nat.reduceMul, Nat.reduceLT, Nat.reduceLeDiff, Nat.reduceEqDiff, ↓reduceIte, ZQ, Bool.true_eq_false, Bool.false_eq_true, Bool.not_true, Bool.not_false]
            exact fin
        · have : lo + i = 4 := by omega
          rw [this]
          simp (disch := omega) only [Nat.le_refl, SC (hs1), zl_eq, bsm, ZS, ZT, ZN, ZU, eq_self, true_and, and_true, and_self, or_true, true_or, or_false, false_or, not_true, not_false_eq_true, Nat.reduceAdd, Nat.reduceMul, Nat.reduceLT, Nat.reduceLeDiff, Nat.reduceEqDiff, ↓reduceIte, ZQ, Bool.true_eq_false, Bool.false_eq_true, Bool.not_true, Bool.not_false]
          exact wp_some ⟨rfl, p1, k1⟩
      · have : sm (fun l => cnt (fun t => lpB M n ((x * 4 + l) * 4 ^ m + t)) (4 ^ m)) (lo + 0) = 0 := by
          rw [sm_cong (g := fun _ => 0) _ (fun l hl => ?_), sm_zero]
          have := LP_fail (M := M) (k := k + 1) (m := m) (x := x * 4 + l) (by omega) (by rw [fkn l (by omega), if_pos (by omega)])
          rwa [show k + 1 + m = n by omega] at this
        rw [this, Nat.add_zero]
theorem orbitsC {n : Nat} (hs : Sh h) (au : aut 37 M h) (n1 : 1 ≤ n) (n7 : n ≤ 7) : ∃ h', fX6_countOrbits 37 (nI n) h = some (nI (nL M n), h') ∧ zfr [42] h h' := by
  have p1 : zfr [42] h (zsI h (zu (zI h) 42 0 (nI 0))) := zfr_uI
  have z1 : zI (zsI h (zu (zI h) 42 0 (nI 0))) 42 0 = nI 0 := by dsimp only [zI_zsI]; rw [zu_at, if_pos rfl]
  have es : sI h 14 42 (nI 0) (nI 0) = some (zsI h (zu (zI h) 42 0 (nI 0))) := by
    simp (disch := omega) only [SC (hs), zl_eq, bsm, ZS, ZT, ZN, ZU, eq_self, true_and, and_true, and_self, or_true, true_or, or_false, false_or, not_true, not_false_eq_true, Nat.reduceAdd, Nat.reduceMul, Nat.reduceLT, Nat.reduceLeDiff, Nat.reduceEqDiff, ↓reduceIte, ZQ, Bool.true_eq_false, Bool.false_eq_true, Bool.not_true, Bool.not_false]
  generalize zsI h (zu (zI h) 42 0 (nI 0)) = h1 at p1 z1 es
  have hs1 := p1.shp hs
  have au1 : aut 37 M h1 := subOK.fr p1 (by decide) (by decide) (by decide) (by decide) (by decide) au
  obtain ⟨j0, e0, s0⟩ := start_ok (sub37 hs1) au1 (LL_good M)
  obtain ⟨⟨r, h2⟩, er, rr, pr, -⟩ := neck_ok (M := M) n1 n7 n 10 0 0 j0 h1 (by omega) (by omega) (by decide) hs1 au1 z1 (fun i hi => by omega) (by decide) s0
  dsimp only at rr pr
  subst rr
  refine ⟨h2, ?_, p1.same pr⟩
  have en : cnt (fun t => lpB M n (0 * 4 ^ n + t)) (4 ^ n) = nL M n := by
    unfold nL
    refine cnt_cong (fun t ht => ?_)
    rw [Nat.zero_mul, Nat.zero_add]
    rfl
  rw [en] at er
  have er' : fX6_countNecklaces 10 37 (nI 1) (nI 1) (nI n) (nI j0) h1 = some (nI (nL M n), h2) := er
  unfold fX6_countOrbits
  simp (disch := omega) only [es, SC (hs), zl_eq, bsm, ZS, ZT, ZN, ZU, eq_self, true_and, and_true, and_self, or_true, true_or, or_false, false_or, not_true, not_false_eq_true, Nat.reduceAdd, Nat.reduceMul, Nat.reduceLT, Nat.reduceLeDiff, Nat.reduceEqDiff, ↓reduceIte, ZQ, Bool.true_eq_false, Bool.false_eq_true, Bool.not_true, Bool.not_false]
  simp (disch := omega) only [e0, er', SC (hs1), zl_eq, bsm, ZS, ZT, ZN, ZU, eq_self, true_and, and_true, and_self, or_true, true_or, or_false, false_or, not_true, not_false_eq_true, Nat.reduceAdd, Nat.reduceMul, Nat.reduceLT, Nat.reduceLeDiff, Nat.reduceEqDiff, ↓reduceIte, ZQ, Bool.true_eq_false, Bool.false_eq_true, Bool.not_true, Bool.not_false]
end PC
