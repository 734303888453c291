/-! THE STORE OF A GRAPH: the object's ring and the reference's list of replaced graphs -/
theorem zu_at {β : Type} {f : Nat → Nat → β} {a k : Nat} {v : β} {i : Nat} : zu f a k v a i = if i = k then v else f a i := by
  unfold zu
  by_cases e : i = k
  · rw [if_pos ⟨rfl, e⟩, if_pos e]
  · rw [if_neg (fun q => e q.2), if_neg e]
theorem jmmin_ok {a b : Nat} (ha : a < 2 ^ 31) (hb : b < 2 ^ 31) : jmmin (nI a) (nI b) = nI (min a b) := by
  unfold jmmin
  by_cases h : b < a
  · rw [if_pos (nI_lt h ha), Nat.min_eq_right (by omega)]
  · rw [if_neg (nI_nlt (by omega) hb), Nat.min_eq_left (by omega)]
theorem jmmax_ok {a b : Nat} (ha : a < 2 ^ 31) (hb : b < 2 ^ 31) : jmmax (nI a) (nI b) = nI (max a b) := by
  unfold jmmax
  by_cases h : a < b
  · rw [if_pos (nI_lt h hb), Nat.max_eq_right (by omega)]
  · rw [if_neg (nI_nlt (by omega) ha), Nat.max_eq_left (by omega)]
section ST
variable {h : ZH} {M : Nat → Nat}
theorem push_ok (hs : Sh h) {s n lat a2 m2 : Nat} (hn : n ≤ 10) (hl : lat < 10) (e3 : zI h 3 3 = nI n) (e2 : zI h 3 2 = nI lat) (g2 : isG h a2 m2) (hm3 : m2 ≠ 3) (hM : hasM h m2 M) :
    ∃ h', fX2_push 3 (nI s) a2 h = some h' ∧ zfr [3, 5, 7 + 2 * ((lat + 1) % 10)] h h' ∧ zI h' 3 2 = nI ((lat + 1) % 10) ∧ zI h' 3 3 = nI (min (n + 1) 10) ∧ hasM h' (7 + 2 * ((lat + 1) % 10)) M ∧ zI h' 5 ((lat + 1) % 10) = nI s ∧ ∀ r, r ≠ (lat + 1) % 10 → zI h' 5 r = zI h 5 r := by
  have hl' : (lat + 1) % 10 < 10 := Nat.mod_lt _ (by decide)
  have p1 : zfr [3] h (zsI h (zu (zI h) 3 2 (nI ((lat + 1) % 10)))) := zfr_uI
  have hs1 := p1.shp hs
  have hM1 : hasM (zsI h (zu (zI h) 3 2 (nI ((lat + 1) % 10)))) m2 M := p1.hasM (by simpa using hm3) hM
  obtain ⟨h6, e6, p6, q6⟩ := copyOf_ok (gH hs1 hl') (p1.isG g2) hM1
  have hs6 := p6.shp hs1
  have i3 : 3 ∉ [7 + 2 * ((lat + 1) % 10)] := by
    intro q
    have := List.mem_singleton.mp q
    omega
  have i5 : 5 ∉ [7 + 2 * ((lat + 1) % 10)] := by
    intro q
    have := List.mem_singleton.mp q
    omega
  have e62 : zI h6 3 2 = nI ((lat + 1) % 10) := by
    rw [p6.I i3]
    dsimp only [zI_zsI]
    rw [zu_at, if_pos rfl]
  have e63 : zI h6 3 3 = nI n := by
    rw [p6.I i3]
    dsimp only [zI_zsI]
    rw [zu_at, if_neg (by decide)]
    exact e3
  refine ⟨zsI h6 (zu (zu (zI h6) 5 ((lat + 1) % 10) (nI s)) 3 3 (nI (min (n + 1) 10))), ?_, ?_, ?_, ?_, ?_, ?_, ?_⟩
  · have e24 : bX2_push_24 3 (nI s) a2 (nI ((lat + 1) % 10)) 3 h = some (zsI h6 (zu (zu (zI h6) 5 ((lat + 1) % 10) (nI s)) 3 3 (nI (min (n + 1) 10)))) := by
      unfold bX2_push_24
      simp (disch := omega) only [SC (hs), zl, Option.bind_some, ZS, ZT, ZN, ZU, eq_self, true_and, and_true, and_self, or_true, true_or, or_false, false_or, not_true, not_false_eq_true, Nat.reduceAdd, Nat.reduceMul, Nat.reduceLT, Nat.reduceLeDiff, Nat.reduceEqDiff, ↓reduceIte]
      rw [e6, Option.bind_some]
      simp (disch := omega) only [e62, e63, jmmin_ok, SC (hs6), zl, Option.bind_some, ZS, ZT, ZN, ZU, eq_self, true_and, and_true, and_self, or_true, true_or, or_false, false_or, not_true, not_false_eq_true, Nat.reduceAdd, Nat.reduceMul, Nat.reduceLT, Nat.reduceLeDiff, Nat.reduceEqDiff, ↓reduceIte]
    unfold fX2_push
    by_cases h9 : lat ≤ 8
    · have hz : (lat + 1) % 10 = lat + 1 := by omega
      rw [hz] at e24 ⊢
      simp (disch := omega) only [e2, isWithin_ok (Nat.zero_le lat) h9 (by decide) h, e24, SC (hs), zl, Option.bind_some, ZS, ZT, ZN, ZU, eq_self, true_and, and_true, and_self, or_true, true_or, or_false, false_or, not_true, not_false_eq_true, Nat.reduceAdd, Nat.reduceMul, Nat.reduceLT, Nat.reduceLeDiff, Nat.reduceEqDiff, ↓reduceIte]
    · have hz : (lat + 1) % 10 = 0 := by omega
      rw [hz] at e24 ⊢
      simp (disch := omega) only [e2, isWithin_no (x := nI lat) (lo := 0) (hi := 8) (Or.inr (nI_lt (by omega) (by omega))) h, e24, SC (hs), zl, Option.bind_some, ZS, ZT, ZN, ZU, eq_self, true_and, and_true, and_self, or_true, true_or, or_false, false_or, not_true, not_false_eq_true, Nat.reduceAdd, Nat.reduceMul, Nat.reduceLT, Nat.reduceLeDiff, Nat.reduceEqDiff, ↓reduceIte]
  · refine ((p1.trans p6).trans (zfr_zsI (A := [3, 5]) ?_)).mono (fun b hb => ?_)
    · intro b hb
      rw [zu_ne (fun e => hb (by rw [e]; decide)), zu_ne (fun e => hb (by rw [e]; decide))]
    · simp only [List.mem_append, List.mem_cons, List.not_mem_nil, or_false] at hb ⊢
      omega
  · dsimp only [zI_zsI]
    rw [zu_at, if_neg (by decide), zu_ne (by decide)]
    exact e62
  · dsimp only [zI_zsI]
    rw [zu_at, if_pos rfl]
  · intro j hj
    dsimp only [zI_zsI]
    rw [zu_ne (by omega), zu_ne (by omega)]
    exact q6 j hj
  · dsimp only [zI_zsI]
    rw [zu_ne (by decide), zu_at, if_pos rfl]
  · intro r hr
    dsimp only [zI_zsI]
    rw [zu_ne (by decide), zu_at, if_neg hr, p6.I i5]
    dsimp only [zI_zsI]
    rw [zu_ne (by decide)]
/-- what the reference does with what was made, where there is room -/
def repQ (s n : Nat) (h h' : ZH) : Prop := zfr [117, 118, 120, 121] h h' ∧ (∀ k, k ≠ 4 → zI h' 117 k = zI h 117 k) ∧ zI h' 117 4 = nI (n + 1) ∧ zI h' 121 n = nI s ∧ (∀ e, e ≠ n → zI h' 121 e = zI h 121 e) ∧ (∀ j, j < 32 → zI h' 120 (32 * n + j) = zI h 118 (32 * s + j)) ∧ (∀ i, (i < 32 * n ∨ 32 * n + 32 ≤ i) → zI h' 120 i = zI h 120 i) ∧ (∀ j, j < 32 → zI h' 118 (32 * s + j) = zI h 119 j) ∧ (∀ i, (i < 32 * s ∨ 32 * s + 32 ≤ i) → zI h' 118 i = zI h 118 i)
theorem replace85_ok (hs : Sh h) {s n : Nat} (h6 : s < 6) (hn : n < 10) (e4 : zI h 117 4 = nI n) : wp (bX11_replace_85 117 (nI s) h) (repQ s n h) := by
  unfold bX11_replace_85
  simp (disch := omega) only [e4, SR (hs), zl, Option.bind_some, ZS, ZT, ZN, ZU, eq_self, true_and, and_true, and_self, or_true, true_or, or_false, false_or, not_true, not_false_eq_true, Nat.reduceAdd, Nat.reduceMul, Nat.reduceLT, Nat.reduceLeDiff, Nat.reduceEqDiff, ↓reduceIte]
  refine wloop (fun j t => t.1 = nI j ∧ zfr [118, 120, 121] h t.2 ∧ zI t.2 121 n = nI s ∧ (∀ e, e ≠ n → zI t.2 121 e = zI h 121 e) ∧ (∀ i, i < j → zI t.2 120 (32 * n + i) = zI h 118 (32 * s + i)) ∧ (∀ i, (i < 32 * n ∨ 32 * n + j ≤ i) → zI t.2 120 i = zI h 120 i) ∧ (∀ i, i < j → zI t.2 118 (32 * s + i) = zI h 119 i) ∧ (∀ i, (i < 32 * s ∨ 32 * s + j ≤ i) → zI t.2 118 i = zI h 118 i)) 32 (fun j t self hj hI ih => ?_) (by decide) ?_
  · obtain ⟨x, h1⟩ := t
    obtain ⟨rfl, p, k1, k2, k3, k4, k5, k6⟩ := hI
    have hs1 := p.shp hs
    have e41 : zI h1 117 4 = nI n := by rw [p.I (by decide)]; exact e4
    show wp (kX11_replace_97 117 (nI s) self (nI j) h1) _
    by_cases hlt : j < 32
    · unfold kX11_replace_97
      simp (disch := omega) only [e41, Nat.not_le.mpr hlt, SR (hs1), zl, Option.bind_some, ZS, ZT, ZN, ZU, eq_self, true_and, and_true, and_self, or_true, true_or, or_false, false_or, not_true, not_false_eq_true, Nat.reduceAdd, Nat.reduceMul, Nat.reduceLT, Nat.reduceLeDiff, Nat.reduceEqDiff, ↓reduceIte]
      refine ih _ hlt ⟨rfl, p.same (zfr_zsI (fun b hb => ?_)), ?_, ?_, ?_, ?_, ?_, ?_⟩
      · rw [zu_ne (fun e => hb (by rw [e]; decide)), zu_ne (fun e => hb (by rw [e]; decide))]
      · dsimp only [zI_zsI]
        rw [zu_ne (by decide), zu_ne (by decide)]; exact k1
      · intro e he
        dsimp only [zI_zsI]
        rw [zu_ne (by decide), zu_ne (by decide)]; exact k2 e he
      · intro i hi
        dsimp only [zI_zsI]
        rw [zu_ne (by decide), zu_at]
        by_cases e : i = j
        · subst e; rw [if_pos rfl]; exact k6 _ (by omega)
        · rw [if_neg (by omega)]; exact k3 i (by omega)
      · intro i hi
        dsimp only [zI_zsI]
        rw [zu_ne (by decide), zu_at, if_neg (by omega)]
        exact k4 i (by omega)
      · intro i hi
        dsimp only [zI_zsI]
        rw [zu_at]
        by_cases e : i = j
        · subst e; rw [if_pos rfl]; exact congrFun (p.I (by decide)) _
        · rw [if_neg (by omega), zu_ne (by decide)]; exact k5 i (by omega)
      · intro i hi
        dsimp only [zI_zsI]
        rw [zu_at, if_neg (by omega), zu_ne (by decide)]
        exact k6 i (by omega)
    · have hj32 : j = 32 := by omega
      subst hj32
      unfold kX11_replace_97
      simp (disch := omega) only [e41, Nat.le_refl, SR (hs1), zl, Option.bind_some, ZS, ZT, ZN, ZU, eq_self, true_and, and_true, and_self, or_true, true_or, or_false, false_or, not_true, not_false_eq_true, Nat.reduceAdd, Nat.reduceMul, Nat.reduceLT, Nat.reduceLeDiff, Nat.reduceEqDiff, ↓reduceIte]
      refine wp_some ⟨((p.mono (B := [117, 118, 120, 121]) (by decide)).same ((zfr_uI (a := 117)).mono (by decide))), ?_, ?_, ?_, ?_, ?_, ?_, ?_, ?_⟩
      · intro k hk
        dsimp only [zI_zsI]
        rw [zu_at, if_neg hk, p.I (by decide)]
      · dsimp only [zI_zsI]
        rw [zu_at, if_pos rfl]
      · exact k1
      · exact k2
      · exact k3
      · exact k4
      · exact k5
      · exact k6
  · refine ⟨rfl, (zfr_uI (a := 121)).mono (by decide), ?_, ?_, fun i hi => by omega, fun i hi => ?_, fun i hi => by omega, fun i hi => ?_⟩
    · dsimp only [zI_zsI]
      rw [zu_at, if_pos rfl]
    · intro e he
      dsimp only [zI_zsI]
      rw [zu_at, if_neg he]
    · dsimp only [zI_zsI]
      rw [zu_ne (by decide)]
    · dsimp only [zI_zsI]
      rw [zu_ne (by decide)]
/-- where there is none: the first is dropped -/
def repS (s : Nat) (h h' : ZH) : Prop := zfr [117, 118, 120, 121] h h' ∧ (∀ k, k ≠ 4 → zI h' 117 k = zI h 117 k) ∧ zI h' 117 4 = nI 10 ∧ zI h' 121 9 = nI s ∧ (∀ e, e < 9 → zI h' 121 e = zI h 121 (e + 1)) ∧ (∀ j, j < 32 → zI h' 120 (32 * 9 + j) = zI h 118 (32 * s + j)) ∧ (∀ i, i < 32 * 9 → zI h' 120 i = zI h 120 (i + 32)) ∧ (∀ j, j < 32 → zI h' 118 (32 * s + j) = zI h 119 j) ∧ (∀ i, (i < 32 * s ∨ 32 * s + 32 ≤ i) → zI h' 118 i = zI h 118 i)
theorem replaceFull_ok (hs : Sh h) {s : Nat} (h6 : s < 6) (e4 : zI h 117 4 = nI 10) : wp (zloop (lX11_replace_11 117 (nI s)) zfu (nI 1, h)) (repS s h) := by
  refine wloop (fun j t => t.1 = nI (j + 1) ∧ zfr [120, 121] h t.2 ∧ (∀ e, e < j → zI t.2 121 e = zI h 121 (e + 1)) ∧ (∀ e, j ≤ e → zI t.2 121 e = zI h 121 e) ∧ (∀ i, i < 32 * j → zI t.2 120 i = zI h 120 (i + 32)) ∧ (∀ i, 32 * j ≤ i → zI t.2 120 i = zI h 120 i)) 9 (fun j t self hj hI ih => ?_) (by decide) ⟨rfl, zfr.refl h, fun e he => by omega, fun e he => rfl, fun e he => by omega, fun e he => rfl⟩
  obtain ⟨x, h1⟩ := t
  obtain ⟨rfl, p, k1, k2, k3, k4⟩ := hI
  have hs1 := p.shp hs
  have e41 : zI h1 117 4 = nI 10 := by rw [p.I (by decide)]; exact e4
  show wp (kX11_replace_11 117 (nI s) self (nI (j + 1)) h1) _
  unfold kX11_replace_11
  by_cases hlt : j < 9
  · simp (disch := omega) only [e41, show ¬ (10 ≤ j + 1) by omega, Nat.add_sub_cancel, SR (hs1), zl, Option.bind_some, ZS, ZT, ZN, ZU, eq_self, true_and, and_true, and_self, or_true, true_or, or_false, false_or, not_true, not_false_eq_true, Nat.reduceAdd, Nat.reduceMul, Nat.reduceLT, Nat.reduceLeDiff, Nat.reduceEqDiff, ↓reduceIte]
    refine wloop (fun i t => t.1 = nI i ∧ zfr [120, 121] h t.2 ∧ (∀ e, e < j + 1 → zI t.2 121 e = zI h 121 (e + 1)) ∧ (∀ e, j + 1 ≤ e → zI t.2 121 e = zI h 121 e) ∧ (∀ e, e < 32 * j + i → zI t.2 120 e = zI h 120 (e + 32)) ∧ (∀ e, 32 * j + i ≤ e → zI t.2 120 e = zI h 120 e)) 32 (fun i t self2 hi hI ih2 => ?_) (by decide) ?_
    · obtain ⟨y, h2⟩ := t
      obtain ⟨rfl, p2, l1, l2, l3, l4⟩ := hI
      have hs2 := p2.shp hs
      show wp (kX11_replace_33 self 117 (nI s) (nI (j + 1)) self2 (nI i) h2) _
      unfold kX11_replace_33
      by_cases hlt2 : i < 32
      · simp (disch := omega) only [Nat.not_le.mpr hlt2, Nat.add_sub_cancel, SR (hs2), zl, Option.bind_some, ZS, ZT, ZN, ZU, eq_self, true_and, and_true, and_self, or_true, true_or, or_false, false_or, not_true, not_false_eq_true, Nat.reduceAdd, Nat.reduceMul, Nat.reduceLT, Nat.reduceLeDiff, Nat.reduceEqDiff, ↓reduceIte]
        refine ih2 _ hlt2 ⟨rfl, p2.same ((zfr_uI (a := 120)).mono (by decide)), ?_, ?_, ?_, ?_⟩
        · intro e he
          dsimp only [zI_zsI]
          rw [zu_ne (by decide)]; exact l1 e he
        · intro e he
          dsimp only [zI_zsI]
          rw [zu_ne (by decide)]; exact l2 e he
        · intro e he
          dsimp only [zI_zsI]
          rw [zu_at]
          by_cases ee : e = 32 * j + i
          · rw [if_pos ee, ee, l4 _ (by omega)]; congr 1; omega
          · rw [if_neg ee]; exact l3 e (by omega)
        · intro e he
          dsimp only [zI_zsI]
          rw [zu_at, if_neg (by omega)]; exact l4 e (by omega)
      · have : i = 32 := by omega
        subst this
        simp (disch := omega) only [Nat.le_refl, SR (hs2), zl, Option.bind_some, ZS, ZT, ZN, ZU, eq_self, true_and, and_true, and_self, or_true, true_or, or_false, false_or, not_true, not_false_eq_true, Nat.reduceAdd, Nat.reduceMul, Nat.reduceLT, Nat.reduceLeDiff, Nat.reduceEqDiff, ↓reduceIte]
        exact ih _ hlt ⟨rfl, p2, l1, l2, fun e he => l3 e (by omega), fun e he => l4 e (by omega)⟩
    · refine ⟨rfl, p.same ((zfr_uI (a := 121)).mono (by decide)), ?_, ?_, ?_, ?_⟩
      · intro e he
        dsimp only [zI_zsI]
        rw [zu_at]
        by_cases ee : e = j
        · rw [if_pos ee, ee]; exact k2 _ (by omega)
        · rw [if_neg ee]; exact k1 e (by omega)
      · intro e he
        dsimp only [zI_zsI]
        rw [zu_at, if_neg (by omega)]; exact k2 e (by omega)
      · intro e he
        dsimp only [zI_zsI]
        rw [zu_ne (by decide)]; exact k3 e (by omega)
      · intro e he
        dsimp only [zI_zsI]
        rw [zu_ne (by decide)]; exact k4 e (by omega)
  · have hj9 : j = 9 := by omega
    subst hj9
    simp (disch := omega) only [e41, Nat.le_refl, show 10 ≤ 9 + 1 by decide, SR (hs1), zl, Option.bind_some, ZS, ZT, ZN, ZU, eq_self, true_and, and_true, and_self, or_true, true_or, or_false, false_or, not_true, not_false_eq_true, Nat.reduceAdd, Nat.reduceMul, Nat.reduceLT, Nat.reduceLeDiff, Nat.reduceEqDiff, ↓reduceIte]
    have p9 : zfr [117, 120, 121] h (zsI h1 (zu (zI h1) 117 4 (nI 9))) := (p.mono (by decide)).same ((zfr_uI (a := 117)).mono (by decide))
    refine wp_mono (replace85_ok (p9.shp hs) h6 (n := 9) (by decide) (by dsimp only [zI_zsI]; rw [zu_at, if_pos rfl])) (fun h' hq => ?_)
    obtain ⟨q1, q2, q3, q4, q5, q6, q7, q8, q9⟩ := hq
    refine ⟨(p9.trans q1).mono (by decide), ?_, q3, q4, ?_, ?_, ?_, ?_, ?_⟩
    · intro k hk
      rw [q2 k hk]
      dsimp only [zI_zsI]
      rw [zu_at, if_neg hk, p.I (by decide)]
    · intro e he
      rw [q5 e (by omega)]
      dsimp only [zI_zsI]
      rw [zu_ne (by decide)]; exact k1 e he
    · intro j hj
      rw [q6 j hj, p9.I (by decide)]
    · intro i hi
      rw [q7 i (by omega)]
      dsimp only [zI_zsI]
      rw [zu_ne (by decide)]; exact k3 i (by omega)
    · intro j hj
      rw [q8 j hj, p9.I (by decide)]
    · intro i hi
      rw [q9 i hi, p9.I (by decide)]
/-- both: the number of entries behind, and how they stand to those before -/
theorem replace_ok (hs : Sh h) {s n : Nat} (h6 : s < 6) (hn : n ≤ 10) (e4 : zI h 117 4 = nI n) : ∃ h', fX11_replace 117 (nI s) h = some h' ∧ zfr [117, 118, 120, 121] h h' ∧ (∀ k, k ≠ 4 → zI h' 117 k = zI h 117 k) ∧ zI h' 117 4 = nI (min (n + 1) 10) ∧ zI h' 121 (min (n + 1) 10 - 1) = nI s ∧ (∀ e, e + 1 < min (n + 1) 10 → zI h' 121 e = zI h 121 (e + (n + 1 - min (n + 1) 10))) ∧ (∀ j, j < 32 → zI h' 120 (32 * (min (n + 1) 10 - 1) + j) = zI h 118 (32 * s + j)) ∧ (∀ e, e + 1 < min (n + 1) 10 → ∀ j, j < 32 → zI h' 120 (32 * e + j) = zI h 120 (32 * (e + (n + 1 - min (n + 1) 10)) + j)) ∧ (∀ j, j < 32 → zI h' 118 (32 * s + j) = zI h 119 j) ∧ (∀ i, (i < 32 * s ∨ 32 * s + 32 ≤ i) → zI h' 118 i = zI h 118 i) := by
  by_cases h10 : n = 10
  · subst h10
    obtain ⟨h', e, q1, q2, q3, q4, q5, q6, q7, q8, q9⟩ := replaceFull_ok hs h6 e4
    refine ⟨h', ?_, q1, q2, q3, q4, fun e he => ?_, q6, fun e he j hj => ?_, q8, q9⟩
    · unfold fX11_replace
      simp (disch := omega) only [e4, SR (hs), zl, Option.bind_some, ZS, ZT, ZN, ZU, eq_self, true_and, and_true, and_self, or_true, true_or, or_false, false_or, not_true, not_false_eq_true, Nat.reduceAdd, Nat.reduceMul, Nat.reduceLT, Nat.reduceLeDiff, Nat.reduceEqDiff, ↓reduceIte]
      exact e
    · exact q5 e (by omega)
    · rw [q7 _ (by omega)]; congr 1; omega
  · obtain ⟨h', e, q1, q2, q3, q4, q5, q6, q7, q8, q9⟩ := replace85_ok hs h6 (by omega : n < 10) e4
    have em : min (n + 1) 10 = n + 1 := Nat.min_eq_left (by omega)
    rw [em]
    refine ⟨h', ?_, q1, q2, q3, q4, fun e he => ?_, q6, fun e he j hj => ?_, q8, q9⟩
    · unfold fX11_replace
      simp (disch := omega) only [e4, show ¬ (n = 10) by omega, SR (hs), zl, Option.bind_some, ZS, ZT, ZN, ZU, eq_self, true_and, and_true, and_self, or_true, true_or, or_false, false_or, not_true, not_false_eq_true, Nat.reduceAdd, Nat.reduceMul, Nat.reduceLT, Nat.reduceLeDiff, Nat.reduceEqDiff, ↓reduceIte]
      exact e
    · rw [q5 e (by omega)]; congr 1; omega
    · rw [q7 _ (by omega)]; congr 1; omega
end ST
