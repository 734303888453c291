/-! COVER: the reference's table -/
section FCT
variable {h : ZH} {n : Nat} {le : Nat → Nat → Nat} {Q : List Nat}
def cvT (n : Nat) (le : Nat → Nat → Nat) (Q : List Nat) (h : ZH) : Prop := ∀ i, i < n → ∀ l, l < 4 → zI h 143 (4 * i + l) = if le (Q.getD i 0 - 1) l = 0 then -1 else nI (pos Q (le (Q.getD i 0 - 1) l))
theorem coverT (hs : Sh h) (h8 : n ≤ 8) (v30 : zI h 117 30 = nI n) (lr : leR n le h) (hle : ∀ v l, v < n → l < 4 → le v l ≤ n) (nd : Q.Nodup) (hQ : ∀ P, P ∈ Q → 1 ≤ P ∧ P ≤ n) (hall : ∀ v, v < n → v + 1 ∈ Q) (nu : nuR Q Q.length h) : wp (zloop (lX11_findCover_99 117) zfu (nI 0, h)) (fun y => y.1 = nI 0 ∧ zfr [143] h y.2 ∧ cvT n le Q y.2) := by
  have Qn : Q.length ≤ n := by
    have := len_lt (N := n + 1) nd (fun z => by have := hQ 0 z; omega) (fun x hx => by have := hQ x hx; omega) (by omega)
    omega
  obtain ⟨num, hnum⟩ : ∃ num : Nat → Nat, ∀ v, num v = pos Q (v + 1) := ⟨fun v => pos Q (v + 1), fun _ => rfl⟩
  have nf : ∀ v, v < n → num v < Q.length ∧ Q.getD (num v) 0 = v + 1 ∧ zI h 142 v = nI (num v) := by
    intro v hv
    obtain ⟨i, i1, i2⟩ := mem_getD (hall v hv)
    have e : num v = i := by rw [hnum, ← i2]; exact pos_at nd i1
    have := nu i i1
    rw [i2, Nat.add_sub_cancel] at this
    rw [e]
    exact ⟨i1, i2, this⟩
  have ninj : ∀ v w, v < n → w < n → num v = num w → v = w := by
    intro v w hv hw e
    have a := (nf v hv).2.1
    rw [e, (nf w hw).2.1] at a
    omega
  obtain ⟨val, hval⟩ : ∃ val : Nat → Nat → Int32, ∀ v l, val v l = if le v l = 0 then -1 else nI (num (le v l - 1)) := ⟨fun v l => if le v l = 0 then -1 else nI (num (le v l - 1)), fun _ _ => rfl⟩
  refine wloop (fun x y => y.1 = nI x ∧ zfr [143] h y.2 ∧ ∀ v, v < x → ∀ l, l < 4 → zI y.2 143 (4 * num v + l) = val v l) n (fun x y self hx hy ih => ?_) (show n < 100000 by omega) ⟨rfl, zfr.refl h, fun v hv => by omega⟩
  obtain ⟨y, h3⟩ := y
  obtain ⟨rfl, p3, q3⟩ := hy
  dsimp only at p3 q3
  have hs3 := p3.shp hs
  have v3 : zI h3 117 30 = nI n := by rw [p3.I (by decide)]; exact v30
  show wp (kX11_findCover_99 117 self (nI x) h3) _
  unfold kX11_findCover_99
  by_cases hlt : x < n
  · simp (disch := omega) only [v3, Nat.not_le.mpr hlt, SR (hs3), zl_eq, bsm, ZS, ZT, ZN, ZU, eq_self, true_and, and_true, and_self, or_true, true_or, or_false, false_or, not_true, not_false_eq_true, Nat.reduceAdd, Nat.reduceMul, Nat.reduceLT, Nat.reduceLeDiff, Nat.reduceEqDiff, ↓reduceIte, ZQ, Bool.true_eq_false, Bool.false_eq_true, Bool.not_true, Bool.not_false]
    refine wloop (fun l y => y.1 = nI l ∧ zfr [143] h y.2 ∧ (∀ v, v < x → ∀ l, l < 4 → zI y.2 143 (4 * num v + l) = val v l) ∧ ∀ l', l' < l → zI y.2 143 (4 * num x + l') = val x l') 4 (fun l y self2 hl hy ih2 => ?_) (by decide) ⟨rfl, p3, q3, fun l' hl' => by omega⟩
    obtain ⟨y, h4⟩ := y
    obtain ⟨rfl, p4, q4, r4⟩ := hy
    dsimp only at p4 q4 r4
    have hs4 := p4.shp hs
    show wp (kX11_findCover_110 self 117 (nI x) self2 (nI l) h4) _
    unfold kX11_findCover_110 bX11_findCover_161
    by_cases hl4 : l < 4
    · have v5 : zI h4 139 (4 * x + l) = if le x l = 0 then -1 else nI (le x l - 1) := by rw [p4.I (by decide)]; exact lr x hlt l hl4
      have nx := nf x hlt
      have v6 : zI h4 142 x = nI (num x) := by rw [p4.I (by decide)]; exact nx.2.2
      have nx1 := nx.1
      have lb := hle x l hlt hl4
      have hv := hval x l
      have next : ∀ h5, h5 = zsI h4 (zu (zI h4) 143 (4 * num x + l) (val x l)) → wp (self2 (nI (l + 1), h5)) (fun y => y.1 = nI 0 ∧ zfr [143] h y.2 ∧ cvT n le Q y.2) := by
        intro h5 e5
        rw [e5]
        refine ih2 _ hl4 ⟨rfl, p4.same zfr_uI, fun v hv l' hl' => ?_, fun l' hl' => ?_⟩
        · dsimp only [zI_zsI]
          have hne : num v ≠ num x := fun z => by have := ninj v x (by omega) hlt z; omega
          rw [zu_at, if_neg (by omega)]
          exact q4 v hv l' hl'
        · dsimp only [zI_zsI]
          rw [zu_at]
          by_cases e : l' = l
          · rw [e, if_pos rfl]
          · rw [if_neg (by omega)]
            exact r4 l' (by omega)
      by_cases hz : le x l = 0
      · rw [if_pos hz] at v5 hv
        simp (disch := omega) only [Nat.not_le.mpr hl4, v5, v6, SR (hs4), zl_eq, bsm, ZS, ZT, ZN, ZU, eq_self, true_and, and_true, and_self, or_true, true_or, or_false, false_or, not_true, not_false_eq_true, Nat.reduceAdd, Nat.reduceMul, Nat.reduceLT, Nat.reduceLeDiff, Nat.reduceEqDiff, ↓reduceIte, ZQ, Bool.true_eq_false, Bool.false_eq_true, Bool.not_true, Bool.not_false]
        exact next _ (by rw [hv])
      · rw [if_neg hz] at v5 hv
        have v7 : zI h4 142 (le x l - 1) = nI (num (le x l - 1)) := by rw [p4.I (by decide)]; exact (nf _ (by omega)).2.2
        simp (disch := omega) only [Nat.not_le.mpr hl4, v5, v6, v7, SR (hs4), zl_eq, bsm, ZS, ZT, ZN, ZU, eq_self, true_and, and_true, and_self, or_true, true_or, or_false, false_or, not_true, not_false_eq_true, Nat.reduceAdd, Nat.reduceMul, Nat.reduceLT, Nat.reduceLeDiff, Nat.reduceEqDiff, ↓reduceIte, ZQ, Bool.true_eq_false, Bool.false_eq_true, Bool.not_true, Bool.not_false]
        exact next _ (by rw [hv])
    · have : l = 4 := by omega
      subst this
      simp (disch := omega) only [Nat.le_refl, SR (hs4), zl_eq, bsm, ZS, ZT, ZN, ZU, eq_self, true_and, and_true, and_self, or_true, true_or, or_false, false_or, not_true, not_false_eq_true, Nat.reduceAdd, Nat.reduceMul, Nat.reduceLT, Nat.reduceLeDiff, Nat.reduceEqDiff, ↓reduceIte, ZQ, Bool.true_eq_false, Bool.false_eq_true, Bool.not_true, Bool.not_false]
      refine ih _ hlt ⟨rfl, p4, fun v hv l hl => ?_⟩
      by_cases e : v = x
      · rw [e]; exact r4 l hl
      · exact q4 v (by omega) l hl
  · have : x = n := by omega
    subst this
    simp (disch := omega) only [v3, Nat.le_refl, SR (hs3), zl_eq, bsm, ZS, ZT, ZN, ZU, eq_self, true_and, and_true, and_self, or_true, true_or, or_false, false_or, not_true, not_false_eq_true, Nat.reduceAdd, Nat.reduceMul, Nat.reduceLT, Nat.reduceLeDiff, Nat.reduceEqDiff, ↓reduceIte, ZQ, Bool.true_eq_false, Bool.false_eq_true, Bool.not_true, Bool.not_false]
    refine wp_some ⟨rfl, p3, fun i hi l hl => ?_⟩
    have iq : i < Q.length := by
      apply Classical.byContradiction
      intro z
      have hsur : ∀ v, v < x → num v < Q.length := fun v hv => (nf v hv).1
      have := len_lt (L := (List.range x).map (fun v => num v + 1)) (N := Q.length + 1) (by
        rw [List.nodup_iff_pairwise_ne, List.pairwise_map]
        refine List.Pairwise.imp_of_mem ?_ List.nodup_range
        intro a b ha hb hab e
        exact hab (ninj a b (List.mem_range.mp ha) (List.mem_range.mp hb) (by omega))) (by
        intro m
        obtain ⟨v, -, e⟩ := List.mem_map.mp m
        omega) (by
        intro y hy
        obtain ⟨v, hv, e⟩ := List.mem_map.mp hy
        have := hsur v (List.mem_range.mp hv)
        omega) (by omega)
      rw [List.length_map, List.length_range] at this
      omega
    have b := hQ _ (getD_mem iq)
    have en : num (Q.getD i 0 - 1) = i := by rw [hnum, show Q.getD i 0 - 1 + 1 = Q.getD i 0 by omega]; exact pos_at nd iq
    have := q3 (Q.getD i 0 - 1) (by omega) l hl
    rw [en, hval] at this
    rw [this]
    by_cases hz : le (Q.getD i 0 - 1) l = 0
    · rw [if_pos hz, if_pos hz]
    · rw [if_neg hz, if_neg hz, hnum, show le (Q.getD i 0 - 1) l - 1 + 1 = le (Q.getD i 0 - 1) l by omega]
end FCT
