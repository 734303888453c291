/-! MEMORY: one letter more, in the reference -/
section MRR
variable {h : ZH} {n : Nat} {le : Nat → Nat → Nat} {Q : List Nat}
theorem roundM {self : Int32 × ZH → Option (Int32 × ZH)} {x3 : Int32} {P : Int32 × ZH → Prop} (hs : Sh h) (g : seI 0 Q h) (ok : okL Q) (h8 : n ≤ 8) (v30 : zI h 117 30 = nI n) (lr : leR n le h) (hle : ∀ v l, v < n → l < 4 → le v l ≤ n)
    (K : ∀ h' Q', zfr [117, 135, 136, 137] h h' → (∀ k, k ≠ 28 → zI h' 117 k = zI h 117 k) → seI 0 Q' h' → okL Q' → (∀ S, S ∈ Q' ↔ S ≠ 0 ∧ ∃ R l, R ∈ Q ∧ l < 4 ∧ S = stF n le R l) → wp (self (x3 + nI 1, h')) P) : wp (zloop (lX11_memory_68 self 117 x3 (nI Q.length)) zfu (nI 0, h)) P := by
  have ln := ok.len
  refine wloop (fun i y => y.1 = nI i ∧ zfr [135] h y.2 ∧ ∀ j, j < i → zI y.2 135 j = nI (Q.getD j 0)) Q.length (fun i y self1 hi hy ih => ?_) (show Q.length < 100000 by omega) ⟨rfl, zfr.refl h, fun j hj => by omega⟩
  obtain ⟨y, h1⟩ := y
  obtain ⟨rfl, p1, q1⟩ := hy
  dsimp only at p1 q1
  have hs1 := p1.shp hs
  show wp (kX11_memory_68 self 117 x3 (nI Q.length) self1 (nI i) h1) _
  unfold kX11_memory_68
  by_cases hlt : i < Q.length
  · have v := g.2.1 i hlt
    rw [Nat.sub_zero] at v
    have v' : zI h1 137 i = nI (Q.getD i 0) := by rw [p1.I (by decide)]; exact v
    simp (disch := omega) only [Nat.not_le.mpr hlt, v', SR (hs1), zl_eq, bsm, ZS, ZT, ZN, ZU, eq_self, true_and, and_true, and_self, or_true, true_or, or_false, false_or, not_true, not_false_eq_true, Nat.reduceAdd, Nat.reduceMul, Nat.reduceLT, Nat.reduceLeDiff, Nat.reduceEqDiff, ↓reduceIte, ZQ, Bool.true_eq_false, Bool.false_eq_true, Bool.not_true, Bool.not_false]
    refine ih _ hlt ⟨rfl, p1.same zfr_uI, fun j hj => ?_⟩
    dsimp only [zI_zsI]
    rw [zu_at]
    by_cases e : j = i
    · rw [if_pos e, e]
    · rw [if_neg e]; exact q1 j (by omega)
  · have : i = Q.length := by omega
    subst this
    obtain ⟨h2, e2, p2, k2, s2⟩ := clearSeen_ok hs1 0
    have hs2 := p2.shp hs1
    simp (disch := omega) only [Nat.le_refl, e2, SR (hs1), zl_eq, bsm, ZS, ZT, ZN, ZU, eq_self, true_and, and_true, and_self, or_true, true_or, or_false, false_or, not_true, not_false_eq_true, Nat.reduceAdd, Nat.reduceMul, Nat.reduceLT, Nat.reduceLeDiff, Nat.reduceEqDiff, ↓reduceIte, ZQ, Bool.true_eq_false, Bool.false_eq_true, Bool.not_true, Bool.not_false]
    have pb : zfr [117, 135, 136, 137] h h2 := (p1.mono (by decide)).same (p2.mono (by decide))
    have kb : ∀ k, k ≠ 28 → zI h2 117 k = zI h 117 k := fun k hk => by rw [k2 k hk, p1.I (by decide)]
    have qb : ∀ j, j < Q.length → zI h2 135 j = nI (Q.getD j 0) := fun j hj => by rw [p2.I (by decide)]; exact q1 j hj
    refine wloop (fun i y => y.1 = nI i ∧ zfr [117, 135, 136, 137] h y.2 ∧ (∀ k, k ≠ 28 → zI y.2 117 k = zI h 117 k) ∧ (∀ j, j < Q.length → zI y.2 135 j = nI (Q.getD j 0)) ∧ ∃ Q', seI 0 Q' y.2 ∧ okL Q' ∧ ∀ S, S ∈ Q' ↔ S ≠ 0 ∧ ∃ j l, j < i ∧ l < 4 ∧ S = stF n le (Q.getD j 0) l) Q.length (fun i y self2 hi hy ih2 => ?_) (show Q.length < 100000 by omega) ⟨rfl, pb, kb, qb, [], s2, ⟨List.nodup_nil, (fun z => by cases z), (fun x z => by cases z)⟩, fun S => ⟨(fun z => by cases z), (fun z => by obtain ⟨-, j, l, hj, -⟩ := z; omega)⟩⟩
    clear pb kb qb
    obtain ⟨y, h3⟩ := y
    obtain ⟨rfl, p3, k3, q3, Q3, s3, ok3, m3⟩ := hy
    dsimp only at p3 k3 q3 s3
    have hs3 := p3.shp hs
    show wp (kX11_memory_102 self 117 x3 (nI Q.length) self2 (nI i) h3) _
    unfold kX11_memory_102
    by_cases hlt2 : i < Q.length
    · simp (disch := omega) only [Nat.not_le.mpr hlt2, SR (hs3), zl_eq, bsm, ZS, ZT, ZN, ZU, eq_self, true_and, and_true, and_self, or_true, true_or, or_false, false_or, not_true, not_false_eq_true, Nat.reduceAdd, Nat.reduceMul, Nat.reduceLT, Nat.reduceLeDiff, Nat.reduceEqDiff, ↓reduceIte, ZQ, Bool.true_eq_false, Bool.false_eq_true, Bool.not_true, Bool.not_false]
      refine wloop (fun l y => y.1 = nI l ∧ zfr [117, 135, 136, 137] h y.2 ∧ (∀ k, k ≠ 28 → zI y.2 117 k = zI h 117 k) ∧ (∀ j, j < Q.length → zI y.2 135 j = nI (Q.getD j 0)) ∧ ∃ Q', seI 0 Q' y.2 ∧ okL Q' ∧ ∀ S, S ∈ Q' ↔ S ∈ Q3 ∨ (S ≠ 0 ∧ ∃ l', l' < l ∧ S = stF n le (Q.getD i 0) l')) 4 (fun l y self3 hl hy ih3 => ?_) (by decide) ⟨rfl, p3, k3, q3, Q3, s3, ok3, fun S => ⟨Or.inl, fun z => by
        rcases z with z | ⟨-, l', hl', -⟩
        · exact z
        · omega⟩⟩
      obtain ⟨y, h4⟩ := y
      obtain ⟨rfl, p4, k4, q4, Q4, s4, ok4, m4⟩ := hy
      dsimp only at p4 k4 q4 s4
      have hs4 := p4.shp hs
      show wp (kX11_memory_112 self self2 117 x3 (nI Q.length) (nI i) self3 (nI l) h4) _
      unfold kX11_memory_112 bX11_memory_144
      by_cases hl4 : l < 4
      · have v := q4 i hlt2
        have h256 := ok.2.2 _ (getD_mem hlt2)
        have el := led_ok (S := Q.getD i 0) (l := l) hs4 h8 (by rw [k4 30 (by decide)]; exact v30) (fun k hk l hl => by rw [p4.I (by decide)]; exact lr k hk l hl) hle h256 hl4
        have x256 : stF n le (Q.getD i 0) l < 256 := inN_lt h8 (stF_in hle hl4)
        by_cases hz : stF n le (Q.getD i 0) l = 0
        · simp (disch := omega) only [Nat.not_le.mpr hl4, v, el, eq_true hz, SR (hs4), zl_eq, bsm, ZS, ZT, ZN, ZU, eq_self, true_and, and_true, and_self, or_true, true_or, or_false, false_or, not_true, not_false_eq_true, Nat.reduceAdd, Nat.reduceMul, Nat.reduceLT, Nat.reduceLeDiff, Nat.reduceEqDiff, ↓reduceIte, ZQ, Bool.true_eq_false, Bool.false_eq_true, Bool.not_true, Bool.not_false]
          refine ih3 _ hl4 ⟨rfl, p4, k4, q4, Q4, s4, ok4, fun S => ?_⟩
          rw [m4]
          constructor
          · rintro (z | ⟨a, l', b, c⟩)
            · exact Or.inl z
            · exact Or.inr ⟨a, l', by omega, c⟩
          · rintro (z | ⟨a, l', b, c⟩)
            · exact Or.inl z
            · by_cases e : l' = l
              · rw [e, hz] at c; exact absurd c a
              · exact Or.inr ⟨a, l', by omega, c⟩
        · obtain ⟨h5, Q5, e5, p5, k5, s5, ok5, m5⟩ := see_any hs4 s4 ok4 x256 hz
          simp (disch := omega) only [Nat.not_le.mpr hl4, v, el, eq_false hz, e5, SR (hs4), zl_eq, bsm, ZS, ZT, ZN, ZU, eq_self, true_and, and_true, and_self, or_true, true_or, or_false, false_or, not_true, not_false_eq_true, Nat.reduceAdd, Nat.reduceMul, Nat.reduceLT, Nat.reduceLeDiff, Nat.reduceEqDiff, ↓reduceIte, ZQ, Bool.true_eq_false, Bool.false_eq_true, Bool.not_true, Bool.not_false]
          refine ih3 _ hl4 ⟨rfl, p4.same (p5.mono (by decide)), fun k hk => by rw [k5 k hk, k4 k hk], fun j hj => by rw [p5.I (by decide)]; exact q4 j hj, Q5, s5, ok5, fun S => ?_⟩
          rw [m5, m4]
          constructor
          · rintro ((z | ⟨a, l', b, c⟩) | z)
            · exact Or.inl z
            · exact Or.inr ⟨a, l', by omega, c⟩
            · exact Or.inr ⟨by rw [z]; exact hz, l, by omega, z⟩
          · rintro (z | ⟨a, l', b, c⟩)
            · exact Or.inl (Or.inl z)
            · by_cases e : l' = l
              · rw [e] at c; exact Or.inr c
              · exact Or.inl (Or.inr ⟨a, l', by omega, c⟩)
      · have : l = 4 := by omega
        subst this
        simp (disch := omega) only [Nat.le_refl, SR (hs4), zl_eq, bsm, ZS, ZT, ZN, ZU, eq_self, true_and, and_true, and_self, or_true, true_or, or_false, false_or, not_true, not_false_eq_true, Nat.reduceAdd, Nat.reduceMul, Nat.reduceLT, Nat.reduceLeDiff, Nat.reduceEqDiff, ↓reduceIte, ZQ, Bool.true_eq_false, Bool.false_eq_true, Bool.not_true, Bool.not_false]
        refine ih2 _ hlt2 ⟨rfl, p4, k4, q4, Q4, s4, ok4, fun S => ?_⟩
        rw [m4, m3]
        constructor
        · rintro (⟨a, j, l, b, c, d⟩ | ⟨a, l, b, c⟩)
          · exact ⟨a, j, l, by omega, c, d⟩
          · exact ⟨a, i, l, by omega, b, c⟩
        · rintro ⟨a, j, l, b, c, d⟩
          by_cases e : j = i
          · rw [e] at d; exact Or.inr ⟨a, l, c, d⟩
          · exact Or.inl ⟨a, j, l, by omega, c, d⟩
    · have : i = Q.length := by omega
      subst this
      simp (disch := omega) only [Nat.le_refl, SR (hs3), zl_eq, bsm, ZS, ZT, ZN, ZU, eq_self, true_and, and_true, and_self, or_true, true_or, or_false, false_or, not_true, not_false_eq_true, Nat.reduceAdd, Nat.reduceMul, Nat.reduceLT, Nat.reduceLeDiff, Nat.reduceEqDiff, ↓reduceIte, ZQ, Bool.true_eq_false, Bool.false_eq_true, Bool.not_true, Bool.not_false]
      refine K h3 Q3 p3 k3 s3 ok3 (fun S => ?_)
      rw [m3]
      constructor
      · rintro ⟨a, j, l, b, c, d⟩
        exact ⟨a, _, l, getD_mem b, c, d⟩
      · rintro ⟨a, R, l, b, c, d⟩
        obtain ⟨j, j1, j2⟩ := mem_getD b
        exact ⟨a, j, l, j1, c, by rw [j2]; exact d⟩
end MRR
