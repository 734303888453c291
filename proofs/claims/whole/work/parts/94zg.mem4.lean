/-! MEMORY: the reference, whole -/
theorem memRef {h : ZH} {n : Nat} {le : Nat → Nat → Nat} {Q0 : List Nat} (hs : Sh h) (h8 : n ≤ 8) (v30 : zI h 117 30 = nI n) (lr : leR n le h) (hle : ∀ v l, v < n → l < 4 → le v l ≤ n) (g0 : seI 0 Q0 h) (ok0 : okL Q0) (m0 : ∀ S, S ∈ Q0 ↔ sfm n le 0 S) : wp (zloop (lX11_memory_40 117) zfu (nI 0, h)) (fun y => zfr [117, 135, 136, 137] h y.2 ∧ (∀ k, k ≠ 28 → zI y.2 117 k = zI h 117 k) ∧ ((∃ m, m ≤ 30 ∧ y.1 = nI m ∧ (¬ ∃ x y, apt n le m x y) ∧ ∀ m', m' < m → ∃ x y, apt n le m' x y) ∨ (y.1 = -1 ∧ ∀ m, m ≤ 30 → ∃ x y, apt n le m x y))) := by
  refine wloop (fun m y => y.1 = nI m ∧ zfr [117, 135, 136, 137] h y.2 ∧ (∀ k, k ≠ 28 → zI y.2 117 k = zI h 117 k) ∧ (∃ Q, seI 0 Q y.2 ∧ okL Q ∧ ∀ S, S ∈ Q ↔ sfm n le m S) ∧ ∀ m', m' < m → ∃ x y, apt n le m' x y) 31 (fun m y self hm hy ih => ?_) (by decide) ⟨rfl, zfr.refl h, fun _ _ => rfl, ⟨Q0, g0, ok0, m0⟩, fun m' hm' => by omega⟩
  obtain ⟨y, h1⟩ := y
  obtain ⟨rfl, p1, k1, ⟨Q, g1, ok, mq⟩, bef⟩ := hy
  dsimp only at p1 k1 g1
  have hs1 := p1.shp hs
  have v28 := g1.1
  obtain ⟨b, eb, hb⟩ := isSingle_ok hs1 g1 ok
  show wp (kX11_memory_40 117 self (nI m) h1) _
  unfold kX11_memory_40
  by_cases h30 : m ≤ 30
  · have none : b = true → ¬ ∃ x y, apt n le m x y := by
      rintro z ⟨x, y, a⟩
      have lt := apt_lt hle a
      obtain ⟨ne, S, s1, s2, s3⟩ := (apt_sf hle).mp a
      have hS := (mq S).mpr s1
      exact ne ((und_one S (ok.2.2 S hS)).mp (hb.mp z S hS) x (by omega) y (by omega) s2 s3)
    have some1 : b = false → ∃ x y, apt n le m x y := by
      intro z
      apply Classical.byContradiction
      intro q
      have : b = true := hb.mpr (fun S hS => (und_one S (ok.2.2 S hS)).mpr (fun x _ y _ a c => Classical.byContradiction (fun ne => q ⟨x, y, (apt_sf hle).mpr ⟨ne, S, (mq S).mp hS, a, c⟩⟩)))
      rw [z] at this
      cases this
    have h30' : ¬ (30 < m) := by omega
    cases hbb : b with
    | true =>
      rw [hbb, Bool.toNat_true] at eb
      simp (disch := omega) only [eq_false h30', v28, eb, SR (hs1), zl_eq, bsm, ZS, ZT, ZN, ZU, eq_self, true_and, and_true, and_self, or_true, true_or, or_false, false_or, not_true, not_false_eq_true, Nat.reduceAdd, Nat.reduceMul, Nat.reduceLT, Nat.reduceLeDiff, Nat.reduceEqDiff, ↓reduceIte, ZQ, Bool.true_eq_false, Bool.false_eq_true, Bool.not_true, Bool.not_false]
      exact wp_some ⟨p1, k1, Or.inl ⟨m, h30, rfl, none hbb, bef⟩⟩
    | false =>
      rw [hbb, Bool.toNat_false] at eb
      simp (disch := omega) only [eq_false h30', v28, eb, SR (hs1), zl_eq, bsm, ZS, ZT, ZN, ZU, eq_self, true_and, and_true, and_self, or_true, true_or, or_false, false_or, not_true, not_false_eq_true, Nat.reduceAdd, Nat.reduceMul, Nat.reduceLT, Nat.reduceLeDiff, Nat.reduceEqDiff, ↓reduceIte, ZQ, Bool.true_eq_false, Bool.false_eq_true, Bool.not_true, Bool.not_false]
      refine roundM hs1 g1 ok h8 (by rw [k1 30 (by decide)]; exact v30) (fun k hk l hl => by rw [p1.I (by decide)]; exact lr k hk l hl) hle (fun h2 Q2 p2 k2 g2 ok2 m2 => ?_)
      rw [ZN.1]
      refine ih _ (by omega) ⟨rfl, p1.same p2, fun k hk => by rw [k2 k hk, k1 k hk], ⟨Q2, g2, ok2, fun S => ?_⟩, fun m' hm' => ?_⟩
      · rw [m2]
        constructor
        · rintro ⟨a, R, l, r1, r2, r3⟩; exact ⟨a, R, l, r2, (mq R).mp r1, r3⟩
        · rintro ⟨a, R, l, r2, r1, r3⟩; exact ⟨a, R, l, (mq R).mpr r1, r2, r3⟩
      · by_cases e : m' = m
        · rw [e]; exact some1 hbb
        · exact bef m' (by omega)
  · have h30' : 30 < m := by omega
    simp (disch := omega) only [eq_true h30', SR (hs1), zl_eq, bsm, ZS, ZT, ZN, ZU, eq_self, true_and, and_true, and_self, or_true, true_or, or_false, false_or, not_true, not_false_eq_true, Nat.reduceAdd, Nat.reduceMul, Nat.reduceLT, Nat.reduceLeDiff, Nat.reduceEqDiff, ↓reduceIte, ZQ, Bool.true_eq_false, Bool.false_eq_true, Bool.not_true, Bool.not_false]
    exact wp_some ⟨p1, k1, Or.inr ⟨rfl, fun m' hm' => bef m' (by omega)⟩⟩
