/-! CALL: intersect, whole -/
theorem fq146 {h h' : ZH} (p : zfr [147] h h') : fq h h' := fq.of p (by decide) (by decide)
theorem midI.r {h : ZH} {G : Nat → Nat → Nat} {N : Nat → Nat} {t n : Nat} {c : Nat → Nat} (m : midI G N t n c h) : vI h 118 192 (fun j => G (j / 32) (j % 32)) := by
  intro j hj
  have := (m.2.1 (j / 32) (by omega) (j % 32) (by omega)).2.1
  rwa [show 32 * (j / 32) + j % 32 = j by omega] at this
theorem wide_call {f g : ZH → Option (Int32 × ZH)} {h : ZH} {G : Nat → Nat → Nat} {n t : Nat} {c W : Nat → Nat} (hI : INVg G n c h) (ht : t < 6)
    (kc : ∀ P : Int32 × ZH → Prop, (∀ h', zfr [74] h h' → wM h' 74 W → wp (fX10_storeWide 0 (nI t) h') P) → wp (f h) P)
    (kr : ∀ (P : Int32 × ZH → Prop) h1, Sh h1 → vI h1 118 192 (fun j => G (j / 32) (j % 32)) → (∀ h', zfr [147] h1 h' → wM h' 147 W → wp (fX11_storeWide 117 (nI t) h') P) → wp (g h1) P) :
    ∃ r, wp (f h) (fun x => x.1 = r ∧ wp (g x.2) (fun y => y.1 = r ∧ INV y.2)) := by
  by_cases hc : und (essW W) 64 ≤ 8
  · refine ⟨nI (und (essW W) 64), kc _ (fun h' p w => ?_)⟩
    rcases storeWideC (hI.fr (fq73 p)) ht w with ⟨b, -⟩ | ⟨-, h2, N, e, m, wn⟩
    · omega
    · rw [e]
      exact wp_some ⟨rfl, kr _ h2 m.1 m.r (fun h3 p3 w3 => storeWideR (m.fr (fq146 p3)) ht w3 hc wn)⟩
  · refine ⟨-3, kc _ (fun h' p w => ?_)⟩
    have g1 := hI.fr (fq73 p)
    rcases storeWideC g1 ht w with ⟨b, e⟩ | ⟨b, -⟩
    · rw [e]
      exact wp_some ⟨rfl, kr _ h' g1.1 g1.2.1.r (fun h3 p3 w3 => storeWideR_big (g1.fr (fq146 p3)) w3 b)⟩
    · omega
theorem c_intersect (a1 a2 a3 : Int32) : Ok2 (fX10_intersect 0 a1 a2 a3) (fX11_intersect 117 a1 a2 a3) := by
  refine Ok2.of (fun h G n c hI => ?_)
  have hs := hI.1
  have hG := hI.2.1
  rcases cSlot a1 with b | ⟨s, h6, rfl⟩
  · refine Ok2.same hI (r := -2) ?_ ?_
    · simp (disch := omega) only [fX10_intersect, bX10_intersect_21, fun q => (b q).1, SC (hs), zl_eq, bsm, ZS, ZT, ZN, ZU, eq_self, true_and, and_true, and_self, or_true, true_or, or_false, false_or, not_true, not_false_eq_true, Nat.reduceAdd, Nat.reduceMul, Nat.reduceLT, Nat.reduceLeDiff, Nat.reduceEqDiff, ↓reduceIte, ZQ, Bool.true_eq_false, Bool.false_eq_true, Bool.not_true, Bool.not_false]
    · simp (disch := omega) only [fX11_intersect, bX11_intersect_21, fun q => (b q).2, SR (hs), zl_eq, bsm, ZS, ZT, ZN, ZU, eq_self, true_and, and_true, and_self, or_true, true_or, or_false, false_or, not_true, not_false_eq_true, Nat.reduceAdd, Nat.reduceMul, Nat.reduceLT, Nat.reduceLeDiff, Nat.reduceEqDiff, ↓reduceIte, ZQ, Bool.true_eq_false, Bool.false_eq_true, Bool.not_true, Bool.not_false]
  rcases cSlot a2 with b | ⟨r, hr, rfl⟩
  · refine Ok2.same hI (r := -2) ?_ ?_
    · simp (disch := omega) only [fX10_intersect, bX10_intersect_21, isSlot_ok h6, fun q => (b q).1, SC hs, ZN, bsm, eq_self, and_self, Nat.reduceEqDiff, ↓reduceIte]
    · simp (disch := omega) only [fX11_intersect, bX11_intersect_21, rSlot_ok h6, fun q => (b q).2, SR hs, ZN, bsm, eq_self, and_self, Nat.reduceEqDiff, ↓reduceIte]
  rcases cSlot a3 with b | ⟨t, ht, rfl⟩
  · refine Ok2.same hI (r := -2) ?_ ?_
    · simp (disch := omega) only [fX10_intersect, bX10_intersect_21, isSlot_ok h6, isSlot_ok hr, fun q => (b q).1, SC hs, ZN, bsm, eq_self, and_self, Nat.reduceEqDiff, ↓reduceIte]
    · simp (disch := omega) only [fX11_intersect, bX11_intersect_21, rSlot_ok h6, rSlot_ok hr, fun q => (b q).2, SR hs, ZN, bsm, eq_self, and_self, Nat.reduceEqDiff, ↓reduceIte]
  exact wide_call hI ht (fun P K => inter_c hI h6 hr ht K) (fun P h1 hs1 v1 K => inter_r hs1 v1 (fun s hs j hj => (hG s hs j hj).2.2) h6 hr ht K)
