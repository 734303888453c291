/-! CALLS: essential, isIrreducible; what irreducible means -/
theorem cnt_ge_up {f : Nat → Nat} (hf : ∀ T, T < 256 → sb T (f T) ∧ f T < 256) {S : Nat} (hS : S < 256) (j : Nat) (hne : ∀ i, i < j → itr f (i + 1) S ≠ itr f i S) : itr f j S < 256 ∧ j ≤ cnt (fun k => (itr f j S).testBit k) 8 := by
  induction j with
  | zero => exact ⟨hS, Nat.zero_le _⟩
  | succ j ih =>
    obtain ⟨h1, h2⟩ := ih (fun i hi => hne i (by omega))
    obtain ⟨h3, h4⟩ := hf _ h1
    refine ⟨h4, ?_⟩
    have hx : ∃ i, (itr f (j + 1) S).testBit i = true ∧ (itr f j S).testBit i = false := by
      apply Classical.byContradiction
      intro hno
      apply hne j (by omega)
      refine sb_eq (fun i hi => ?_) h3
      cases hb : (itr f j S).testBit i
      · exact absurd ⟨i, hi, hb⟩ hno
      · rfl
    obtain ⟨i, i1, i2⟩ := hx
    have := cnt_lt (p := fun k => (itr f (j + 1) S).testBit k) (q := fun k => (itr f j S).testBit k) (n := 8) (fun k _ hk => h3 k hk) (tb8 h4 i1) i1 i2
    omega
theorem grow_fix {f : Nat → Nat} (hf : ∀ T, T < 256 → sb T (f T) ∧ f T < 256) {S : Nat} (hS : S < 256) : f (itr f 8 S) = itr f 8 S := by
  have hex : ∃ m, itr f (m + 1) S = itr f m S := by
    apply Classical.byContradiction
    intro hno
    have h1 := (cnt_ge_up hf hS 9 (fun i _ h => hno ⟨i, h⟩)).2
    have h2 := cnt_le (fun k => (itr f 9 S).testBit k) 8
    omega
  obtain ⟨m, hm, hmin⟩ := pk_least (fun m => itr f (m + 1) S = itr f m S) hex
  have h1 := (cnt_ge_up hf hS m hmin).2
  have h2 := cnt_le (fun k => (itr f m S).testBit k) 8
  have e8 := itr_end (n := 8) hm (by omega)
  show itr f 9 S = itr f 8 S
  rw [e8, itr_end (n := 9) hm (by omega)]
section IR
variable {M : Nat → Nat}
theorem faC_lt (hM : ∀ j, j < 32 → M j < 256) (S : Nat) : fa M S < 256 := orf_lt (b := 8) (fun k hk => orf_lt (b := 8) (fun l hl => hM _ (by omega)))
theorem faE_lt (S : Nat) : fa (coreM M) S < 256 := sb_lt (fa_core_sb S) (ess_lt M)
theorem rFc_lt {S : Nat} (hS : S < 256) (k : Nat) : rF (coreM M) k S < 256 := by
  induction k with
  | zero => exact hS
  | succ k ih => exact Nat.or_lt_two_pow (n := 8) ih (faE_lt _)
theorem rFc_sb {S : Nat} (hS : sb S (ess M)) (k : Nat) : sb (rF (coreM M) k S) (ess M) := by
  induction k with
  | zero => exact hS
  | succ k ih =>
    intro i hi
    rcases or_bit.mp hi with h | h
    · exact ih i h
    · exact fa_core_sb _ i h
theorem rF_up {S : Nat} (k : Nat) : sb S (rF M k S) := by
  induction k with
  | zero => exact sb_rfl S
  | succ k ih => exact fun i hi => or_bit.mpr (Or.inl (ih i hi))
theorem rF_min {S T : Nat} (hT : sb (fa M T) T) (hS : sb S T) (k : Nat) : sb (rF M k S) T := by
  induction k with
  | zero => exact hS
  | succ k ih =>
    intro i hi
    rcases or_bit.mp hi with h | h
    · exact ih i h
    · exact hT i (fa_mono ih i h)
theorem rF_cl {S : Nat} (hS : S < 256) : sb (fa (coreM M) (rF (coreM M) 8 S)) (rF (coreM M) 8 S) := by
  have h := grow_fix (f := fun R => R ||| fa (coreM M) R) (fun T hT => ⟨fun i hi => or_bit.mpr (Or.inl hi), Nat.or_lt_two_pow (n := 8) hT (faE_lt _)⟩) hS
  intro i hi
  have : (rF (coreM M) 8 S ||| fa (coreM M) (rF (coreM M) 8 S)).testBit i = true := or_bit.mpr (Or.inr hi)
  have h' : rF (coreM M) 8 S ||| fa (coreM M) (rF (coreM M) 8 S) = rF (coreM M) 8 S := h
  rw [h'] at this
  exact this
theorem rB_cl {S : Nat} (hS : S < 256) : sb (vi (coreM M) (rB (coreM M) 8 S)) (rB (coreM M) 8 S) := by
  have h := grow_fix (f := fun R => R ||| vi (coreM M) R) (fun T hT => ⟨fun i hi => or_bit.mpr (Or.inl hi), Nat.or_lt_two_pow (n := 8) hT (vi_lt _ _)⟩) hS
  intro i hi
  have : (rB (coreM M) 8 S ||| vi (coreM M) (rB (coreM M) 8 S)).testBit i = true := or_bit.mpr (Or.inr hi)
  have h' : rB (coreM M) 8 S ||| vi (coreM M) (rB (coreM M) 8 S) = rB (coreM M) 8 S := h
  rw [h'] at this
  exact this
theorem rB_up {S : Nat} (k : Nat) : sb S (rB M k S) := by
  induction k with
  | zero => exact sb_rfl S
  | succ k ih => exact fun i hi => or_bit.mpr (Or.inl (ih i hi))
theorem rB_sb {S : Nat} (hS : sb S (ess M)) (k : Nat) : sb (rB (coreM M) k S) (ess M) := by
  induction k with
  | zero => exact hS
  | succ k ih =>
    intro i hi
    rcases or_bit.mp hi with h | h
    · exact ih i h
    · obtain ⟨h1, x, h2, l, hl, h3⟩ := vi_bit.mp h
      exact ((coreM_bit hl).mp h3).1
theorem rW_rF {S : Nat} (hS : sb S (ess M)) (k : Nat) : rW M k S = rF (coreM M) k S := by
  induction k with
  | zero => rfl
  | succ k ih =>
    show rW M k S ||| (fa M (rW M k S) &&& ess M) = rF (coreM M) k S ||| fa (coreM M) (rF (coreM M) k S)
    rw [ih, fa_core (rFc_sb hS k)]
theorem sb_pow {a S : Nat} (h : S.testBit a = true) : sb (2 ^ a) S := fun i hi => by rw [← pow_bit.mp hi]; exact h
theorem lob_bit : ∀ S, S < 256 → S ≠ 0 → lob S = 2 ^ (Nat.log2 (lob S)) ∧ S.testBit (Nat.log2 (lob S)) = true ∧ Nat.log2 (lob S) < 8 := by decide +kernel
/-- each essential vertex leads to all -/
def allB (M : Nat → Nat) : Prop := ess M ≠ 0 ∧ ∀ v, (ess M).testBit v = true → rF (coreM M) 8 (2 ^ v) = ess M
theorem wh_iff : wh M = true ↔ allB M := by
  unfold wh allB
  rw [Bool.and_eq_true, whA_iff]
  constructor
  · rintro ⟨h1, h2⟩
    refine ⟨by simpa using h1, fun v hv => ?_⟩
    rw [← rW_rF (sb_pow hv)]
    exact h2 v (tb8 (ess_lt M) hv) hv
  · rintro ⟨h1, h2⟩
    refine ⟨by simpa using h1, fun v _ hv => ?_⟩
    rw [rW_rF (sb_pow hv)]
    exact h2 v hv
theorem sc_iff : scB (coreM M) = true ↔ allB M := by
  unfold scB
  rw [ess_core, Bool.and_eq_true, Bool.and_eq_true, decide_eq_true_iff, decide_eq_true_iff]
  have hE := ess_lt M
  constructor
  · rintro ⟨⟨h0, h1⟩, h2⟩
    have hne : ess M ≠ 0 := by simpa using h0
    refine ⟨hne, fun v hv => ?_⟩
    obtain ⟨e, ha, ha8⟩ := lob_bit _ hE hne
    generalize Nat.log2 (lob (ess M)) = a at e ha ha8
    rw [e] at h1 h2
    have key : ∀ k x T, sb (fa (coreM M) T) T → (rB (coreM M) k (2 ^ a)).testBit x = true → T.testBit x = true → T.testBit a = true := by
      intro k
      induction k with
      | zero => intro x T _ hx hT; rw [pow_bit.mp hx]; exact hT
      | succ k ih =>
        intro x T hcl hx hT
        rcases or_bit.mp hx with h | h
        · exact ih x T hcl h hT
        · obtain ⟨x1, y, y1, l, hl, y2⟩ := vi_bit.mp h
          exact ih y T hcl y1 (hcl y (fa_bit.mpr ⟨x, x1, hT, l, hl, y2⟩))
    have hcl := rF_cl (M := M) (p8 (tb8 hE hv))
    have haT := key 8 v _ hcl (by rw [h2]; exact hv) (rF_up 8 v (pow_bit.mpr rfl))
    refine sb_eq (rFc_sb (sb_pow hv) 8) ?_
    have := rF_min hcl (sb_pow haT) 8
    rw [h1] at this
    exact this
  · rintro ⟨hne, hall⟩
    obtain ⟨e, ha, ha8⟩ := lob_bit _ hE hne
    generalize Nat.log2 (lob (ess M)) = a at e ha ha8
    rw [e]
    refine ⟨⟨by simpa using hne, hall a ha⟩, sb_eq (rB_sb (sb_pow ha) 8) ?_⟩
    intro v hv
    have hcl := rB_cl (M := M) (p8 ha8)
    have key : ∀ k x, (rF (coreM M) k (2 ^ v)).testBit x = true → (rB (coreM M) 8 (2 ^ a)).testBit x = true → (rB (coreM M) 8 (2 ^ a)).testBit v = true := by
      intro k
      induction k with
      | zero => intro x hx hB; rw [pow_bit.mp hx]; exact hB
      | succ k ih =>
        intro x hx hB
        rcases or_bit.mp hx with h | h
        · exact ih x h hB
        · obtain ⟨y, y1, y2, l, hl, y3⟩ := fa_bit.mp h
          exact ih y y2 (hcl y (vi_bit.mpr ⟨y1, x, hB, l, hl, y3⟩))
    exact key 8 a (by rw [hall v hv]; exact ha) (rB_up 8 a (pow_bit.mpr rfl))
theorem sc_wh : scB (coreM M) = wh M := by
  cases h1 : scB (coreM M) <;> cases h2 : wh M
  · rfl
  · rw [sc_iff.mpr (wh_iff.mp h2)] at h1; cases h1
  · rw [wh_iff.mpr (sc_iff.mp h1)] at h2; cases h2
  · rfl
end IR
/-- the essential part of a slot's graph, as the object copies it -/
theorem trim_ok {h : ZH} {G : Nat → Nat → Nat} {n : Nat} {c : Nat → Nat} (hI : INVg G n c h) {s : Nat} (h6 : s < 6) : ∃ h', fX1_copyCoreOf 33 (81 + 4 * s) h = some h' ∧ zfr [34] h h' ∧ hasM h' 34 (coreM (G s)) :=
  copyCoreOf_ok (g33 hI.1) (gS hI.1 h6) (by omega) (hI.2.1.m h6)
theorem fq34 {h h' : ZH} (p : zfr [34] h h') : fq h h' := fq.of p (by decide) (by decide)
theorem c_essential (a1 : Int32) : Ok2 (fX10_essential 0 a1) (fX11_essential 117 a1) := by
  refine Ok2.of (fun h G n c hI => ?_)
  have hs := hI.1
  have hG := hI.2.1
  rcases cSlot a1 with b | ⟨s, h6, rfl⟩
  · refine Ok2.same hI (r := -2) ?_ ?_
    · simp (disch := omega) only [fX10_essential, bX10_essential_21, fun q => (b q).1, SC (hs), zl_eq, bsm, ZS, ZT, ZN, ZU, eq_self, true_and, and_true, and_self, or_true, true_or, or_false, false_or, not_true, not_false_eq_true, Nat.reduceAdd, Nat.reduceMul, Nat.reduceLT, Nat.reduceLeDiff, Nat.reduceEqDiff, ↓reduceIte, ZQ, Bool.true_eq_false, Bool.false_eq_true, Bool.not_true, Bool.not_false]
    · simp (disch := omega) only [fX11_essential, bX11_essential_17, fun q => (b q).2, SR (hs), zl_eq, bsm, ZS, ZT, ZN, ZU, eq_self, true_and, and_true, and_self, or_true, true_or, or_false, false_or, not_true, not_false_eq_true, Nat.reduceAdd, Nat.reduceMul, Nat.reduceLT, Nat.reduceLeDiff, Nat.reduceEqDiff, ↓reduceIte, ZQ, Bool.true_eq_false, Bool.false_eq_true, Bool.not_true, Bool.not_false]
  refine Ok2.same hI (r := nI (ess (G s))) ?_ ?_
  · simp (disch := omega) only [fX10_essential, bX10_essential_21, core_ok (gS hs h6) (hG.m h6), SC (hs), zl_eq, bsm, ZS, ZT, ZN, ZU, eq_self, true_and, and_true, and_self, or_true, true_or, or_false, false_or, not_true, not_false_eq_true, Nat.reduceAdd, Nat.reduceMul, Nat.reduceLT, Nat.reduceLeDiff, Nat.reduceEqDiff, ↓reduceIte, ZQ, Bool.true_eq_false, Bool.false_eq_true, Bool.not_true, Bool.not_false]
  · simp (disch := omega) only [fX11_essential, bX11_essential_17, essentialOf_ok hs hG.rr h6, SR (hs), zl_eq, bsm, ZS, ZT, ZN, ZU, eq_self, true_and, and_true, and_self, or_true, true_or, or_false, false_or, not_true, not_false_eq_true, Nat.reduceAdd, Nat.reduceMul, Nat.reduceLT, Nat.reduceLeDiff, Nat.reduceEqDiff, ↓reduceIte, ZQ, Bool.true_eq_false, Bool.false_eq_true, Bool.not_true, Bool.not_false]
theorem c_isIrreducible (a1 : Int32) : Ok2 (fX10_isIrreducible 0 a1) (fX11_isIrreducible 117 a1) := by
  refine Ok2.of (fun h G n c hI => ?_)
  have hs := hI.1
  have hG := hI.2.1
  rcases cSlot a1 with b | ⟨s, h6, rfl⟩
  · refine Ok2.same hI (r := -2) ?_ ?_
    · simp (disch := omega) only [fX10_isIrreducible, fun q => (b q).1, SC (hs), zl_eq, bsm, ZS, ZT, ZN, ZU, eq_self, true_and, and_true, and_self, or_true, true_or, or_false, false_or, not_true, not_false_eq_true, Nat.reduceAdd, Nat.reduceMul, Nat.reduceLT, Nat.reduceLeDiff, Nat.reduceEqDiff, ↓reduceIte, ZQ, Bool.true_eq_false, Bool.false_eq_true, Bool.not_true, Bool.not_false]
    · simp (disch := omega) only [fX11_isIrreducible, bX11_isIrreducible_25, fun q => (b q).2, SR (hs), zl_eq, bsm, ZS, ZT, ZN, ZU, eq_self, true_and, and_true, and_self, or_true, true_or, or_false, false_or, not_true, not_false_eq_true, Nat.reduceAdd, Nat.reduceMul, Nat.reduceLT, Nat.reduceLeDiff, Nat.reduceEqDiff, ↓reduceIte, ZQ, Bool.true_eq_false, Bool.false_eq_true, Bool.not_true, Bool.not_false]
  obtain ⟨h1, e1, p1, q1⟩ := trim_ok hI h6
  have g1 := hI.fr (fq34 p1)
  have e2 : fX1_isStronglyConnected 33 h1 = some (nI (wh (G s)).toNat, h1) := by rw [stronglyConnected_ok (g33 g1.1) q1, sc_wh]
  have e3 := isWhole_ok g1.1 g1.2.1.rr h6
  refine ⟨nI (wh (G s)).toNat, (nI (wh (G s)).toNat, h1), ?_, rfl, wp_eq (a := (nI (wh (G s)).toNat, h1)) ?_ ⟨rfl, G, n, c, g1⟩⟩
  · unfold fX10_isIrreducible bX10_isIrreducible_38
    simp (disch := omega) only [e1, SC (hs), zl_eq, bsm, ZS, ZT, ZN, ZU, eq_self, true_and, and_true, and_self, or_true, true_or, or_false, false_or, not_true, not_false_eq_true, Nat.reduceAdd, Nat.reduceMul, Nat.reduceLT, Nat.reduceLeDiff, Nat.reduceEqDiff, ↓reduceIte, ZQ, Bool.true_eq_false, Bool.false_eq_true, Bool.not_true, Bool.not_false]
    simp (disch := omega) only [e2, SC (g1.1), zl_eq, bsm, ZS, ZT, ZN, ZU, eq_self, true_and, and_true, and_self, or_true, true_or, or_false, false_or, not_true, not_false_eq_true, Nat.reduceAdd, Nat.reduceMul, Nat.reduceLT, Nat.reduceLeDiff, Nat.reduceEqDiff, ↓reduceIte, ZQ, Bool.true_eq_false, Bool.false_eq_true, Bool.not_true, Bool.not_false]
    cases wh (G s) <;> rfl
  · unfold fX11_isIrreducible bX11_isIrreducible_25
    simp (disch := omega) only [e3, SR (g1.1), zl_eq, bsm, ZS, ZT, ZN, ZU, eq_self, true_and, and_true, and_self, or_true, true_or, or_false, false_or, not_true, not_false_eq_true, Nat.reduceAdd, Nat.reduceMul, Nat.reduceLT, Nat.reduceLeDiff, Nat.reduceEqDiff, ↓reduceIte, ZQ, Bool.true_eq_false, Bool.false_eq_true, Bool.not_true, Bool.not_false]
    cases wh (G s) <;> rfl
