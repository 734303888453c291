/-! CALLS: essential, isIrreducible, period -/
def rG (G : Nat → Nat → Nat) (h : ZH) : Prop := ∀ s, s < 6 → ∀ j, j < 32 → zI h 118 (32 * s + j) = nI (G s j) ∧ G s j < 256
theorem iG.rr {G : Nat → Nat → Nat} {h : ZH} (g : iG G h) : rG G h := fun s hs j hj => ⟨(g s hs j hj).2.1, (g s hs j hj).2.2⟩
theorem rG.fr {G : Nat → Nat → Nat} {h h' : ZH} {A : List Nat} (p : zfr A h h') (h1 : 118 ∉ A) (g : rG G h) : rG G h' := fun s hs j hj => by rw [p.I h1]; exact g s hs j hj
theorem orf_and {p : Nat → Bool} {f : Nat → Nat} {A n : Nat} : orf p (fun v => f v &&& A) n = orf p f n &&& A := by
  apply sb_eq
  · intro i hi
    obtain ⟨k, h1, h2, h3⟩ := orf_bit.mp hi
    obtain ⟨h4, h5⟩ := and_bit.mp h3
    exact and_bit.mpr ⟨orf_bit.mpr ⟨k, h1, h2, h4⟩, h5⟩
  · intro i hi
    obtain ⟨h4, h5⟩ := and_bit.mp hi
    obtain ⟨k, h1, h2, h3⟩ := orf_bit.mp h4
    exact orf_bit.mpr ⟨k, h1, h2, and_bit.mpr ⟨h3, h5⟩⟩
section C6
variable {h : ZH} {G : Nat → Nat → Nat} {s : Nat}
theorem toR (hs : Sh h) (g : rG G h) {v l : Nat} (h6 : s < 6) (hv : v < 8) (hl : l < 4) : fX11_to 117 (nI s) (nI v) (nI l) h = some (nI (G s (4 * v + l)), h) := by
  have := (g s h6 (4 * v + l) (by omega)).1
  rw [show 32 * s + (4 * v + l) = 32 * s + 4 * v + l by omega] at this
  simp (disch := omega) only [fX11_to, this, SR (hs), zl_eq, bsm, ZS, ZT, ZN, ZU, eq_self, true_and, and_true, and_self, or_true, true_or, or_false, false_or, not_true, not_false_eq_true, Nat.reduceAdd, Nat.reduceMul, Nat.reduceLT, Nat.reduceLeDiff, Nat.reduceEqDiff, ↓reduceIte, ZQ, Bool.true_eq_false, Bool.false_eq_true, Bool.not_true, Bool.not_false]
theorem unionOf_ok (hs : Sh h) (g : rG G h) (h6 : s < 6) {v : Nat} (hv : v < 8) : fX11_unionOf 117 (nI s) (nI v) h = some (nI (sx (G s) v), h) := by
  have e : sx (G s) v = ((G s (4 * v + 0) ||| G s (4 * v + 1)) ||| G s (4 * v + 2)) ||| G s (4 * v + 3) := by
    simp only [sx, orf, if_true, Nat.zero_or]
  simp (disch := omega) only [fX11_unionOf, toR hs g h6 hv (l := 0) (by decide), toR hs g h6 hv (l := 1) (by decide), toR hs g h6 hv (l := 2) (by decide), toR hs g h6 hv (l := 3) (by decide), SR (hs), zl_eq, bsm, ZS, ZT, ZN, ZU, eq_self, true_and, and_true, and_self, or_true, true_or, or_false, false_or, not_true, not_false_eq_true, Nat.reduceAdd, Nat.reduceMul, Nat.reduceLT, Nat.reduceLeDiff, Nat.reduceEqDiff, ↓reduceIte, ZQ, Bool.true_eq_false, Bool.false_eq_true, Bool.not_true, Bool.not_false]
  rw [e]
theorem gsx (g : rG G h) (h6 : s < 6) {v : Nat} (hv : v < 8) : sx (G s) v < 256 := orf_lt (b := 8) (fun k hk => (g s h6 _ (by omega)).2)
/-- what goes on within a set -/
def gon (M : Nat → Nat) (S n : Nat) : Nat := orf (fun v => S.testBit v && !decide (sx M v &&& S = 0)) (fun v => 2 ^ v) n
theorem gon_lt (M : Nat → Nat) (S : Nat) {n : Nat} (hn : n ≤ 8) : gon M S n < 256 := orf_lt (b := 8) (fun k hk => Nat.pow_lt_pow_right (by decide) (by omega))
theorem gon_cs (M : Nat → Nat) (S : Nat) : S &&& (fa M S &&& gon M S 8) = cs M S := by
  unfold cs
  apply sb_eq
  · intro i hi
    obtain ⟨h1, h2⟩ := and_bit.mp hi
    obtain ⟨h3, h4⟩ := and_bit.mp h2
    obtain ⟨k, k1, k2, k3⟩ := orf_bit.mp h4
    refine and_bit.mpr ⟨and_bit.mpr ⟨h1, h3⟩, orf_bit.mpr ⟨k, k1, ?_, k3⟩⟩
    exact (Bool.and_eq_true _ _ ▸ k2).2
  · intro i hi
    obtain ⟨h1, h4⟩ := and_bit.mp hi
    obtain ⟨h2, h3⟩ := and_bit.mp h1
    obtain ⟨k, k1, k2, k3⟩ := orf_bit.mp h4
    refine and_bit.mpr ⟨h2, and_bit.mpr ⟨h3, orf_bit.mpr ⟨k, k1, ?_, k3⟩⟩⟩
    rw [pow_bit] at k3
    rw [k3, h2, Bool.true_and, ← k3]
    exact k2
theorem essentialOf_ok (hs : Sh h) (g : rG G h) (h6 : s < 6) : fX11_essentialOf 117 (nI s) h = some (nI (ess (G s)), h) := by
  obtain ⟨t, h1, h2, h3⟩ := itr_stop (f := cs (G s)) (n := 8) (S := 255) (fun T _ => cs_sub (G s) T) (by decide)
  have e8 : ess (G s) = itr (cs (G s)) (t + 1) 255 := (itr_end h2 h1).trans h2.symm
  unfold fX11_essentialOf
  simp (disch := omega) only [SR (hs), zl_eq, bsm, ZS, ZT, ZN, ZU, eq_self, true_and, and_true, and_self, or_true, true_or, or_false, false_or, not_true, not_false_eq_true, Nat.reduceAdd, Nat.reduceMul, Nat.reduceLT, Nat.reduceLeDiff, Nat.reduceEqDiff, ↓reduceIte, ZQ, Bool.true_eq_false, Bool.false_eq_true, Bool.not_true, Bool.not_false]
  refine zloop_run (fun j => (nI (itr (cs (G s)) j 255), nI (if j = 0 then 0 else itr (cs (G s)) (j - 1) 255), h)) (t + 1) (fun j hj self => ?_) (fun self => ?_) (show t + 1 < 100000 by omega)
  · show kX11_essentialOf_6 117 (nI s) self (nI (itr (cs (G s)) j 255)) (nI (if j = 0 then 0 else itr (cs (G s)) (j - 1) 255)) h = _
    have hl := cs_itr_lt (G s) j
    have hne : itr (cs (G s)) j 255 ≠ (if j = 0 then 0 else itr (cs (G s)) (j - 1) 255) := by
      by_cases e : j = 0
      · subst e; rw [if_pos rfl]; exact (by decide : (255 : Nat) ≠ 0)
      · rw [if_neg e]
        have := h3 (j - 1) (by omega)
        rw [show j - 1 + 1 = j by omega] at this
        exact this
    have hl2 : (if j = 0 then 0 else itr (cs (G s)) (j - 1) 255) < 256 := by
      split
      · decide
      · exact cs_itr_lt (G s) (j - 1)
    unfold kX11_essentialOf_6
    rw [if_neg (fun q => hne ((nb_eq (by omega) (by omega)).mp q)), if_neg (by omega : ¬ j + 1 = 0), Nat.add_sub_cancel]
    generalize hS : itr (cs (G s)) j 255 = S at hl
    have eS : itr (cs (G s)) (j + 1) 255 = cs (G s) S := by rw [← hS]; rfl
    rw [eS]
    refine zloop_run (fun v => (nI (orf (fun v => S.testBit v) (sx (G s)) v), nI (gon (G s) S v), nI v, h)) 8 (fun v hv self2 => ?_) (fun self2 => ?_) (by decide)
    · show kX11_essentialOf_22 self 117 (nI s) (nI S) (nI S) self2 _ _ _ h = _
      unfold kX11_essentialOf_22 bX11_essentialOf_73 bX11_essentialOf_76
      have hx := gsx g h6 hv
      have hlt : sx (G s) v &&& S < 2 ^ 31 := Nat.lt_of_le_of_lt Nat.and_le_left (by omega)
      by_cases hb : S.testBit v = true
      · by_cases hz : sx (G s) v &&& S = 0
        · simp (disch := omega) only [Nat.not_le.mpr hv, hb, unionOf_ok hs g h6 hv, hz, gon, orf, decide_true, Bool.and_false, Nat.or_zero, SR (hs), zl_eq, bsm, ZS, ZT, ZN, ZU, eq_self, true_and, and_true, and_self, or_true, true_or, or_false, false_or, not_true, not_false_eq_true, Nat.reduceAdd, Nat.reduceMul, Nat.reduceLT, Nat.reduceLeDiff, Nat.reduceEqDiff, ↓reduceIte, ZQ, Bool.true_eq_false, Bool.false_eq_true, Bool.not_true, Bool.not_false]
        · simp (disch := omega) only [Nat.not_le.mpr hv, hb, unionOf_ok hs g h6 hv, hz, gon, orf, decide_false, Bool.and_self, SR (hs), zl_eq, bsm, ZS, ZT, ZN, ZU, eq_self, true_and, and_true, and_self, or_true, true_or, or_false, false_or, not_true, not_false_eq_true, Nat.reduceAdd, Nat.reduceMul, Nat.reduceLT, Nat.reduceLeDiff, Nat.reduceEqDiff, ↓reduceIte, ZQ, Bool.true_eq_false, Bool.false_eq_true, Bool.not_true, Bool.not_false]
      · have hb' : S.testBit v = false := by simpa using hb
        simp (disch := omega) only [Nat.not_le.mpr hv, hb', gon, orf, Bool.false_and, Nat.or_zero, SR (hs), zl_eq, bsm, ZS, ZT, ZN, ZU, eq_self, true_and, and_true, and_self, or_true, true_or, or_false, false_or, not_true, not_false_eq_true, Nat.reduceAdd, Nat.reduceMul, Nat.reduceLT, Nat.reduceLeDiff, Nat.reduceEqDiff, ↓reduceIte, ZQ, Bool.true_eq_false, Bool.false_eq_true, Bool.not_true, Bool.not_false]
    · show kX11_essentialOf_22 self 117 (nI s) (nI S) (nI S) self2 _ _ _ h = _
      unfold kX11_essentialOf_22
      rw [← gon_cs]
      simp (disch := omega) only [Nat.le_refl, SR (hs), zl_eq, bsm, ZS, ZT, ZN, ZU, eq_self, true_and, and_true, and_self, or_true, true_or, or_false, false_or, not_true, not_false_eq_true, Nat.reduceAdd, Nat.reduceMul, Nat.reduceLT, Nat.reduceLeDiff, Nat.reduceEqDiff, ↓reduceIte, ZQ, Bool.true_eq_false, Bool.false_eq_true, Bool.not_true, Bool.not_false]
      rfl
  · show kX11_essentialOf_6 117 (nI s) self (nI (itr (cs (G s)) (t + 1) 255)) (nI (if t + 1 = 0 then 0 else itr (cs (G s)) (t + 1 - 1) 255)) h = _
    unfold kX11_essentialOf_6
    rw [if_neg (by omega : ¬ t + 1 = 0), Nat.add_sub_cancel, h2, if_pos rfl, e8, h2]
theorem image_ok (hs : Sh h) (g : rG G h) (h6 : s < 6) {S l : Nat} (hS : S < 256) (hl : l < 4) : fX11_image 117 (nI s) (nI S) (nI l) h = some (nI (fo (G s) S l), h) := by
  unfold fX11_image
  simp (disch := omega) only [SR (hs), zl_eq, bsm, ZS, ZT, ZN, ZU, eq_self, true_and, and_true, and_self, or_true, true_or, or_false, false_or, not_true, not_false_eq_true, Nat.reduceAdd, Nat.reduceMul, Nat.reduceLT, Nat.reduceLeDiff, Nat.reduceEqDiff, ↓reduceIte, ZQ, Bool.true_eq_false, Bool.false_eq_true, Bool.not_true, Bool.not_false]
  refine zloop_run (fun v => (nI (orf (fun v => S.testBit v) (fun v => G s (4 * v + l)) v), nI v, h)) 8 (fun v hv self => ?_) (fun self => ?_) (by decide)
  · show kX11_image_6 117 (nI s) (nI S) (nI l) self _ _ h = _
    unfold kX11_image_6 bX11_image_37
    by_cases hb : S.testBit v = true
    · simp (disch := omega) only [Nat.not_le.mpr hv, hb, toR hs g h6 hv hl, orf, SR (hs), zl_eq, bsm, ZS, ZT, ZN, ZU, eq_self, true_and, and_true, and_self, or_true, true_or, or_false, false_or, not_true, not_false_eq_true, Nat.reduceAdd, Nat.reduceMul, Nat.reduceLT, Nat.reduceLeDiff, Nat.reduceEqDiff, ↓reduceIte, ZQ, Bool.true_eq_false, Bool.false_eq_true, Bool.not_true, Bool.not_false]
    · have hb' : S.testBit v = false := by simpa using hb
      simp (disch := omega) only [Nat.not_le.mpr hv, hb', orf, Nat.or_zero, SR (hs), zl_eq, bsm, ZS, ZT, ZN, ZU, eq_self, true_and, and_true, and_self, or_true, true_or, or_false, false_or, not_true, not_false_eq_true, Nat.reduceAdd, Nat.reduceMul, Nat.reduceLT, Nat.reduceLeDiff, Nat.reduceEqDiff, ↓reduceIte, ZQ, Bool.true_eq_false, Bool.false_eq_true, Bool.not_true, Bool.not_false]
  · show kX11_image_6 117 (nI s) (nI S) (nI l) self _ _ h = _
    unfold kX11_image_6
    simp (disch := omega) only [Nat.le_refl, SR (hs), zl_eq, bsm, ZS, ZT, ZN, ZU, eq_self, true_and, and_true, and_self, or_true, true_or, or_false, false_or, not_true, not_false_eq_true, Nat.reduceAdd, Nat.reduceMul, Nat.reduceLT, Nat.reduceLeDiff, Nat.reduceEqDiff, ↓reduceIte, ZQ, Bool.true_eq_false, Bool.false_eq_true, Bool.not_true, Bool.not_false]
    rfl
theorem step_ok (hs : Sh h) (g : rG G h) (h6 : s < 6) {S A : Nat} (hS : S < 256) : fX11_step 117 (nI s) (nI S) (nI A) h = some (nI (fa (G s) S &&& A), h) := by
  unfold fX11_step fa
  rw [← orf_and]
  simp (disch := omega) only [SR (hs), zl_eq, bsm, ZS, ZT, ZN, ZU, eq_self, true_and, and_true, and_self, or_true, true_or, or_false, false_or, not_true, not_false_eq_true, Nat.reduceAdd, Nat.reduceMul, Nat.reduceLT, Nat.reduceLeDiff, Nat.reduceEqDiff, ↓reduceIte, ZQ, Bool.true_eq_false, Bool.false_eq_true, Bool.not_true, Bool.not_false]
  refine zloop_run (fun v => (nI (orf (fun v => S.testBit v) (fun v => sx (G s) v &&& A) v), nI v, h)) 8 (fun v hv self => ?_) (fun self => ?_) (by decide)
  · show kX11_step_6 117 (nI s) (nI S) (nI A) self _ _ h = _
    unfold kX11_step_6 bX11_step_38
    by_cases hb : S.testBit v = true
    · simp (disch := omega) only [Nat.not_le.mpr hv, hb, unionOf_ok hs g h6 hv, orf, SR (hs), zl_eq, bsm, ZS, ZT, ZN, ZU, eq_self, true_and, and_true, and_self, or_true, true_or, or_false, false_or, not_true, not_false_eq_true, Nat.reduceAdd, Nat.reduceMul, Nat.reduceLT, Nat.reduceLeDiff, Nat.reduceEqDiff, ↓reduceIte, ZQ, Bool.true_eq_false, Bool.false_eq_true, Bool.not_true, Bool.not_false]
    · have hb' : S.testBit v = false := by simpa using hb
      simp (disch := omega) only [Nat.not_le.mpr hv, hb', orf, Nat.or_zero, SR (hs), zl_eq, bsm, ZS, ZT, ZN, ZU, eq_self, true_and, and_true, and_self, or_true, true_or, or_false, false_or, not_true, not_false_eq_true, Nat.reduceAdd, Nat.reduceMul, Nat.reduceLT, Nat.reduceLeDiff, Nat.reduceEqDiff, ↓reduceIte, ZQ, Bool.true_eq_false, Bool.false_eq_true, Bool.not_true, Bool.not_false]
  · show kX11_step_6 117 (nI s) (nI S) (nI A) self _ _ h = _
    unfold kX11_step_6
    simp (disch := omega) only [Nat.le_refl, SR (hs), zl_eq, bsm, ZS, ZT, ZN, ZU, eq_self, true_and, and_true, and_self, or_true, true_or, or_false, false_or, not_true, not_false_eq_true, Nat.reduceAdd, Nat.reduceMul, Nat.reduceLT, Nat.reduceLeDiff, Nat.reduceEqDiff, ↓reduceIte, ZQ, Bool.true_eq_false, Bool.false_eq_true, Bool.not_true, Bool.not_false]
end C6
/-- the reference's word for an irreducible graph -/
def rW (M : Nat → Nat) (k S : Nat) : Nat := itr (fun R => R ||| (fa M R &&& ess M)) k S
def whA (M : Nat → Nat) : Bool := (List.range 8).all (fun v => !(ess M).testBit v || decide (rW M 8 (2 ^ v) = ess M))
theorem whA_iff {M : Nat → Nat} : whA M = true ↔ ∀ v, v < 8 → (ess M).testBit v = true → rW M 8 (2 ^ v) = ess M := by
  unfold whA
  rw [List.all_eq_true]
  constructor
  · intro h v hv hb
    have := h v (List.mem_range.mpr hv)
    rw [hb] at this
    simpa using this
  · intro h v hv
    have hv' := List.mem_range.mp hv
    by_cases hb : (ess M).testBit v = true
    · rw [h v hv' hb]; simp
    · have hb' : (ess M).testBit v = false := by simpa using hb
      rw [hb']; rfl
def wh (M : Nat → Nat) : Bool := !decide (ess M = 0) && whA M
theorem rW_lt {M : Nat → Nat} {k S : Nat} (hS : S < 256) : rW M k S < 256 := by
  induction k with
  | zero => exact hS
  | succ k ih => exact Nat.or_lt_two_pow (n := 8) ih (Nat.lt_of_le_of_lt Nat.and_le_right (ess_lt M))
theorem p8 {v : Nat} (hv : v < 8) : 2 ^ v < 256 := Nat.pow_lt_pow_right (n := 8) (by decide) hv
theorem isWhole_ok {h : ZH} {G : Nat → Nat → Nat} {s : Nat} (hs : Sh h) (g : rG G h) (h6 : s < 6) : fX11_isWhole 117 (nI s) h = some (nI (wh (G s)).toNat, h) := by
  have he := ess_lt (G s)
  unfold fX11_isWhole
  simp (disch := omega) only [essentialOf_ok hs g h6, SR (hs), zl_eq, bsm, ZS, ZT, ZN, ZU, eq_self, true_and, and_true, and_self, or_true, true_or, or_false, false_or, not_true, not_false_eq_true, Nat.reduceAdd, Nat.reduceMul, Nat.reduceLT, Nat.reduceLeDiff, Nat.reduceEqDiff, ↓reduceIte, ZQ, Bool.true_eq_false, Bool.false_eq_true, Bool.not_true, Bool.not_false]
  have key : wp (zloop (lX11_isWhole_8 117 (nI s) (nI (ess (G s)))) zfu (nI 0, h)) (fun r => r = (nI (wh (G s)).toNat, h)) := by
    refine wloop (fun v y => y.1 = nI v ∧ y.2 = h ∧ ∀ u, u < v → (ess (G s)).testBit u = true → rW (G s) 8 (2 ^ u) = ess (G s)) 8 (fun v y self hv hy ih => ?_) (by decide) ⟨rfl, rfl, fun u hu => by omega⟩
    obtain ⟨y, h1⟩ := y
    obtain ⟨rfl, rfl, hu⟩ := hy
    show wp (kX11_isWhole_8 117 (nI s) (nI (ess (G s))) self (nI v) h1) _
    unfold kX11_isWhole_8 bX11_isWhole_65 bX11_isWhole_80
    by_cases hlt : v < 8
    · by_cases hb : (ess (G s)).testBit v = true
      · simp (disch := omega) only [Nat.not_le.mpr hlt, hb, SR (hs), zl_eq, bsm, ZS, ZT, ZN, ZU, eq_self, true_and, and_true, and_self, or_true, true_or, or_false, false_or, not_true, not_false_eq_true, Nat.reduceAdd, Nat.reduceMul, Nat.reduceLT, Nat.reduceLeDiff, Nat.reduceEqDiff, ↓reduceIte, ZQ, Bool.true_eq_false, Bool.false_eq_true, Bool.not_true, Bool.not_false]
        refine wloop (fun k y => y.1 = nI (rW (G s) k (2 ^ v)) ∧ y.2.1 = nI k ∧ y.2.2 = h1) 8 (fun k y self2 hk hy ih2 => ?_) (by decide) ⟨rfl, rfl, rfl⟩
        obtain ⟨z, y, h2⟩ := y
        obtain ⟨rfl, rfl, rfl⟩ := hy
        have hw := rW_lt (M := G s) (k := k) (p8 hlt)
        show wp (kX11_isWhole_31 self 117 (nI s) (nI (ess (G s))) (nI v) self2 (nI (rW (G s) k (2 ^ v))) (nI k) h2) _
        unfold kX11_isWhole_31 bX11_isWhole_65
        by_cases hlt2 : k < 8
        · simp (disch := omega) only [Nat.not_le.mpr hlt2, step_ok hs g h6 hw, SR (hs), zl_eq, bsm, ZS, ZT, ZN, ZU, eq_self, true_and, and_true, and_self, or_true, true_or, or_false, false_or, not_true, not_false_eq_true, Nat.reduceAdd, Nat.reduceMul, Nat.reduceLT, Nat.reduceLeDiff, Nat.reduceEqDiff, ↓reduceIte, ZQ, Bool.true_eq_false, Bool.false_eq_true, Bool.not_true, Bool.not_false]
          exact ih2 _ hlt2 ⟨rfl, rfl, rfl⟩
        · have : k = 8 := by omega
          subst this
          by_cases e : rW (G s) 8 (2 ^ v) = ess (G s)
          · simp (disch := omega) only [Nat.le_refl, eq_true e, SR (hs), zl_eq, bsm, ZS, ZT, ZN, ZU, eq_self, true_and, and_true, and_self, or_true, true_or, or_false, false_or, not_true, not_false_eq_true, Nat.reduceAdd, Nat.reduceMul, Nat.reduceLT, Nat.reduceLeDiff, Nat.reduceEqDiff, ↓reduceIte, ZQ, Bool.true_eq_false, Bool.false_eq_true, Bool.not_true, Bool.not_false]
            refine ih _ hlt ⟨rfl, rfl, fun u hu2 hbu => ?_⟩
            by_cases eu : u = v
            · rw [eu]; exact e
            · exact hu u (by omega) hbu
          · simp (disch := omega) only [Nat.le_refl, eq_false e, SR (hs), zl_eq, bsm, ZS, ZT, ZN, ZU, eq_self, true_and, and_true, and_self, or_true, true_or, or_false, false_or, not_true, not_false_eq_true, Nat.reduceAdd, Nat.reduceMul, Nat.reduceLT, Nat.reduceLeDiff, Nat.reduceEqDiff, ↓reduceIte, ZQ, Bool.true_eq_false, Bool.false_eq_true, Bool.not_true, Bool.not_false]
            refine wp_some ?_
            have : wh (G s) = false := by
              unfold wh
              rw [Bool.and_eq_false_iff]
              right
              cases hq : whA (G s)
              · rfl
              · exact absurd (whA_iff.mp hq v hlt hb) e
            rw [this]; rfl
      · have hb' : (ess (G s)).testBit v = false := by simpa using hb
        simp (disch := omega) only [Nat.not_le.mpr hlt, hb', SR (hs), zl_eq, bsm, ZS, ZT, ZN, ZU, eq_self, true_and, and_true, and_self, or_true, true_or, or_false, false_or, not_true, not_false_eq_true, Nat.reduceAdd, Nat.reduceMul, Nat.reduceLT, Nat.reduceLeDiff, Nat.reduceEqDiff, ↓reduceIte, ZQ, Bool.true_eq_false, Bool.false_eq_true, Bool.not_true, Bool.not_false]
        refine ih _ hlt ⟨rfl, rfl, fun u hu2 hbu => ?_⟩
        by_cases eu : u = v
        · rw [eu, hb'] at hbu; cases hbu
        · exact hu u (by omega) hbu
    · have : v = 8 := by omega
      subst this
      have hd : whA (G s) = true := whA_iff.mpr hu
      by_cases e : ess (G s) = 0
      · have hw : wh (G s) = false := by unfold wh; rw [decide_eq_true e]; rfl
        simp (disch := omega) only [Nat.le_refl, eq_true e, hw, SR (hs), zl_eq, bsm, ZS, ZT, ZN, ZU, eq_self, true_and, and_true, and_self, or_true, true_or, or_false, false_or, not_true, not_false_eq_true, Nat.reduceAdd, Nat.reduceMul, Nat.reduceLT, Nat.reduceLeDiff, Nat.reduceEqDiff, ↓reduceIte, ZQ, Bool.true_eq_false, Bool.false_eq_true, Bool.not_true, Bool.not_false]
        exact wp_some rfl
      · have hw : wh (G s) = true := by unfold wh; rw [decide_eq_false e, hd]; rfl
        simp (disch := omega) only [Nat.le_refl, eq_false e, hw, SR (hs), zl_eq, bsm, ZS, ZT, ZN, ZU, eq_self, true_and, and_true, and_self, or_true, true_or, or_false, false_or, not_true, not_false_eq_true, Nat.reduceAdd, Nat.reduceMul, Nat.reduceLT, Nat.reduceLeDiff, Nat.reduceEqDiff, ↓reduceIte, ZQ, Bool.true_eq_false, Bool.false_eq_true, Bool.not_true, Bool.not_false]
        exact wp_some rfl
  obtain ⟨r, e, rfl⟩ := key
  exact e
