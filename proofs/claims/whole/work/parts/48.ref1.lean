/-! THE REFERENCE: reads, fills, the store of a graph -/
theorem zfill {α : Type} {h : ZH} {k : (Int32 × ZH → Option α) → Int32 × ZH → Option α} {r : Option α} (a n : Nat) (c : Nat → Int32) (hs : ∀ j, j < n → ∀ self, k self (nI j, zsI h (zfil (zI h) a j c)) = self (nI (j + 1), zsI h (zu (zfil (zI h) a j c) a j (c j)))) (he : ∀ self, k self (nI n, zsI h (zfil (zI h) a n c)) = r) (hn : n < 100000) : zloop k zfu (nI 0, h) = r := by
  have e0 : h = zsI h (zfil (zI h) a 0 c) := by rw [zfil_0]; rfl
  have := zloop_run (k := k) (r := r) (fun j => (nI j, zsI h (zfil (zI h) a j c))) n (fun j hj self => by rw [hs j hj self, zfil_succ]) he (n := zfu) hn
  rw [← e0] at this
  exact this
theorem zfillJ {α : Type} {h : ZH} {k : (Int32 × ZH → Option α) → Int32 × ZH → Option α} {r : Option α} (a n : Nat) (c : Nat → Int64) (hs : ∀ j, j < n → ∀ self, k self (nI j, zsJ h (zfil (zJ h) a j c)) = self (nI (j + 1), zsJ h (zu (zfil (zJ h) a j c) a j (c j)))) (he : ∀ self, k self (nI n, zsJ h (zfil (zJ h) a n c)) = r) (hn : n < 100000) : zloop k zfu (nI 0, h) = r := by
  have e0 : h = zsJ h (zfil (zJ h) a 0 c) := by rw [zfil_0]; rfl
  have := zloop_run (k := k) (r := r) (fun j => (nI j, zsJ h (zfil (zJ h) a j c))) n (fun j hj self => by rw [hs j hj self, zfil_succ]) he (n := zfu) hn
  rw [← e0] at this
  exact this
theorem isIn_ok {v lo hi : Nat} (h1 : lo ≤ v) (h2 : v ≤ hi) (h3 : hi < 2 ^ 31) (h : ZH) : fX11_isIn (nI v) (nI lo) (nI hi) h = some (nI 1, h) := by
  unfold fX11_isIn
  rw [if_neg (nI_nlt h1 (by omega)), if_neg (nI_nlt h2 h3)]
  rfl
theorem isIn_no {x : Int32} {lo hi : Nat} (hx : x < nI lo ∨ nI hi < x) (h : ZH) : fX11_isIn x (nI lo) (nI hi) h = some (nI 0, h) := by
  unfold fX11_isIn
  by_cases h0 : x < nI lo
  · rw [if_pos h0]; rfl
  · rw [if_neg h0, if_pos (hx.resolve_left h0)]; rfl
theorem ile_lt {x : Int32} {n : Nat} (hn : n + 1 < 2 ^ 31) (h : nI (n + 1) ≤ x) : nI n < x := by
  have h1 := nI_toInt hn
  have h2 := nI_toInt (n := n) (by omega)
  rw [Int32.le_iff_toInt_le] at h
  rw [Int32.lt_iff_toInt_lt]
  omega
theorem b01 (b : Bool) : nI b.toNat = 0 ∨ nI b.toNat = 1 := by cases b <;> decide
theorem rSlot_ok {v : Nat} (hv : v < 6) (h : ZH) : fX11_isSlot (nI v) h = some (nI 1, h) := by
  unfold fX11_isSlot
  rw [isIn_ok (Nat.zero_le _) (by omega) (by decide), Option.bind_some]
  rfl
theorem rVertex_ok {v : Nat} (hv : v < 8) (h : ZH) : fX11_isVertex (nI v) h = some (nI 1, h) := by
  unfold fX11_isVertex
  rw [isIn_ok (Nat.zero_le _) (by omega) (by decide), Option.bind_some]
  rfl
theorem rLetter_ok {v : Nat} (hv : v < 4) (h : ZH) : fX11_isLetter (nI v) h = some (nI 1, h) := by
  unfold fX11_isLetter
  rw [isIn_ok (Nat.zero_le _) (by omega) (by decide), Option.bind_some]
  rfl
theorem rArray_ok {v : Nat} (hv : v < 4) (h : ZH) : fX11_isArray (nI v) h = some (nI 1, h) := by
  unfold fX11_isArray
  rw [isIn_ok (Nat.zero_le _) (by omega) (by decide), Option.bind_some]
  rfl
/-- a slot, or none: for the class and the reference alike -/
theorem cSlot (x : Int32) : (∀ h, fX10_isSlot x h = some (nI 0, h) ∧ fX11_isSlot x h = some (nI 0, h)) ∨ ∃ s, s < 6 ∧ x = nI s := by
  have key : x < 0 ∨ nI 6 ≤ x → ∀ h, fX10_isSlot x h = some (nI 0, h) ∧ fX11_isSlot x h = some (nI 0, h) := by
    intro hx h
    refine ⟨isSlot_no hx h, ?_⟩
    unfold fX11_isSlot
    rw [isIn_no (hx.imp id (ile_lt (n := 5) (by decide))), Option.bind_some]
    rfl
  rcases pk_ix x (n := 6) (by decide) with h | h | ⟨j, hj, e⟩
  · exact Or.inl (key (Or.inl h))
  · exact Or.inl (key (Or.inr h))
  · exact Or.inr ⟨j, hj, e⟩
theorem cVertex (x : Int32) : (∀ h, fX10_isVertex x h = some (nI 0, h) ∧ fX11_isVertex x h = some (nI 0, h)) ∨ ∃ s, s < 8 ∧ x = nI s := by
  have key : x < 0 ∨ nI 8 ≤ x → ∀ h, fX10_isVertex x h = some (nI 0, h) ∧ fX11_isVertex x h = some (nI 0, h) := by
    intro hx h
    refine ⟨isVertex_no hx h, ?_⟩
    unfold fX11_isVertex
    rw [isIn_no (hx.imp id (ile_lt (n := 7) (by decide))), Option.bind_some]
    rfl
  rcases pk_ix x (n := 8) (by decide) with h | h | ⟨j, hj, e⟩
  · exact Or.inl (key (Or.inl h))
  · exact Or.inl (key (Or.inr h))
  · exact Or.inr ⟨j, hj, e⟩
theorem cLetter (x : Int32) : (∀ h, fX10_isLetter x h = some (nI 0, h) ∧ fX11_isLetter x h = some (nI 0, h)) ∨ ∃ s, s < 4 ∧ x = nI s := by
  have key : x < 0 ∨ nI 4 ≤ x → ∀ h, fX10_isLetter x h = some (nI 0, h) ∧ fX11_isLetter x h = some (nI 0, h) := by
    intro hx h
    refine ⟨isLetter_no hx h, ?_⟩
    unfold fX11_isLetter
    rw [isIn_no (hx.imp id (ile_lt (n := 3) (by decide))), Option.bind_some]
    rfl
  rcases pk_ix x (n := 4) (by decide) with h | h | ⟨j, hj, e⟩
  · exact Or.inl (key (Or.inl h))
  · exact Or.inl (key (Or.inr h))
  · exact Or.inr ⟨j, hj, e⟩
theorem cArray (x : Int32) : (∀ h, fX10_isArray x h = some (nI 0, h) ∧ fX11_isArray x h = some (nI 0, h)) ∨ ∃ s, s < 4 ∧ x = nI s := by
  have key : x < 0 ∨ nI 4 ≤ x → ∀ h, fX10_isArray x h = some (nI 0, h) ∧ fX11_isArray x h = some (nI 0, h) := by
    intro hx h
    refine ⟨isArray_no hx h, ?_⟩
    unfold fX11_isArray
    rw [isIn_no (hx.imp id (ile_lt (n := 3) (by decide))), Option.bind_some]
    rfl
  rcases pk_ix x (n := 4) (by decide) with h | h | ⟨j, hj, e⟩
  · exact Or.inl (key (Or.inl h))
  · exact Or.inl (key (Or.inr h))
  · exact Or.inr ⟨j, hj, e⟩
theorem isWithin_ok {v lo hi : Nat} (h1 : lo ≤ v) (h2 : v ≤ hi) (h3 : hi < 2 ^ 31) (h : ZH) : fX10_isWithin (nI v) (nI lo) (nI hi) h = some (nI 1, h) := by
  unfold fX10_isWithin
  rw [if_neg (nI_nlt h1 (by omega)), if_neg (nI_nlt h2 h3)]
  rfl
theorem isWithin_no {x : Int32} {lo hi : Nat} (hx : x < nI lo ∨ nI hi < x) (h : ZH) : fX10_isWithin x (nI lo) (nI hi) h = some (nI 0, h) := by
  unfold fX10_isWithin
  by_cases h0 : x < nI lo
  · rw [if_pos h0]; rfl
  · rw [if_neg h0, if_pos (hx.resolve_left h0)]; rfl
/-- within bounds, or not -/
theorem cIn (x : Int32) {lo hi : Nat} (hl : lo < 2 ^ 30) (hb : hi < 2 ^ 30) : (∀ h, fX10_isWithin x (nI lo) (nI hi) h = some (nI 0, h) ∧ fX11_isIn x (nI lo) (nI hi) h = some (nI 0, h)) ∨ ∃ s, lo ≤ s ∧ s ≤ hi ∧ x = nI s := by
  by_cases h2 : x < nI lo ∨ nI hi < x
  · exact Or.inl (fun h => ⟨isWithin_no h2 h, isIn_no h2 h⟩)
  · right
    have a1 := nI_toInt (n := lo) (by omega)
    have a2 := nI_toInt (n := hi) (by omega)
    have h3 : ¬ x < nI lo := fun q => h2 (Or.inl q)
    have h4 : ¬ nI hi < x := fun q => h2 (Or.inr q)
    rw [Int32.lt_iff_toInt_lt] at h3 h4
    refine ⟨x.toInt.toNat, by omega, by omega, ?_⟩
    apply Int32.toInt_inj.mp
    rw [nI_toInt (by omega)]
    omega
section RF
variable {h : ZH} {f : Nat → Nat}
theorem to_ok (hs : Sh h) (hG : vI h 118 192 f) {s v l : Nat} (h6 : s < 6) (hv : v < 8) (hl : l < 4) : fX11_to 117 (nI s) (nI v) (nI l) h = some (nI (f (32 * s + 4 * v + l)), h) := by
  simp (disch := omega) only [fX11_to, SR (hs), zl, Option.bind_some, ZS, ZT, ZN, ZU, eq_self, true_and, and_true, and_self, or_true, true_or, or_false, false_or, not_true, not_false_eq_true, Nat.reduceAdd, Nat.reduceMul, Nat.reduceLT, Nat.reduceLeDiff, Nat.reduceEqDiff, ↓reduceIte]
  rw [hG _ (by omega)]
theorem edgesOf_ok (hs : Sh h) (hG : vI h 118 192 f) {s : Nat} (h6 : s < 6) : fX11_edgesOf 117 (nI s) h = some (sumI (fun j => bc (nI (f (32 * s + j)))) 32, h) := by
  simp (disch := omega) only [fX11_edgesOf, SR (hs), zl, Option.bind_some, ZS, ZT, ZN, ZU, eq_self, true_and, and_true, and_self, or_true, true_or, or_false, false_or, not_true, not_false_eq_true, Nat.reduceAdd, Nat.reduceMul, Nat.reduceLT, Nat.reduceLeDiff, Nat.reduceEqDiff, ↓reduceIte]
  refine zloop_run (fun j => (sumI (fun j => bc (nI (f (32 * s + j)))) j, nI j, h)) 32 (fun j hj self => ?_) (fun self => ?_) (by decide)
  · simp (disch := omega) only [lX11_edgesOf_4, kX11_edgesOf_4, bc_ok, Nat.not_le.mpr hj, hG (32 * s + j) (by omega), SR (hs), zl, Option.bind_some, ZS, ZT, ZN, ZU, eq_self, true_and, and_true, and_self, or_true, true_or, or_false, false_or, not_true, not_false_eq_true, Nat.reduceAdd, Nat.reduceMul, Nat.reduceLT, Nat.reduceLeDiff, Nat.reduceEqDiff, ↓reduceIte]
    rfl
  · simp (disch := omega) only [lX11_edgesOf_4, kX11_edgesOf_4, Nat.le_refl, SR (hs), zl, Option.bind_some, ZS, ZT, ZN, ZU, eq_self, true_and, and_true, and_self, or_true, true_or, or_false, false_or, not_true, not_false_eq_true, Nat.reduceAdd, Nat.reduceMul, Nat.reduceLT, Nat.reduceLeDiff, Nat.reduceEqDiff, ↓reduceIte]
theorem clearMade_ok (hs : Sh h) : fX11_clearMade 117 h = some (zsI h (zfil (zI h) 119 32 (fun _ => nI 0))) := by
  simp (disch := omega) only [fX11_clearMade, SR (hs), zl, Option.bind_some, ZS, ZT, ZN, ZU, eq_self, true_and, and_true, and_self, or_true, true_or, or_false, false_or, not_true, not_false_eq_true, Nat.reduceAdd, Nat.reduceMul, Nat.reduceLT, Nat.reduceLeDiff, Nat.reduceEqDiff, ↓reduceIte]
  refine zfill 119 32 (fun _ => nI 0) (fun j hj self => ?_) (fun self => ?_) (by decide)
  · simp (disch := omega) only [lX11_clearMade_2, kX11_clearMade_2, Nat.not_le.mpr hj, SR (hs), zl, Option.bind_some, ZS, ZT, ZN, ZU, eq_self, true_and, and_true, and_self, or_true, true_or, or_false, false_or, not_true, not_false_eq_true, Nat.reduceAdd, Nat.reduceMul, Nat.reduceLT, Nat.reduceLeDiff, Nat.reduceEqDiff, ↓reduceIte]
  · simp (disch := omega) only [lX11_clearMade_2, kX11_clearMade_2, Nat.le_refl, SR (hs), zl, Option.bind_some, ZS, ZT, ZN, ZU, eq_self, true_and, and_true, and_self, or_true, true_or, or_false, false_or, not_true, not_false_eq_true, Nat.reduceAdd, Nat.reduceMul, Nat.reduceLT, Nat.reduceLeDiff, Nat.reduceEqDiff, ↓reduceIte]
theorem make_ok (hs : Sh h) (hG : vI h 118 192 f) {s : Nat} (h6 : s < 6) : fX11_make 117 (nI s) h = some (zsI h (zfil (zI h) 119 32 (fun j => nI (f (32 * s + j))))) := by
  simp (disch := omega) only [fX11_make, SR (hs), zl, Option.bind_some, ZS, ZT, ZN, ZU, eq_self, true_and, and_true, and_self, or_true, true_or, or_false, false_or, not_true, not_false_eq_true, Nat.reduceAdd, Nat.reduceMul, Nat.reduceLT, Nat.reduceLeDiff, Nat.reduceEqDiff, ↓reduceIte]
  refine zfill 119 32 (fun j => nI (f (32 * s + j))) (fun j hj self => ?_) (fun self => ?_) (by decide)
  · simp (disch := omega) only [lX11_make_2, kX11_make_2, Nat.not_le.mpr hj, zfil_ne (show 118 ≠ 119 by decide), hG (32 * s + j) (by omega), SR (hs), zl, Option.bind_some, ZS, ZT, ZN, ZU, eq_self, true_and, and_true, and_self, or_true, true_or, or_false, false_or, not_true, not_false_eq_true, Nat.reduceAdd, Nat.reduceMul, Nat.reduceLT, Nat.reduceLeDiff, Nat.reduceEqDiff, ↓reduceIte]
  · simp (disch := omega) only [lX11_make_2, kX11_make_2, Nat.le_refl, SR (hs), zl, Option.bind_some, ZS, ZT, ZN, ZU, eq_self, true_and, and_true, and_self, or_true, true_or, or_false, false_or, not_true, not_false_eq_true, Nat.reduceAdd, Nat.reduceMul, Nat.reduceLT, Nat.reduceLeDiff, Nat.reduceEqDiff, ↓reduceIte]
end RF
