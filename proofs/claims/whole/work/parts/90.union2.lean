/-! UNION: the essential part of two cores side by side -/
theorem sxW_bit {W : Nat → Nat} {v x : Nat} : (sxW W v).testBit x = true ↔ ∃ l, l < 4 ∧ (W (4 * v + l)).testBit x = true := by
  unfold sxW
  rw [orf_bit]
  constructor
  · rintro ⟨l, h1, -, h2⟩; exact ⟨l, h1, h2⟩
  · rintro ⟨l, h1, h2⟩; exact ⟨l, h1, rfl, h2⟩
theorem csW_bit {W : Nat → Nat} {S x : Nat} : (csW W S).testBit x = true ↔ S.testBit x = true ∧ (∃ v, v < 64 ∧ S.testBit v = true ∧ (sxW W v).testBit x = true) ∧ (x < 64 ∧ ∃ y, S.testBit y = true ∧ (sxW W x).testBit y = true) := by
  unfold csW faW goW
  rw [and_bit, and_bit, orf_bit, orf_bit]
  constructor
  · rintro ⟨h1, h2, k, h3, h4, h5⟩
    have : k = x := pow_bit.mp h5
    subst this
    refine ⟨h1, h2, h3, ?_⟩
    simp only [Bool.and_eq_true, Bool.not_eq_true', decide_eq_false_iff_not] at h4
    apply Classical.byContradiction
    intro hn
    refine h4.2 (Nat.eq_of_testBit_eq fun i => ?_)
    rw [Nat.zero_testBit]
    cases hb : (sxW W k &&& S).testBit i with
    | false => rfl
    | true => exact absurd ⟨i, (and_bit.mp hb).2, (and_bit.mp hb).1⟩ hn
  · rintro ⟨h1, h2, h3, y, h4, h5⟩
    refine ⟨h1, h2, x, h3, ?_, pow_bit.mpr rfl⟩
    simp only [Bool.and_eq_true, Bool.not_eq_true', decide_eq_false_iff_not]
    refine ⟨h1, fun h0 => ?_⟩
    have := and_bit.mpr ⟨h5, h4⟩
    rw [h0, Nat.zero_testBit] at this
    cases this
theorem csW_mono {W : Nat → Nat} {S T : Nat} (h : sb S T) : sb (csW W S) (csW W T) := by
  intro x hx
  obtain ⟨h1, ⟨v, h2, h3, h4⟩, h5, y, h6, h7⟩ := csW_bit.mp hx
  exact csW_bit.mpr ⟨h x h1, ⟨v, h2, h v h3, h4⟩, h5, y, h y h6, h7⟩
theorem full_bit {i : Nat} : (2 ^ 64 - 1).testBit i = decide (i < 64) := Nat.testBit_two_pow_sub_one 64 i
theorem lt_bit {T i : Nat} (hT : T < 2 ^ 64) (h : T.testBit i = true) : i < 64 := by
  apply Classical.byContradiction
  intro hn
  have : T < 2 ^ i := Nat.lt_of_lt_of_le hT (Nat.pow_le_pow_right (by decide) (by omega))
  rw [Nat.testBit_lt_two_pow this] at h
  cases h
theorem essW_top {W : Nat → Nat} {T : Nat} (hT : T < 2 ^ 64) (h : sb T (csW W T)) : sb T (essW W) := by
  have key : ∀ j, sb T (itr (csW W) j (2 ^ 64 - 1)) := by
    intro j
    induction j with
    | zero => intro i hi; rw [itr, full_bit]; exact decide_eq_true (lt_bit hT hi)
    | succ j ih => exact sb_tr h (csW_mono ih)
  exact key 64
theorem essW_sub (W : Nat → Nat) : sb (essW W) (csW W (2 ^ 64 - 1)) := by
  show sb (csW W (itr (csW W) 63 (2 ^ 64 - 1))) _
  refine csW_mono (fun i hi => ?_)
  rw [full_bit]
  exact decide_eq_true (lt_bit (csW_itr_lt W 63) hi)
/-- a set that has a successor of each of its members and a predecessor, and all the edges -/
theorem essW_eq {W : Nat → Nat} {C : Nat} (hC : C < 2 ^ 64) (h1 : ∀ x, C.testBit x = true → (∃ v, C.testBit v = true ∧ (sxW W v).testBit x = true) ∧ ∃ y, C.testBit y = true ∧ (sxW W x).testBit y = true) (h2 : ∀ x y, x < 64 → (sxW W x).testBit y = true → C.testBit x = true) : essW W = C := by
  refine sb_eq (fun x hx => ?_) (essW_top hC (fun x hx => ?_))
  · obtain ⟨-, -, h5, y, h6, h7⟩ := csW_bit.mp (essW_sub W x hx)
    exact h2 x y h5 h7
  · obtain ⟨⟨v, h3, h4⟩, y, h5, h6⟩ := h1 x hx
    exact csW_bit.mpr ⟨hx, ⟨v, lt_bit hC h3, h3, h4⟩, lt_bit hC hx, y, h5, h6⟩
