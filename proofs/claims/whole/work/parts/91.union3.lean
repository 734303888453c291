/-! UNION: numbers of two cores side by side -/
def uC (a b : Nat) : Nat := a ||| b * 2 ^ 8
theorem uC_bit {a b i : Nat} (ha : a < 256) : (uC a b).testBit i = if i < 8 then a.testBit i else b.testBit (i - 8) := by
  unfold uC
  rw [Nat.testBit_or, Nat.testBit_mul_two_pow]
  by_cases h : i < 8
  · rw [if_pos h, decide_eq_false (by omega), Bool.false_and, Bool.or_false]
  · have : a < 2 ^ i := Nat.lt_of_lt_of_le ha (Nat.pow_le_pow_right (n := 2) (by decide) (show 8 ≤ i by omega))
    rw [if_neg h, decide_eq_true (by omega), Bool.true_and, Nat.testBit_lt_two_pow this, Bool.false_or]
theorem uC_lt {a b : Nat} (ha : a < 256) (hb : b < 256) : uC a b < 2 ^ 64 := by
  unfold uC
  exact Nat.or_lt_two_pow (by omega) (by omega)
theorem und_1 {a v : Nat} (h : a.testBit v = true) : und a (v + 1) = und a v + 1 := by unfold und; rw [cnt_one h]
theorem und_0 {a v : Nat} (h : a.testBit v = false) : und a (v + 1) = und a v := by unfold und; rw [cnt_zero h]
theorem und_lo {a b : Nat} (ha : a < 256) : ∀ v, v ≤ 8 → und (uC a b) v = und a v
  | 0, _ => rfl
  | v + 1, hv => by
    have ih := und_lo (b := b) ha v (by omega)
    have e := uC_bit (b := b) (i := v) ha
    rw [if_pos (by omega)] at e
    cases hb : a.testBit v with
    | true => rw [und_1 (e.trans hb), und_1 hb, ih]
    | false => rw [und_0 (e.trans hb), und_0 hb, ih]
theorem und_hi {a b : Nat} (ha : a < 256) : ∀ v, und (uC a b) (8 + v) = und a 8 + und b v
  | 0 => by rw [Nat.add_zero, und_lo ha 8 (Nat.le_refl _)]; rfl
  | v + 1 => by
    have ih := und_hi (b := b) ha v
    have e := uC_bit (b := b) (i := 8 + v) ha
    rw [if_neg (by omega), Nat.add_sub_cancel_left] at e
    cases hb : b.testBit v with
    | true => rw [← Nat.add_assoc, und_1 (e.trans hb), und_1 hb, ih, Nat.add_assoc]
    | false => rw [← Nat.add_assoc, und_0 (e.trans hb), und_0 hb, ih]
theorem und_past {b : Nat} (hb : b < 256) : ∀ k, und b (8 + k) = und b 8
  | 0 => rfl
  | k + 1 => by
    rw [← Nat.add_assoc, und_0 (Nat.testBit_lt_two_pow (Nat.lt_of_lt_of_le hb (Nat.pow_le_pow_right (n := 2) (by decide) (show 8 ≤ 8 + k by omega)))), und_past hb k]
theorem und_uC {a b : Nat} (ha : a < 256) (hb : b < 256) : und (uC a b) 64 = und a 8 + und b 8 := by
  have h1 := und_hi (b := b) ha 56
  have h2 := und_past hb 48
  rw [show 8 + 48 = 56 from rfl] at h2
  rw [h2] at h1
  exact h1
theorem uN_lo {A B : Nat → Nat} {x l : Nat} (hx : x < 8) (hl : l < 4) : uN A B (4 * x + l) = A (4 * x + l) := if_pos (by omega)
theorem uN_hi {A B : Nat → Nat} {x l : Nat} (hx : 8 ≤ x) (hx' : x < 16) (hl : l < 4) : uN A B (4 * x + l) = B (4 * (x - 8) + l) * 2 ^ 8 := by
  unfold uN
  rw [if_neg (by omega), if_pos (by omega), show 4 * x + l - 32 = 4 * (x - 8) + l by omega]
theorem uN_past {A B : Nat → Nat} {x l : Nat} (hx : 16 ≤ x) : uN A B (4 * x + l) = 0 := by
  unfold uN
  rw [if_neg (by omega), if_neg (by omega)]
theorem ess_8 {M : Nat → Nat} {x : Nat} (h : (ess M).testBit x = true) : x < 8 := by
  apply Classical.byContradiction
  intro hn
  have : ess M < 2 ^ x := Nat.lt_of_lt_of_le (ess_lt M) (Nat.pow_le_pow_right (n := 2) (by decide) (show 8 ≤ x by omega))
  rw [Nat.testBit_lt_two_pow this] at h
  cases h
theorem essW_uN (A B : Nat → Nat) : essW (uN (coreM A) (coreM B)) = uC (ess A) (ess B) := by
  have eA : ess (coreM A) = ess A := ess_core
  have eB : ess (coreM B) = ess B := ess_core
  refine essW_eq (uC_lt (ess_lt A) (ess_lt B)) (fun x hx => ?_) (fun x y hx hy => ?_)
  · rw [uC_bit (ess_lt A)] at hx
    by_cases h8 : x < 8
    · rw [if_pos h8, ← eA] at hx
      obtain ⟨h1, h2⟩ := ess_in hx
      rw [eA] at h1 h2
      obtain ⟨v, v8, hv, l, hl, hb⟩ := fa_bit.mp h1
      obtain ⟨-, y, hy, l2, hl2, hb2⟩ := vi_bit.mp h2
      refine ⟨⟨v, ?_, sxW_bit.mpr ⟨l, hl, by rw [uN_lo v8 hl]; exact hb⟩⟩, y, ?_, sxW_bit.mpr ⟨l2, hl2, by rw [uN_lo h8 hl2]; exact hb2⟩⟩
      · rw [uC_bit (ess_lt A), if_pos v8]; exact hv
      · rw [uC_bit (ess_lt A), if_pos (ess_8 hy)]; exact hy
    · rw [if_neg h8, ← eB] at hx
      obtain ⟨h1, h2⟩ := ess_in hx
      rw [eB] at h1 h2 hx
      have x8 := ess_8 hx
      obtain ⟨v, v8, hv, l, hl, hb⟩ := fa_bit.mp h1
      obtain ⟨-, y, hy, l2, hl2, hb2⟩ := vi_bit.mp h2
      refine ⟨⟨8 + v, ?_, sxW_bit.mpr ⟨l, hl, ?_⟩⟩, 8 + y, ?_, sxW_bit.mpr ⟨l2, hl2, ?_⟩⟩
      · rw [uC_bit (ess_lt A), if_neg (by omega), Nat.add_sub_cancel_left]; exact hv
      · rw [uN_hi (by omega) (by omega) hl, Nat.testBit_mul_two_pow, decide_eq_true (by omega), Bool.true_and, Nat.add_sub_cancel_left]; exact hb
      · rw [uC_bit (ess_lt A), if_neg (by omega), Nat.add_sub_cancel_left]; exact hy
      · rw [uN_hi (by omega) (by omega) hl2, Nat.testBit_mul_two_pow, decide_eq_true (by omega), Bool.true_and, Nat.add_sub_cancel_left]; exact hb2
  · obtain ⟨l, hl, hb⟩ := sxW_bit.mp hy
    rw [uC_bit (ess_lt A)]
    by_cases h8 : x < 8
    · rw [if_pos h8]
      rw [uN_lo h8 hl] at hb
      exact ((coreM_bit hl).mp hb).1
    · rw [if_neg h8]
      by_cases h16 : x < 16
      · rw [uN_hi (by omega) h16 hl, Nat.testBit_mul_two_pow] at hb
        exact ((coreM_bit hl).mp (Bool.and_eq_true_iff.mp hb).2).1
      · rw [uN_past (by omega), Nat.zero_testBit] at hb
        cases hb
