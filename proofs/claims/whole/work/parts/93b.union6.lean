/-! CALL: union, whole -/
theorem WN_uN {A B N1 N2 : Nat → Nat} (hc : und (ess A) 8 + und (ess B) 8 ≤ 8) (g1 : ANq (fun _ => 0) A (ess A) 0 N1 (32 * und (ess A) 8)) (g2 : ANq N1 B (ess B) (und (ess A) 8) N2 (32 * und (ess B) 8)) : WNp (uN (coreM A) (coreM B)) (uC (ess A) (ess B)) N2 16384 := by
  intro k l hk hl
  obtain ⟨b2, f2⟩ := g2 k l hk hl
  obtain ⟨b1, f1⟩ := g1 k l hk hl
  refine ⟨b2, fun i => ?_⟩
  rw [f2 i, f1 i, Nat.zero_testBit]
  have hE := ess_lt A
  constructor
  · rintro ((q | ⟨v, x, h1, h2, h3, h4, h5, h6, h7, h8⟩) | ⟨v, x, h1, h2, h3, h4, h5, h6, h7, h8⟩)
    · cases q
    · refine ⟨v, x, by omega, by omega, ?_, ?_, ?_, ?_, ?_, by omega⟩
      · rw [uC_bit hE, if_pos h1]; exact h3
      · rw [uC_bit hE, if_pos h2]; exact h4
      · rw [und_lo hE v (by omega)]; omega
      · rw [und_lo hE x (by omega)]; omega
      · rw [uN_lo h1 hl]; exact (coreM_bit hl).mpr ⟨h3, h7, h4⟩
    · refine ⟨8 + v, 8 + x, by omega, by omega, ?_, ?_, ?_, ?_, ?_, by omega⟩
      · rw [uC_bit hE, if_neg (by omega), Nat.add_sub_cancel_left]; exact h3
      · rw [uC_bit hE, if_neg (by omega), Nat.add_sub_cancel_left]; exact h4
      · rw [und_hi hE]; exact h5
      · rw [und_hi hE]; exact h6
      · rw [uN_hi (by omega) (by omega) hl, Nat.testBit_mul_two_pow, decide_eq_true (by omega), Bool.true_and, Nat.add_sub_cancel_left, Nat.add_sub_cancel_left]
        exact (coreM_bit hl).mpr ⟨h3, h7, h4⟩
  · rintro ⟨v, x, h1, h2, h3, h4, h5, h6, h7, h8⟩
    by_cases v8 : v < 8
    · rw [uN_lo v8 hl] at h7
      obtain ⟨c1, c2, c3⟩ := (coreM_bit hl).mp h7
      have x8 := ess_8 c3
      rw [und_lo hE v (by omega)] at h5
      rw [und_lo hE x (by omega)] at h6
      have u1 := und_lt8 v8 c1
      have u2 := und_lt8 x8 c3
      exact Or.inl (Or.inr ⟨v, x, v8, x8, c1, c3, by omega, by omega, c2, by omega⟩)
    · by_cases v16 : v < 16
      · rw [uN_hi (by omega) v16 hl, Nat.testBit_mul_two_pow] at h7
        obtain ⟨d1, d2⟩ := Bool.and_eq_true_iff.mp h7
        have x8 : 8 ≤ x := of_decide_eq_true d1
        obtain ⟨c1, c2, c3⟩ := (coreM_bit hl).mp d2
        have y8 := ess_8 c3
        obtain ⟨v', rfl⟩ : ∃ v', v = 8 + v' := ⟨v - 8, by omega⟩
        obtain ⟨x', rfl⟩ : ∃ x', x = 8 + x' := ⟨x - 8, by omega⟩
        rw [Nat.add_sub_cancel_left] at c1 c2 c3 y8
        rw [Nat.add_sub_cancel_left] at c2
        rw [und_hi hE] at h5 h6
        have u1 := und_lt8 (by omega) c1
        have u2 := und_lt8 y8 c3
        exact Or.inr ⟨v', x', by omega, y8, c1, c3, h5, h6, c2, by omega⟩
      · rw [uN_past (by omega), Nat.zero_testBit] at h7
        cases h7
theorem bc_und : ∀ a, a < 256 → bc (nI a) = nI (und a 8) := by decide +kernel
