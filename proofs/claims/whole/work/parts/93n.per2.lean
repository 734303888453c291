/-! CALLS: periodic, orbits: each primitive word has one lowest rotation (by going through them) -/
theorem F1_4 : ∀ a, a < 32 → ∀ b, b < 32 → chk1 4 (32 * a + b) = true := by decide +kernel
theorem F1_5 : ∀ a, a < 64 → ∀ b, b < 64 → chk1 5 (64 * a + b) = true := by decide +kernel
theorem F1_6 : ∀ a, a < 128 → ∀ b, b < 128 → chk1 6 (128 * a + b) = true := by decide +kernel
