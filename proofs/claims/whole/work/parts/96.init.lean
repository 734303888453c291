/-! AT THE START all stands as it must -/
theorem inv0 : INV hini := by
  have hz := zini_n
  have hs : Sh hini := ⟨by rw [hz.2.1]; exact Nat.le_refl _, zini_K, fun a ha k hk _ => zini_R a ha k hk⟩
  refine ⟨fun _ _ => 0, 0, fun _ => 0, hs, ?_, ⟨by decide, ?_, ?_, fun i hi => by omega⟩, ⟨0, 0, by decide, by decide, ?_, ?_, ?_, fun i hi => by omega⟩, ⟨0, by decide, ?_, ?_, fun h => by cases h⟩, ⟨0, fun _ => 0, by decide, ?_, ?_, fun i hi => by omega⟩, ?_, ⟨52, 0, 0, ?_, ?_, Or.inl rfl, ?_, ?_, by decide, ?_, ?_, ?_, by decide, by decide, fun _ => 0, fun i hi => by omega, ?_⟩⟩
  · have : ∀ s, s < 6 → ∀ j, j < 32 → zI hini (82 + 4 * s) j = nI 0 ∧ zI hini 118 (32 * s + j) = nI 0 ∧ 0 < 256 := by decide +kernel
    exact this
  · decide +kernel
  · decide +kernel
  · decide +kernel
  · decide +kernel
  · decide +kernel
  · decide +kernel
  · decide +kernel
  · decide +kernel
  · decide +kernel
  · have : ∀ a, a < 4 → (zI hini (105 + 3 * a) 2 = -1 ∧ zI hini 148 a = -1) := by decide +kernel
    exact fun a ha => Or.inl (this a ha)
  · decide +kernel
  · decide +kernel
  · decide +kernel
  · decide +kernel
  · rw [hz.2.1]; decide
  · rw [hz.2.2]; decide
  · decide +kernel
  · have : ∀ w, w < 2048 → zI hini 53 w = nI 0 := by decide +kernel
    exact fun w hw => Or.inl (this w hw)
