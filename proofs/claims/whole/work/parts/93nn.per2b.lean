/-! CALLS: periodic, orbits: the longer words, one by one -/
theorem F1_5a : alF (blk 5) 0 16 = true := by decide +kernel
theorem F1_5b : alF (blk 5) 16 16 = true := by decide +kernel
theorem F1_6a : alF (blk 6) 0 16 = true := by decide +kernel
theorem F1_6b : alF (blk 6) 16 16 = true := by decide +kernel
theorem F1_6c : alF (blk 6) 32 16 = true := by decide +kernel
theorem F1_6d : alF (blk 6) 48 16 = true := by decide +kernel
theorem F1_6e : alF (blk 6) 64 16 = true := by decide +kernel
theorem F1_6f : alF (blk 6) 80 16 = true := by decide +kernel
theorem F1_6g : alF (blk 6) 96 16 = true := by decide +kernel
theorem F1_6h : alF (blk 6) 112 16 = true := by decide +kernel
theorem chk_ok {m x : Nat} (hm : m < 7) (hx : x < 4 ^ (m + 1)) : chk m x = true := by
  rcases (show m = 0 ∨ m = 1 ∨ m = 2 ∨ m = 3 ∨ m = 4 ∨ m = 5 ∨ m = 6 by omega) with rfl | rfl | rfl | rfl | rfl | rfl | rfl
  · have := alF_ok 4 F1_0 x hx
    rwa [Nat.zero_add] at this
  · have := alF_ok 16 F1_1 x hx
    rwa [Nat.zero_add] at this
  · have := alF_ok 64 F1_2 x hx
    rwa [Nat.zero_add] at this
  · have hx' : x < 256 := hx
    have := alF_ok 2 F1_3 (x / 128) (by omega)
    exact blk_ok this (by omega) (by omega)
  · have hx' : x < 1024 := hx
    have := alF_ok 8 F1_4 (x / 128) (by omega)
    exact blk_ok this (by omega) (by omega)
  · have hx' : x < 4096 := hx
    by_cases h : x / 128 < 16
    · have := alF_ok 16 F1_5a (x / 128) (by omega)
      exact blk_ok this (by omega) (by omega)
    · have := alF_ok 16 F1_5b (x / 128 - 16) (by omega)
      exact blk_ok this (by omega) (by omega)
  · have hx' : x < 16384 := hx
    rcases (show x / 128 / 16 = 0 ∨ x / 128 / 16 = 1 ∨ x / 128 / 16 = 2 ∨ x / 128 / 16 = 3 ∨ x / 128 / 16 = 4 ∨ x / 128 / 16 = 5 ∨ x / 128 / 16 = 6 ∨ x / 128 / 16 = 7 by omega) with h | h | h | h | h | h | h | h
    · exact blk_ok (alF_ok 16 F1_6a (x / 128 - 0) (by omega)) (by omega) (by omega)
    · exact blk_ok (alF_ok 16 F1_6b (x / 128 - 16) (by omega)) (by omega) (by omega)
    · exact blk_ok (alF_ok 16 F1_6c (x / 128 - 32) (by omega)) (by omega) (by omega)
    · exact blk_ok (alF_ok 16 F1_6d (x / 128 - 48) (by omega)) (by omega) (by omega)
    · exact blk_ok (alF_ok 16 F1_6e (x / 128 - 64) (by omega)) (by omega) (by omega)
    · exact blk_ok (alF_ok 16 F1_6f (x / 128 - 80) (by omega)) (by omega) (by omega)
    · exact blk_ok (alF_ok 16 F1_6g (x / 128 - 96) (by omega)) (by omega) (by omega)
    · exact blk_ok (alF_ok 16 F1_6h (x / 128 - 112) (by omega)) (by omega) (by omega)
