/-! CALL: forbid: the two graphs are one, renamed -/
theorem essW_fix (W : Nat → Nat) : csW W (essW W) = essW W := by
  obtain ⟨m, h1, h2, -⟩ := itr_stop (f := csW W) (n := 64) (S := 2 ^ 64 - 1) (fun T _ => csW_sub W T) (by decide)
  have e : essW W = itr (csW W) m (2 ^ 64 - 1) := itr_end h2 h1
  rw [e]
  exact h2
theorem essW_in {W : Nat → Nat} {v : Nat} (h : (essW W).testBit v = true) : v < 64 ∧ (∃ u, u < 64 ∧ (essW W).testBit u = true ∧ (sxW W u).testBit v = true) ∧ ∃ y, y < 64 ∧ (essW W).testBit y = true ∧ (sxW W v).testBit y = true := by
  have hv := lt_bit (essW_lt W) h
  have h2 := h
  rw [← essW_fix] at h2
  obtain ⟨-, h3, -, y, h5, h6⟩ := csW_bit.mp h2
  exact ⟨hv, h3, y, lt_bit (essW_lt W) h5, h5, h6⟩
theorem essW_img {W W' : Nat → Nat} {f : Nat → Nat} (hf : ∀ v, (essW W).testBit v = true → f v < 64) (he : ∀ v x, (essW W).testBit v = true → (essW W).testBit x = true → (sxW W v).testBit x = true → (sxW W' (f v)).testBit (f x) = true) : ∀ v, (essW W).testBit v = true → (essW W').testBit (f v) = true := by
  classical
  have hT : ∀ i, (orf (fun w => decide (∃ v, (essW W).testBit v = true ∧ f v = w)) (fun k => 2 ^ k) 64).testBit i = true ↔ ∃ v, (essW W).testBit v = true ∧ f v = i := by
    intro i
    rw [orf_bit]
    constructor
    · rintro ⟨k, -, h2, h3⟩
      rw [Nat.testBit_two_pow] at h3
      have := of_decide_eq_true h3
      subst this
      exact of_decide_eq_true h2
    · rintro ⟨v, h1, rfl⟩
      exact ⟨f v, hf v h1, decide_eq_true ⟨v, h1, rfl⟩, by rw [Nat.testBit_two_pow]; exact decide_eq_true rfl⟩
  have hl : orf (fun w => decide (∃ v, (essW W).testBit v = true ∧ f v = w)) (fun k => 2 ^ k) 64 < 2 ^ 64 := orf_lt (b := 64) (fun k hk => Nat.pow_lt_pow_right (by decide) hk)
  generalize orf (fun w => decide (∃ v, (essW W).testBit v = true ∧ f v = w)) (fun k => 2 ^ k) 64 = T at hT hl
  have key : sb T (essW W') := essW_top hl (fun i hi => by
    obtain ⟨v, hv, rfl⟩ := (hT i).mp hi
    obtain ⟨-, ⟨u, u1, u2, u3⟩, y, y1, y2, y3⟩ := essW_in hv
    exact csW_bit.mpr ⟨hi, ⟨f u, hf u u2, (hT _).mpr ⟨u, u2, rfl⟩, he u v u2 hv u3⟩, hf v hv, f y, (hT _).mpr ⟨y, y2, rfl⟩, he v y hv y2 y3⟩)
  exact fun v hv => key _ ((hT _).mpr ⟨v, hv, rfl⟩)
theorem Rnm.cnt {C C' : Nat} {f : Nat → Nat} (R : Rnm C C' f) : und C' 64 = und C 64 := by
  rcases Nat.lt_trichotomy (und C' 64) (und C 64) with h | h | h
  · exfalso
    obtain ⟨v, h1, h2, h3⟩ := und_surj 64 _ h
    obtain ⟨f1, f2⟩ := R.1 v h1 h2
    have := R.num v h1 h2
    have := und_lt f1 f2
    omega
  · exact h
  · exfalso
    obtain ⟨w, h1, h2, h3⟩ := und_surj 64 _ h
    obtain ⟨v, g1, g2, rfl⟩ := R.2.1 w h1 h2
    have := R.num v g1 g2
    have := und_lt g1 g2
    omega
theorem prd_prn {a q : Nat} : ∀ k, prd a (2 ^ q) k = prn a 8 q k
  | 0 => rfl
  | k + 1 => by rw [prd, prn, prd_prn k, ← Nat.pow_add, Nat.add_comm q]
def fN (n x : Nat) : Nat := n * (x / 8) + x % 8
def gN (n x : Nat) : Nat := 8 * (x / n) + x % n
theorem fN_facts {n : Nat} (n1 : 1 ≤ n) (n6 : n ≤ 6) : (∀ v, v < 64 → v % 8 < n → fN n v < 8 * n ∧ gN n (fN n v) = v) ∧ (∀ x, x < 8 * n → gN n x < 64 ∧ gN n x % 8 < n ∧ fN n (gN n x) = x) ∧ (∀ u v, u < v → u % 8 < n → v % 8 < n → fN n u < fN n v) := by
  unfold fN gN
  rcases (show n = 1 ∨ n = 2 ∨ n = 3 ∨ n = 4 ∨ n = 5 ∨ n = 6 by omega) with rfl | rfl | rfl | rfl | rfl | rfl
  all_goals refine ⟨fun v h1 h2 => ⟨by omega, ?_⟩, fun x h1 => ⟨by omega, by omega, ?_⟩, fun u v h1 h2 h3 => by omega⟩
  all_goals omega
section FE
variable {w M : Nat → Nat} {n : Nat}
theorem f_edge (n1 : 1 ≤ n) (n6 : n ≤ 6) {v x l : Nat} (hv : v < 64) (hx : x < 64) (hl : l < 4) (mv : v % 8 < n) (mx : x % 8 < n) : (gW w n M (4 * fN n v + l)).testBit (fN n x) = true ↔ (fW w n M (4 * v + l)).testBit x = true := by
  have e1 : fW w n M (4 * v + l) = fW w n M (4 * (8 * (v / 8) + v % 8) + l) := by rw [Nat.div_add_mod]
  rw [e1, fW_at (by omega) hl]
  unfold fN
  rw [gW_at (by omega) mv hl, prn_bit]
  generalize v % 8 = k at mv
  have hb : x / 8 < 8 := by omega
  have ex : x = 8 * (x / 8) + x % 8 := (Nat.div_add_mod x 8).symm
  generalize x / 8 = b at hb ex
  generalize x % 8 = m at mx ex
  subst ex
  unfold gm
  by_cases hq : ov w k l (k + 1) < n
  · rw [if_pos hq, if_pos ⟨mv, hq⟩, prd_prn, prn_bit]
    generalize ov w k l (k + 1) = q at hq
    have uni : ∀ j, j < 8 → (n * j + q = n * b + m ↔ 8 * j + q = 8 * b + m) := by
      intro j hj
      constructor
      · intro h
        have h1 : (n * j + q) / n = (n * b + m) / n := by rw [h]
        rw [Nat.mul_add_div (by omega), Nat.div_eq_of_lt hq, Nat.mul_add_div (by omega), Nat.div_eq_of_lt mx, Nat.add_zero, Nat.add_zero] at h1
        subst h1
        omega
      · intro h
        have h1 : j = b ∧ q = m := by omega
        rw [h1.1, h1.2]
    constructor
    · rintro ⟨j, h1, h2, h3⟩
      exact ⟨j, h1, h2, (uni j h1).mp h3⟩
    · rintro ⟨j, h1, h2, h3⟩
      exact ⟨j, h1, h2, (uni j h1).mpr h3⟩
  · rw [if_neg hq, if_neg (fun z => hq z.2)]
    constructor
    · rintro ⟨j, -, h2, -⟩
      rw [Nat.zero_testBit] at h2
      cases h2
    · intro h
      rw [Nat.zero_testBit] at h
      cases h
theorem f_in {v : Nat} (h : (essW (fW w n M)).testBit v = true) : v < 64 ∧ v % 8 < n := by
  obtain ⟨hv, -, y, -, -, h3⟩ := essW_in h
  refine ⟨hv, ?_⟩
  obtain ⟨l, hl, h4⟩ := sxW_bit.mp h3
  have e1 : fW w n M (4 * v + l) = fW w n M (4 * (8 * (v / 8) + v % 8) + l) := by rw [Nat.div_add_mod]
  rw [e1, fW_at (by omega) hl] at h4
  by_cases hq : v % 8 < n
  · exact hq
  · rw [if_neg (fun z => hq z.1), Nat.zero_testBit] at h4
    cases h4
theorem g_in {v : Nat} (h : (essW (gW w n M)).testBit v = true) : v < 64 ∧ v < 8 * n := by
  obtain ⟨hv, -, y, -, -, h3⟩ := essW_in h
  refine ⟨hv, ?_⟩
  obtain ⟨l, hl, h4⟩ := sxW_bit.mp h3
  unfold gW at h4
  by_cases hq : 4 * v + l < 32 * n
  · omega
  · rw [if_neg hq, Nat.zero_testBit] at h4
    cases h4
theorem f_rnm (n1 : 1 ≤ n) (n6 : n ≤ 6) : Rnm (essW (fW w n M)) (essW (gW w n M)) (fN n) := by
  obtain ⟨F1, F2, F3⟩ := fN_facts n1 n6
  refine ⟨fun v hv cv => ?_, fun x hx cx => ?_, fun u v hu hv cu cv huv => F3 u v huv (f_in cu).2 (f_in cv).2⟩
  · have := (F1 v hv (f_in cv).2).1
    refine ⟨by omega, essW_img (f := fN n) (fun v cv => ?_) (fun u x cu cx e => ?_) v cv⟩
    · have := (F1 v (f_in cv).1 (f_in cv).2).1
      omega
    · obtain ⟨l, hl, h4⟩ := sxW_bit.mp e
      exact sxW_bit.mpr ⟨l, hl, (f_edge n1 n6 (f_in cu).1 (f_in cx).1 hl (f_in cu).2 (f_in cx).2).mpr h4⟩
  · obtain ⟨b1, b2, b3⟩ := F2 x (g_in cx).2
    refine ⟨gN n x, b1, essW_img (f := gN n) (fun v cv => (F2 v (g_in cv).2).1) (fun u y cu cy e => ?_) x cx, b3⟩
    obtain ⟨l, hl, h4⟩ := sxW_bit.mp e
    obtain ⟨u1, u2, u3⟩ := F2 u (g_in cu).2
    obtain ⟨y1, y2, y3⟩ := F2 y (g_in cy).2
    refine sxW_bit.mpr ⟨l, hl, (f_edge n1 n6 u1 y1 hl u2 y2).mp ?_⟩
    rw [u3, y3]
    exact h4
theorem f_wn (n1 : 1 ≤ n) (n6 : n ≤ 6) {N : Nat → Nat} (g : WNp (fW w n M) (essW (fW w n M)) N 16384) : WNp (gW w n M) (essW (gW w n M)) N 16384 :=
  (f_rnm n1 n6).wn (fun v x l hv hx hl cv cx => f_edge n1 n6 hv hx hl (f_in cv).2 (f_in cx).2) g
end FE
