/-! UNION: the reference appends a core -/
def ANq (Z R : Nat → Nat) (E o : Nat) (N : Nat → Nat) (e : Nat) : Prop := ∀ k l, k < 8 → l < 4 → N (4 * k + l) < 256 ∧ ∀ i, ((N (4 * k + l)).testBit i = true ↔ (Z (4 * k + l)).testBit i = true ∨ ∃ v x, v < 8 ∧ x < 8 ∧ E.testBit v = true ∧ E.testBit x = true ∧ o + und E v = k ∧ o + und E x = i ∧ (R (4 * v + l)).testBit x = true ∧ 32 * und E v + 8 * l + und E x < e)
theorem und_lt8 {C v : Nat} (hv : v < 8) (hb : C.testBit v = true) : und C v < und C 8 := by
  have h1 : und C (v + 1) = und C v + 1 := und_1 hb
  have h2 : und C (v + 1) ≤ und C 8 := cnt_mono 8 (by omega)
  omega
section A1
variable {Z R N : Nat → Nat} {E o : Nat}
theorem ANq_0 (hZ : ∀ k l, k < 8 → l < 4 → Z (4 * k + l) < 256) : ANq Z R E o Z 0 := by
  intro k l hk hl
  refine ⟨hZ k l hk hl, fun i => ⟨Or.inl, ?_⟩⟩
  rintro (h | ⟨v, x, _, _, _, _, _, _, _, h⟩)
  · exact h
  · omega
theorem ANq_cong {e e' : Nat} (g : ANq Z R E o N e) (h : ∀ v l x, v < 8 → x < 8 → l < 4 → E.testBit v = true → E.testBit x = true → (32 * und E v + 8 * l + und E x < e ↔ 32 * und E v + 8 * l + und E x < e')) : ANq Z R E o N e' := by
  intro k l hk hl
  obtain ⟨g1, g2⟩ := g k l hk hl
  refine ⟨g1, fun i => ?_⟩
  rw [g2 i]
  constructor
  · rintro (q | ⟨v, x, h1, h2, h3, h4, h5, h6, h7, h8⟩)
    · exact Or.inl q
    · exact Or.inr ⟨v, x, h1, h2, h3, h4, h5, h6, h7, (h v l x h1 h2 hl h3 h4).mp h8⟩
  · rintro (q | ⟨v, x, h1, h2, h3, h4, h5, h6, h7, h8⟩)
    · exact Or.inl q
    · exact Or.inr ⟨v, x, h1, h2, h3, h4, h5, h6, h7, (h v l x h1 h2 hl h3 h4).mpr h8⟩
theorem ANq_step {v l x : Nat} (hc : o + und E 8 ≤ 8) (hv : v < 8) (hl : l < 4) (hx : x < 8) (cv : E.testBit v = true) (cx : E.testBit x = true) (g : ANq Z R E o N (32 * und E v + 8 * l + und E x)) : ANq Z R E o (upM N (4 * (o + und E v) + l) (N (4 * (o + und E v) + l) ||| (if (R (4 * v + l)).testBit x = true then 2 ^ (o + und E x) else 0))) (32 * und E v + 8 * l + (und E x + 1)) := by
  have hk := und_lt8 hv cv
  have hj := und_lt8 hx cx
  intro k l' hk8 hl'
  obtain ⟨g1, g2⟩ := g k l' hk8 hl'
  unfold upM
  by_cases e : 4 * k + l' = 4 * (o + und E v) + l
  · have ek : k = o + und E v := by omega
    have el : l' = l := by omega
    subst el
    rw [if_pos e, ← e]
    refine ⟨Nat.or_lt_two_pow (n := 8) g1 (by split; exact Nat.pow_lt_pow_right (by decide) (by omega); decide), fun i => ?_⟩
    rw [or_bit, g2 i]
    constructor
    · rintro ((q | ⟨v', x', h1, h2, h3, h4, h5, h6, h7, h8⟩) | h)
      · exact Or.inl q
      · exact Or.inr ⟨v', x', h1, h2, h3, h4, h5, h6, h7, by omega⟩
      · by_cases wb : (R (4 * v + l')).testBit x = true
        · rw [if_pos wb, pow_bit] at h
          exact Or.inr ⟨v, x, hv, hx, cv, cx, ek.symm, h, wb, by omega⟩
        · rw [if_neg wb, Nat.zero_testBit] at h
          cases h
    · rintro (q | ⟨v', x', h1, h2, h3, h4, h5, h6, h7, h8⟩)
      · exact Or.inl (Or.inl q)
      · by_cases hlt : 32 * und E v' + 8 * l' + und E x' < 32 * und E v + 8 * l' + und E x
        · exact Or.inl (Or.inr ⟨v', x', h1, h2, h3, h4, h5, h6, h7, hlt⟩)
        · right
          have ev : v' = v := und_inj h3 cv (by omega)
          have ex : x' = x := und_inj h4 cx (by omega)
          subst ev
          subst ex
          rw [if_pos h7, pow_bit]
          exact h6
  · rw [if_neg e]
    refine ⟨g1, fun i => ?_⟩
    rw [g2 i]
    constructor
    · rintro (q | ⟨v', x', h1, h2, h3, h4, h5, h6, h7, h8⟩)
      · exact Or.inl q
      · exact Or.inr ⟨v', x', h1, h2, h3, h4, h5, h6, h7, by omega⟩
    · rintro (q | ⟨v', x', h1, h2, h3, h4, h5, h6, h7, h8⟩)
      · exact Or.inl q
      · have := und_lt8 h2 h4
        exact Or.inr ⟨v', x', h1, h2, h3, h4, h5, h6, h7, by omega⟩
end A1
