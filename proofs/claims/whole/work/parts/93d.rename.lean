/-! WIDE GRAPHS: vertices renamed, their order kept -/
def Rnm (C C' : Nat) (f : Nat → Nat) : Prop := (∀ v, v < 64 → C.testBit v = true → f v < 64 ∧ C'.testBit (f v) = true) ∧ (∀ w, w < 64 → C'.testBit w = true → ∃ v, v < 64 ∧ C.testBit v = true ∧ f v = w) ∧ (∀ u v, u < 64 → v < 64 → C.testBit u = true → C.testBit v = true → u < v → f u < f v)
theorem Rnm.num {C C' : Nat} {f : Nat → Nat} (R : Rnm C C' f) : ∀ v, v < 64 → C.testBit v = true → und C' (f v) = und C v := by
  intro v
  induction v using Nat.strongRecOn with
  | ind v ih =>
    intro hv cv
    obtain ⟨f1, f2⟩ := R.1 v hv cv
    rcases Nat.lt_trichotomy (und C' (f v)) (und C v) with h | h | h
    · exfalso
      obtain ⟨u, u1, u2, u3⟩ := und_surj v _ h
      have e := ih u u1 (by omega) u2
      have := und_inj (R.1 u (by omega) u2).2 f2 (by omega)
      have := R.2.2 u v (by omega) hv u2 cv u1
      omega
    · exact h
    · exfalso
      obtain ⟨w, w1, w2, w3⟩ := und_surj (f v) _ h
      obtain ⟨u, u1, u2, rfl⟩ := R.2.1 w (by omega) w2
      have huv : u < v := by
        apply Classical.byContradiction
        intro hn
        rcases Nat.lt_or_eq_of_le (Nat.not_lt.mp hn) with q | q
        · have := R.2.2 v u hv u1 cv u2 q
          omega
        · subst q
          omega
      have e := ih u huv u1 u2
      have := und_inj u2 cv (by omega)
      omega
/-- the stored graph does not know the names -/
theorem Rnm.wn {C C' : Nat} {f : Nat → Nat} (R : Rnm C C' f) {W W' N : Nat → Nat} (hw : ∀ v x l, v < 64 → x < 64 → l < 4 → C.testBit v = true → C.testBit x = true → ((W' (4 * f v + l)).testBit (f x) = true ↔ (W (4 * v + l)).testBit x = true)) (g : WNp W C N 16384) : WNp W' C' N 16384 := by
  intro k l hk hl
  obtain ⟨g1, g2⟩ := g k l hk hl
  refine ⟨g1, fun i => ?_⟩
  rw [g2 i]
  constructor
  · rintro ⟨v, x, h1, h2, h3, h4, h5, h6, h7, h8⟩
    obtain ⟨a1, a2⟩ := R.1 v h1 h3
    obtain ⟨b1, b2⟩ := R.1 x h2 h4
    exact ⟨f v, f x, a1, b1, a2, b2, (R.num v h1 h3).trans h5, (R.num x h2 h4).trans h6, (hw v x l h1 h2 hl h3 h4).mpr h7, by omega⟩
  · rintro ⟨v', x', h1, h2, h3, h4, h5, h6, h7, h8⟩
    obtain ⟨v, a1, a2, rfl⟩ := R.2.1 v' h1 h3
    obtain ⟨x, b1, b2, rfl⟩ := R.2.1 x' h2 h4
    exact ⟨v, x, a1, b1, a2, b2, (R.num v a1 a2).symm.trans h5, (R.num x b1 b2).symm.trans h6, (hw v x l a1 b1 hl a2 b2).mp h7, by omega⟩
