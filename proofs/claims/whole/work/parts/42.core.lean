/-! THE ESSENTIAL PART: taking away what has no way in or out, till nothing changes -/
def itr (f : Nat → Nat) : Nat → Nat → Nat
  | 0, x => x
  | n + 1, x => f (itr f n x)
def cnt (p : Nat → Bool) : Nat → Nat
  | 0 => 0
  | n + 1 => cnt p n + (if p n = true then 1 else 0)
theorem cnt_le (p : Nat → Bool) (n : Nat) : cnt p n ≤ n := by
  induction n with
  | zero => exact Nat.le_refl 0
  | succ n ih => rw [cnt]; split <;> omega
theorem cnt_sub {p q : Nat → Bool} {n : Nat} (h : ∀ k, k < n → q k = true → p k = true) : cnt q n ≤ cnt p n := by
  induction n with
  | zero => exact Nat.le_refl 0
  | succ n ih =>
    have := ih (fun k hk => h k (by omega))
    rw [cnt, cnt]
    by_cases hq : q n = true
    · rw [if_pos hq, if_pos (h n (by omega) hq)]; omega
    · rw [if_neg hq]; split <;> omega
theorem cnt_lt {p q : Nat → Bool} {n : Nat} (h : ∀ k, k < n → q k = true → p k = true) {i : Nat} (hi : i < n) (hp : p i = true) (hq : q i = false) : cnt q n < cnt p n := by
  induction n with
  | zero => omega
  | succ n ih =>
    rw [cnt, cnt]
    by_cases e : i = n
    · subst e
      have := cnt_sub (p := p) (q := q) (n := i) (fun k hk => h k (by omega))
      rw [hq, hp]
      simp
      omega
    · have := ih (fun k hk => h k (by omega)) (by omega)
      by_cases hqn : q n = true
      · rw [if_pos hqn, if_pos (h n (by omega) hqn)]; omega
      · rw [if_neg hqn]; split <;> omega
/-- a set that only loses stands still after as many steps as it has places -/
theorem itr_lt {f : Nat → Nat} {n S : Nat} (hf : ∀ T, T < 2 ^ n → f T &&& T = f T) (hS : S < 2 ^ n) (j : Nat) : itr f j S < 2 ^ n := by
  induction j with
  | zero => exact hS
  | succ j ih =>
    show f (itr f j S) < 2 ^ n
    rw [← hf _ ih]
    exact Nat.lt_of_le_of_lt Nat.and_le_right ih
theorem itr_cnt {f : Nat → Nat} {n S : Nat} (hf : ∀ T, T < 2 ^ n → f T &&& T = f T) (hS : S < 2 ^ n) (j : Nat) (hne : ∀ i, i < j → itr f (i + 1) S ≠ itr f i S) : cnt (fun k => (itr f j S).testBit k) n + j ≤ n := by
  induction j with
  | zero => exact cnt_le _ n
  | succ j ih =>
    have h1 := ih (fun i hi => hne i (by omega))
    have hl := itr_lt hf hS j
    have hsub : itr f (j + 1) S &&& itr f j S = itr f (j + 1) S := hf _ hl
    have hlt : cnt (fun k => (itr f (j + 1) S).testBit k) n < cnt (fun k => (itr f j S).testBit k) n := by
      have hin : ∀ k, (itr f (j + 1) S).testBit k = true → (itr f j S).testBit k = true := by
        intro k hk
        rw [← hsub, Nat.testBit_and, Bool.and_eq_true] at hk
        exact hk.2
      obtain ⟨i, hi⟩ : ∃ i, (itr f (j + 1) S).testBit i ≠ (itr f j S).testBit i := by
        apply Classical.byContradiction
        intro hno
        exact hne j (by omega) (Nat.eq_of_testBit_eq (fun i => Classical.byContradiction (fun h => hno ⟨i, h⟩)))
      have hp : (itr f j S).testBit i = true := by
        cases h : (itr f j S).testBit i
        · cases h2 : (itr f (j + 1) S).testBit i
          · rw [h, h2] at hi; exact absurd rfl hi
          · rw [hin i h2] at h; cases h
        · rfl
      have hq : (itr f (j + 1) S).testBit i = false := by
        cases h2 : (itr f (j + 1) S).testBit i
        · rfl
        · rw [hp, h2] at hi; exact absurd rfl hi
      have hin2 : i < n := by
        apply Classical.byContradiction
        intro hge
        have := Nat.testBit_lt_two_pow (x := itr f j S) (i := i) (Nat.lt_of_lt_of_le hl (Nat.pow_le_pow_right (by decide) (by omega)))
        rw [hp] at this
        cases this
      exact cnt_lt (fun k _ h => hin k h) hin2 hp hq
    omega
/-- the first step at which nothing changes -/
theorem itr_stop {f : Nat → Nat} {n S : Nat} (hf : ∀ T, T < 2 ^ n → f T &&& T = f T) (hS : S < 2 ^ n) : ∃ m, m ≤ n ∧ itr f (m + 1) S = itr f m S ∧ ∀ i, i < m → itr f (i + 1) S ≠ itr f i S := by
  have hex : ∃ m, itr f (m + 1) S = itr f m S := by
    apply Classical.byContradiction
    intro hno
    have := itr_cnt hf hS (n + 1) (fun i _ h => hno ⟨i, h⟩)
    omega
  obtain ⟨m, hm, hmin⟩ := pk_least (fun m => itr f (m + 1) S = itr f m S) hex
  refine ⟨m, ?_, hm, hmin⟩
  have := itr_cnt hf hS m hmin
  omega
theorem itr_const {f : Nat → Nat} {S m : Nat} (hm : itr f (m + 1) S = itr f m S) (j : Nat) : itr f (m + j) S = itr f m S := by
  induction j with
  | zero => rfl
  | succ j ih =>
    show f (itr f (m + j) S) = itr f m S
    rw [ih]
    exact hm
theorem itr_end {f : Nat → Nat} {n S m : Nat} (hm : itr f (m + 1) S = itr f m S) (h : m ≤ n) : itr f n S = itr f m S := by
  obtain ⟨j, rfl⟩ : ∃ j, n = m + j := ⟨n - m, by omega⟩
  exact itr_const hm j
def ess (M : Nat → Nat) : Nat := itr (cs M) 8 255
theorem cs_sub (M : Nat → Nat) (T : Nat) : cs M T &&& T = cs M T := by
  apply Nat.eq_of_testBit_eq
  intro i
  simp only [cs, Nat.testBit_and]
  cases T.testBit i <;> simp
theorem cs_itr_lt (M : Nat → Nat) (j : Nat) : itr (cs M) j 255 < 256 := itr_lt (n := 8) (fun T _ => cs_sub M T) (by decide) j
theorem ess_lt (M : Nat → Nat) : ess M < 256 := cs_itr_lt M 8
theorem ess_fix (M : Nat → Nat) : cs M (ess M) = ess M := by
  obtain ⟨m, h1, h2, -⟩ := itr_stop (f := cs M) (n := 8) (S := 255) (fun T _ => cs_sub M T) (by decide)
  have e8 : ess M = itr (cs M) m 255 := itr_end h2 h1
  rw [e8]
  exact h2
section GC
variable {h : ZH} {a m : Nat} {M : Nat → Nat}
theorem core_ok (g : isG h a m) (hM : hasM h m M) : fX1_core a h = some (nI (ess M), h) := by
  unfold fX1_core
  rw [if_pos ⟨g.1.1, g.1.2.1⟩]
  obtain ⟨t, h1, h2, h3⟩ := itr_stop (f := cs M) (n := 8) (S := 255) (fun T _ => cs_sub M T) (by decide)
  have e8 : ess M = itr (cs M) (t + 1) 255 := (itr_end h2 h1).trans h2.symm
  have step : ∀ j, ∀ self, j ≤ 8 → kX1_core_8 a self (nI (itr (cs M) j 255)) (nI 1) (nI j) h = self (nI (itr (cs M) (j + 1) 255), (if itr (cs M) (j + 1) 255 = itr (cs M) j 255 then nI 0 else nI 1), nI (j + 1), h) := by
    intro j self hj
    have hl := cs_itr_lt M j
    have hl2 := cs_itr_lt M (j + 1)
    unfold kX1_core_8
    rw [if_neg (by rw [nI_ltI (by decide) (by omega)]; omega), if_neg ne10, followAny_ok g hM (by omega), Option.bind_some, verticesInto_ok g hM (by omega), Option.bind_some]
    unfold zl bX1_core_44
    rw [nb_and, nb_and]
    show (if nI (itr (cs M) (j + 1) 255) = nI (itr (cs M) j 255) then self (nI (itr (cs M) (j + 1) 255), nI 0, nI j + nI 1, h) else self (nI (itr (cs M) (j + 1) 255), nI 1, nI j + nI 1, h)) = _
    rw [nI_add]
    by_cases e : itr (cs M) (j + 1) 255 = itr (cs M) j 255
    · rw [if_pos (by rw [e]), if_pos e]
    · rw [if_neg (fun q => e ((nb_eq (by omega) (by omega)).mp q)), if_neg e]
  refine zloop_run (fun j => (nI (itr (cs M) j 255), (if j = t + 1 then nI 0 else nI 1), nI j, h)) (t + 1) (fun j hj self => ?_) (fun self => ?_) (by show t + 1 < 100000; omega)
  · show kX1_core_8 a self (nI (itr (cs M) j 255)) (if j = t + 1 then nI 0 else nI 1) (nI j) h = _
    rw [if_neg (by omega), step j self (by omega)]
    by_cases e : j = t
    · subst e; rw [if_pos h2, if_pos rfl]
    · rw [if_neg (h3 j (by omega)), if_neg (by omega)]
  · show kX1_core_8 a self (nI (itr (cs M) (t + 1) 255)) (if t + 1 = t + 1 then nI 0 else nI 1) (nI (t + 1)) h = _
    rw [if_pos rfl]
    unfold kX1_core_8
    rw [if_pos (c := nI 0 = 0) rfl, e8]
    unfold bX1_core_54
    split <;> rfl
end GC
