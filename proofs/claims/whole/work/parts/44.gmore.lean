/-! GRAPHS: the essential part as a graph, strong connection, common divisors, the period -/
def coreM (M : Nat → Nat) : Nat → Nat := fun j => if (ess M).testBit (j / 4) = true then M j &&& ess M else 0
section GX
variable {h : ZH} {a m : Nat} {M : Nat → Nat}
theorem copyCoreOf_ok {a2 m2 : Nat} (g : isG h a m) (g2 : isG h a2 m2) (hne : m2 ≠ m) (hM : hasM h m2 M) : ∃ h', fX1_copyCoreOf a a2 h = some h' ∧ zfr [m] h h' ∧ hasM h' m (coreM M) := by
  have hcl : ∀ j, j < 32 → coreM M j < 256 := by
    intro j hj
    unfold coreM
    split
    · exact Nat.lt_of_le_of_lt Nat.and_le_left (hM j hj).2
    · decide
  refine ⟨zsI h (zfil (zI h) m 32 (fun j => nI (coreM M j))), ?_, zfr_filI, fun j hj => ⟨show zfil (zI h) m 32 (fun j => nI (coreM M j)) m j = _ from zfil_in hj, hcl j hj⟩⟩
  have he := ess_lt M
  unfold fX1_copyCoreOf
  rw [if_pos ⟨g.1.1, g.1.2.1⟩, core_ok g2 hM, Option.bind_some]
  have inner : ∀ v, v < 8 → ∀ self7 : Int32 × ZH → Option ZH, zloop (lX1_copyCoreOf_31 self7 a a2 (nI (ess M)) (nI v) (nI ((ess M).testBit v).toNat)) zfu (nI 0, zsI h (zfil (zI h) m (4 * v) (fun j => nI (coreM M j)))) = self7 (nI (v + 1), zsI h (zfil (zI h) m (4 * (v + 1)) (fun j => nI (coreM M j)))) := by
    intro v hv self7
    refine zloop_run (fun l => (nI l, zsI h (zfil (zI h) m (4 * v + l) (fun j => nI (coreM M j))))) 4 (fun l hl self => ?_) (fun self => ?_) (by decide)
    · show kX1_copyCoreOf_31 self7 a a2 (nI (ess M)) (nI v) (nI ((ess M).testBit v).toNat) self (nI l) _ = _
      have p : zfr [m] h (zsI h (zfil (zI h) m (4 * v + l) (fun j => nI (coreM M j)))) := zfr_filI
      have g' := p.isG g
      have g2' := p.isG g2
      have hM' := p.hasM (by simpa using hne) hM
      have ediv : (4 * v + l) / 4 = v := by omega
      unfold kX1_copyCoreOf_31
      rw [if_neg (nI_ge hl (by decide)), gR_ok g'.1.1 g'.1.2.1, g'.1.2.2, Option.bind_some]
      have fin : ∀ x : Int32, x = nI (coreM M (4 * v + l)) → bX1_copyCoreOf_65 self7 self a a2 (nI (ess M)) (nI v) (nI ((ess M).testBit v).toNat) (nI l) x (nI 4 * nI v + nI l) m (zsI h (zfil (zI h) m (4 * v + l) (fun j => nI (coreM M j)))) = self (nI (l + 1), zsI h (zfil (zI h) m (4 * v + (l + 1)) (fun j => nI (coreM M j)))) := by
        intro x hx
        unfold bX1_copyCoreOf_65
        rw [ix4, (isA_zsI g.2).sI (by omega) (by decide), Option.bind_some, nI_add, zsI_zsI, zI_zsI, hx]
        show self (nI (l + 1), zsI h (zu (zfil (zI h) m (4 * v + l) (fun j => nI (coreM M j))) m (4 * v + l) (nI (coreM M (4 * v + l))))) = _
        rw [zfil_succ (c := fun j => nI (coreM M j))]
        rfl
      by_cases hb : (ess M).testBit v = true
      · rw [if_neg (by rw [hb]; exact ne10), row_ok g2' hM' hv hl, Option.bind_some]
        refine fin _ ?_
        rw [nb_and]
        unfold coreM
        rw [ediv, if_pos hb]
      · have hb' : (ess M).testBit v = false := by simpa using hb
        rw [if_pos (by rw [hb']; rfl)]
        refine fin _ ?_
        unfold coreM
        rw [ediv, if_neg hb]
    · show kX1_copyCoreOf_31 self7 a a2 (nI (ess M)) (nI v) (nI ((ess M).testBit v).toNat) self (nI 4) _ = _
      unfold kX1_copyCoreOf_31
      rw [if_pos (nI_le (Nat.le_refl 4) (by decide)), nI_add]
      rfl
  have key := zloop_run (k := lX1_copyCoreOf_7 a a2 (nI (ess M))) (r := some (zsI h (zfil (zI h) m 32 (fun j => nI (coreM M j))))) (fun v => (nI v, zsI h (zfil (zI h) m (4 * v) (fun j => nI (coreM M j))))) 8 (fun v hv self => ?_) (fun self => ?_) (n := zfu) (by decide)
  · have e0 : zsI h (zfil (zI h) m (4 * 0) (fun j => nI (coreM M j))) = h := by rw [Nat.mul_zero, zfil_0]; rfl
    rw [e0] at key
    exact key
  · show kX1_copyCoreOf_7 a a2 (nI (ess M)) self (nI v) _ = _
    unfold kX1_copyCoreOf_7 bX1_copyCoreOf_26
    rw [if_neg (nI_ge hv (by decide))]
    have hi := inner v hv self
    by_cases hb : (ess M).testBit v = true
    · rw [if_neg (by rw [nb_bit0 (by omega) (by omega), hb]; decide)]
      rw [hb] at hi
      exact hi
    · have hb' : (ess M).testBit v = false := by simpa using hb
      rw [if_pos ((nb_bit0 (by omega) (by omega)).mpr hb')]
      rw [hb'] at hi
      exact hi
  · show kX1_copyCoreOf_7 a a2 (nI (ess M)) self (nI 8) _ = _
    unfold kX1_copyCoreOf_7
    rw [if_pos (nI_le (Nat.le_refl 8) (by decide))]
/-- the lowest member -/
def lob (S : Nat) : Nat := S &&& (256 - S)
theorem lob_ok : ∀ S, S < 256 → nI S &&& (-(nI S)) = nI (lob S) ∧ lob S < 256 := by decide +kernel
def rF (M : Nat → Nat) (j S : Nat) : Nat := itr (fun R => R ||| fa M R) j S
def rB (M : Nat → Nat) (j S : Nat) : Nat := itr (fun R => R ||| vi M R) j S
theorem rF_lt (hM : hasM h m M) {S : Nat} (hS : S < 256) (j : Nat) : rF M j S < 256 := by
  induction j with
  | zero => exact hS
  | succ j ih => exact Nat.or_lt_two_pow (n := 8) ih (fa_lt hM _)
theorem rB_lt (M : Nat → Nat) {S : Nat} (hS : S < 256) (j : Nat) : rB M j S < 256 := by
  induction j with
  | zero => exact hS
  | succ j ih => exact Nat.or_lt_two_pow (n := 8) ih (vi_lt M _)
def scB (M : Nat → Nat) : Bool := !decide (ess M = 0) && decide (rF M 8 (lob (ess M)) = ess M) && decide (rB M 8 (lob (ess M)) = ess M)
theorem stronglyConnected_ok (g : isG h a m) (hM : hasM h m M) : fX1_isStronglyConnected a h = some (nI (scB M).toNat, h) := by
  have he := ess_lt M
  obtain ⟨hl1, hl2⟩ := lob_ok _ he
  unfold fX1_isStronglyConnected
  rw [if_pos ⟨g.1.1, g.1.2.1⟩, core_ok g hM, Option.bind_some]
  unfold zl
  dsimp only
  rw [hl1]
  refine zloop_run (fun j => (nI (rF M j (lob (ess M))), nI (rB M j (lob (ess M))), nI j, h)) 8 (fun j hj self => ?_) (fun self => ?_) (by decide)
  · show kX1_isStronglyConnected_15 a (nI (ess M)) self _ _ _ h = _
    have b1 := rF_lt hM hl2 j
    have b2 := rB_lt M hl2 j
    unfold kX1_isStronglyConnected_15
    rw [if_neg (nI_ge hj (by decide)), followAny_ok g hM (by omega), Option.bind_some]
    unfold zl
    dsimp only
    rw [verticesInto_ok g hM (by omega), Option.bind_some, nb_or, nb_or, nI_add]
    rfl
  · show kX1_isStronglyConnected_15 a (nI (ess M)) self _ _ _ h = _
    have b1 := rF_lt hM hl2 8
    have b2 := rB_lt M hl2 8
    unfold kX1_isStronglyConnected_15 scB
    rw [if_pos (nI_le (Nat.le_refl 8) (by decide))]
    by_cases e0 : ess M = 0
    · rw [if_pos ((nb_z (by omega)).mpr e0)]
      simp only [e0, decide_true, Bool.not_true, Bool.false_and]
      rfl
    · rw [if_neg (fun q => e0 ((nb_z (by omega)).mp q))]
      by_cases e1 : rF M 8 (lob (ess M)) = ess M
      · rw [if_pos (by rw [e1])]
        by_cases e2 : rB M 8 (lob (ess M)) = ess M
        · rw [if_pos (by rw [e2])]
          simp only [e0, e1, e2, decide_true, decide_false, Bool.not_false, Bool.and_self]
          rfl
        · rw [if_neg (fun q => e2 ((nb_eq (by omega) (by omega)).mp q))]
          simp only [e2, decide_false, Bool.and_false]
          rfl
      · rw [if_neg (fun q => e1 ((nb_eq (by omega) (by omega)).mp q))]
        simp only [e1, decide_false, Bool.and_false, Bool.false_and]
        rfl
end GX
/-! common divisors -/
def fibo : Nat → Nat
  | 0 => 0
  | 1 => 1
  | n + 2 => fibo (n + 1) + fibo n
theorem lcmp0 {b : Nat} (hb : b < 2 ^ 63) : (lg_cmp (lN b) (lN 0) = 0) ↔ b = 0 := by
  unfold lg_cmp
  have h1 : lN b < lN 0 ↔ b < 0 := pk_lLT hb (by decide)
  have h2 : lN b = lN 0 ↔ b = 0 := pk_lEQ hb (by decide)
  constructor
  · intro e
    by_cases hz : b = 0
    · exact hz
    · exfalso
      have h3 : lN 0 < lN b ↔ 0 < b := pk_lLT (by decide) hb
      have h4 : 0 < b := by omega
      revert e
      simp [h1, h2, h3, hz, h4]
  · intro e
    subst e
    decide
theorem euclid_step {a b : Nat} (hb : 0 < b) : b + a % b ≤ a ∨ a < b := by
  rcases Nat.lt_or_ge a b with h | h
  · exact Or.inr h
  · left
    have h1 := Nat.div_add_mod a b
    have h2 : 1 ≤ a / b := Nat.div_pos h hb
    have h3 : b * 1 ≤ b * (a / b) := Nat.mul_le_mul_left b h2
    omega
theorem gcdC_ok (n : Nat) : ∀ (a b s fuel : Nat) (h : ZH), a < 2 ^ 63 → b < 2 ^ 63 → b ≤ a → (b < fibo (n + 1) ∨ a < fibo (n + 2)) → s + n ≤ 100 → n < fuel → zloop lX10_commonDivisor_9 fuel (lN a, lN b, nI s, h) = some (lN (Nat.gcd b a), h) := by
  induction n with
  | zero =>
    intro a b s fuel h ha hb hab hf hs hfu
    have hz : b = 0 := by
      rcases hf with q | q
      · have : fibo 1 = 1 := rfl
        simp [fibo] at q; omega
      · simp [fibo] at q; omega
    subst hz
    obtain ⟨fuel, rfl⟩ : ∃ k, fuel = k + 1 := ⟨fuel - 1, by omega⟩
    show kX10_commonDivisor_9 _ (lN a) (lN 0) (nI s) h = _
    unfold kX10_commonDivisor_9 bX10_commonDivisor_44
    rw [if_pos ((lcmp0 (by decide)).mpr rfl), Nat.gcd_zero_left]
    split <;> rfl
  | succ n ih =>
    intro a b s fuel h ha hb hab hf hs hfu
    obtain ⟨fuel, rfl⟩ : ∃ k, fuel = k + 1 := ⟨fuel - 1, by omega⟩
    show kX10_commonDivisor_9 (zloop lX10_commonDivisor_9 fuel) (lN a) (lN b) (nI s) h = _
    unfold kX10_commonDivisor_9 bX10_commonDivisor_44
    by_cases hz : b = 0
    · subst hz
      rw [if_pos ((lcmp0 (by decide)).mpr rfl), Nat.gcd_zero_left]
      split <;> rfl
    · have hlt : a % b < b := Nat.mod_lt _ (by omega)
      have hne : ¬ lN b = 0 := fun q => hz ((pk_lEQ hb (by decide)).mp (q.trans (rfl : (0 : Int64) = lN 0)))
      rw [if_neg (nI_ge (b := 100) (by omega) (by decide)), if_neg (fun q => hz ((lcmp0 hb).mp q)), if_neg hne]
      unfold zl jlrem
      dsimp only
      rw [pk_lRem ha (by omega) hb, nI_add, ih b (a % b) (s + 1) fuel h hb (by omega) (by omega) ?_ (by omega) (by omega)]
      · rw [Nat.gcd_rec b a]
      · have hst := (euclid_step (a := a) (b := b) (by omega)).resolve_right (by omega)
        have hfib : fibo (n + 3) = fibo (n + 2) + fibo (n + 1) := rfl
        rcases hf with q | q
        · exact Or.inr q
        · have q' : a < fibo (n + 3) := q
          rw [hfib] at q'
          by_cases hr : a % b < fibo (n + 1)
          · exact Or.inl hr
          · exact Or.inr (by omega)
theorem fibo91 : 2 ^ 61 < fibo 91 := by decide +kernel
/-- numbers under 2 to the 61st: at most some 90 steps -/
theorem commonDivisor_ok {a b : Nat} (ha : a < 2 ^ 61) (hb : b < 2 ^ 61) (h : ZH) : fX10_commonDivisor (lN a) (lN b) h = some (lN (Nat.gcd a b), h) := by
  unfold fX10_commonDivisor
  have hf := fibo91
  have p61 : (2 : Nat) ^ 61 < 2 ^ 63 := by decide
  by_cases hab : b ≤ a
  · rw [gcdC_ok 89 a b 0 zfu h (by omega) (by omega) hab (Or.inr (by show a < fibo 91; omega)) (by omega) (by decide), Nat.gcd_comm]
  · show kX10_commonDivisor_9 (zloop lX10_commonDivisor_9 99999) (lN a) (lN b) (nI 0) h = _
    unfold kX10_commonDivisor_9 bX10_commonDivisor_44
    have hz : ¬ b = 0 := by omega
    have hne : ¬ lN b = 0 := fun q => hz ((pk_lEQ (by omega) (by decide)).mp (q.trans (rfl : (0 : Int64) = lN 0)))
    rw [if_neg (nI_ge (b := 100) (by omega) (by decide)), if_neg (fun q => hz ((lcmp0 (by omega)).mp q)), if_neg hne]
    unfold zl jlrem
    dsimp only
    rw [pk_lRem (by omega) (by omega) (by omega), nI_add, Nat.mod_eq_of_lt (by omega), gcdC_ok 89 b a 1 99999 h (by omega) (by omega) (by omega) (Or.inr (by show b < fibo 91; omega)) (by omega) (by decide)]
