/-! CALLS: forbidden -/
/-- the tail behind one letter more -/
def tlA (M : Nat → Nat) (t : Option Nat) (l : Nat) : Nat := match t with
  | none => ess M
  | some T => ims M T l
/-- how many minimal forbidden words go on so, with m letters to come -/
def cf (M : Nat → Nat) : Nat → Nat → Option Nat → Nat
  | 0, _, _ => 0
  | m + 1, S, t => (((if m = 0 then (if ims M S 0 = 0 ∧ tlA M t 0 ≠ 0 then 1 else 0) else if ims M S 0 = 0 then 0 else cf M m (ims M S 0) (some (tlA M t 0))) + (if m = 0 then (if ims M S 1 = 0 ∧ tlA M t 1 ≠ 0 then 1 else 0) else if ims M S 1 = 0 then 0 else cf M m (ims M S 1) (some (tlA M t 1)))) + (if m = 0 then (if ims M S 2 = 0 ∧ tlA M t 2 ≠ 0 then 1 else 0) else if ims M S 2 = 0 then 0 else cf M m (ims M S 2) (some (tlA M t 2)))) + (if m = 0 then (if ims M S 3 = 0 ∧ tlA M t 3 ≠ 0 then 1 else 0) else if ims M S 3 = 0 then 0 else cf M m (ims M S 3) (some (tlA M t 3)))
/-- by one letter -/
def cfB (M : Nat → Nat) (m S : Nat) (t : Option Nat) (l : Nat) : Nat := if m = 0 then (if ims M S l = 0 ∧ tlA M t l ≠ 0 then 1 else 0) else if ims M S l = 0 then 0 else cf M m (ims M S l) (some (tlA M t l))
def cfs (M : Nat → Nat) (m S : Nat) (t : Option Nat) : Nat → Nat
  | 0 => 0
  | l + 1 => cfs M m S t l + cfB M m S t l
theorem cfs4 (M : Nat → Nat) (m S : Nat) (t : Option Nat) : cfs M m S t 4 = cf M (m + 1) S t := by
  rw [cf]
  simp only [cfs, cfB, Nat.zero_add]
/-- whether word number k of m letters is one -/
def PP (M : Nat → Nat) : Nat → Nat → Option Nat → Nat → Bool
  | 0, _, _, _ => false
  | m + 1, S, t, k => if m = 0 then decide (ims M S (k / 4 ^ m) = 0 ∧ tlA M t (k / 4 ^ m) ≠ 0) else !decide (ims M S (k / 4 ^ m) = 0) && PP M m (ims M S (k / 4 ^ m)) (some (tlA M t (k / 4 ^ m))) (k % 4 ^ m)
theorem cnt_app {p : Nat → Bool} (a b : Nat) : cnt p (a + b) = cnt p a + cnt (fun k => p (a + k)) b := by
  induction b with
  | zero => rfl
  | succ b ih => rw [← Nat.add_assoc, cnt, cnt, ih]; omega
theorem cnt_cong {p q : Nat → Bool} {n : Nat} (h : ∀ k, k < n → p k = q k) : cnt p n = cnt q n := by
  induction n with
  | zero => rfl
  | succ n ih => rw [cnt, cnt, ih (fun k hk => h k (by omega)), h n (by omega)]
theorem cnt_false {p : Nat → Bool} {n : Nat} (h : ∀ k, k < n → p k = false) : cnt p n = 0 := by
  induction n with
  | zero => rfl
  | succ n ih => rw [cnt, ih (fun k hk => h k (by omega)), h n (by omega)]; rfl
/-- words that begin with the letters under l -/
theorem cnt_PP (M : Nat → Nat) (m : Nat) : ∀ S t, (∀ l, l ≤ 4 → cnt (PP M (m + 1) S t) (l * 4 ^ m) = cfs M m S t l) := by
  induction m with
  | zero =>
    intro S t l hl
    induction l with
    | zero => rfl
    | succ l ih =>
      rw [Nat.pow_zero, Nat.mul_one, cnt, cfs, ← ih (by omega), Nat.pow_zero, Nat.mul_one]
      congr 1
      rw [PP, if_pos rfl, Nat.pow_zero, Nat.div_one]
      unfold cfB
      rw [if_pos rfl]
      by_cases h : ims M S l = 0 ∧ tlA M t l ≠ 0
      · rw [if_pos h, decide_eq_true h, if_pos rfl]
      · rw [if_neg h, decide_eq_false h, if_neg (by decide)]
  | succ m ih =>
    intro S t l hl
    induction l with
    | zero => rw [Nat.zero_mul]; rfl
    | succ l ihl =>
      have hp : 0 < 4 ^ (m + 1) := Nat.pow_pos (by decide)
      rw [Nat.add_mul, Nat.one_mul, cnt_app, ihl (by omega), cfs]
      congr 1
      have e : ∀ k, k < 4 ^ (m + 1) → PP M (m + 1 + 1) S t (l * 4 ^ (m + 1) + k) = (!decide (ims M S l = 0) && PP M (m + 1) (ims M S l) (some (tlA M t l)) k) := by
        intro k hk
        have e1 : (l * 4 ^ (m + 1) + k) / 4 ^ (m + 1) = l := by
          rw [Nat.mul_comm, Nat.mul_add_div hp, Nat.div_eq_of_lt hk, Nat.add_zero]
        have e2 : (l * 4 ^ (m + 1) + k) % 4 ^ (m + 1) = k := by
          rw [Nat.mul_comm, Nat.mul_add_mod, Nat.mod_eq_of_lt hk]
        rw [PP, if_neg (by omega), e1, e2]
      rw [cnt_cong e]
      unfold cfB
      rw [if_neg (by omega)]
      by_cases h : ims M S l = 0
      · rw [if_pos h, decide_eq_true h]
        exact cnt_false (fun k _ => rfl)
      · rw [if_neg h, decide_eq_false h]
        have := ih (ims M S l) (some (tlA M t l)) 4 (by decide)
        rw [cfs4] at this
        rw [← this, show 4 * 4 ^ m = 4 ^ (m + 1) by rw [Nat.pow_succ, Nat.mul_comm]]
        exact cnt_cong (fun k _ => by simp)
theorem cnt_PPn (M : Nat → Nat) (m S : Nat) (t : Option Nat) : cnt (PP M (m + 1) S t) (4 ^ (m + 1)) = cf M (m + 1) S t := by
  have := cnt_PP M m S t 4 (by decide)
  rw [cfs4, show 4 * 4 ^ m = 4 ^ (m + 1) by rw [Nat.pow_succ, Nat.mul_comm]] at this
  exact this
theorem cf_le (M : Nat → Nat) {m : Nat} (S : Nat) (t : Option Nat) (hm : m ≤ 6) : cf M m S t ≤ 4096 := by
  cases m with
  | zero => exact Nat.zero_le _
  | succ m =>
    rw [← cnt_PPn]
    have h1 := cnt_le (PP M (m + 1) S t) (4 ^ (m + 1))
    have h2 : 4 ^ (m + 1) ≤ 4 ^ 6 := Nat.pow_le_pow_right (by decide) hm
    have h3 : (4 : Nat) ^ 6 = 4096 := by decide
    omega
theorem cfB_le (M : Nat → Nat) {m : Nat} (S : Nat) (t : Option Nat) (l : Nat) (hm : m ≤ 6) : cfB M m S t l ≤ 4096 := by
  unfold cfB
  split
  · split <;> decide
  · split
    · decide
    · exact cf_le M _ _ hm
/-- the i-th letter of word number k of n letters -/
def dgt (n k j : Nat) : Nat := k / 4 ^ (n - 1 - j) % 4
theorem dgt_mod {m k i : Nat} (h : i < m) : k % 4 ^ m / 4 ^ i % 4 = k / 4 ^ i % 4 := by
  have e : 4 ^ m = 4 ^ i * 4 ^ (m - i) := by rw [← Nat.pow_add]; congr 1; omega
  rw [e, Nat.mod_mul_right_div_self, Nat.mod_mod_of_dvd]
  exact ⟨4 ^ (m - i - 1), by rw [Nat.mul_comm, ← Nat.pow_succ]; congr 1; omega⟩
theorem bh_dead {M w : Nat → Nat} {S a : Nat} (k j : Nat) (h : bh M w S a k = 0) : bh M w S a (k + j) = 0 := by
  induction j with
  | zero => exact h
  | succ j ih => rw [← Nat.add_assoc, bh, ih, ims_0]
theorem bh_front {M w : Nat → Nat} {S a : Nat} (k : Nat) : bh M w S a (k + 1) = bh M w (ims M S (w a)) (a + 1) k := by
  induction k with
  | zero => rw [bh, bh, bh, Nat.add_zero]
  | succ k ih => rw [bh, ih, bh]; congr 2; omega
theorem PP_bh (M w : Nat → Nat) (m : Nat) : ∀ S t a k, k < 4 ^ (m + 1) → (∀ j, j < m + 1 → w (a + j) = k / 4 ^ (m - j) % 4) → (PP M (m + 1) S t k = true ↔ (bh M w S a m ≠ 0 ∨ m = 0) ∧ bh M w S a (m + 1) = 0 ∧ bh M w (tlA M t (w a)) (a + 1) m ≠ 0) := by
  induction m with
  | zero =>
    intro S t a k hk hw
    have e0 := hw 0 (by decide)
    rw [Nat.add_zero, Nat.sub_zero, Nat.pow_zero, Nat.div_one, Nat.mod_eq_of_lt (by simpa using hk)] at e0
    rw [PP, if_pos rfl, Nat.pow_zero, Nat.div_one, decide_eq_true_iff, ← e0, bh_front, bh, bh]
    exact ⟨fun h => ⟨Or.inr rfl, h.1, h.2⟩, fun h => ⟨h.2.1, h.2.2⟩⟩
  | succ m ih =>
    intro S t a k hk hw
    have hp : 0 < 4 ^ (m + 1) := Nat.pow_pos (by decide)
    have e0 := hw 0 (by omega)
    have hlt : k / 4 ^ (m + 1) < 4 := by
      rw [Nat.div_lt_iff_lt_mul hp]
      rw [Nat.pow_succ, Nat.mul_comm] at hk
      exact hk
    rw [Nat.add_zero, Nat.sub_zero, Nat.mod_eq_of_lt hlt] at e0
    rw [PP, if_neg (by omega), Bool.and_eq_true, ← e0]
    have hih := ih (ims M S (w a)) (some (tlA M t (w a))) (a + 1) (k % 4 ^ (m + 1)) (Nat.mod_lt _ hp) (fun j hj => by
      rw [show a + 1 + j = a + (j + 1) by omega, hw (j + 1) (by omega), show m + 1 - (j + 1) = m - j by omega, dgt_mod (by omega)])
    have f1 : bh M w S a (m + 1) = bh M w (ims M S (w a)) (a + 1) m := bh_front m
    have f2 : bh M w S a (m + 1 + 1) = bh M w (ims M S (w a)) (a + 1) (m + 1) := bh_front (m + 1)
    have f3 : bh M w (tlA M t (w a)) (a + 1) (m + 1) = bh M w (tlA M (some (tlA M t (w a))) (w (a + 1))) (a + 1 + 1) m := bh_front m
    rw [hih, f1, f2, f3]
    constructor
    · rintro ⟨h1, h2, h3, h4⟩
      have h1' : ims M S (w a) ≠ 0 := by simpa using h1
      refine ⟨Or.inl ?_, h3, h4⟩
      rcases h2 with q | q
      · exact q
      · subst q; rw [bh]; exact h1'
    · rintro ⟨h2, h3, h4⟩
      have h2' : bh M w (ims M S (w a)) (a + 1) m ≠ 0 := h2.resolve_right (by omega)
      have h1' : ims M S (w a) ≠ 0 := fun e => h2' (by
        have := bh_dead (M := M) (w := w) (S := ims M S (w a)) (a := a + 1) 0 m e
        rw [Nat.zero_add] at this
        exact this)
      exact ⟨by simpa using h1', Or.inl h2', h3, h4⟩
/-! the object -/
section FB
variable {h : ZH} {M : Nat → Nat}
/-- how a tail stands in the object: -1 for none -/
def ttl (M : Nat → Nat) (x : Int32) (t : Option Nat) : Prop := match t with
  | none => x = -1
  | some T => ∃ j, x = nI j ∧ stt (LL M) j T
theorem stt255 {j S : Nat} (h : stt (LL M) j S) : j ≤ 255 ∧ (j = 255 ↔ S = 0) := by
  have gd := LL_good M
  have hl : (LL M).length ≤ 255 := gd.len
  rcases h with ⟨h1, h2⟩ | h
  · exact ⟨by omega, fun _ => h1, fun _ => h2⟩
  · have := (List.getElem?_eq_some_iff.mp h).1
    have h3 := (gd.2 S (List.mem_of_getElem? h)).1
    exact ⟨by omega, fun e => by omega, fun e => absurd e h3⟩
theorem tailAfter_ok (hs : Sh h) (au : aut 37 M h) {x : Int32} {t : Option Nat} {l : Nat} (ht : ttl M x t) (hl : l < 4) : ∃ j, fX6_tailAfter 37 x (nI l) h = some (nI j, h) ∧ stt (LL M) j (tlA M t l) := by
  have gd := LL_good M
  have g := sub37 hs
  unfold fX6_tailAfter bX6_tailAfter_18
  rw [if_pos ⟨g.1.1, g.1.2.1⟩]
  cases t with
  | none =>
    have hx : x = -1 := ht
    obtain ⟨j, e, s⟩ := start_ok g au gd
    rw [if_pos hx, e, bsm]
    exact ⟨j, rfl, s⟩
  | some T =>
    obtain ⟨j, hx, st⟩ := ht
    have hj := (stt255 st).1
    obtain ⟨k, e, s⟩ := after_ok g au gd (fun l => ims_0 l) st hl
    rw [hx, if_neg (by rw [nm1 (by omega)]; exact fun q => q), e, bsm]
    exact ⟨k, rfl, s⟩
theorem cfBy_ok {rec : Nat → Int32 → Int32 → Int32 → ZH → Option (Int32 × ZH)} (hs : Sh h) (au : aut 37 M h) {m S j l : Nat} {x : Int32} {t : Option Nat} (hm : m < 6) (st : stt (LL M) j S) (ht : ttl M x t) (hl : l < 4) (hrec : m ≠ 0 → ∀ j' S' j2 T, stt (LL M) j' S' → stt (LL M) j2 T → rec 37 (nI m) (nI j') (nI j2) h = some (nI (cf M m S' (some T)), h)) : fX6_countForbiddenBy rec 37 (nI (m + 1)) (nI j) x (nI l) h = some (nI (cfB M m S t l), h) := by
  have g := sub37 hs
  obtain ⟨j1, e1, s1⟩ := after_ok g au (LL_good M) (fun l => ims_0 l) st hl
  obtain ⟨j2, e2, s2⟩ := tailAfter_ok hs au ht hl
  have b1 := stt255 s1
  have b2 := stt255 s2
  unfold fX6_countForbiddenBy bX6_countForbiddenBy_68 bX6_countForbiddenBy_43 bX6_countForbiddenBy_44 cfB
  rw [if_pos ⟨g.1.1, g.1.2.1⟩, e1, bsm, e2, bsm]
  by_cases hm0 : m = 0
  · subst hm0
    rw [if_neg (nI_nlt (Nat.le_refl 1) (by decide)), if_pos rfl]
    by_cases z1 : ims M S l = 0
    · rw [if_pos (show nI j1 = nI 255 by rw [b1.2.mpr z1])]
      by_cases z2 : tlA M t l = 0
      · rw [if_pos (show nI j2 = nI 255 by rw [b2.2.mpr z2]), if_neg (fun q => q.2 z2)]
      · rw [if_neg (fun q => z2 (b2.2.mp ((nI_eq (by omega) (by decide)).mp q))), if_pos ⟨z1, z2⟩]
    · rw [if_neg (fun q => z1 (b1.2.mp ((nI_eq (by omega) (by decide)).mp q))), if_neg (fun q => z1 q.1)]
  · rw [if_pos (nI_lt (by omega) (by omega)), if_neg hm0]
    by_cases z1 : ims M S l = 0
    · rw [if_pos (show nI j1 = nI 255 by rw [b1.2.mpr z1]), if_pos z1]
    · rw [if_neg (fun q => z1 (b1.2.mp ((nI_eq (by omega) (by decide)).mp q))), if_neg z1, pk_sub (by omega), Nat.add_sub_cancel, hrec hm0 j1 _ j2 _ s1 s2, bsm]
theorem cfFrom_ok (hs : Sh h) (au : aut 37 M h) (m : Nat) : ∀ (f S j : Nat) (x : Int32) (t : Option Nat), m < 6 → m < f → stt (LL M) j S → ttl M x t → fX6_countForbiddenFrom f 37 (nI (m + 1)) (nI j) x h = some (nI (cf M (m + 1) S t), h) := by
  have g := sub37 hs
  induction m with
  | zero =>
    intro f S j x t hm hf st ht
    obtain ⟨f, rfl⟩ : ∃ k, f = k + 1 := ⟨f - 1, by omega⟩
    rw [fX6_countForbiddenFrom]
    unfold gX6_countForbiddenFrom
    rw [if_pos ⟨g.1.1, g.1.2.1⟩, ← cfs4]
    refine zloop_run (fun l => (nI (cfs M 0 S t l), nI l, h)) 4 (fun l hl self => ?_) (fun self => ?_) (by decide)
    · show kX6_countForbiddenFrom_6 (fX6_countForbiddenFrom f) 37 (nI (0 + 1)) (nI j) x self _ _ h = _
      unfold kX6_countForbiddenFrom_6
      rw [if_neg (nI_ge hl (by decide)), cfBy_ok (m := 0) hs au (by decide) st ht hl (fun e => absurd rfl e), bsm, zl_eq, nI_add, nI_add, cfs]
    · show kX6_countForbiddenFrom_6 (fX6_countForbiddenFrom f) 37 (nI (0 + 1)) (nI j) x self _ _ h = _
      unfold kX6_countForbiddenFrom_6
      rw [if_pos (nI_le (Nat.le_refl 4) (by decide))]
  | succ m ih =>
    intro f S j x t hm hf st ht
    obtain ⟨f, rfl⟩ : ∃ k, f = k + 1 := ⟨f - 1, by omega⟩
    rw [fX6_countForbiddenFrom]
    unfold gX6_countForbiddenFrom
    rw [if_pos ⟨g.1.1, g.1.2.1⟩, ← cfs4]
    refine zloop_run (fun l => (nI (cfs M (m + 1) S t l), nI l, h)) 4 (fun l hl self => ?_) (fun self => ?_) (by decide)
    · show kX6_countForbiddenFrom_6 (fX6_countForbiddenFrom f) 37 (nI (m + 1 + 1)) (nI j) x self _ _ h = _
      unfold kX6_countForbiddenFrom_6
      rw [if_neg (nI_ge hl (by decide)), cfBy_ok (m := m + 1) hs au hm st ht hl (fun _ j' S' j2 T s1 s2 => ih f S' j' (nI j2) (some T) (by omega) (by omega) s1 ⟨j2, rfl, s2⟩), bsm, zl_eq, nI_add, nI_add, cfs]
    · show kX6_countForbiddenFrom_6 (fX6_countForbiddenFrom f) 37 (nI (m + 1 + 1)) (nI j) x self _ _ h = _
      unfold kX6_countForbiddenFrom_6
      rw [if_pos (nI_le (Nat.le_refl 4) (by decide))]
theorem countForbidden_ok (hs : Sh h) (au : aut 37 M h) {m : Nat} (hm : m < 6) : fX6_countForbidden 37 (nI (m + 1)) h = some (nI (cf M (m + 1) (ess M) none), h) := by
  have g := sub37 hs
  obtain ⟨j, e, s⟩ := start_ok g au (LL_good M)
  unfold fX6_countForbidden bX6_countForbidden_24
  rw [if_pos ⟨g.1.1, g.1.2.1⟩, isWithin_ok (show 1 ≤ m + 1 by omega) (show m + 1 ≤ 6 by omega) (by decide), bsm, if_neg ne10, e, bsm, cfFrom_ok hs au m 8 (ess M) j (-1) none hm (by omega) s rfl, bsm]
end FB
