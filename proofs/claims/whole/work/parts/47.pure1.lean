/-! PURE: sets of vertices as naturals; words; followers -/
def sb (S T : Nat) : Prop := ∀ i, S.testBit i = true → T.testBit i = true
theorem sb_rfl (S : Nat) : sb S S := fun _ h => h
theorem sb_tr {S T U : Nat} (a : sb S T) (b : sb T U) : sb S U := fun i h => b i (a i h)
theorem sb_eq {S T : Nat} (a : sb S T) (b : sb T S) : S = T := by
  apply Nat.eq_of_testBit_eq
  intro i
  cases h1 : S.testBit i <;> cases h2 : T.testBit i
  · rfl
  · rw [b i h2] at h1; cases h1
  · rw [a i h1] at h2; cases h2
  · rfl
theorem nz_bit {S : Nat} : S ≠ 0 ↔ ∃ i, S.testBit i = true := by
  constructor
  · intro h
    apply Classical.byContradiction
    intro hn
    apply h
    apply Nat.eq_of_testBit_eq
    intro i
    rw [Nat.zero_testBit]
    cases hb : S.testBit i
    · rfl
    · exact absurd ⟨i, hb⟩ hn
  · rintro ⟨i, hi⟩ rfl
    rw [Nat.zero_testBit] at hi
    cases hi
theorem tb8 {S i : Nat} (h : S < 256) (hb : S.testBit i = true) : i < 8 := by
  apply Classical.byContradiction
  intro hn
  have := Nat.testBit_lt_two_pow (x := S) (i := i) (Nat.lt_of_lt_of_le h (Nat.pow_le_pow_right (n := 2) (by decide) (show 8 ≤ i by omega)))
  rw [hb] at this
  cases this
theorem sb255 {S : Nat} (h : S < 256) : sb S 255 := by
  intro i hi
  have := tb8 h hi
  rcases (show i = 0 ∨ i = 1 ∨ i = 2 ∨ i = 3 ∨ i = 4 ∨ i = 5 ∨ i = 6 ∨ i = 7 by omega) with rfl | rfl | rfl | rfl | rfl | rfl | rfl | rfl <;> rfl
theorem sb_lt {S T : Nat} (h : sb S T) (hT : T < 256) : S < 256 := by
  have e : S &&& T = S := by
    apply Nat.eq_of_testBit_eq
    intro i
    rw [Nat.testBit_and]
    cases hb : S.testBit i
    · rfl
    · rw [h i hb]; rfl
  rw [← e]
  exact Nat.lt_of_le_of_lt Nat.and_le_right hT
theorem and_bit {S T i : Nat} : (S &&& T).testBit i = true ↔ S.testBit i = true ∧ T.testBit i = true := by
  rw [Nat.testBit_and, Bool.and_eq_true]
theorem or_bit {S T i : Nat} : (S ||| T).testBit i = true ↔ S.testBit i = true ∨ T.testBit i = true := by
  rw [Nat.testBit_or, Bool.or_eq_true]
theorem and_sb {S T : Nat} (h : sb S T) : S &&& T = S := sb_eq (fun i hi => (and_bit.mp hi).1) (fun i hi => and_bit.mpr ⟨hi, h i hi⟩)
theorem pow_bit {v i : Nat} : (2 ^ v).testBit i = true ↔ v = i := by
  rw [Nat.testBit_two_pow]
  simp
section PG
variable {M : Nat → Nat}
theorem sx_bit {v x : Nat} : (sx M v).testBit x = true ↔ ∃ l, l < 4 ∧ (M (4 * v + l)).testBit x = true := by
  unfold sx
  rw [orf_bit]
  simp
theorem fa_bit {S x : Nat} : (fa M S).testBit x = true ↔ ∃ v, v < 8 ∧ S.testBit v = true ∧ ∃ l, l < 4 ∧ (M (4 * v + l)).testBit x = true := by
  unfold fa
  rw [orf_bit]
  simp only [sx_bit]
theorem fo_bit {S l x : Nat} : (fo M S l).testBit x = true ↔ ∃ v, v < 8 ∧ S.testBit v = true ∧ (M (4 * v + l)).testBit x = true := by
  unfold fo
  rw [orf_bit]
theorem vi_bit {S v : Nat} : (vi M S).testBit v = true ↔ v < 8 ∧ ∃ x, S.testBit x = true ∧ ∃ l, l < 4 ∧ (M (4 * v + l)).testBit x = true := by
  unfold vi
  rw [orf_bit]
  constructor
  · rintro ⟨k, h1, h2, h3⟩
    rw [pow_bit] at h3
    subst h3
    refine ⟨h1, ?_⟩
    have h4 : sx M k &&& S ≠ 0 := by simpa using h2
    obtain ⟨x, hx⟩ := nz_bit.mp h4
    rw [and_bit, sx_bit] at hx
    exact ⟨x, hx.2, hx.1⟩
  · rintro ⟨h1, x, hx, hl⟩
    refine ⟨v, h1, ?_, pow_bit.mpr rfl⟩
    have h4 : sx M v &&& S ≠ 0 := nz_bit.mpr ⟨x, and_bit.mpr ⟨sx_bit.mpr hl, hx⟩⟩
    simpa using h4
theorem cs_bit {S x : Nat} : (cs M S).testBit x = true ↔ S.testBit x = true ∧ (fa M S).testBit x = true ∧ (vi M S).testBit x = true := by
  unfold cs
  rw [and_bit, and_bit]
  exact ⟨fun ⟨⟨a, b⟩, c⟩ => ⟨a, b, c⟩, fun ⟨a, b, c⟩ => ⟨⟨a, b⟩, c⟩⟩
theorem fa_mono {S T : Nat} (h : sb S T) : sb (fa M S) (fa M T) := by
  intro x hx
  obtain ⟨v, h1, h2, h3⟩ := fa_bit.mp hx
  exact fa_bit.mpr ⟨v, h1, h v h2, h3⟩
theorem vi_mono {S T : Nat} (h : sb S T) : sb (vi M S) (vi M T) := by
  intro v hv
  obtain ⟨h1, x, h2, h3⟩ := vi_bit.mp hv
  exact vi_bit.mpr ⟨h1, x, h x h2, h3⟩
theorem fo_mono {S T l : Nat} (h : sb S T) : sb (fo M S l) (fo M T l) := by
  intro x hx
  obtain ⟨v, h1, h2, h3⟩ := fo_bit.mp hx
  exact fo_bit.mpr ⟨v, h1, h v h2, h3⟩
theorem cs_mono {S T : Nat} (h : sb S T) : sb (cs M S) (cs M T) := by
  intro x hx
  obtain ⟨h1, h2, h3⟩ := cs_bit.mp hx
  exact cs_bit.mpr ⟨h x h1, fa_mono h x h2, vi_mono h x h3⟩
theorem ess_top {T : Nat} (hT : T < 256) (h : sb T (cs M T)) : sb T (ess M) := by
  have key : ∀ j, sb T (itr (cs M) j 255) := by
    intro j
    induction j with
    | zero => exact sb255 hT
    | succ j ih => exact sb_tr h (cs_mono ih)
  exact key 8
theorem ess_in {x : Nat} (hx : (ess M).testBit x = true) : (fa M (ess M)).testBit x = true ∧ (vi M (ess M)).testBit x = true := by
  rw [← ess_fix, cs_bit] at hx
  exact hx.2
theorem coreM_bit {v l x : Nat} (hl : l < 4) : (coreM M (4 * v + l)).testBit x = true ↔ (ess M).testBit v = true ∧ (M (4 * v + l)).testBit x = true ∧ (ess M).testBit x = true := by
  unfold coreM
  rw [show (4 * v + l) / 4 = v by omega]
  by_cases h : (ess M).testBit v = true
  · rw [if_pos h, and_bit]; simp [h]
  · rw [if_neg h]; simp [h]
theorem fo_core {S l : Nat} (hl : l < 4) (hS : sb S (ess M)) : fo (coreM M) S l = fo M S l &&& ess M := by
  apply sb_eq
  · intro x hx
    obtain ⟨v, h1, h2, h3⟩ := fo_bit.mp hx
    rw [coreM_bit hl] at h3
    exact and_bit.mpr ⟨fo_bit.mpr ⟨v, h1, h2, h3.2.1⟩, h3.2.2⟩
  · intro x hx
    obtain ⟨hx1, hx2⟩ := and_bit.mp hx
    obtain ⟨v, h1, h2, h3⟩ := fo_bit.mp hx1
    exact fo_bit.mpr ⟨v, h1, h2, (coreM_bit hl).mpr ⟨hS v h2, h3, hx2⟩⟩
theorem fa_core {S : Nat} (hS : sb S (ess M)) : fa (coreM M) S = fa M S &&& ess M := by
  apply sb_eq
  · intro x hx
    obtain ⟨v, h1, h2, l, hl, h3⟩ := fa_bit.mp hx
    rw [coreM_bit hl] at h3
    exact and_bit.mpr ⟨fa_bit.mpr ⟨v, h1, h2, l, hl, h3.2.1⟩, h3.2.2⟩
  · intro x hx
    obtain ⟨hx1, hx2⟩ := and_bit.mp hx
    obtain ⟨v, h1, h2, l, hl, h3⟩ := fa_bit.mp hx1
    exact fa_bit.mpr ⟨v, h1, h2, l, hl, (coreM_bit hl).mpr ⟨hS v h2, h3, hx2⟩⟩
theorem fa_core_sb (S : Nat) : sb (fa (coreM M) S) (ess M) := by
  intro x hx
  obtain ⟨v, h1, h2, l, hl, h3⟩ := fa_bit.mp hx
  exact ((coreM_bit hl).mp h3).2.2
theorem fo_core_sb (S : Nat) {l : Nat} (hl : l < 4) : sb (fo (coreM M) S l) (ess M) := by
  intro x hx
  obtain ⟨v, h1, h2, h3⟩ := fo_bit.mp hx
  exact ((coreM_bit hl).mp h3).2.2
theorem ess_core : ess (coreM M) = ess M := by
  have hE : sb (ess M) (cs (coreM M) (ess M)) := by
    intro x hx
    obtain ⟨h1, h2⟩ := ess_in hx
    refine cs_bit.mpr ⟨hx, ?_, ?_⟩
    · rw [fa_core (sb_rfl _)]; exact and_bit.mpr ⟨h1, hx⟩
    · obtain ⟨h3, y, h4, l, hl, h5⟩ := vi_bit.mp h2
      exact vi_bit.mpr ⟨h3, y, h4, l, hl, (coreM_bit hl).mpr ⟨hx, h5, h4⟩⟩
  apply sb_eq
  · intro x hx
    exact fa_core_sb _ x (ess_in hx).1
  · exact ess_top (ess_lt M) hE
theorem coreM_lt (hM : ∀ j, j < 32 → M j < 256) : ∀ j, j < 32 → coreM M j < 256 := by
  intro j hj
  unfold coreM
  split
  · exact Nat.lt_of_le_of_lt Nat.and_le_left (hM j hj)
  · decide
end PG
/-! words: lists of letters; a deterministic step with 0 as its end -/
def lts (w : List Nat) : Prop := ∀ l ∈ w, l < 4
theorem lts_nil : lts [] := fun _ h => by cases h
theorem lts_app {u v : List Nat} : lts (u ++ v) ↔ lts u ∧ lts v := by
  constructor
  · intro h; exact ⟨fun l hl => h l (List.mem_append_left _ hl), fun l hl => h l (List.mem_append_right _ hl)⟩
  · rintro ⟨a, b⟩ l hl
    rcases List.mem_append.mp hl with h | h
    · exact a l h
    · exact b l h
theorem lts_cons {a : Nat} {v : List Nat} : lts (a :: v) ↔ a < 4 ∧ lts v := by
  constructor
  · intro h; exact ⟨h a List.mem_cons_self, fun l hl => h l (List.mem_cons_of_mem _ hl)⟩
  · rintro ⟨a, b⟩ l hl
    rcases List.mem_cons.mp hl with h | h
    · rw [h]; exact a
    · exact b l h
def rn (d : Nat → Nat → Nat) (S : Nat) (w : List Nat) : Nat := w.foldl d S
section RN
variable {d : Nat → Nat → Nat}
theorem rn_nil (S : Nat) : rn d S [] = S := rfl
theorem rn_cons (S a : Nat) (w : List Nat) : rn d S (a :: w) = rn d (d S a) w := rfl
theorem rn_app (S : Nat) (u v : List Nat) : rn d S (u ++ v) = rn d (rn d S u) v := by
  unfold rn
  rw [List.foldl_append]
theorem rn_0 (h0 : ∀ l, d 0 l = 0) (w : List Nat) : rn d 0 w = 0 := by
  induction w with
  | nil => rfl
  | cons a w ih => rw [rn_cons, h0, ih]
theorem rn_pre (h0 : ∀ l, d 0 l = 0) {S : Nat} {u v : List Nat} (h : rn d S (u ++ v) ≠ 0) : rn d S u ≠ 0 := by
  intro e
  rw [rn_app, e, rn_0 h0] at h
  exact h rfl
theorem filt_le {p q : Nat → Bool} (T : List Nat) (h : ∀ x ∈ T, q x = true → p x = true) : (T.filter q).length ≤ (T.filter p).length := by
  induction T with
  | nil => exact Nat.le_refl _
  | cons a T ih =>
    have := ih (fun x hx => h x (List.mem_cons_of_mem _ hx))
    rw [List.filter_cons, List.filter_cons]
    by_cases hq : q a = true
    · rw [if_pos hq, if_pos (h a List.mem_cons_self hq), List.length_cons, List.length_cons]; omega
    · rw [if_neg hq]
      split
      · rw [List.length_cons]; omega
      · exact this
theorem filt_lt {p q : Nat → Bool} (T : List Nat) (h : ∀ x ∈ T, q x = true → p x = true) {y : Nat} (hy : y ∈ T) (hp : p y = true) (hq : q y = false) : (T.filter q).length < (T.filter p).length := by
  induction T with
  | nil => cases hy
  | cons a T ih =>
    have hT : ∀ x ∈ T, q x = true → p x = true := fun x hx => h x (List.mem_cons_of_mem _ hx)
    have hle := filt_le T hT
    rw [List.filter_cons, List.filter_cons]
    rcases List.mem_cons.mp hy with e | e
    · subst e
      rw [if_neg (by rw [hq]; decide), if_pos hp, List.length_cons]
      omega
    · have := ih hT e
      by_cases hqa : q a = true
      · rw [if_pos hqa, if_pos (h a List.mem_cons_self hqa), List.length_cons, List.length_cons]; omega
      · rw [if_neg hqa]
        split
        · rw [List.length_cons]; omega
        · exact this
/-- a word behind which all that is left alive has like followers -/
theorem sync_ex (h0 : ∀ l, d 0 l = 0) (T : List Nat) : ∀ n w, lts w → (T.filter (fun S => !decide (rn d S w = 0))).length ≤ n → (∃ S, S ∈ T ∧ rn d S w ≠ 0) → ∃ w', lts w' ∧ (∃ S, S ∈ T ∧ rn d S w' ≠ 0) ∧ ∀ S1, S1 ∈ T → ∀ S2, S2 ∈ T → rn d S1 w' ≠ 0 → rn d S2 w' ≠ 0 → ∀ v, lts v → rn d S1 (w' ++ v) ≠ 0 → rn d S2 (w' ++ v) ≠ 0 := by
  intro n
  induction n with
  | zero =>
    intro w hw hn ⟨S, hS, ha⟩
    exfalso
    have : S ∈ T.filter (fun S => !decide (rn d S w = 0)) := List.mem_filter.mpr ⟨hS, by simpa using ha⟩
    have := List.length_pos_of_mem this
    omega
  | succ n ih =>
    intro w hw hn hex
    by_cases hg : ∀ S1, S1 ∈ T → ∀ S2, S2 ∈ T → rn d S1 w ≠ 0 → rn d S2 w ≠ 0 → ∀ v, lts v → rn d S1 (w ++ v) ≠ 0 → rn d S2 (w ++ v) ≠ 0
    · exact ⟨w, hw, hex, hg⟩
    · have : ∃ S1 S2 v, S1 ∈ T ∧ S2 ∈ T ∧ rn d S1 w ≠ 0 ∧ rn d S2 w ≠ 0 ∧ lts v ∧ rn d S1 (w ++ v) ≠ 0 ∧ rn d S2 (w ++ v) = 0 := by
        apply Classical.byContradiction
        intro hno
        apply hg
        intro S1 m1 S2 m2 a1 a2 v hv b1 b2
        exact hno ⟨S1, S2, v, m1, m2, a1, a2, hv, b1, b2⟩
      obtain ⟨S1, S2, v, m1, m2, a1, a2, hv, b1, b2⟩ := this
      refine ih (w ++ v) (lts_app.mpr ⟨hw, hv⟩) ?_ ⟨S1, m1, b1⟩
      have := filt_lt (p := fun S => !decide (rn d S w = 0)) (q := fun S => !decide (rn d S (w ++ v) = 0)) T (fun x _ hx => by
        have h1 : rn d x (w ++ v) ≠ 0 := by simpa using hx
        have h2 := rn_pre h0 h1
        simpa using h2) m2 (by simpa using a2) (by simpa using b2)
      omega
/-- two parts that are closed, connected and have the same words have the same followers -/
theorem fam_eq (h0 : ∀ l, d 0 l = 0) {T1 T2 : List Nat} (c1 : ∀ S, S ∈ T1 → ∀ w, lts w → rn d S w ≠ 0 → rn d S w ∈ T1) (c2 : ∀ S, S ∈ T2 → ∀ w, lts w → rn d S w ≠ 0 → rn d S w ∈ T2) (k1 : ∀ S, S ∈ T1 → ∀ R, R ∈ T1 → ∃ w, lts w ∧ rn d S w = R) (z1 : ∀ S, S ∈ T1 → S ≠ 0) (e1 : ∃ S, S ∈ T1) (hL : ∀ w, lts w → ((∃ S, S ∈ T1 ∧ rn d S w ≠ 0) ↔ (∃ S, S ∈ T2 ∧ rn d S w ≠ 0))) :
    ∀ R, R ∈ T1 → ∃ R', R' ∈ T2 ∧ R' ≠ 0 ∧ ∀ v, lts v → (rn d R v ≠ 0 ↔ rn d R' v ≠ 0) := by
  intro R hR
  obtain ⟨S0, hS0⟩ := e1
  obtain ⟨w, hw, hex, hsy⟩ := sync_ex h0 (T1 ++ T2) _ [] lts_nil (Nat.le_refl _) ⟨S0, List.mem_append_left _ hS0, z1 S0 hS0⟩
  have hA : (∃ S, S ∈ T1 ∧ rn d S w ≠ 0) ∧ (∃ S, S ∈ T2 ∧ rn d S w ≠ 0) := by
    obtain ⟨S, hS, ha⟩ := hex
    rcases List.mem_append.mp hS with h | h
    · exact ⟨⟨S, h, ha⟩, (hL w hw).mp ⟨S, h, ha⟩⟩
    · exact ⟨(hL w hw).mpr ⟨S, h, ha⟩, ⟨S, h, ha⟩⟩
  obtain ⟨⟨S1, m1, a1⟩, ⟨S2, m2, a2⟩⟩ := hA
  have q1 := c1 S1 m1 w hw a1
  have q2 := c2 S2 m2 w hw a2
  have f12 := hsy S1 (List.mem_append_left _ m1) S2 (List.mem_append_right _ m2) a1 a2
  have f21 := hsy S2 (List.mem_append_right _ m2) S1 (List.mem_append_left _ m1) a2 a1
  obtain ⟨u, hu, eu⟩ := k1 _ q1 R hR
  have hz : rn d (rn d S2 w) u ≠ 0 := by
    have := f12 u hu (by rw [rn_app, eu]; exact z1 R hR)
    rwa [rn_app] at this
  refine ⟨_, c2 _ q2 u hu hz, hz, fun v hv => ?_⟩
  have e1 : rn d S1 (w ++ (u ++ v)) = rn d R v := by rw [rn_app, rn_app, eu]
  have e2 : rn d S2 (w ++ (u ++ v)) = rn d (rn d (rn d S2 w) u) v := by rw [rn_app, rn_app]
  have huv := lts_app.mpr ⟨hu, hv⟩
  constructor
  · intro h
    rw [← e2]
    exact f12 _ huv (by rw [e1]; exact h)
  · intro h
    rw [← e1]
    exact f21 _ huv (by rw [e2]; exact h)
end RN
