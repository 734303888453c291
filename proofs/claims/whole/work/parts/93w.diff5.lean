/-! CALL: writeDifference: where the search stops -/
theorem len_lt {L : List Nat} {N : Nat} (hn : L.Nodup) (h0 : 0 ∉ L) (hb : ∀ x ∈ L, x < N) (hN : 0 < N) : L.length + 1 ≤ N := by
  have h1 := cnt_list (L := 0 :: L) (n := N) (List.nodup_cons.mpr ⟨h0, hn⟩) (fun x hx => by
    rcases List.mem_cons.mp hx with e | e
    · rw [e]; exact hN
    · exact hb x e)
  have h2 := cnt_le (fun k => decide (k ∈ 0 :: L)) N
  rw [h1, List.length_cons] at h2
  exact h2
theorem BI_all {d : Nat → Nat → Nat} {A : Nat} (hA : A ≠ 0) : ∀ t, (∀ s, s < t → s / 4 < (bq d A s).1.length) → BI d A t (bq d A t)
  | 0, _ => BI_0 hA
  | t + 1, h => by
    have ih := BI_all (d := d) hA t (fun s hs => h s (by omega))
    have ht := h t (by omega)
    rw [bq, if_pos ht]
    exact BI_step ih ht
theorem bq_grow {d : Nat → Nat → Nat} {A : Nat} (t : Nat) : (bq d A t).1.length ≤ (bq d A (t + 1)).1.length := by
  rw [bq]
  split
  · unfold noteL
    split
    · exact Nat.le_refl _
    · rw [List.length_append]
      exact Nat.le_add_right _ _
  · exact Nat.le_refl _
section ST
variable {M1 M2 : Nat → Nat}
theorem pd_lt {P l : Nat} (hl : l < 4) : pd M1 M2 P l < 65536 := by
  unfold pd
  have h1 := ims_lt (M := M1) (S := P / 256) hl
  have h2 := ims_lt (M := M2) (S := P % 256) hl
  omega
theorem bq_lt : ∀ t, ∀ P ∈ (bq (pd M1 M2) (256 * ess M1 + ess M2) t).1, P < 65536
  | 0 => by
    intro P hP
    have h1 := ess_lt M1
    have h2 := ess_lt M2
    rw [bq] at hP
    unfold noteL at hP
    split at hP
    · cases hP
    · rcases List.mem_append.mp hP with e | e
      · cases e
      · rw [List.mem_singleton] at e
        omega
  | t + 1 => by
    intro P hP
    rw [bq] at hP
    split at hP
    · unfold noteL at hP
      split at hP
      · exact bq_lt t P hP
      · rcases List.mem_append.mp hP with e | e
        · exact bq_lt t P e
        · rw [List.mem_singleton] at e
          rw [e]
          exact pd_lt (Nat.mod_lt _ (by decide))
    · exact bq_lt t P hP
/-- the pair that is reached in step t -/
def nx (M1 M2 : Nat → Nat) (t : Nat) : Nat := pd M1 M2 ((bq (pd M1 M2) (256 * ess M1 + ess M2) t).1.getD (t / 4) 0) (t % 4)
def ql (M1 M2 : Nat → Nat) (t : Nat) : Nat := (bq (pd M1 M2) (256 * ess M1 + ess M2) t).1.length
theorem bq_len {t : Nat} (hA : 256 * ess M1 + ess M2 ≠ 0) (h : ∀ s, s < t → s / 4 < ql M1 M2 s) : ql M1 M2 t ≤ 65535 := by
  obtain ⟨N, hN⟩ : ∃ N, N = 65536 := ⟨_, rfl⟩
  have b := BI_all (d := pd M1 M2) hA t h
  have := len_lt (N := N) b.2.1 b.2.2.1 (fun x hx => by rw [hN]; exact bq_lt t x hx) (by omega)
  unfold ql
  omega
theorem exStop (hA : 256 * ess M1 + ess M2 ≠ 0) : ∃ τ, τ ≤ 4 * 65536 ∧ (∀ t, t < τ → t / 4 < ql M1 M2 t ∧ dfB (nx M1 M2 t) = false) ∧ (ql M1 M2 τ ≤ τ / 4 ∨ (τ / 4 < ql M1 M2 τ ∧ dfB (nx M1 M2 τ) = true)) := by
  obtain ⟨N, hN⟩ : ∃ N, N = 65536 := ⟨_, rfl⟩
  have hex : ∃ i, i < 4 * N + 1 ∧ (decide (ql M1 M2 i ≤ i / 4) || dfB (nx M1 M2 i)) = true := by
    apply Classical.byContradiction
    intro hn
    have all : ∀ s, s < 4 * N + 1 → s / 4 < ql M1 M2 s := by
      intro s hs
      apply Classical.byContradiction
      intro q
      exact hn ⟨s, hs, by rw [decide_eq_true (by omega), Bool.true_or]⟩
    have h1 := all (4 * N) (by omega)
    have h2 := bq_len (t := 4 * N) hA (fun s hs => all s (by omega))
    rw [Nat.mul_div_cancel_left _ (by decide)] at h1
    omega
  obtain ⟨τ, h1, h2, h3⟩ := exMin _ hex
  refine ⟨τ, by omega, fun t ht => ?_, ?_⟩
  · have := h3 t ht
    rw [Bool.or_eq_false_iff] at this
    exact ⟨by have := of_decide_eq_false this.1; omega, this.2⟩
  · by_cases q : ql M1 M2 τ ≤ τ / 4
    · exact Or.inl q
    · rw [decide_eq_false q, Bool.false_or] at h2
      exact Or.inr ⟨by omega, h2⟩
/-- all that were noted are no differences -/
theorem bq_nd (hr : dfB (256 * ess M1 + ess M2) = false) : ∀ t, (∀ s, s < t → dfB (nx M1 M2 s) = false) → ∀ P ∈ (bq (pd M1 M2) (256 * ess M1 + ess M2) t).1, dfB P = false
  | 0, _ => by
    intro P hP
    rw [bq] at hP
    unfold noteL at hP
    split at hP
    · cases hP
    · rcases List.mem_append.mp hP with e | e
      · cases e
      · rw [List.mem_singleton] at e
        rw [e]; exact hr
  | t + 1, h => by
    intro P hP
    rw [bq] at hP
    split at hP
    · unfold noteL at hP
      split at hP
      · exact bq_nd hr t (fun s hs => h s (by omega)) P hP
      · rcases List.mem_append.mp hP with e | e
        · exact bq_nd hr t (fun s hs => h s (by omega)) P e
        · rw [List.mem_singleton] at e
          rw [e]
          exact h t (by omega)
    · exact bq_nd hr t (fun s hs => h s (by omega)) P hP
theorem stop0 {τ : Nat} (h1 : ∀ t, t < τ → t / 4 < ql M1 M2 t ∧ dfB (nx M1 M2 t) = false) (h2 : ql M1 M2 τ ≤ τ / 4) : τ % 4 = 0 := by
  apply Classical.byContradiction
  intro hn
  have a := (h1 (τ - 1) (by omega)).1
  have b := bq_grow (d := pd M1 M2) (A := 256 * ess M1 + ess M2) (τ - 1)
  rw [show τ - 1 + 1 = τ by omega] at b
  have c : (bq (pd M1 M2) (256 * ess M1 + ess M2) (τ - 1)).1.length = ql M1 M2 (τ - 1) := rfl
  have d : (bq (pd M1 M2) (256 * ess M1 + ess M2) τ).1.length = ql M1 M2 τ := rfl
  omega
/-! the object's search -/
variable {h h0 : ZH}
theorem isDiff_ok {a b : Nat} (ha : a ≤ 255) (hb : b ≤ 255) (h : ZH) : fX4_isDifference (nI (256 * a + b)) h = some (nI (xor (decide (a = 255)) (decide (b = 255))).toNat, h) := by
  have e1 : (256 * a + b) / 256 = a := by omega
  have e2 : (256 * a + b) % 256 = b := by omega
  unfold fX4_isDifference bX4_isDifference_16 bX4_isDifference_32 bX4_isDifference_40
  by_cases h1 : a = 255 <;> by_cases h2 : b = 255
  · simp (disch := omega) only [e1, e2, eq_true h1, eq_true h2, zl_eq, bsm, ZS, ZT, ZN, ZU, eq_self, true_and, and_true, and_self, or_true, true_or, or_false, false_or, not_true, not_false_eq_true, Nat.reduceAdd, Nat.reduceMul, Nat.reduceLT, Nat.reduceLeDiff, Nat.reduceEqDiff, ↓reduceIte, ZQ, Bool.true_eq_false, Bool.false_eq_true, Bool.not_true, Bool.not_false]
    simp [h1, h2]
  · simp (disch := omega) only [e1, e2, eq_true h1, eq_false h2, zl_eq, bsm, ZS, ZT, ZN, ZU, eq_self, true_and, and_true, and_self, or_true, true_or, or_false, false_or, not_true, not_false_eq_true, Nat.reduceAdd, Nat.reduceMul, Nat.reduceLT, Nat.reduceLeDiff, Nat.reduceEqDiff, ↓reduceIte, ZQ, Bool.true_eq_false, Bool.false_eq_true, Bool.not_true, Bool.not_false]
    simp [h1, h2]
  · simp (disch := omega) only [e1, e2, eq_false h1, eq_true h2, zl_eq, bsm, ZS, ZT, ZN, ZU, eq_self, true_and, and_true, and_self, or_true, true_or, or_false, false_or, not_true, not_false_eq_true, Nat.reduceAdd, Nat.reduceMul, Nat.reduceLT, Nat.reduceLeDiff, Nat.reduceEqDiff, ↓reduceIte, ZQ, Bool.true_eq_false, Bool.false_eq_true, Bool.not_true, Bool.not_false]
    simp [h1, h2]
  · simp (disch := omega) only [e1, e2, eq_false h1, eq_false h2, zl_eq, bsm, ZS, ZT, ZN, ZU, eq_self, true_and, and_true, and_self, or_true, true_or, or_false, false_or, not_true, not_false_eq_true, Nat.reduceAdd, Nat.reduceMul, Nat.reduceLT, Nat.reduceLeDiff, Nat.reduceEqDiff, ↓reduceIte, ZQ, Bool.true_eq_false, Bool.false_eq_true, Bool.not_true, Bool.not_false]
    simp [h1, h2]
/-- the codes of the pairs -/
def cdQ (M1 M2 : Nat → Nat) (cd : Nat → Nat) (Q : List Nat) : Prop := ∀ i, i < Q.length → ∃ j1 j2, cd i = 256 * j1 + j2 ∧ stt (LL M1) j1 (Q.getD i 0 / 256) ∧ stt (LL M2) j2 (Q.getD i 0 % 256)
def St (M1 M2 : Nat → Nat) (h0 : ZH) (t : Nat) (h : ZH) : Prop := ∃ q g cd, pF h0 h ∧ pQ q g h ∧ pE q (ql M1 M2 t) cd (fun i => (bq (pd M1 M2) (256 * ess M1 + ess M2) t).2.getD i 0) h ∧ pS (ql M1 M2 t) cd h ∧ ql M1 M2 t ≤ 512 * 2 ^ g ∧ cdQ M1 M2 cd (bq (pd M1 M2) (256 * ess M1 + ess M2) t).1
theorem cd_iff {cd : Nat → Nat} {Q : List Nat} (c : cdQ M1 M2 cd Q) {P k1 k2 : Nat} (s1 : stt (LL M1) k1 (P / 256)) (s2 : stt (LL M2) k2 (P % 256)) : (∃ i, i < Q.length ∧ cd i = 256 * k1 + k2) ↔ P ∈ Q := by
  have b1 := (stt255 s1).1
  have b2 := (stt255 s2).1
  constructor
  · rintro ⟨i, hi, ei⟩
    obtain ⟨j1, j2, e, t1, t2⟩ := c i hi
    have c1 := (stt255 t1).1
    have c2 := (stt255 t2).1
    have f1 : j1 = k1 := by omega
    have f2 : j2 = k2 := by omega
    have g1 := (stt_eq t1 s1).mp f1
    have g2 := (stt_eq t2 s2).mp f2
    have : P = Q.getD i 0 := by omega
    rw [this]
    exact getD_mem hi
  · intro hP
    obtain ⟨i, hi, ei⟩ := mem_getD hP
    obtain ⟨j1, j2, e, t1, t2⟩ := c i hi
    rw [ei] at t1 t2
    refine ⟨i, hi, ?_⟩
    rw [e, (stt_eq t1 s1).mpr rfl, (stt_eq t2 s2).mpr rfl]
theorem pE.cong {q n : Nat} {cd ar cd' ar' : Nat → Nat} (g : pE q n cd ar h) (e : ∀ i, i < n → cd i = cd' i ∧ ar i = ar' i) : pE q n cd' ar' h := ⟨g.1, fun i hi => by
  rw [← (e i hi).1, ← (e i hi).2]
  exact g.2 i hi⟩
end ST
