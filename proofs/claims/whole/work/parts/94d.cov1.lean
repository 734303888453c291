/-! COVERS: followers -/
def eqk (M : Nat → Nat) (k S R : Nat) : Prop := ∀ v, lts v → v.length ≤ k → (rn (ims M) S v ≠ 0 ↔ rn (ims M) R v ≠ 0)
def eqv (M : Nat → Nat) (S R : Nat) : Prop := ∀ v, lts v → (rn (ims M) S v ≠ 0 ↔ rn (ims M) R v ≠ 0)
section EQ
variable {M : Nat → Nat} {k S R T : Nat}
theorem eqk_rfl : eqk M k S S := fun _ _ _ => Iff.rfl
theorem eqk_sym (h : eqk M k S R) : eqk M k R S := fun v h1 h2 => (h v h1 h2).symm
theorem eqk_tr (h : eqk M k S R) (g : eqk M k R T) : eqk M k S T := fun v h1 h2 => (h v h1 h2).trans (g v h1 h2)
theorem eqv_rfl : eqv M S S := fun _ _ => Iff.rfl
theorem eqv_sym (h : eqv M S R) : eqv M R S := fun v h1 => (h v h1).symm
theorem eqv_tr (h : eqv M S R) (g : eqv M R T) : eqv M S T := fun v h1 => (h v h1).trans (g v h1)
theorem eqk_0 : eqk M 0 S R ↔ (S ≠ 0 ↔ R ≠ 0) := by
  constructor
  · intro h
    exact h [] lts_nil (Nat.le_refl _)
  · intro h v _ hv
    cases v with
    | nil => exact h
    | cons a v => exact absurd hv (by rw [List.length_cons]; omega)
theorem eqk_s : eqk M (k + 1) S R ↔ (S ≠ 0 ↔ R ≠ 0) ∧ ∀ l, l < 4 → eqk M k (ims M S l) (ims M R l) := by
  constructor
  · intro h
    refine ⟨h [] lts_nil (Nat.zero_le _), fun l hl v h1 h2 => ?_⟩
    exact h (l :: v) (lts_cons.mpr ⟨hl, h1⟩) (by rw [List.length_cons]; omega)
  · rintro ⟨h0, h⟩ v h1 h2
    cases v with
    | nil => exact h0
    | cons a v =>
      rw [lts_cons] at h1
      rw [List.length_cons] at h2
      exact h a h1.1 v h1.2 (by omega)
theorem eqk_dn (h : eqk M (k + 1) S R) : eqk M k S R := fun v h1 h2 => h v h1 (by omega)
theorem eqv_k (h : eqv M S R) : eqk M k S R := fun v h1 _ => h v h1
theorem eqv_step (h : eqv M S R) {l : Nat} (hl : l < 4) : eqv M (ims M S l) (ims M R l) := fun v h1 => h (l :: v) (lts_cons.mpr ⟨hl, h1⟩)
theorem eqv_z (h : eqv M S R) : S = 0 ↔ R = 0 := by
  have := h [] lts_nil
  rw [rn_nil, rn_nil] at this
  constructor
  · intro z
    apply Classical.byContradiction
    intro n
    exact this.mpr n z
  · intro z
    apply Classical.byContradiction
    intro n
    exact this.mp n z
theorem eqv_rn (h : eqv M S R) : ∀ w, lts w → eqv M (rn (ims M) S w) (rn (ims M) R w) := fun w hw v hv => by
  rw [← rn_app, ← rn_app]
  exact h (w ++ v) (lts_app.mpr ⟨hw, hv⟩)
/-- a step that splits nothing was the last -/
theorem eqv_of {U : List Nat} (hU : ∀ S, S ∈ U → ∀ l, l < 4 → ims M S l = 0 ∨ ims M S l ∈ U) (st : ∀ S R, S ∈ U → R ∈ U → eqk M k S R → eqk M (k + 1) S R) {S R : Nat} (hS : S ∈ U) (hR : R ∈ U) (h : eqk M k S R) : eqv M S R := by
  have key : ∀ i S R, S ∈ U → R ∈ U → eqk M k S R → eqk M (k + i) S R := by
    intro i
    induction i with
    | zero => intro S R _ _ h; exact h
    | succ i ih =>
      intro S R hS hR h
      have h1 := eqk_s.mp (st S R hS hR h)
      rw [← Nat.add_assoc]
      refine eqk_s.mpr ⟨h1.1, fun l hl => ?_⟩
      have h2 := h1.2 l hl
      rcases hU S hS l hl with a | a
      · have : ims M R l = 0 := by
          apply Classical.byContradiction
          intro n
          exact (h2 [] lts_nil (Nat.zero_le _)).mpr n a
        rw [a, this]
        exact eqk_rfl
      · rcases hU R hR l hl with b | b
        · have : ims M S l = 0 := by
            apply Classical.byContradiction
            intro n
            exact (h2 [] lts_nil (Nat.zero_le _)).mp n b
          rw [b, this]
          exact eqk_rfl
        · exact ih _ _ a b h2
  intro v hv
  exact key v.length S R hS hR h v hv (by omega)
end EQ
/-! what can be reached -/
def rcL (M : Nat → Nat) (S0 : Nat) (Q : List Nat) : Prop := Q.Nodup ∧ 0 ∉ Q ∧ S0 ∈ Q ∧ (∀ S, S ∈ Q → ∀ l, l < 4 → ims M S l = 0 ∨ ims M S l ∈ Q) ∧ ∀ S, S ∈ Q → ∃ w, lts w ∧ rn (ims M) S0 w = S
theorem bp_rn {d : Nat → Nat → Nat} {A : Nat} {u : Nat → Nat} : ∀ k, (∀ z, z < k → u z < 4) → ∃ w, lts w ∧ rn d A w = bp d A u k
  | 0, _ => ⟨[], lts_nil, rfl⟩
  | k + 1, h => by
    obtain ⟨w, h1, h2⟩ := bp_rn (d := d) (A := A) k (fun z hz => h z (by omega))
    refine ⟨w ++ [u k], lts_app.mpr ⟨h1, lts_cons.mpr ⟨h k (by omega), lts_nil⟩⟩, ?_⟩
    rw [rn_app, h2, bp]
    rfl
theorem rcL_of {M : Nat → Nat} {S0 t : Nat} {q : List Nat × List Nat} (g : BI (ims M) S0 t q) (ht : q.1.length ≤ t / 4) : rcL M S0 q.1 := by
  obtain ⟨g1, g2, g3, g4, g5, g6, g7, g8, g9⟩ := id g
  refine ⟨g2, g3, by rw [← g5]; exact getD_mem g4, fun S hS l hl => ?_, fun S hS => ?_⟩
  · obtain ⟨i, hi, rfl⟩ := mem_getD hS
    have h8 := g8 (4 * i + l) (by omega)
    rw [show (4 * i + l) / 4 = i by omega, show (4 * i + l) % 4 = l by omega] at h8
    rcases h8 with h | ⟨j, hj, ej, -⟩
    · exact Or.inl h
    · right
      rw [← ej]
      exact getD_mem hj
  · obtain ⟨i, hi, rfl⟩ := mem_getD hS
    obtain ⟨w, w1, w2⟩ := wordOf g i hi
    obtain ⟨v, v1, v2⟩ := bp_rn (d := ims M) (A := S0) _ w1
    exact ⟨v, v1, v2.trans w2⟩
theorem exStop1 {d : Nat → Nat → Nat} {A : Nat} (N : Nat) (hN : 0 < N) (hA : A ≠ 0) (hb : ∀ t, ∀ P ∈ (bq d A t).1, P < N) : ∃ τ, τ ≤ 4 * N ∧ (∀ t, t < τ → t / 4 < (bq d A t).1.length) ∧ (bq d A τ).1.length ≤ τ / 4 ∧ BI d A τ (bq d A τ) ∧ (bq d A τ).1.length + 1 ≤ N := by
  have hex : ∃ i, i < 4 * N + 1 ∧ decide ((bq d A i).1.length ≤ i / 4) = true := by
    apply Classical.byContradiction
    intro hn
    have all : ∀ s, s < 4 * N + 1 → s / 4 < (bq d A s).1.length := by
      intro s hs
      apply Classical.byContradiction
      intro q
      exact hn ⟨s, hs, decide_eq_true (by omega)⟩
    have h1 := all (4 * N) (by omega)
    have b := BI_all (d := d) hA (4 * N) (fun s hs => all s (by omega))
    have := len_lt (N := N) b.2.1 b.2.2.1 (hb _) hN
    rw [Nat.mul_div_cancel_left _ (by decide)] at h1
    omega
  obtain ⟨τ, h1, h2, h3⟩ := exMin _ hex
  have hall : ∀ t, t < τ → t / 4 < (bq d A t).1.length := fun t ht => by
    have := of_decide_eq_false (h3 t ht)
    omega
  have b := BI_all (d := d) hA τ hall
  exact ⟨τ, by omega, hall, of_decide_eq_true h2, b, len_lt b.2.1 b.2.2.1 (hb _) hN⟩
theorem bq_bd {d : Nat → Nat → Nat} {A N : Nat} (hA : A < N) (hd : ∀ P l, l < 4 → d P l < N) : ∀ t, ∀ P ∈ (bq d A t).1, P < N
  | 0 => by
    intro P hP
    rw [bq] at hP
    unfold noteL at hP
    split at hP
    · cases hP
    · rcases List.mem_append.mp hP with e | e
      · cases e
      · rw [List.mem_singleton] at e
        rw [e]; exact hA
  | t + 1 => by
    intro P hP
    rw [bq] at hP
    split at hP
    · unfold noteL at hP
      split at hP
      · exact bq_bd hA hd t P hP
      · rcases List.mem_append.mp hP with e | e
        · exact bq_bd hA hd t P e
        · rw [List.mem_singleton] at e
          rw [e]
          exact hd _ _ (Nat.mod_lt _ (by decide))
    · exact bq_bd hA hd t P hP
section RLs
variable {M : Nat → Nat} {S0 : Nat} {Q : List Nat}
theorem rcL_rn (g : rcL M S0 Q) {S : Nat} (hS : S ∈ Q) : ∀ w, lts w → rn (ims M) S w = 0 ∨ rn (ims M) S w ∈ Q := by
  intro w
  induction w generalizing S with
  | nil => intro _; exact Or.inr hS
  | cons a w ih =>
    intro hw
    rw [lts_cons] at hw
    rw [rn_cons]
    rcases g.2.2.2.1 S hS a hw.1 with h | h
    · left
      rw [h, rn_0 (fun l => ims_0 l)]
    · exact ih h hw.2
theorem rcL_uniq {Q' : List Nat} (g : rcL M S0 Q) (g' : rcL M S0 Q') : ∀ S, S ∈ Q ↔ S ∈ Q' := by
  have one : ∀ {A B : List Nat}, rcL M S0 A → rcL M S0 B → ∀ S, S ∈ A → S ∈ B := by
    intro A B a b S hS
    obtain ⟨w, h1, h2⟩ := a.2.2.2.2 S hS
    rcases rcL_rn b b.2.2.1 w h1 with z | z
    · rw [h2] at z
      exact absurd (by rw [← z]; exact hS) a.2.1
    · rw [h2] at z
      exact z
  exact fun S => ⟨one g g' S, one g' g S⟩
theorem rcL_sub {S1 : Nat} {Q1 : List Nat} (g : rcL M S0 Q) (g1 : rcL M S1 Q1) (h : S1 ∈ Q) : ∀ S, S ∈ Q1 → S ∈ Q := by
  intro S hS
  obtain ⟨w, h1, h2⟩ := g1.2.2.2.2 S hS
  rcases rcL_rn g h w h1 with z | z
  · rw [h2] at z
    exact absurd (by rw [← z]; exact hS) g1.2.1
  · rw [h2] at z
    exact z
end RLs
theorem nodup_le {A B : List Nat} (hA : A.Nodup) (hB : B.Nodup) (h : ∀ x, x ∈ A → x ∈ B) {y : Nat} (hy : y ∈ B) (hn : y ∉ A) : A.length < B.length := by
  obtain ⟨N, hN⟩ : ∃ N, ∀ x ∈ B, x < N := by
    clear hA hB h hy hn
    induction B with
    | nil => exact ⟨0, fun x hx => by cases hx⟩
    | cons b B ih =>
      obtain ⟨N, hN⟩ := ih
      refine ⟨max N (b + 1), fun x hx => ?_⟩
      rcases List.mem_cons.mp hx with e | e
      · omega
      · have := hN x e
        omega
  have h1 := cnt_list (n := N) hA (fun x hx => hN x (h x hx))
  have h2 := cnt_list (n := N) hB hN
  have h3 := cnt_lt (p := fun k => decide (k ∈ B)) (q := fun k => decide (k ∈ A)) (n := N) (fun k _ hk => decide_eq_true (h k (of_decide_eq_true hk))) (i := y) (hN y hy) (decide_eq_true hy) (decide_eq_false hn)
  omega
