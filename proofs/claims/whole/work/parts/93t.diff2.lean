/-! CALL: writeDifference: the search, by its lists -/
def BI (d : Nat → Nat → Nat) (A t : Nat) (q : List Nat × List Nat) : Prop :=
  q.2.length = q.1.length ∧ q.1.Nodup ∧ 0 ∉ q.1 ∧ 0 < q.1.length ∧ q.1.getD 0 0 = A ∧
  (∀ i, 1 ≤ i → i < q.1.length → q.2.getD i 0 < t ∧ q.2.getD i 0 / 4 < i ∧ q.1.getD i 0 = d (q.1.getD (q.2.getD i 0 / 4) 0) (q.2.getD i 0 % 4)) ∧
  (∀ i j, 1 ≤ i → i < j → j < q.1.length → q.2.getD i 0 < q.2.getD j 0) ∧
  (∀ s, s < t → d (q.1.getD (s / 4) 0) (s % 4) = 0 ∨ ∃ i, i < q.1.length ∧ q.1.getD i 0 = d (q.1.getD (s / 4) 0) (s % 4) ∧ (i = 0 ∨ q.2.getD i 0 ≤ s)) ∧ ∀ s, s < t → s / 4 < q.1.length
theorem getD_l {L : List Nat} {x i : Nat} (h : i < L.length) : (L ++ [x]).getD i 0 = L.getD i 0 := by
  rw [List.getD_eq_getElem?_getD, List.getD_eq_getElem?_getD, List.getElem?_append_left h]
theorem getD_r {L : List Nat} {x : Nat} : (L ++ [x]).getD L.length 0 = x := by
  rw [List.getD_eq_getElem?_getD, List.getElem?_append_right (Nat.le_refl _), Nat.sub_self]
  rfl
theorem getD_mem {L : List Nat} {i : Nat} (h : i < L.length) : L.getD i 0 ∈ L := by
  rw [List.getD_eq_getElem?_getD, List.getElem?_eq_getElem h]
  exact List.getElem_mem h
theorem mem_getD {L : List Nat} {x : Nat} (h : x ∈ L) : ∃ i, i < L.length ∧ L.getD i 0 = x := by
  obtain ⟨i, hi, e⟩ := List.mem_iff_getElem.mp h
  refine ⟨i, hi, ?_⟩
  rw [List.getD_eq_getElem?_getD, List.getElem?_eq_getElem hi, e]
  rfl
theorem getD_inj {L : List Nat} (hn : L.Nodup) {i j : Nat} (hi : i < L.length) (hj : j < L.length) (e : L.getD i 0 = L.getD j 0) : i = j := by
  rw [List.getD_eq_getElem?_getD, List.getD_eq_getElem?_getD, List.getElem?_eq_getElem hi, List.getElem?_eq_getElem hj] at e
  refine (List.getElem?_inj hi hn).mp ?_
  rw [List.getElem?_eq_getElem hi, List.getElem?_eq_getElem hj]
  exact congrArg some e
theorem BI_0 {d : Nat → Nat → Nat} {A : Nat} (hA : A ≠ 0) : BI d A 0 (bq d A 0) := by
  have e : bq d A 0 = ([A], [0]) := by
    show noteL ([], []) A 0 = _
    unfold noteL
    rw [if_neg (by rintro (h | h); exact hA h; cases h)]
    rfl
  rw [e]
  refine ⟨rfl, List.nodup_cons.mpr ⟨List.not_mem_nil, List.nodup_nil⟩, fun h => ?_, Nat.one_pos, rfl, fun i h1 h2 => ?_, fun i j h1 h2 h3 => ?_, fun s hs => by omega, fun s hs => by omega⟩
  · rcases List.mem_cons.mp h with q | q
    · exact hA q.symm
    · cases q
  · have : i < 1 := h2
    omega
  · have : j < 1 := h3
    omega
theorem BI_step {d : Nat → Nat → Nat} {A t : Nat} {q : List Nat × List Nat} (g : BI d A t q) (ht : t / 4 < q.1.length) : BI d A (t + 1) (noteL q (d (q.1.getD (t / 4) 0) (t % 4)) t) := by
  obtain ⟨Q, R⟩ := q
  obtain ⟨g1, g2, g3, g4, g5, g6, g7, g8, g9⟩ := g
  dsimp only at g1 g2 g3 g4 g5 g6 g7 g8 g9 ht
  unfold noteL
  dsimp only
  by_cases hP : d (Q.getD (t / 4) 0) (t % 4) = 0 ∨ d (Q.getD (t / 4) 0) (t % 4) ∈ Q
  · rw [if_pos hP]
    refine ⟨g1, g2, g3, g4, g5, fun i h1 h2 => ?_, g7, fun s hs => ?_, fun s hs => ?_⟩
    · obtain ⟨a1, a2, a3⟩ := g6 i h1 h2
      exact ⟨Nat.lt_succ_of_lt a1, a2, a3⟩
    · by_cases e : s = t
      · subst e
        rcases hP with h | h
        · exact Or.inl h
        · obtain ⟨i, hi, ei⟩ := mem_getD h
          refine Or.inr ⟨i, hi, ei, ?_⟩
          by_cases h0 : i = 0
          · exact Or.inl h0
          · exact Or.inr (Nat.le_of_lt (g6 i (by omega) hi).1)
      · exact g8 s (by omega)
    · by_cases e : s = t
      · rw [e]; exact ht
      · exact g9 s (by omega)
  · rw [if_neg hP]
    have hl : (Q ++ [d (Q.getD (t / 4) 0) (t % 4)]).length = Q.length + 1 := by rw [List.length_append]; rfl
    have hr : (R ++ [t]).length = Q.length + 1 := by rw [List.length_append, g1]; rfl
    have q1 : ∀ i, i < Q.length → (Q ++ [d (Q.getD (t / 4) 0) (t % 4)]).getD i 0 = Q.getD i 0 := fun i hi => getD_l hi
    have r1 : ∀ i, i < Q.length → (R ++ [t]).getD i 0 = R.getD i 0 := fun i hi => getD_l (by rw [g1]; exact hi)
    have q2 : (Q ++ [d (Q.getD (t / 4) 0) (t % 4)]).getD Q.length 0 = d (Q.getD (t / 4) 0) (t % 4) := getD_r
    have r2 : (R ++ [t]).getD Q.length 0 = t := by rw [← g1]; exact getD_r
    refine ⟨by dsimp only; rw [hl, hr], ?_, ?_, by dsimp only; omega, by dsimp only; rw [q1 0 g4]; exact g5, fun i h1 h2 => ?_, fun i j h1 h2 h3 => ?_, fun s hs => ?_, fun s hs => ?_⟩
    · dsimp only
      rw [List.nodup_append]
      refine ⟨g2, List.nodup_cons.mpr ⟨List.not_mem_nil, List.nodup_nil⟩, fun x hx y hy e => ?_⟩
      rw [List.mem_singleton] at hy
      exact hP (Or.inr (by rw [← hy, ← e]; exact hx))
    · dsimp only
      intro h
      rcases List.mem_append.mp h with q | q
      · exact g3 q
      · rw [List.mem_singleton] at q
        exact hP (Or.inl q.symm)
    · dsimp only at h2 ⊢
      rw [hl] at h2
      by_cases e : i = Q.length
      · subst e
        rw [r2, q2, q1 _ ht]
        exact ⟨by omega, ht, rfl⟩
      · obtain ⟨a1, a2, a3⟩ := g6 i h1 (by omega)
        rw [r1 i (by omega), q1 i (by omega), q1 _ (by omega)]
        exact ⟨by omega, a2, a3⟩
    · dsimp only at h3 ⊢
      rw [hl] at h3
      rw [r1 i (by omega)]
      by_cases e : j = Q.length
      · rw [e, r2]
        exact (g6 i h1 (by omega)).1
      · rw [r1 j (by omega)]
        exact g7 i j h1 h2 (by omega)
    · dsimp only
      rw [hl]
      by_cases e : s = t
      · subst e
        rw [q1 _ ht]
        exact Or.inr ⟨Q.length, by omega, q2, Or.inr (by rw [r2]; exact Nat.le_refl _)⟩
      · have h9 := g9 s (by omega)
        rw [q1 _ h9]
        rcases g8 s (by omega) with h | ⟨i, hi, ei, hh⟩
        · exact Or.inl h
        · exact Or.inr ⟨i, by omega, by rw [q1 i hi]; exact ei, by rw [r1 i hi]; exact hh⟩
    · dsimp only
      rw [hl]
      by_cases e : s = t
      · rw [e]; omega
      · have := g9 s (by omega)
        omega
/-! depths and words -/
def dpf (a : Nat → Nat) : Nat → Nat → Nat
  | 0, _ => 0
  | f + 1, i => if i = 0 then 0 else dpf a f (a i / 4) + 1
theorem dpf_eq {a : Nat → Nat} {n : Nat} (ha : ∀ i, 1 ≤ i → i < n → a i / 4 < i) : ∀ f f' i, i ≤ f → i ≤ f' → i < n → dpf a f i = dpf a f' i := by
  intro f
  induction f with
  | zero =>
    intro f' i h1 h2 h3
    have : i = 0 := by omega
    subst this
    cases f' with
    | zero => rfl
    | succ f' => rw [dpf, dpf, if_pos rfl]
  | succ f ih =>
    intro f' i h1 h2 h3
    by_cases e : i = 0
    · subst e
      cases f' with
      | zero => rw [dpf, dpf, if_pos rfl]
      | succ f' => rw [dpf, dpf, if_pos rfl, if_pos rfl]
    · obtain ⟨f', rfl⟩ : ∃ k, f' = k + 1 := ⟨f' - 1, by omega⟩
      have := ha i (by omega) h3
      rw [dpf, dpf, if_neg e, if_neg e, ih f' _ (by omega) (by omega) (by omega)]
def dp (a : Nat → Nat) (i : Nat) : Nat := dpf a i i
theorem dp_0 (a : Nat → Nat) : dp a 0 = 0 := rfl
theorem dp_s {a : Nat → Nat} {n i : Nat} (ha : ∀ i, 1 ≤ i → i < n → a i / 4 < i) (h1 : 1 ≤ i) (h2 : i < n) : dp a i = dp a (a i / 4) + 1 := by
  obtain ⟨k, rfl⟩ : ∃ k, i = k + 1 := ⟨i - 1, by omega⟩
  have := ha (k + 1) h1 h2
  unfold dp
  rw [dpf, if_neg (by omega), dpf_eq ha k (a (k + 1) / 4) _ (by omega) (Nat.le_refl _) (by omega)]
theorem dp_mono {a : Nat → Nat} {n : Nat} (ha : ∀ i, 1 ≤ i → i < n → a i / 4 < i) (hm : ∀ i j, 1 ≤ i → i < j → j < n → a i < a j) : ∀ j, j < n → ∀ i, i ≤ j → dp a i ≤ dp a j := by
  intro j
  induction j using Nat.strongRecOn with
  | ind j ih =>
    intro hj i hij
    by_cases h0 : i = 0
    · rw [h0, dp_0]; exact Nat.zero_le _
    · by_cases e : i = j
      · rw [e]; exact Nat.le_refl _
      · have h1 := ha j (by omega) hj
        have h2 := hm i j (by omega) (by omega) hj
        rw [dp_s ha (by omega) (show i < n by omega), dp_s ha (by omega) hj]
        have := ih (a j / 4) h1 (by omega) (a i / 4) (by omega)
        omega
def bp (d : Nat → Nat → Nat) (A : Nat) (u : Nat → Nat) : Nat → Nat
  | 0 => A
  | k + 1 => d (bp d A u k) (u k)
theorem bp_cong {d : Nat → Nat → Nat} {A : Nat} {u u' : Nat → Nat} : ∀ k, (∀ z, z < k → u z = u' z) → bp d A u k = bp d A u' k
  | 0, _ => rfl
  | k + 1, h => by rw [bp, bp, bp_cong k (fun z hz => h z (by omega)), h k (by omega)]
/-- an arrival's word: its last letter, and that of the place before -/
theorem wordOf {d : Nat → Nat → Nat} {A t : Nat} {q : List Nat × List Nat} (g : BI d A t q) : ∀ i, i < q.1.length → ∃ w : Nat → Nat, (∀ z, z < dp (fun i => q.2.getD i 0) i → w z < 4) ∧ bp d A w (dp (fun i => q.2.getD i 0) i) = q.1.getD i 0 := by
  obtain ⟨g1, g2, g3, g4, g5, g6, g7, g8, g9⟩ := g
  have ha : ∀ i, 1 ≤ i → i < q.1.length → (fun i => q.2.getD i 0) i / 4 < i := fun i h1 h2 => (g6 i h1 h2).2.1
  intro i
  induction i using Nat.strongRecOn with
  | ind i ih =>
    intro hi
    by_cases h0 : i = 0
    · subst h0
      exact ⟨fun _ => 0, fun z hz => by rw [dp_0] at hz; omega, g5.symm⟩
    · obtain ⟨a1, a2, a3⟩ := g6 i (by omega) hi
      obtain ⟨w, w1, w2⟩ := ih _ a2 (by omega)
      have e := dp_s ha (by omega) hi
      generalize hL : dp (fun i => q.2.getD i 0) (q.2.getD i 0 / 4) = L at e w1 w2
      refine ⟨fun z => if z = L then q.2.getD i 0 % 4 else w z, fun z hz => ?_, ?_⟩
      · dsimp only
        by_cases q1 : z = L
        · rw [if_pos q1]; omega
        · rw [if_neg q1]; exact w1 z (by omega)
      · rw [e, bp, if_pos rfl, bp_cong (u' := w) L (fun z hz => if_neg (by omega)), w2, a3]
/-- each word that is no longer has been seen -/
theorem seenAll {d : Nat → Nat → Nat} {A t : Nat} {q : List Nat × List Nat} (g : BI d A t q) (d0 : ∀ l, d 0 l = 0) {p : Nat} (hp : p < q.1.length) (ht : 4 * p ≤ t) (u : Nat → Nat) : ∀ k, k ≤ dp (fun i => q.2.getD i 0) p → (∀ z, z < k → u z < 4) → bp d A u k = 0 ∨ ∃ i, i < q.1.length ∧ q.1.getD i 0 = bp d A u k ∧ dp (fun i => q.2.getD i 0) i ≤ k := by
  obtain ⟨g1, g2, g3, g4, g5, g6, g7, g8, g9⟩ := g
  have ha : ∀ i, 1 ≤ i → i < q.1.length → (fun i => q.2.getD i 0) i / 4 < i := fun i h1 h2 => (g6 i h1 h2).2.1
  have hm : ∀ i j, 1 ≤ i → i < j → j < q.1.length → (fun i => q.2.getD i 0) i < (fun i => q.2.getD i 0) j := g7
  intro k
  induction k with
  | zero =>
    intro _ _
    exact Or.inr ⟨0, g4, g5, by rw [dp_0]; exact Nat.le_refl _⟩
  | succ k ih =>
    intro hk hu
    rcases ih (by omega) (fun z hz => hu z (by omega)) with h | ⟨i, hi, ei, di⟩
    · left
      rw [bp, h, d0]
    · have hip : i < p := by
        apply Classical.byContradiction
        intro hn
        have := dp_mono ha hm i hi p (by omega)
        omega
      have hl := hu k (by omega)
      have h8 := g8 (4 * i + u k) (by omega)
      rw [show (4 * i + u k) / 4 = i by omega, show (4 * i + u k) % 4 = u k by omega, ei] at h8
      rcases h8 with h | ⟨j, hj, ej, hh⟩
      · exact Or.inl h
      · refine Or.inr ⟨j, hj, ej, ?_⟩
        by_cases j0 : j = 0
        · rw [j0, dp_0]; exact Nat.zero_le _
        · have hr : q.2.getD j 0 ≤ 4 * i + u k := by
            rcases hh with z | z
            · exact absurd z j0
            · exact z
          rw [dp_s ha (by omega) hj]
          have := dp_mono ha hm i hi (q.2.getD j 0 / 4) (by omega)
          omega
/-! pairs of sets -/
def pd (M1 M2 : Nat → Nat) (P l : Nat) : Nat := 256 * ims M1 (P / 256) l + ims M2 (P % 256) l
theorem pd_0 (M1 M2 : Nat → Nat) (l : Nat) : pd M1 M2 0 l = 0 := by
  unfold pd
  rw [Nat.zero_div, Nat.zero_mod, ims_0, ims_0]
theorem bp_bh {M1 M2 u : Nat → Nat} : ∀ k, (∀ z, z < k → u z < 4) → bp (pd M1 M2) (256 * ess M1 + ess M2) u k = 256 * bh M1 u (ess M1) 0 k + bh M2 u (ess M2) 0 k
  | 0, _ => rfl
  | k + 1, hu => by
    have h2 : bh M2 u (ess M2) 0 k < 256 := bh_lt (ess_lt M2) (fun j hj => by rw [Nat.zero_add]; exact hu j (by omega))
    rw [bp, bp_bh k (fun z hz => hu z (by omega)), bh, bh, Nat.zero_add]
    unfold pd
    rw [Nat.mul_add_div (by decide), Nat.div_eq_of_lt h2, Nat.add_zero, Nat.mul_add_mod, Nat.mod_eq_of_lt h2]
/-- just one of the two is empty -/
def dfB (P : Nat) : Bool := xor (decide (P / 256 = 0)) (decide (P % 256 = 0))
theorem dfB_iff {a b : Nat} (hb : b < 256) : dfB (256 * a + b) = false ↔ (a = 0 ↔ b = 0) := by
  unfold dfB
  rw [Nat.mul_add_div (by decide), Nat.div_eq_of_lt hb, Nat.add_zero, Nat.mul_add_mod, Nat.mod_eq_of_lt hb]
  by_cases h1 : a = 0 <;> by_cases h2 : b = 0 <;> simp [h1, h2]
theorem found_len {M1 M2 : Nat → Nat} {t : Nat} {q : List Nat × List Nat} (g : BI (pd M1 M2) (256 * ess M1 + ess M2) t q) (nd : ∀ P ∈ q.1, dfB P = false) (ht : t / 4 < q.1.length) (hd : dfB (pd M1 M2 (q.1.getD (t / 4) 0) (t % 4)) = true) : dp (fun i => q.2.getD i 0) (t / 4) + 1 ≤ 511 := by
  obtain ⟨w, w1, w2⟩ := wordOf g (t / 4) ht
  generalize hL : dp (fun i => q.2.getD i 0) (t / 4) = L at w1 w2
  have hw : ∀ z, z < L + 1 → (if z = L then t % 4 else w z) < 4 := fun z hz => by
    by_cases e : z = L
    · rw [if_pos e]; omega
    · rw [if_neg e]; exact w1 z (by omega)
  have lt2 : ∀ (u : Nat → Nat) k, (∀ z, z < k → u z < 4) → bh M2 u (ess M2) 0 k < 256 := fun u k hu => bh_lt (ess_lt M2) (fun j hj => by rw [Nat.zero_add]; exact hu j hj)
  refine diff_len (M1 := M1) (M2 := M2) (w := fun z => if z = L then t % 4 else w z) (L := L + 1) hw ?_ ?_
  · have e1 : bp (pd M1 M2) (256 * ess M1 + ess M2) (fun z => if z = L then t % 4 else w z) (L + 1) = pd M1 M2 (q.1.getD (t / 4) 0) (t % 4) := by
      rw [bp, if_pos rfl, bp_cong (u' := w) L (fun z hz => if_neg (by omega)), w2]
    rw [bp_bh (L + 1) hw] at e1
    intro h
    rw [← e1, (dfB_iff (lt2 _ _ hw)).mpr h] at hd
    cases hd
  · intro u k hk hu
    rw [← dfB_iff (lt2 u k hu), ← bp_bh k hu]
    rcases seenAll g (pd_0 M1 M2) ht (by omega) u k (by rw [hL]; omega) hu with h | ⟨i, hi, ei, -⟩
    · rw [h]; rfl
    · rw [← ei]
      exact nd _ (getD_mem hi)
