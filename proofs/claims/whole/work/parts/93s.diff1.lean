/-! CALL: writeDifference: the word is short -/
def ip (f g : Nat → Bool) : Nat → Bool
  | 0 => false
  | n + 1 => xor (ip f g n) (f n && g n)
theorem ip_cong {f g f' g' : Nat → Bool} : ∀ n, (∀ z, z < n → (f z && g z) = (f' z && g' z)) → ip f g n = ip f' g' n
  | 0, _ => rfl
  | n + 1, h => by rw [ip, ip, ip_cong n (fun z hz => h z (by omega)), h n (by omega)]
theorem ip_add {f f' g : Nat → Bool} : ∀ n, ip (fun z => xor (f z) (f' z)) g n = xor (ip f g n) (ip f' g n)
  | 0 => rfl
  | n + 1 => by
    rw [ip, ip, ip, ip_add n]
    cases ip f g n <;> cases ip f' g n <;> cases f n <;> cases f' n <;> cases g n <;> rfl
theorem ip_and {b : Bool} {f g : Nat → Bool} : ∀ n, ip (fun z => b && f z) g n = (b && ip f g n)
  | 0 => by cases b <;> rfl
  | n + 1 => by
    rw [ip, ip, ip_and n]
    cases b <;> cases ip f g n <;> cases f n <;> cases g n <;> rfl
theorem exMin {p : Nat → Bool} : ∀ m, (∃ i, i < m ∧ p i = true) → ∃ i, i < m ∧ p i = true ∧ ∀ j, j < i → p j = false
  | 0, ⟨i, hi, _⟩ => by omega
  | m + 1, ⟨i, hi, hp⟩ => by
    by_cases h : ∃ i, i < m ∧ p i = true
    · obtain ⟨k, h1, h2, h3⟩ := exMin m h
      exact ⟨k, by omega, h2, h3⟩
    · have : i = m := by
        apply Classical.byContradiction
        intro q
        exact h ⟨i, by omega, hp⟩
      subst this
      refine ⟨i, hi, hp, fun j hj => ?_⟩
      cases e : p j with
      | false => rfl
      | true => exact absurd ⟨j, hj, e⟩ h
/-- rows and columns whose products are ones on the diagonal and zeros above it are no more than their length -/
theorem tri : ∀ (N m : Nat) (φ ψ : Nat → Nat → Bool), (∀ i, i < m → ip (φ i) (ψ i) N = true) → (∀ i j, i < j → j < m → ip (φ i) (ψ j) N = false) → m ≤ N := by
  intro N
  induction N with
  | zero =>
    intro m φ ψ h1 _
    apply Classical.byContradiction
    intro q
    have := h1 0 (by omega)
    rw [ip] at this
    cases this
  | succ N ih =>
    intro m φ ψ h1 h2
    by_cases hex : ∃ i, i < m ∧ φ i N = true
    · obtain ⟨i0, a1, a2, a3⟩ := exMin m hex
      have key : m - 1 ≤ N := by
        have e : ∀ i j, i ≤ j → j < m - 1 → ip (fun z => xor (φ (if i < i0 then i else i + 1) z) (φ (if i < i0 then i else i + 1) N && φ i0 z)) (ψ (if j < i0 then j else j + 1)) N = ip (φ (if i < i0 then i else i + 1)) (ψ (if j < i0 then j else j + 1)) (N + 1) := by
          intro i j hij hj
          have hlast : xor (φ (if i < i0 then i else i + 1) N) (φ (if i < i0 then i else i + 1) N && φ i0 N) = false := by
            rw [a2]
            cases φ (if i < i0 then i else i + 1) N <;> rfl
          have e1 : ip (fun z => xor (φ (if i < i0 then i else i + 1) z) (φ (if i < i0 then i else i + 1) N && φ i0 z)) (ψ (if j < i0 then j else j + 1)) (N + 1) = ip (fun z => xor (φ (if i < i0 then i else i + 1) z) (φ (if i < i0 then i else i + 1) N && φ i0 z)) (ψ (if j < i0 then j else j + 1)) N := by
            rw [ip, hlast, Bool.false_and, Bool.xor_false]
          rw [← e1, ip_add, ip_and]
          cases hb : φ (if i < i0 then i else i + 1) N with
          | false => rw [Bool.false_and, Bool.xor_false]
          | true =>
            have hi : ¬ i < i0 := fun q => by
              rw [if_pos q, a3 i q] at hb
              cases hb
            have hjj : ¬ j < i0 := by omega
            have := h2 i0 (j + 1) (by omega) (by omega)
            rw [if_neg hjj, this, Bool.and_false, Bool.xor_false]
        refine ih (m - 1) (fun i z => xor (φ (if i < i0 then i else i + 1) z) (φ (if i < i0 then i else i + 1) N && φ i0 z)) (fun j => ψ (if j < i0 then j else j + 1)) (fun i hi => ?_) (fun i j hij hj => ?_)
        · rw [e i i (Nat.le_refl i) hi]
          exact h1 _ (by split <;> omega)
        · rw [e i j (by omega) hj]
          exact h2 _ _ (by split <;> split <;> omega) (by split <;> omega)
      omega
    · have z : ∀ i, i < m → φ i N = false := fun i hi => by
        cases e : φ i N with
        | false => rfl
        | true => exact absurd ⟨i, hi, e⟩ hex
      have e : ∀ i j, i < m → ip (φ i) (ψ j) (N + 1) = ip (φ i) (ψ j) N := fun i j hi => by rw [ip, z i hi, Bool.false_and, Bool.xor_false]
      have := ih m φ ψ (fun i hi => by rw [← e i i hi]; exact h1 i hi) (fun i j hij hj => by rw [← e i j (by omega)]; exact h2 i j hij hj)
      omega
/-- the number of the subsets of a set is odd if it is empty -/
def paF (Y k : Nat) : Bool := Nat.rec (motive := fun _ => Bool) false (fun X ih => cond (Nat.beq (Nat.land X Y) X) (not ih) ih) k
theorem paF_eq (Y : Nat) : ∀ k, paF Y k = ip (fun X => decide (X &&& Y = X)) (fun _ => true) k
  | 0 => rfl
  | k + 1 => by
    show cond (Nat.beq (k &&& Y) k) (not (paF Y k)) (paF Y k) = _
    rw [paF_eq Y k, ip, beq_dec, Bool.and_true]
    cases decide (k &&& Y = k) <;> cases ip (fun X => decide (X &&& Y = X)) (fun _ => true) k <;> rfl
theorem par0 : alF (fun Y => cond (Nat.beq Y 0) (paF Y 256) (not (paF Y 256))) 0 256 = true := by decide +kernel
theorem par_ok {Y : Nat} (hY : Y < 256) : ip (fun X => decide (X &&& Y = X)) (fun _ => true) 256 = decide (Y = 0) := by
  have h := alF_ok 256 par0 Y hY
  rw [Nat.zero_add, beq_dec] at h
  rw [← paF_eq]
  generalize paF Y 256 = b at h ⊢
  cases e : decide (Y = 0) with
  | true =>
    rw [e] at h
    exact h
  | false =>
    rw [e] at h
    cases b with
    | false => rfl
    | true => cases h
def ssB (S X : Nat) : Bool := decide (X &&& S = X)
theorem ss_and {S R X : Nat} : (ssB S X && ssB R X) = (ssB (S &&& R) X && true) := by
  unfold ssB
  rw [Bool.and_true]
  by_cases h1 : X &&& S = X
  · rw [decide_eq_true h1, Bool.true_and, ← Nat.and_assoc, h1]
  · have : ¬ (X &&& (S &&& R) = X) := fun q => h1 (by
      apply Nat.eq_of_testBit_eq
      intro i
      rw [Nat.testBit_and]
      cases hx : X.testBit i with
      | false => rfl
      | true =>
        rw [← q, Nat.testBit_and, Nat.testBit_and] at hx
        rw [Bool.and_eq_true, Bool.and_eq_true] at hx
        rw [hx.2.1]
        rfl)
    rw [decide_eq_false h1, decide_eq_false this, Bool.false_and]
theorem ip_ss {S R : Nat} (hS : S < 256) : ip (ssB S) (ssB R) 256 = decide (S &&& R = 0) := by
  rw [ip_cong (f' := ssB (S &&& R)) (g' := fun _ => true) 256 (fun X _ => ss_and)]
  exact par_ok (Nat.lt_of_le_of_lt Nat.and_le_left hS)
/-- two halves side by side -/
theorem ip_app {f g f' g' : Nat → Bool} {a : Nat} : ∀ b, ip (fun z => if z < a then f z else f' (z - a)) (fun z => if z < a then g z else g' (z - a)) (a + b) = xor (ip f g a) (ip f' g' b)
  | 0 => by
    rw [Nat.add_zero, ip, Bool.xor_false]
    exact ip_cong a (fun z hz => by rw [if_pos hz, if_pos hz])
  | b + 1 => by
    rw [← Nat.add_assoc, ip, ip_app b, ip, if_neg (by omega), if_neg (by omega), Nat.add_sub_cancel_left, Bool.xor_assoc]
section DL
variable {M : Nat → Nat}
theorem bh_bits {w : Nat → Nat} {S a i : Nat} : ∀ k, sb S (ess M) → (∀ j, j < k → w (a + j) < 4) → ∀ i, ((bh M w S a k).testBit i = true ↔ ∃ v, v < 8 ∧ S.testBit v = true ∧ (bh M w (2 ^ v) a k).testBit i = true)
  | 0, hS, _, i => by
    constructor
    · intro h
      have hi : i < 8 := by
        apply Classical.byContradiction
        intro q
        have := Nat.testBit_lt_two_pow (Nat.lt_of_lt_of_le (sb_lt hS (ess_lt M)) (Nat.pow_le_pow_right (n := 2) (by decide) (show 8 ≤ i by omega)))
        rw [bh, this] at h
        cases h
      exact ⟨i, hi, h, by rw [bh, Nat.testBit_two_pow]; exact decide_eq_true rfl⟩
    · rintro ⟨v, -, h1, h2⟩
      rw [bh, Nat.testBit_two_pow] at h2
      rw [bh, ← of_decide_eq_true h2]
      exact h1
  | k + 1, hS, hw, i => by
    have ih := bh_bits (w := w) (S := S) (a := a) (i := i) k hS (fun j hj => hw j (by omega))
    have sS : sb (bh M w S a k) (ess M) := bh_sb hS (fun j hj => hw j (by omega))
    have one : ∀ v, v < 8 → S.testBit v = true → sb (bh M w (2 ^ v) a k) (ess M) := fun v _ hv => bh_sb (fun z hz => by
      rw [Nat.testBit_two_pow] at hz
      rw [← of_decide_eq_true hz]
      exact hS v hv) (fun j hj => hw j (by omega))
    rw [bh, ims_in sS, fo, orf_bit]
    constructor
    · rintro ⟨u, h1, h2, h3⟩
      obtain ⟨v, v1, v2, v3⟩ := (ih u).mp h2
      refine ⟨v, v1, v2, ?_⟩
      rw [bh, ims_in (one v v1 v2), fo, orf_bit]
      exact ⟨u, h1, v3, h3⟩
    · rintro ⟨v, v1, v2, h⟩
      rw [bh, ims_in (one v v1 v2), fo, orf_bit] at h
      obtain ⟨u, h1, h2, h3⟩ := h
      exact ⟨u, h1, (ih u).mpr ⟨v, v1, v2, h2⟩, h3⟩
theorem bits0 {S : Nat} : S = 0 ↔ ∀ i, S.testBit i = false := by
  constructor
  · intro h i
    rw [h, Nat.zero_testBit]
  · intro h
    apply Nat.eq_of_testBit_eq
    intro i
    rw [h i, Nat.zero_testBit]
/-- who can read on -/
def rdr (M w : Nat → Nat) (a k : Nat) : Nat := orf (fun v => !decide (bh M w (2 ^ v) a k = 0)) (fun v => 2 ^ v) 8
theorem rdr_ok {w : Nat → Nat} {S a k : Nat} (hS : sb S (ess M)) (hw : ∀ j, j < k → w (a + j) < 4) : S &&& rdr M w a k = 0 ↔ bh M w S a k = 0 := by
  rw [bits0, bits0]
  constructor
  · intro h i
    cases e : (bh M w S a k).testBit i with
    | false => rfl
    | true =>
      obtain ⟨v, v1, v2, v3⟩ := (bh_bits (i := i) k hS hw i).mp e
      have := h v
      rw [Nat.testBit_and, v2, Bool.true_and] at this
      have q : (rdr M w a k).testBit v = true := orf_bit.mpr ⟨v, v1, by rw [decide_eq_false (fun z => by rw [z, Nat.zero_testBit] at v3; cases v3)]; rfl, by rw [Nat.testBit_two_pow]; exact decide_eq_true rfl⟩
      rw [q] at this
      cases this
  · intro h v
    cases e : (S &&& rdr M w a k).testBit v with
    | false => rfl
    | true =>
      rw [Nat.testBit_and, Bool.and_eq_true] at e
      obtain ⟨u, u1, u2, u3⟩ := orf_bit.mp e.2
      rw [Nat.testBit_two_pow] at u3
      have huv := of_decide_eq_true u3
      subst huv
      have hne : bh M w (2 ^ u) a k ≠ 0 := fun q => by rw [decide_eq_true q] at u2; cases u2
      exfalso
      apply hne
      rw [bits0]
      intro i
      cases q : (bh M w (2 ^ u) a k).testBit i with
      | false => rfl
      | true =>
        have := (bh_bits (i := i) k hS hw i).mpr ⟨u, u1, e.1, q⟩
        rw [h i] at this
        cases this
end DL
/-- a shortest word that dies in just one of two graphs -/
theorem diff_len {M1 M2 w : Nat → Nat} {L : Nat} (hw : ∀ z, z < L → w z < 4) (hd : ¬ (bh M1 w (ess M1) 0 L = 0 ↔ bh M2 w (ess M2) 0 L = 0)) (hs : ∀ (u : Nat → Nat) k, k < L → (∀ z, z < k → u z < 4) → (bh M1 u (ess M1) 0 k = 0 ↔ bh M2 u (ess M2) 0 k = 0)) : L ≤ 511 := by
  have hw' : ∀ a k, a + k ≤ L → ∀ j, j < k → w (a + j) < 4 := fun a k h j hj => hw _ (by omega)
  have sS : ∀ (M : Nat → Nat) i, i ≤ L → sb (bh M w (ess M) 0 i) (ess M) := fun M i hi => bh_sb (fun _ h => h) (hw' 0 i (by omega))
  have cut : ∀ (M : Nat → Nat) i j, i ≤ j → j ≤ L → bh M w (bh M w (ess M) 0 i) j (L - j) = bh M (fun z => if z < i then w z else w (z - i + j)) (ess M) 0 (i + (L - j)) := by
    intro M i j hij hj
    rw [bh_add, Nat.zero_add]
    rw [bh_cong (w := fun z => if z < i then w z else w (z - i + j)) (w' := w) (a := 0) (a' := 0) i (fun z hz => by rw [Nat.zero_add, if_pos hz])]
    exact bh_cong _ (fun z hz => by rw [if_neg (by omega), show i + z - i + j = j + z by omega])
  have ent : ∀ (M : Nat → Nat) i j, i ≤ j → j ≤ L → ip (ssB (bh M w (ess M) 0 i)) (ssB (rdr M w j (L - j))) 256 = decide (bh M w (bh M w (ess M) 0 i) j (L - j) = 0) := by
    intro M i j hij hj
    rw [ip_ss (sb_lt (sS M i (by omega)) (ess_lt M))]
    have := rdr_ok (M := M) (w := w) (a := j) (k := L - j) (sS M i (by omega)) (hw' j (L - j) (by omega))
    by_cases e : bh M w (bh M w (ess M) 0 i) j (L - j) = 0
    · rw [decide_eq_true e, decide_eq_true (this.mpr e)]
    · rw [decide_eq_false e, decide_eq_false (fun q => e (this.mp q))]
  have key := tri (256 + 256) (L + 1) (fun i z => if z < 256 then ssB (bh M1 w (ess M1) 0 i) z else ssB (bh M2 w (ess M2) 0 i) (z - 256)) (fun j z => if z < 256 then ssB (rdr M1 w j (L - j)) z else ssB (rdr M2 w j (L - j)) (z - 256)) (fun i hi => ?_) (fun i j hij hj => ?_)
  · omega
  · rw [ip_app, ent M1 i i (Nat.le_refl i) (by omega), ent M2 i i (Nat.le_refl i) (by omega)]
    have e : ∀ M : Nat → Nat, bh M w (bh M w (ess M) 0 i) i (L - i) = bh M w (ess M) 0 L := fun M => by
      have := bh_add (M := M) (w := w) (S := ess M) (a := 0) (k := i) (L - i)
      rw [Nat.zero_add, show i + (L - i) = L by omega] at this
      exact this.symm
    rw [e M1, e M2]
    by_cases q1 : bh M1 w (ess M1) 0 L = 0
    · by_cases q2 : bh M2 w (ess M2) 0 L = 0
      · exact absurd ⟨fun _ => q2, fun _ => q1⟩ hd
      · rw [decide_eq_true q1, decide_eq_false q2]; rfl
    · by_cases q2 : bh M2 w (ess M2) 0 L = 0
      · rw [decide_eq_false q1, decide_eq_true q2]; rfl
      · exact absurd ⟨fun z => absurd z q1, fun z => absurd z q2⟩ hd
  · rw [ip_app, ent M1 i j (by omega) (by omega), ent M2 i j (by omega) (by omega), cut M1 i j (by omega) (by omega), cut M2 i j (by omega) (by omega)]
    have := hs (fun z => if z < i then w z else w (z - i + j)) (i + (L - j)) (by omega) (fun z hz => by
      by_cases q : z < i
      · rw [if_pos q]; exact hw _ (by omega)
      · rw [if_neg q]; exact hw _ (by omega))
    by_cases q1 : bh M1 (fun z => if z < i then w z else w (z - i + j)) (ess M1) 0 (i + (L - j)) = 0
    · rw [decide_eq_true q1, decide_eq_true (this.mp q1)]; rfl
    · rw [decide_eq_false q1, decide_eq_false (fun q => q1 (this.mpr q))]; rfl
