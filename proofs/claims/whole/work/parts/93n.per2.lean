/-! CALLS: periodic, orbits: each primitive word has one lowest rotation, each word one primitive root (by going through them, in words that the kernel counts fast) -/
def dgtF (n x j : Nat) : Nat := Nat.mod (Nat.div x (Nat.pow 4 (Nat.sub (Nat.sub n 1) j))) 4
theorem dgtF_eq (n x : Nat) : dgtF n x = dgt n x := rfl
def rotF (m x : Nat) : Nat := Nat.add (Nat.mul (Nat.mod x (Nat.pow 4 m)) 4) (Nat.div x (Nat.pow 4 m))
theorem rotF_eq (m x : Nat) : rotF m x = rot m x := rfl
def fksF (w : Nat → Nat) (j p : Nat) : Nat := cond (Nat.beq p 0) 0 (cond (Nat.beq p (Nat.succ j)) (Nat.succ j) (cond (Nat.ble (Nat.succ (w j)) (w (Nat.sub j p))) 0 (cond (Nat.beq (w j) (w (Nat.sub j p))) p (Nat.succ j))))
theorem beqT {a b : Nat} (h : a = b) : Nat.beq a b = true := by
  subst h
  exact Nat.beq_refl a
theorem beqF {a b : Nat} (h : a ≠ b) : Nat.beq a b = false := by
  cases e : Nat.beq a b with
  | false => rfl
  | true => exact absurd (Nat.eq_of_beq_eq_true e) h
theorem bleT {a b : Nat} (h : a ≤ b) : Nat.ble a b = true := Nat.ble_eq_true_of_le h
theorem bleF {a b : Nat} (h : ¬ a ≤ b) : Nat.ble a b = false := by
  cases e : Nat.ble a b with
  | false => rfl
  | true => exact absurd (Nat.le_of_ble_eq_true e) h
theorem fksF_eq (w : Nat → Nat) (j p : Nat) : fksF w j p = fks w j p := by
  unfold fksF fks
  by_cases h0 : p = 0
  · rw [beqT h0, if_pos h0]; rfl
  · rw [beqF h0, if_neg h0]
    show cond (Nat.beq p (j + 1)) (j + 1) _ = _
    by_cases h1 : p = j + 1
    · rw [beqT h1, if_pos h1, if_neg (by omega)]
      split
      · exact h1.symm
      · rfl
    · rw [beqF h1, if_neg h1]
      show cond (Nat.ble (w j + 1) (w (j - p))) 0 (cond (Nat.beq (w j) (w (j - p))) p (j + 1)) = _
      by_cases h2 : w j < w (j - p)
      · rw [bleT h2, if_pos h2]; rfl
      · rw [bleF h2, if_neg h2]
        show cond (Nat.beq (w j) (w (j - p))) p (j + 1) = _
        by_cases h3 : w j = w (j - p)
        · rw [beqT h3, if_pos h3]; rfl
        · rw [beqF h3, if_neg h3]; rfl
def fkF (w : Nat → Nat) (n : Nat) : Nat := Nat.rec (motive := fun _ => Nat) 1 (fun j p => fksF w j p) n
theorem fkF_eq (w : Nat → Nat) : ∀ n, fkF w n = fk w n
  | 0 => rfl
  | n + 1 => by
    show fksF w n (fkF w n) = fk w (n + 1)
    rw [fkF_eq w n, fksF_eq, fk]
def lynF (n x : Nat) : Bool := Nat.beq (fkF (dgtF n x) n) n
theorem beq_dec (a b : Nat) : Nat.beq a b = decide (a = b) := by
  by_cases h : a = b
  · rw [beqT h, decide_eq_true h]
  · rw [beqF h, decide_eq_false h]
theorem lynF_eq (n x : Nat) : lynF n x = lynB n x := by
  unfold lynF lynB
  rw [fkF_eq, beq_dec, dgtF_eq]
def lpF (m : Nat) (k : Nat) : Nat → Nat := Nat.rec (motive := fun _ => Nat → Nat) (fun _ => 0) (fun _ ih y => Nat.add (cond (lynF (Nat.succ m) y) 1 0) (ih (rotF m y))) k
theorem sm_front {f : Nat → Nat} : ∀ k, sm f (k + 1) = f 0 + sm (fun i => f (i + 1)) k
  | 0 => by rw [sm, sm, sm, Nat.zero_add, Nat.add_zero]
  | k + 1 => by rw [sm, sm_front k, sm, Nat.add_assoc]
theorem itr_front {f : Nat → Nat} : ∀ r x, itr f (r + 1) x = itr f r (f x)
  | 0, _ => rfl
  | r + 1, x => by rw [itr, itr_front r x, itr]
theorem cond_nat (b : Bool) : cond b 1 0 = b.toNat := by cases b <;> rfl
theorem lpF_eq (m : Nat) : ∀ k y, lpF m k y = sm (fun r => (lynB (m + 1) (itr (rot m) r y)).toNat) k
  | 0, _ => rfl
  | k + 1, y => by
    show cond (lynF (m + 1) y) 1 0 + lpF m k (rot m y) = _
    rw [lpF_eq m k, sm_front, lynF_eq, cond_nat]
    refine congrArg _ (sm_cong k (fun i hi => ?_))
    rw [itr_front]
def esF (w : Nat → Nat) (p k : Nat) : Bool := Nat.rec (motive := fun _ => Bool) true (fun j ih => cond (Nat.beq (w (Nat.add p j)) (w j)) ih false) k
theorem esF_eq (w : Nat → Nat) (p : Nat) : ∀ k, esF w p k = esB w p k
  | 0 => rfl
  | k + 1 => by
    show cond (Nat.beq (w (p + k)) (w k)) (esF w p k) false = _
    rw [esF_eq w p k, esB, beq_dec]
    cases esB w p k <;> cases decide (w (p + k) = w k) <;> rfl
def pqF (w : Nat → Nat) (n p : Nat) : Bool := cond (Nat.beq (Nat.mod n p) 0) (esF w p (Nat.sub n p)) false
theorem pqF_eq (w : Nat → Nat) (n p : Nat) : pqF w n p = pqB w n p := by
  show cond (Nat.beq (n % p) 0) (esF w p (n - p)) false = _
  unfold pqB
  rw [esF_eq, beq_dec]
  cases decide (n % p = 0) <;> rfl
def prF (w : Nat → Nat) (n k : Nat) : Bool := Nat.rec (motive := fun _ => Bool) true (fun j ih => cond (pqF w n (Nat.succ j)) false ih) k
theorem prF_eq (w : Nat → Nat) (n : Nat) : ∀ k, prF w n k = prB w n k
  | 0 => rfl
  | k + 1 => by
    show cond (pqF w n (k + 1)) false (prF w n k) = _
    rw [prF_eq w n k, prB, pqF_eq]
    cases prB w n k <;> cases pqB w n (k + 1) <;> rfl
def primF (n x : Nat) : Bool := prF (dgtF n x) n (Nat.sub n 1)
theorem primF_eq (n x : Nat) : primF n x = primB n x := prF_eq _ _ _
def chk1 (m x : Nat) : Bool := Nat.beq (lpF m (Nat.succ m) x) (cond (primF (Nat.succ m) x) 1 0)
def ezF (n d z : Nat) : Nat := Nat.mul z (Nat.div (Nat.sub (Nat.pow 4 (Nat.sub n d)) 1) (Nat.sub (Nat.pow 4 d) 1))
/-- d is the length of the root -/
def rtF (n d x : Nat) : Bool := cond (Nat.beq (Nat.mod n d) 0) (cond (Nat.beq (Nat.mod x (Nat.pow 4 (Nat.sub n d))) (ezF n d (Nat.div x (Nat.pow 4 (Nat.sub n d))))) (primF d (Nat.div x (Nat.pow 4 (Nat.sub n d)))) false) false
def rsF (n x k : Nat) : Nat := Nat.rec (motive := fun _ => Nat) 0 (fun j ih => Nat.add ih (cond (rtF n (Nat.succ j) x) 1 0)) k
theorem rsF_eq (n x : Nat) : ∀ k, rsF n x k = sm (fun j => (rtF n (j + 1) x).toNat) k
  | 0 => rfl
  | k + 1 => by
    show rsF n x k + cond (rtF n (k + 1) x) 1 0 = _
    rw [rsF_eq n x k, sm, cond_nat]
def chk2 (n x : Nat) : Bool := Nat.beq (rsF n x n) 1
def chk (m x : Nat) : Bool := cond (chk1 m x) (chk2 (Nat.succ m) x) false
theorem chk_1 {m x : Nat} (h : chk m x = true) : sm (fun r => (lynB (m + 1) (itr (rot m) r x)).toNat) (m + 1) = (primB (m + 1) x).toNat := by
  unfold chk at h
  cases e : chk1 m x with
  | false => rw [e] at h; cases h
  | true =>
    have := Nat.eq_of_beq_eq_true e
    rw [lpF_eq, cond_nat, primF_eq] at this
    exact this
theorem chk_2 {m x : Nat} (h : chk m x = true) : sm (fun j => (rtF (m + 1) (j + 1) x).toNat) (m + 1) = 1 := by
  unfold chk at h
  cases e : chk1 m x with
  | false => rw [e] at h; cases h
  | true =>
    rw [e] at h
    have := Nat.eq_of_beq_eq_true (show chk2 (m + 1) x = true from h)
    rw [rsF_eq] at this
    exact this
def alF (p : Nat → Bool) (b k : Nat) : Bool := Nat.rec (motive := fun _ => Bool) true (fun j ih => cond (p (Nat.add b j)) ih false) k
theorem alF_ok {p : Nat → Bool} {b : Nat} : ∀ k, alF p b k = true → ∀ i, i < k → p (b + i) = true
  | 0, _, i, hi => by omega
  | k + 1, h, i, hi => by
    have h' : cond (p (b + k)) (alF p b k) false = true := h
    cases e : p (b + k) with
    | false => rw [e] at h'; cases h'
    | true =>
      rw [e] at h'
      by_cases q : i = k
      · rw [q]; exact e
      · exact alF_ok k h' i (by omega)
def blk (m a : Nat) : Bool := alF (chk m) (Nat.mul 128 a) 128
theorem blk_ok {m a x : Nat} (h : blk m a = true) (h1 : 128 * a ≤ x) (h2 : x < 128 * a + 128) : chk m x = true := by
  have := alF_ok 128 h (x - 128 * a) (by omega)
  rwa [show Nat.mul 128 a + (x - 128 * a) = x from Nat.add_sub_cancel' h1] at this
theorem F1_0 : alF (chk 0) 0 4 = true := by decide +kernel
theorem F1_1 : alF (chk 1) 0 16 = true := by decide +kernel
theorem F1_2 : alF (chk 2) 0 64 = true := by decide +kernel
theorem F1_3 : alF (blk 3) 0 2 = true := by decide +kernel
theorem F1_4 : alF (blk 4) 0 8 = true := by decide +kernel
