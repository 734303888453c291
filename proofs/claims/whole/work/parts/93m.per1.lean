/-! CALLS: periodic, orbits: sums, rotations, the lowest words -/
def sm (f : Nat → Nat) : Nat → Nat
  | 0 => 0
  | n + 1 => sm f n + f n
theorem sm_cong {f g : Nat → Nat} : ∀ n, (∀ i, i < n → f i = g i) → sm f n = sm g n
  | 0, _ => rfl
  | n + 1, h => by rw [sm, sm, sm_cong n (fun i hi => h i (by omega)), h n (by omega)]
theorem sm_cnt {p : Nat → Bool} : ∀ n, cnt p n = sm (fun k => (p k).toNat) n
  | 0 => rfl
  | n + 1 => by
    cases hb : p n with
    | true => rw [cnt_one hb, sm, sm_cnt n, hb, Bool.toNat_true]
    | false => rw [cnt_zero hb, sm, sm_cnt n, hb, Bool.toNat_false, Nat.add_zero]
theorem sm_add {f g : Nat → Nat} : ∀ n, sm (fun i => f i + g i) n = sm f n + sm g n
  | 0 => rfl
  | n + 1 => by
    have := sm_add (f := f) (g := g) n
    rw [sm, sm, sm, this]
    omega
theorem sm_zero : ∀ n, sm (fun _ => 0) n = 0
  | 0 => rfl
  | n + 1 => by rw [sm, sm_zero n]
theorem sm_const {c : Nat} : ∀ n, sm (fun _ => c) n = n * c
  | 0 => (Nat.zero_mul c).symm
  | n + 1 => by rw [sm, sm_const n, Nat.succ_mul]
theorem sm_mul {f : Nat → Nat} {c : Nat} : ∀ n, sm (fun i => f i * c) n = sm f n * c
  | 0 => (Nat.zero_mul c).symm
  | n + 1 => by rw [sm, sm, sm_mul n, Nat.add_mul]
theorem sm_swap {f : Nat → Nat → Nat} {m : Nat} : ∀ n, sm (fun i => sm (fun j => f i j) m) n = sm (fun j => sm (fun i => f i j) n) m
  | 0 => (sm_zero m).symm
  | n + 1 => by
    rw [sm, sm_swap n]
    exact (sm_add m).symm
theorem sm_app {f : Nat → Nat} (a : Nat) : ∀ b, sm f (a + b) = sm f a + sm (fun k => f (a + k)) b
  | 0 => rfl
  | b + 1 => by rw [← Nat.add_assoc, sm, sm, sm_app a b, Nat.add_assoc]
theorem sm_block {f : Nat → Nat} {m : Nat} : ∀ k, sm f (k * m) = sm (fun i => sm (fun j => f (i * m + j)) m) k
  | 0 => by rw [Nat.zero_mul]; rfl
  | k + 1 => by rw [Nat.succ_mul, sm_app, sm, sm_block k]
theorem sm_one {a b : Nat} : ∀ n, a < n → sm (fun t => if t = a then b else 0) n = b
  | 0, h => by omega
  | n + 1, h => by
    rw [sm]
    by_cases e : a = n
    · rw [if_pos e.symm, sm_cong (g := fun _ => 0) n (fun i hi => if_neg (by omega)), sm_zero, Nat.zero_add]
    · rw [if_neg (fun q => e q.symm), sm_one n (by omega), Nat.add_zero]
def rot (m x : Nat) : Nat := x % 4 ^ m * 4 + x / 4 ^ m
theorem p4 (m : Nat) : 0 < 4 ^ m := Nat.pow_pos (by decide)
theorem rot_lt {m x : Nat} (h : x < 4 ^ (m + 1)) : rot m x < 4 ^ (m + 1) := by
  have h1 := Nat.mod_lt x (p4 m)
  have h2 : x / 4 ^ m < 4 := Nat.div_lt_of_lt_mul (by rw [← Nat.pow_succ]; exact h)
  have h3 : 4 ^ (m + 1) = 4 ^ m * 4 := Nat.pow_succ ..
  unfold rot
  omega
theorem rot_itr_lt {m x : Nat} (h : x < 4 ^ (m + 1)) : ∀ r, itr (rot m) r x < 4 ^ (m + 1)
  | 0 => h
  | r + 1 => rot_lt (rot_itr_lt h r)
theorem sm_rot {f : Nat → Nat} (m : Nat) : sm (fun x => f (rot m x)) (4 ^ (m + 1)) = sm f (4 ^ (m + 1)) := by
  have e1 : sm (fun x => f (rot m x)) (4 * 4 ^ m) = sm (fun i => sm (fun j => f (j * 4 + i)) (4 ^ m)) 4 := by
    rw [sm_block]
    refine sm_cong 4 (fun i hi => sm_cong _ (fun j hj => ?_))
    unfold rot
    rw [Nat.mul_comm i, Nat.mul_add_mod, Nat.mod_eq_of_lt hj, Nat.mul_add_div (p4 m), Nat.div_eq_of_lt hj, Nat.add_zero]
  rw [show 4 ^ (m + 1) = 4 * 4 ^ m by rw [Nat.pow_succ, Nat.mul_comm], e1, sm_swap, Nat.mul_comm 4, sm_block (m := 4)]
theorem sm_rots {f : Nat → Nat} (m : Nat) : ∀ r, sm (fun x => f (itr (rot m) r x)) (4 ^ (m + 1)) = sm f (4 ^ (m + 1))
  | 0 => rfl
  | r + 1 => by
    show sm (fun x => f (rot m (itr (rot m) r x))) (4 ^ (m + 1)) = _
    rw [sm_rots (f := fun x => f (rot m x)) m r, sm_rot]
/-- how the object goes on: 0 where no lowest word begins so, else the period -/
def fks (w : Nat → Nat) (j p : Nat) : Nat := if p = 0 then 0 else if w j < (if p = j + 1 then 0 else w (j - p)) then 0 else if w j = (if p = j + 1 then 0 else w (j - p)) then p else j + 1
def fk (w : Nat → Nat) : Nat → Nat
  | 0 => 1
  | j + 1 => fks w j (fk w j)
theorem fk_cong {w w' : Nat → Nat} : ∀ j, (∀ i, i < j → w i = w' i) → fk w j = fk w' j
  | 0, _ => rfl
  | j + 1, h => by
    rw [fk, fk, fk_cong j (fun i hi => h i (by omega))]
    unfold fks
    rw [h j (by omega)]
    by_cases e : fk w' j = 0
    · rw [if_pos e, if_pos e]
    · rw [h (j - fk w' j) (by omega)]
theorem fk_le {w : Nat → Nat} : ∀ j, fk w j ≤ j + 1
  | 0 => Nat.le_refl _
  | j + 1 => by
    have := fk_le (w := w) j
    rw [fk]
    unfold fks
    generalize (if fk w j = j + 1 then 0 else w (j - fk w j)) = lo
    split
    · omega
    · split
      · omega
      · split <;> omega
theorem fk_no {w : Nat → Nat} {j : Nat} (h : fk w j = 0) : ∀ i, fk w (j + i) = 0
  | 0 => h
  | i + 1 => by
    rw [← Nat.add_assoc, fk, fk_no h i]
    rfl
def lynB (n x : Nat) : Bool := decide (fk (dgt n x) n = n)
/-- the reference's primitive words -/
def esB (w : Nat → Nat) (p : Nat) : Nat → Bool
  | 0 => true
  | j + 1 => esB w p j && decide (w (p + j) = w j)
def pqB (w : Nat → Nat) (n p : Nat) : Bool := decide (n % p = 0) && esB w p (n - p)
def prB (w : Nat → Nat) (n : Nat) : Nat → Bool
  | 0 => true
  | j + 1 => prB w n j && !pqB w n (j + 1)
def primB (n x : Nat) : Bool := prB (dgt n x) n (n - 1)
