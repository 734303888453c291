/-! CALLS: periodic, orbits: the two ways of counting -/
theorem toN2 : ∀ a b : Bool, (a && b).toNat = a.toNat * b.toNat := by decide
/-- the lowest words that repeat for ever -/
def nL (M : Nat → Nat) (n : Nat) : Nat := cnt (fun x => lynB n x && per M n x) (4 ^ n)
theorem E1 {M : Nat → Nat} {m : Nat} (hm : m < 7) : (m + 1) * nL M (m + 1) = cnt (fun x => primB (m + 1) x && per M (m + 1) x) (4 ^ (m + 1)) := by
  unfold nL
  rw [sm_cnt, sm_cnt, ← sm_const (m + 1)]
  have e1 : sm (fun _ => sm (fun x => (lynB (m + 1) x && per M (m + 1) x).toNat) (4 ^ (m + 1))) (m + 1) = sm (fun r => sm (fun x => (lynB (m + 1) (itr (rot m) r x)).toNat * (per M (m + 1) x).toNat) (4 ^ (m + 1))) (m + 1) := sm_cong (m + 1) (fun r _ => by
    rw [← sm_rots (f := fun x => (lynB (m + 1) x && per M (m + 1) x).toNat) m r]
    exact sm_cong _ (fun x hx => by rw [toN2, per_rots hx]))
  rw [e1, sm_swap (f := fun r x => (lynB (m + 1) (itr (rot m) r x)).toNat * (per M (m + 1) x).toNat)]
  refine sm_cong _ (fun x hx => ?_)
  rw [sm_mul, chk_1 (chk_ok hm hx), toN2]
theorem rtF_eq (n d x : Nat) : rtF n d x = (decide (n % d = 0) && (decide (x % 4 ^ (n - d) = ez n d (x / 4 ^ (n - d))) && primB d (x / 4 ^ (n - d)))) := by
  show cond (Nat.beq (n % d) 0) (cond (Nat.beq (x % 4 ^ (n - d)) (ez n d (x / 4 ^ (n - d)))) (primF d (x / 4 ^ (n - d))) false) false = _
  rw [beq_dec, beq_dec, primF_eq]
  cases decide (n % d = 0) <;> cases decide (x % 4 ^ (n - d) = ez n d (x / 4 ^ (n - d))) <;> rfl
theorem E2 {M : Nat → Nat} {m : Nat} (hm : m < 7) : sm (fun d => if (m + 1) % (d + 1) = 0 then (d + 1) * nL M (d + 1) else 0) (m + 1) = cnt (per M (m + 1)) (4 ^ (m + 1)) := by
  rw [sm_cnt]
  have e1 : sm (fun x => (per M (m + 1) x).toNat) (4 ^ (m + 1)) = sm (fun x => sm (fun d => (rtF (m + 1) (d + 1) x).toNat * (per M (m + 1) x).toNat) (m + 1)) (4 ^ (m + 1)) := sm_cong _ (fun x hx => by
    rw [sm_mul, chk_2 (chk_ok hm hx), Nat.one_mul])
  rw [e1, sm_swap (f := fun x d => (rtF (m + 1) (d + 1) x).toNat * (per M (m + 1) x).toNat)]
  refine sm_cong (m + 1) (fun d hd => ?_)
  by_cases q : (m + 1) % (d + 1) = 0
  · have hp : 4 ^ (m + 1) = 4 ^ (d + 1) * 4 ^ (m + 1 - (d + 1)) := by rw [← Nat.pow_add, show d + 1 + (m + 1 - (d + 1)) = m + 1 by omega]
    rw [if_pos q, E1 (by omega), sm_cnt, hp, sm_block]
    refine sm_cong _ (fun z hz => ?_)
    have key : ∀ t, t < 4 ^ (m + 1 - (d + 1)) → (rtF (m + 1) (d + 1) (z * 4 ^ (m + 1 - (d + 1)) + t)).toNat * (per M (m + 1) (z * 4 ^ (m + 1 - (d + 1)) + t)).toNat = if t = ez (m + 1) (d + 1) z then (primB (d + 1) z && per M (d + 1) z).toNat else 0 := by
      intro t ht
      have h1 : (z * 4 ^ (m + 1 - (d + 1)) + t) / 4 ^ (m + 1 - (d + 1)) = z := by
        rw [Nat.mul_comm, Nat.mul_add_div (p4 _), Nat.div_eq_of_lt ht, Nat.add_zero]
      have h2 : (z * 4 ^ (m + 1 - (d + 1)) + t) % 4 ^ (m + 1 - (d + 1)) = t := by
        rw [Nat.mul_comm, Nat.mul_add_mod, Nat.mod_eq_of_lt ht]
      rw [rtF_eq, h1, h2, decide_eq_true q, Bool.true_and]
      by_cases e : t = ez (m + 1) (d + 1) z
      · have h3 : z * 4 ^ (m + 1 - (d + 1)) + t = rep (m + 1) (d + 1) z := by rw [e]; rfl
        rw [if_pos e, decide_eq_true e, Bool.true_and, h3, per_rep (by omega) (by omega) (by omega) q hz, toN2]
      · rw [if_neg e, decide_eq_false e, Bool.false_and, Bool.toNat_false, Nat.zero_mul]
    rw [sm_cong _ key, sm_one _ (ez_lt hz)]
  · rw [if_neg q, sm_cong (g := fun _ => 0) _ (fun x hx => by rw [rtF_eq, decide_eq_false q, Bool.false_and, Bool.toNat_false, Nat.zero_mul]), sm_zero]
