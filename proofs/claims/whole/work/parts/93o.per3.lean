/-! CALLS: periodic, orbits: words that repeat for ever -/
theorem sb0 {S : Nat} (h : sb S 0) : S = 0 := by
  apply Nat.eq_of_testBit_eq
  intro i
  rw [Nat.zero_testBit]
  cases hb : S.testBit i with
  | false => rfl
  | true =>
    have := h i hb
    rw [Nat.zero_testBit] at this
    cases this
theorem ims_mono {M : Nat → Nat} {S T l : Nat} (h : sb S T) (hT : sb T (ess M)) : sb (ims M S l) (ims M T l) := by
  rw [ims_in (sb_tr h hT), ims_in hT]
  exact fo_mono h
theorem bh_mono {M w : Nat → Nat} {S T a : Nat} (h : sb S T) (hT : sb T (ess M)) : ∀ k, (∀ j, j < k → w (a + j) < 4) → sb (bh M w S a k) (bh M w T a k)
  | 0, _ => h
  | k + 1, hw => ims_mono (bh_mono h hT k (fun j hj => hw j (by omega))) (bh_sb hT (fun j hj => hw j (by omega)))
theorem bh_cong {M w w' : Nat → Nat} {S a a' : Nat} : ∀ k, (∀ j, j < k → w (a + j) = w' (a' + j)) → bh M w S a k = bh M w' S a' k
  | 0, _ => rfl
  | k + 1, h => by rw [bh, bh, bh_cong k (fun j hj => h j (by omega)), h k (by omega)]
theorem bh_add {M w : Nat → Nat} {S a k : Nat} : ∀ j, bh M w S a (k + j) = bh M w (bh M w S a k) (a + k) j
  | 0 => rfl
  | j + 1 => by rw [← Nat.add_assoc, bh, bh, bh_add j, Nat.add_assoc]
theorem bh_0 {M w : Nat → Nat} {a : Nat} : ∀ k, bh M w 0 a k = 0
  | 0 => rfl
  | k + 1 => by rw [bh, bh_0 k, ims_0]
section DEC
variable {F A B : Nat → Nat} {E : Nat}
/-- from the whole set down to the one that stays -/
def dwn (F : Nat → Nat) (E : Nat) : Prop := (∀ S T, sb S T → sb T E → sb (F S) (F T)) ∧ ∀ S, sb S E → sb (F S) E
theorem dwn_in (g : dwn F E) : ∀ k, sb (itr F k E) E
  | 0 => fun _ h => h
  | k + 1 => g.2 _ (dwn_in g k)
theorem dwn_step (g : dwn F E) : ∀ k, sb (itr F (k + 1) E) (itr F k E)
  | 0 => g.2 E (fun _ h => h)
  | k + 1 => g.1 _ _ (dwn_step g k) (dwn_in g k)
theorem dwn_stop (hE : E < 256) (g : dwn F E) : ∃ m, m ≤ 8 ∧ itr F (m + 1) E = itr F m E ∧ (∀ i, i < m → itr F (i + 1) E ≠ itr F i E) ∧ ∀ k, itr F (m + k) E = itr F m E := by
  have e : ∀ k, itr (fun T => F T &&& T) k E = itr F k E := by
    intro k
    induction k with
    | zero => rfl
    | succ k ih =>
      show F (itr (fun T => F T &&& T) k E) &&& itr (fun T => F T &&& T) k E = itr F (k + 1) E
      rw [ih]
      exact sb_and.mpr (dwn_step g k)
  obtain ⟨m, h1, h2, h3⟩ := itr_stop (f := fun T => F T &&& T) (n := 8) (S := E) (fun T _ => by rw [Nat.and_assoc, Nat.and_self]) hE
  rw [e, e] at h2
  refine ⟨m, h1, h2, fun i hi => ?_, fun k => itr_const h2 k⟩
  have := h3 i hi
  rw [e, e] at this
  exact this
theorem dwn_8 (hE : E < 256) (g : dwn F E) (k : Nat) : itr F (8 + k) E = itr F 8 E := by
  obtain ⟨m, h1, -, -, h4⟩ := dwn_stop hE g
  have a := h4 (8 - m + k)
  have b := h4 (8 - m)
  rw [show m + (8 - m + k) = 8 + k by omega] at a
  rw [show m + (8 - m) = 8 by omega] at b
  rw [a, b]
theorem itr_mono (g : dwn F E) {S T : Nat} (h : sb S T) (hT : sb T E) : ∀ k, sb (itr F k S) (itr F k T) ∧ sb (itr F k T) E
  | 0 => ⟨h, hT⟩
  | k + 1 => ⟨g.1 _ _ (itr_mono g h hT k).1 (itr_mono g h hT k).2, g.2 _ (itr_mono g h hT k).2⟩
theorem dwn_comp (g : dwn A E) (g' : dwn B E) : dwn (fun S => B (A S)) E := ⟨fun S T h hT => g'.1 _ _ (g.1 S T h hT) (g.2 T hT), fun S h => g'.2 _ (g.2 S h)⟩
theorem itr_ab : ∀ k S, itr (fun S => A (B S)) (k + 1) S = A (itr (fun S => B (A S)) k (B S))
  | 0, S => rfl
  | k + 1, S => by
    show A (B (itr (fun S => A (B S)) (k + 1) S)) = A (B (A (itr (fun S => B (A S)) k (B S))))
    rw [itr_ab k S]
theorem dwn_rot (hE : E < 256) (g : dwn A E) (g' : dwn B E) (z : A 0 = 0) (h : itr (fun S => B (A S)) 8 E = 0) : itr (fun S => A (B S)) 8 E = 0 := by
  rw [← dwn_8 hE (dwn_comp g' g) 1, itr_ab]
  have := (itr_mono (dwn_comp g g') (g'.2 E (fun _ h => h)) (fun _ h => h) 8).1
  rw [h] at this
  rw [sb0 this, z]
theorem itr_mul (e : Nat) : ∀ k S, itr (fun S => itr F e S) k S = itr F (e * k) S
  | 0, S => rfl
  | k + 1, S => by
    have ha : ∀ a b S, itr F (a + b) S = itr F b (itr F a S) := by
      intro a b
      induction b with
      | zero => intro S; rfl
      | succ b ih => intro S; rw [← Nat.add_assoc, itr, ih, itr]
    rw [itr, itr_mul e k S, Nat.mul_succ, ha]
end DEC
theorem dwn_bh (M w : Nat → Nat) (a k : Nat) (hw : ∀ j, j < k → w (a + j) < 4) : dwn (fun S => bh M w S a k) (ess M) := ⟨fun _ _ h hT => bh_mono h hT k hw, fun _ h => bh_sb h hw⟩
def Fw (M : Nat → Nat) (n x S : Nat) : Nat := bh M (dgt n x) S 0 n
theorem dwn_Fw (M : Nat → Nat) (n x : Nat) : dwn (Fw M n x) (ess M) := dwn_bh M (dgt n x) 0 n (fun _ _ => dgt_lt _ _ _)
def per (M : Nat → Nat) (n x : Nat) : Bool := !decide (itr (Fw M n x) 8 (ess M) = 0)
theorem per_eq {M : Nat → Nat} {n x n' x' : Nat} (h : itr (Fw M n x) 8 (ess M) = 0 ↔ itr (Fw M n' x') 8 (ess M) = 0) : per M n x = per M n' x' := by
  unfold per
  by_cases e : itr (Fw M n x) 8 (ess M) = 0
  · rw [decide_eq_true e, decide_eq_true (h.mp e)]
  · rw [decide_eq_false e, decide_eq_false (fun q => e (h.mpr q))]
theorem dgt_rot {m x j : Nat} (hx : x < 4 ^ (m + 1)) (hj : j < m) : dgt (m + 1) (rot m x) j = dgt (m + 1) x (j + 1) := by
  have h2 : x / 4 ^ m < 4 := Nat.div_lt_of_lt_mul (by rw [← Nat.pow_succ]; exact hx)
  unfold dgt rot
  obtain ⟨i, hi⟩ : ∃ i, m - j = i + 1 := ⟨m - j - 1, by omega⟩
  have e0 : ∀ a b : Nat, a < 4 → (b * 4 + a) / 4 = b := fun a b h => by omega
  have e : (x % 4 ^ m * 4 + x / 4 ^ m) / 4 = x % 4 ^ m := e0 _ _ h2
  rw [show m + 1 - 1 - j = i + 1 by omega, show m + 1 - 1 - (j + 1) = i by omega, Nat.pow_succ, Nat.mul_comm (4 ^ i), ← Nat.div_div_eq_div_mul, e, dgt_mod (by omega)]
theorem dgt_rot0 {m x : Nat} (hx : x < 4 ^ (m + 1)) : dgt (m + 1) (rot m x) m = dgt (m + 1) x 0 := by
  have h2 : x / 4 ^ m < 4 := Nat.div_lt_of_lt_mul (by rw [← Nat.pow_succ]; exact hx)
  unfold dgt rot
  rw [show m + 1 - 1 - m = 0 by omega, show m + 1 - 1 - 0 = m by omega, Nat.pow_zero, Nat.div_one]
  omega
theorem per_rot {M : Nat → Nat} {m x : Nat} (hx : x < 4 ^ (m + 1)) : per M (m + 1) (rot m x) = per M (m + 1) x := by
  have e1 : Fw M (m + 1) x = fun S => bh M (dgt (m + 1) x) (ims M S (dgt (m + 1) x 0)) 1 m := by
    funext S
    exact bh_front m
  have e2 : Fw M (m + 1) (rot m x) = fun S => ims M (bh M (dgt (m + 1) x) S 1 m) (dgt (m + 1) x 0) := by
    funext S
    show ims M (bh M (dgt (m + 1) (rot m x)) S 0 m) (dgt (m + 1) (rot m x) (0 + m)) = _
    rw [Nat.zero_add, dgt_rot0 hx, bh_cong (w' := dgt (m + 1) x) (a' := 1) m (fun j hj => by rw [Nat.zero_add, dgt_rot hx hj, Nat.add_comm j])]
  have gA : dwn (fun S => ims M S (dgt (m + 1) x 0)) (ess M) := ⟨fun _ _ h hT => ims_mono h hT, fun _ _ => ims_sb (dgt_lt _ _ _)⟩
  have gB : dwn (fun S => bh M (dgt (m + 1) x) S 1 m) (ess M) := dwn_bh M _ 1 m (fun _ _ => dgt_lt _ _ _)
  refine per_eq ?_
  rw [e1, e2]
  constructor
  · intro h
    exact dwn_rot (A := fun S => bh M (dgt (m + 1) x) S 1 m) (B := fun S => ims M S (dgt (m + 1) x 0)) (ess_lt M) gB gA (bh_0 m) h
  · intro h
    exact dwn_rot (A := fun S => ims M S (dgt (m + 1) x 0)) (B := fun S => bh M (dgt (m + 1) x) S 1 m) (ess_lt M) gA gB (ims_0 _) h
theorem per_rots {M : Nat → Nat} {m x : Nat} (hx : x < 4 ^ (m + 1)) : ∀ r, per M (m + 1) (itr (rot m) r x) = per M (m + 1) x
  | 0 => rfl
  | r + 1 => (per_rot (rot_itr_lt hx r)).trans (per_rots hx r)
/-- a word over and over -/
def ez (n d z : Nat) : Nat := z * ((4 ^ (n - d) - 1) / (4 ^ d - 1))
def rep (n d z : Nat) : Nat := z * 4 ^ (n - d) + ez n d z
theorem ez_lt {n d z : Nat} (hz : z < 4 ^ d) : ez n d z < 4 ^ (n - d) := by
  unfold ez
  have h1 := p4 (n - d)
  have h2 : z * ((4 ^ (n - d) - 1) / (4 ^ d - 1)) ≤ (4 ^ d - 1) * ((4 ^ (n - d) - 1) / (4 ^ d - 1)) := Nat.mul_le_mul_right _ (by omega)
  have h3 := Nat.mul_div_le (4 ^ (n - d) - 1) (4 ^ d - 1)
  omega
def chk3 (n d z : Nat) : Bool := decide (∀ j, j < n → dgt n (rep n d z) j = dgt d z (j % d))
theorem rep_self {n z : Nat} : rep n n z = z := by
  unfold rep ez
  rw [Nat.sub_self, Nat.pow_zero, Nat.sub_self, Nat.zero_div, Nat.mul_zero, Nat.mul_one, Nat.add_zero]
theorem F3 : ∀ z, (z < 4 → chk3 2 1 z = true ∧ chk3 3 1 z = true ∧ chk3 4 1 z = true ∧ chk3 5 1 z = true ∧ chk3 6 1 z = true ∧ chk3 7 1 z = true) ∧ (z < 16 → chk3 4 2 z = true ∧ chk3 6 2 z = true) ∧ (z < 64 → chk3 6 3 z = true) := by
  have h1 : ∀ z, z < 4 → chk3 2 1 z = true ∧ chk3 3 1 z = true ∧ chk3 4 1 z = true ∧ chk3 5 1 z = true ∧ chk3 6 1 z = true ∧ chk3 7 1 z = true := by decide +kernel
  have h2 : ∀ z, z < 16 → chk3 4 2 z = true ∧ chk3 6 2 z = true := by decide +kernel
  have h3 : ∀ z, z < 64 → chk3 6 3 z = true := by decide +kernel
  exact fun z => ⟨h1 z, h2 z, h3 z⟩
theorem dgt_rep {n d z j : Nat} (hn : n ≤ 7) (hd : 1 ≤ d) (hdn : d ≤ n) (hm : n % d = 0) (hz : z < 4 ^ d) (hj : j < n) : dgt n (rep n d z) j = dgt d z (j % d) := by
  by_cases e : d = n
  · subst e
    rw [rep_self, Nat.mod_eq_of_lt hj]
  · obtain ⟨f1, f2, f3⟩ := F3 z
    have key : chk3 n d z = true := by
      rcases (show n = 2 ∨ n = 3 ∨ n = 4 ∨ n = 5 ∨ n = 6 ∨ n = 7 by omega) with rfl | rfl | rfl | rfl | rfl | rfl
      · obtain rfl : d = 1 := by omega
        exact (f1 hz).1
      · have : d = 1 ∨ d = 2 := by omega
        rcases this with rfl | rfl
        · exact (f1 hz).2.1
        · omega
      · have : d = 1 ∨ d = 2 ∨ d = 3 := by omega
        rcases this with rfl | rfl | rfl
        · exact (f1 hz).2.2.1
        · exact (f2 hz).1
        · omega
      · have : d = 1 ∨ d = 2 ∨ d = 3 ∨ d = 4 := by omega
        rcases this with rfl | rfl | rfl | rfl
        · exact (f1 hz).2.2.2.1
        · omega
        · omega
        · omega
      · have : d = 1 ∨ d = 2 ∨ d = 3 ∨ d = 4 ∨ d = 5 := by omega
        rcases this with rfl | rfl | rfl | rfl | rfl
        · exact (f1 hz).2.2.2.2.1
        · exact (f2 hz).2
        · exact f3 hz
        · omega
        · omega
      · have : d = 1 ∨ d = 2 ∨ d = 3 ∨ d = 4 ∨ d = 5 ∨ d = 6 := by omega
        rcases this with rfl | rfl | rfl | rfl | rfl | rfl
        · exact (f1 hz).2.2.2.2.2
        · omega
        · omega
        · omega
        · omega
        · omega
    exact of_decide_eq_true key j hj
theorem per_rep {M : Nat → Nat} {n d z : Nat} (hn : n ≤ 7) (hd : 1 ≤ d) (hdn : d ≤ n) (hm : n % d = 0) (hz : z < 4 ^ d) : per M n (rep n d z) = per M d z := by
  obtain ⟨e, rfl⟩ : ∃ e, n = d * e := ⟨n / d, by rw [Nat.mul_div_cancel' (Nat.dvd_of_mod_eq_zero hm)]⟩
  have he : 1 ≤ e := by
    rcases Nat.eq_zero_or_pos e with h | h
    · rw [h, Nat.mul_zero] at hdn
      omega
    · exact h
  have key : ∀ i, i ≤ e → ∀ S, bh M (dgt (d * e) (rep (d * e) d z)) S 0 (d * i) = itr (Fw M d z) i S := by
    intro i
    induction i with
    | zero => intro _ S; rfl
    | succ i ih =>
      intro hi S
      rw [Nat.mul_succ, bh_add, ih (by omega) S, itr]
      refine bh_cong d (fun j hj => ?_)
      have h1 : d * (i + 1) ≤ d * e := Nat.mul_le_mul_left d hi
      rw [Nat.mul_succ] at h1
      rw [Nat.zero_add, Nat.zero_add, dgt_rep hn hd hdn hm hz (by omega), Nat.mul_add_mod, Nat.mod_eq_of_lt hj]
  have e1 : Fw M (d * e) (rep (d * e) d z) = fun S => itr (Fw M d z) e S := by
    funext S
    exact key e (Nat.le_refl e) S
  refine per_eq ?_
  rw [e1, itr_mul, show e * 8 = 8 + (e * 8 - 8) by omega, dwn_8 (ess_lt M) (dwn_Fw M d z)]
