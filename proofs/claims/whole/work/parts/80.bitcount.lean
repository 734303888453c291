/-! THE LIBRARY'S COUNT OF BITS of a long -/
theorem lb_u : ∀ v, v < 64 → (((nI v).toInt64.toUInt64 &&& Int64.toUInt64 63).toBitVec % 64).toNat = v := by decide +kernel
theorem lb_ushr0 (x : Int64) (s : Int32) (k : Nat) (hs : ((s.toInt64.toUInt64 &&& Int64.toUInt64 63).toBitVec % 64).toNat = k) : (jlushr x s).toBitVec = x.toBitVec >>> k := by
  rw [← hs]
  exact UInt64.toBitVec_shiftRight _ _
theorem lb_ushr {a v : Nat} (ha : a < 2 ^ 64) (hv : v < 64) : jlushr (lN a) (nI v) = lN (a / 2 ^ v) := by
  apply Int64.toBitVec_inj.mp
  apply BitVec.eq_of_toNat_eq
  have e : (jlushr (lN a) (nI v)).toBitVec = (BitVec.ofNat 64 a) >>> v := lb_ushr0 _ _ v (lb_u v hv)
  rw [e, BitVec.toNat_ushiftRight, BitVec.toNat_ofNat, Nat.mod_eq_of_lt ha, Nat.shiftRight_eq_div_pow]
  show _ = (BitVec.ofNat 64 (a / 2 ^ v)).toNat
  rw [BitVec.toNat_ofNat, Nat.mod_eq_of_lt (Nat.lt_of_le_of_lt (Nat.div_le_self _ _) ha)]
/-- a byte c, n times -/
def mkB (c : Nat) : Nat → Nat
  | 0 => 0
  | n + 1 => 256 * mkB c n + c
/-- the sum of a function over the bytes, each at its place -/
def by8 (f : Nat → Nat) : Nat → Nat → Nat
  | 0, _ => 0
  | n + 1, x => 256 * by8 f n (x / 256) + f (x % 256)
theorem and_256 (p q r s : Nat) (hq : q < 256) (hs : s < 256) : (256 * p + q) &&& (256 * r + s) = 256 * (p &&& r) + (q &&& s) := by
  have h1 : ((256 * p + q) &&& (256 * r + s)) / 2 ^ 8 = p &&& r := by
    rw [Nat.and_div_two_pow]
    congr 1 <;> omega
  have h2 : ((256 * p + q) &&& (256 * r + s)) % 2 ^ 8 = q &&& s := by
    rw [Nat.and_mod_two_pow]
    congr 1 <;> omega
  have h3 := Nat.div_add_mod ((256 * p + q) &&& (256 * r + s)) (2 ^ 8)
  rw [h1, h2] at h3
  exact h3.symm
theorem m55 : ∀ q, q < 256 → q &&& 85 = (q % 128) &&& 85 := by decide +kernel
theorem m33 : ∀ q, q < 256 → q &&& 51 = (q % 64) &&& 51 := by decide +kernel
theorem m0f : ∀ q, q < 256 → q &&& 15 = q % 16 := by decide +kernel
theorem s1_ok (n : Nat) : ∀ x, (x / 2) &&& mkB 85 n = by8 (fun b => (b / 2) &&& 85) n x := by
  induction n with
  | zero => intro x; rw [mkB, by8, Nat.and_zero]
  | succ n ih =>
    intro x
    have e : x / 2 = 256 * (x / 256 / 2) + (128 * (x / 256 % 2) + x % 256 / 2) := by omega
    rw [mkB, by8, e, and_256 _ _ _ _ (by omega) (by decide), ih, m55 _ (by omega)]
    congr 2
    omega
theorem s2_ok (n : Nat) : ∀ x, (x / 4) &&& mkB 51 n = by8 (fun b => (b / 4) &&& 51) n x := by
  induction n with
  | zero => intro x; rw [mkB, by8, Nat.and_zero]
  | succ n ih =>
    intro x
    have e : x / 4 = 256 * (x / 256 / 4) + (64 * (x / 256 % 4) + x % 256 / 4) := by omega
    rw [mkB, by8, e, and_256 _ _ _ _ (by omega) (by decide), ih, m33 _ (by omega)]
    congr 2
    omega
theorem s0_ok (c : Nat) (hc : c < 256) (n : Nat) : ∀ x, x &&& mkB c n = by8 (fun b => b &&& c) n x := by
  induction n with
  | zero => intro x; rw [mkB, by8, Nat.and_zero]
  | succ n ih =>
    intro x
    have e : x = 256 * (x / 256) + x % 256 := by omega
    conv => lhs; rw [e]
    rw [mkB, by8, and_256 _ _ _ _ (Nat.mod_lt _ (by decide)) hc, ih]
theorem by8_lt {f : Nat → Nat} (hf : ∀ b, b < 256 → f b < 256) (n : Nat) : ∀ x, by8 f n x < 256 ^ n := by
  induction n with
  | zero => intro x; rw [by8]; decide
  | succ n ih =>
    intro x
    rw [by8, Nat.pow_succ]
    have h1 := ih (x / 256)
    have h2 := hf (x % 256) (Nat.mod_lt _ (by decide))
    omega
theorem by8_add (f g : Nat → Nat) (n : Nat) : ∀ x, by8 f n x + by8 g n x = by8 (fun b => f b + g b) n x := by
  induction n with
  | zero => intro x; rfl
  | succ n ih => intro x; rw [by8, by8, by8, ← ih]; omega
theorem by8_id (n : Nat) : ∀ x, x < 256 ^ n → by8 (fun b => b) n x = x := by
  induction n with
  | zero => intro x hx; rw [by8]; rw [Nat.pow_zero] at hx; omega
  | succ n ih =>
    intro x hx
    rw [Nat.pow_succ] at hx
    rw [by8, ih _ (by rw [Nat.div_lt_iff_lt_mul (by decide)]; exact hx)]
    omega
theorem by8_sub (f g : Nat → Nat) (hfg : ∀ b, b < 256 → g b ≤ f b) (n : Nat) : ∀ x, by8 f n x - by8 g n x = by8 (fun b => f b - g b) n x ∧ by8 g n x ≤ by8 f n x := by
  induction n with
  | zero => intro x; exact ⟨rfl, Nat.le_refl _⟩
  | succ n ih =>
    intro x
    obtain ⟨h1, h2⟩ := ih (x / 256)
    have h3 := hfg (x % 256) (Nat.mod_lt _ (by decide))
    rw [by8, by8, by8, ← h1]
    omega
theorem by8_comp {f : Nat → Nat} (hf : ∀ b, b < 256 → f b < 256) (g : Nat → Nat) (n : Nat) : ∀ x, by8 g n (by8 f n x) = by8 (fun b => g (f b)) n x := by
  induction n with
  | zero => intro x; rfl
  | succ n ih =>
    intro x
    have h2 := hf (x % 256) (Nat.mod_lt _ (by decide))
    rw [by8, by8, by8, ← ih, show (256 * by8 f n (x / 256) + f (x % 256)) / 256 = by8 f n (x / 256) by omega, show (256 * by8 f n (x / 256) + f (x % 256)) % 256 = f (x % 256) by omega]
theorem by8_cong {f g : Nat → Nat} (h : ∀ b, b < 256 → f b = g b) (n : Nat) : ∀ x, by8 f n x = by8 g n x := by
  induction n with
  | zero => intro x; rfl
  | succ n ih => intro x; rw [by8, by8, ih, h _ (Nat.mod_lt _ (by decide))]
/-- bytes whose halves are small: adding the upper halves stays within them -/
theorem s3_ok (f : Nat → Nat) (hf : ∀ b, b < 256 → f b % 16 ≤ 4 ∧ f b / 16 ≤ 4) (n : Nat) : ∀ x, (by8 f n x + by8 f n x / 16) &&& mkB 15 n = by8 (fun b => f b % 16 + f b / 16) n x := by
  induction n with
  | zero => intro x; rw [mkB, by8, by8, Nat.and_zero]
  | succ n ih =>
    intro x
    have h2 := hf (x % 256) (Nat.mod_lt _ (by decide))
    have ih' := ih (x / 256)
    rw [by8, by8, mkB, ← ih']
    have h4 : by8 f n (x / 256) % 16 ≤ 4 := by
      cases n with
      | zero => rw [by8]; decide
      | succ n =>
        rw [by8]
        have := (hf (x / 256 % 256) (Nat.mod_lt _ (by decide))).1
        omega
    generalize by8 f n (x / 256) = y at h4
    generalize f (x % 256) = c at h2
    have e : 256 * y + c + (256 * y + c) / 16 = 256 * (y + y / 16) + (16 * (y % 16) + c + c / 16) := by omega
    rw [e, and_256 _ _ _ _ (by omega) (by decide), m0f _ (by omega)]
    congr 1
    omega
/-- the bits of a byte -/
theorem pc_ok : ∀ b, b < 256 → (let v1 := b - (b / 2 &&& 85); let v2 := (v1 &&& 51) + (v1 / 4 &&& 51); v2 % 16 ≤ 4 ∧ v2 / 16 ≤ 4 ∧ v2 % 16 + v2 / 16 = und b 8 ∧ v1 < 256 ∧ v2 < 256 ∧ (b / 2 &&& 85) ≤ b) := by decide +kernel
def sumB (f : Nat → Nat) : Nat → Nat → Nat
  | 0, _ => 0
  | n + 1, x => sumB f n (x / 256) + f (x % 256)
theorem und_sum (n : Nat) : ∀ x, und x (8 * n) = sumB (fun b => und b 8) n x := by
  induction n with
  | zero => intro x; rfl
  | succ n ih =>
    intro x
    rw [sumB, ← ih]
    unfold und
    rw [show 8 * (n + 1) = 8 + 8 * n by omega, cnt_app, Nat.add_comm]
    congr 1
    · refine cnt_cong (fun k hk => ?_)
      rw [show x / 256 = x / 2 ^ 8 from rfl, Nat.testBit_div_two_pow, Nat.add_comm]
    · refine cnt_cong (fun k hk => ?_)
      rw [show x % 256 = x % 2 ^ 8 from rfl, Nat.testBit_mod_two_pow]
      simp [hk]
theorem und8_le (b : Nat) : und b 8 ≤ 8 := cnt_le _ _
theorem sum8 (f : Nat → Nat) (hf : ∀ b, f b ≤ 8) (x : Nat) : by8 f 8 x < 2 ^ 60 ∧ (let v3 := by8 f 8 x; let v4 := v3 + v3 / 256; let v5 := v4 + v4 / 65536; (v5 + v5 / 4294967296) % 128 = sumB f 8 x) := by
  simp only [by8, sumB]
  have h0 := hf (x % 256)
  have h1 := hf (x / 256 % 256)
  have h2 := hf (x / 256 / 256 % 256)
  have h3 := hf (x / 256 / 256 / 256 % 256)
  have h4 := hf (x / 256 / 256 / 256 / 256 % 256)
  have h5 := hf (x / 256 / 256 / 256 / 256 / 256 % 256)
  have h6 := hf (x / 256 / 256 / 256 / 256 / 256 / 256 % 256)
  have h7 := hf (x / 256 / 256 / 256 / 256 / 256 / 256 / 256 % 256)
  generalize f (x % 256) = c0 at h0
  generalize f (x / 256 % 256) = c1 at h1
  generalize f (x / 256 / 256 % 256) = c2 at h2
  generalize f (x / 256 / 256 / 256 % 256) = c3 at h3
  generalize f (x / 256 / 256 / 256 / 256 % 256) = c4 at h4
  generalize f (x / 256 / 256 / 256 / 256 / 256 % 256) = c5 at h5
  generalize f (x / 256 / 256 / 256 / 256 / 256 / 256 % 256) = c6 at h6
  generalize f (x / 256 / 256 / 256 / 256 / 256 / 256 / 256 % 256) = c7 at h7
  obtain ⟨r6, e6⟩ : ∃ r, r = 256 * c7 + c6 := ⟨_, rfl⟩
  obtain ⟨r5, e5⟩ : ∃ r, r = 256 * r6 + c5 := ⟨_, rfl⟩
  obtain ⟨r4, e4⟩ : ∃ r, r = 256 * r5 + c4 := ⟨_, rfl⟩
  obtain ⟨r3, e3⟩ : ∃ r, r = 256 * r4 + c3 := ⟨_, rfl⟩
  obtain ⟨r2, e2⟩ : ∃ r, r = 256 * r3 + c2 := ⟨_, rfl⟩
  obtain ⟨r1, e1⟩ : ∃ r, r = 256 * r2 + c1 := ⟨_, rfl⟩
  obtain ⟨v3, e0⟩ : ∃ r, r = 256 * r1 + c0 := ⟨_, rfl⟩
  rw [show 256 * 0 + c7 = c7 by omega, ← e6, ← e5, ← e4, ← e3, ← e2, ← e1, ← e0]
  have d1 : v3 / 256 = r1 := by omega
  rw [d1]
  have d2 : (v3 + r1) / 65536 = r2 + r3 := by omega
  rw [d2]
  have d3 : (v3 + r1 + (r2 + r3)) / 4294967296 = r4 + r5 + r6 + c7 := by omega
  rw [d3]
  constructor <;> omega
theorem l32N (n : Nat) : (lN n).toInt32 = nI n := by
  apply Int32.toBitVec_inj.mp
  apply BitVec.eq_of_toNat_eq
  show ((BitVec.ofNat 64 n).signExtend 32).toNat = (BitVec.ofNat 32 n).toNat
  rw [BitVec.signExtend_eq_setWidth_of_le _ (by decide), BitVec.toNat_setWidth, BitVec.toNat_ofNat, BitVec.toNat_ofNat]
  exact Nat.mod_mod_of_dvd _ ⟨2 ^ 32, rfl⟩
theorem lbc_ok {x : Nat} (hx : x < 2 ^ 64) (h : ZH) : fJ13_bitCount_95d88 (lN x) h = some (nI (und x 64), h) := by
  have hx8 : x < 256 ^ 8 := hx
  have k55 : (6148914691236517205 : Int64) = lN (mkB 85 8) := by decide +kernel
  have k33 : (3689348814741910323 : Int64) = lN (mkB 51 8) := by decide +kernel
  have k0f : (1085102592571150095 : Int64) = lN (mkB 15 8) := by decide +kernel
  have q85 : ∀ b, b < 256 → (b / 2 &&& 85) ≤ b := fun b hb => (pc_ok b hb).2.2.2.2.2
  have e1 : x - (x / 2 &&& mkB 85 8) = by8 (fun b => b - (b / 2 &&& 85)) 8 x := by
    rw [s1_ok]
    have := (by8_sub (fun b => b) (fun b => b / 2 &&& 85) q85 8 x).1
    rw [by8_id 8 x hx8] at this
    exact this
  have l1 : (x / 2 &&& mkB 85 8) ≤ x := Nat.le_trans Nat.and_le_left (Nat.div_le_self _ _)
  have f1 : ∀ b, b < 256 → b - (b / 2 &&& 85) < 256 := fun b hb => (pc_ok b hb).2.2.2.1
  have e2 : (by8 (fun b => b - (b / 2 &&& 85)) 8 x &&& mkB 51 8) + (by8 (fun b => b - (b / 2 &&& 85)) 8 x / 4 &&& mkB 51 8) = by8 (fun b => (b - (b / 2 &&& 85) &&& 51) + ((b - (b / 2 &&& 85)) / 4 &&& 51)) 8 x := by
    rw [s0_ok 51 (by decide), s2_ok, by8_comp f1, by8_comp f1, by8_add]
  have e3 := s3_ok (fun b => (b - (b / 2 &&& 85) &&& 51) + ((b - (b / 2 &&& 85)) / 4 &&& 51)) (fun b hb => ⟨(pc_ok b hb).1, (pc_ok b hb).2.1⟩) 8 x
  rw [by8_cong (fun b hb => (pc_ok b hb).2.2.1) 8 x] at e3
  have b1 := by8_lt f1 8 x
  have b2 := by8_lt (fun b hb => (pc_ok b hb).2.2.2.2.1) 8 x
  obtain ⟨b3, s8⟩ := sum8 (fun b => und b 8) (fun b => und8_le b) x
  dsimp only at s8
  have p8 : (256 : Nat) ^ 8 = 2 ^ 64 := by decide
  rw [p8] at b1 b2
  have hu := und_sum 8 x
  unfold fJ13_bitCount_95d88
  rw [zl_eq, k55, lb_ushr hx (by decide), lb_and, lsub (by rw [Nat.pow_one]; exact l1), Nat.pow_one, e1, zl_eq, k33, lb_and, lb_ushr b1 (by decide), lb_and, lN_plus, show (2 : Nat) ^ 2 = 4 from rfl, e2, zl_eq, lb_ushr b2 (by decide), lN_plus, k0f, lb_and, show (2 : Nat) ^ 4 = 16 from rfl, e3, zl_eq, lb_ushr (by omega) (by decide), lN_plus, show (2 : Nat) ^ 8 = 256 from rfl, zl_eq, lb_ushr (by omega) (by decide), lN_plus, show (2 : Nat) ^ 16 = 65536 from rfl, zl_eq, lb_ushr (by omega) (by decide), lN_plus, show (2 : Nat) ^ 32 = 4294967296 from rfl, l32N, nb_and, show (127 : Nat) = 2 ^ 7 - 1 from rfl, Nat.and_two_pow_sub_one_eq_mod, show (2 : Nat) ^ 7 = 128 from rfl, s8, ← hu]
