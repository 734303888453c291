/-! MEMORY: pairs that are still apart after so many letters -/
def apt (n : Nat) (le : Nat → Nat → Nat) : Nat → Nat → Nat → Prop
  | 0, x, y => x < n ∧ y < n ∧ x ≠ y
  | m + 1, x, y => x ≠ y ∧ ∃ u v l, l < 4 ∧ apt n le m u v ∧ le u l = x + 1 ∧ le v l = y + 1
def sfm (n : Nat) (le : Nat → Nat → Nat) : Nat → Nat → Prop
  | 0, S => S = 2 ^ n - 1
  | m + 1, S => S ≠ 0 ∧ ∃ R l, l < 4 ∧ sfm n le m R ∧ S = stF n le R l
section MEM
variable {n : Nat} {le : Nat → Nat → Nat}
theorem apt_ne : ∀ {m x y}, apt n le m x y → x ≠ y
  | 0, _, _, h => h.2.2
  | _ + 1, _, _, h => h.1
theorem apt_sym : ∀ {m x y}, apt n le m x y → apt n le m y x
  | 0, _, _, h => ⟨h.2.1, h.1, fun z => h.2.2 z.symm⟩
  | _ + 1, _, _, ⟨h, u, v, l, hl, a, b, c⟩ => ⟨fun z => h z.symm, v, u, l, hl, apt_sym a, c, b⟩
theorem apt_lt (hle : ∀ v l, v < n → l < 4 → le v l ≤ n) : ∀ {m x y}, apt n le m x y → x < n ∧ y < n
  | 0, _, _, h => ⟨h.1, h.2.1⟩
  | m + 1, _, _, ⟨_, u, v, l, hl, a, b, c⟩ => by
    have q := apt_lt hle a
    have := hle u l q.1 hl
    have := hle v l q.2 hl
    omega
theorem apt_mono (hle : ∀ v l, v < n → l < 4 → le v l ≤ n) : ∀ {m x y}, apt n le (m + 1) x y → apt n le m x y
  | 0, x, y, h => by
    have q := apt_lt hle h
    exact ⟨q.1, q.2, apt_ne h⟩
  | m + 1, x, y, ⟨h, u, v, l, hl, a, b, c⟩ => ⟨h, u, v, l, hl, apt_mono hle a, b, c⟩
theorem apt_sf (hle : ∀ v l, v < n → l < 4 → le v l ≤ n) : ∀ {m x y}, apt n le m x y ↔ x ≠ y ∧ ∃ S, sfm n le m S ∧ S.testBit x = true ∧ S.testBit y = true
  | 0, x, y => by
    constructor
    · rintro ⟨a, b, c⟩
      exact ⟨c, 2 ^ n - 1, rfl, by rw [Nat.testBit_two_pow_sub_one]; exact decide_eq_true a, by rw [Nat.testBit_two_pow_sub_one]; exact decide_eq_true b⟩
    · rintro ⟨c, S, e, a, b⟩
      have e' : S = 2 ^ n - 1 := e
      rw [e', Nat.testBit_two_pow_sub_one] at a b
      exact ⟨of_decide_eq_true a, of_decide_eq_true b, c⟩
  | m + 1, x, y => by
    constructor
    · rintro ⟨h, u, v, l, hl, a, b, c⟩
      have q := apt_lt hle a
      obtain ⟨-, S, s1, s2, s3⟩ := (apt_sf hle).mp a
      have bx : (stF n le S l).testBit x = true := stF_bit.mpr ⟨u, q.1, s2, b⟩
      have bY : (stF n le S l).testBit y = true := stF_bit.mpr ⟨v, q.2, s3, c⟩
      exact ⟨h, stF n le S l, ⟨(fun z => by rw [z, Nat.zero_testBit] at bx; cases bx), S, l, hl, s1, rfl⟩, bx, bY⟩
    · rintro ⟨h, S, ⟨-, R, l, hl, s1, rfl⟩, a, b⟩
      obtain ⟨u, u1, u2, u3⟩ := stF_bit.mp a
      obtain ⟨v, v1, v2, v3⟩ := stF_bit.mp b
      exact ⟨h, u, v, l, hl, (apt_sf hle).mpr ⟨fun z => h (by rw [z] at u3; omega), R, s1, u2, v2⟩, u3, v3⟩
/-- once the pairs stay, they stay for ever -/
theorem apt_stay {m : Nat} (h : ∀ x y, apt n le m x y → apt n le (m + 1) x y) : ∀ k x y, apt n le m x y → apt n le (m + k) x y := by
  have step : ∀ k, (∀ x y, apt n le (m + k) x y → apt n le (m + k + 1) x y) := by
    intro k
    induction k with
    | zero => exact h
    | succ k ih =>
      rintro x y ⟨h1, u, v, l, hl, a, b, c⟩
      exact ⟨h1, u, v, l, hl, ih u v a, b, c⟩
  intro k
  induction k with
  | zero => exact fun x y z => z
  | succ k ih => exact fun x y z => step k x y (ih x y z)
theorem iso_apt {lb : Nat → Nat → Nat} {φ : Nat → Nat} (is : iso n le lb φ) : ∀ {m x y}, apt n le m x y → apt n lb m (φ x) (φ y)
  | 0, x, y, h => ⟨is.1 x h.1, is.1 y h.2.1, fun z => h.2.2 (is.2.1 x y h.1 h.2.1 z)⟩
  | m + 1, x, y, h => by
    have q := apt_lt (iso_le is) h
    obtain ⟨h, u, v, l, hl, a, b, c⟩ := h
    have p := apt_lt (iso_le is) a
    refine ⟨fun z => h (is.2.1 x y q.1 q.2 z), φ u, φ v, l, hl, iso_apt is a, ?_, ?_⟩
    · rcases is.2.2.2 u l p.1 hl with ⟨z, -⟩ | ⟨-, -, z⟩
      · omega
      · rw [z, b, Nat.add_sub_cancel]
    · rcases is.2.2.2 v l p.2 hl with ⟨z, -⟩ | ⟨-, -, z⟩
      · omega
      · rw [z, c, Nat.add_sub_cancel]
theorem iso_apt' {lb : Nat → Nat → Nat} {φ : Nat → Nat} (is : iso n le lb φ) : ∀ {m x' y'}, apt n lb m x' y' → ∃ x y, φ x = x' ∧ φ y = y' ∧ apt n le m x y
  | 0, x', y', h => by
    obtain ⟨x, hx, rfl⟩ := is.2.2.1 x' h.1
    obtain ⟨y, hy, rfl⟩ := is.2.2.1 y' h.2.1
    exact ⟨x, y, rfl, rfl, hx, hy, fun z => h.2.2 (by rw [z])⟩
  | m + 1, x', y', h => by
    obtain ⟨h, u', v', l, hl, a, b, c⟩ := h
    obtain ⟨u, v, rfl, rfl, a'⟩ := iso_apt' is a
    have p := apt_lt (iso_le is) a'
    rcases is.2.2.2 u l p.1 hl with ⟨-, z⟩ | ⟨z0, z1, z⟩
    · omega
    rcases is.2.2.2 v l p.2 hl with ⟨-, w⟩ | ⟨w0, w1, w⟩
    · omega
    refine ⟨le u l - 1, le v l - 1, by omega, by omega, fun q => h ?_, u, v, l, hl, a', by omega, by omega⟩
    have : φ (le u l - 1) = φ (le v l - 1) := by rw [q]
    omega
/-- 28 pairs: what is apart after 28 letters is apart for ever -/
theorem apt_pig (h8 : n ≤ 8) (hle : ∀ v l, v < n → l < 4 → le v l ≤ n) (h : ∃ x y, apt n le 28 x y) (M : Nat) : ∃ x y, apt n le M x y := by
  classical
  have mono : ∀ k m x y, apt n le (m + k) x y → apt n le m x y := by
    intro k
    induction k with
    | zero => exact fun m x y z => z
    | succ k ih => exact fun m x y z => ih m x y (apt_mono hle z)
  obtain ⟨x, y, hxy⟩ := h
  by_cases st : ∃ m, m < 28 ∧ ∀ x y, apt n le m x y → apt n le (m + 1) x y
  · obtain ⟨m, hm, hst⟩ := st
    by_cases hM : M ≤ m
    · exact ⟨x, y, mono (28 - M) M x y (by rw [show M + (28 - M) = 28 by omega]; exact hxy)⟩
    · have a := mono (28 - m) m x y (by rw [show m + (28 - m) = 28 by omega]; exact hxy)
      have b := apt_stay hst (M - m) x y a
      rw [show m + (M - m) = M by omega] at b
      exact ⟨x, y, b⟩
  · exfalso
    obtain ⟨L, hL⟩ : ∃ L : Nat → List Nat, ∀ m, L m = (List.range 64).filter (fun c => decide (c % 8 < c / 8 ∧ apt n le m (c / 8) (c % 8))) := ⟨fun m => (List.range 64).filter (fun c => decide (c % 8 < c / 8 ∧ apt n le m (c / 8) (c % 8))), fun _ => rfl⟩
    have mem : ∀ m c, c ∈ L m ↔ c < 64 ∧ c % 8 < c / 8 ∧ apt n le m (c / 8) (c % 8) := by
      intro m c
      rw [hL, List.mem_filter, List.mem_range]
      constructor
      · rintro ⟨a, b⟩; exact ⟨a, of_decide_eq_true b⟩
      · rintro ⟨a, b⟩; exact ⟨a, decide_eq_true b⟩
    have nd : ∀ m, (L m).Nodup := fun m => by rw [hL]; exact List.Pairwise.filter _ List.nodup_range
    have l0 : (L 0).length ≤ 28 := by
      have e28 : ((List.range 64).filter (fun c => decide (c % 8 < c / 8))).length = 28 := by decide
      have := nodup_le (A := L 0) (B := 64 :: (List.range 64).filter (fun c => decide (c % 8 < c / 8))) (y := 64) (nd 0) (List.nodup_cons.mpr ⟨fun z => by have := List.mem_range.mp (List.mem_filter.mp z).1; omega, List.Pairwise.filter _ List.nodup_range⟩) (fun c hc => by
        have := (mem 0 c).mp hc
        exact List.mem_cons_of_mem _ (List.mem_filter.mpr ⟨List.mem_range.mpr this.1, decide_eq_true this.2.1⟩)) (List.mem_cons_self ..) (fun z => by have := (mem 0 64).mp z; omega)
      rw [List.length_cons, e28] at this
      omega
    have code : ∀ m x y, apt n le m x y → y < x → 8 * x + y ∈ L m := by
      intro m x y a b
      have q := apt_lt hle a
      rw [mem, show (8 * x + y) / 8 = x by omega, show (8 * x + y) % 8 = y by omega]
      exact ⟨by omega, b, a⟩
    have dec : ∀ m, m < 28 → (L (m + 1)).length < (L m).length := by
      intro m hm
      have : ∃ x y, apt n le m x y ∧ ¬ apt n le (m + 1) x y := by
        apply Classical.byContradiction
        intro q
        exact st ⟨m, hm, fun x y a => Classical.byContradiction (fun z => q ⟨x, y, a, z⟩)⟩
      have : ∃ x y, y < x ∧ apt n le m x y ∧ ¬ apt n le (m + 1) x y := by
        obtain ⟨x, y, a, b⟩ := this
        rcases Nat.lt_trichotomy y x with q | q | q
        · exact ⟨x, y, q, a, b⟩
        · exact absurd q.symm (apt_ne a)
        · exact ⟨y, x, q, apt_sym a, fun z => b (apt_sym z)⟩
      obtain ⟨x, y, q, a, b⟩ := this
      have lt := apt_lt hle a
      refine nodup_le (nd (m + 1)) (nd m) (fun c hc => ?_) (code m x y a q) (fun z => ?_)
      · have := (mem (m + 1) c).mp hc
        exact (mem m c).mpr ⟨this.1, this.2.1, apt_mono hle this.2.2⟩
      · have := ((mem (m + 1) _).mp z).2.2
        rw [show (8 * x + y) / 8 = x by omega, show (8 * x + y) % 8 = y by omega] at this
        exact b this
    have all : ∀ m, m ≤ 28 → (L m).length + m ≤ 28 := by
      intro m
      induction m with
      | zero => intro _; omega
      | succ m ih =>
        intro hm
        have := ih (by omega)
        have := dec m (by omega)
        omega
    have e := all 28 (Nat.le_refl 28)
    have : ∃ c, c ∈ L 28 := by
      rcases Nat.lt_trichotomy y x with q | q | q
      · exact ⟨_, code 28 x y hxy q⟩
      · exact absurd q.symm (apt_ne hxy)
      · exact ⟨_, code 28 y x (apt_sym hxy) q⟩
    obtain ⟨c, hc⟩ := this
    have := List.length_pos_of_mem hc
    omega
end MEM
