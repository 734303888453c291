/-! isMixing -/
theorem gin_dvd {e : Nat → Bool} {d D : Nat} : ∀ k, (d ∣ gin e D k ↔ d ∣ D ∧ ∀ j, 1 ≤ j → j ≤ k → e j = true → d ∣ j)
  | 0 => ⟨fun z => ⟨z, fun j h1 h2 => by omega⟩, fun z => z.1⟩
  | k + 1 => by
    have ih := gin_dvd (e := e) (d := d) (D := D) k
    rw [gin]
    by_cases hb : e (k + 1) = true
    · rw [if_pos hb, Nat.dvd_gcd_iff, ih]
      constructor
      · rintro ⟨a, b, c⟩
        refine ⟨b, fun j h1 h2 h3 => ?_⟩
        by_cases z : j = k + 1
        · rw [z]; exact a
        · exact c j h1 (by omega) h3
      · rintro ⟨b, c⟩
        exact ⟨c _ (by omega) (Nat.le_refl _) hb, b, fun j h1 h2 h3 => c j h1 (by omega) h3⟩
    · rw [if_neg hb, ih]
      constructor
      · rintro ⟨b, c⟩
        refine ⟨b, fun j h1 h2 h3 => ?_⟩
        by_cases z : j = k + 1
        · rw [z] at h3; exact absurd h3 hb
        · exact c j h1 (by omega) h3
      · rintro ⟨b, c⟩
        exact ⟨b, fun j h1 h2 h3 => c j h1 (by omega) h3⟩
theorem gout_dvd {e : Nat → Nat → Bool} {d : Nat} : ∀ n, (d ∣ gout e n ↔ ∀ v, v < n → ∀ j, 1 ≤ j → j ≤ 8 → e v j = true → d ∣ j)
  | 0 => ⟨fun _ v hv => by omega, fun _ => Nat.dvd_zero d⟩
  | n + 1 => by
    rw [gout, gin_dvd, gout_dvd n]
    constructor
    · rintro ⟨a, b⟩ v hv
      by_cases z : v = n
      · rw [z]; exact b
      · exact a v (by omega)
    · intro a
      exact ⟨fun v hv => a v (by omega), a n (by omega)⟩
/-- walks -/
def wk (ed : Nat → Nat → Prop) : Nat → Nat → Nat → Prop
  | 0, u, v => u = v
  | k + 1, u, v => ∃ x, wk ed k u x ∧ ed x v
def edM (M : Nat → Nat) (x y : Nat) : Prop := x < 8 ∧ ∃ l, l < 4 ∧ (M (4 * x + l)).testBit y = true
def edL (n : Nat) (le : Nat → Nat → Nat) (x y : Nat) : Prop := x < n ∧ ∃ l, l < 4 ∧ le x l = y + 1
def faL (n : Nat) (le : Nat → Nat → Nat) (S : Nat) : Nat := stF n le S 0 ||| stF n le S 1 ||| stF n le S 2 ||| stF n le S 3
theorem wk_it {f : Nat → Nat} {ed : Nat → Nat → Prop} (hf : ∀ S x, (f S).testBit x = true ↔ ∃ v, S.testBit v = true ∧ ed v x) {v : Nat} : ∀ k u, ((itr f k (2 ^ v)).testBit u = true ↔ wk ed k v u)
  | 0, u => by
    show (2 ^ v).testBit u = true ↔ v = u
    rw [pow_bit]
    try exact eq_comm
  | k + 1, u => by
    show (f (itr f k (2 ^ v))).testBit u = true ↔ ∃ x, wk ed k v x ∧ ed x u
    rw [hf]
    constructor
    · rintro ⟨x, h1, h2⟩; exact ⟨x, (wk_it hf k x).mp h1, h2⟩
    · rintro ⟨x, h1, h2⟩; exact ⟨x, (wk_it hf k x).mpr h1, h2⟩
theorem fa_ed {M : Nat → Nat} (S x : Nat) : (fa M S).testBit x = true ↔ ∃ v, S.testBit v = true ∧ edM M v x := by
  rw [fa_bit]
  constructor
  · rintro ⟨v, h1, h2, h3⟩; exact ⟨v, h2, h1, h3⟩
  · rintro ⟨v, h2, h1, h3⟩; exact ⟨v, h1, h2, h3⟩
theorem faL_ed {n : Nat} {le : Nat → Nat → Nat} (S x : Nat) : (faL n le S).testBit x = true ↔ ∃ v, S.testBit v = true ∧ edL n le v x := by
  unfold faL
  rw [Nat.testBit_or, Nat.testBit_or, Nat.testBit_or, Bool.or_eq_true, Bool.or_eq_true, Bool.or_eq_true, stF_bit, stF_bit, stF_bit, stF_bit]
  constructor
  · rintro (((⟨v, a, b, c⟩ | ⟨v, a, b, c⟩) | ⟨v, a, b, c⟩) | ⟨v, a, b, c⟩)
    · exact ⟨v, b, a, 0, by decide, c⟩
    · exact ⟨v, b, a, 1, by decide, c⟩
    · exact ⟨v, b, a, 2, by decide, c⟩
    · exact ⟨v, b, a, 3, by decide, c⟩
  · rintro ⟨v, b, a, l, hl, c⟩
    match l, hl with
    | 0, _ => exact Or.inl (Or.inl (Or.inl ⟨v, a, b, c⟩))
    | 1, _ => exact Or.inl (Or.inl (Or.inr ⟨v, a, b, c⟩))
    | 2, _ => exact Or.inl (Or.inr ⟨v, a, b, c⟩)
    | 3, _ => exact Or.inr ⟨v, a, b, c⟩
theorem wk_map {e1 e2 : Nat → Nat → Prop} {ρ : Nat → Nat} (h : ∀ x y, e1 x y → e2 (ρ x) (ρ y)) {u : Nat} : ∀ k v, wk e1 k u v → wk e2 k (ρ u) (ρ v)
  | 0, v, z => by
    have : u = v := z
    show ρ u = ρ v
    rw [this]
  | k + 1, v, ⟨x, h1, h2⟩ => ⟨ρ x, wk_map h k x h1, h x v h2⟩
theorem wk_lift {e1 e2 : Nat → Nat → Prop} {ρ : Nat → Nat} {n : Nat} (h : ∀ x y, x < n → e2 (ρ x) y → ∃ z, z < n ∧ ρ z = y ∧ e1 x z) {u : Nat} (hu : u < n) : ∀ k v, wk e2 k (ρ u) v → ∃ z, z < n ∧ ρ z = v ∧ wk e1 k u z
  | 0, v, z => ⟨u, hu, z, rfl⟩
  | k + 1, v, ⟨x, h1, h2⟩ => by
    obtain ⟨z, z1, z2, z3⟩ := wk_lift h hu k x h1
    rw [← z2] at h2
    obtain ⟨w, w1, w2, w3⟩ := h z v z1 h2
    exact ⟨w, w1, w2, z, z3, w3⟩
/-- both greatest divisors agree -/
theorem mixEq {n : Nat} {la le : Nat → Nat → Nat} {φ : Nat → Nat} {Q : List Nat} (h8 : n ≤ 8) (is : iso n la le φ) (nd : Q.Nodup) (hQ : ∀ P, P ∈ Q → 1 ≤ P ∧ P ≤ n) (hall : ∀ v, v < n → v + 1 ∈ Q) : gout (fun v k => (itr (fa (shp la Q)) k (2 ^ v)).testBit v) 8 = gout (fun v k => (itr (faL n le) k (2 ^ v)).testBit v) n := by
  have key : ∀ i l j, i < 8 → l < 4 → ((shp la Q (4 * i + l)).testBit j = true ↔ i < Q.length ∧ j < Q.length ∧ la (Q.getD i 0 - 1) l = Q.getD j 0) := by
    intro i l j hi hl
    unfold shp
    rw [show (4 * i + l) / 4 = i by omega, show (4 * i + l) % 4 = l by omega]
    by_cases hq : i < Q.length
    · have b := hQ _ (getD_mem hq)
      have ev : vF la (Q.getD i 0) l = la (Q.getD i 0 - 1) l := by unfold vF; rw [if_neg (by omega)]
      rw [ev]
      by_cases hz : la (Q.getD i 0 - 1) l = 0
      · rw [if_neg (fun z => z.2 hz), Nat.zero_testBit]
        constructor
        · intro z; cases z
        · rintro ⟨-, h2, h3⟩
          have := hQ _ (getD_mem h2)
          omega
      · have hb := iso_le is (Q.getD i 0 - 1) l (by omega) hl
        have hm : la (Q.getD i 0 - 1) l ∈ Q := by
          have := hall (la (Q.getD i 0 - 1) l - 1) (by omega)
          rwa [show la (Q.getD i 0 - 1) l - 1 + 1 = la (Q.getD i 0 - 1) l by omega] at this
        obtain ⟨m, m1, m2⟩ := mem_getD hm
        rw [if_pos ⟨hq, hz⟩, ← m2, pos_at nd m1, pow_bit]
        constructor
        · intro z
          have e : j = m := by omega
          rw [e]
          exact ⟨hq, m1, rfl⟩
        · rintro ⟨-, h2, h3⟩
          have := getD_inj nd m1 h2 h3
          omega
    · rw [if_neg (fun z => hq z.1), Nat.zero_testBit]
      constructor
      · intro z; cases z
      · rintro ⟨h1, -⟩; exact absurd h1 hq
  have Qn : Q.length ≤ n := by
    have := len_lt (N := n + 1) nd (fun z => by have := hQ 0 z; omega) (fun x hx => by have := hQ x hx; omega) (by omega)
    omega
  have hom : ∀ x y, edM (shp la Q) x y → edL n le (φ (Q.getD x 0 - 1)) (φ (Q.getD y 0 - 1)) := by
    rintro x y ⟨hx, l, hl, hb⟩
    obtain ⟨q1, q2, q3⟩ := (key x l y hx hl).mp hb
    have b1 := hQ _ (getD_mem q1)
    have b2 := hQ _ (getD_mem q2)
    refine ⟨is.1 _ (by omega), l, hl, ?_⟩
    rcases is.2.2.2 (Q.getD x 0 - 1) l (by omega) hl with ⟨z, -⟩ | ⟨-, -, z⟩
    · omega
    · rw [z, q3]
  have lift : ∀ x y, x < Q.length → edL n le (φ (Q.getD x 0 - 1)) y → ∃ z, z < Q.length ∧ φ (Q.getD z 0 - 1) = y ∧ edM (shp la Q) x z := by
    rintro x y hx ⟨-, l, hl, hb⟩
    have b1 := hQ _ (getD_mem hx)
    rcases is.2.2.2 (Q.getD x 0 - 1) l (by omega) hl with ⟨-, z⟩ | ⟨z0, z1, z⟩
    · omega
    · have hm := hall (la (Q.getD x 0 - 1) l - 1) (by omega)
      obtain ⟨m, m1, m2⟩ := mem_getD hm
      refine ⟨m, m1, ?_, by omega, l, hl, (key x l m (by omega) hl).mpr ⟨hx, m1, by omega⟩⟩
      rw [m2, Nat.add_sub_cancel]
      omega
  apply Nat.dvd_antisymm
  · rw [gout_dvd]
    intro w hw j j1 j2 hj
    obtain ⟨v, hv, rfl⟩ := is.2.2.1 w hw
    obtain ⟨i, i1, i2⟩ := mem_getD (hall v hv)
    have ew : φ v = φ (Q.getD i 0 - 1) := by rw [i2, Nat.add_sub_cancel]
    rw [wk_it faL_ed, ew] at hj
    obtain ⟨z, z1, z2, z3⟩ := wk_lift (ρ := fun x => φ (Q.getD x 0 - 1)) lift i1 j _ hj
    have bz := hQ _ (getD_mem z1)
    have bi := hQ _ (getD_mem i1)
    have := is.2.1 _ _ (by omega) (by omega) z2
    have zi : z = i := getD_inj nd z1 i1 (by omega)
    rw [zi] at z3
    exact (gout_dvd (e := fun v k => (itr (fa (shp la Q)) k (2 ^ v)).testBit v) 8).mp (Nat.dvd_refl _) i (by omega) j j1 j2 ((wk_it fa_ed j i).mpr z3)
  · rw [gout_dvd]
    intro i hi j j1 j2 hj
    rw [wk_it fa_ed] at hj
    have hiQ : i < Q.length := by
      obtain ⟨k, rfl⟩ : ∃ k, j = k + 1 := ⟨j - 1, by omega⟩
      obtain ⟨x, -, hx, l, hl, hb⟩ := hj
      exact ((key x l i hx hl).mp hb).2.1
    have b := hQ _ (getD_mem hiQ)
    have := wk_map (ρ := fun x => φ (Q.getD x 0 - 1)) hom j i hj
    exact (gout_dvd (e := fun v k => (itr (faL n le) k (2 ^ v)).testBit v) n).mp (Nat.dvd_refl _) (φ (Q.getD i 0 - 1)) (is.1 _ (by omega)) j j1 j2 ((wk_it faL_ed j _).mpr this)
theorem lgc : ∀ d, d < 9 → (lg_cmp (lN d) (lN 1) = 0 ↔ d = 1) := by decide
theorem mixR {h : ZH} {n : Nat} {le : Nat → Nat → Nat} (hs : Sh h) (h8 : n ≤ 8) (v30 : zI h 117 30 = nI n) (lr : leR n le h) (hle : ∀ v l, v < n → l < 4 → le v l ≤ n) : zloop (lX11_isMixing_27 117) zfu (lN 0, nI 0, h) = some (nI (decide (gout (fun v k => (itr (faL n le) k (2 ^ v)).testBit v) n = 1)).toNat, h) := by
  have inF : ∀ S, faL n le S < 256 := fun S => by
    apply inN_lt h8
    intro x hx
    obtain ⟨v, -, hv, l, hl, e⟩ := (faL_ed S x).mp hx
    have := hle v l hv hl
    omega
  have hlt : ∀ v, v < n → ∀ k, itr (faL n le) k (2 ^ v) < 256 := by
    intro v hv k
    cases k with
    | zero =>
      show 2 ^ v < 2 ^ 8
      exact Nat.pow_lt_pow_right (by decide) (by omega)
    | succ k => exact inF _
  generalize hE : (fun v k => (itr (faL n le) k (2 ^ v)).testBit v) = E
  have hEv : ∀ v k, E v k = (itr (faL n le) k (2 ^ v)).testBit v := fun v k => by rw [← hE]
  refine zloop_run (fun v => (lN (gout E v), nI v, h)) n (fun v hv self => ?_) (fun self => ?_) (show n < 100000 by omega)
  · show kX11_isMixing_27 117 self _ _ h = _
    unfold kX11_isMixing_27
    simp (disch := omega) only [v30, Nat.not_le.mpr hv, SR (hs), zl_eq, bsm, ZS, ZT, ZN, ZU, eq_self, true_and, and_true, and_self, or_true, true_or, or_false, false_or, not_true, not_false_eq_true, Nat.reduceAdd, Nat.reduceMul, Nat.reduceLT, Nat.reduceLeDiff, Nat.reduceEqDiff, ↓reduceIte, ZQ, Bool.true_eq_false, Bool.false_eq_true, Bool.not_true, Bool.not_false]
    refine zloop_run (fun k => (lN (gin (E v) (gout E v) k), nI (itr (faL n le) k (2 ^ v)), nI (k + 1), h)) 8 (fun k hk self2 => ?_) (fun self2 => ?_) (by decide)
    · show kX11_isMixing_45 self 117 (nI v) self2 _ _ _ h = _
      have hb := hlt v hv (k + 1)
      have hb0 := hlt v hv k
      have hd := gin_le (e := E v) (gout_le (e := E) v) k (by omega)
      have p61 : (8 : Nat) < 2 ^ 61 := by decide
      unfold kX11_isMixing_45 bX11_isMixing_107
      have ei : ((nI (stF n le (itr (faL n le) k (2 ^ v)) 0) ||| nI (stF n le (itr (faL n le) k (2 ^ v)) 1)) ||| nI (stF n le (itr (faL n le) k (2 ^ v)) 2)) ||| nI (stF n le (itr (faL n le) k (2 ^ v)) 3) = nI (itr (faL n le) (k + 1) (2 ^ v)) := by
        rw [ZN.2.2.2.2.2.2.1, ZN.2.2.2.2.2.2.1, ZN.2.2.2.2.2.2.1]
        rfl
      rw [if_neg (nI_nlt (by omega) (by decide)), led_ok hs h8 v30 lr hle hb0 (by decide), bsm, led_ok hs h8 v30 lr hle hb0 (by decide), bsm, led_ok hs h8 v30 lr hle hb0 (by decide), bsm, led_ok hs h8 v30 lr hle hb0 (by decide), bsm, zl_eq, ei]
      have hv' := hEv v (k + 1)
      by_cases hbit : (itr (faL n le) (k + 1) (2 ^ v)).testBit v = true
      · rw [hbit] at hv'
        rw [if_pos ((nb_bit1 (by omega) (by omega)).mpr hbit), nI_l (by omega), gcdR_ok (by omega) (by omega), bsm, nI_add, gin, if_pos hv']
      · have hbit' : (itr (faL n le) (k + 1) (2 ^ v)).testBit v = false := by simpa using hbit
        rw [hbit'] at hv'
        rw [if_neg (fun q => hbit ((nb_bit1 (by omega) (by omega)).mp q)), nI_add, gin, if_neg (by rw [hv']; decide)]
    · show kX11_isMixing_45 self 117 (nI v) self2 _ _ _ h = _
      unfold kX11_isMixing_45
      rw [if_pos (nI_lt (by decide) (by decide)), nI_add, gout]
  · show kX11_isMixing_27 117 self _ _ h = _
    unfold kX11_isMixing_27 bX11_isMixing_131
    have hg := gout_le (e := E) n
    have hc := lgc (gout E n) (by omega)
    by_cases z : gout E n = 1
    · simp (disch := omega) only [v30, Nat.le_refl, eq_true (hc.mpr z), decide_eq_true z, Bool.toNat_true, SR (hs), zl_eq, bsm, ZS, ZT, ZN, ZU, eq_self, true_and, and_true, and_self, or_true, true_or, or_false, false_or, not_true, not_false_eq_true, Nat.reduceAdd, Nat.reduceMul, Nat.reduceLT, Nat.reduceLeDiff, Nat.reduceEqDiff, ↓reduceIte, ZQ, Bool.true_eq_false, Bool.false_eq_true, Bool.not_true, Bool.not_false]
    · simp (disch := omega) only [v30, Nat.le_refl, eq_false (fun q => z (hc.mp q)), decide_eq_false z, Bool.toNat_false, SR (hs), zl_eq, bsm, ZS, ZT, ZN, ZU, eq_self, true_and, and_true, and_self, or_true, true_or, or_false, false_or, not_true, not_false_eq_true, Nat.reduceAdd, Nat.reduceMul, Nat.reduceLT, Nat.reduceLeDiff, Nat.reduceEqDiff, ↓reduceIte, ZQ, Bool.true_eq_false, Bool.false_eq_true, Bool.not_true, Bool.not_false]
theorem c_isMixing (a1 : Int32) : Ok2 (fX10_isMixing 0 a1) (fX11_isMixing 117 a1) := by
  refine Ok2.of (fun h G n c hI => ?_)
  have hs := hI.1
  rcases cSlot a1 with b | ⟨s, h6, rfl⟩
  · refine Ok2.same hI (r := -2) ?_ ?_
    · simp (disch := omega) only [fX10_isMixing, fun q => (b q).1, SC (hs), zl_eq, bsm, ZS, ZT, ZN, ZU, eq_self, true_and, and_true, and_self, or_true, true_or, or_false, false_or, not_true, not_false_eq_true, Nat.reduceAdd, Nat.reduceMul, Nat.reduceLT, Nat.reduceLeDiff, Nat.reduceEqDiff, ↓reduceIte, ZQ, Bool.true_eq_false, Bool.false_eq_true, Bool.not_true, Bool.not_false]
    · simp (disch := omega) only [fX11_isMixing, fun q => (b q).2, SR (hs), zl_eq, bsm, ZS, ZT, ZN, ZU, eq_self, true_and, and_true, and_self, or_true, true_or, or_false, false_or, not_true, not_false_eq_true, Nat.reduceAdd, Nat.reduceMul, Nat.reduceLT, Nat.reduceLeDiff, Nat.reduceEqDiff, ↓reduceIte, ZQ, Bool.true_eq_false, Bool.false_eq_true, Bool.not_true, Bool.not_false]
  obtain ⟨h1, r, e1, g1, res⟩ := bothCover hI h6
  have hs1 := g1.1
  rcases res with ⟨hr, h2, e2, g2⟩ | ⟨T, Ld, cl, r0, v0, τ, cv, rfl, ref⟩
  · refine ⟨r, ?_⟩
    have n1 : (0 ≤ r) = False := by rcases hr with rfl | rfl <;> decide
    have n2 : (r = 0) = False := by rcases hr with rfl | rfl <;> decide
    unfold fX10_isMixing fX11_isMixing
    simp (disch := omega) only [isSlot_ok h6, e1, n1, SC (hs), zl_eq, bsm, ZS, ZT, ZN, ZU, eq_self, true_and, and_true, and_self, or_true, true_or, or_false, false_or, not_true, not_false_eq_true, Nat.reduceAdd, Nat.reduceMul, Nat.reduceLT, Nat.reduceLeDiff, Nat.reduceEqDiff, ↓reduceIte, ZQ, Bool.true_eq_false, Bool.false_eq_true, Bool.not_true, Bool.not_false]
    refine wp_some ⟨rfl, ?_⟩
    dsimp only
    simp (disch := omega) only [rSlot_ok h6, e2, n2, SR (hs1), zl_eq, bsm, ZS, ZT, ZN, ZU, eq_self, true_and, and_true, and_self, or_true, true_or, or_false, false_or, not_true, not_false_eq_true, Nat.reduceAdd, Nat.reduceMul, Nat.reduceLT, Nat.reduceLeDiff, Nat.reduceEqDiff, ↓reduceIte, ZQ, Bool.true_eq_false, Bool.false_eq_true, Bool.not_true, Bool.not_false]
    exact wp_some ⟨rfl, G, n, c, g2⟩
  · obtain ⟨lc, vt, l1, -, -, -, -, -, -, hv0, t2, t3, hM⟩ := cv
    have h8 : Ld.length ≤ 8 := vt.1
    obtain ⟨h7, Q, le, φ, e7, p7, k7, mr, lr, hQ, is⟩ := ref h1 hs1 g1.2.1.rr
    have hs7 := p7.shp hs1
    have v30 := mr.1
    rw [hQ] at v30 lr
    have bI := BI_all (d := vF (le1 (G s) Ld cl)) (A := v0 + 1) (by omega) τ t2
    have rc := rcD_of bI t3
    have ee := mixEq (Q := (bq (vF (le1 (G s) Ld cl)) (v0 + 1) τ).1) h8 is bI.2.1 (fun P hP => ⟨by
      have : P ≠ 0 := fun z => bI.2.2.1 (by rw [← z]; exact hP)
      omega, (number_map is hv0 τ).1 P hP⟩) (fun v hv => reachV lc vt hv0 hv rc)
    have ec := cycleDivisor_ok (g71 hs1) hM
    have em := mixR hs7 h8 v30 lr (iso_leB is)
    rw [ee] at ec
    have gl := gout_le (e := fun v k => (itr (faL Ld.length le) k (2 ^ v)).testBit v) Ld.length
    generalize gout (fun v k => (itr (faL Ld.length le) k (2 ^ v)).testBit v) Ld.length = d at ec em gl
    have e12 : gR h1 0 54 13 = some 71 := (gR_ok (O54 hs1).1 (O54 hs1).2).trans (Rr hs1 (by decide) (by decide) (by decide) (by decide))
    have esh : fX0_shape 54 h1 = some (71, h1) := by
      unfold fX0_shape
      rw [if_pos (O54 hs1), e12, bsm]
    have l0 : (0 ≤ nI Ld.length) = True := by
      have : (nI 0 ≤ nI Ld.length) = True := by
        simp (disch := omega) only [Nat.zero_le, zl_eq, bsm, ZS, ZT, ZN, ZU, eq_self, true_and, and_true, and_self, or_true, true_or, or_false, false_or, not_true, not_false_eq_true, Nat.reduceAdd, Nat.reduceMul, Nat.reduceLT, Nat.reduceLeDiff, Nat.reduceEqDiff, ↓reduceIte, ZQ, Bool.true_eq_false, Bool.false_eq_true, Bool.not_true, Bool.not_false]
      exact this
    have fin : INVg G n c h7 := g1.fr (fq.of2 p7 (by decide) (fun k hk => k7 k (by omega) (by omega) (by omega) (by omega)))
    refine ⟨nI (decide (d = 1)).toNat, wp_eq (a := (nI (decide (d = 1)).toNat, h1)) ?_ ⟨rfl, wp_eq (a := (nI (decide (d = 1)).toNat, h7)) ?_ ⟨rfl, G, n, c, fin⟩⟩⟩
    · unfold fX10_isMixing bX10_isMixing_46
      simp (disch := omega) only [isSlot_ok h6, e1, l0, SC (hs), zl_eq, bsm, ZS, ZT, ZN, ZU, eq_self, true_and, and_true, and_self, or_true, true_or, or_false, false_or, not_true, not_false_eq_true, Nat.reduceAdd, Nat.reduceMul, Nat.reduceLT, Nat.reduceLeDiff, Nat.reduceEqDiff, ↓reduceIte, ZQ, Bool.true_eq_false, Bool.false_eq_true, Bool.not_true, Bool.not_false]
      by_cases z : d = 1
      · simp (disch := omega) only [esh, ec, eq_true z, SC (hs1), zl_eq, bsm, ZS, ZT, ZN, ZU, eq_self, true_and, and_true, and_self, or_true, true_or, or_false, false_or, not_true, not_false_eq_true, Nat.reduceAdd, Nat.reduceMul, Nat.reduceLT, Nat.reduceLeDiff, Nat.reduceEqDiff, ↓reduceIte, ZQ, Bool.true_eq_false, Bool.false_eq_true, Bool.not_true, Bool.not_false]
        rfl
      · simp (disch := omega) only [esh, ec, eq_false z, SC (hs1), zl_eq, bsm, ZS, ZT, ZN, ZU, eq_self, true_and, and_true, and_self, or_true, true_or, or_false, false_or, not_true, not_false_eq_true, Nat.reduceAdd, Nat.reduceMul, Nat.reduceLT, Nat.reduceLeDiff, Nat.reduceEqDiff, ↓reduceIte, ZQ, Bool.true_eq_false, Bool.false_eq_true, Bool.not_true, Bool.not_false]
        rfl
    · unfold fX11_isMixing
      simp (disch := omega) only [rSlot_ok h6, e7, SR (hs1), zl_eq, bsm, ZS, ZT, ZN, ZU, eq_self, true_and, and_true, and_self, or_true, true_or, or_false, false_or, not_true, not_false_eq_true, Nat.reduceAdd, Nat.reduceMul, Nat.reduceLT, Nat.reduceLeDiff, Nat.reduceEqDiff, ↓reduceIte, ZQ, Bool.true_eq_false, Bool.false_eq_true, Bool.not_true, Bool.not_false]
      exact em
