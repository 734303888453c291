/-! COVERS: the reference's reset word -/
section FRS
variable {h0 h : ZH} {n : Nat} {lb : Nat → Nat → Nat}
/-- the search after t steps -/
def stR2 (n : Nat) (lb : Nat → Nat → Nat) (h0 : ZH) (t : Nat) (h : ZH) : Prop := zfr [117, 136, 137, 140, 141] h0 h ∧ (∀ k, k ≠ 28 → zI h 117 k = zI h0 117 k) ∧ seI 0 (bq (stF n lb) (2 ^ n - 1) t).1 h ∧ cmR (bq (stF n lb) (2 ^ n - 1) t).1 (fun i => (bq (stF n lb) (2 ^ n - 1) t).2.getD i 0) (bq (stF n lb) (2 ^ n - 1) t).1.length h
/-- a new set is noted with where it came from -/
theorem noteR (hs : Sh h) {d : Nat → Nat → Nat} {A t x : Nat} (g : seI 0 (bq d A t).1 h) (c : cmR (bq d A t).1 (fun i => (bq d A t).2.getD i 0) (bq d A t).1.length h) (b : BI d A t (bq d A t)) (ht : t / 4 < (bq d A t).1.length) (hx : x < 256) (hP : d ((bq d A t).1.getD (t / 4) 0) (t % 4) = x) (h0 : x ≠ 0) (hin : x ∉ (bq d A t).1) (hl : (bq d A t).1.length < 256) : ∃ h', fX11_see 117 (nI x) (zsI h (zu (zu (zI h) 140 x (nI ((bq d A t).1.getD (t / 4) 0))) 141 x (nI (t % 4)))) = some h' ∧ zfr [117, 136, 137, 140, 141] h h' ∧ (∀ k, k ≠ 28 → zI h' 117 k = zI h 117 k) ∧ seI 0 (bq d A (t + 1)).1 h' ∧ cmR (bq d A (t + 1)).1 (fun i => (bq d A (t + 1)).2.getD i 0) (bq d A (t + 1)).1.length h' ∧ bq d A (t + 1) = ((bq d A t).1 ++ [x], (bq d A t).2 ++ [t]) := by
  have eb : bq d A (t + 1) = ((bq d A t).1 ++ [x], (bq d A t).2 ++ [t]) := by
    rw [bq, if_pos ht, hP]
    unfold noteL
    rw [if_neg (by rintro (z | z); exact h0 z; exact hin z)]
  rw [eb]
  have len2 : (bq d A t).2.length = (bq d A t).1.length := b.1
  have arr := b.2.2.2.2.2.1
  generalize (bq d A t).1 = Q at *
  generalize (bq d A t).2 = R at *
  have p1 : zfr [140, 141] h (zsI h (zu (zu (zI h) 140 x (nI (Q.getD (t / 4) 0))) 141 x (nI (t % 4)))) := zfr_zsI (fun b hb => by rw [zu_ne (fun e => hb (by rw [e]; decide)), zu_ne (fun e => hb (by rw [e]; decide))])
  have v1 : ∀ y, zI (zsI h (zu (zu (zI h) 140 x (nI (Q.getD (t / 4) 0))) 141 x (nI (t % 4)))) 140 y = if y = x then nI (Q.getD (t / 4) 0) else zI h 140 y := fun y => by
    dsimp only [zI_zsI]
    rw [zu_ne (by decide), zu_at]
  have v2 : ∀ y, zI (zsI h (zu (zu (zI h) 140 x (nI (Q.getD (t / 4) 0))) 141 x (nI (t % 4)))) 141 y = if y = x then nI (t % 4) else zI h 141 y := fun y => by
    dsimp only [zI_zsI]
    rw [zu_at, zu_ne (by decide)]
  generalize zsI h (zu (zu (zI h) 140 x (nI (Q.getD (t / 4) 0))) 141 x (nI (t % 4))) = h1 at p1 v1 v2 ⊢
  have hs1 := p1.shp hs
  obtain ⟨h2, e2, p2, k2, s2⟩ := see_new (Q := Q) hs1 (g.fr p1 (by decide) (by decide) (by rw [p1.I (by decide)])) hx hin hl
  refine ⟨h2, e2, (p1.mono (by decide)).same (p2.mono (by decide)), fun k hk => by rw [k2 k hk, p1.I (by decide)], s2, ?_, rfl⟩
  intro i h1i hi
  dsimp only at hi ⊢
  rw [List.length_append] at hi
  have hi' : i < Q.length + 1 := hi
  rw [p2.I (by decide), p2.I (by decide)]
  by_cases e : i = Q.length
  · have e' : i = R.length := by omega
    have er : (R ++ [t]).getD i 0 = t := by rw [e']; exact getD_r
    rw [er, e, getD_r, v1, v2, if_pos rfl, if_pos rfl, getD_l ht]
    exact ⟨rfl, rfl⟩
  · have hi2 : i < Q.length := by omega
    have er : (R ++ [t]).getD i 0 = R.getD i 0 := getD_l (by omega)
    have a1 := (arr i h1i hi2).2.1
    have hne : ¬ Q.getD i 0 = x := fun z => hin (by rw [← z]; exact getD_mem hi2)
    rw [er, getD_l hi2, v1, v2, if_neg hne, if_neg hne, getD_l (by omega)]
    exact c i h1i hi2
/-- the answer of the reference's search -/
def anR (a : Nat → Nat) (r v : Nat) (h : ZH) (y : Int32 × ZH) : Prop := y.1 = nI v ∧ zfr [117, 125, 136, 137, 140, 141] h y.2 ∧ (∀ k, k ≠ 28 → k ≠ 12 → zI y.2 117 k = zI h 117 k) ∧ zI y.2 117 12 = nI (dp a r) ∧ ∀ i, i < dp a r → zI y.2 125 i = nI (a (bk a r (dp a r - 1 - i)) % 4)
theorem finR {τ t' r v : Nat} {x3 : Int32} {self : Int32 × Int32 × ZH → Option (Int32 × ZH)} (hs0 : Sh h0) (h8 : n ≤ 8) (st : stR2 n lb h0 t' h) (ht : t' ≤ τ) (hrl : r < (bq (stF n lb) (2 ^ n - 1) t').1.length) (bI : BI (stF n lb) (2 ^ n - 1) τ (bq (stF n lb) (2 ^ n - 1) τ)) (b' : (bq (stF n lb) (2 ^ n - 1) t').2.length = (bq (stF n lb) (2 ^ n - 1) t').1.length) (l5 : (bq (stF n lb) (2 ^ n - 1) τ).1.length ≤ 255) (hin : ∀ x, x ∈ (bq (stF n lb) (2 ^ n - 1) τ).1 → inN n x) (er : (bq (stF n lb) (2 ^ n - 1) τ).1.getD r 0 = 2 ^ v) : wp (kX11_findReset_34 117 (nI (2 ^ n - 1)) self (nI (2 ^ v)) x3 h) (anR (fun i => (bq (stF n lb) (2 ^ n - 1) τ).2.getD i 0) r v h0) := by
  obtain ⟨p1, k1, s1, c1⟩ := st
  obtain ⟨R, R', e1, e2⟩ := bq_pr2 (d := stF n lb) (A := 2 ^ n - 1) (t := t') (τ - t')
  rw [show t' + (τ - t') = τ by omega] at e1 e2
  have nd := bI.2.1
  have q0 := bI.2.2.2.2.1
  have arr := bI.2.2.2.2.2.1
  have q256 : ∀ i, i < (bq (stF n lb) (2 ^ n - 1) τ).1.length → (bq (stF n lb) (2 ^ n - 1) τ).1.getD i 0 < 256 := fun i hi => inN_lt h8 (hin _ (getD_mem hi))
  have hA : 2 ^ n - 1 < 256 := inN_lt h8 full_in
  have hlen : (bq (stF n lb) (2 ^ n - 1) t').1.length ≤ (bq (stF n lb) (2 ^ n - 1) τ).1.length := by rw [e1, List.length_append]; omega
  have cm : cmR (bq (stF n lb) (2 ^ n - 1) τ).1 (fun i => (bq (stF n lb) (2 ^ n - 1) τ).2.getD i 0) (r + 1) h := by
    intro i h1 h2
    have w := c1 i h1 (by omega)
    have a1 := (arr i h1 (by omega)).2.1
    dsimp only at w ⊢
    have f2 : (bq (stF n lb) (2 ^ n - 1) τ).2.getD i 0 = (bq (stF n lb) (2 ^ n - 1) t').2.getD i 0 := by rw [e2]; exact getD_app (by omega)
    rw [f2] at a1 ⊢
    have f1 : (bq (stF n lb) (2 ^ n - 1) τ).1.getD i 0 = (bq (stF n lb) (2 ^ n - 1) t').1.getD i 0 := by rw [e1]; exact getD_app (by omega)
    have f3 : (bq (stF n lb) (2 ^ n - 1) τ).1.getD ((bq (stF n lb) (2 ^ n - 1) t').2.getD i 0 / 4) 0 = (bq (stF n lb) (2 ^ n - 1) t').1.getD ((bq (stF n lb) (2 ^ n - 1) t').2.getD i 0 / 4) 0 := by rw [e1]; exact getD_app (by omega)
    rw [f1, f3]
    exact w
  have hv : v < 8 := by
    have := q256 r (by omega)
    rw [er] at this
    exact (Nat.pow_lt_pow_iff_right (by decide : 1 < 2)).mp (by omega : 2 ^ v < 2 ^ 8)
  have v256 : 2 ^ v < 256 := by rw [← er]; exact q256 r (by omega)
  have v0 : ¬ (2 ^ v = 0) := by have := Nat.two_pow_pos v; omega
  have ha : ∀ i, 1 ≤ i → i < r + 1 → (fun i => (bq (stF n lb) (2 ^ n - 1) τ).2.getD i 0) i / 4 < i := fun i h1 h2 => (arr i h1 (by omega)).2.1
  have hs1 := p1.shp hs0
  have p3 : zfr [117] h (zsI h (zu (zI h) 117 12 (nI 0))) := zfr_uI
  have z3 : zI (zsI h (zu (zI h) 117 12 (nI 0))) 117 12 = nI 0 := by dsimp only [zI_zsI]; rw [zu_at, if_pos rfl]
  have o3 : ∀ k, k ≠ 12 → zI (zsI h (zu (zI h) 117 12 (nI 0))) 117 k = zI h 117 k := fun k hk => by dsimp only [zI_zsI]; rw [zu_at, if_neg hk]
  unfold kX11_findReset_34
  obtain ⟨V, hV⟩ : ∃ V, V = 2 ^ v := ⟨_, rfl⟩
  rw [← hV] at v256 v0 ⊢
  simp (disch := omega) only [eq_false v0, SR (hs1), zl_eq, bsm, ZS, ZT, ZN, ZU, eq_self, true_and, and_true, and_self, or_true, true_or, or_false, false_or, not_true, not_false_eq_true, Nat.reduceAdd, Nat.reduceMul, Nat.reduceLT, Nat.reduceLeDiff, Nat.reduceEqDiff, ↓reduceIte, ZQ, Bool.true_eq_false, Bool.false_eq_true, Bool.not_true, Bool.not_false]
  generalize zsI h (zu (zI h) 117 12 (nI 0)) = h3 at p3 z3 o3
  have hs3 := p3.shp hs1
  have q := spellRR (h := h3) (v := v) hs3 nd l5 q256 q0 hA (by omega) hv er ha (fun i h1 h2 => by rw [p3.I (by decide), p3.I (by decide)]; exact cm i h1 h2) z3
  rw [er, ← hV] at q
  refine wp_mono q (fun y hy => ?_)
  obtain ⟨y1, y2, y3, y4, y5⟩ := hy
  exact ⟨y1, ((p1.mono (by decide)).same (p3.mono (by decide))).same (y2.mono (by decide)), fun k h28 h12 => by rw [y3 k h12, o3 k h12, k1 k h28], y4, y5⟩
theorem findReset_ok {r v : Nat} (hs : Sh h) (n1 : 1 ≤ n) (h8 : n ≤ 8) (v30 : zI h 117 30 = nI n) (lr : leR n lb h) (hle : ∀ v l, v < n → l < 4 → lb v l ≤ n) (hr : rsI (BQ (stF n lb) (2 ^ n - 1)).1 r) (er : (BQ (stF n lb) (2 ^ n - 1)).1.getD r 0 = 2 ^ v) : wp (fX11_findReset 117 h) (anR (fun i => (BQ (stF n lb) (2 ^ n - 1)).2.getD i 0) r v h) := by
  obtain ⟨τ, eBQ, τ1, bI, l5, rc, t2, hin⟩ := RQ_facts n1 h8 hle
  rw [eBQ] at hr er ⊢
  have ppos : 2 ≤ 2 ^ n := by
    have : 2 ^ 1 ≤ 2 ^ n := Nat.pow_le_pow_right (by decide) n1
    omega
  have hA0 : 2 ^ n - 1 ≠ 0 := by omega
  have hA : 2 ^ n - 1 < 256 := inN_lt h8 full_in
  have q0 := bI.2.2.2.2.1
  have lens : ∀ t, t ≤ τ → (bq (stF n lb) (2 ^ n - 1) t).1.length ≤ 255 := fun t ht => by
    obtain ⟨R, R', e1, e2⟩ := bq_pr2 (d := stF n lb) (A := 2 ^ n - 1) (t := t) (τ - t)
    rw [show t + (τ - t) = τ by omega] at e1
    rw [e1, List.length_append] at l5
    omega
  have BIt : ∀ t, t ≤ τ → BI (stF n lb) (2 ^ n - 1) t (bq (stF n lb) (2 ^ n - 1) t) := fun t ht => BI_all hA0 t (fun s hs => t2 s (by omega))
  obtain ⟨h1, e1, p1, k1, s1⟩ := clearSeen_ok hs 0
  have hs1 := p1.shp hs
  obtain ⟨h2, e2, p2, k2, s2⟩ := seI_0 (d := stF n lb) (A := 2 ^ n - 1) (x := 2 ^ n - 1) hs1 s1 hA rfl hA0
  have st0 : stR2 n lb h 0 h2 := by
    refine ⟨(p1.mono (by decide)).same (p2.mono (by decide)), fun k hk => by rw [k2 k hk, k1 k hk], s2, fun i h1 h2 => ?_⟩
    have : (bq (stF n lb) (2 ^ n - 1) 0).1.length = 1 := by
      rw [bq]
      unfold noteL
      rw [if_neg (by rintro (z | z); exact hA0 z; cases z)]
      rfl
    omega
  unfold fX11_findReset bX11_findReset_31
  have hb := one_bc hA
  have hrl := hr.1
  have p2n : 2 ^ n < 2 ^ 31 := by omega
  by_cases o : one1 (2 ^ n - 1)
  · have r0 : r = 0 := by
      apply Classical.byContradiction
      intro z
      exact hr.2.2 0 (by omega) (by rw [q0]; exact o)
    have eA : 2 ^ n - 1 = 2 ^ v := by rw [r0, q0] at er; exact er
    have hb1 := hb.mpr o
    simp (disch := omega) only [v30, e1, e2, bc_ok, hb1, SR (hs), zl_eq, bsm, ZS, ZT, ZN, ZU, eq_self, true_and, and_true, and_self, or_true, true_or, or_false, false_or, not_true, not_false_eq_true, Nat.reduceAdd, Nat.reduceMul, Nat.reduceLT, Nat.reduceLeDiff, Nat.reduceEqDiff, ↓reduceIte, ZQ, Bool.true_eq_false, Bool.false_eq_true, Bool.not_true, Bool.not_false]
    refine wloop (fun _ y => y = (nI (2 ^ n - 1), nI 0, h2)) 0 (fun j y self hj hy ih => ?_) (by decide) rfl
    subst hy
    show wp (kX11_findReset_34 117 (nI (2 ^ n - 1)) self (nI (2 ^ n - 1)) (nI 0) h2) _
    have q := finR (t' := 0) (self := self) (x3 := nI 0) hs h8 st0 (Nat.zero_le τ) (by rw [r0]; exact (BIt 0 (Nat.zero_le τ)).2.2.2.1) bI (BIt 0 (Nat.zero_le τ)).1 l5 hin er
    rw [← eA] at q
    exact q
  · have hb1 : ¬ (bc (nI (2 ^ n - 1)) = nI 1) := fun z => o (hb.mp z)
    have r1 : 1 ≤ r := by
      apply Classical.byContradiction
      intro z
      have : r = 0 := by omega
      rw [this, q0] at er
      exact o ⟨v, er⟩
    obtain ⟨t0, u1, u2, u3, u4, u5, u6, u7⟩ := resetTime hA0 t2 hr r1
    rw [er] at u4 u5
    have v256 : 2 ^ v < 256 := by rw [← er]; exact inN_lt h8 (hin _ (getD_mem hrl))
    have v0 : ¬ (2 ^ v = 0) := by have := Nat.two_pow_pos v; omega
    have one2 : one1 (2 ^ v) := ⟨v, rfl⟩
    obtain ⟨V, hV⟩ : ∃ V, V = 2 ^ v := ⟨_, rfl⟩
    have lenNew : (bq (stF n lb) (2 ^ n - 1) (t0 + 1)).1.length = r + 1 := by
      rw [bq, if_pos (t2 t0 u1), u4]
      unfold noteL
      rw [if_neg (by rintro (z | z); exact v0 z; exact u5 z)]
      dsimp only
      rw [List.length_append, u2]
      rfl
    have fin : ∀ (self : Int32 × Int32 × ZH → Option (Int32 × ZH)) (x3 : Int32) (h' : ZH), stR2 n lb h (t0 + 1) h' → wp (kX11_findReset_34 117 (nI (2 ^ n - 1)) self (nI V) x3 h') (anR (fun i => (bq (stF n lb) (2 ^ n - 1) τ).2.getD i 0) r v h) := fun self x3 h' st => by
      rw [hV]
      exact finR hs h8 st (by omega) (by omega) bI (BIt (t0 + 1) (by omega)).1 l5 hin er
    rw [← hV] at v256 v0 one2 u4 u5
    clear hb
    generalize eAA : 2 ^ n - 1 = A at *
    simp (disch := omega) only [v30, eAA, e1, e2, bc_ok, eq_false hb1, SR (hs), zl_eq, bsm, ZS, ZT, ZN, ZU, eq_self, true_and, and_true, and_self, or_true, true_or, or_false, false_or, not_true, not_false_eq_true, Nat.reduceAdd, Nat.reduceMul, Nat.reduceLT, Nat.reduceLeDiff, Nat.reduceEqDiff, ↓reduceIte, ZQ, Bool.true_eq_false, Bool.false_eq_true, Bool.not_true, Bool.not_false]
    refine wloop (fun p y => (y.1 = nI 0 ∧ y.2.1 = nI p ∧ 4 * p ≤ t0 ∧ stR2 n lb h (4 * p) y.2.2) ∨ (y.1 = nI V ∧ p = t0 / 4 + 1 ∧ stR2 n lb h (t0 + 1) y.2.2)) (t0 / 4 + 1) (fun p y self hp hy ih => ?_) (show t0 / 4 + 1 < 100000 by omega) (Or.inl ⟨rfl, rfl, by omega, st0⟩)
    obtain ⟨y1, y2, h3⟩ := y
    rcases hy with ⟨rfl, rfl, hp4, st3⟩ | ⟨rfl, rfl, st3⟩
    · dsimp only at st3
      show wp (kX11_findReset_34 117 (nI A) self (nI 0) (nI p) h3) _
      unfold kX11_findReset_34
      simp (disch := omega) only [z16_0, zl_eq, bsm, ZS, ZT, ZN, ZU, eq_self, true_and, and_true, and_self, or_true, true_or, or_false, false_or, not_true, not_false_eq_true, Nat.reduceAdd, Nat.reduceMul, Nat.reduceLT, Nat.reduceLeDiff, Nat.reduceEqDiff, ↓reduceIte, ZQ, Bool.true_eq_false, Bool.false_eq_true, Bool.not_true, Bool.not_false]
      refine wloop (fun l y => y.2.1 = nI l ∧ ((y.1 = nI 0 ∧ 4 * p + l ≤ t0 ∧ stR2 n lb h (4 * p + l) y.2.2) ∨ (y.1 = nI V ∧ p = t0 / 4 ∧ stR2 n lb h (t0 + 1) y.2.2))) 4 (fun l y self2 hl hy ih2 => ?_) (by decide) ⟨rfl, Or.inl ⟨rfl, hp4, st3⟩⟩
      obtain ⟨y1, y2, h4⟩ := y
      obtain ⟨rfl, hy⟩ := hy
      rcases hy with ⟨rfl, ht4, st4⟩ | ⟨rfl, hpe, st4⟩
      · dsimp only at st4
        show wp (kX11_findReset_41 self 117 (nI A) (nI p) self2 (nI 0) (nI l) h4) _
        unfold kX11_findReset_41 bX11_findReset_123 bX11_findReset_124 bX11_findReset_130
        by_cases hl4 : l < 4
        · obtain ⟨p4, k4, s4, c4⟩ := st4
          rw [eAA] at s4 c4
          have hs4 := p4.shp hs
          have hpl := t2 (4 * p + l) (by omega)
          have hpl' : p < (bq (stF n lb) A (4 * p + l)).1.length := by rw [show (4 * p + l) / 4 = p by omega] at hpl; exact hpl
          have v4 := s4.2.1 p hpl'
          rw [Nat.sub_zero] at v4
          have b4 := BIt (4 * p + l) (by omega)
          have l4 := lens (4 * p + l) (by omega)
          have l5' := lens (4 * p + l + 1) (by omega)
          have S256 : (bq (stF n lb) A (4 * p + l)).1.getD p 0 < 256 := by
            obtain ⟨R, R', e1, e2⟩ := bq_pr2 (d := stF n lb) (A := A) (t := 4 * p + l) (τ - (4 * p + l))
            rw [show 4 * p + l + (τ - (4 * p + l)) = τ by omega] at e1
            exact inN_lt h8 (hin _ (by rw [e1]; exact List.mem_append_left _ (getD_mem hpl')))
          have v30' : zI h4 117 30 = nI n := by rw [k4 30 (by decide)]; exact v30
          have lr' : leR n lb h4 := fun k hk l hl => by rw [p4.I (by decide)]; exact lr k hk l hl
          have el := led_ok (S := (bq (stF n lb) A (4 * p + l)).1.getD p 0) (l := l) hs4 h8 v30' lr' hle S256 hl4
          have x256 : stF n lb ((bq (stF n lb) A (4 * p + l)).1.getD p 0) l < 256 := inN_lt h8 (stF_in hle hl4)
          have ed : stF n lb ((bq (stF n lb) A (4 * p + l)).1.getD ((4 * p + l) / 4) 0) ((4 * p + l) % 4) = stF n lb ((bq (stF n lb) A (4 * p + l)).1.getD p 0) l := by rw [show (4 * p + l) / 4 = p by omega, show (4 * p + l) % 4 = l by omega]
          have v5 := s4.2.2 _ x256
          have nr := fun (h0 : stF n lb ((bq (stF n lb) A (4 * p + l)).1.getD p 0) l ≠ 0) (hin : stF n lb ((bq (stF n lb) A (4 * p + l)).1.getD p 0) l ∉ (bq (stF n lb) A (4 * p + l)).1) => noteR (h := h4) hs4 s4 c4 b4 hpl x256 ed h0 hin (by omega)
          rw [show (4 * p + l) / 4 = p by omega, show (4 * p + l) % 4 = l by omega] at nr
          have same : bq (stF n lb) A (4 * p + l + 1) = bq (stF n lb) A (4 * p + l) → stR2 n lb h (4 * p + (l + 1)) h4 := fun z => by
            refine ⟨p4, k4, ?_, ?_⟩
            · rw [eAA, ← Nat.add_assoc, z]; exact s4
            · rw [eAA, ← Nat.add_assoc, z]; exact c4
          have u4' : 4 * p + l = t0 → stF n lb ((bq (stF n lb) A (4 * p + l)).1.getD p 0) l = V := fun z => by rw [← ed, z]; exact u4
          have u5' : 4 * p + l = t0 → V ∉ (bq (stF n lb) A (4 * p + l)).1 := fun z => by rw [z]; exact u5
          have u7' : 4 * p + l < t0 → ¬ one1 (stF n lb ((bq (stF n lb) A (4 * p + l)).1.getD p 0) l) := fun z => by rw [← ed]; exact u7 _ z
          have sk := bq_skip (d := stF n lb) (A := A) (t := 4 * p + l)
          rw [ed] at sk
          have old : stF n lb ((bq (stF n lb) A (4 * p + l)).1.getD p 0) l ∈ (bq (stF n lb) A (4 * p + l)).1 → bq (stF n lb) A (4 * p + l + 1) = bq (stF n lb) A (4 * p + l) := fun z => by
            rw [bq, if_pos hpl, ed]
            unfold noteL
            rw [if_pos (Or.inr z)]
          generalize stF n lb ((bq (stF n lb) A (4 * p + l)).1.getD p 0) l = x at *
          generalize (bq (stF n lb) A (4 * p + l)).1.getD p 0 = S at v4 S256 el nr
          by_cases hz : x = 0
          · have hne : ¬ (4 * p + l = t0) := fun z => v0 (by rw [← u4' z]; exact hz)
            simp (disch := omega) only [Nat.not_le.mpr hl4, v4, el, eq_true hz, SR (hs4), zl_eq, bsm, ZS, ZT, ZN, ZU, eq_self, true_and, and_true, and_self, or_true, true_or, or_false, false_or, not_true, not_false_eq_true, Nat.reduceAdd, Nat.reduceMul, Nat.reduceLT, Nat.reduceLeDiff, Nat.reduceEqDiff, ↓reduceIte, ZQ, Bool.true_eq_false, Bool.false_eq_true, Bool.not_true, Bool.not_false]
            exact ih2 _ hl4 ⟨rfl, Or.inl ⟨rfl, by omega, same (sk hz)⟩⟩
          · by_cases hin' : x ∈ (bq (stF n lb) A (4 * p + l)).1
            · have hne : ¬ (4 * p + l = t0) := fun z => u5' z (by rw [← u4' z]; exact hin')
              rw [Nat.add_zero, decide_eq_true hin', Bool.toNat_true] at v5
              simp (disch := omega) only [Nat.not_le.mpr hl4, v4, el, eq_false hz, v5, SR (hs4), zl_eq, bsm, ZS, ZT, ZN, ZU, eq_self, true_and, and_true, and_self, or_true, true_or, or_false, false_or, not_true, not_false_eq_true, Nat.reduceAdd, Nat.reduceMul, Nat.reduceLT, Nat.reduceLeDiff, Nat.reduceEqDiff, ↓reduceIte, ZQ, Bool.true_eq_false, Bool.false_eq_true, Bool.not_true, Bool.not_false]
              exact ih2 _ hl4 ⟨rfl, Or.inl ⟨rfl, by omega, same (old hin')⟩⟩
            · rw [Nat.add_zero, decide_eq_false hin', Bool.toNat_false] at v5
              obtain ⟨h5, e5, p5, k5, s5, c5, q5⟩ := nr hz hin'
              have st5 : stR2 n lb h (4 * p + l + 1) h5 := ⟨p4.same p5, fun k hk => by rw [k5 k hk, k4 k hk], by rw [eAA]; exact s5, by rw [eAA]; exact c5⟩
              have hbx := one_bc x256
              by_cases et : 4 * p + l = t0
              · have ex := u4' et
                have hb2 : bc (nI x) = nI 1 := hbx.mpr (by rw [ex]; exact one2)
                simp (disch := omega) only [Nat.not_le.mpr hl4, v4, el, eq_false hz, v5, e5, bc_ok, hb2, SR (hs4), zl_eq, bsm, ZS, ZT, ZN, ZU, eq_self, true_and, and_true, and_self, or_true, true_or, or_false, false_or, not_true, not_false_eq_true, Nat.reduceAdd, Nat.reduceMul, Nat.reduceLT, Nat.reduceLeDiff, Nat.reduceEqDiff, ↓reduceIte, ZQ, Bool.true_eq_false, Bool.false_eq_true, Bool.not_true, Bool.not_false]
                exact ih2 _ hl4 ⟨rfl, Or.inr ⟨by rw [ex], by omega, by rw [← et]; exact st5⟩⟩
              · have hb2 : ¬ (bc (nI x) = nI 1) := fun z => u7' (by omega) (hbx.mp z)
                simp (disch := omega) only [Nat.not_le.mpr hl4, v4, el, eq_false hz, v5, e5, bc_ok, eq_false hb2, SR (hs4), zl_eq, bsm, ZS, ZT, ZN, ZU, eq_self, true_and, and_true, and_self, or_true, true_or, or_false, false_or, not_true, not_false_eq_true, Nat.reduceAdd, Nat.reduceMul, Nat.reduceLT, Nat.reduceLeDiff, Nat.reduceEqDiff, ↓reduceIte, ZQ, Bool.true_eq_false, Bool.false_eq_true, Bool.not_true, Bool.not_false]
                exact ih2 _ hl4 ⟨rfl, Or.inl ⟨rfl, by omega, st5⟩⟩
        · have : l = 4 := by omega
          subst this
          simp (disch := omega) only [Nat.le_refl, zl_eq, bsm, ZS, ZT, ZN, ZU, eq_self, true_and, and_true, and_self, or_true, true_or, or_false, false_or, not_true, not_false_eq_true, Nat.reduceAdd, Nat.reduceMul, Nat.reduceLT, Nat.reduceLeDiff, Nat.reduceEqDiff, ↓reduceIte, ZQ, Bool.true_eq_false, Bool.false_eq_true, Bool.not_true, Bool.not_false]
          exact ih _ (by omega) (Or.inl ⟨rfl, rfl, by omega, by rw [show 4 * (p + 1) = 4 * p + 4 by omega]; exact st4⟩)
      · dsimp only at st4
        show wp (kX11_findReset_41 self 117 (nI A) (nI p) self2 (nI V) (nI l) h4) _
        unfold kX11_findReset_41 bX11_findReset_130
        by_cases hl4 : l < 4
        · simp (disch := omega) only [Nat.not_le.mpr hl4, eq_false v0, zl_eq, bsm, ZS, ZT, ZN, ZU, eq_self, true_and, and_true, and_self, or_true, true_or, or_false, false_or, not_true, not_false_eq_true, Nat.reduceAdd, Nat.reduceMul, Nat.reduceLT, Nat.reduceLeDiff, Nat.reduceEqDiff, ↓reduceIte, ZQ, Bool.true_eq_false, Bool.false_eq_true, Bool.not_true, Bool.not_false]
          exact ih _ (by omega) (Or.inr ⟨rfl, by omega, st4⟩)
        · simp (disch := omega) only [Nat.le_of_not_lt hl4, zl_eq, bsm, ZS, ZT, ZN, ZU, eq_self, true_and, and_true, and_self, or_true, true_or, or_false, false_or, not_true, not_false_eq_true, Nat.reduceAdd, Nat.reduceMul, Nat.reduceLT, Nat.reduceLeDiff, Nat.reduceEqDiff, ↓reduceIte, ZQ, Bool.true_eq_false, Bool.false_eq_true, Bool.not_true, Bool.not_false]
          exact ih _ (by omega) (Or.inr ⟨rfl, by omega, st4⟩)
    · dsimp only at st3
      exact fin self y2 h3 st3
end FRS
