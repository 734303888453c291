/-! CALLS: writeGraph, parse -/
/-- one sign more -/
def apd (t : Nat × (Nat → Nat)) (ch : Nat) : Nat × (Nat → Nat) := (t.1 + 1, upM t.2 t.1 ch)
def wtE (t : Nat × (Nat → Nat)) (v l x : Nat) : Nat × (Nat → Nat) := apd (apd (apd (if t.1 = 0 then t else apd t 59) (48 + v)) (97 + l)) (48 + x)
def wt (M : Nat → Nat) : Nat → Nat × (Nat → Nat)
  | 0 => (0, fun _ => 0)
  | k + 1 => if (M (k / 8)).testBit (k % 8) = true then wtE (wt M k) (k / 32) (k / 8 % 4) (k % 8) else wt M k
theorem apd_lt {t : Nat × (Nat → Nat)} {ch : Nat} (h : ∀ i, i < t.1 → t.2 i < 128) (hc : ch < 128) : ∀ i, i < (apd t ch).1 → (apd t ch).2 i < 128 := by
  intro i hi
  unfold apd at hi ⊢
  dsimp only at hi ⊢
  unfold upM
  by_cases e : i = t.1
  · rw [if_pos e]; exact hc
  · rw [if_neg e]; exact h i (by omega)
theorem wt_ok (M : Nat → Nat) (k : Nat) (hk : k ≤ 256) : (wt M k).1 ≤ 4 * k ∧ ∀ i, i < (wt M k).1 → (wt M k).2 i < 128 := by
  induction k with
  | zero => exact ⟨Nat.le_refl _, fun i hi => by simp [wt] at hi⟩
  | succ k ih =>
    obtain ⟨h1, h2⟩ := ih (by omega)
    rw [wt]
    split
    · unfold wtE
      by_cases e : (wt M k).1 = 0
      · rw [if_pos e]
        refine ⟨?_, apd_lt (apd_lt (apd_lt h2 (by omega)) (by omega)) (by omega)⟩
        show (wt M k).1 + 1 + 1 + 1 ≤ _
        omega
      · rw [if_neg e]
        refine ⟨?_, apd_lt (apd_lt (apd_lt (apd_lt h2 (by decide)) (by omega)) (by omega)) (by omega)⟩
        show (wt M k).1 + 1 + 1 + 1 + 1 ≤ _
        omega
    · exact ⟨by omega, h2⟩
theorem edge20_ok {t : Nat × (Nat → Nat)} {h : ZH} (hs : Sh h) (tx : txC t.1 t.2 h) (hn : t.1 + 3 ≤ 1024) {v l x : Nat} (hv : v < 8) (hl : l < 4) (hx : x < 8) : ∃ h', bX10_writeEdge_20 0 (nI v) (nI l) (nI x) h = some h' ∧ zfr [28, 29] h h' ∧ txC (apd (apd (apd t (48 + v)) (97 + l)) (48 + x)).1 (apd (apd (apd t (48 + v)) (97 + l)) (48 + x)).2 h' := by
  obtain ⟨h1, e1, p1, q1⟩ := addC hs tx (by omega) (ch := 48 + v) (by omega)
  have hs1 := p1.shp hs
  obtain ⟨h2, e2, p2, q2⟩ := addLC hs1 q1 (by omega) hl
  have hs2 := p2.shp hs1
  obtain ⟨h3, e3, p3, q3⟩ := addC hs2 q2 (by omega) (ch := 48 + x) (by omega)
  refine ⟨h3, ?_, (p1.same p2).same p3, q3⟩
  unfold bX10_writeEdge_20
  rw [R0_5 hs, Option.bind_some, nI_add, e1, Option.bind_some, R0_5 hs1, Option.bind_some, e2, Option.bind_some, R0_5 hs2, Option.bind_some, nI_add, e3, Option.bind_some]
theorem writeEdge_ok {t : Nat × (Nat → Nat)} {h : ZH} (hs : Sh h) (tx : txC t.1 t.2 h) (hn : t.1 + 4 ≤ 1024) {v l x : Nat} (hv : v < 8) (hl : l < 4) (hx : x < 8) : ∃ h', fX10_writeEdge 0 (nI v) (nI l) (nI x) h = some h' ∧ zfr [28, 29] h h' ∧ txC (wtE t v l x).1 (wtE t v l x).2 h' := by
  have el := len_ok (T28 hs) tx.1
  unfold wtE
  by_cases e : t.1 = 0
  · rw [if_pos e]
    obtain ⟨h1, e1, p1, q1⟩ := edge20_ok hs tx (by omega) hv hl hx
    refine ⟨h1, ?_, p1, q1⟩
    unfold fX10_writeEdge
    rw [if_pos (O0 hs), R0_5 hs, Option.bind_some, el, Option.bind_some, if_pos (show (nI t.1, h).1 ≤ 0 by show nI t.1 ≤ 0; rw [e]; decide)]
    exact e1
  · rw [if_neg e]
    obtain ⟨h0, e0, p0, q0⟩ := addC hs tx (by omega) (ch := 59) (by decide)
    have hs0 := p0.shp hs
    obtain ⟨h1, e1, p1, q1⟩ := edge20_ok (t := apd t 59) hs0 q0 (by show t.1 + 1 + 3 ≤ 1024; omega) hv hl hx
    refine ⟨h1, ?_, p0.same p1, q1⟩
    unfold fX10_writeEdge
    rw [if_pos (O0 hs), R0_5 hs, Option.bind_some, el, Option.bind_some, if_neg (nI_nle (n := t.1) (by omega) (by omega)), R0_5 hs, Option.bind_some, e0, Option.bind_some]
    exact e1
theorem fx28 {h h' : ZH} (p : zfr [28, 29] h h') : fx h h' := fx.of p (by decide) (by decide)
theorem edge69_ok {t : Nat × (Nat → Nat)} {h : ZH} (hs : Sh h) (tx : txR t.1 t.2 h) (hn : t.1 + 3 ≤ 1024) {s k v l : Nat} {self : Int32 × ZH → Option (Int32 × ZH)} (hk : k < 256) : ∃ h', bX11_writeGraph_69 self 117 (nI s) (nI k) (nI v) (nI l) h = self (nI (k + 1), h') ∧ zfr [124, 117] h h' ∧ (∀ k, k ≠ 10 → zI h' 117 k = zI h 117 k) ∧ txR (apd (apd (apd t (48 + v)) (97 + l)) (48 + k % 8)).1 (apd (apd (apd t (48 + v)) (97 + l)) (48 + k % 8)).2 h' := by
  obtain ⟨h1, e1, p1, k1, q1⟩ := signR hs tx (by omega) (ch := 48 + v)
  have hs1 := p1.shp hs
  obtain ⟨h2, e2, p2, k2, q2⟩ := signR hs1 q1 (by omega) (ch := 97 + l)
  have hs2 := p2.shp hs1
  obtain ⟨h3, e3, p3, k3, q3⟩ := signR hs2 q2 (by omega) (ch := 48 + k % 8)
  refine ⟨h3, ?_, (p1.same p2).same p3, fun k hk => by rw [k3 k hk, k2 k hk, k1 k hk], q3⟩
  unfold bX11_writeGraph_69 bX11_writeGraph_97
  rw [nI_add, e1, Option.bind_some, nI_add, e2, Option.bind_some, if_neg (show ¬ nI 8 = 0 by decide), jrem_ok (by omega) (by decide) (by decide), nI_add, e3, Option.bind_some, nI_add]
theorem wg_r {h1 : ZH} {G : Nat → Nat → Nat} {n s : Nat} {c : Nat → Nat} (h6 : s < 6) {t : Nat × (Nat → Nat)} (ht : wt (G s) 256 = t) (g1 : INVx G n c h1) (tc : txC t.1 t.2 h1) : wp (fX11_writeGraph 117 (nI s) h1) (fun y => y.1 = nI t.1 ∧ INV y.2) := by
  have hs := g1.1
  have hG := g1.2.1
  unfold fX11_writeGraph
  simp (disch := omega) only [SR (hs), zl_eq, bsm, ZS, ZT, ZN, ZU, eq_self, true_and, and_true, and_self, or_true, true_or, or_false, false_or, not_true, not_false_eq_true, Nat.reduceAdd, Nat.reduceMul, Nat.reduceLT, Nat.reduceLeDiff, Nat.reduceEqDiff, ↓reduceIte, ZQ, Bool.true_eq_false, Bool.false_eq_true, Bool.not_true, Bool.not_false]
  have p0 : zfr [124, 117] h1 (zsI h1 (zu (zI h1) 117 10 (nI 0))) := (zfr_uI (a := 117)).mono (by decide)
  refine wloop (fun k y => y.1 = nI k ∧ zfr [124, 117] h1 y.2 ∧ (∀ k, k ≠ 10 → zI y.2 117 k = zI h1 117 k) ∧ txR (wt (G s) k).1 (wt (G s) k).2 y.2) 256 (fun k y self hk hy ih => ?_) (show 256 < 100000 by omega) ⟨rfl, p0, fun k hk => ?_, ?_, fun i hi => ?_⟩
  · obtain ⟨y, h2⟩ := y
    obtain ⟨rfl, p2, k2, q2⟩ := hy
    dsimp only at p2 k2 q2
    have hs2 := p2.shp hs
    have hf : fx h1 h2 := ⟨p2.mono (by decide), fun k hk => k2 k (by omega)⟩
    have g2 := g1.fr hf
    show wp (kX11_writeGraph_17 117 (nI s) self (nI k) h2) _
    unfold kX11_writeGraph_17
    by_cases hlt : k < 256
    · have hq : k / 8 < 32 := by omega
      have hd : 4 * (k / 32) + k / 8 % 4 = k / 8 := by
        rw [show k / 32 = k / 8 / 4 by rw [Nat.div_div_eq_div_mul]]
        omega
      have e4 : fX11_to 117 (nI s) (nI (k / 32)) (nI (k / 8 % 4)) h2 = some (nI (G s (k / 8)), h2) := by
        rw [toG hs2 g2.2.1 h6 (by omega) (by omega), hd]
      have hgb := (hG s h6 (k / 8) hq).2.2
      have w1 := (wt_ok (G s) k (by omega)).1
      by_cases hbit : (G s (k / 8)).testBit (k % 8) = true
      · have ew : wt (G s) (k + 1) = wtE (wt (G s) k) (k / 32) (k / 8 % 4) (k % 8) := by rw [wt, if_pos hbit]
        by_cases e0 : (wt (G s) k).1 = 0
        · obtain ⟨h3, e3, p3, k3, q3⟩ := edge69_ok (self := self) (s := s) (v := k / 32) (l := k / 8 % 4) hs2 q2 (by omega) hlt
          have e10 := q2.1
          rw [e0] at e10
          simp (disch := omega) only [Nat.not_le.mpr hlt, e4, hbit, e10, SR (hs2), zl_eq, bsm, ZS, ZT, ZN, ZU, eq_self, true_and, and_true, and_self, or_true, true_or, or_false, false_or, not_true, not_false_eq_true, Nat.reduceAdd, Nat.reduceMul, Nat.reduceLT, Nat.reduceLeDiff, Nat.reduceEqDiff, ↓reduceIte, ZQ, Bool.true_eq_false, Bool.false_eq_true, Bool.not_true, Bool.not_false]
          rw [e3]
          refine ih _ hlt ⟨rfl, p2.same p3, fun k hk => by rw [k3 k hk, k2 k hk], ?_⟩
          rw [ew]; unfold wtE; rw [if_pos e0]; exact q3
        · obtain ⟨h3, e3, p3, k3, q3⟩ := signR hs2 q2 (by omega) (ch := 59)
          have hs3 := p3.shp hs2
          obtain ⟨h4, e5, p4, k4, q4⟩ := edge69_ok (t := apd (wt (G s) k) 59) (self := self) (s := s) (v := k / 32) (l := k / 8 % 4) hs3 q3 (by show (wt (G s) k).1 + 1 + 3 ≤ 1024; omega) hlt
          have e10 := q2.1
          simp (disch := omega) only [Nat.not_le.mpr hlt, e4, hbit, e10, e0, e3, SR (hs2), zl_eq, bsm, ZS, ZT, ZN, ZU, eq_self, true_and, and_true, and_self, or_true, true_or, or_false, false_or, not_true, not_false_eq_true, Nat.reduceAdd, Nat.reduceMul, Nat.reduceLT, Nat.reduceLeDiff, Nat.reduceEqDiff, ↓reduceIte, ZQ, Bool.true_eq_false, Bool.false_eq_true, Bool.not_true, Bool.not_false]
          rw [e5]
          refine ih _ hlt ⟨rfl, (p2.same p3).same p4, fun k hk => by rw [k4 k hk, k3 k hk, k2 k hk], ?_⟩
          rw [ew]; unfold wtE; rw [if_neg e0]; exact q4
      · have hbit' : (G s (k / 8)).testBit (k % 8) = false := by simpa using hbit
        have ew : wt (G s) (k + 1) = wt (G s) k := by rw [wt, if_neg hbit]
        simp (disch := omega) only [Nat.not_le.mpr hlt, e4, hbit', bX11_writeGraph_97, SR (hs2), zl_eq, bsm, ZS, ZT, ZN, ZU, eq_self, true_and, and_true, and_self, or_true, true_or, or_false, false_or, not_true, not_false_eq_true, Nat.reduceAdd, Nat.reduceMul, Nat.reduceLT, Nat.reduceLeDiff, Nat.reduceEqDiff, ↓reduceIte, ZQ, Bool.true_eq_false, Bool.false_eq_true, Bool.not_true, Bool.not_false]
        exact ih _ hlt ⟨rfl, p2, k2, by rw [ew]; exact q2⟩
    · have : k = 256 := by omega
      subst this
      have wo := wt_ok (G s) 256 (Nat.le_refl _)
      rw [ht] at q2 wo
      have e10 := q2.1
      simp (disch := omega) only [Nat.le_refl, e10, SR (hs2), zl_eq, bsm, ZS, ZT, ZN, ZU, eq_self, true_and, and_true, and_self, or_true, true_or, or_false, false_or, not_true, not_false_eq_true, Nat.reduceAdd, Nat.reduceMul, Nat.reduceLT, Nat.reduceLeDiff, Nat.reduceEqDiff, ↓reduceIte, ZQ, Bool.true_eq_false, Bool.false_eq_true, Bool.not_true, Bool.not_false]
      refine wp_some ⟨rfl, G, n, c, g2.g (iOut.mk (by omega) wo.2 (tc.fr p2 (by decide) (by decide)) q2)⟩
  · dsimp only [zI_zsI]; rw [zu_at, if_neg hk]
  · dsimp only [zI_zsI]; rw [zu_at, if_pos rfl]; rw [wt]
  · rw [wt] at hi; dsimp only at hi; omega
theorem c_writeGraph (a1 : Int32) : Ok2 (fX10_writeGraph 0 a1) (fX11_writeGraph 117 a1) := by
  refine Ok2.of (fun h G n c hI => ?_)
  have hs := hI.1
  have hG := hI.2.1
  rcases cSlot a1 with b | ⟨s, h6, rfl⟩
  · refine Ok2.same hI (r := -2) ?_ ?_
    · simp (disch := omega) only [fX10_writeGraph, fun q => (b q).1, SC (hs), zl_eq, bsm, ZS, ZT, ZN, ZU, eq_self, true_and, and_true, and_self, or_true, true_or, or_false, false_or, not_true, not_false_eq_true, Nat.reduceAdd, Nat.reduceMul, Nat.reduceLT, Nat.reduceLeDiff, Nat.reduceEqDiff, ↓reduceIte, ZQ, Bool.true_eq_false, Bool.false_eq_true, Bool.not_true, Bool.not_false]
    · simp (disch := omega) only [fX11_writeGraph, fun q => (b q).2, SR (hs), zl_eq, bsm, ZS, ZT, ZN, ZU, eq_self, true_and, and_true, and_self, or_true, true_or, or_false, false_or, not_true, not_false_eq_true, Nat.reduceAdd, Nat.reduceMul, Nat.reduceLT, Nat.reduceLeDiff, Nat.reduceEqDiff, ↓reduceIte, ZQ, Bool.true_eq_false, Bool.false_eq_true, Bool.not_true, Bool.not_false]
  obtain ⟨t, ht⟩ : ∃ t, wt (G s) 256 = t := ⟨_, rfl⟩
  refine ⟨nI t.1, wp_mono (P := fun x => x.1 = nI t.1 ∧ INVx G n c x.2 ∧ txC t.1 t.2 x.2) ?_ (fun x hx => ⟨hx.1, wg_r h6 ht hx.2.1 hx.2.2⟩)⟩
  unfold fX10_writeGraph
  simp (disch := omega) only [tclear_ok (T28 hs), SC (hs), zl_eq, bsm, ZS, ZT, ZN, ZU, eq_self, true_and, and_true, and_self, or_true, true_or, or_false, false_or, not_true, not_false_eq_true, Nat.reduceAdd, Nat.reduceMul, Nat.reduceLT, Nat.reduceLeDiff, Nat.reduceEqDiff, ↓reduceIte, ZQ, Bool.true_eq_false, Bool.false_eq_true, Bool.not_true, Bool.not_false]
  have p0 : zfr [28, 29] h (zsI h (zu (zI h) 28 1 (nI 0))) := (zfr_uI (a := 28)).mono (by decide)
  refine wloop (fun v y => y.1 = nI v ∧ zfr [28, 29] h y.2 ∧ txC (wt (G s) (32 * v)).1 (wt (G s) (32 * v)).2 y.2) 8 (fun v y self hv hy ih => ?_) (by decide) ⟨rfl, p0, ?_, fun i hi => ?_⟩
  · obtain ⟨y, h1⟩ := y
    obtain ⟨rfl, p1, q1⟩ := hy
    dsimp only at p1 q1
    show wp (kX10_writeGraph_19 0 (nI s) self (nI v) h1) _
    have g1 := hI.x.fr (fx28 p1)
    unfold kX10_writeGraph_19
    by_cases hlt : v < 8
    · simp (disch := omega) only [Nat.not_le.mpr hlt, SC (g1.1), zl_eq, bsm, ZS, ZT, ZN, ZU, eq_self, true_and, and_true, and_self, or_true, true_or, or_false, false_or, not_true, not_false_eq_true, Nat.reduceAdd, Nat.reduceMul, Nat.reduceLT, Nat.reduceLeDiff, Nat.reduceEqDiff, ↓reduceIte, ZQ, Bool.true_eq_false, Bool.false_eq_true, Bool.not_true, Bool.not_false]
      refine wloop (fun l y => y.1 = nI l ∧ zfr [28, 29] h y.2 ∧ txC (wt (G s) (32 * v + 8 * l)).1 (wt (G s) (32 * v + 8 * l)).2 y.2) 4 (fun l y self2 hl hy ih2 => ?_) (by decide) ⟨rfl, p1, by rw [Nat.mul_zero, Nat.add_zero]; exact q1⟩
      obtain ⟨y, h2⟩ := y
      obtain ⟨rfl, p2, q2⟩ := hy
      dsimp only at p2 q2
      show wp (kX10_writeGraph_27 self 0 (nI s) (nI v) self2 (nI l) h2) _
      have g2 := hI.x.fr (fx28 p2)
      unfold kX10_writeGraph_27
      by_cases hlt2 : l < 4
      · simp (disch := omega) only [Nat.not_le.mpr hlt2, SC (g2.1), zl_eq, bsm, ZS, ZT, ZN, ZU, eq_self, true_and, and_true, and_self, or_true, true_or, or_false, false_or, not_true, not_false_eq_true, Nat.reduceAdd, Nat.reduceMul, Nat.reduceLT, Nat.reduceLeDiff, Nat.reduceEqDiff, ↓reduceIte, ZQ, Bool.true_eq_false, Bool.false_eq_true, Bool.not_true, Bool.not_false]
        refine wloop (fun x y => y.1 = nI x ∧ zfr [28, 29] h y.2 ∧ txC (wt (G s) (32 * v + 8 * l + x)).1 (wt (G s) (32 * v + 8 * l + x)).2 y.2) 8 (fun x y self3 hx hy ih3 => ?_) (by decide) ⟨rfl, p2, by rw [Nat.add_zero]; exact q2⟩
        obtain ⟨y, h3⟩ := y
        obtain ⟨rfl, p3, q3⟩ := hy
        dsimp only at p3 q3
        show wp (kX10_writeGraph_35 self self2 0 (nI s) (nI v) (nI l) self3 (nI x) h3) _
        have g3 := hI.x.fr (fx28 p3)
        unfold kX10_writeGraph_35 bX10_writeGraph_66
        by_cases hlt3 : x < 8
        · have e1 : (32 * v + 8 * l + x) / 8 = 4 * v + l := by omega
          have e2 : (32 * v + 8 * l + x) % 8 = x := by omega
          have e3 : (4 * v + l) % 4 = l := by omega
          have e4 : (32 * v + 8 * l + x) / 32 = v := by omega
          have er : wt (G s) (32 * v + 8 * l + x + 1) = if (G s (4 * v + l)).testBit x = true then wtE (wt (G s) (32 * v + 8 * l + x)) v l x else wt (G s) (32 * v + 8 * l + x) := by
            rw [wt, e1, e2, e3, e4]
          have hh := has_ok (gS g3.1 h6) (g3.2.1.m h6) hlt hlt2 hlt3
          have wo := (wt_ok (G s) (32 * v + 8 * l + x) (by omega)).1
          by_cases hbit : (G s (4 * v + l)).testBit x = true
          · rw [if_pos hbit] at er
            rw [hbit] at hh
            obtain ⟨h4, e5, p4, q4⟩ := writeEdge_ok g3.1 q3 (by omega) hlt hlt2 hlt3
            simp (disch := omega) only [Nat.not_le.mpr hlt3, hh, Bool.toNat_true, e5, SC (g3.1), zl_eq, bsm, ZS, ZT, ZN, ZU, eq_self, true_and, and_true, and_self, or_true, true_or, or_false, false_or, not_true, not_false_eq_true, Nat.reduceAdd, Nat.reduceMul, Nat.reduceLT, Nat.reduceLeDiff, Nat.reduceEqDiff, ↓reduceIte, ZQ, Bool.true_eq_false, Bool.false_eq_true, Bool.not_true, Bool.not_false]
            exact ih3 _ hlt3 ⟨rfl, p3.same p4, by dsimp only; rw [← Nat.add_assoc, er]; exact q4⟩
          · rw [if_neg hbit] at er
            have hbit' : (G s (4 * v + l)).testBit x = false := by simpa using hbit
            rw [hbit'] at hh
            simp (disch := omega) only [Nat.not_le.mpr hlt3, hh, Bool.toNat_false, SC (g3.1), zl_eq, bsm, ZS, ZT, ZN, ZU, eq_self, true_and, and_true, and_self, or_true, true_or, or_false, false_or, not_true, not_false_eq_true, Nat.reduceAdd, Nat.reduceMul, Nat.reduceLT, Nat.reduceLeDiff, Nat.reduceEqDiff, ↓reduceIte, ZQ, Bool.true_eq_false, Bool.false_eq_true, Bool.not_true, Bool.not_false]
            exact ih3 _ hlt3 ⟨rfl, p3, by dsimp only; rw [← Nat.add_assoc, er]; exact q3⟩
        · have : x = 8 := by omega
          subst this
          simp (disch := omega) only [Nat.le_refl, SC (g3.1), zl_eq, bsm, ZS, ZT, ZN, ZU, eq_self, true_and, and_true, and_self, or_true, true_or, or_false, false_or, not_true, not_false_eq_true, Nat.reduceAdd, Nat.reduceMul, Nat.reduceLT, Nat.reduceLeDiff, Nat.reduceEqDiff, ↓reduceIte, ZQ, Bool.true_eq_false, Bool.false_eq_true, Bool.not_true, Bool.not_false]
          exact ih2 _ hlt2 ⟨rfl, p3, by dsimp only; rw [show 32 * v + 8 * (l + 1) = 32 * v + 8 * l + 8 by omega]; exact q3⟩
      · have : l = 4 := by omega
        subst this
        simp (disch := omega) only [Nat.le_refl, SC (g2.1), zl_eq, bsm, ZS, ZT, ZN, ZU, eq_self, true_and, and_true, and_self, or_true, true_or, or_false, false_or, not_true, not_false_eq_true, Nat.reduceAdd, Nat.reduceMul, Nat.reduceLT, Nat.reduceLeDiff, Nat.reduceEqDiff, ↓reduceIte, ZQ, Bool.true_eq_false, Bool.false_eq_true, Bool.not_true, Bool.not_false]
        exact ih _ hlt ⟨rfl, p2, by dsimp only; rw [show 32 * (v + 1) = 32 * v + 8 * 4 by omega]; exact q2⟩
    · have : v = 8 := by omega
      subst this
      rw [show 32 * 8 = 256 from rfl, ht] at q1
      simp (disch := omega) only [Nat.le_refl, len_ok (T28 g1.1) q1.1, SC (g1.1), zl_eq, bsm, ZS, ZT, ZN, ZU, eq_self, true_and, and_true, and_self, or_true, true_or, or_false, false_or, not_true, not_false_eq_true, Nat.reduceAdd, Nat.reduceMul, Nat.reduceLT, Nat.reduceLeDiff, Nat.reduceEqDiff, ↓reduceIte, ZQ, Bool.true_eq_false, Bool.false_eq_true, Bool.not_true, Bool.not_false]
      exact wp_some ⟨rfl, g1, q1⟩
  · dsimp only [zI_zsI]; rw [zu_at, if_pos rfl, Nat.mul_zero, wt]
  · rw [Nat.mul_zero, wt] at hi; dsimp only at hi; omega
