/-! WIDE GRAPHS: the object numbers and copies the essential part -/
theorem fq73 {h h' : ZH} (p : zfr [74] h h') : fq h h' := fq.of p (by decide) (by decide)
/-- edge number e = 256 v + 64 l + x of the wide graph, renumbered by the core's order -/
def cpN (W : Nat → Nat) (C : Nat) : Nat → Nat → Nat
  | 0 => fun _ => 0
  | e + 1 => if C.testBit (e / 256) = true ∧ C.testBit (e % 64) = true ∧ (W (e / 64)).testBit (e % 64) = true then upM (cpN W C e) (4 * und C (e / 256) + e / 64 % 4) (cpN W C e (4 * und C (e / 256) + e / 64 % 4) ||| 2 ^ und C (e % 64)) else cpN W C e
section W3
variable {h : ZH} {W : Nat → Nat}
theorem numberW_ok (hs : Sh h) (C : Nat) : ∃ h', fX8_numberVertices 73 (lN C) h = some h' ∧ zfr [75] h h' ∧ ∀ v, v < 64 → zI h' 75 v = nI (und C v) := by
  have key : wp (fX8_numberVertices 73 (lN C) h) (fun h' => zfr [75] h h' ∧ ∀ v, v < 64 → zI h' 75 v = nI (und C v)) := by
    unfold fX8_numberVertices
    simp (disch := omega) only [SC (hs), zl_eq, bsm, ZS, ZT, ZN, ZU, eq_self, true_and, and_true, and_self, or_true, true_or, or_false, false_or, not_true, not_false_eq_true, Nat.reduceAdd, Nat.reduceMul, Nat.reduceLT, Nat.reduceLeDiff, Nat.reduceEqDiff, ↓reduceIte, ZQ, Bool.true_eq_false, Bool.false_eq_true, Bool.not_true, Bool.not_false]
    refine wloop (fun v y => y.1 = nI (und C v) ∧ y.2.1 = nI v ∧ zfr [75] h y.2.2 ∧ ∀ u, u < v → zI y.2.2 75 u = nI (und C u)) 64 (fun v y self hv hy ih => ?_) (by decide) ⟨rfl, rfl, zfr.refl h, fun u hu => by omega⟩
    obtain ⟨x, y, h1⟩ := y
    obtain ⟨rfl, rfl, p1, q1⟩ := hy
    dsimp only at p1 q1
    have hs1 := p1.shp hs
    show wp (kX8_numberVertices_5 73 (lN C) self (nI (und C v)) (nI v) h1) _
    unfold kX8_numberVertices_5 bX8_numberVertices_34
    by_cases hlt : v < 64
    · have fin : ∀ w, w = und C (v + 1) → wp (self (nI w, nI (v + 1), zsI h1 (zu (zI h1) 75 v (nI (und C v))))) (fun h' => zfr [75] h h' ∧ ∀ v, v < 64 → zI h' 75 v = nI (und C v)) := by
        intro w hw
        refine ih _ hlt ⟨by rw [hw], rfl, p1.same zfr_uI, fun u hu => ?_⟩
        dsimp only [zI_zsI]
        rw [zu_at]
        by_cases e : u = v
        · rw [if_pos e, e]
        · rw [if_neg e]; exact q1 u (by omega)
      by_cases hb : C.testBit v = true
      · simp (disch := omega) only [Nat.not_le.mpr hlt, lb_bit0, hb, SC (hs1), zl_eq, bsm, ZS, ZT, ZN, ZU, eq_self, true_and, and_true, and_self, or_true, true_or, or_false, false_or, not_true, not_false_eq_true, Nat.reduceAdd, Nat.reduceMul, Nat.reduceLT, Nat.reduceLeDiff, Nat.reduceEqDiff, ↓reduceIte, ZQ, Bool.true_eq_false, Bool.false_eq_true, Bool.not_true, Bool.not_false]
        exact fin _ (by unfold und; rw [cnt_one hb])
      · have hb' : C.testBit v = false := by simpa using hb
        simp (disch := omega) only [Nat.not_le.mpr hlt, lb_bit0, hb', SC (hs1), zl_eq, bsm, ZS, ZT, ZN, ZU, eq_self, true_and, and_true, and_self, or_true, true_or, or_false, false_or, not_true, not_false_eq_true, Nat.reduceAdd, Nat.reduceMul, Nat.reduceLT, Nat.reduceLeDiff, Nat.reduceEqDiff, ↓reduceIte, ZQ, Bool.true_eq_false, Bool.false_eq_true, Bool.not_true, Bool.not_false]
        exact fin _ (by unfold und; rw [cnt_zero hb'])
    · have : v = 64 := by omega
      subst this
      simp (disch := omega) only [Nat.le_refl, SC (hs1), zl_eq, bsm, ZS, ZT, ZN, ZU, eq_self, true_and, and_true, and_self, or_true, true_or, or_false, false_or, not_true, not_false_eq_true, Nat.reduceAdd, Nat.reduceMul, Nat.reduceLT, Nat.reduceLeDiff, Nat.reduceEqDiff, ↓reduceIte, ZQ, Bool.true_eq_false, Bool.false_eq_true, Bool.not_true, Bool.not_false]
      exact wp_some ⟨p1, q1⟩
  exact key
end W3
