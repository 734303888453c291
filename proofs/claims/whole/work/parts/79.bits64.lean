/-! LONGS AS SETS of up to 64; the reference's list of members -/
theorem lb_and (a b : Nat) : lN a &&& lN b = lN (a &&& b) := by
  apply Int64.toBitVec_inj.mp
  rw [Int64.toBitVec_and]
  show BitVec.ofNat 64 a &&& BitVec.ofNat 64 b = BitVec.ofNat 64 (a &&& b)
  apply BitVec.eq_of_getLsbD_eq
  intro i hi
  simp [hi]
theorem lb_or (a b : Nat) : lN a ||| lN b = lN (a ||| b) := by
  apply Int64.toBitVec_inj.mp
  rw [Int64.toBitVec_or]
  show BitVec.ofNat 64 a ||| BitVec.ofNat 64 b = BitVec.ofNat 64 (a ||| b)
  apply BitVec.eq_of_getLsbD_eq
  intro i hi
  simp [hi]
theorem lb_c : ∀ v, v < 64 → (((nI v).toInt64 &&& 63).toBitVec.smod 64).toNat = v := by decide +kernel
theorem lb_shl (a : Nat) {v : Nat} (hv : v < 64) : jlshl (lN a) (nI v) = lN (a * 2 ^ v) := by
  apply Int64.toBitVec_inj.mp
  show BitVec.ofNat 64 a <<< (((nI v).toInt64 &&& 63).toBitVec.smod 64).toNat = BitVec.ofNat 64 (a * 2 ^ v)
  rw [lb_c v hv]
  apply BitVec.eq_of_toNat_eq
  rw [BitVec.toNat_shiftLeft, BitVec.toNat_ofNat, BitVec.toNat_ofNat, Nat.shiftLeft_eq, Nat.mod_mul_mod]
theorem lb_bit (a : Nat) {v : Nat} (hv : v < 64) : jlshr (lN a) (nI v) &&& lN 1 = lN (a.testBit v).toNat := by
  apply Int64.toBitVec_inj.mp
  rw [Int64.toBitVec_and]
  show (BitVec.ofNat 64 a).sshiftRight (((nI v).toInt64 &&& 63).toBitVec.smod 64).toNat &&& BitVec.ofNat 64 1 = BitVec.ofNat 64 (a.testBit v).toNat
  rw [lb_c v hv]
  apply BitVec.eq_of_getLsbD_eq
  intro i hi
  rw [BitVec.getLsbD_and, BitVec.getLsbD_sshiftRight, BitVec.getLsbD_ofNat, BitVec.getLsbD_ofNat]
  by_cases h0 : i = 0
  · subst h0
    rw [if_pos (by omega), BitVec.getLsbD_ofNat]
    cases a.testBit v <;> simp [hv]
  · have h1 : Nat.testBit 1 i = false := by
      cases hq : Nat.testBit 1 i
      · rfl
      · exact absurd (Nat.testBit_one_eq_true_iff_self_eq_zero.mp hq) h0
    rw [h1]
    cases a.testBit v
    · simp
    · simp [h0]
theorem lb_bit0 {a v : Nat} (hv : v < 64) : (lg_cmp (jlshr (lN a) (nI v) &&& lN 1) (lN 0) = 0) = (a.testBit v = false) := by
  rw [lb_bit a hv]
  apply propext
  rw [lcmp0 (by cases a.testBit v <;> decide)]
  cases a.testBit v <;> decide
theorem lb_bit1 {a v : Nat} (hv : v < 64) : (lg_cmp (jlshr (lN a) (nI v) &&& lN 1) (lN 1) = 0) = (a.testBit v = true) := by
  rw [lb_bit a hv]
  apply propext
  cases a.testBit v <;> decide
/-- how many members lie under v -/
def und (a v : Nat) : Nat := cnt (fun k => a.testBit k) v
theorem und_le (a v : Nat) : und a v ≤ v := cnt_le _ _
theorem place_ok {h : ZH} {a : Nat} (hs : Sh h) : ∃ h', fX11_place 117 (lN a) h = some h' ∧ zfr [117, 128] h h' ∧ (∀ i, i ≠ 17 → zI h' 117 i = zI h 117 i) ∧ zI h' 117 17 = nI (und a 64) ∧ ∀ v, v < 64 → a.testBit v = true → zI h' 128 (und a v) = nI v := by
  have key : wp (fX11_place 117 (lN a) h) (fun h' => zfr [117, 128] h h' ∧ (∀ i, i ≠ 17 → zI h' 117 i = zI h 117 i) ∧ zI h' 117 17 = nI (und a 64) ∧ ∀ v, v < 64 → a.testBit v = true → zI h' 128 (und a v) = nI v) := by
    unfold fX11_place
    simp (disch := omega) only [SR (hs), zl_eq, bsm, ZS, ZT, ZN, ZU, eq_self, true_and, and_true, and_self, or_true, true_or, or_false, false_or, not_true, not_false_eq_true, Nat.reduceAdd, Nat.reduceMul, Nat.reduceLT, Nat.reduceLeDiff, Nat.reduceEqDiff, ↓reduceIte, ZQ, Bool.true_eq_false, Bool.false_eq_true, Bool.not_true, Bool.not_false]
    have p0 : zfr [117, 128] h (zsI h (zu (zI h) 117 17 (nI 0))) := (zfr_uI (a := 117)).mono (by decide)
    have z17 : zI (zsI h (zu (zI h) 117 17 (nI 0))) 117 17 = nI 0 := by dsimp only [zI_zsI]; rw [zu_at, if_pos rfl]
    have zo : ∀ i, i ≠ 17 → zI (zsI h (zu (zI h) 117 17 (nI 0))) 117 i = zI h 117 i := fun i hi => by dsimp only [zI_zsI]; rw [zu_at, if_neg hi]
    generalize zsI h (zu (zI h) 117 17 (nI 0)) = h0 at p0 z17 zo
    refine wloop (fun v y => y.1 = nI v ∧ zfr [117, 128] h y.2 ∧ (∀ i, i ≠ 17 → zI y.2 117 i = zI h 117 i) ∧ zI y.2 117 17 = nI (und a v) ∧ ∀ u, u < v → a.testBit u = true → zI y.2 128 (und a u) = nI u) 64 (fun v y self hv hy ih => ?_) (by decide) ⟨rfl, p0, zo, z17, fun u hu => by omega⟩
    obtain ⟨y, h1⟩ := y
    obtain ⟨rfl, p1, k1, z1, q1⟩ := hy
    dsimp only at p1 k1 z1 q1
    have hs1 := p1.shp hs
    show wp (kX11_place_7 117 (lN a) self (nI v) h1) _
    unfold kX11_place_7 bX11_place_43
    by_cases hlt : v < 64
    · have hu := und_le a v
      by_cases hb : a.testBit v = true
      · have eu : und a (v + 1) = und a v + 1 := by unfold und; rw [cnt_one hb]
        simp (disch := omega) only [Nat.not_le.mpr hlt, lb_bit1, eq_true hb, z1, SR (hs1), zl_eq, bsm, ZS, ZT, ZN, ZU, eq_self, true_and, and_true, and_self, or_true, true_or, or_false, false_or, not_true, not_false_eq_true, Nat.reduceAdd, Nat.reduceMul, Nat.reduceLT, Nat.reduceLeDiff, Nat.reduceEqDiff, ↓reduceIte, ZQ, Bool.true_eq_false, Bool.false_eq_true, Bool.not_true, Bool.not_false]
        refine ih _ hlt ⟨rfl, p1.same (zfr_zsI (fun b hb => ?_)), fun i hi => ?_, ?_, fun u hu2 hbu => ?_⟩
        · rw [zu_ne (fun e => hb (by rw [e]; decide)), zu_ne (fun e => hb (by rw [e]; decide))]
        · dsimp only [zI_zsI]; rw [zu_at, if_neg hi, zu_ne (by decide)]; exact k1 i hi
        · dsimp only [zI_zsI]; rw [zu_at, if_pos rfl, eu]
        · dsimp only [zI_zsI]; rw [zu_ne (by decide), zu_at]
          by_cases e : u = v
          · rw [e, if_pos rfl]
          · have h2 : und a (u + 1) = und a u + 1 := by unfold und; rw [cnt_one hbu]
            have h3 : und a (u + 1) ≤ und a v := cnt_mono v (by omega)
            rw [if_neg (by omega)]; exact q1 u (by omega) hbu
      · have hb' : a.testBit v = false := by simpa using hb
        have eu : und a (v + 1) = und a v := by unfold und; rw [cnt_zero hb']
        simp (disch := omega) only [Nat.not_le.mpr hlt, lb_bit1, eq_false hb, SR (hs1), zl_eq, bsm, ZS, ZT, ZN, ZU, eq_self, true_and, and_true, and_self, or_true, true_or, or_false, false_or, not_true, not_false_eq_true, Nat.reduceAdd, Nat.reduceMul, Nat.reduceLT, Nat.reduceLeDiff, Nat.reduceEqDiff, ↓reduceIte, ZQ, Bool.true_eq_false, Bool.false_eq_true, Bool.not_true, Bool.not_false]
        refine ih _ hlt ⟨rfl, p1, k1, by rw [eu]; exact z1, fun u hu2 hbu => ?_⟩
        by_cases e : u = v
        · rw [e, hb'] at hbu; cases hbu
        · exact q1 u (by omega) hbu
    · have : v = 64 := by omega
      subst this
      simp (disch := omega) only [Nat.le_refl, SR (hs1), zl_eq, bsm, ZS, ZT, ZN, ZU, eq_self, true_and, and_true, and_self, or_true, true_or, or_false, false_or, not_true, not_false_eq_true, Nat.reduceAdd, Nat.reduceMul, Nat.reduceLT, Nat.reduceLeDiff, Nat.reduceEqDiff, ↓reduceIte, ZQ, Bool.true_eq_false, Bool.false_eq_true, Bool.not_true, Bool.not_false]
      exact wp_some ⟨p1, k1, z1, q1⟩
  exact key
