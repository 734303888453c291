/-! CALL: writeDifference: the object's pairs -/
def PA : List Nat := [51, 52, 53, 152, 153, 154, 155, 156, 157, 158, 159]
theorem nb_bitw (a : Nat) {v : Nat} (hv : v < 32) : (jshr (nI a) (nI v)) &&& (nI 1) = nI (a.testBit v).toNat := by
  apply Int32.toBitVec_inj.mp
  rw [Int32.toBitVec_and]
  show (BitVec.ofNat 32 a).sshiftRight ((nI v &&& 31).toBitVec.smod 32).toNat &&& BitVec.ofNat 32 1 = BitVec.ofNat 32 (a.testBit v).toNat
  rw [nb_c v hv]
  apply BitVec.eq_of_getLsbD_eq
  intro i hi
  rw [BitVec.getLsbD_and, BitVec.getLsbD_sshiftRight, BitVec.getLsbD_ofNat, BitVec.getLsbD_ofNat]
  by_cases h0 : i = 0
  · subst h0
    rw [if_pos (by omega), BitVec.getLsbD_ofNat]
    cases a.testBit v <;> simp [hv]
  · have h1 : Nat.testBit 1 i = false := by
      cases hq : Nat.testBit 1 i
      · rfl
      · exact absurd (Nat.testBit_one_eq_true_iff_self_eq_zero.mp hq) h0
    rw [h1]
    cases a.testBit v
    · simp
    · simp [h0]
theorem nb_bitw0 (a : Nat) {v : Nat} (hv : v < 32) : ((jshr (nI a) (nI v)) &&& (nI 1) = 0) = (a.testBit v = false) := by
  rw [nb_bitw a hv]
  apply propext
  cases a.testBit v <;> decide
theorem i65536 : (65536 : Int32) = nI 65536 := by decide
theorem i65535 : (65535 : Int32) = nI 65535 := by decide
theorem l65536 : (65536 : Int64) = lN 65536 := by decide
theorem l65536z : (lN 65536 = 0) = False := by decide
theorem S51 {h : ZH} (hs : Sh h) : (51 < zn h) = True ∧ zK h 51 = 4 ∧ (∀ k, gI h 4 51 k = some (zI h 51 k)) ∧ (∀ k v, pI h 4 51 k v = some (zsI h (zu (zI h) 51 k v))) ∧ gR h 4 51 2 = some 53 ∧ (∀ j, j < 2048 → lI h 14 53 (nI j) = some (zI h 53 j)) ∧ (∀ j v, j < 2048 → sI h 14 53 (nI j) v = some (zsI h (zu (zI h) 53 j v))) := by
  have o := O51 hs
  have a : isA h 14 53 2048 := Aa hs (by decide) (by decide) (by decide)
  refine ⟨eq_true o.1, o.2, fun _ => gI_ok o.1 o.2, fun _ _ => pI_ok o.1 o.2, R51_2 hs, fun j hj => lI_ok a.1 a.2.1 (by rw [a.2.2]; exact hj) (by rw [a.2.2]; decide), fun j v hj => ?_⟩
  rw [sI_ok a.1 a.2.1 (by rw [a.2.2]; exact hj) (by rw [a.2.2]; decide)]
  rfl
/-- the queue, wherever it lies -/
def pQ (q g : Nat) (h : ZH) : Prop := zR h 51 0 = some q ∧ q < zn h ∧ (q = 52 ∨ 152 ≤ q) ∧ zK h q = 15 ∧ zN h q = 512 * 2 ^ g ∧ g ≤ 7 ∧ zn h ≤ 152 + g ∧ zs h ≤ 166924 + 1024 * 2 ^ g
def pE (q n : Nat) (cd ar : Nat → Nat) (h : ZH) : Prop := zI h 51 1 = nI n ∧ ∀ i, i < n → zJ h q i = lN (cd i + 65536 * ar i) ∧ cd i < 65535 ∧ ar i < 2 ^ 20
def pS (n : Nat) (cd : Nat → Nat) (h : ZH) : Prop := ∃ sw : Nat → Nat, (∀ w, w < 2048 → zI h 53 w = nI (sw w)) ∧ ∀ x, x < 65536 → ((sw (x / 32)).testBit (x % 32) = true ↔ ∃ i, i < n ∧ cd i = x)
def pF (h0 h : ZH) : Prop := Sh h ∧ ∀ b, b ∉ PA → zI h b = zI h0 b ∧ zJ h b = zJ h0 b ∧ zF h b = zF h0 b
theorem pow_g {g : Nat} (hg : g ≤ 7) : 512 * 2 ^ g ≤ 65536 := by
  have : 2 ^ g ≤ 2 ^ 7 := Nat.pow_le_pow_right (by decide) hg
  omega
section PQ
variable {h h0 : ZH} {q g n : Nat} {cd ar : Nat → Nat}
theorem pQ.gR (hs : Sh h) (p : pQ q g h) : gR h 4 51 0 = some q := (gR_ok (O51 hs).1 (O51 hs).2).trans p.1
theorem pQ.lJ (p : pQ q g h) {i : Nat} (hi : i < 512 * 2 ^ g) : lJ h q (nI i) = some (zJ h q i) := lJ_ok p.2.1 p.2.2.2.1 (by rw [p.2.2.2.2.1]; exact hi) (by rw [p.2.2.2.2.1]; have := pow_g p.2.2.2.2.2.1; omega)
theorem pQ.sJ (p : pQ q g h) {i : Nat} {v : Int64} (hi : i < 512 * 2 ^ g) : sJ h q (nI i) v = some (zsJ h (zu (zJ h) q i v)) := sJ_ok p.2.1 p.2.2.2.1 (by rw [p.2.2.2.2.1]; exact hi) (by rw [p.2.2.2.2.1]; have := pow_g p.2.2.2.2.2.1; omega)
theorem pQ.len (p : pQ q g h) : zlen h q = some (nI (512 * 2 ^ g)) := by
  rw [zlen_ok p.2.1 (by rw [p.2.2.2.1]; decide), p.2.2.2.2.1]
theorem pQ.in (p : pQ q g h) : q ∈ PA := by
  obtain ⟨-, h2, h3, -, -, h6, h7, -⟩ := p
  unfold PA
  simp only [List.mem_cons, List.not_mem_nil, or_false]
  omega
theorem pQ.fr {A : List Nat} {h' : ZH} (p : pQ q g h) (f : zfr A h h') : pQ q g h' := by
  obtain ⟨⟨f1, f2, f3, f4, f5⟩, -⟩ := f
  unfold pQ
  rw [f1, f2, f3, f4, f5]
  exact p
theorem pairAt_ok (hs : Sh h) (p : pQ q g h) (e : pE q n cd ar h) (hn : n ≤ 512 * 2 ^ g) {i : Nat} (hi : i < n) : fX4_pairAt 51 (nI i) h = some (nI (cd i), h) := by
  have hp := pow_g p.2.2.2.2.2.1
  obtain ⟨e1, e2⟩ := e
  obtain ⟨v1, v2, v3⟩ := e2 i hi
  have r : lN (cd i + 65536 * ar i) &&& (65535 : Int64) = lN (cd i) := by
    rw [show (65535 : Int64) = lN (2 ^ 16 - 1) by decide, lb_and, Nat.and_two_pow_sub_one_eq_mod]
    congr 1
    omega
  unfold fX4_pairAt bX4_pairAt_26 bX4_pairAt_47
  simp (disch := omega) only [S51 hs, e1, Nat.not_le.mpr hi, p.gR hs, p.len, show ¬ (512 * 2 ^ g ≤ i) by omega, p.lJ (show i < 512 * 2 ^ g by omega), v1, r, l32N, zl_eq, bsm, ZS, ZT, ZN, ZU, eq_self, true_and, and_true, and_self, or_true, true_or, or_false, false_or, not_true, not_false_eq_true, Nat.reduceAdd, Nat.reduceMul, Nat.reduceLT, Nat.reduceLeDiff, Nat.reduceEqDiff, ↓reduceIte, ZQ, Bool.true_eq_false, Bool.false_eq_true, Bool.not_true, Bool.not_false]
theorem arrAt_ok (hs : Sh h) (p : pQ q g h) (e : pE q n cd ar h) (hn : n ≤ 512 * 2 ^ g) {i : Nat} (hi : i < n) : fX4_arrivalAt 51 (nI i) h = some (if i = 0 then -1 else nI (ar i), h) := by
  have hp := pow_g p.2.2.2.2.2.1
  obtain ⟨e1, e2⟩ := e
  obtain ⟨v1, v2, v3⟩ := e2 i hi
  have r : lN (cd i + 65536 * ar i) / lN 65536 = lN (ar i) := by
    rw [pk_lDiv (by omega) (by decide) (by decide)]
    congr 1
    omega
  unfold fX4_arrivalAt bX4_arrivalAt_25 bX4_arrivalAt_26 bX4_arrivalAt_46
  by_cases h0 : i = 0
  · subst h0
    simp (disch := omega) only [S51 hs, zl_eq, bsm, ZS, ZT, ZN, ZU, eq_self, true_and, and_true, and_self, or_true, true_or, or_false, false_or, not_true, not_false_eq_true, Nat.reduceAdd, Nat.reduceMul, Nat.reduceLT, Nat.reduceLeDiff, Nat.reduceEqDiff, ↓reduceIte, ZQ, Bool.true_eq_false, Bool.false_eq_true, Bool.not_true, Bool.not_false]
  · simp (disch := omega) only [S51 hs, eq_false h0, e1, Nat.not_le.mpr hi, p.gR hs, p.len, show ¬ (512 * 2 ^ g ≤ i) by omega, p.lJ (show i < 512 * 2 ^ g by omega), v1, l65536z, l65536, r, l32N, zl_eq, bsm, ZS, ZT, ZN, ZU, eq_self, true_and, and_true, and_self, or_true, true_or, or_false, false_or, not_true, not_false_eq_true, Nat.reduceAdd, Nat.reduceMul, Nat.reduceLT, Nat.reduceLeDiff, Nat.reduceEqDiff, ↓reduceIte, ZQ, Bool.true_eq_false, Bool.false_eq_true, Bool.not_true, Bool.not_false]
theorem forget_ok (hs : Sh h) (p : pQ q g h) (e : pE q n cd ar h) (hn : n ≤ 512 * 2 ^ g) (hz : ∀ w, w < 2048 → (zI h 53 w = nI 0 ∨ ∃ i, i < n ∧ cd i / 32 = w)) : ∃ h', fX4_forget 51 h = some h' ∧ zfr [51, 53] h h' ∧ zI h' 51 1 = nI 0 ∧ ∀ w, w < 2048 → zI h' 53 w = nI 0 := by
  have key : wp (fX4_forget 51 h) (fun h' => zfr [51, 53] h h' ∧ zI h' 51 1 = nI 0 ∧ ∀ w, w < 2048 → zI h' 53 w = nI 0) := by
    have hp := pow_g p.2.2.2.2.2.1
    unfold fX4_forget
    simp (disch := omega) only [S51 hs, zl_eq, bsm, ZS, ZT, ZN, ZU, eq_self, true_and, and_true, and_self, or_true, true_or, or_false, false_or, not_true, not_false_eq_true, Nat.reduceAdd, Nat.reduceMul, Nat.reduceLT, Nat.reduceLeDiff, Nat.reduceEqDiff, ↓reduceIte, ZQ, Bool.true_eq_false, Bool.false_eq_true, Bool.not_true, Bool.not_false]
    refine wloop (fun j y => y.1 = nI j ∧ zfr [53] h y.2 ∧ ∀ w, w < 2048 → (zI y.2 53 w = nI 0 ∨ ∃ i, j ≤ i ∧ i < n ∧ cd i / 32 = w)) n (fun j y self hj hy ih => ?_) (show n < 100000 by omega) ⟨rfl, zfr.refl h, fun w hw => by
      rcases hz w hw with q | ⟨i, a, b⟩
      · exact Or.inl q
      · exact Or.inr ⟨i, Nat.zero_le _, a, b⟩⟩
    obtain ⟨y, h1⟩ := y
    obtain ⟨rfl, p1, q1⟩ := hy
    dsimp only at p1 q1
    have hs1 := p1.shp hs
    have e1 : pE q n cd ar h1 := ⟨by rw [p1.I (by decide)]; exact e.1, fun i hi => by
      have : q ∉ [53] := by
        have := p.2.2.1
        rw [List.mem_singleton]
        omega
      rw [p1.J this]
      exact e.2 i hi⟩
    have pq1 := p.fr p1
    show wp (kX4_forget_2 51 self (nI j) h1) _
    unfold kX4_forget_2
    by_cases hlt : j < n
    · have hc := (e.2 j hlt).2.1
      simp (disch := omega) only [S51 hs1, e1.1, Nat.not_le.mpr hlt, pairAt_ok hs1 pq1 e1 hn hlt, zl_eq, bsm, ZS, ZT, ZN, ZU, eq_self, true_and, and_true, and_self, or_true, true_or, or_false, false_or, not_true, not_false_eq_true, Nat.reduceAdd, Nat.reduceMul, Nat.reduceLT, Nat.reduceLeDiff, Nat.reduceEqDiff, ↓reduceIte, ZQ, Bool.true_eq_false, Bool.false_eq_true, Bool.not_true, Bool.not_false]
      refine ih _ hlt ⟨rfl, p1.same zfr_uI, fun w hw => ?_⟩
      dsimp only [zI_zsI]
      rw [zu_at]
      by_cases ew : w = cd j / 32
      · rw [if_pos ew]; exact Or.inl rfl
      · rw [if_neg ew]
        rcases q1 w hw with z | ⟨i, a, b, c⟩
        · exact Or.inl z
        · refine Or.inr ⟨i, ?_, b, c⟩
          have : i ≠ j := fun z => ew (by rw [← c, z])
          omega
    · have : j = n := by omega
      subst this
      simp (disch := omega) only [S51 hs1, e1.1, Nat.le_refl, zl_eq, bsm, ZS, ZT, ZN, ZU, eq_self, true_and, and_true, and_self, or_true, true_or, or_false, false_or, not_true, not_false_eq_true, Nat.reduceAdd, Nat.reduceMul, Nat.reduceLT, Nat.reduceLeDiff, Nat.reduceEqDiff, ↓reduceIte, ZQ, Bool.true_eq_false, Bool.false_eq_true, Bool.not_true, Bool.not_false]
      refine wp_some ⟨(p1.mono (by decide)).same (zfr_uI.mono (by decide)), by dsimp only [zI_zsI]; rw [zu_at, if_pos rfl], fun w hw => ?_⟩
      dsimp only [zI_zsI]
      rw [zu_ne (by decide)]
      rcases q1 w hw with z | ⟨i, a, b, c⟩
      · exact z
      · omega
  obtain ⟨h', e, q⟩ := key
  exact ⟨h', e, q⟩
end PQ
