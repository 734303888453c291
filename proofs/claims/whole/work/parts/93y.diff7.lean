/-! CALL: writeDifference: the object, from the search to the word -/
theorem nI_mod32 (a : Nat) (h : ∀ i, i < 32 → a.testBit i = false) : nI a = nI 0 := by
  apply Int32.toBitVec_inj.mp
  show BitVec.ofNat 32 a = BitVec.ofNat 32 0
  apply BitVec.eq_of_getLsbD_eq
  intro i hi
  rw [BitVec.getLsbD_ofNat, BitVec.getLsbD_ofNat, h i hi, Nat.zero_testBit]
theorem inv_of {G : Nat → Nat → Nat} {n : Nat} {c : Nat → Nat} {h0 h : ZH} {q g m : Nat} {cd ar : Nat → Nat} (hI : INVg G n c h0) (f : pF h0 h) (p : pQ q g h) (e : pE q m cd ar h) (s : pS m cd h) (hm : m ≤ 512 * 2 ^ g) (hm2 : m ≤ 65535) : INVg G n c h := by
  obtain ⟨g1, g2, g3, g4, g5, g6, g7, g8⟩ := hI
  have k := f.cut
  have h2 : iG G (hcut h0 h) := g2.fr k (by decide) (by decide)
  have h3 : iIn n c (hcut h0 h) := g3.fr k (by decide) (by decide) (by decide) (by rw [k.I (by decide)])
  have h4 : iH (hcut h0 h) := g4.fr k (by decide) (by decide) (by decide) (by decide) (by decide) (by rw [k.I (by decide)])
  have h5 : iS (hcut h0 h) := g5.fr k (by decide) (by decide) (by decide) (by rw [k.I (by decide)])
  have h6 : iOut (hcut h0 h) := g6.fr k (by decide) (by decide) (by decide) (by rw [k.I (by decide)])
  have h7 : iRow (hcut h0 h) := g7.fr k (by decide) (by decide) (by decide) (by decide) (by decide) (by decide) (by decide)
  obtain ⟨p1, p2, p3, p4, p5, p6, p7, p8⟩ := p
  obtain ⟨e1, e2⟩ := e
  obtain ⟨sw, s1, s2⟩ := s
  refine ⟨f.1, h2, h3, h4, h5, h6, h7, q, g, m, p1, p2, p3, p4, p5, p6, p7, p8, e1, hm, hm2, cd, fun i hi => ⟨ar i, (e2 i hi).1, (e2 i hi).2.1, (e2 i hi).2.2⟩, fun w hw => ?_⟩
  by_cases hex : ∃ i, i < m ∧ cd i / 32 = w
  · exact Or.inr hex
  · left
    rw [s1 w hw]
    refine nI_mod32 _ (fun i hi => ?_)
    cases hb : (sw w).testBit i with
    | false => rfl
    | true =>
      have := (s2 (32 * w + i) (by omega)).mp (by rw [show (32 * w + i) / 32 = w by omega, show (32 * w + i) % 32 = i by omega]; exact hb)
      obtain ⟨j, hj, ej⟩ := this
      exact absurd ⟨j, hj, by omega⟩ hex
theorem St.inv {G : Nat → Nat → Nat} {n : Nat} {c : Nat → Nat} {h0 h : ZH} {M1 M2 : Nat → Nat} {t : Nat} (hI : INVg G n c h0) (s : St M1 M2 h0 t h) (hl : ql M1 M2 t ≤ 65535) : INVg G n c h := by
  obtain ⟨q, g, cd, f, p, e, s, hn, -⟩ := s
  exact inv_of hI f p e s hn hl
/-- the object's search, whole -/
theorem findC {G : Nat → Nat → Nat} {n : Nat} {c : Nat → Nat} {h : ZH} {M1 M2 : Nat → Nat} (hI : INVg G n c h) (a1 : aut 37 M1 h) (a2 : aut 43 M2 h) :
    (dfB (256 * ess M1 + ess M2) = true ∧ ∃ h', fX4_findDifference 51 37 43 h = some (nI 1, h') ∧ INVg G n c h' ∧ zI h' 51 3 = -1) ∨
    (ess M1 = 0 ∧ ess M2 = 0 ∧ ∃ h', fX4_findDifference 51 37 43 h = some (nI 0, h') ∧ INVg G n c h') ∨
    (256 * ess M1 + ess M2 ≠ 0 ∧ dfB (256 * ess M1 + ess M2) = false ∧ ∃ τ r, τ ≤ 4 * 65536 ∧ (∀ t, t < τ → t / 4 < ql M1 M2 t ∧ dfB (nx M1 M2 t) = false) ∧ fX4_findDifference 51 37 43 h = some r ∧ INVg G n c r.2 ∧ FdS M1 M2 h τ r) := by
  have hs := hI.1
  obtain ⟨q, g, m, p1, p2, p3, p4, p5, p6, p7, p8, e1, hm, hm2, cd, pe, pz⟩ := hI.2.2.2.2.2.2.2
  have pq : pQ q g h := ⟨p1, p2, p3, p4, p5, p6, p7, p8⟩
  have : ∃ ar : Nat → Nat, ∀ i, i < m → zJ h q i = lN (cd i + 65536 * ar i) ∧ cd i < 65535 ∧ ar i < 2 ^ 20 := by
    classical
    refine ⟨fun i => if hi : i < m then Classical.choose (pe i hi) else 0, fun i hi => ?_⟩
    dsimp only
    rw [dif_pos hi]
    exact Classical.choose_spec (pe i hi)
  obtain ⟨ar, har⟩ := this
  obtain ⟨h1, ef, f1, z1, z53⟩ := forget_ok hs pq ⟨e1, har⟩ hm pz
  have hs1 := f1.shp hs
  have b1 := ess_lt M1
  have b2 := ess_lt M2
  have au1 : aut 37 M1 h1 := subOK.fr f1 (by decide) (by decide) (by decide) (by decide) (by decide) a1
  have au2 : aut 43 M2 h1 := subOK.fr f1 (by decide) (by decide) (by decide) (by decide) (by decide) a2
  obtain ⟨j1, es1, s1⟩ := start_ok (sub37 hs1) au1 (LL_good M1)
  obtain ⟨j2, es2, s2⟩ := start_ok (sub43 hs1) au2 (LL_good M2)
  have t1 := stt255 s1
  have t2 := stt255 s2
  have f2 : zfr [51] h1 (zsI h1 (zu (zI h1) 51 3 (-1))) := zfr_uI
  have z2 : zI (zsI h1 (zu (zI h1) 51 3 (-1))) 51 1 = nI 0 := by dsimp only [zI_zsI]; rw [zu_at, if_neg (by decide)]; exact z1
  have z3 : zI (zsI h1 (zu (zI h1) 51 3 (-1))) 51 3 = -1 := by dsimp only [zI_zsI]; rw [zu_at, if_pos rfl]
  have z4 : ∀ w, w < 2048 → zI (zsI h1 (zu (zI h1) 51 3 (-1))) 53 w = nI 0 := fun w hw => by dsimp only [zI_zsI]; rw [zu_ne (by decide)]; exact z53 w hw
  have ep : pI h1 4 51 3 (-1) = some (zsI h1 (zu (zI h1) 51 3 (-1))) := (S51 hs1).2.2.2.1 3 (-1)
  generalize zsI h1 (zu (zI h1) 51 3 (-1)) = h2 at f2 z2 z3 z4 ep
  have f12 : zfr [51, 53] h h2 := f1.same (f2.mono (by decide))
  have hs2 := f12.shp hs
  have pF2 : pF h h2 := ⟨hs2, fun b hb => f12.2 b (fun z => hb (by
    simp only [List.mem_cons, List.not_mem_nil, or_false] at z
    rcases z with rfl | rfl <;> decide))⟩
  have pq2 := pq.fr f12
  have pe2 : pE q 0 (fun _ => 0) (fun _ => 0) h2 := ⟨z2, fun i hi => by omega⟩
  have ps2 : pS 0 (fun _ => 0) h2 := ⟨fun _ => 0, z4, fun x hx => by
    rw [Nat.zero_testBit]
    constructor
    · intro z; cases z
    · rintro ⟨i, hi, -⟩; omega⟩
  have ed := isDiff_ok t1.1 t2.1 h2
  have e255 : xor (decide (j1 = 255)) (decide (j2 = 255)) = dfB (256 * ess M1 + ess M2) := by
    unfold dfB
    rw [Nat.mul_add_div (by decide), Nat.div_eq_of_lt b2, Nat.add_zero, Nat.mul_add_mod, Nat.mod_eq_of_lt b2, decide_eq_decide.mpr t1.2, decide_eq_decide.mpr t2.2]
  rw [e255] at ed
  by_cases hd : dfB (256 * ess M1 + ess M2) = true
  · left
    rw [hd, Bool.toNat_true] at ed
    refine ⟨hd, h2, ?_, inv_of hI pF2 pq2 pe2 ps2 (Nat.zero_le _) (Nat.zero_le _), z3⟩
    unfold fX4_findDifference
    simp (disch := omega) only [S51 hs, ef, es1, es2, ep, ed, zl_eq, bsm, ZS, ZT, ZN, ZU, eq_self, true_and, and_true, and_self, or_true, true_or, or_false, false_or, not_true, not_false_eq_true, Nat.reduceAdd, Nat.reduceMul, Nat.reduceLT, Nat.reduceLeDiff, Nat.reduceEqDiff, ↓reduceIte, ZQ, Bool.true_eq_false, Bool.false_eq_true, Bool.not_true, Bool.not_false]
  · have hd' : dfB (256 * ess M1 + ess M2) = false := by simpa using hd
    rw [hd', Bool.toNat_false] at ed
    right
    by_cases hA : 256 * ess M1 + ess M2 = 0
    · left
      have a1z : ess M1 = 0 := by omega
      have a2z : ess M2 = 0 := by omega
      have k1 : j1 = 255 := t1.2.mpr a1z
      have k2 : j2 = 255 := t2.2.mpr a2z
      have en : fX4_note 51 (nI (256 * j1 + j2)) (nI 0) h2 = some h2 := note_old hs2 ps2 (Or.inl (by omega))
      refine ⟨a1z, a2z, h2, ?_, inv_of hI pF2 pq2 pe2 ps2 (Nat.zero_le _) (Nat.zero_le _)⟩
      unfold fX4_findDifference
      simp (disch := omega) only [S51 hs, ef, es1, es2, ep, ed, en, zl_eq, bsm, ZS, ZT, ZN, ZU, eq_self, true_and, and_true, and_self, or_true, true_or, or_false, false_or, not_true, not_false_eq_true, Nat.reduceAdd, Nat.reduceMul, Nat.reduceLT, Nat.reduceLeDiff, Nat.reduceEqDiff, ↓reduceIte, ZQ, Bool.true_eq_false, Bool.false_eq_true, Bool.not_true, Bool.not_false]
      show kX4_findDifference_41 51 37 43 (zloop (lX4_findDifference_41 51 37 43) 99999) (nI 0) h2 = _
      unfold kX4_findDifference_41 bX4_findDifference_158
      simp (disch := omega) only [S51 hs2, z2, Nat.le_refl, zl_eq, bsm, ZS, ZT, ZN, ZU, eq_self, true_and, and_true, and_self, or_true, true_or, or_false, false_or, not_true, not_false_eq_true, Nat.reduceAdd, Nat.reduceMul, Nat.reduceLT, Nat.reduceLeDiff, Nat.reduceEqDiff, ↓reduceIte, ZQ, Bool.true_eq_false, Bool.false_eq_true, Bool.not_true, Bool.not_false]
    · right
      obtain ⟨τ, hτ, hall, hstop⟩ := exStop (M1 := M1) (M2 := M2) hA
      have hr := (dfB_iff (a := ess M1) b2).mp hd'
      have n1 : ess M1 ≠ 0 := fun z => hA (by have := hr.mp z; omega)
      have n2 : ess M2 ≠ 0 := fun z => hA (by have := hr.mpr z; omega)
      have k1 : j1 ≠ 255 := fun z => n1 (t1.2.mp z)
      have k2 : j2 ≠ 255 := fun z => n2 (t2.2.mp z)
      obtain ⟨h3, q3, g3, en, pF3, pq3, pe3, ps3, hl3⟩ := note_new (x := 256 * j1 + j2) (y := 0) pF2 pq2 pe2 ps2 (Nat.zero_le _) (by decide) (by omega) (by decide) (fun i hi => by omega)
      have eb0 : bq (pd M1 M2) (256 * ess M1 + ess M2) 0 = ([256 * ess M1 + ess M2], [0]) := by
        show noteL ([], []) _ 0 = _
        unfold noteL
        rw [if_neg (by rintro (z | z); exact hA z; cases z)]
        rfl
      have eq0 : ql M1 M2 0 = 0 + 1 := by unfold ql; rw [eb0]; rfl
      have st0 : St M1 M2 h 0 h3 := by
        refine ⟨q3, g3, upM (fun _ => 0) 0 (256 * j1 + j2), pF3, pq3, ?_, by rw [eq0]; exact ps3, by rw [eq0]; exact hl3, ?_⟩
        · rw [eq0]
          refine pe3.cong (fun i hi => ⟨rfl, ?_⟩)
          have : i = 0 := by omega
          rw [this, eb0]
          rfl
        · intro i hi
          rw [eb0] at hi ⊢
          have hi' : i < 1 := hi
          have : i = 0 := by omega
          subst this
          refine ⟨j1, j2, rfl, ?_, ?_⟩
          · show stt (LL M1) j1 ((256 * ess M1 + ess M2) / 256)
            rw [Nat.mul_add_div (by decide), Nat.div_eq_of_lt b2, Nat.add_zero]
            exact s1
          · show stt (LL M2) j2 ((256 * ess M1 + ess M2) % 256)
            rw [Nat.mul_add_mod, Nat.mod_eq_of_lt b2]
            exact s2
      obtain ⟨r, er, fr⟩ := loopC hA a1 a2 hτ hall hstop st0
      have hl := bq_len (t := τ) hA (fun s hs => (hall s hs).1)
      refine ⟨hA, hd', τ, r, hτ, hall, ?_, ?_, fr⟩
      · unfold fX4_findDifference
        simp (disch := omega) only [S51 hs, ef, es1, es2, ep, ed, en, zl_eq, bsm, ZS, ZT, ZN, ZU, eq_self, true_and, and_true, and_self, or_true, true_or, or_false, false_or, not_true, not_false_eq_true, Nat.reduceAdd, Nat.reduceMul, Nat.reduceLT, Nat.reduceLeDiff, Nat.reduceEqDiff, ↓reduceIte, ZQ, Bool.true_eq_false, Bool.false_eq_true, Bool.not_true, Bool.not_false]
        exact er
      · rcases fr with ⟨-, -, st⟩ | ⟨-, -, -, st, -⟩
        · exact st.inv hI hl
        · exact st.inv hI hl
