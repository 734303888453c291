/-! CALL: writeDifference: a pair is noted, the queue may grow -/
section GR
variable {h h0 : ZH} {q g n : Nat} {cd ar : Nat → Nat}
theorem grow_ok (hs : Sh h) (p : pQ q g h) (hg : g ≤ 6) : ∃ hA h1, fJ7_copyOf_c38d5 q (nI (2 * (512 * 2 ^ g))) h = some (zn h, hA) ∧ pR hA 4 51 0 (zn h) = some h1 ∧ Sh h1 ∧ pQ (zn h) (g + 1) h1 ∧ (∀ b, b ∉ PA → zI h1 b = zI h b ∧ zJ h1 b = zJ h b ∧ zF h1 b = zF h b) ∧ zI h1 51 = zI h 51 ∧ zI h1 53 = zI h 53 ∧ ∀ i, i < 512 * 2 ^ g → zJ h1 (zn h) i = zJ h q i := by
  obtain ⟨p1, p2, p3, p4, p5, p6, p7, p8⟩ := id p
  have hp := pow_g p6
  have h2g : 2 ^ (g + 1) = 2 * 2 ^ g := by rw [Nat.pow_succ, Nat.mul_comm]
  have hpos : 0 < 2 ^ g := Nat.pow_pos (by decide)
  have hz : 152 ≤ zn h := hs.1
  have hq : q ≠ zn h := by omega
  have hlen := p.len
  have hle6 : 2 ^ g ≤ 2 ^ 6 := Nat.pow_le_pow_right (by decide) hg
  refine ⟨zsJ (znew h 15 (2 * (512 * 2 ^ g))) (zrow (zJ (znew h 15 (2 * (512 * 2 ^ g)))) (zn h) (va_cpy (zJ (znew h 15 (2 * (512 * 2 ^ g))) q) (zJ (znew h 15 (2 * (512 * 2 ^ g))) (zn h)) 0 0 (512 * 2 ^ g))), zsR (zsJ (znew h 15 (2 * (512 * 2 ^ g))) (zrow (zJ (znew h 15 (2 * (512 * 2 ^ g)))) (zn h) (va_cpy (zJ (znew h 15 (2 * (512 * 2 ^ g))) q) (zJ (znew h 15 (2 * (512 * 2 ^ g))) (zn h)) 0 0 (512 * 2 ^ g)))) (zu (zrow (zR h) (zn h) (fun _ => none)) 51 0 (some (zn h))), ?_, ?_, ?_, ?_, ?_, ?_, ?_, ?_⟩
  · unfold fJ7_copyOf_c38d5
    have e1 : zala h 15 (nI (2 * (512 * 2 ^ g))) = some (zn h, znew h 15 (2 * (512 * 2 ^ g))) := by
      unfold zala
      rw [nI_clamp (by omega), if_neg]
      rintro (z | z)
      · rw [nlt0 (by omega)] at z
        exact z
      · omega
    have e2 : zlen (znew h 15 (2 * (512 * 2 ^ g))) q = some (nI (512 * 2 ^ g)) := by
      have a1 : zK (znew h 15 (2 * (512 * 2 ^ g))) q = 15 := by
        show va_up (zK h) (zn h) 15 q = 15
        unfold va_up
        rw [if_neg hq]
        exact p4
      have a2 : zN (znew h 15 (2 * (512 * 2 ^ g))) q = 512 * 2 ^ g := by
        show va_up (zN h) (zn h) _ q = _
        unfold va_up
        rw [if_neg hq]
        exact p5
      rw [zlen_ok (show q < zn h + 1 by omega) (by rw [a1]; decide), a2]
    have e3 : jmmin (nI (512 * 2 ^ g)) (nI (2 * (512 * 2 ^ g))) = nI (512 * 2 ^ g) := by
      rw [jmmin_ok (by omega) (by omega), Nat.min_eq_left (by omega)]
    have e4 : zcpJ (znew h 15 (2 * (512 * 2 ^ g))) q (zn h) (nI 0) (nI 0) (nI (512 * 2 ^ g)) = some (zsJ (znew h 15 (2 * (512 * 2 ^ g))) (zrow (zJ (znew h 15 (2 * (512 * 2 ^ g)))) (zn h) (va_cpy (zJ (znew h 15 (2 * (512 * 2 ^ g))) q) (zJ (znew h 15 (2 * (512 * 2 ^ g))) (zn h)) 0 0 (512 * 2 ^ g)))) := by
      unfold zcpJ
      have c0 : (nI 0).toNatClampNeg = 0 := nI_clamp (by decide)
      have c1 : (nI (512 * 2 ^ g)).toNatClampNeg = 512 * 2 ^ g := nI_clamp (by omega)
      rw [c0, c1, if_pos]
      refine ⟨⟨⟨show q < zn h + 1 by omega, ?_⟩, show zn h < zn h + 1 by omega, ?_⟩, ⟨by decide, by decide, ?_⟩, ?_, ?_⟩
      · show va_up (zK h) (zn h) 15 q = 15
        unfold va_up
        rw [if_neg hq]
        exact p4
      · show va_up (zK h) (zn h) 15 (zn h) = 15
        unfold va_up
        rw [if_pos rfl]
      · rw [nlt0 (by omega)]
        exact fun z => z
      · show 0 + 512 * 2 ^ g ≤ va_up (zN h) (zn h) _ q
        unfold va_up
        rw [if_neg hq, p5]
        omega
      · show 0 + 512 * 2 ^ g ≤ va_up (zN h) (zn h) _ (zn h)
        unfold va_up
        rw [if_pos rfl]
        omega
    have hne : ¬ (nI (2 * (512 * 2 ^ g)) = nI (512 * 2 ^ g)) := by
      rw [nI_eq (by omega) (by omega)]
      omega
    rw [hlen, bsm, if_neg hne, e1, bsm, e2, bsm, e3, e4, bsm]
  · unfold pR
    rw [if_pos]
    · rfl
    · refine ⟨show 51 < zn h + 1 by omega, ?_⟩
      show va_up (zK h) (zn h) 15 51 = 4
      unfold va_up
      rw [if_neg (by omega)]
      exact (O51 hs).2
  · refine ⟨show 152 ≤ zn h + 1 by omega, fun a ha => ?_, fun a ha k hk hne => ?_⟩
    · show va_up (zK h) (zn h) 15 a = _ ∧ va_up (zN h) (zn h) _ a = _
      unfold va_up
      rw [if_neg (by omega), if_neg (by omega)]
      exact hs.2.1 a ha
    · show zu (zrow (zR h) (zn h) (fun _ => none)) 51 0 (some (zn h)) a k = _
      unfold zu zrow
      rw [if_neg hne, if_neg (by omega)]
      exact hs.2.2 a ha k hk hne
  · refine ⟨?_, show zn h < zn h + 1 by omega, Or.inr hz, ?_, ?_, by omega, show zn h + 1 ≤ 152 + (g + 1) by omega, show zs h + 2 * (512 * 2 ^ g) ≤ _ by omega⟩
    · show zu (zrow (zR h) (zn h) (fun _ => none)) 51 0 (some (zn h)) 51 0 = _
      unfold zu
      rw [if_pos ⟨rfl, rfl⟩]
    · show va_up (zK h) (zn h) 15 (zn h) = 15
      unfold va_up
      rw [if_pos rfl]
    · show va_up (zN h) (zn h) _ (zn h) = _
      unfold va_up
      rw [if_pos rfl]
      omega
  · intro b hb
    have hbn : b ≠ zn h := fun z => hb (by
      rw [z]
      unfold PA
      simp only [List.mem_cons, List.not_mem_nil, or_false]
      omega)
    refine ⟨?_, ?_, ?_⟩
    · exact zrow_ne hbn
    · show zrow (zrow (zJ h) (zn h) _) (zn h) _ b = _
      rw [zrow_ne hbn, zrow_ne hbn]
    · exact zrow_ne hbn
  · exact zrow_ne (by omega)
  · exact zrow_ne (by omega)
  · intro i hi
    show zrow (zJ (znew h 15 (2 * (512 * 2 ^ g)))) (zn h) (va_cpy (zJ (znew h 15 (2 * (512 * 2 ^ g))) q) (zJ (znew h 15 (2 * (512 * 2 ^ g))) (zn h)) 0 0 (512 * 2 ^ g)) (zn h) i = _
    rw [zrow_eq]
    unfold va_cpy
    rw [if_pos ⟨Nat.zero_le i, by omega⟩, Nat.sub_zero, Nat.zero_add]
    show zrow (zJ h) (zn h) (fun _ => 0) q i = _
    rw [zrow_ne hq]
theorem makeRoom_no (hs : Sh h) (p : pQ q g h) (e1 : zI h 51 1 = nI n) (hn : n < 512 * 2 ^ g) : fX4_makeRoom 51 h = some h := by
  have hp := pow_g p.2.2.2.2.2.1
  unfold fX4_makeRoom bX4_makeRoom_40
  simp (disch := omega) only [S51 hs, e1, p.gR hs, p.len, eq_true hn, zl_eq, bsm, ZS, ZT, ZN, ZU, eq_self, true_and, and_true, and_self, or_true, true_or, or_false, false_or, not_true, not_false_eq_true, Nat.reduceAdd, Nat.reduceMul, Nat.reduceLT, Nat.reduceLeDiff, Nat.reduceEqDiff, ↓reduceIte, ZQ, Bool.true_eq_false, Bool.false_eq_true, Bool.not_true, Bool.not_false]
theorem makeRoom_yes (hs : Sh h) (p : pQ q g h) (e1 : zI h 51 1 = nI n) (hg : g ≤ 6) (hn : n = 512 * 2 ^ g) {hA h1 : ZH} (c1 : fJ7_copyOf_c38d5 q (nI (2 * (512 * 2 ^ g))) h = some (zn h, hA)) (c2 : pR hA 4 51 0 (zn h) = some h1) : fX4_makeRoom 51 h = some h1 := by
  have hp := pow_g p.2.2.2.2.2.1
  have hle6 : 2 ^ g ≤ 2 ^ 6 := Nat.pow_le_pow_right (by decide) hg
  have hl := p.len
  rw [← hn] at c1 hl hp
  unfold fX4_makeRoom bX4_makeRoom_40
  simp (disch := omega) only [S51 hs, e1, p.gR hs, hl, Nat.lt_irrefl, i65536, show ¬ (65536 ≤ n) by omega, c1, c2, zl_eq, bsm, ZS, ZT, ZN, ZU, eq_self, true_and, and_true, and_self, or_true, true_or, or_false, false_or, not_true, not_false_eq_true, Nat.reduceAdd, Nat.reduceMul, Nat.reduceLT, Nat.reduceLeDiff, Nat.reduceEqDiff, ↓reduceIte, ZQ, Bool.true_eq_false, Bool.false_eq_true, Bool.not_true, Bool.not_false]
theorem note59 (hs : Sh h) (p : pQ q g h) (e : pE q n cd ar h) (s : pS n cd h) (hn : n < 512 * 2 ^ g) {x y : Nat} (hx : x < 65535) (hy : y < 2 ^ 20) (hnew : ∀ i, i < n → cd i ≠ x) : ∃ h', (∀ ha, Sh ha → pS n cd ha → fX4_makeRoom 51 ha = some h → fX4_note 51 (nI x) (nI y) ha = some h') ∧ zfr [51, 53, q] h h' ∧ pE q (n + 1) (upM cd n x) (upM ar n y) h' ∧ pS (n + 1) (upM cd n x) h' := by
  have hp := pow_g p.2.2.2.2.2.1
  have hq := p.2.2.1
  obtain ⟨e1, e2⟩ := e
  obtain ⟨sw, s1, s2⟩ := s
  have w1 := s1 (x / 32) (by omega)
  have hx32 : x % 32 < 32 := Nat.mod_lt _ (by decide)
  -- the three writes
  have pa : zfr [51, 53, q] h (zsI h (zu (zI h) 53 (x / 32) (nI (sw (x / 32) ||| 2 ^ (x % 32))))) := zfr_uI.mono (by intro b hb; rw [List.mem_singleton] at hb; rw [hb]; exact List.mem_cons_of_mem _ (List.mem_cons_self))
  have va : ∀ w, zI (zsI h (zu (zI h) 53 (x / 32) (nI (sw (x / 32) ||| 2 ^ (x % 32))))) 53 w = if w = x / 32 then nI (sw (x / 32) ||| 2 ^ (x % 32)) else zI h 53 w := fun w => by
    dsimp only [zI_zsI]
    rw [zu_at]
  have va1 : zI (zsI h (zu (zI h) 53 (x / 32) (nI (sw (x / 32) ||| 2 ^ (x % 32))))) 51 = zI h 51 := by
    dsimp only [zI_zsI]
    rw [zu_ne (by decide)]
  have vaJ : zJ (zsI h (zu (zI h) 53 (x / 32) (nI (sw (x / 32) ||| 2 ^ (x % 32))))) = zJ h := rfl
  have es : sI h 14 53 (nI (x / 32)) (nI (sw (x / 32) ||| 2 ^ (x % 32))) = some (zsI h (zu (zI h) 53 (x / 32) (nI (sw (x / 32) ||| 2 ^ (x % 32))))) := (S51 hs).2.2.2.2.2.2 _ _ (by omega)
  generalize zsI h (zu (zI h) 53 (x / 32) (nI (sw (x / 32) ||| 2 ^ (x % 32)))) = h1 at pa va va1 vaJ es
  have hs1 := pa.shp hs
  have pq1 := p.fr pa
  have pb : zfr [51, 53, q] h1 (zsJ h1 (zu (zJ h1) q n (lN (x + 65536 * y)))) := zfr_uJ.mono (by intro b hb; rw [List.mem_singleton] at hb; rw [hb]; exact List.mem_cons_of_mem _ (List.mem_cons_of_mem _ (List.mem_cons_self)))
  have vb : ∀ i, zJ (zsJ h1 (zu (zJ h1) q n (lN (x + 65536 * y)))) q i = if i = n then lN (x + 65536 * y) else zJ h1 q i := fun i => by
    dsimp only [zJ_zsJ]
    rw [zu_at]
  have vbI : zI (zsJ h1 (zu (zJ h1) q n (lN (x + 65536 * y)))) = zI h1 := rfl
  have esJ : sJ h1 q (nI n) (lN (x + 65536 * y)) = some (zsJ h1 (zu (zJ h1) q n (lN (x + 65536 * y)))) := pq1.sJ hn
  generalize zsJ h1 (zu (zJ h1) q n (lN (x + 65536 * y))) = h2 at pb vb vbI esJ
  have hs2 := pb.shp hs1
  refine ⟨zsI h2 (zu (zI h2) 51 1 (nI (n + 1))), ?_, (pa.same pb).same (zfr_uI.mono (by intro b hb; rw [List.mem_singleton] at hb; rw [hb]; exact List.mem_cons_self)), ⟨?_, fun i hi => ?_⟩, fun w => if w = x / 32 then sw (x / 32) ||| 2 ^ (x % 32) else sw w, fun w hw => ?_, fun z hz => ?_⟩
  · intro ha hsa ⟨sa, a1, a2⟩ em
    have wa := a1 (x / 32) (by omega)
    have hb : (sa (x / 32)).testBit (x % 32) = false := by
      cases q1 : (sa (x / 32)).testBit (x % 32) with
      | false => rfl
      | true =>
        obtain ⟨i, hi, ei⟩ := (a2 x (by omega)).mp q1
        exact absurd ei (hnew i hi)
    unfold fX4_note bX4_note_99
    have f1 : zI h1 51 1 = nI n := by rw [va1]; exact e1
    have f2 : zI h2 51 1 = nI n := by rw [vbI]; exact f1
    simp (disch := omega) only [S51 hsa, i65535, Nat.not_le.mpr hx, wa, nb_bitw0 _ hx32, hb, em, zl_eq, bsm, ZS, ZT, ZN, ZU, eq_self, true_and, and_true, and_self, or_true, true_or, or_false, false_or, not_true, not_false_eq_true, Nat.reduceAdd, Nat.reduceMul, Nat.reduceLT, Nat.reduceLeDiff, Nat.reduceEqDiff, ↓reduceIte, ZQ, Bool.true_eq_false, Bool.false_eq_true, Bool.not_true, Bool.not_false]
    simp (disch := omega) only [(S51 hs).1, (S51 hs).2.1, (S51 hs).2.2.1, (S51 hs).2.2.2.2.1, (S51 hs).2.2.2.2.2.1, e1, p.gR hs, p.len, Nat.not_le.mpr hn, w1, es, zl_eq, bsm, ZS, ZT, ZN, ZU, eq_self, true_and, and_true, and_self, or_true, true_or, or_false, false_or, not_true, not_false_eq_true, Nat.reduceAdd, Nat.reduceMul, Nat.reduceLT, Nat.reduceLeDiff, Nat.reduceEqDiff, ↓reduceIte, ZQ, Bool.true_eq_false, Bool.false_eq_true, Bool.not_true, Bool.not_false]
    simp (disch := omega) only [S51 hs1, pq1.gR hs1, f1, nI_l (show x < 2 ^ 31 by omega), nI_l (show y < 2 ^ 31 by omega), l65536, lN_mul, lN_add, esJ, zl_eq, bsm, ZS, ZT, ZN, ZU, eq_self, true_and, and_true, and_self, or_true, true_or, or_false, false_or, not_true, not_false_eq_true, Nat.reduceAdd, Nat.reduceMul, Nat.reduceLT, Nat.reduceLeDiff, Nat.reduceEqDiff, ↓reduceIte, ZQ, Bool.true_eq_false, Bool.false_eq_true, Bool.not_true, Bool.not_false]
    simp (disch := omega) only [S51 hs2, f2, zl_eq, bsm, ZS, ZT, ZN, ZU, eq_self, true_and, and_true, and_self, or_true, true_or, or_false, false_or, not_true, not_false_eq_true, Nat.reduceAdd, Nat.reduceMul, Nat.reduceLT, Nat.reduceLeDiff, Nat.reduceEqDiff, ↓reduceIte, ZQ, Bool.true_eq_false, Bool.false_eq_true, Bool.not_true, Bool.not_false]
  · dsimp only [zI_zsI]
    rw [zu_at, if_pos rfl]
  · show zJ h2 q i = _ ∧ _
    rw [vb i, vaJ]
    unfold upM
    by_cases z : i = n
    · rw [if_pos z, if_pos z, if_pos z]
      exact ⟨rfl, hx, hy⟩
    · rw [if_neg z, if_neg z, if_neg z]
      exact e2 i (by omega)
  · dsimp only [zI_zsI]
    rw [zu_ne (by decide), vbI, va w]
    by_cases z : w = x / 32
    · rw [if_pos z, if_pos z]
    · rw [if_neg z, if_neg z]; exact s1 w hw
  · dsimp only
    by_cases zw : z / 32 = x / 32
    · rw [if_pos zw, Nat.testBit_or, Nat.testBit_two_pow, ← zw, Bool.or_eq_true, s2 z hz]
      constructor
      · rintro (⟨i, hi, ei⟩ | hh)
        · refine ⟨i, by omega, ?_⟩
          unfold upM
          rw [if_neg (by omega)]
          exact ei
        · have := of_decide_eq_true hh
          refine ⟨n, by omega, ?_⟩
          unfold upM
          rw [if_pos rfl]
          omega
      · rintro ⟨i, hi, ei⟩
        unfold upM at ei
        by_cases q1 : i = n
        · rw [if_pos q1] at ei
          exact Or.inr (decide_eq_true (by rw [ei]))
        · rw [if_neg q1] at ei
          exact Or.inl ⟨i, by omega, ei⟩
    · rw [if_neg zw, s2 z hz]
      constructor
      · rintro ⟨i, hi, ei⟩
        refine ⟨i, by omega, ?_⟩
        unfold upM
        rw [if_neg (by omega)]
        exact ei
      · rintro ⟨i, hi, ei⟩
        unfold upM at ei
        by_cases q1 : i = n
        · rw [if_pos q1] at ei
          exact absurd (by rw [ei]) zw
        · rw [if_neg q1] at ei
          exact ⟨i, by omega, ei⟩
theorem pF.next {h' : ZH} {A : List Nat} (f : pF h0 h) (p : zfr A h h') (hA : ∀ b, b ∈ A → b ∈ PA) : pF h0 h' := by
  refine ⟨p.shp f.1, fun b hb => ?_⟩
  have hn : b ∉ A := fun z => hb (hA b z)
  obtain ⟨p1, p2, p3⟩ := p.2 b hn
  rw [p1, p2, p3]
  exact f.2 b hb
theorem note_new (f : pF h0 h) (p : pQ q g h) (e : pE q n cd ar h) (s : pS n cd h) (hn : n ≤ 512 * 2 ^ g) (hn2 : n < 65535) {x y : Nat} (hx : x < 65535) (hy : y < 2 ^ 20) (hnew : ∀ i, i < n → cd i ≠ x) : ∃ h' q' g', fX4_note 51 (nI x) (nI y) h = some h' ∧ pF h0 h' ∧ pQ q' g' h' ∧ pE q' (n + 1) (upM cd n x) (upM ar n y) h' ∧ pS (n + 1) (upM cd n x) h' ∧ n + 1 ≤ 512 * 2 ^ g' := by
  have hs := f.1
  have hp := pow_g p.2.2.2.2.2.1
  have inA : ∀ b, b ∈ [51, 53, q] → b ∈ PA := by
    intro b hb
    simp only [List.mem_cons, List.not_mem_nil, or_false] at hb
    rcases hb with rfl | rfl | rfl
    · decide
    · decide
    · exact p.in
  have hx32 : x % 32 < 32 := Nat.mod_lt _ (by decide)
  by_cases hfull : n = 512 * 2 ^ g
  · have hg : g ≤ 6 := by
      apply Classical.byContradiction
      intro q1
      have : g = 7 := by have := p.2.2.2.2.2.1; omega
      rw [this] at hfull
      omega
    obtain ⟨hA, h1, c1, c2, sh1, pq1, fr1, i51, i53, cp⟩ := grow_ok hs p hg
    have e1 : pE (zn h) n cd ar h1 := ⟨by rw [i51]; exact e.1, fun i hi => by rw [cp i (by omega)]; exact e.2 i hi⟩
    have ss1 : pS n cd h1 := by
      obtain ⟨sw, s1, s2⟩ := s
      exact ⟨sw, fun w hw => by rw [i53]; exact s1 w hw, s2⟩
    have f1 : pF h0 h1 := ⟨sh1, fun b hb => by
      obtain ⟨a1, a2, a3⟩ := fr1 b hb
      rw [a1, a2, a3]
      exact f.2 b hb⟩
    have hgr : 2 ^ (g + 1) = 2 * 2 ^ g := by rw [Nat.pow_succ, Nat.mul_comm]
    have hpos : 0 < 2 ^ g := Nat.pow_pos (by decide)
    obtain ⟨h2, e2, p2, pe2, ps2⟩ := note59 sh1 pq1 e1 ss1 (by omega) hx hy hnew
    refine ⟨h2, zn h, g + 1, e2 h hs s (makeRoom_yes hs p e.1 hg hfull c1 c2), f1.next p2 ?_, pq1.fr p2, pe2, ps2, by omega⟩
    · intro b hb
      simp only [List.mem_cons, List.not_mem_nil, or_false] at hb
      rcases hb with rfl | rfl | rfl
      · decide
      · decide
      · exact pq1.in
  · obtain ⟨h2, e2, p2, pe2, ps2⟩ := note59 hs p e s (by omega) hx hy hnew
    exact ⟨h2, q, g, e2 h hs s (makeRoom_no hs p e.1 (by omega)), f.next p2 inA, p.fr p2, pe2, ps2, by omega⟩
theorem note_old (hs : Sh h) (s : pS n cd h) {x y : Nat} (hx : x = 65535 ∨ (x < 65535 ∧ ∃ i, i < n ∧ cd i = x)) : fX4_note 51 (nI x) (nI y) h = some h := by
  obtain ⟨sw, s1, s2⟩ := s
  unfold fX4_note bX4_note_29
  rcases hx with rfl | ⟨h1, h2⟩
  · simp (disch := omega) only [S51 hs, i65535, Nat.le_refl, zl_eq, bsm, ZS, ZT, ZN, ZU, eq_self, true_and, and_true, and_self, or_true, true_or, or_false, false_or, not_true, not_false_eq_true, Nat.reduceAdd, Nat.reduceMul, Nat.reduceLT, Nat.reduceLeDiff, Nat.reduceEqDiff, ↓reduceIte, ZQ, Bool.true_eq_false, Bool.false_eq_true, Bool.not_true, Bool.not_false]
  · have w1 := s1 (x / 32) (by omega)
    have hb := (s2 x (by omega)).mpr h2
    have hx32 : x % 32 < 32 := Nat.mod_lt _ (by decide)
    simp (disch := omega) only [S51 hs, i65535, Nat.not_le.mpr h1, w1, nb_bitw0 _ hx32, hb, zl_eq, bsm, ZS, ZT, ZN, ZU, eq_self, true_and, and_true, and_self, or_true, true_or, or_false, false_or, not_true, not_false_eq_true, Nat.reduceAdd, Nat.reduceMul, Nat.reduceLT, Nat.reduceLeDiff, Nat.reduceEqDiff, ↓reduceIte, ZQ, Bool.true_eq_false, Bool.false_eq_true, Bool.not_true, Bool.not_false]
end GR
