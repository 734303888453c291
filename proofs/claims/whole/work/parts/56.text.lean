/-! TEXTS: the buffers; feed, output -/
def isT (h : ZH) (x a cap : Nat) : Prop := (x < zn h ∧ zK h x = 7 ∧ zR h x 0 = some a) ∧ isA h 12 a cap
theorem T26 {h : ZH} (hs : Sh h) : isT h 26 27 120 := ⟨⟨(O26 hs).1, (O26 hs).2, Rr hs (by decide) (by decide) (by decide) (by decide)⟩, A27 hs⟩
theorem T28 {h : ZH} (hs : Sh h) : isT h 28 29 1024 := ⟨⟨(O28 hs).1, (O28 hs).2, Rr hs (by decide) (by decide) (by decide) (by decide)⟩, A29 hs⟩
theorem ji2c_ok {c : Nat} (hc : c < 65536) : ji2c (nI c) = nI c := by
  unfold ji2c
  rw [pk_char, pk_tn (by omega), Nat.mod_eq_of_lt hc]
theorem zvn12 {c : Nat} (hc : c < 65536) : zvn 12 (nI c) = nI c := by
  unfold zvn
  rw [if_pos rfl]
  have := (pk_charN hc).1
  unfold vp_nar
  rw [this]
theorem zvn16 {c : Nat} (hc : c < 2) : zvn 16 (nI c) = nI c := by
  rcases (show c = 0 ∨ c = 1 by omega) with rfl | rfl <;> decide
section TX
variable {h : ZH} {x a cap n : Nat}
theorem add_ok (t : isT h x a cap) (hxa : x ≠ a) (hn : n < cap) (hc : cap < 2 ^ 31) (e : zI h x 1 = nI n) {ch : Nat} (hch : ch < 65536) : fX7_add x (nI ch) h = some (nI 1, zsI h (zu (zu (zI h) a n (nI ch)) x 1 (nI (n + 1)))) := by
  have k1 : gI h 7 x 1 = some (nI n) := (gI_ok t.1.1 t.1.2.1).trans (congrArg some e)
  have k2 : gR h 7 x 0 = some a := (gR_ok t.1.1 t.1.2.1).trans t.1.2.2
  have k3 : zlen h a = some (nI cap) := by rw [zlen_ok t.2.1 (by rw [t.2.2.1]; decide), t.2.2.2]
  have k4 : sI h 12 a (nI n) (nI ch) = some (zsI h (zu (zI h) a n (nI ch))) := by rw [t.2.sI hn hc, zvn12 hch]
  have k5 : gI (zsI h (zu (zI h) a n (nI ch))) 7 x 1 = some (nI n) := by
    rw [gI_zsI, k1, Option.bind_some, zu_ne hxa, e]
  have k6 : pI (zsI h (zu (zI h) a n (nI ch))) 7 x 1 (nI (n + 1)) = some (zsI h (zu (zu (zI h) a n (nI ch)) x 1 (nI (n + 1)))) := by
    rw [pI_zsI, pI_ok t.1.1 t.1.2.1, Option.bind_some]
  unfold fX7_add
  rw [if_pos ⟨t.1.1, t.1.2.1⟩, k1, Option.bind_some, if_neg (nI_pos (by omega)), Option.bind_some, k2, Option.bind_some, k3, Option.bind_some, if_pos (nI_lt hn hc), Option.bind_some, Option.bind_some, ji2c_ok hch, k4, Option.bind_some, k5, Option.bind_some, nI_add, k6, Option.bind_some]
  rfl
theorem add_no (t : isT h x a cap) (hc : cap < 2 ^ 31) (e : zI h x 1 = nI cap) {ch : Int32} : fX7_add x ch h = some (nI 0, h) := by
  have k1 : gI h 7 x 1 = some (nI cap) := (gI_ok t.1.1 t.1.2.1).trans (congrArg some e)
  have k2 : gR h 7 x 0 = some a := (gR_ok t.1.1 t.1.2.1).trans t.1.2.2
  have k3 : zlen h a = some (nI cap) := by rw [zlen_ok t.2.1 (by rw [t.2.2.1]; decide), t.2.2.2]
  unfold fX7_add
  rw [if_pos ⟨t.1.1, t.1.2.1⟩, k1, Option.bind_some, if_neg (nI_pos hc), Option.bind_some, k2, Option.bind_some, k3, Option.bind_some, if_neg (nI_nlt (Nat.le_refl _) hc)]
  rfl
theorem len_ok (t : isT h x a cap) (e : zI h x 1 = nI n) : fX7_length x h = some (nI n, h) := by
  unfold fX7_length
  rw [if_pos ⟨t.1.1, t.1.2.1⟩, gI_ok t.1.1 t.1.2.1, Option.bind_some, e]
theorem at_ok (t : isT h x a cap) (hc : cap < 2 ^ 31) (hn : n ≤ cap) (e : zI h x 1 = nI n) {i : Nat} (hi : i < n) : fX7_at x (nI i) h = some (zI h a i, h) := by
  have k1 : gI h 7 x 1 = some (nI n) := (gI_ok t.1.1 t.1.2.1).trans (congrArg some e)
  have k2 : gR h 7 x 0 = some a := (gR_ok t.1.1 t.1.2.1).trans t.1.2.2
  have k3 : zlen h a = some (nI cap) := by rw [zlen_ok t.2.1 (by rw [t.2.2.1]; decide), t.2.2.2]
  unfold fX7_at
  rw [if_pos ⟨t.1.1, t.1.2.1⟩, if_neg (nI_pos (by omega)), k1, Option.bind_some, if_neg (nI_ge hi (by omega)), k2, Option.bind_some, k3, Option.bind_some, if_neg (nI_ge (by omega) hc), Option.bind_some, t.2.lI (by omega) hc, Option.bind_some]
  rfl
theorem tclear_ok (t : isT h x a cap) : fX7_clear x h = some (zsI h (zu (zI h) x 1 (nI 0))) := by
  unfold fX7_clear
  rw [if_pos ⟨t.1.1, t.1.2.1⟩, pI_ok t.1.1 t.1.2.1, Option.bind_some]
end TX
theorem c_feed (a1 : Int32) : Ok2 (fX10_feed 0 a1) (fX11_feed 117 a1) := by
  refine Ok2.of (fun h G n c hI => ?_)
  obtain ⟨g1, g2, g3, g4, g5, g6, g7, g8⟩ := id hI
  have hs := g1
  obtain ⟨i1, i2, i3, i4⟩ := id g3
  rcases cIn a1 (lo := 1) (hi := 127) (by decide) (by decide) with b | ⟨ch, h1, h127, rfl⟩
  · refine Ok2.same hI (r := -2) ?_ ?_
    · simp (disch := omega) only [fX10_feed, fun q => (b q).1, SC (hs), zl_eq, bsm, ZS, ZT, ZN, ZU, eq_self, true_and, and_true, and_self, or_true, true_or, or_false, false_or, not_true, not_false_eq_true, Nat.reduceAdd, Nat.reduceMul, Nat.reduceLT, Nat.reduceLeDiff, Nat.reduceEqDiff, ↓reduceIte, ZQ, Bool.true_eq_false, Bool.false_eq_true, Bool.not_true, Bool.not_false]
    · simp (disch := omega) only [fX11_feed, fun q => (b q).2, SR (hs), zl_eq, bsm, ZS, ZT, ZN, ZU, eq_self, true_and, and_true, and_self, or_true, true_or, or_false, false_or, not_true, not_false_eq_true, Nat.reduceAdd, Nat.reduceMul, Nat.reduceLT, Nat.reduceLeDiff, Nat.reduceEqDiff, ↓reduceIte, ZQ, Bool.true_eq_false, Bool.false_eq_true, Bool.not_true, Bool.not_false]
  by_cases hn : n = 120
  · subst hn
    refine Ok2.same hI (r := -3) ?_ ?_
    · simp (disch := omega) only [fX10_feed, bX10_feed_36, add_no (T26 hs) (by decide) i2, SC (hs), zl_eq, bsm, ZS, ZT, ZN, ZU, eq_self, true_and, and_true, and_self, or_true, true_or, or_false, false_or, not_true, not_false_eq_true, Nat.reduceAdd, Nat.reduceMul, Nat.reduceLT, Nat.reduceLeDiff, Nat.reduceEqDiff, ↓reduceIte, ZQ, Bool.true_eq_false, Bool.false_eq_true, Bool.not_true, Bool.not_false]
    · simp (disch := omega) only [fX11_feed, i3, SR (hs), zl_eq, bsm, ZS, ZT, ZN, ZU, eq_self, true_and, and_true, and_self, or_true, true_or, or_false, false_or, not_true, not_false_eq_true, Nat.reduceAdd, Nat.reduceMul, Nat.reduceLT, Nat.reduceLeDiff, Nat.reduceEqDiff, ↓reduceIte, ZQ, Bool.true_eq_false, Bool.false_eq_true, Bool.not_true, Bool.not_false]
  · have hlt : n < 120 := by omega
    have e1 := add_ok (T26 hs) (by decide) hlt (by decide) i2 (ch := ch) (by omega)
    have p1 : zfr [27, 26] h (zsI h (zu (zu (zI h) 27 n (nI ch)) 26 1 (nI (n + 1)))) := zfr_zsI (fun b hb => by
      rw [zu_ne (fun e => hb (by rw [e]; decide)), zu_ne (fun e => hb (by rw [e]; decide))])
    have hs1 := p1.shp hs
    have e2 : fX7_length 26 (zsI h (zu (zu (zI h) 27 n (nI ch)) 26 1 (nI (n + 1)))) = some (nI (n + 1), zsI h (zu (zu (zI h) 27 n (nI ch)) 26 1 (nI (n + 1)))) := len_ok (T26 hs1) (by dsimp only [zI_zsI]; rw [zu_at, if_pos rfl])
    refine ⟨nI (n + 1), (nI (n + 1), zsI h (zu (zu (zI h) 27 n (nI ch)) 26 1 (nI (n + 1)))), ?_, rfl, ?_⟩
    · simp (disch := omega) only [fX10_feed, bX10_feed_36, e1, e2, SC (hs), zl_eq, bsm, ZS, ZT, ZN, ZU, eq_self, true_and, and_true, and_self, or_true, true_or, or_false, false_or, not_true, not_false_eq_true, Nat.reduceAdd, Nat.reduceMul, Nat.reduceLT, Nat.reduceLeDiff, Nat.reduceEqDiff, ↓reduceIte, ZQ, Bool.true_eq_false, Bool.false_eq_true, Bool.not_true, Bool.not_false]
    · dsimp only
      have k8 : zI (zsI h (zu (zu (zI h) 27 n (nI ch)) 26 1 (nI (n + 1)))) 117 8 = nI n := by rw [p1.I (by decide)]; exact i3
      generalize hh : zsI h (zu (zu (zI h) 27 n (nI ch)) 26 1 (nI (n + 1))) = h2 at p1 hs1 k8 ⊢
      have p2 : zfr [123, 117] h2 (zsI h2 (zu (zu (zI h2) 123 n (nI ch)) 117 8 (nI (n + 1)))) := zfr_zsI (fun b hb => by
        rw [zu_ne (fun e => hb (by rw [e]; decide)), zu_ne (fun e => hb (by rw [e]; decide))])
      refine wp_eq (a := (nI (n + 1), zsI h2 (zu (zu (zI h2) 123 n (nI ch)) 117 8 (nI (n + 1))))) ?_ ⟨rfl, G, n + 1, upM c n ch, ?_⟩
      · simp (disch := omega) only [fX11_feed, k8, eq_false hn, SR (hs1), zl_eq, bsm, ZS, ZT, ZN, ZU, eq_self, true_and, and_true, and_self, or_true, true_or, or_false, false_or, not_true, not_false_eq_true, Nat.reduceAdd, Nat.reduceMul, Nat.reduceLT, Nat.reduceLeDiff, Nat.reduceEqDiff, ↓reduceIte, ZQ, Bool.true_eq_false, Bool.false_eq_true, Bool.not_true, Bool.not_false]
      · have p := p1.trans p2
        have k6 : ∀ k, k ≠ 8 → zI (zsI h2 (zu (zu (zI h2) 123 n (nI ch)) 117 8 (nI (n + 1)))) 117 k = zI h 117 k := by
          intro k hk
          dsimp only [zI_zsI]
          rw [zu_at, if_neg hk, zu_ne (by decide), p1.I (by decide)]
        refine ⟨p.shp g1, g2.fr p (by decide) (by decide), ⟨by omega, ?_, ?_, fun i hi => ?_⟩, g4.fr p (by decide) (by decide) (by decide) (by decide) (by decide) (k6 4 (by decide)), g5.fr p (by decide) (by decide) (by decide) (k6 6 (by decide)), g6.fr p (by decide) (by decide) (by decide) (k6 10 (by decide)), g7.fr p (by decide) (by decide) (by decide) (by decide) (by decide) (by decide) (by decide), g8.fr p (by decide) (by decide) (by decide)⟩
        · rw [p2.I (by decide), ← hh]; dsimp only [zI_zsI]; rw [zu_at, if_pos rfl]
        · dsimp only [zI_zsI]; rw [zu_at, if_pos rfl]
        · have c1 : zI (zsI h2 (zu (zu (zI h2) 123 n (nI ch)) 117 8 (nI (n + 1)))) 27 i = nI (upM c n ch i) := by
            rw [p2.I (by decide), ← hh]
            dsimp only [zI_zsI]
            rw [zu_ne (by decide), zu_at]
            unfold upM
            by_cases e : i = n
            · rw [if_pos e, if_pos e]
            · rw [if_neg e, if_neg e]; exact (i4 i (by omega)).1
          have c2 : zI (zsI h2 (zu (zu (zI h2) 123 n (nI ch)) 117 8 (nI (n + 1)))) 123 i = nI (upM c n ch i) := by
            dsimp only [zI_zsI]
            rw [zu_ne (by decide), zu_at]
            unfold upM
            by_cases e : i = n
            · rw [if_pos e, if_pos e]
            · rw [if_neg e, if_neg e, p1.I (by decide)]; exact (i4 i (by omega)).2.1
          refine ⟨c1, c2, ?_⟩
          unfold upM
          by_cases e : i = n
          · rw [if_pos e]; exact ⟨h1, h127⟩
          · rw [if_neg e]; exact (i4 i (by omega)).2.2
theorem out0 (x : Int32) (h : ZH) : fX10_isWithin x (nI 0) (nI 0 - nI 1) h = some (nI 0, h) ∧ fX11_isIn x (nI 0) (nI 0 - nI 1) h = some (nI 0, h) := by
  have e : nI 0 - nI 1 = (-1 : Int32) := by decide
  have hx : x < nI 0 ∨ (-1 : Int32) < x := by
    by_cases h0 : x < nI 0
    · exact Or.inl h0
    · right
      have a0 := nI_toInt (n := 0) (by decide)
      rw [Int32.lt_iff_toInt_lt] at h0 ⊢
      have a1 : (-1 : Int32).toInt = -1 := by decide
      omega
  rw [e]
  constructor
  · unfold fX10_isWithin
    by_cases h0 : x < nI 0
    · rw [if_pos h0]; rfl
    · rw [if_neg h0, if_pos (hx.resolve_left h0)]; rfl
  · unfold fX11_isIn
    by_cases h0 : x < nI 0
    · rw [if_pos h0]; rfl
    · rw [if_neg h0, if_pos (hx.resolve_left h0)]; rfl
theorem c_output (a1 : Int32) : Ok2 (fX10_output 0 a1) (fX11_output 117 a1) := by
  refine Ok2.of (fun h G n c hI => ?_)
  have hs := hI.1
  obtain ⟨m, d, o1, o2, o3, o4⟩ := hI.2.2.2.2.2.1
  have el := len_ok (T28 hs) o2
  by_cases hm : m = 0
  · subst hm
    refine Ok2.same hI (r := -1) ?_ ?_
    · unfold fX10_output bX10_output_29
      rw [if_pos (O0 hs), R0_5 hs, Option.bind_some, el, Option.bind_some, (out0 a1 _).1, Option.bind_some, if_pos eq00]
    · unfold fX11_output bX11_output_24
      rw [if_pos (O117 hs), gI_ok (O117 hs).1 (O117 hs).2, Option.bind_some, o3, (out0 a1 _).2, Option.bind_some, if_pos eq00]
  · have es : nI m - nI 1 = nI (m - 1) := pk_sub (by omega)
    rcases cIn a1 (lo := 0) (hi := m - 1) (by decide) (by omega) with b | ⟨i, -, hi, rfl⟩
    · refine Ok2.same hI (r := -1) ?_ ?_
      · unfold fX10_output bX10_output_29
        rw [if_pos (O0 hs), R0_5 hs, Option.bind_some, el, Option.bind_some, es, (b _).1, Option.bind_some, if_pos eq00]
      · unfold fX11_output bX11_output_24
        rw [if_pos (O117 hs), gI_ok (O117 hs).1 (O117 hs).2, Option.bind_some, o3, es, (b _).2, Option.bind_some, if_pos eq00]
    · have hi' : i < m := by omega
      refine Ok2.same hI (r := nI (d i)) ?_ ?_
      · simp (disch := omega) only [fX10_output, bX10_output_29, el, at_ok (T28 hs) (by decide) o1 o2 hi', (o4 i hi').1, SC (hs), zl_eq, bsm, ZS, ZT, ZN, ZU, eq_self, true_and, and_true, and_self, or_true, true_or, or_false, false_or, not_true, not_false_eq_true, Nat.reduceAdd, Nat.reduceMul, Nat.reduceLT, Nat.reduceLeDiff, Nat.reduceEqDiff, ↓reduceIte, ZQ, Bool.true_eq_false, Bool.false_eq_true, Bool.not_true, Bool.not_false]
      · simp (disch := omega) only [fX11_output, bX11_output_24, o3, (o4 i hi').2.1, SR (hs), zl_eq, bsm, ZS, ZT, ZN, ZU, eq_self, true_and, and_true, and_self, or_true, true_or, or_false, false_or, not_true, not_false_eq_true, Nat.reduceAdd, Nat.reduceMul, Nat.reduceLT, Nat.reduceLeDiff, Nat.reduceEqDiff, ↓reduceIte, ZQ, Bool.true_eq_false, Bool.false_eq_true, Bool.not_true, Bool.not_false]
/-! all but the output -/
def INVx (G : Nat → Nat → Nat) (n : Nat) (c : Nat → Nat) (h : ZH) : Prop := Sh h ∧ iG G h ∧ iIn n c h ∧ iH h ∧ iS h ∧ iRow h ∧ iP h
def scrO : List Nat := 28 :: 29 :: 124 :: scr
def fx (h h' : ZH) : Prop := zfr scrO h h' ∧ ∀ k, (k = 4 ∨ k = 6 ∨ k = 8) → zI h' 117 k = zI h 117 k
theorem fx.tr {h h1 h2 : ZH} (p : fx h h1) (q : fx h1 h2) : fx h h2 := ⟨p.1.same q.1, fun k hk => (q.2 k hk).trans (p.2 k hk)⟩
theorem fx.of {A : List Nat} {h h' : ZH} (p : zfr A h h') (hA : ∀ b ∈ A, b ∈ scrO) (h116 : ¬ 117 ∈ A) : fx h h' := ⟨p.mono hA, fun k _ => by rw [p.I h116]⟩
theorem fq.fx {h h' : ZH} (p : fq h h') : fx h h' := ⟨p.1.mono (fun b hb => List.mem_cons_of_mem _ (List.mem_cons_of_mem _ (List.mem_cons_of_mem _ hb))), fun k hk => p.2 k (by omega)⟩
theorem INVg.x {G : Nat → Nat → Nat} {n : Nat} {c : Nat → Nat} {h : ZH} (g : INVg G n c h) : INVx G n c h := ⟨g.1, g.2.1, g.2.2.1, g.2.2.2.1, g.2.2.2.2.1, g.2.2.2.2.2.2.1, g.2.2.2.2.2.2.2⟩
theorem INVx.g {G : Nat → Nat → Nat} {n : Nat} {c : Nat → Nat} {h : ZH} (g : INVx G n c h) (o : iOut h) : INVg G n c h := ⟨g.1, g.2.1, g.2.2.1, g.2.2.2.1, g.2.2.2.2.1, o, g.2.2.2.2.2.1, g.2.2.2.2.2.2⟩
theorem dbigO : ∀ b ∈ scrO, b < 152 ∧ b ≠ 52 := by decide
theorem INVx.fr {G : Nat → Nat → Nat} {n : Nat} {c : Nat → Nat} {h h' : ZH} (p : fx h h') (g : INVx G n c h) : INVx G n c h' := by
  obtain ⟨g1, g2, g3, g4, g5, g7, g8⟩ := g
  obtain ⟨p, k⟩ := p
  exact ⟨p.shp g1, g2.fr p (by decide) (by decide), g3.fr p (by decide) (by decide) (by decide) (k 8 (by decide)), g4.fr p (by decide) (by decide) (by decide) (by decide) (by decide) (k 4 (by decide)), g5.fr p (by decide) (by decide) (by decide) (k 6 (by decide)), g7.fr p (by decide) (by decide) (by decide) (by decide) (by decide) (by decide) (by decide), g8.fr p dbigO (by decide) (by decide)⟩
/-- what is written, in the object and in the reference -/
def txC (n : Nat) (f : Nat → Nat) (h : ZH) : Prop := zI h 28 1 = nI n ∧ ∀ i, i < n → zI h 29 i = nI (f i)
def txR (n : Nat) (f : Nat → Nat) (h : ZH) : Prop := zI h 117 10 = nI n ∧ ∀ i, i < n → zI h 124 i = nI (f i)
theorem iOut.mk {n : Nat} {f : Nat → Nat} {h : ZH} (hn : n ≤ 1024) (hf : ∀ i, i < n → f i < 128) (a : txC n f h) (b : txR n f h) : iOut h := ⟨n, f, hn, a.1, b.1, fun i hi => ⟨a.2 i hi, b.2 i hi, hf i hi⟩⟩
theorem txC.fr {n : Nat} {f : Nat → Nat} {h h' : ZH} {A : List Nat} (p : zfr A h h') (h1 : 28 ∉ A) (h2 : 29 ∉ A) (t : txC n f h) : txC n f h' := by
  refine ⟨by rw [p.I h1]; exact t.1, fun i hi => ?_⟩
  rw [p.I h2]; exact t.2 i hi
theorem addC {n : Nat} {f : Nat → Nat} {h : ZH} (hs : Sh h) (t : txC n f h) (hn : n < 1024) {ch : Nat} (hch : ch < 128) : ∃ h', fX7_add 28 (nI ch) h = some (nI 1, h') ∧ zfr [28, 29] h h' ∧ txC (n + 1) (upM f n ch) h' := by
  refine ⟨_, add_ok (T28 hs) (by decide) hn (by decide) t.1 (by omega), zfr_zsI (fun b hb => ?_), ?_, fun i hi => ?_⟩
  · rw [zu_ne (fun e => hb (by rw [e]; decide)), zu_ne (fun e => hb (by rw [e]; decide))]
  · dsimp only [zI_zsI]; rw [zu_at, if_pos rfl]
  · dsimp only [zI_zsI]
    rw [zu_ne (by decide), zu_at]
    unfold upM
    by_cases e : i = n
    · rw [if_pos e, if_pos e]
    · rw [if_neg e, if_neg e]; exact t.2 i (by omega)
theorem addLC {n : Nat} {f : Nat → Nat} {h : ZH} (hs : Sh h) (t : txC n f h) (hn : n < 1024) {l : Nat} (hl : l < 4) : ∃ h', fX7_addLetter 28 (nI l) h = some h' ∧ zfr [28, 29] h h' ∧ txC (n + 1) (upM f n (97 + l)) h' := by
  obtain ⟨h', e, p, q⟩ := addC hs t hn (ch := 97 + l) (by omega)
  refine ⟨h', ?_, p, q⟩
  unfold fX7_addLetter
  rw [if_pos (O28 hs), nI_add, e, Option.bind_some]
theorem signR {n : Nat} {f : Nat → Nat} {h : ZH} (hs : Sh h) (t : txR n f h) (hn : n < 1100) {ch : Nat} : ∃ h', fX11_sign 117 (nI ch) h = some h' ∧ zfr [124, 117] h h' ∧ (∀ k, k ≠ 10 → zI h' 117 k = zI h 117 k) ∧ txR (n + 1) (upM f n ch) h' := by
  refine ⟨zsI h (zu (zu (zI h) 124 n (nI ch)) 117 10 (nI (n + 1))), ?_, zfr_zsI (fun b hb => ?_), fun k hk => ?_, ?_, fun i hi => ?_⟩
  · have e := t.1
    simp (disch := omega) only [fX11_sign, e, SR (hs), zl_eq, bsm, ZS, ZT, ZN, ZU, eq_self, true_and, and_true, and_self, or_true, true_or, or_false, false_or, not_true, not_false_eq_true, Nat.reduceAdd, Nat.reduceMul, Nat.reduceLT, Nat.reduceLeDiff, Nat.reduceEqDiff, ↓reduceIte, ZQ, Bool.true_eq_false, Bool.false_eq_true, Bool.not_true, Bool.not_false]
  · rw [zu_ne (fun e => hb (by rw [e]; decide)), zu_ne (fun e => hb (by rw [e]; decide))]
  · dsimp only [zI_zsI]; rw [zu_at, if_neg hk, zu_ne (by decide)]
  · dsimp only [zI_zsI]; rw [zu_at, if_pos rfl]
  · dsimp only [zI_zsI]
    rw [zu_ne (by decide), zu_at]
    unfold upM
    by_cases e : i = n
    · rw [if_pos e, if_pos e]
    · rw [if_neg e, if_neg e]; exact t.2 i (by omega)
/-- the reference writes its word out -/
theorem writeOut_ok {n : Nat} {w : Nat → Nat} {h : ZH} (hs : Sh h) (hn : n ≤ 1100) (e12 : zI h 117 12 = nI n) (hw : vI h 125 n w) : ∃ h', fX11_writeOut 117 h = some (nI n, h') ∧ zfr [124, 117] h h' ∧ (∀ k, k ≠ 10 → zI h' 117 k = zI h 117 k) ∧ txR n (fun i => 97 + w i) h' := by
  have key : wp (fX11_writeOut 117 h) (fun r => r.1 = nI n ∧ zfr [124, 117] h r.2 ∧ (∀ k, k ≠ 10 → zI r.2 117 k = zI h 117 k) ∧ txR n (fun i => 97 + w i) r.2) := by
    unfold fX11_writeOut
    simp (disch := omega) only [SR (hs), zl_eq, bsm, ZS, ZT, ZN, ZU, eq_self, true_and, and_true, and_self, or_true, true_or, or_false, false_or, not_true, not_false_eq_true, Nat.reduceAdd, Nat.reduceMul, Nat.reduceLT, Nat.reduceLeDiff, Nat.reduceEqDiff, ↓reduceIte, ZQ, Bool.true_eq_false, Bool.false_eq_true, Bool.not_true, Bool.not_false]
    refine wloop (fun j y => y.1 = nI j ∧ zfr [124] h y.2 ∧ ∀ i, i < j → zI y.2 124 i = nI (97 + w i)) n (fun j y self hj hy ih => ?_) (show n < 100000 by omega) ⟨rfl, zfr.refl h, fun i hi => by omega⟩
    obtain ⟨y, h1⟩ := y
    obtain ⟨rfl, p, q⟩ := hy
    dsimp only at p q
    have hs1 := p.shp hs
    have e12' : zI h1 117 12 = nI n := by rw [p.I (by decide)]; exact e12
    show wp (kX11_writeOut_2 117 self (nI j) h1) _
    unfold kX11_writeOut_2
    by_cases hlt : j < n
    · have ew : zI h1 125 j = nI (w j) := by rw [p.I (by decide)]; exact hw j hlt
      simp (disch := omega) only [e12', Nat.not_le.mpr hlt, ew, SR (hs1), zl_eq, bsm, ZS, ZT, ZN, ZU, eq_self, true_and, and_true, and_self, or_true, true_or, or_false, false_or, not_true, not_false_eq_true, Nat.reduceAdd, Nat.reduceMul, Nat.reduceLT, Nat.reduceLeDiff, Nat.reduceEqDiff, ↓reduceIte, ZQ, Bool.true_eq_false, Bool.false_eq_true, Bool.not_true, Bool.not_false]
      refine ih _ hlt ⟨rfl, p.same zfr_uI, fun i hi => ?_⟩
      dsimp only [zI_zsI]
      rw [zu_at]
      by_cases e : i = j
      · rw [if_pos e, e]
      · rw [if_neg e]; exact q i (by omega)
    · have : j = n := by omega
      subst this
      simp (disch := omega) only [e12', Nat.le_refl, SR (hs1), zl_eq, bsm, ZS, ZT, ZN, ZU, eq_self, true_and, and_true, and_self, or_true, true_or, or_false, false_or, not_true, not_false_eq_true, Nat.reduceAdd, Nat.reduceMul, Nat.reduceLT, Nat.reduceLeDiff, Nat.reduceEqDiff, ↓reduceIte, ZQ, Bool.true_eq_false, Bool.false_eq_true, Bool.not_true, Bool.not_false]
      refine wp_some ⟨rfl, (p.mono (by decide)).same ((zfr_uI (a := 117)).mono (by decide)), fun k hk => ?_, ?_, fun i hi => ?_⟩
      · dsimp only [zI_zsI]; rw [zu_at, if_neg hk, p.I (by decide)]
      · dsimp only [zI_zsI]; rw [zu_at, if_pos rfl]
      · dsimp only [zI_zsI]; rw [zu_ne (by decide)]; exact q i hi
  obtain ⟨⟨r, h'⟩, e, h1, h2, h3, h4⟩ := key
  dsimp only at h1
  subst h1
  exact ⟨h', e, h2, h3, h4⟩
