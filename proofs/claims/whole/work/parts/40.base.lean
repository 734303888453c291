/-! THE PURE SIDE, BASE: reads and writes at known places, numbers as naturals, bits -/
theorem zlit (n : Nat) : (OfNat.ofNat n : Int32) = nI n := rfl
theorem lI_ok {h : ZH} {kind a j : Nat} (ha : a < zn h) (hk : zK h a = kind) (hj : j < zN h a) (hN : zN h a < 2 ^ 31) : lI h kind a (nI j) = some (zI h a j) := by
  unfold lI
  rw [if_pos ⟨⟨ha, hk⟩, nI_in hj hN⟩, nI_clamp (by omega)]
theorem lJ_ok {h : ZH} {a j : Nat} (ha : a < zn h) (hk : zK h a = 15) (hj : j < zN h a) (hN : zN h a < 2 ^ 31) : lJ h a (nI j) = some (zJ h a j) := by
  unfold lJ
  rw [if_pos ⟨⟨ha, hk⟩, nI_in hj hN⟩, nI_clamp (by omega)]
theorem lF_ok {h : ZH} {a j : Nat} (ha : a < zn h) (hk : zK h a = 13) (hj : j < zN h a) (hN : zN h a < 2 ^ 31) : lF h a (nI j) = some (zF h a j) := by
  unfold lF
  rw [if_pos ⟨⟨ha, hk⟩, nI_in hj hN⟩, nI_clamp (by omega)]
theorem lR_ok {h : ZH} {kind a j : Nat} (ha : a < zn h) (hk : zK h a = kind) (hj : j < zN h a) (hN : zN h a < 2 ^ 31) : lR h kind a (nI j) = zR h a j := by
  unfold lR
  rw [if_pos ⟨⟨ha, hk⟩, nI_in hj hN⟩, nI_clamp (by omega)]
theorem sI_ok {h : ZH} {kind a j : Nat} {v : Int32} (ha : a < zn h) (hk : zK h a = kind) (hj : j < zN h a) (hN : zN h a < 2 ^ 31) : sI h kind a (nI j) v = some (zsI h (zu (zI h) a j (zvn kind v))) := by
  unfold sI
  rw [if_pos ⟨⟨ha, hk⟩, nI_in hj hN⟩, nI_clamp (by omega)]
theorem sJ_ok {h : ZH} {a j : Nat} {v : Int64} (ha : a < zn h) (hk : zK h a = 15) (hj : j < zN h a) (hN : zN h a < 2 ^ 31) : sJ h a (nI j) v = some (zsJ h (zu (zJ h) a j v)) := by
  unfold sJ
  rw [if_pos ⟨⟨ha, hk⟩, nI_in hj hN⟩, nI_clamp (by omega)]
theorem sF_ok {h : ZH} {a j : Nat} {v : UInt32} (ha : a < zn h) (hk : zK h a = 13) (hj : j < zN h a) (hN : zN h a < 2 ^ 31) : sF h a (nI j) v = some (zsF h (zu (zF h) a j v)) := by
  unfold sF
  rw [if_pos ⟨⟨ha, hk⟩, nI_in hj hN⟩, nI_clamp (by omega)]
theorem gI_ok {h : ZH} {ci a k : Nat} (ha : a < zn h) (hk : zK h a = ci) : gI h ci a k = some (zI h a k) := if_pos ⟨ha, hk⟩
theorem gR_ok {h : ZH} {ci a k : Nat} (ha : a < zn h) (hk : zK h a = ci) : gR h ci a k = zR h a k := if_pos ⟨ha, hk⟩
theorem pI_ok {h : ZH} {ci a k : Nat} {v : Int32} (ha : a < zn h) (hk : zK h a = ci) : pI h ci a k v = some (zsI h (zu (zI h) a k v)) := if_pos ⟨ha, hk⟩
theorem pR_ok {h : ZH} {ci a k q : Nat} (ha : a < zn h) (hk : zK h a = ci) : pR h ci a k q = some (zsR h (zu (zR h) a k (some q))) := if_pos ⟨ha, hk⟩
theorem zlen_ok {h : ZH} {a : Nat} (ha : a < zn h) (hk : 12 ≤ zK h a ∧ zK h a < 19) : zlen h a = some (nI (zN h a)) := if_pos ⟨ha, hk⟩
/-- an array of a kind and a length -/
def isA (h : ZH) (kind a n : Nat) : Prop := a < zn h ∧ zK h a = kind ∧ zN h a = n
theorem isA.lI {h : ZH} {kind a n j : Nat} (g : isA h kind a n) (hj : j < n) (hn : n < 2 ^ 31) : lI h kind a (nI j) = some (zI h a j) := lI_ok g.1 g.2.1 (by rw [g.2.2]; exact hj) (by rw [g.2.2]; exact hn)
theorem isA.sI {h : ZH} {kind a n j : Nat} {v : Int32} (g : isA h kind a n) (hj : j < n) (hn : n < 2 ^ 31) : sI h kind a (nI j) v = some (zsI h (zu (zI h) a j (zvn kind v))) := sI_ok g.1 g.2.1 (by rw [g.2.2]; exact hj) (by rw [g.2.2]; exact hn)
theorem isA.lJ {h : ZH} {a n j : Nat} (g : isA h 15 a n) (hj : j < n) (hn : n < 2 ^ 31) : lJ h a (nI j) = some (zJ h a j) := lJ_ok g.1 g.2.1 (by rw [g.2.2]; exact hj) (by rw [g.2.2]; exact hn)
theorem isA.sJ {h : ZH} {a n j : Nat} {v : Int64} (g : isA h 15 a n) (hj : j < n) (hn : n < 2 ^ 31) : sJ h a (nI j) v = some (zsJ h (zu (zJ h) a j v)) := sJ_ok g.1 g.2.1 (by rw [g.2.2]; exact hj) (by rw [g.2.2]; exact hn)
theorem isA.lF {h : ZH} {a n j : Nat} (g : isA h 13 a n) (hj : j < n) (hn : n < 2 ^ 31) : lF h a (nI j) = some (zF h a j) := lF_ok g.1 g.2.1 (by rw [g.2.2]; exact hj) (by rw [g.2.2]; exact hn)
theorem isA.sF {h : ZH} {a n j : Nat} {v : UInt32} (g : isA h 13 a n) (hj : j < n) (hn : n < 2 ^ 31) : sF h a (nI j) v = some (zsF h (zu (zF h) a j v)) := sF_ok g.1 g.2.1 (by rw [g.2.2]; exact hj) (by rw [g.2.2]; exact hn)
theorem isA.lR {h : ZH} {kind a n j : Nat} (g : isA h kind a n) (hj : j < n) (hn : n < 2 ^ 31) : lR h kind a (nI j) = zR h a j := lR_ok g.1 g.2.1 (by rw [g.2.2]; exact hj) (by rw [g.2.2]; exact hn)
/-- nothing but these cells' contents is another -/
def zfr (A : List Nat) (h h' : ZH) : Prop := (zn h' = zn h ∧ zs h' = zs h ∧ zK h' = zK h ∧ zN h' = zN h ∧ zR h' = zR h) ∧ ∀ b, b ∉ A → zI h' b = zI h b ∧ zJ h' b = zJ h b ∧ zF h' b = zF h b
theorem zfr.refl {A : List Nat} (h : ZH) : zfr A h h := ⟨⟨rfl, rfl, rfl, rfl, rfl⟩, fun _ _ => ⟨rfl, rfl, rfl⟩⟩
theorem zfr.trans {A B : List Nat} {h h1 h2 : ZH} (p : zfr A h h1) (q : zfr B h1 h2) : zfr (A ++ B) h h2 := by
  obtain ⟨⟨p1, p2, p3, p4, p5⟩, p6⟩ := p
  obtain ⟨⟨q1, q2, q3, q4, q5⟩, q6⟩ := q
  refine ⟨⟨q1.trans p1, q2.trans p2, q3.trans p3, q4.trans p4, q5.trans p5⟩, fun b hb => ?_⟩
  have h1 := p6 b (fun h => hb (List.mem_append_left _ h))
  have h2 := q6 b (fun h => hb (List.mem_append_right _ h))
  exact ⟨h2.1.trans h1.1, h2.2.1.trans h1.2.1, h2.2.2.trans h1.2.2⟩
theorem zfr.mono {A B : List Nat} {h h1 : ZH} (p : zfr A h h1) (hs : ∀ b ∈ A, b ∈ B) : zfr B h h1 := ⟨p.1, fun b hb => p.2 b (fun h => hb (hs b h))⟩
theorem zfr.same {A : List Nat} {h h1 h2 : ZH} (p : zfr A h h1) (q : zfr A h1 h2) : zfr A h h2 := (p.trans q).mono (fun b hb => by rcases List.mem_append.mp hb with h | h <;> exact h)
theorem zfr_zsI {A : List Nat} {h : ZH} {f : Nat → Nat → Int32} (ho : ∀ b, b ∉ A → f b = zI h b) : zfr A h (zsI h f) := ⟨⟨rfl, rfl, rfl, rfl, rfl⟩, fun b hb => ⟨ho b hb, rfl, rfl⟩⟩
theorem zfr_zsJ {A : List Nat} {h : ZH} {f : Nat → Nat → Int64} (ho : ∀ b, b ∉ A → f b = zJ h b) : zfr A h (zsJ h f) := ⟨⟨rfl, rfl, rfl, rfl, rfl⟩, fun b hb => ⟨rfl, ho b hb, rfl⟩⟩
theorem zfr_zsF {A : List Nat} {h : ZH} {f : Nat → Nat → UInt32} (ho : ∀ b, b ∉ A → f b = zF h b) : zfr A h (zsF h f) := ⟨⟨rfl, rfl, rfl, rfl, rfl⟩, fun b hb => ⟨rfl, rfl, ho b hb⟩⟩
theorem zfr_uI {h : ZH} {a j : Nat} {v : Int32} : zfr [a] h (zsI h (zu (zI h) a j v)) := zfr_zsI (fun b hb => zu_ne (fun e => hb (by rw [e]; exact List.mem_singleton.mpr rfl)))
theorem zfr_uJ {h : ZH} {a j : Nat} {v : Int64} : zfr [a] h (zsJ h (zu (zJ h) a j v)) := zfr_zsJ (fun b hb => zu_ne (fun e => hb (by rw [e]; exact List.mem_singleton.mpr rfl)))
theorem zfr_uF {h : ZH} {a j : Nat} {v : UInt32} : zfr [a] h (zsF h (zu (zF h) a j v)) := zfr_zsF (fun b hb => zu_ne (fun e => hb (by rw [e]; exact List.mem_singleton.mpr rfl)))
theorem zfr.isA {A : List Nat} {h h1 : ZH} (p : zfr A h h1) {kind a n : Nat} (g : isA h kind a n) : isA h1 kind a n := by
  obtain ⟨⟨p1, p2, p3, p4, p5⟩, -⟩ := p
  exact ⟨by rw [p1]; exact g.1, by rw [p3]; exact g.2.1, by rw [p4]; exact g.2.2⟩
/-! numbers and bits -/
theorem nb_and (a b : Nat) : nI a &&& nI b = nI (a &&& b) := by
  apply Int32.toBitVec_inj.mp
  rw [Int32.toBitVec_and]
  show BitVec.ofNat 32 a &&& BitVec.ofNat 32 b = BitVec.ofNat 32 (a &&& b)
  apply BitVec.eq_of_getLsbD_eq
  intro i hi
  simp [hi]
theorem nb_or (a b : Nat) : nI a ||| nI b = nI (a ||| b) := by
  apply Int32.toBitVec_inj.mp
  rw [Int32.toBitVec_or]
  show BitVec.ofNat 32 a ||| BitVec.ofNat 32 b = BitVec.ofNat 32 (a ||| b)
  apply BitVec.eq_of_getLsbD_eq
  intro i hi
  simp [hi]
theorem nb_c : ∀ v, v < 32 → ((nI v &&& 31).toBitVec.smod 32).toNat = v := by decide +kernel
theorem nb_shr {a v : Nat} (ha : a < 2 ^ 31) (hv : v < 32) : jshr (nI a) (nI v) = nI (a / 2 ^ v) := pk_shrN ha _ v (nb_c v hv)
theorem nb_shl {a v : Nat} (hv : v < 32) (h : a * 2 ^ v < 2 ^ 32) : jshl (nI a) (nI v) = nI (a * 2 ^ v) := pk_shlN _ v (nb_c v hv) h
theorem nb_1shl {v : Nat} (hv : v < 32) : jshl (nI 1) (nI v) = nI (2 ^ v) := by
  have := nb_shl (a := 1) hv (by rw [Nat.one_mul]; exact Nat.pow_lt_pow_right (by decide) hv)
  rw [Nat.one_mul] at this
  exact this
theorem nb_bit {a v : Nat} (ha : a < 2 ^ 31) (hv : v < 32) : (jshr (nI a) (nI v)) &&& (nI 1) = nI (a.testBit v).toNat := by
  rw [nb_shr ha hv, nb_and]
  congr 1
  rw [Nat.testBit_eq_decide_div_mod_eq]
  have h2 : a / 2 ^ v &&& 1 = a / 2 ^ v % 2 := Nat.and_one_is_mod _
  rw [h2]
  rcases Nat.mod_two_eq_zero_or_one (a / 2 ^ v) with h | h <;> simp [h]
theorem nb_bit0 {a v : Nat} (ha : a < 2 ^ 31) (hv : v < 32) : ((jshr (nI a) (nI v)) &&& (nI 1) = 0) ↔ a.testBit v = false := by
  rw [nb_bit ha hv]
  cases a.testBit v <;> simp [nI] <;> decide
theorem nb_z {a : Nat} (ha : a < 2 ^ 31) : (nI a = 0) ↔ a = 0 := by
  rw [zlit 0]
  exact nI_eq ha (by decide)
theorem nb_eq {a b : Nat} (ha : a < 2 ^ 31) (hb : b < 2 ^ 31) : (nI a = nI b) ↔ a = b := nI_eq ha hb
/-- or over what a condition takes -/
def orf (p : Nat → Bool) (f : Nat → Nat) : Nat → Nat
  | 0 => 0
  | n + 1 => orf p f n ||| (if p n = true then f n else 0)
theorem orf_lt {p : Nat → Bool} {f : Nat → Nat} {b n : Nat} (h : ∀ k, k < n → f k < 2 ^ b) : orf p f n < 2 ^ b := by
  induction n with
  | zero => exact Nat.two_pow_pos b
  | succ n ih =>
    refine Nat.or_lt_two_pow (ih (fun k hk => h k (by omega))) ?_
    split
    · exact h n (by omega)
    · exact Nat.two_pow_pos b
theorem orf_bit {p : Nat → Bool} {f : Nat → Nat} {n i : Nat} : (orf p f n).testBit i = true ↔ ∃ k, k < n ∧ p k = true ∧ (f k).testBit i = true := by
  induction n with
  | zero => simp [orf]
  | succ n ih =>
    rw [orf, Nat.testBit_or, Bool.or_eq_true, ih]
    constructor
    · rintro (⟨k, h1, h2, h3⟩ | h)
      · exact ⟨k, by omega, h2, h3⟩
      · by_cases hp : p n = true
        · rw [if_pos hp] at h; exact ⟨n, by omega, hp, h⟩
        · rw [if_neg hp] at h; simp at h
    · rintro ⟨k, h1, h2, h3⟩
      by_cases hk : k = n
      · subst hk; right; rw [if_pos h2]; exact h3
      · left; exact ⟨k, by omega, h2, h3⟩
theorem orf_cong {p q : Nat → Bool} {f g : Nat → Nat} {n : Nat} (h : ∀ k, k < n → p k = q k ∧ f k = g k) : orf p f n = orf q g n := by
  induction n with
  | zero => rfl
  | succ n ih => rw [orf, orf, ih (fun k hk => h k (by omega)), (h n (by omega)).1, (h n (by omega)).2]
