/-! KNOWN CELLS: what reads and writes answer at the cells that the constructors made; loops by invariant -/
def wp {α : Type} (o : Option α) (Q : α → Prop) : Prop := ∃ a, o = some a ∧ Q a
theorem wp_some {α : Type} {a : α} {Q : α → Prop} (q : Q a) : wp (some a) Q := ⟨a, rfl, q⟩
theorem wp_eq {α : Type} {o : Option α} {a : α} {Q : α → Prop} (e : o = some a) (q : Q a) : wp o Q := ⟨a, e, q⟩
theorem wp_bind {α β : Type} {o : Option α} {f : α → Option β} {P : α → Prop} {Q : β → Prop} (p : wp o P) (k : ∀ a, P a → wp (f a) Q) : wp (o.bind f) Q := by
  obtain ⟨a, e, q⟩ := p
  rw [e]
  exact k a q
theorem wp_mono {α : Type} {o : Option α} {P Q : α → Prop} (p : wp o P) (k : ∀ a, P a → Q a) : wp o Q := by
  obtain ⟨a, e, q⟩ := p
  exact ⟨a, e, k a q⟩
/-- a loop by an invariant: what holds of its answer -/
theorem wloop {σ α : Type} {k : (σ → Option α) → σ → Option α} {Q : α → Prop} (I : Nat → σ → Prop) (m : Nat) (hk : ∀ j s self, j ≤ m → I j s → (∀ s', j < m → I (j + 1) s' → wp (self s') Q) → wp (k self s) Q) {n : Nat} {s : σ} (hn : m < n) (h0 : I 0 s) : wp (zloop k n s) Q := by
  have key : ∀ t j, j ≤ m → m - j = t → ∀ n s, m - j < n → I j s → wp (zloop k n s) Q := by
    intro t
    induction t with
    | zero =>
      intro j hj ht n s hn hI
      obtain ⟨n, rfl⟩ : ∃ k, n = k + 1 := ⟨n - 1, by omega⟩
      exact hk j s _ hj hI (fun s' hlt _ => by omega)
    | succ t ih =>
      intro j hj ht n s hn hI
      obtain ⟨n, rfl⟩ : ∃ k, n = k + 1 := ⟨n - 1, by omega⟩
      exact hk j s _ hj hI (fun s' hlt hI' => ih (j + 1) (by omega) (by omega) n s' (by omega) hI')
  exact key m 0 (Nat.zero_le _) rfl n s (by omega) h0
/-- what stands in the first places of an array -/
def vI (h : ZH) (a n : Nat) (f : Nat → Nat) : Prop := ∀ j, j < n → zI h a j = nI (f j)
def vJ (h : ZH) (a n : Nat) (f : Nat → Nat) : Prop := ∀ j, j < n → zJ h a j = lN (f j)
theorem zfr.shp {A : List Nat} {h h1 : ZH} (p : zfr A h h1) (g : Sh h) : Sh h1 := by
  obtain ⟨⟨p1, p2, p3, p4, p5⟩, -⟩ := p
  unfold Sh at g ⊢
  rw [p1, p3, p4, p5]
  exact g
theorem zfr.I {A : List Nat} {h h1 : ZH} (p : zfr A h h1) {a : Nat} (ha : a ∉ A) : zI h1 a = zI h a := (p.2 a ha).1
theorem zfr.J {A : List Nat} {h h1 : ZH} (p : zfr A h h1) {a : Nat} (ha : a ∉ A) : zJ h1 a = zJ h a := (p.2 a ha).2.1
theorem zfr.F {A : List Nat} {h h1 : ZH} (p : zfr A h h1) {a : Nat} (ha : a ∉ A) : zF h1 a = zF h a := (p.2 a ha).2.2
theorem zfr.vI {A : List Nat} {h h1 : ZH} (p : zfr A h h1) {a n : Nat} {f : Nat → Nat} (ha : a ∉ A) (g : vI h a n f) : vI h1 a n f := by
  intro j hj
  rw [p.I ha]
  exact g j hj
theorem zfr.vJ {A : List Nat} {h h1 : ZH} (p : zfr A h h1) {a n : Nat} {f : Nat → Nat} (ha : a ∉ A) (g : vJ h a n f) : vJ h1 a n f := by
  intro j hj
  rw [p.J ha]
  exact g j hj
theorem Sh_zsI {h : ZH} {f : Nat → Nat → Int32} (g : Sh h) : Sh (zsI h f) := g
theorem Sh_zsJ {h : ZH} {f : Nat → Nat → Int64} (g : Sh h) : Sh (zsJ h f) := g
theorem Sh_zsF {h : ZH} {f : Nat → Nat → UInt32} (g : Sh h) : Sh (zsF h f) := g
/-! strip rows: a heap with another content has the shape of the one below -/
theorem lI_zsI {h : ZH} {f : Nat → Nat → Int32} {kind a j : Nat} (hj : j < 2 ^ 31) : lI (zsI h f) kind a (nI j) = (lI h kind a (nI j)).bind (fun _ => some (f a j)) := by
  unfold lI
  show (if (a < zn h ∧ zK h a = kind) ∧ ¬ (nI j < 0 ∨ zN h a ≤ (nI j).toNatClampNeg) then some (f a (nI j).toNatClampNeg) else none) = _
  rw [nI_clamp hj]
  split <;> rfl
theorem sI_zsI {h : ZH} {f : Nat → Nat → Int32} {kind a j : Nat} {v : Int32} (hj : j < 2 ^ 31) : sI (zsI h f) kind a (nI j) v = (sI h kind a (nI j) v).bind (fun _ => some (zsI h (zu f a j (zvn kind v)))) := by
  unfold sI
  show (if (a < zn h ∧ zK h a = kind) ∧ ¬ (nI j < 0 ∨ zN h a ≤ (nI j).toNatClampNeg) then some (zsI (zsI h f) (zu f a (nI j).toNatClampNeg (zvn kind v))) else none) = _
  rw [nI_clamp hj]
  split <;> rfl
theorem lJ_zsJ {h : ZH} {f : Nat → Nat → Int64} {a j : Nat} (hj : j < 2 ^ 31) : lJ (zsJ h f) a (nI j) = (lJ h a (nI j)).bind (fun _ => some (f a j)) := by
  unfold lJ
  show (if (a < zn h ∧ zK h a = 15) ∧ ¬ (nI j < 0 ∨ zN h a ≤ (nI j).toNatClampNeg) then some (f a (nI j).toNatClampNeg) else none) = _
  rw [nI_clamp hj]
  split <;> rfl
theorem sJ_zsJ {h : ZH} {f : Nat → Nat → Int64} {a j : Nat} {v : Int64} (hj : j < 2 ^ 31) : sJ (zsJ h f) a (nI j) v = (sJ h a (nI j) v).bind (fun _ => some (zsJ h (zu f a j v))) := by
  unfold sJ
  show (if (a < zn h ∧ zK h a = 15) ∧ ¬ (nI j < 0 ∨ zN h a ≤ (nI j).toNatClampNeg) then some (zsJ (zsJ h f) (zu f a (nI j).toNatClampNeg v)) else none) = _
  rw [nI_clamp hj]
  split <;> rfl
theorem sJ_zsI {h : ZH} {f : Nat → Nat → Int32} {a j : Nat} {v : Int64} (hj : j < 2 ^ 31) : sJ (zsI h f) a (nI j) v = (sJ h a (nI j) v).bind (fun _ => some (zsI (zsJ h (zu (zJ h) a j v)) f)) := by
  unfold sJ
  show (if (a < zn h ∧ zK h a = 15) ∧ ¬ (nI j < 0 ∨ zN h a ≤ (nI j).toNatClampNeg) then some (zsJ (zsI h f) (zu (zJ h) a (nI j).toNatClampNeg v)) else none) = _
  rw [nI_clamp hj]
  split <;> rfl
theorem sI_zsJ {h : ZH} {f : Nat → Nat → Int64} {kind a j : Nat} {v : Int32} (hj : j < 2 ^ 31) : sI (zsJ h f) kind a (nI j) v = (sI h kind a (nI j) v).bind (fun _ => some (zsI (zsJ h f) (zu (zI h) a j (zvn kind v)))) := by
  unfold sI
  show (if (a < zn h ∧ zK h a = kind) ∧ ¬ (nI j < 0 ∨ zN h a ≤ (nI j).toNatClampNeg) then some (zsI (zsJ h f) (zu (zI h) a (nI j).toNatClampNeg (zvn kind v))) else none) = _
  rw [nI_clamp hj]
  split <;> rfl
theorem gI_zsI {h : ZH} {f : Nat → Nat → Int32} {c a k : Nat} : gI (zsI h f) c a k = (gI h c a k).bind (fun _ => some (f a k)) := by
  unfold gI
  show (if (a < zn h ∧ zK h a = c) then some (f a k) else none) = _
  split <;> rfl
theorem pI_zsI {h : ZH} {f : Nat → Nat → Int32} {c a k : Nat} {v : Int32} : pI (zsI h f) c a k v = (pI h c a k v).bind (fun _ => some (zsI h (zu f a k v))) := by
  unfold pI
  show (if (a < zn h ∧ zK h a = c) then some (zsI (zsI h f) (zu f a k v)) else none) = _
  split <;> rfl
theorem pI_zsJ {h : ZH} {f : Nat → Nat → Int64} {c a k : Nat} {v : Int32} : pI (zsJ h f) c a k v = (pI h c a k v).bind (fun _ => some (zsI (zsJ h f) (zu (zI h) a k v))) := by
  unfold pI
  show (if (a < zn h ∧ zK h a = c) then some (zsI (zsJ h f) (zu (zI h) a k v)) else none) = _
  split <;> rfl
theorem pZ_ok {h : ZH} {c a k b : Nat} (ha : a < zn h) (hk : zK h a = c) (hb : b < 2) : pZ h c a k (nI b) = some (zsI h (zu (zI h) a k (nI b))) := by
  have h2 : nI b = 0 ∨ nI b = 1 := by
    rcases (show b = 0 ∨ b = 1 by omega) with rfl | rfl
    · exact Or.inl rfl
    · exact Or.inr rfl
  exact if_pos ⟨⟨ha, hk⟩, h2⟩
theorem ZS : (∀ (h : ZH) f c a k, gR (zsI h f) c a k = gR h c a k) ∧ (∀ (h : ZH) f c a k, gR (zsJ h f) c a k = gR h c a k) ∧ (∀ (h : ZH) f c a k, lR (zsI h f) c a k = lR h c a k) ∧ (∀ (h : ZH) f c a k, lR (zsJ h f) c a k = lR h c a k) ∧ (∀ (h : ZH) f a, zlen (zsI h f) a = zlen h a) ∧ (∀ (h : ZH) f a, zlen (zsJ h f) a = zlen h a) ∧ (∀ (h : ZH) f, zn (zsI h f) = zn h) ∧ (∀ (h : ZH) f, zn (zsJ h f) = zn h) ∧ (∀ (h : ZH) f, zK (zsI h f) = zK h) ∧ (∀ (h : ZH) f, zK (zsJ h f) = zK h) ∧ (∀ (h : ZH) f, zI (zsI h f) = f) ∧ (∀ (h : ZH) f, zJ (zsJ h f) = f) ∧ (∀ (h : ZH) f, zJ (zsI h f) = zJ h) ∧ (∀ (h : ZH) f, zI (zsJ h f) = zI h) ∧ (∀ (h : ZH) f g, zsI (zsI h f) g = zsI h g) ∧ (∀ (h : ZH) f g, zsJ (zsJ h f) g = zsJ h g) ∧ (∀ (h : ZH) f g, zsJ (zsI h f) g = zsI (zsJ h g) f)
    ∧ (∀ (h : ZH) f c a k, gI (zsJ h f) c a k = gI h c a k) ∧ (∀ (h : ZH) f c a k, lI (zsJ h f) c a k = lI h c a k) ∧ (∀ (h : ZH) f a k, lJ (zsI h f) a k = lJ h a k) :=
  ⟨fun _ _ _ _ _ => rfl, fun _ _ _ _ _ => rfl, fun _ _ _ _ _ => rfl, fun _ _ _ _ _ => rfl, fun _ _ _ => rfl, fun _ _ _ => rfl, fun _ _ => rfl, fun _ _ => rfl, fun _ _ => rfl, fun _ _ => rfl, fun _ _ => rfl, fun _ _ => rfl, fun _ _ => rfl, fun _ _ => rfl, fun _ _ _ => rfl, fun _ _ _ => rfl, fun _ _ _ => rfl, fun _ _ _ _ _ => rfl, fun _ _ _ _ _ => rfl, fun _ _ _ _ => rfl⟩
theorem ZT : (∀ (h : ZH) f kind a j, j < 2 ^ 31 → lI (zsI h f) kind a (nI j) = (lI h kind a (nI j)).bind (fun _ => some (f a j))) ∧ (∀ (h : ZH) f kind a j v, j < 2 ^ 31 → sI (zsI h f) kind a (nI j) v = (sI h kind a (nI j) v).bind (fun _ => some (zsI h (zu f a j (zvn kind v))))) ∧ (∀ (h : ZH) f a j, j < 2 ^ 31 → lJ (zsJ h f) a (nI j) = (lJ h a (nI j)).bind (fun _ => some (f a j))) ∧ (∀ (h : ZH) f a j v, j < 2 ^ 31 → sJ (zsJ h f) a (nI j) v = (sJ h a (nI j) v).bind (fun _ => some (zsJ h (zu f a j v)))) ∧ (∀ (h : ZH) f a j v, j < 2 ^ 31 → sJ (zsI h f) a (nI j) v = (sJ h a (nI j) v).bind (fun _ => some (zsI (zsJ h (zu (zJ h) a j v)) f))) ∧ (∀ (h : ZH) f kind a j v, j < 2 ^ 31 → sI (zsJ h f) kind a (nI j) v = (sI h kind a (nI j) v).bind (fun _ => some (zsI (zsJ h f) (zu (zI h) a j (zvn kind v)))))
    ∧ (∀ (h : ZH) f c a k, gI (zsI h f) c a k = (gI h c a k).bind (fun _ => some (f a k))) ∧ (∀ (h : ZH) f c a k v, pI (zsI h f) c a k v = (pI h c a k v).bind (fun _ => some (zsI h (zu f a k v)))) ∧ (∀ (h : ZH) f c a k v, pI (zsJ h f) c a k v = (pI h c a k v).bind (fun _ => some (zsI (zsJ h f) (zu (zI h) a k v)))) ∧ (∀ v, zvn 14 v = v) :=
  ⟨fun _ _ _ _ _ => lI_zsI, fun _ _ _ _ _ _ => sI_zsI, fun _ _ _ _ => lJ_zsJ, fun _ _ _ _ _ => sJ_zsJ, fun _ _ _ _ _ => sJ_zsI, fun _ _ _ _ _ _ => sI_zsJ, fun _ _ _ _ _ => gI_zsI, fun _ _ _ _ _ _ => pI_zsI, fun _ _ _ _ _ _ => pI_zsJ, fun _ => rfl⟩
theorem ZU : (∀ (β : Type) (f : Nat → Nat → β) a j v, zu f a j v a j = v) ∧ (∀ (β : Type) (f : Nat → Nat → β) a j v i, i ≠ j → zu f a j v a i = f a i) ∧ (∀ (β : Type) (f : Nat → Nat → β) a j v b, b ≠ a → zu f a j v b = f b) := by
  refine ⟨fun β f a j v => ?_, fun β f a j v i hi => ?_, fun β f a j v b hb => zu_ne hb⟩
  · simp [zu]
  · simp [zu, hi]
theorem jrem_ok {a d : Nat} (ha : a < 2 ^ 31) (h0 : 0 < d) (hd : d < 2 ^ 31) : jrem (nI a) (nI d) = nI (a % d) := pk_rem ha h0 hd
theorem nlt0 {a : Nat} (ha : a < 2 ^ 31) : (nI a < 0) = False := by simp [nI_pos ha]
theorem nle0 {a : Nat} (ha : a < 2 ^ 31) : (nI a ≤ 0) = (a = 0) := by
  rw [zlit 0]
  exact propext ((nI_leI ha (by decide)).trans ⟨fun h => by omega, fun h => by omega⟩)
theorem nge0 {a : Nat} (ha : a < 2 ^ 31) : (0 ≤ nI a) = True := by simp [nI_pos' ha]
theorem ngt0 {a : Nat} (ha : a < 2 ^ 31) : (0 < nI a) = (0 < a) := by
  rw [zlit 0]
  exact propext (nI_ltI (by decide) ha)
theorem ZN : (∀ a b : Nat, nI a + nI b = nI (a + b)) ∧ (∀ a b : Nat, nI a * nI b = nI (a * b)) ∧ (∀ a b : Nat, b ≤ a → nI a - nI b = nI (a - b)) ∧ (∀ a d : Nat, a < 2 ^ 31 → 0 < d → d < 2 ^ 31 → nI a / nI d = nI (a / d)) ∧ (∀ a d : Nat, a < 2 ^ 31 → 0 < d → d < 2 ^ 31 → jrem (nI a) (nI d) = nI (a % d)) ∧ (∀ a b : Nat, nI a &&& nI b = nI (a &&& b)) ∧ (∀ a b : Nat, nI a ||| nI b = nI (a ||| b)) ∧ (∀ v : Nat, v < 32 → jshl (nI 1) (nI v) = nI (2 ^ v))
    ∧ (∀ a b : Nat, a < 2 ^ 31 → b < 2 ^ 31 → (nI a ≤ nI b) = (a ≤ b)) ∧ (∀ a b : Nat, a < 2 ^ 31 → b < 2 ^ 31 → (nI a < nI b) = (a < b)) ∧ (∀ a b : Nat, a < 2 ^ 31 → b < 2 ^ 31 → (nI a = nI b) = (a = b)) ∧ (∀ a : Nat, a < 2 ^ 31 → (nI a < 0) = False) ∧ (∀ a : Nat, a < 2 ^ 31 → (nI a ≤ 0) = (a = 0)) ∧ (∀ a : Nat, a < 2 ^ 31 → (0 ≤ nI a) = True) ∧ (∀ a : Nat, a < 2 ^ 31 → (0 < nI a) = (0 < a)) ∧ (∀ a : Nat, a < 2 ^ 31 → (nI a = 0) = (a = 0)) :=
  ⟨nI_add, pk_mul, fun _ _ => pk_sub, fun _ _ => pk_div, fun _ _ => jrem_ok, nb_and, nb_or, fun _ => nb_1shl, fun _ _ h1 h2 => propext (nI_leI h1 h2), fun _ _ h1 h2 => propext (nI_ltI h1 h2), fun _ _ h1 h2 => propext (nI_eq h1 h2), fun _ => nlt0, fun _ => nle0, fun _ => nge0, fun _ => ngt0, fun _ h => propext (nb_z h)⟩
section KC
variable {h : ZH}
theorem Oo (hs : Sh h) {a : Nat} (ha : a < 152) : a < zn h ∧ zK h a = kT.getD a 0 := ⟨Nat.lt_of_lt_of_le ha hs.1, (hs.2.1 a ha).1⟩
theorem Aa (hs : Sh h) {a kind n : Nat} (ha : a < 152) (hk : kT.getD a 0 = kind) (hn : nT.getD a 0 = n) : isA h kind a n := ⟨Nat.lt_of_lt_of_le ha hs.1, (hs.2.1 a ha).1.trans hk, (hs.2.1 a ha).2.trans hn⟩
theorem Rr (hs : Sh h) {a k r : Nat} (ha : a < 152) (hk : k < 44) (hn : ¬ (a = 51 ∧ k = 0)) (e : rTa a k = some r) : zR h a k = some r := (hs.2.2 a ha k hk hn).trans e
theorem O0 (hs : Sh h) : 0 < zn h ∧ zK h 0 = 10 := Oo hs (by decide)
theorem O3 (hs : Sh h) : 3 < zn h ∧ zK h 3 = 2 := Oo hs (by decide)
theorem A5 (hs : Sh h) : isA h 14 5 10 := Aa hs (by decide) (by decide) (by decide)
theorem O6 (hs : Sh h) : 6 < zn h ∧ zK h 6 = 1 := Oo hs (by decide)
theorem O8 (hs : Sh h) : 8 < zn h ∧ zK h 8 = 1 := Oo hs (by decide)
theorem O10 (hs : Sh h) : 10 < zn h ∧ zK h 10 = 1 := Oo hs (by decide)
theorem O12 (hs : Sh h) : 12 < zn h ∧ zK h 12 = 1 := Oo hs (by decide)
theorem O14 (hs : Sh h) : 14 < zn h ∧ zK h 14 = 1 := Oo hs (by decide)
theorem O16 (hs : Sh h) : 16 < zn h ∧ zK h 16 = 1 := Oo hs (by decide)
theorem O18 (hs : Sh h) : 18 < zn h ∧ zK h 18 = 1 := Oo hs (by decide)
theorem O20 (hs : Sh h) : 20 < zn h ∧ zK h 20 = 1 := Oo hs (by decide)
theorem O22 (hs : Sh h) : 22 < zn h ∧ zK h 22 = 1 := Oo hs (by decide)
theorem O24 (hs : Sh h) : 24 < zn h ∧ zK h 24 = 1 := Oo hs (by decide)
theorem O26 (hs : Sh h) : 26 < zn h ∧ zK h 26 = 7 := Oo hs (by decide)
theorem A27 (hs : Sh h) : isA h 12 27 120 := Aa hs (by decide) (by decide) (by decide)
theorem O28 (hs : Sh h) : 28 < zn h ∧ zK h 28 = 7 := Oo hs (by decide)
theorem A29 (hs : Sh h) : isA h 12 29 1024 := Aa hs (by decide) (by decide) (by decide)
theorem O31 (hs : Sh h) : 31 < zn h ∧ zK h 31 = 1 := Oo hs (by decide)
theorem O33 (hs : Sh h) : 33 < zn h ∧ zK h 33 = 1 := Oo hs (by decide)
theorem O35 (hs : Sh h) : 35 < zn h ∧ zK h 35 = 1 := Oo hs (by decide)
theorem O37 (hs : Sh h) : 37 < zn h ∧ zK h 37 = 6 := Oo hs (by decide)
theorem A38 (hs : Sh h) : isA h 14 38 256 := Aa hs (by decide) (by decide) (by decide)
theorem A39 (hs : Sh h) : isA h 14 39 256 := Aa hs (by decide) (by decide) (by decide)
theorem A40 (hs : Sh h) : isA h 14 40 1024 := Aa hs (by decide) (by decide) (by decide)
theorem A41 (hs : Sh h) : isA h 14 41 256 := Aa hs (by decide) (by decide) (by decide)
theorem A42 (hs : Sh h) : isA h 14 42 8 := Aa hs (by decide) (by decide) (by decide)
theorem O43 (hs : Sh h) : 43 < zn h ∧ zK h 43 = 6 := Oo hs (by decide)
theorem A44 (hs : Sh h) : isA h 14 44 256 := Aa hs (by decide) (by decide) (by decide)
theorem A45 (hs : Sh h) : isA h 14 45 256 := Aa hs (by decide) (by decide) (by decide)
theorem A46 (hs : Sh h) : isA h 14 46 1024 := Aa hs (by decide) (by decide) (by decide)
theorem A47 (hs : Sh h) : isA h 14 47 256 := Aa hs (by decide) (by decide) (by decide)
theorem A48 (hs : Sh h) : isA h 14 48 8 := Aa hs (by decide) (by decide) (by decide)
theorem O49 (hs : Sh h) : 49 < zn h ∧ zK h 49 = 9 := Oo hs (by decide)
theorem A50 (hs : Sh h) : isA h 15 50 7936 := Aa hs (by decide) (by decide) (by decide)
theorem O51 (hs : Sh h) : 51 < zn h ∧ zK h 51 = 4 := Oo hs (by decide)
theorem A53 (hs : Sh h) : isA h 14 53 2048 := Aa hs (by decide) (by decide) (by decide)
theorem O54 (hs : Sh h) : 54 < zn h ∧ zK h 54 = 0 := Oo hs (by decide)
theorem A55 (hs : Sh h) : isA h 16 55 256 := Aa hs (by decide) (by decide) (by decide)
theorem A56 (hs : Sh h) : isA h 16 56 256 := Aa hs (by decide) (by decide) (by decide)
theorem A57 (hs : Sh h) : isA h 14 57 256 := Aa hs (by decide) (by decide) (by decide)
theorem A58 (hs : Sh h) : isA h 14 58 256 := Aa hs (by decide) (by decide) (by decide)
theorem A59 (hs : Sh h) : isA h 14 59 256 := Aa hs (by decide) (by decide) (by decide)
theorem A60 (hs : Sh h) : isA h 14 60 8 := Aa hs (by decide) (by decide) (by decide)
theorem O61 (hs : Sh h) : 61 < zn h ∧ zK h 61 = 1 := Oo hs (by decide)
theorem O63 (hs : Sh h) : 63 < zn h ∧ zK h 63 = 6 := Oo hs (by decide)
theorem A64 (hs : Sh h) : isA h 14 64 256 := Aa hs (by decide) (by decide) (by decide)
theorem A65 (hs : Sh h) : isA h 14 65 256 := Aa hs (by decide) (by decide) (by decide)
theorem A66 (hs : Sh h) : isA h 14 66 1024 := Aa hs (by decide) (by decide) (by decide)
theorem A67 (hs : Sh h) : isA h 14 67 256 := Aa hs (by decide) (by decide) (by decide)
theorem A68 (hs : Sh h) : isA h 14 68 8 := Aa hs (by decide) (by decide) (by decide)
theorem A69 (hs : Sh h) : isA h 14 69 8 := Aa hs (by decide) (by decide) (by decide)
theorem A70 (hs : Sh h) : isA h 14 70 8 := Aa hs (by decide) (by decide) (by decide)
theorem O71 (hs : Sh h) : 71 < zn h ∧ zK h 71 = 1 := Oo hs (by decide)
theorem O73 (hs : Sh h) : 73 < zn h ∧ zK h 73 = 8 := Oo hs (by decide)
theorem A74 (hs : Sh h) : isA h 15 74 256 := Aa hs (by decide) (by decide) (by decide)
theorem A75 (hs : Sh h) : isA h 14 75 64 := Aa hs (by decide) (by decide) (by decide)
theorem O76 (hs : Sh h) : 76 < zn h ∧ zK h 76 = 5 := Oo hs (by decide)
theorem A77 (hs : Sh h) : isA h 15 77 64 := Aa hs (by decide) (by decide) (by decide)
theorem A78 (hs : Sh h) : isA h 15 78 64 := Aa hs (by decide) (by decide) (by decide)
theorem A79 (hs : Sh h) : isA h 15 79 64 := Aa hs (by decide) (by decide) (by decide)
theorem A80 (hs : Sh h) : isA h 15 80 9 := Aa hs (by decide) (by decide) (by decide)
theorem O81 (hs : Sh h) : 81 < zn h ∧ zK h 81 = 1 := Oo hs (by decide)
theorem O83 (hs : Sh h) : 83 < zn h ∧ zK h 83 = 1 := Oo hs (by decide)
theorem O85 (hs : Sh h) : 85 < zn h ∧ zK h 85 = 1 := Oo hs (by decide)
theorem O87 (hs : Sh h) : 87 < zn h ∧ zK h 87 = 1 := Oo hs (by decide)
theorem O89 (hs : Sh h) : 89 < zn h ∧ zK h 89 = 1 := Oo hs (by decide)
theorem O91 (hs : Sh h) : 91 < zn h ∧ zK h 91 = 1 := Oo hs (by decide)
theorem O93 (hs : Sh h) : 93 < zn h ∧ zK h 93 = 1 := Oo hs (by decide)
theorem O95 (hs : Sh h) : 95 < zn h ∧ zK h 95 = 1 := Oo hs (by decide)
theorem O97 (hs : Sh h) : 97 < zn h ∧ zK h 97 = 1 := Oo hs (by decide)
theorem O99 (hs : Sh h) : 99 < zn h ∧ zK h 99 = 1 := Oo hs (by decide)
theorem O101 (hs : Sh h) : 101 < zn h ∧ zK h 101 = 1 := Oo hs (by decide)
theorem O103 (hs : Sh h) : 103 < zn h ∧ zK h 103 = 1 := Oo hs (by decide)
theorem O105 (hs : Sh h) : 105 < zn h ∧ zK h 105 = 3 := Oo hs (by decide)
theorem O108 (hs : Sh h) : 108 < zn h ∧ zK h 108 = 3 := Oo hs (by decide)
theorem O111 (hs : Sh h) : 111 < zn h ∧ zK h 111 = 3 := Oo hs (by decide)
theorem O114 (hs : Sh h) : 114 < zn h ∧ zK h 114 = 3 := Oo hs (by decide)
theorem O117 (hs : Sh h) : 117 < zn h ∧ zK h 117 = 11 := Oo hs (by decide)
theorem A118 (hs : Sh h) : isA h 14 118 192 := Aa hs (by decide) (by decide) (by decide)
theorem A119 (hs : Sh h) : isA h 14 119 32 := Aa hs (by decide) (by decide) (by decide)
theorem A120 (hs : Sh h) : isA h 14 120 320 := Aa hs (by decide) (by decide) (by decide)
theorem A121 (hs : Sh h) : isA h 14 121 10 := Aa hs (by decide) (by decide) (by decide)
theorem A122 (hs : Sh h) : isA h 14 122 192 := Aa hs (by decide) (by decide) (by decide)
theorem A123 (hs : Sh h) : isA h 14 123 120 := Aa hs (by decide) (by decide) (by decide)
theorem A124 (hs : Sh h) : isA h 14 124 1100 := Aa hs (by decide) (by decide) (by decide)
theorem A125 (hs : Sh h) : isA h 14 125 1100 := Aa hs (by decide) (by decide) (by decide)
theorem A126 (hs : Sh h) : isA h 14 126 1024 := Aa hs (by decide) (by decide) (by decide)
theorem A127 (hs : Sh h) : isA h 15 127 7936 := Aa hs (by decide) (by decide) (by decide)
theorem A128 (hs : Sh h) : isA h 14 128 64 := Aa hs (by decide) (by decide) (by decide)
theorem A129 (hs : Sh h) : isA h 15 129 64 := Aa hs (by decide) (by decide) (by decide)
theorem A130 (hs : Sh h) : isA h 15 130 64 := Aa hs (by decide) (by decide) (by decide)
theorem A131 (hs : Sh h) : isA h 15 131 64 := Aa hs (by decide) (by decide) (by decide)
theorem A132 (hs : Sh h) : isA h 15 132 9 := Aa hs (by decide) (by decide) (by decide)
theorem A133 (hs : Sh h) : isA h 14 133 256 := Aa hs (by decide) (by decide) (by decide)
theorem A134 (hs : Sh h) : isA h 14 134 256 := Aa hs (by decide) (by decide) (by decide)
theorem A135 (hs : Sh h) : isA h 14 135 256 := Aa hs (by decide) (by decide) (by decide)
theorem A136 (hs : Sh h) : isA h 16 136 256 := Aa hs (by decide) (by decide) (by decide)
theorem A137 (hs : Sh h) : isA h 14 137 256 := Aa hs (by decide) (by decide) (by decide)
theorem A138 (hs : Sh h) : isA h 14 138 8 := Aa hs (by decide) (by decide) (by decide)
theorem A139 (hs : Sh h) : isA h 14 139 32 := Aa hs (by decide) (by decide) (by decide)
theorem A140 (hs : Sh h) : isA h 14 140 256 := Aa hs (by decide) (by decide) (by decide)
theorem A141 (hs : Sh h) : isA h 14 141 256 := Aa hs (by decide) (by decide) (by decide)
theorem A142 (hs : Sh h) : isA h 14 142 8 := Aa hs (by decide) (by decide) (by decide)
theorem A143 (hs : Sh h) : isA h 14 143 32 := Aa hs (by decide) (by decide) (by decide)
theorem A144 (hs : Sh h) : isA h 14 144 1024 := Aa hs (by decide) (by decide) (by decide)
theorem A145 (hs : Sh h) : isA h 14 145 65536 := Aa hs (by decide) (by decide) (by decide)
theorem A146 (hs : Sh h) : isA h 14 146 65536 := Aa hs (by decide) (by decide) (by decide)
theorem A147 (hs : Sh h) : isA h 15 147 256 := Aa hs (by decide) (by decide) (by decide)
theorem A148 (hs : Sh h) : isA h 14 148 4 := Aa hs (by decide) (by decide) (by decide)
theorem A149 (hs : Sh h) : isA h 14 149 4 := Aa hs (by decide) (by decide) (by decide)
theorem A150 (hs : Sh h) : isA h 14 150 120 := Aa hs (by decide) (by decide) (by decide)
theorem A151 (hs : Sh h) : isA h 13 151 120 := Aa hs (by decide) (by decide) (by decide)
theorem R0_0 (hs : Sh h) : gR h 10 0 0 = some 1 := (gR_ok (O0 hs).1 (O0 hs).2).trans (Rr hs (by decide) (by decide) (by decide) (by decide))
theorem R0_1 (hs : Sh h) : gR h 10 0 1 = some 2 := (gR_ok (O0 hs).1 (O0 hs).2).trans (Rr hs (by decide) (by decide) (by decide) (by decide))
theorem R0_3 (hs : Sh h) : gR h 10 0 3 = some 3 := (gR_ok (O0 hs).1 (O0 hs).2).trans (Rr hs (by decide) (by decide) (by decide) (by decide))
theorem R0_4 (hs : Sh h) : gR h 10 0 4 = some 26 := (gR_ok (O0 hs).1 (O0 hs).2).trans (Rr hs (by decide) (by decide) (by decide) (by decide))
theorem R0_5 (hs : Sh h) : gR h 10 0 5 = some 28 := (gR_ok (O0 hs).1 (O0 hs).2).trans (Rr hs (by decide) (by decide) (by decide) (by decide))
theorem R0_6 (hs : Sh h) : gR h 10 0 6 = some 30 := (gR_ok (O0 hs).1 (O0 hs).2).trans (Rr hs (by decide) (by decide) (by decide) (by decide))
theorem R0_7 (hs : Sh h) : gR h 10 0 7 = some 31 := (gR_ok (O0 hs).1 (O0 hs).2).trans (Rr hs (by decide) (by decide) (by decide) (by decide))
theorem R0_8 (hs : Sh h) : gR h 10 0 8 = some 33 := (gR_ok (O0 hs).1 (O0 hs).2).trans (Rr hs (by decide) (by decide) (by decide) (by decide))
theorem R0_9 (hs : Sh h) : gR h 10 0 9 = some 35 := (gR_ok (O0 hs).1 (O0 hs).2).trans (Rr hs (by decide) (by decide) (by decide) (by decide))
theorem R0_10 (hs : Sh h) : gR h 10 0 10 = some 37 := (gR_ok (O0 hs).1 (O0 hs).2).trans (Rr hs (by decide) (by decide) (by decide) (by decide))
theorem R0_11 (hs : Sh h) : gR h 10 0 11 = some 43 := (gR_ok (O0 hs).1 (O0 hs).2).trans (Rr hs (by decide) (by decide) (by decide) (by decide))
theorem R0_12 (hs : Sh h) : gR h 10 0 12 = some 49 := (gR_ok (O0 hs).1 (O0 hs).2).trans (Rr hs (by decide) (by decide) (by decide) (by decide))
theorem R0_13 (hs : Sh h) : gR h 10 0 13 = some 51 := (gR_ok (O0 hs).1 (O0 hs).2).trans (Rr hs (by decide) (by decide) (by decide) (by decide))
theorem R0_14 (hs : Sh h) : gR h 10 0 14 = some 54 := (gR_ok (O0 hs).1 (O0 hs).2).trans (Rr hs (by decide) (by decide) (by decide) (by decide))
theorem R0_15 (hs : Sh h) : gR h 10 0 15 = some 73 := (gR_ok (O0 hs).1 (O0 hs).2).trans (Rr hs (by decide) (by decide) (by decide) (by decide))
theorem R0_16 (hs : Sh h) : gR h 10 0 16 = some 76 := (gR_ok (O0 hs).1 (O0 hs).2).trans (Rr hs (by decide) (by decide) (by decide) (by decide))
theorem R3_0 (hs : Sh h) : gR h 2 3 0 = some 4 := (gR_ok (O3 hs).1 (O3 hs).2).trans (Rr hs (by decide) (by decide) (by decide) (by decide))
theorem R3_1 (hs : Sh h) : gR h 2 3 1 = some 5 := (gR_ok (O3 hs).1 (O3 hs).2).trans (Rr hs (by decide) (by decide) (by decide) (by decide))
theorem R6_0 (hs : Sh h) : gR h 1 6 0 = some 7 := (gR_ok (O6 hs).1 (O6 hs).2).trans (Rr hs (by decide) (by decide) (by decide) (by decide))
theorem R8_0 (hs : Sh h) : gR h 1 8 0 = some 9 := (gR_ok (O8 hs).1 (O8 hs).2).trans (Rr hs (by decide) (by decide) (by decide) (by decide))
theorem R10_0 (hs : Sh h) : gR h 1 10 0 = some 11 := (gR_ok (O10 hs).1 (O10 hs).2).trans (Rr hs (by decide) (by decide) (by decide) (by decide))
theorem R12_0 (hs : Sh h) : gR h 1 12 0 = some 13 := (gR_ok (O12 hs).1 (O12 hs).2).trans (Rr hs (by decide) (by decide) (by decide) (by decide))
theorem R14_0 (hs : Sh h) : gR h 1 14 0 = some 15 := (gR_ok (O14 hs).1 (O14 hs).2).trans (Rr hs (by decide) (by decide) (by decide) (by decide))
theorem R16_0 (hs : Sh h) : gR h 1 16 0 = some 17 := (gR_ok (O16 hs).1 (O16 hs).2).trans (Rr hs (by decide) (by decide) (by decide) (by decide))
theorem R18_0 (hs : Sh h) : gR h 1 18 0 = some 19 := (gR_ok (O18 hs).1 (O18 hs).2).trans (Rr hs (by decide) (by decide) (by decide) (by decide))
theorem R20_0 (hs : Sh h) : gR h 1 20 0 = some 21 := (gR_ok (O20 hs).1 (O20 hs).2).trans (Rr hs (by decide) (by decide) (by decide) (by decide))
theorem R22_0 (hs : Sh h) : gR h 1 22 0 = some 23 := (gR_ok (O22 hs).1 (O22 hs).2).trans (Rr hs (by decide) (by decide) (by decide) (by decide))
theorem R24_0 (hs : Sh h) : gR h 1 24 0 = some 25 := (gR_ok (O24 hs).1 (O24 hs).2).trans (Rr hs (by decide) (by decide) (by decide) (by decide))
theorem R26_0 (hs : Sh h) : gR h 7 26 0 = some 27 := (gR_ok (O26 hs).1 (O26 hs).2).trans (Rr hs (by decide) (by decide) (by decide) (by decide))
theorem R28_0 (hs : Sh h) : gR h 7 28 0 = some 29 := (gR_ok (O28 hs).1 (O28 hs).2).trans (Rr hs (by decide) (by decide) (by decide) (by decide))
theorem R31_0 (hs : Sh h) : gR h 1 31 0 = some 32 := (gR_ok (O31 hs).1 (O31 hs).2).trans (Rr hs (by decide) (by decide) (by decide) (by decide))
theorem R33_0 (hs : Sh h) : gR h 1 33 0 = some 34 := (gR_ok (O33 hs).1 (O33 hs).2).trans (Rr hs (by decide) (by decide) (by decide) (by decide))
theorem R35_0 (hs : Sh h) : gR h 1 35 0 = some 36 := (gR_ok (O35 hs).1 (O35 hs).2).trans (Rr hs (by decide) (by decide) (by decide) (by decide))
theorem R37_0 (hs : Sh h) : gR h 6 37 0 = some 38 := (gR_ok (O37 hs).1 (O37 hs).2).trans (Rr hs (by decide) (by decide) (by decide) (by decide))
theorem R37_1 (hs : Sh h) : gR h 6 37 1 = some 39 := (gR_ok (O37 hs).1 (O37 hs).2).trans (Rr hs (by decide) (by decide) (by decide) (by decide))
theorem R37_2 (hs : Sh h) : gR h 6 37 2 = some 40 := (gR_ok (O37 hs).1 (O37 hs).2).trans (Rr hs (by decide) (by decide) (by decide) (by decide))
theorem R37_3 (hs : Sh h) : gR h 6 37 3 = some 41 := (gR_ok (O37 hs).1 (O37 hs).2).trans (Rr hs (by decide) (by decide) (by decide) (by decide))
theorem R37_4 (hs : Sh h) : gR h 6 37 4 = some 42 := (gR_ok (O37 hs).1 (O37 hs).2).trans (Rr hs (by decide) (by decide) (by decide) (by decide))
theorem R43_0 (hs : Sh h) : gR h 6 43 0 = some 44 := (gR_ok (O43 hs).1 (O43 hs).2).trans (Rr hs (by decide) (by decide) (by decide) (by decide))
theorem R43_1 (hs : Sh h) : gR h 6 43 1 = some 45 := (gR_ok (O43 hs).1 (O43 hs).2).trans (Rr hs (by decide) (by decide) (by decide) (by decide))
theorem R43_2 (hs : Sh h) : gR h 6 43 2 = some 46 := (gR_ok (O43 hs).1 (O43 hs).2).trans (Rr hs (by decide) (by decide) (by decide) (by decide))
theorem R43_3 (hs : Sh h) : gR h 6 43 3 = some 47 := (gR_ok (O43 hs).1 (O43 hs).2).trans (Rr hs (by decide) (by decide) (by decide) (by decide))
theorem R43_4 (hs : Sh h) : gR h 6 43 4 = some 48 := (gR_ok (O43 hs).1 (O43 hs).2).trans (Rr hs (by decide) (by decide) (by decide) (by decide))
theorem R49_0 (hs : Sh h) : gR h 9 49 0 = some 50 := (gR_ok (O49 hs).1 (O49 hs).2).trans (Rr hs (by decide) (by decide) (by decide) (by decide))
theorem R51_2 (hs : Sh h) : gR h 4 51 2 = some 53 := (gR_ok (O51 hs).1 (O51 hs).2).trans (Rr hs (by decide) (by decide) (by decide) (by decide))
theorem R54_0 (hs : Sh h) : gR h 0 54 0 = some 55 := (gR_ok (O54 hs).1 (O54 hs).2).trans (Rr hs (by decide) (by decide) (by decide) (by decide))
theorem R54_1 (hs : Sh h) : gR h 0 54 1 = some 56 := (gR_ok (O54 hs).1 (O54 hs).2).trans (Rr hs (by decide) (by decide) (by decide) (by decide))
theorem R54_2 (hs : Sh h) : gR h 0 54 2 = some 57 := (gR_ok (O54 hs).1 (O54 hs).2).trans (Rr hs (by decide) (by decide) (by decide) (by decide))
theorem R54_4 (hs : Sh h) : gR h 0 54 4 = some 58 := (gR_ok (O54 hs).1 (O54 hs).2).trans (Rr hs (by decide) (by decide) (by decide) (by decide))
theorem R54_5 (hs : Sh h) : gR h 0 54 5 = some 59 := (gR_ok (O54 hs).1 (O54 hs).2).trans (Rr hs (by decide) (by decide) (by decide) (by decide))
theorem R54_6 (hs : Sh h) : gR h 0 54 6 = some 60 := (gR_ok (O54 hs).1 (O54 hs).2).trans (Rr hs (by decide) (by decide) (by decide) (by decide))
theorem R54_8 (hs : Sh h) : gR h 0 54 8 = some 61 := (gR_ok (O54 hs).1 (O54 hs).2).trans (Rr hs (by decide) (by decide) (by decide) (by decide))
theorem R54_9 (hs : Sh h) : gR h 0 54 9 = some 63 := (gR_ok (O54 hs).1 (O54 hs).2).trans (Rr hs (by decide) (by decide) (by decide) (by decide))
theorem R54_11 (hs : Sh h) : gR h 0 54 11 = some 69 := (gR_ok (O54 hs).1 (O54 hs).2).trans (Rr hs (by decide) (by decide) (by decide) (by decide))
theorem R54_12 (hs : Sh h) : gR h 0 54 12 = some 70 := (gR_ok (O54 hs).1 (O54 hs).2).trans (Rr hs (by decide) (by decide) (by decide) (by decide))
theorem R54_13 (hs : Sh h) : gR h 0 54 13 = some 71 := (gR_ok (O54 hs).1 (O54 hs).2).trans (Rr hs (by decide) (by decide) (by decide) (by decide))
theorem R61_0 (hs : Sh h) : gR h 1 61 0 = some 62 := (gR_ok (O61 hs).1 (O61 hs).2).trans (Rr hs (by decide) (by decide) (by decide) (by decide))
theorem R63_0 (hs : Sh h) : gR h 6 63 0 = some 64 := (gR_ok (O63 hs).1 (O63 hs).2).trans (Rr hs (by decide) (by decide) (by decide) (by decide))
theorem R63_1 (hs : Sh h) : gR h 6 63 1 = some 65 := (gR_ok (O63 hs).1 (O63 hs).2).trans (Rr hs (by decide) (by decide) (by decide) (by decide))
theorem R63_2 (hs : Sh h) : gR h 6 63 2 = some 66 := (gR_ok (O63 hs).1 (O63 hs).2).trans (Rr hs (by decide) (by decide) (by decide) (by decide))
theorem R63_3 (hs : Sh h) : gR h 6 63 3 = some 67 := (gR_ok (O63 hs).1 (O63 hs).2).trans (Rr hs (by decide) (by decide) (by decide) (by decide))
theorem R63_4 (hs : Sh h) : gR h 6 63 4 = some 68 := (gR_ok (O63 hs).1 (O63 hs).2).trans (Rr hs (by decide) (by decide) (by decide) (by decide))
theorem R71_0 (hs : Sh h) : gR h 1 71 0 = some 72 := (gR_ok (O71 hs).1 (O71 hs).2).trans (Rr hs (by decide) (by decide) (by decide) (by decide))
theorem R73_0 (hs : Sh h) : gR h 8 73 0 = some 74 := (gR_ok (O73 hs).1 (O73 hs).2).trans (Rr hs (by decide) (by decide) (by decide) (by decide))
theorem R73_1 (hs : Sh h) : gR h 8 73 1 = some 75 := (gR_ok (O73 hs).1 (O73 hs).2).trans (Rr hs (by decide) (by decide) (by decide) (by decide))
theorem R76_0 (hs : Sh h) : gR h 5 76 0 = some 77 := (gR_ok (O76 hs).1 (O76 hs).2).trans (Rr hs (by decide) (by decide) (by decide) (by decide))
theorem R76_1 (hs : Sh h) : gR h 5 76 1 = some 78 := (gR_ok (O76 hs).1 (O76 hs).2).trans (Rr hs (by decide) (by decide) (by decide) (by decide))
theorem R76_2 (hs : Sh h) : gR h 5 76 2 = some 79 := (gR_ok (O76 hs).1 (O76 hs).2).trans (Rr hs (by decide) (by decide) (by decide) (by decide))
theorem R76_3 (hs : Sh h) : gR h 5 76 3 = some 80 := (gR_ok (O76 hs).1 (O76 hs).2).trans (Rr hs (by decide) (by decide) (by decide) (by decide))
theorem R81_0 (hs : Sh h) : gR h 1 81 0 = some 82 := (gR_ok (O81 hs).1 (O81 hs).2).trans (Rr hs (by decide) (by decide) (by decide) (by decide))
theorem R83_0 (hs : Sh h) : gR h 1 83 0 = some 84 := (gR_ok (O83 hs).1 (O83 hs).2).trans (Rr hs (by decide) (by decide) (by decide) (by decide))
theorem R85_0 (hs : Sh h) : gR h 1 85 0 = some 86 := (gR_ok (O85 hs).1 (O85 hs).2).trans (Rr hs (by decide) (by decide) (by decide) (by decide))
theorem R87_0 (hs : Sh h) : gR h 1 87 0 = some 88 := (gR_ok (O87 hs).1 (O87 hs).2).trans (Rr hs (by decide) (by decide) (by decide) (by decide))
theorem R89_0 (hs : Sh h) : gR h 1 89 0 = some 90 := (gR_ok (O89 hs).1 (O89 hs).2).trans (Rr hs (by decide) (by decide) (by decide) (by decide))
theorem R91_0 (hs : Sh h) : gR h 1 91 0 = some 92 := (gR_ok (O91 hs).1 (O91 hs).2).trans (Rr hs (by decide) (by decide) (by decide) (by decide))
theorem R93_0 (hs : Sh h) : gR h 1 93 0 = some 94 := (gR_ok (O93 hs).1 (O93 hs).2).trans (Rr hs (by decide) (by decide) (by decide) (by decide))
theorem R95_0 (hs : Sh h) : gR h 1 95 0 = some 96 := (gR_ok (O95 hs).1 (O95 hs).2).trans (Rr hs (by decide) (by decide) (by decide) (by decide))
theorem R97_0 (hs : Sh h) : gR h 1 97 0 = some 98 := (gR_ok (O97 hs).1 (O97 hs).2).trans (Rr hs (by decide) (by decide) (by decide) (by decide))
theorem R99_0 (hs : Sh h) : gR h 1 99 0 = some 100 := (gR_ok (O99 hs).1 (O99 hs).2).trans (Rr hs (by decide) (by decide) (by decide) (by decide))
theorem R101_0 (hs : Sh h) : gR h 1 101 0 = some 102 := (gR_ok (O101 hs).1 (O101 hs).2).trans (Rr hs (by decide) (by decide) (by decide) (by decide))
theorem R103_0 (hs : Sh h) : gR h 1 103 0 = some 104 := (gR_ok (O103 hs).1 (O103 hs).2).trans (Rr hs (by decide) (by decide) (by decide) (by decide))
theorem R117_0 (hs : Sh h) : gR h 11 117 0 = some 118 := (gR_ok (O117 hs).1 (O117 hs).2).trans (Rr hs (by decide) (by decide) (by decide) (by decide))
theorem R117_1 (hs : Sh h) : gR h 11 117 1 = some 119 := (gR_ok (O117 hs).1 (O117 hs).2).trans (Rr hs (by decide) (by decide) (by decide) (by decide))
theorem R117_2 (hs : Sh h) : gR h 11 117 2 = some 120 := (gR_ok (O117 hs).1 (O117 hs).2).trans (Rr hs (by decide) (by decide) (by decide) (by decide))
theorem R117_3 (hs : Sh h) : gR h 11 117 3 = some 121 := (gR_ok (O117 hs).1 (O117 hs).2).trans (Rr hs (by decide) (by decide) (by decide) (by decide))
theorem R117_5 (hs : Sh h) : gR h 11 117 5 = some 122 := (gR_ok (O117 hs).1 (O117 hs).2).trans (Rr hs (by decide) (by decide) (by decide) (by decide))
theorem R117_7 (hs : Sh h) : gR h 11 117 7 = some 123 := (gR_ok (O117 hs).1 (O117 hs).2).trans (Rr hs (by decide) (by decide) (by decide) (by decide))
theorem R117_9 (hs : Sh h) : gR h 11 117 9 = some 124 := (gR_ok (O117 hs).1 (O117 hs).2).trans (Rr hs (by decide) (by decide) (by decide) (by decide))
theorem R117_11 (hs : Sh h) : gR h 11 117 11 = some 125 := (gR_ok (O117 hs).1 (O117 hs).2).trans (Rr hs (by decide) (by decide) (by decide) (by decide))
theorem R117_13 (hs : Sh h) : gR h 11 117 13 = some 126 := (gR_ok (O117 hs).1 (O117 hs).2).trans (Rr hs (by decide) (by decide) (by decide) (by decide))
theorem R117_15 (hs : Sh h) : gR h 11 117 15 = some 127 := (gR_ok (O117 hs).1 (O117 hs).2).trans (Rr hs (by decide) (by decide) (by decide) (by decide))
theorem R117_16 (hs : Sh h) : gR h 11 117 16 = some 128 := (gR_ok (O117 hs).1 (O117 hs).2).trans (Rr hs (by decide) (by decide) (by decide) (by decide))
theorem R117_18 (hs : Sh h) : gR h 11 117 18 = some 129 := (gR_ok (O117 hs).1 (O117 hs).2).trans (Rr hs (by decide) (by decide) (by decide) (by decide))
theorem R117_19 (hs : Sh h) : gR h 11 117 19 = some 130 := (gR_ok (O117 hs).1 (O117 hs).2).trans (Rr hs (by decide) (by decide) (by decide) (by decide))
theorem R117_20 (hs : Sh h) : gR h 11 117 20 = some 131 := (gR_ok (O117 hs).1 (O117 hs).2).trans (Rr hs (by decide) (by decide) (by decide) (by decide))
theorem R117_21 (hs : Sh h) : gR h 11 117 21 = some 132 := (gR_ok (O117 hs).1 (O117 hs).2).trans (Rr hs (by decide) (by decide) (by decide) (by decide))
theorem R117_22 (hs : Sh h) : gR h 11 117 22 = some 133 := (gR_ok (O117 hs).1 (O117 hs).2).trans (Rr hs (by decide) (by decide) (by decide) (by decide))
theorem R117_24 (hs : Sh h) : gR h 11 117 24 = some 134 := (gR_ok (O117 hs).1 (O117 hs).2).trans (Rr hs (by decide) (by decide) (by decide) (by decide))
theorem R117_25 (hs : Sh h) : gR h 11 117 25 = some 135 := (gR_ok (O117 hs).1 (O117 hs).2).trans (Rr hs (by decide) (by decide) (by decide) (by decide))
theorem R117_26 (hs : Sh h) : gR h 11 117 26 = some 136 := (gR_ok (O117 hs).1 (O117 hs).2).trans (Rr hs (by decide) (by decide) (by decide) (by decide))
theorem R117_27 (hs : Sh h) : gR h 11 117 27 = some 137 := (gR_ok (O117 hs).1 (O117 hs).2).trans (Rr hs (by decide) (by decide) (by decide) (by decide))
theorem R117_29 (hs : Sh h) : gR h 11 117 29 = some 138 := (gR_ok (O117 hs).1 (O117 hs).2).trans (Rr hs (by decide) (by decide) (by decide) (by decide))
theorem R117_31 (hs : Sh h) : gR h 11 117 31 = some 139 := (gR_ok (O117 hs).1 (O117 hs).2).trans (Rr hs (by decide) (by decide) (by decide) (by decide))
theorem R117_32 (hs : Sh h) : gR h 11 117 32 = some 140 := (gR_ok (O117 hs).1 (O117 hs).2).trans (Rr hs (by decide) (by decide) (by decide) (by decide))
theorem R117_33 (hs : Sh h) : gR h 11 117 33 = some 141 := (gR_ok (O117 hs).1 (O117 hs).2).trans (Rr hs (by decide) (by decide) (by decide) (by decide))
theorem R117_34 (hs : Sh h) : gR h 11 117 34 = some 142 := (gR_ok (O117 hs).1 (O117 hs).2).trans (Rr hs (by decide) (by decide) (by decide) (by decide))
theorem R117_35 (hs : Sh h) : gR h 11 117 35 = some 143 := (gR_ok (O117 hs).1 (O117 hs).2).trans (Rr hs (by decide) (by decide) (by decide) (by decide))
theorem R117_36 (hs : Sh h) : gR h 11 117 36 = some 144 := (gR_ok (O117 hs).1 (O117 hs).2).trans (Rr hs (by decide) (by decide) (by decide) (by decide))
theorem R117_37 (hs : Sh h) : gR h 11 117 37 = some 145 := (gR_ok (O117 hs).1 (O117 hs).2).trans (Rr hs (by decide) (by decide) (by decide) (by decide))
theorem R117_38 (hs : Sh h) : gR h 11 117 38 = some 146 := (gR_ok (O117 hs).1 (O117 hs).2).trans (Rr hs (by decide) (by decide) (by decide) (by decide))
theorem R117_39 (hs : Sh h) : gR h 11 117 39 = some 147 := (gR_ok (O117 hs).1 (O117 hs).2).trans (Rr hs (by decide) (by decide) (by decide) (by decide))
theorem R117_40 (hs : Sh h) : gR h 11 117 40 = some 148 := (gR_ok (O117 hs).1 (O117 hs).2).trans (Rr hs (by decide) (by decide) (by decide) (by decide))
theorem R117_41 (hs : Sh h) : gR h 11 117 41 = some 149 := (gR_ok (O117 hs).1 (O117 hs).2).trans (Rr hs (by decide) (by decide) (by decide) (by decide))
theorem R117_42 (hs : Sh h) : gR h 11 117 42 = some 150 := (gR_ok (O117 hs).1 (O117 hs).2).trans (Rr hs (by decide) (by decide) (by decide) (by decide))
theorem R117_43 (hs : Sh h) : gR h 11 117 43 = some 151 := (gR_ok (O117 hs).1 (O117 hs).2).trans (Rr hs (by decide) (by decide) (by decide) (by decide))
theorem g31 (hs : Sh h) : isG h 31 32 := ⟨⟨(O31 hs).1, (O31 hs).2, Rr hs (by decide) (by decide) (by decide) (by decide)⟩, Aa hs (by decide) (by decide) (by decide)⟩
theorem g33 (hs : Sh h) : isG h 33 34 := ⟨⟨(O33 hs).1, (O33 hs).2, Rr hs (by decide) (by decide) (by decide) (by decide)⟩, Aa hs (by decide) (by decide) (by decide)⟩
theorem g35 (hs : Sh h) : isG h 35 36 := ⟨⟨(O35 hs).1, (O35 hs).2, Rr hs (by decide) (by decide) (by decide) (by decide)⟩, Aa hs (by decide) (by decide) (by decide)⟩
theorem g61 (hs : Sh h) : isG h 61 62 := ⟨⟨(O61 hs).1, (O61 hs).2, Rr hs (by decide) (by decide) (by decide) (by decide)⟩, Aa hs (by decide) (by decide) (by decide)⟩
theorem g71 (hs : Sh h) : isG h 71 72 := ⟨⟨(O71 hs).1, (O71 hs).2, Rr hs (by decide) (by decide) (by decide) (by decide)⟩, Aa hs (by decide) (by decide) (by decide)⟩
theorem gS (hs : Sh h) {s : Nat} (h6 : s < 6) : isG h (81 + 4 * s) (82 + 4 * s) := by
  rcases (show s = 0 ∨ s = 1 ∨ s = 2 ∨ s = 3 ∨ s = 4 ∨ s = 5 by omega) with rfl | rfl | rfl | rfl | rfl | rfl <;> exact ⟨⟨(Oo hs (by decide)).1, (Oo hs (by decide)).2, Rr hs (by decide) (by decide) (by decide) (by decide)⟩, Aa hs (by decide) (by decide) (by decide)⟩
theorem gK (hs : Sh h) {s : Nat} (h6 : s < 6) : isG h (83 + 4 * s) (84 + 4 * s) := by
  rcases (show s = 0 ∨ s = 1 ∨ s = 2 ∨ s = 3 ∨ s = 4 ∨ s = 5 by omega) with rfl | rfl | rfl | rfl | rfl | rfl <;> exact ⟨⟨(Oo hs (by decide)).1, (Oo hs (by decide)).2, Rr hs (by decide) (by decide) (by decide) (by decide)⟩, Aa hs (by decide) (by decide) (by decide)⟩
theorem gH (hs : Sh h) {s : Nat} (h6 : s < 10) : isG h (6 + 2 * s) (7 + 2 * s) := by
  rcases (show s = 0 ∨ s = 1 ∨ s = 2 ∨ s = 3 ∨ s = 4 ∨ s = 5 ∨ s = 6 ∨ s = 7 ∨ s = 8 ∨ s = 9 by omega) with rfl | rfl | rfl | rfl | rfl | rfl | rfl | rfl | rfl | rfl <;> exact ⟨⟨(Oo hs (by decide)).1, (Oo hs (by decide)).2, Rr hs (by decide) (by decide) (by decide) (by decide)⟩, Aa hs (by decide) (by decide) (by decide)⟩
theorem rS (hs : Sh h) {s : Nat} (h6 : s < 6) : lR h 17 1 (nI s) = some (81 + 4 * s) := by
  rw [(Aa hs (a := 1) (kind := 17) (n := 6) (by decide) (by decide) (by decide)).lR h6 (by decide)]
  rcases (show s = 0 ∨ s = 1 ∨ s = 2 ∨ s = 3 ∨ s = 4 ∨ s = 5 by omega) with rfl | rfl | rfl | rfl | rfl | rfl <;> exact Rr hs (by decide) (by decide) (by decide) (by decide)
theorem rK (hs : Sh h) {s : Nat} (h6 : s < 6) : lR h 17 2 (nI s) = some (83 + 4 * s) := by
  rw [(Aa hs (a := 2) (kind := 17) (n := 6) (by decide) (by decide) (by decide)).lR h6 (by decide)]
  rcases (show s = 0 ∨ s = 1 ∨ s = 2 ∨ s = 3 ∨ s = 4 ∨ s = 5 by omega) with rfl | rfl | rfl | rfl | rfl | rfl <;> exact Rr hs (by decide) (by decide) (by decide) (by decide)
theorem rH (hs : Sh h) {s : Nat} (h6 : s < 10) : lR h 17 4 (nI s) = some (6 + 2 * s) := by
  rw [(Aa hs (a := 4) (kind := 17) (n := 10) (by decide) (by decide) (by decide)).lR h6 (by decide)]
  rcases (show s = 0 ∨ s = 1 ∨ s = 2 ∨ s = 3 ∨ s = 4 ∨ s = 5 ∨ s = 6 ∨ s = 7 ∨ s = 8 ∨ s = 9 by omega) with rfl | rfl | rfl | rfl | rfl | rfl | rfl | rfl | rfl | rfl <;> exact Rr hs (by decide) (by decide) (by decide) (by decide)
theorem rR (hs : Sh h) {s : Nat} (h6 : s < 4) : lR h 18 30 (nI s) = some (105 + 3 * s) := by
  rw [(Aa hs (a := 30) (kind := 18) (n := 4) (by decide) (by decide) (by decide)).lR h6 (by decide)]
  rcases (show s = 0 ∨ s = 1 ∨ s = 2 ∨ s = 3 by omega) with rfl | rfl | rfl | rfl <;> exact Rr hs (by decide) (by decide) (by decide) (by decide)
theorem SC (hs : Sh h) : (0 < zn h) = True ∧ zK h 0 = 10 ∧ (∀ k, gI h 10 0 k = some (zI h 0 k)) ∧ (∀ k v, pI h 10 0 k v = some (zsI h (zu (zI h) 0 k v))) ∧ (3 < zn h) = True ∧ zK h 3 = 2 ∧ (∀ k, gI h 2 3 k = some (zI h 3 k)) ∧ (∀ k v, pI h 2 3 k v = some (zsI h (zu (zI h) 3 k v))) ∧ (26 < zn h) = True ∧ zK h 26 = 7 ∧ (∀ k, gI h 7 26 k = some (zI h 26 k)) ∧ (∀ k v, pI h 7 26 k v = some (zsI h (zu (zI h) 26 k v))) ∧ (28 < zn h) = True ∧ zK h 28 = 7 ∧ (∀ k, gI h 7 28 k = some (zI h 28 k)) ∧ (∀ k v, pI h 7 28 k v = some (zsI h (zu (zI h) 28 k v))) ∧ (31 < zn h) = True ∧ zK h 31 = 1 ∧ (33 < zn h) = True ∧ zK h 33 = 1 ∧ (35 < zn h) = True ∧ zK h 35 = 1 ∧ (37 < zn h) = True ∧ zK h 37 = 6 ∧ (∀ k, gI h 6 37 k = some (zI h 37 k)) ∧ (∀ k v, pI h 6 37 k v = some (zsI h (zu (zI h) 37 k v))) ∧ (43 < zn h) = True ∧ zK h 43 = 6 ∧ (∀ k, gI h 6 43 k = some (zI h 43 k)) ∧ (∀ k v, pI h 6 43 k v = some (zsI h (zu (zI h) 43 k v))) ∧ (49 < zn h) = True ∧ zK h 49 = 9 ∧ (∀ k, gI h 9 49 k = some (zI h 49 k)) ∧ (∀ k v, pI h 9 49 k v = some (zsI h (zu (zI h) 49 k v))) ∧ (51 < zn h) = True ∧ zK h 51 = 4 ∧ (∀ k, gI h 4 51 k = some (zI h 51 k)) ∧ (∀ k v, pI h 4 51 k v = some (zsI h (zu (zI h) 51 k v))) ∧ (54 < zn h) = True ∧ zK h 54 = 0 ∧ (∀ k, gI h 0 54 k = some (zI h 54 k)) ∧ (∀ k v, pI h 0 54 k v = some (zsI h (zu (zI h) 54 k v))) ∧ (61 < zn h) = True ∧ zK h 61 = 1 ∧ (63 < zn h) = True ∧ zK h 63 = 6 ∧ (∀ k, gI h 6 63 k = some (zI h 63 k)) ∧ (∀ k v, pI h 6 63 k v = some (zsI h (zu (zI h) 63 k v))) ∧ (71 < zn h) = True ∧ zK h 71 = 1 ∧ (73 < zn h) = True ∧ zK h 73 = 8 ∧ (76 < zn h) = True ∧ zK h 76 = 5 ∧ gR h 10 0 0 = some 1 ∧ gR h 10 0 1 = some 2 ∧ gR h 10 0 3 = some 3 ∧ gR h 10 0 4 = some 26 ∧ gR h 10 0 5 = some 28 ∧ gR h 10 0 6 = some 30 ∧ gR h 10 0 7 = some 31 ∧ gR h 10 0 8 = some 33 ∧ gR h 10 0 9 = some 35 ∧ gR h 10 0 10 = some 37 ∧ gR h 10 0 11 = some 43 ∧ gR h 10 0 12 = some 49 ∧ gR h 10 0 13 = some 51 ∧ gR h 10 0 14 = some 54 ∧ gR h 10 0 15 = some 73 ∧ gR h 10 0 16 = some 76 ∧ gR h 2 3 0 = some 4 ∧ gR h 2 3 1 = some 5 ∧ gR h 7 26 0 = some 27 ∧ gR h 7 28 0 = some 29 ∧ gR h 1 31 0 = some 32 ∧ gR h 1 33 0 = some 34 ∧ gR h 1 35 0 = some 36 ∧ gR h 6 37 0 = some 38 ∧ gR h 6 37 1 = some 39 ∧ gR h 6 37 2 = some 40 ∧ gR h 6 37 3 = some 41 ∧ gR h 6 37 4 = some 42 ∧ gR h 6 43 0 = some 44 ∧ gR h 6 43 1 = some 45 ∧ gR h 6 43 2 = some 46 ∧ gR h 6 43 3 = some 47 ∧ gR h 6 43 4 = some 48 ∧ gR h 9 49 0 = some 50 ∧ gR h 4 51 2 = some 53 ∧ gR h 0 54 0 = some 55 ∧ gR h 0 54 1 = some 56 ∧ gR h 0 54 2 = some 57 ∧ gR h 0 54 4 = some 58 ∧ gR h 0 54 5 = some 59 ∧ gR h 0 54 6 = some 60 ∧ gR h 0 54 8 = some 61 ∧ gR h 0 54 9 = some 63 ∧ gR h 0 54 11 = some 69 ∧ gR h 0 54 12 = some 70 ∧ gR h 0 54 13 = some 71 ∧ gR h 1 61 0 = some 62 ∧ gR h 6 63 0 = some 64 ∧ gR h 6 63 1 = some 65 ∧ gR h 6 63 2 = some 66 ∧ gR h 6 63 3 = some 67 ∧ gR h 6 63 4 = some 68 ∧ gR h 1 71 0 = some 72 ∧ gR h 8 73 0 = some 74 ∧ gR h 8 73 1 = some 75 ∧ gR h 5 76 0 = some 77 ∧ gR h 5 76 1 = some 78 ∧ gR h 5 76 2 = some 79 ∧ gR h 5 76 3 = some 80 ∧ (∀ j, j < 10 → lI h 14 5 (nI j) = some (zI h 5 j)) ∧ (∀ j v, j < 10 → sI h 14 5 (nI j) v = some (zsI h (zu (zI h) 5 j (zvn 14 v)))) ∧ (∀ j, j < 120 → lI h 12 27 (nI j) = some (zI h 27 j)) ∧ (∀ j v, j < 120 → sI h 12 27 (nI j) v = some (zsI h (zu (zI h) 27 j (zvn 12 v)))) ∧ (∀ j, j < 1024 → lI h 12 29 (nI j) = some (zI h 29 j)) ∧ (∀ j v, j < 1024 → sI h 12 29 (nI j) v = some (zsI h (zu (zI h) 29 j (zvn 12 v)))) ∧ (∀ j, j < 256 → lI h 14 38 (nI j) = some (zI h 38 j)) ∧ (∀ j v, j < 256 → sI h 14 38 (nI j) v = some (zsI h (zu (zI h) 38 j (zvn 14 v)))) ∧ (∀ j, j < 256 → lI h 14 39 (nI j) = some (zI h 39 j)) ∧ (∀ j v, j < 256 → sI h 14 39 (nI j) v = some (zsI h (zu (zI h) 39 j (zvn 14 v)))) ∧ (∀ j, j < 1024 → lI h 14 40 (nI j) = some (zI h 40 j)) ∧ (∀ j v, j < 1024 → sI h 14 40 (nI j) v = some (zsI h (zu (zI h) 40 j (zvn 14 v)))) ∧ (∀ j, j < 256 → lI h 14 41 (nI j) = some (zI h 41 j)) ∧ (∀ j v, j < 256 → sI h 14 41 (nI j) v = some (zsI h (zu (zI h) 41 j (zvn 14 v)))) ∧ (∀ j, j < 8 → lI h 14 42 (nI j) = some (zI h 42 j)) ∧ (∀ j v, j < 8 → sI h 14 42 (nI j) v = some (zsI h (zu (zI h) 42 j (zvn 14 v)))) ∧ (∀ j, j < 256 → lI h 14 44 (nI j) = some (zI h 44 j)) ∧ (∀ j v, j < 256 → sI h 14 44 (nI j) v = some (zsI h (zu (zI h) 44 j (zvn 14 v)))) ∧ (∀ j, j < 256 → lI h 14 45 (nI j) = some (zI h 45 j)) ∧ (∀ j v, j < 256 → sI h 14 45 (nI j) v = some (zsI h (zu (zI h) 45 j (zvn 14 v)))) ∧ (∀ j, j < 1024 → lI h 14 46 (nI j) = some (zI h 46 j)) ∧ (∀ j v, j < 1024 → sI h 14 46 (nI j) v = some (zsI h (zu (zI h) 46 j (zvn 14 v)))) ∧ (∀ j, j < 256 → lI h 14 47 (nI j) = some (zI h 47 j)) ∧ (∀ j v, j < 256 → sI h 14 47 (nI j) v = some (zsI h (zu (zI h) 47 j (zvn 14 v)))) ∧ (∀ j, j < 8 → lI h 14 48 (nI j) = some (zI h 48 j)) ∧ (∀ j v, j < 8 → sI h 14 48 (nI j) v = some (zsI h (zu (zI h) 48 j (zvn 14 v)))) ∧ (∀ j, j < 7936 → lJ h 50 (nI j) = some (zJ h 50 j)) ∧ (∀ j v, j < 7936 → sJ h 50 (nI j) v = some (zsJ h (zu (zJ h) 50 j v))) ∧ (∀ j, j < 2048 → lI h 14 53 (nI j) = some (zI h 53 j)) ∧ (∀ j v, j < 2048 → sI h 14 53 (nI j) v = some (zsI h (zu (zI h) 53 j (zvn 14 v)))) ∧ (∀ j, j < 256 → lI h 16 55 (nI j) = some (zI h 55 j)) ∧ (∀ j v, j < 256 → sI h 16 55 (nI j) v = some (zsI h (zu (zI h) 55 j (zvn 16 v)))) ∧ (∀ j, j < 256 → lI h 16 56 (nI j) = some (zI h 56 j)) ∧ (∀ j v, j < 256 → sI h 16 56 (nI j) v = some (zsI h (zu (zI h) 56 j (zvn 16 v)))) ∧ (∀ j, j < 256 → lI h 14 57 (nI j) = some (zI h 57 j)) ∧ (∀ j v, j < 256 → sI h 14 57 (nI j) v = some (zsI h (zu (zI h) 57 j (zvn 14 v)))) ∧ (∀ j, j < 256 → lI h 14 58 (nI j) = some (zI h 58 j)) ∧ (∀ j v, j < 256 → sI h 14 58 (nI j) v = some (zsI h (zu (zI h) 58 j (zvn 14 v)))) ∧ (∀ j, j < 256 → lI h 14 59 (nI j) = some (zI h 59 j)) ∧ (∀ j v, j < 256 → sI h 14 59 (nI j) v = some (zsI h (zu (zI h) 59 j (zvn 14 v)))) ∧ (∀ j, j < 8 → lI h 14 60 (nI j) = some (zI h 60 j)) ∧ (∀ j v, j < 8 → sI h 14 60 (nI j) v = some (zsI h (zu (zI h) 60 j (zvn 14 v)))) ∧ (∀ j, j < 256 → lI h 14 64 (nI j) = some (zI h 64 j)) ∧ (∀ j v, j < 256 → sI h 14 64 (nI j) v = some (zsI h (zu (zI h) 64 j (zvn 14 v)))) ∧ (∀ j, j < 256 → lI h 14 65 (nI j) = some (zI h 65 j)) ∧ (∀ j v, j < 256 → sI h 14 65 (nI j) v = some (zsI h (zu (zI h) 65 j (zvn 14 v)))) ∧ (∀ j, j < 1024 → lI h 14 66 (nI j) = some (zI h 66 j)) ∧ (∀ j v, j < 1024 → sI h 14 66 (nI j) v = some (zsI h (zu (zI h) 66 j (zvn 14 v)))) ∧ (∀ j, j < 256 → lI h 14 67 (nI j) = some (zI h 67 j)) ∧ (∀ j v, j < 256 → sI h 14 67 (nI j) v = some (zsI h (zu (zI h) 67 j (zvn 14 v)))) ∧ (∀ j, j < 8 → lI h 14 68 (nI j) = some (zI h 68 j)) ∧ (∀ j v, j < 8 → sI h 14 68 (nI j) v = some (zsI h (zu (zI h) 68 j (zvn 14 v)))) ∧ (∀ j, j < 8 → lI h 14 69 (nI j) = some (zI h 69 j)) ∧ (∀ j v, j < 8 → sI h 14 69 (nI j) v = some (zsI h (zu (zI h) 69 j (zvn 14 v)))) ∧ (∀ j, j < 8 → lI h 14 70 (nI j) = some (zI h 70 j)) ∧ (∀ j v, j < 8 → sI h 14 70 (nI j) v = some (zsI h (zu (zI h) 70 j (zvn 14 v)))) ∧ (∀ j, j < 256 → lJ h 74 (nI j) = some (zJ h 74 j)) ∧ (∀ j v, j < 256 → sJ h 74 (nI j) v = some (zsJ h (zu (zJ h) 74 j v))) ∧ (∀ j, j < 64 → lI h 14 75 (nI j) = some (zI h 75 j)) ∧ (∀ j v, j < 64 → sI h 14 75 (nI j) v = some (zsI h (zu (zI h) 75 j (zvn 14 v)))) ∧ (∀ j, j < 64 → lJ h 77 (nI j) = some (zJ h 77 j)) ∧ (∀ j v, j < 64 → sJ h 77 (nI j) v = some (zsJ h (zu (zJ h) 77 j v))) ∧ (∀ j, j < 64 → lJ h 78 (nI j) = some (zJ h 78 j)) ∧ (∀ j v, j < 64 → sJ h 78 (nI j) v = some (zsJ h (zu (zJ h) 78 j v))) ∧ (∀ j, j < 64 → lJ h 79 (nI j) = some (zJ h 79 j)) ∧ (∀ j v, j < 64 → sJ h 79 (nI j) v = some (zsJ h (zu (zJ h) 79 j v))) ∧ (∀ j, j < 9 → lJ h 80 (nI j) = some (zJ h 80 j)) ∧ (∀ j v, j < 9 → sJ h 80 (nI j) v = some (zsJ h (zu (zJ h) 80 j v))) ∧ (∀ j, j < 6 → lR h 17 1 (nI j) = some (81 + 4 * j)) ∧ (∀ j, j < 6 → lR h 17 2 (nI j) = some (83 + 4 * j)) ∧ (∀ j, j < 10 → lR h 17 4 (nI j) = some (6 + 2 * j)) ∧ (∀ j, j < 4 → lR h 18 30 (nI j) = some (105 + 3 * j)) :=
  ⟨eq_true (O0 hs).1, (O0 hs).2, fun _ => gI_ok (O0 hs).1 (O0 hs).2, fun _ _ => pI_ok (O0 hs).1 (O0 hs).2, eq_true (O3 hs).1, (O3 hs).2, fun _ => gI_ok (O3 hs).1 (O3 hs).2, fun _ _ => pI_ok (O3 hs).1 (O3 hs).2, eq_true (O26 hs).1, (O26 hs).2, fun _ => gI_ok (O26 hs).1 (O26 hs).2, fun _ _ => pI_ok (O26 hs).1 (O26 hs).2, eq_true (O28 hs).1, (O28 hs).2, fun _ => gI_ok (O28 hs).1 (O28 hs).2, fun _ _ => pI_ok (O28 hs).1 (O28 hs).2, eq_true (O31 hs).1, (O31 hs).2, eq_true (O33 hs).1, (O33 hs).2, eq_true (O35 hs).1, (O35 hs).2, eq_true (O37 hs).1, (O37 hs).2, fun _ => gI_ok (O37 hs).1 (O37 hs).2, fun _ _ => pI_ok (O37 hs).1 (O37 hs).2, eq_true (O43 hs).1, (O43 hs).2, fun _ => gI_ok (O43 hs).1 (O43 hs).2, fun _ _ => pI_ok (O43 hs).1 (O43 hs).2, eq_true (O49 hs).1, (O49 hs).2, fun _ => gI_ok (O49 hs).1 (O49 hs).2, fun _ _ => pI_ok (O49 hs).1 (O49 hs).2, eq_true (O51 hs).1, (O51 hs).2, fun _ => gI_ok (O51 hs).1 (O51 hs).2, fun _ _ => pI_ok (O51 hs).1 (O51 hs).2, eq_true (O54 hs).1, (O54 hs).2, fun _ => gI_ok (O54 hs).1 (O54 hs).2, fun _ _ => pI_ok (O54 hs).1 (O54 hs).2, eq_true (O61 hs).1, (O61 hs).2, eq_true (O63 hs).1, (O63 hs).2, fun _ => gI_ok (O63 hs).1 (O63 hs).2, fun _ _ => pI_ok (O63 hs).1 (O63 hs).2, eq_true (O71 hs).1, (O71 hs).2, eq_true (O73 hs).1, (O73 hs).2, eq_true (O76 hs).1, (O76 hs).2, R0_0 hs, R0_1 hs, R0_3 hs, R0_4 hs, R0_5 hs, R0_6 hs, R0_7 hs, R0_8 hs, R0_9 hs, R0_10 hs, R0_11 hs, R0_12 hs, R0_13 hs, R0_14 hs, R0_15 hs, R0_16 hs, R3_0 hs, R3_1 hs, R26_0 hs, R28_0 hs, R31_0 hs, R33_0 hs, R35_0 hs, R37_0 hs, R37_1 hs, R37_2 hs, R37_3 hs, R37_4 hs, R43_0 hs, R43_1 hs, R43_2 hs, R43_3 hs, R43_4 hs, R49_0 hs, R51_2 hs, R54_0 hs, R54_1 hs, R54_2 hs, R54_4 hs, R54_5 hs, R54_6 hs, R54_8 hs, R54_9 hs, R54_11 hs, R54_12 hs, R54_13 hs, R61_0 hs, R63_0 hs, R63_1 hs, R63_2 hs, R63_3 hs, R63_4 hs, R71_0 hs, R73_0 hs, R73_1 hs, R76_0 hs, R76_1 hs, R76_2 hs, R76_3 hs, fun _ hj => (A5 hs).lI hj (by decide), fun _ _ hj => (A5 hs).sI hj (by decide), fun _ hj => (A27 hs).lI hj (by decide), fun _ _ hj => (A27 hs).sI hj (by decide), fun _ hj => (A29 hs).lI hj (by decide), fun _ _ hj => (A29 hs).sI hj (by decide), fun _ hj => (A38 hs).lI hj (by decide), fun _ _ hj => (A38 hs).sI hj (by decide), fun _ hj => (A39 hs).lI hj (by decide), fun _ _ hj => (A39 hs).sI hj (by decide), fun _ hj => (A40 hs).lI hj (by decide), fun _ _ hj => (A40 hs).sI hj (by decide), fun _ hj => (A41 hs).lI hj (by decide), fun _ _ hj => (A41 hs).sI hj (by decide), fun _ hj => (A42 hs).lI hj (by decide), fun _ _ hj => (A42 hs).sI hj (by decide), fun _ hj => (A44 hs).lI hj (by decide), fun _ _ hj => (A44 hs).sI hj (by decide), fun _ hj => (A45 hs).lI hj (by decide), fun _ _ hj => (A45 hs).sI hj (by decide), fun _ hj => (A46 hs).lI hj (by decide), fun _ _ hj => (A46 hs).sI hj (by decide), fun _ hj => (A47 hs).lI hj (by decide), fun _ _ hj => (A47 hs).sI hj (by decide), fun _ hj => (A48 hs).lI hj (by decide), fun _ _ hj => (A48 hs).sI hj (by decide), fun _ hj => (A50 hs).lJ hj (by decide), fun _ _ hj => (A50 hs).sJ hj (by decide), fun _ hj => (A53 hs).lI hj (by decide), fun _ _ hj => (A53 hs).sI hj (by decide), fun _ hj => (A55 hs).lI hj (by decide), fun _ _ hj => (A55 hs).sI hj (by decide), fun _ hj => (A56 hs).lI hj (by decide), fun _ _ hj => (A56 hs).sI hj (by decide), fun _ hj => (A57 hs).lI hj (by decide), fun _ _ hj => (A57 hs).sI hj (by decide), fun _ hj => (A58 hs).lI hj (by decide), fun _ _ hj => (A58 hs).sI hj (by decide), fun _ hj => (A59 hs).lI hj (by decide), fun _ _ hj => (A59 hs).sI hj (by decide), fun _ hj => (A60 hs).lI hj (by decide), fun _ _ hj => (A60 hs).sI hj (by decide), fun _ hj => (A64 hs).lI hj (by decide), fun _ _ hj => (A64 hs).sI hj (by decide), fun _ hj => (A65 hs).lI hj (by decide), fun _ _ hj => (A65 hs).sI hj (by decide), fun _ hj => (A66 hs).lI hj (by decide), fun _ _ hj => (A66 hs).sI hj (by decide), fun _ hj => (A67 hs).lI hj (by decide), fun _ _ hj => (A67 hs).sI hj (by decide), fun _ hj => (A68 hs).lI hj (by decide), fun _ _ hj => (A68 hs).sI hj (by decide), fun _ hj => (A69 hs).lI hj (by decide), fun _ _ hj => (A69 hs).sI hj (by decide), fun _ hj => (A70 hs).lI hj (by decide), fun _ _ hj => (A70 hs).sI hj (by decide), fun _ hj => (A74 hs).lJ hj (by decide), fun _ _ hj => (A74 hs).sJ hj (by decide), fun _ hj => (A75 hs).lI hj (by decide), fun _ _ hj => (A75 hs).sI hj (by decide), fun _ hj => (A77 hs).lJ hj (by decide), fun _ _ hj => (A77 hs).sJ hj (by decide), fun _ hj => (A78 hs).lJ hj (by decide), fun _ _ hj => (A78 hs).sJ hj (by decide), fun _ hj => (A79 hs).lJ hj (by decide), fun _ _ hj => (A79 hs).sJ hj (by decide), fun _ hj => (A80 hs).lJ hj (by decide), fun _ _ hj => (A80 hs).sJ hj (by decide), fun _ hj => rS hs hj, fun _ hj => rK hs hj, fun _ hj => rH hs hj, fun _ hj => rR hs hj⟩
theorem SR (hs : Sh h) : (117 < zn h) = True ∧ zK h 117 = 11 ∧ (∀ k, gI h 11 117 k = some (zI h 117 k)) ∧ (∀ k v, pI h 11 117 k v = some (zsI h (zu (zI h) 117 k v))) ∧ gR h 11 117 0 = some 118 ∧ gR h 11 117 1 = some 119 ∧ gR h 11 117 2 = some 120 ∧ gR h 11 117 3 = some 121 ∧ gR h 11 117 5 = some 122 ∧ gR h 11 117 7 = some 123 ∧ gR h 11 117 9 = some 124 ∧ gR h 11 117 11 = some 125 ∧ gR h 11 117 13 = some 126 ∧ gR h 11 117 15 = some 127 ∧ gR h 11 117 16 = some 128 ∧ gR h 11 117 18 = some 129 ∧ gR h 11 117 19 = some 130 ∧ gR h 11 117 20 = some 131 ∧ gR h 11 117 21 = some 132 ∧ gR h 11 117 22 = some 133 ∧ gR h 11 117 24 = some 134 ∧ gR h 11 117 25 = some 135 ∧ gR h 11 117 26 = some 136 ∧ gR h 11 117 27 = some 137 ∧ gR h 11 117 29 = some 138 ∧ gR h 11 117 31 = some 139 ∧ gR h 11 117 32 = some 140 ∧ gR h 11 117 33 = some 141 ∧ gR h 11 117 34 = some 142 ∧ gR h 11 117 35 = some 143 ∧ gR h 11 117 36 = some 144 ∧ gR h 11 117 37 = some 145 ∧ gR h 11 117 38 = some 146 ∧ gR h 11 117 39 = some 147 ∧ gR h 11 117 40 = some 148 ∧ gR h 11 117 41 = some 149 ∧ gR h 11 117 42 = some 150 ∧ gR h 11 117 43 = some 151 ∧ (∀ j, j < 192 → lI h 14 118 (nI j) = some (zI h 118 j)) ∧ (∀ j v, j < 192 → sI h 14 118 (nI j) v = some (zsI h (zu (zI h) 118 j (zvn 14 v)))) ∧ (∀ j, j < 32 → lI h 14 119 (nI j) = some (zI h 119 j)) ∧ (∀ j v, j < 32 → sI h 14 119 (nI j) v = some (zsI h (zu (zI h) 119 j (zvn 14 v)))) ∧ (∀ j, j < 320 → lI h 14 120 (nI j) = some (zI h 120 j)) ∧ (∀ j v, j < 320 → sI h 14 120 (nI j) v = some (zsI h (zu (zI h) 120 j (zvn 14 v)))) ∧ (∀ j, j < 10 → lI h 14 121 (nI j) = some (zI h 121 j)) ∧ (∀ j v, j < 10 → sI h 14 121 (nI j) v = some (zsI h (zu (zI h) 121 j (zvn 14 v)))) ∧ (∀ j, j < 192 → lI h 14 122 (nI j) = some (zI h 122 j)) ∧ (∀ j v, j < 192 → sI h 14 122 (nI j) v = some (zsI h (zu (zI h) 122 j (zvn 14 v)))) ∧ (∀ j, j < 120 → lI h 14 123 (nI j) = some (zI h 123 j)) ∧ (∀ j v, j < 120 → sI h 14 123 (nI j) v = some (zsI h (zu (zI h) 123 j (zvn 14 v)))) ∧ (∀ j, j < 1100 → lI h 14 124 (nI j) = some (zI h 124 j)) ∧ (∀ j v, j < 1100 → sI h 14 124 (nI j) v = some (zsI h (zu (zI h) 124 j (zvn 14 v)))) ∧ (∀ j, j < 1100 → lI h 14 125 (nI j) = some (zI h 125 j)) ∧ (∀ j v, j < 1100 → sI h 14 125 (nI j) v = some (zsI h (zu (zI h) 125 j (zvn 14 v)))) ∧ (∀ j, j < 1024 → lI h 14 126 (nI j) = some (zI h 126 j)) ∧ (∀ j v, j < 1024 → sI h 14 126 (nI j) v = some (zsI h (zu (zI h) 126 j (zvn 14 v)))) ∧ (∀ j, j < 7936 → lJ h 127 (nI j) = some (zJ h 127 j)) ∧ (∀ j v, j < 7936 → sJ h 127 (nI j) v = some (zsJ h (zu (zJ h) 127 j v))) ∧ (∀ j, j < 64 → lI h 14 128 (nI j) = some (zI h 128 j)) ∧ (∀ j v, j < 64 → sI h 14 128 (nI j) v = some (zsI h (zu (zI h) 128 j (zvn 14 v)))) ∧ (∀ j, j < 64 → lJ h 129 (nI j) = some (zJ h 129 j)) ∧ (∀ j v, j < 64 → sJ h 129 (nI j) v = some (zsJ h (zu (zJ h) 129 j v))) ∧ (∀ j, j < 64 → lJ h 130 (nI j) = some (zJ h 130 j)) ∧ (∀ j v, j < 64 → sJ h 130 (nI j) v = some (zsJ h (zu (zJ h) 130 j v))) ∧ (∀ j, j < 64 → lJ h 131 (nI j) = some (zJ h 131 j)) ∧ (∀ j v, j < 64 → sJ h 131 (nI j) v = some (zsJ h (zu (zJ h) 131 j v))) ∧ (∀ j, j < 9 → lJ h 132 (nI j) = some (zJ h 132 j)) ∧ (∀ j v, j < 9 → sJ h 132 (nI j) v = some (zsJ h (zu (zJ h) 132 j v))) ∧ (∀ j, j < 256 → lI h 14 133 (nI j) = some (zI h 133 j)) ∧ (∀ j v, j < 256 → sI h 14 133 (nI j) v = some (zsI h (zu (zI h) 133 j (zvn 14 v)))) ∧ (∀ j, j < 256 → lI h 14 134 (nI j) = some (zI h 134 j)) ∧ (∀ j v, j < 256 → sI h 14 134 (nI j) v = some (zsI h (zu (zI h) 134 j (zvn 14 v)))) ∧ (∀ j, j < 256 → lI h 14 135 (nI j) = some (zI h 135 j)) ∧ (∀ j v, j < 256 → sI h 14 135 (nI j) v = some (zsI h (zu (zI h) 135 j (zvn 14 v)))) ∧ (∀ j, j < 256 → lI h 16 136 (nI j) = some (zI h 136 j)) ∧ (∀ j v, j < 256 → sI h 16 136 (nI j) v = some (zsI h (zu (zI h) 136 j (zvn 16 v)))) ∧ (∀ j, j < 256 → lI h 14 137 (nI j) = some (zI h 137 j)) ∧ (∀ j v, j < 256 → sI h 14 137 (nI j) v = some (zsI h (zu (zI h) 137 j (zvn 14 v)))) ∧ (∀ j, j < 8 → lI h 14 138 (nI j) = some (zI h 138 j)) ∧ (∀ j v, j < 8 → sI h 14 138 (nI j) v = some (zsI h (zu (zI h) 138 j (zvn 14 v)))) ∧ (∀ j, j < 32 → lI h 14 139 (nI j) = some (zI h 139 j)) ∧ (∀ j v, j < 32 → sI h 14 139 (nI j) v = some (zsI h (zu (zI h) 139 j (zvn 14 v)))) ∧ (∀ j, j < 256 → lI h 14 140 (nI j) = some (zI h 140 j)) ∧ (∀ j v, j < 256 → sI h 14 140 (nI j) v = some (zsI h (zu (zI h) 140 j (zvn 14 v)))) ∧ (∀ j, j < 256 → lI h 14 141 (nI j) = some (zI h 141 j)) ∧ (∀ j v, j < 256 → sI h 14 141 (nI j) v = some (zsI h (zu (zI h) 141 j (zvn 14 v)))) ∧ (∀ j, j < 8 → lI h 14 142 (nI j) = some (zI h 142 j)) ∧ (∀ j v, j < 8 → sI h 14 142 (nI j) v = some (zsI h (zu (zI h) 142 j (zvn 14 v)))) ∧ (∀ j, j < 32 → lI h 14 143 (nI j) = some (zI h 143 j)) ∧ (∀ j v, j < 32 → sI h 14 143 (nI j) v = some (zsI h (zu (zI h) 143 j (zvn 14 v)))) ∧ (∀ j, j < 1024 → lI h 14 144 (nI j) = some (zI h 144 j)) ∧ (∀ j v, j < 1024 → sI h 14 144 (nI j) v = some (zsI h (zu (zI h) 144 j (zvn 14 v)))) ∧ (∀ j, j < 65536 → lI h 14 145 (nI j) = some (zI h 145 j)) ∧ (∀ j v, j < 65536 → sI h 14 145 (nI j) v = some (zsI h (zu (zI h) 145 j (zvn 14 v)))) ∧ (∀ j, j < 65536 → lI h 14 146 (nI j) = some (zI h 146 j)) ∧ (∀ j v, j < 65536 → sI h 14 146 (nI j) v = some (zsI h (zu (zI h) 146 j (zvn 14 v)))) ∧ (∀ j, j < 256 → lJ h 147 (nI j) = some (zJ h 147 j)) ∧ (∀ j v, j < 256 → sJ h 147 (nI j) v = some (zsJ h (zu (zJ h) 147 j v))) ∧ (∀ j, j < 4 → lI h 14 148 (nI j) = some (zI h 148 j)) ∧ (∀ j v, j < 4 → sI h 14 148 (nI j) v = some (zsI h (zu (zI h) 148 j (zvn 14 v)))) ∧ (∀ j, j < 4 → lI h 14 149 (nI j) = some (zI h 149 j)) ∧ (∀ j v, j < 4 → sI h 14 149 (nI j) v = some (zsI h (zu (zI h) 149 j (zvn 14 v)))) ∧ (∀ j, j < 120 → lI h 14 150 (nI j) = some (zI h 150 j)) ∧ (∀ j v, j < 120 → sI h 14 150 (nI j) v = some (zsI h (zu (zI h) 150 j (zvn 14 v)))) :=
  ⟨eq_true (O117 hs).1, (O117 hs).2, fun _ => gI_ok (O117 hs).1 (O117 hs).2, fun _ _ => pI_ok (O117 hs).1 (O117 hs).2, R117_0 hs, R117_1 hs, R117_2 hs, R117_3 hs, R117_5 hs, R117_7 hs, R117_9 hs, R117_11 hs, R117_13 hs, R117_15 hs, R117_16 hs, R117_18 hs, R117_19 hs, R117_20 hs, R117_21 hs, R117_22 hs, R117_24 hs, R117_25 hs, R117_26 hs, R117_27 hs, R117_29 hs, R117_31 hs, R117_32 hs, R117_33 hs, R117_34 hs, R117_35 hs, R117_36 hs, R117_37 hs, R117_38 hs, R117_39 hs, R117_40 hs, R117_41 hs, R117_42 hs, R117_43 hs, fun _ hj => (A118 hs).lI hj (by decide), fun _ _ hj => (A118 hs).sI hj (by decide), fun _ hj => (A119 hs).lI hj (by decide), fun _ _ hj => (A119 hs).sI hj (by decide), fun _ hj => (A120 hs).lI hj (by decide), fun _ _ hj => (A120 hs).sI hj (by decide), fun _ hj => (A121 hs).lI hj (by decide), fun _ _ hj => (A121 hs).sI hj (by decide), fun _ hj => (A122 hs).lI hj (by decide), fun _ _ hj => (A122 hs).sI hj (by decide), fun _ hj => (A123 hs).lI hj (by decide), fun _ _ hj => (A123 hs).sI hj (by decide), fun _ hj => (A124 hs).lI hj (by decide), fun _ _ hj => (A124 hs).sI hj (by decide), fun _ hj => (A125 hs).lI hj (by decide), fun _ _ hj => (A125 hs).sI hj (by decide), fun _ hj => (A126 hs).lI hj (by decide), fun _ _ hj => (A126 hs).sI hj (by decide), fun _ hj => (A127 hs).lJ hj (by decide), fun _ _ hj => (A127 hs).sJ hj (by decide), fun _ hj => (A128 hs).lI hj (by decide), fun _ _ hj => (A128 hs).sI hj (by decide), fun _ hj => (A129 hs).lJ hj (by decide), fun _ _ hj => (A129 hs).sJ hj (by decide), fun _ hj => (A130 hs).lJ hj (by decide), fun _ _ hj => (A130 hs).sJ hj (by decide), fun _ hj => (A131 hs).lJ hj (by decide), fun _ _ hj => (A131 hs).sJ hj (by decide), fun _ hj => (A132 hs).lJ hj (by decide), fun _ _ hj => (A132 hs).sJ hj (by decide), fun _ hj => (A133 hs).lI hj (by decide), fun _ _ hj => (A133 hs).sI hj (by decide), fun _ hj => (A134 hs).lI hj (by decide), fun _ _ hj => (A134 hs).sI hj (by decide), fun _ hj => (A135 hs).lI hj (by decide), fun _ _ hj => (A135 hs).sI hj (by decide), fun _ hj => (A136 hs).lI hj (by decide), fun _ _ hj => (A136 hs).sI hj (by decide), fun _ hj => (A137 hs).lI hj (by decide), fun _ _ hj => (A137 hs).sI hj (by decide), fun _ hj => (A138 hs).lI hj (by decide), fun _ _ hj => (A138 hs).sI hj (by decide), fun _ hj => (A139 hs).lI hj (by decide), fun _ _ hj => (A139 hs).sI hj (by decide), fun _ hj => (A140 hs).lI hj (by decide), fun _ _ hj => (A140 hs).sI hj (by decide), fun _ hj => (A141 hs).lI hj (by decide), fun _ _ hj => (A141 hs).sI hj (by decide), fun _ hj => (A142 hs).lI hj (by decide), fun _ _ hj => (A142 hs).sI hj (by decide), fun _ hj => (A143 hs).lI hj (by decide), fun _ _ hj => (A143 hs).sI hj (by decide), fun _ hj => (A144 hs).lI hj (by decide), fun _ _ hj => (A144 hs).sI hj (by decide), fun _ hj => (A145 hs).lI hj (by decide), fun _ _ hj => (A145 hs).sI hj (by decide), fun _ hj => (A146 hs).lI hj (by decide), fun _ _ hj => (A146 hs).sI hj (by decide), fun _ hj => (A147 hs).lJ hj (by decide), fun _ _ hj => (A147 hs).sJ hj (by decide), fun _ hj => (A148 hs).lI hj (by decide), fun _ _ hj => (A148 hs).sI hj (by decide), fun _ hj => (A149 hs).lI hj (by decide), fun _ _ hj => (A149 hs).sI hj (by decide), fun _ hj => (A150 hs).lI hj (by decide), fun _ _ hj => (A150 hs).sI hj (by decide)⟩
end KC
