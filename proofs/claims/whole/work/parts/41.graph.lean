/-! GRAPHS (class SoficShift$Graph): what its methods answer, by the masks M (32 naturals under 256) -/
def isG (h : ZH) (a m : Nat) : Prop := (a < zn h ∧ zK h a = 1 ∧ zR h a 0 = some m) ∧ isA h 14 m 32
def hasM (h : ZH) (m : Nat) (M : Nat → Nat) : Prop := ∀ j, j < 32 → zI h m j = nI (M j) ∧ M j < 256
theorem zfr.isG {A : List Nat} {h h1 : ZH} (p : zfr A h h1) {a m : Nat} (g : isG h a m) : isG h1 a m := by
  refine ⟨?_, p.isA g.2⟩
  obtain ⟨⟨p1, p2, p3, p4, p5⟩, -⟩ := p
  exact ⟨by rw [p1]; exact g.1.1, by rw [p3]; exact g.1.2.1, by rw [p5]; exact g.1.2.2⟩
theorem zfr.hasM {A : List Nat} {h h1 : ZH} (p : zfr A h h1) {m : Nat} {M : Nat → Nat} (hm : m ∉ A) (g : hasM h m M) : hasM h1 m M := by
  intro j hj
  rw [(p.2 m hm).1]
  exact g j hj
theorem isVertex_ok {v : Nat} (hv : v < 8) (h : ZH) : fX10_isVertex (nI v) h = some (nI 1, h) := by
  unfold fX10_isVertex
  rw [if_neg (nI_pos (by omega)), if_neg (nI_ge (b := 8) hv (by decide))]
  rfl
theorem isVertex_no {x : Int32} (hx : x < 0 ∨ nI 8 ≤ x) (h : ZH) : fX10_isVertex x h = some (nI 0, h) := by
  unfold fX10_isVertex
  by_cases h0 : x < 0
  · rw [if_pos h0]; rfl
  · rw [if_neg h0, if_pos (hx.resolve_left h0)]; rfl
theorem isLetter_ok {v : Nat} (hv : v < 4) (h : ZH) : fX10_isLetter (nI v) h = some (nI 1, h) := by
  unfold fX10_isLetter
  rw [if_neg (nI_pos (by omega)), if_neg (nI_ge (b := 4) hv (by decide))]
  rfl
theorem isLetter_no {x : Int32} (hx : x < 0 ∨ nI 4 ≤ x) (h : ZH) : fX10_isLetter x h = some (nI 0, h) := by
  unfold fX10_isLetter
  by_cases h0 : x < 0
  · rw [if_pos h0]; rfl
  · rw [if_neg h0, if_pos (hx.resolve_left h0)]; rfl
theorem isSlot_ok {v : Nat} (hv : v < 6) (h : ZH) : fX10_isSlot (nI v) h = some (nI 1, h) := by
  unfold fX10_isSlot
  rw [if_neg (nI_pos (by omega)), if_neg (nI_ge (b := 6) hv (by decide))]
  rfl
theorem isSlot_no {x : Int32} (hx : x < 0 ∨ nI 6 ≤ x) (h : ZH) : fX10_isSlot x h = some (nI 0, h) := by
  unfold fX10_isSlot
  by_cases h0 : x < 0
  · rw [if_pos h0]; rfl
  · rw [if_neg h0, if_pos (hx.resolve_left h0)]; rfl
theorem isArray_ok {v : Nat} (hv : v < 4) (h : ZH) : fX10_isArray (nI v) h = some (nI 1, h) := by
  unfold fX10_isArray
  rw [if_neg (nI_pos (by omega)), if_neg (nI_ge (b := 4) hv (by decide))]
  rfl
theorem isArray_no {x : Int32} (hx : x < 0 ∨ nI 4 ≤ x) (h : ZH) : fX10_isArray x h = some (nI 0, h) := by
  unfold fX10_isArray
  by_cases h0 : x < 0
  · rw [if_pos h0]; rfl
  · rw [if_neg h0, if_pos (hx.resolve_left h0)]; rfl
theorem ix4 (v l : Nat) : ((nI 4) * nI v) + nI l = nI (4 * v + l) := by
  rw [pk_mul, nI_add]
theorem ne10 : ¬ (nI 1 = 0) := by decide
section GR
variable {h : ZH} {a m : Nat} {M : Nat → Nat}
theorem row_ok (g : isG h a m) (hM : hasM h m M) {v l : Nat} (hv : v < 8) (hl : l < 4) : fX1_row a (nI v) (nI l) h = some (nI (M (4 * v + l)), h) := by
  unfold fX1_row
  rw [if_pos ⟨g.1.1, g.1.2.1⟩, if_neg (nI_pos (by omega)), if_neg (nI_ge (b := 8) hv (by decide)), if_neg (nI_pos (by omega)), if_neg (nI_ge (b := 4) hl (by decide))]
  unfold bX1_row_24
  rw [if_neg ne10, gR_ok g.1.1 g.1.2.1, g.1.2.2, Option.bind_some, ix4, g.2.lI (by omega) (by decide), Option.bind_some, (hM _ (by omega)).1]
  rfl
/-- all targets of a vertex -/
def sx (M : Nat → Nat) (v : Nat) : Nat := orf (fun _ => true) (fun l => M (4 * v + l)) 4
def fa (M : Nat → Nat) (S : Nat) : Nat := orf (fun v => S.testBit v) (sx M) 8
def vi (M : Nat → Nat) (S : Nat) : Nat := orf (fun v => !decide (sx M v &&& S = 0)) (fun v => 2 ^ v) 8
def cs (M : Nat → Nat) (S : Nat) : Nat := S &&& fa M S &&& vi M S
def fo (M : Nat → Nat) (S l : Nat) : Nat := orf (fun v => S.testBit v) (fun v => M (4 * v + l)) 8
theorem sx_lt (hM : hasM h m M) {v : Nat} (hv : v < 8) : sx M v < 256 := orf_lt (b := 8) (fun k hk => (hM _ (by omega)).2)
theorem fa_lt (hM : hasM h m M) (S : Nat) : fa M S < 256 := orf_lt (b := 8) (fun k hk => sx_lt hM hk)
theorem vi_lt (M : Nat → Nat) (S : Nat) : vi M S < 256 := orf_lt (b := 8) (fun k hk => Nat.pow_lt_pow_right (by decide) hk)
theorem fo_lt (hM : hasM h m M) (S : Nat) {l : Nat} (hl : l < 4) : fo M S l < 256 := orf_lt (b := 8) (fun k hk => (hM _ (by omega)).2)
theorem exits_ok (g : isG h a m) (hM : hasM h m M) {v : Nat} (hv : v < 8) : fX1_exits a (nI v) h = some (nI (sx M v), h) := by
  unfold fX1_exits
  rw [if_pos ⟨g.1.1, g.1.2.1⟩]
  refine zloop_run (fun j => (nI (orf (fun _ => true) (fun l => M (4 * v + l)) j), nI j, h)) 4 (fun j hj self => ?_) (fun self => ?_) (by decide)
  · show kX1_exits_4 a (nI v) self _ _ h = _
    unfold kX1_exits_4
    rw [if_neg (nI_ge (b := 4) hj (by decide)), if_neg (nI_pos (by omega)), if_neg (nI_ge (b := 8) hv (by decide)), gR_ok g.1.1 g.1.2.1, g.1.2.2, Option.bind_some, ix4, g.2.lI (by omega) (by decide), Option.bind_some, (hM _ (by omega)).1]
    unfold bX1_exits_34 zl
    rw [nb_or, nI_add]
    rfl
  · show kX1_exits_4 a (nI v) self _ _ h = _
    unfold kX1_exits_4
    rw [if_pos (nI_le (Nat.le_refl 4) (by decide))]
    rfl
theorem followAny_ok (g : isG h a m) (hM : hasM h m M) {S : Nat} (hS : S < 2 ^ 31) : fX1_followAny a (nI S) h = some (nI (fa M S), h) := by
  unfold fX1_followAny
  rw [if_pos ⟨g.1.1, g.1.2.1⟩]
  refine zloop_run (fun j => (nI (orf (fun v => S.testBit v) (sx M) j), nI j, h)) 8 (fun j hj self => ?_) (fun self => ?_) (by decide)
  · show kX1_followAny_4 a (nI S) self _ _ h = _
    unfold kX1_followAny_4
    rw [if_neg (nI_ge (b := 8) hj (by decide))]
    by_cases hb : S.testBit j = true
    · rw [if_neg (by rw [nb_bit0 hS (by omega), hb]; decide), exits_ok g hM hj, Option.bind_some]
      unfold bX1_followAny_26 zl
      rw [nb_or, nI_add, orf, if_pos hb]
    · have hb' : S.testBit j = false := by simpa using hb
      rw [if_pos ((nb_bit0 hS (by omega)).mpr hb')]
      unfold bX1_followAny_26
      rw [nI_add, orf, if_neg hb, Nat.or_zero]
  · show kX1_followAny_4 a (nI S) self _ _ h = _
    unfold kX1_followAny_4
    rw [if_pos (nI_le (Nat.le_refl 8) (by decide))]
    rfl
theorem verticesInto_ok (g : isG h a m) (hM : hasM h m M) {S : Nat} (hS : S < 2 ^ 31) : fX1_verticesInto a (nI S) h = some (nI (vi M S), h) := by
  unfold fX1_verticesInto
  rw [if_pos ⟨g.1.1, g.1.2.1⟩]
  refine zloop_run (fun j => (nI (orf (fun v => !decide (sx M v &&& S = 0)) (fun v => 2 ^ v) j), nI j, h)) 8 (fun j hj self => ?_) (fun self => ?_) (by decide)
  · show kX1_verticesInto_4 a (nI S) self _ _ h = _
    unfold kX1_verticesInto_4
    have hs := sx_lt hM hj
    have hlt : sx M j &&& S < 2 ^ 31 := Nat.lt_of_le_of_lt Nat.and_le_left (by omega)
    rw [if_neg (nI_ge (b := 8) hj (by decide)), exits_ok g hM hj, Option.bind_some, nb_and]
    by_cases hb : sx M j &&& S = 0
    · rw [if_pos ((nb_z hlt).mpr hb)]
      unfold bX1_verticesInto_26
      rw [nI_add, orf, if_neg (by simp [hb]), Nat.or_zero]
    · rw [if_neg (fun q => hb ((nb_z hlt).mp q))]
      unfold bX1_verticesInto_26 zl
      rw [nb_1shl (by omega), nb_or, nI_add, orf, if_pos (by simp [hb])]
  · show kX1_verticesInto_4 a (nI S) self _ _ h = _
    unfold kX1_verticesInto_4
    rw [if_pos (nI_le (Nat.le_refl 8) (by decide))]
    rfl
theorem follow_ok (g : isG h a m) (hM : hasM h m M) {S l : Nat} (hS : S < 2 ^ 31) (hl : l < 4) : fX1_follow a (nI S) (nI l) h = some (nI (fo M S l), h) := by
  unfold fX1_follow
  rw [if_pos ⟨g.1.1, g.1.2.1⟩]
  refine zloop_run (fun j => (nI (orf (fun v => S.testBit v) (fun v => M (4 * v + l)) j), nI j, h)) 8 (fun j hj self => ?_) (fun self => ?_) (by decide)
  · show kX1_follow_5 a (nI S) (nI l) self _ _ h = _
    unfold kX1_follow_5
    rw [if_neg (nI_ge (b := 8) hj (by decide))]
    by_cases hb : S.testBit j = true
    · rw [if_neg (by rw [nb_bit0 hS (by omega), hb]; decide), row_ok g hM hj hl, Option.bind_some]
      unfold bX1_follow_31 zl
      rw [nb_or, nI_add, orf, if_pos hb]
    · have hb' : S.testBit j = false := by simpa using hb
      rw [if_pos ((nb_bit0 hS (by omega)).mpr hb')]
      unfold bX1_follow_31
      rw [nI_add, orf, if_neg hb, Nat.or_zero]
  · show kX1_follow_5 a (nI S) (nI l) self _ _ h = _
    unfold kX1_follow_5
    rw [if_pos (nI_le (Nat.le_refl 8) (by decide))]
    rfl
end GR
