/-! GRAPHS: what its writing methods do -/
/-- the first n places of a row, by c -/
def zfil {β : Type} (f : Nat → Nat → β) (a n : Nat) (c : Nat → β) : Nat → Nat → β := fun b i => if b = a ∧ i < n then c i else f b i
theorem zfil_0 {β : Type} {f : Nat → Nat → β} {a : Nat} {c : Nat → β} : zfil f a 0 c = f := by funext b i; simp [zfil]
theorem zfil_succ {β : Type} {f : Nat → Nat → β} {a n : Nat} {c : Nat → β} : zu (zfil f a n c) a n (c n) = zfil f a (n + 1) c := by
  funext b i
  unfold zu zfil
  by_cases h1 : b = a ∧ i = n
  · rw [if_pos h1, if_pos ⟨h1.1, by omega⟩, h1.2]
  · rw [if_neg h1]
    by_cases h2 : b = a ∧ i < n
    · rw [if_pos h2, if_pos ⟨h2.1, by omega⟩]
    · rw [if_neg h2, if_neg (fun q => by
        obtain ⟨q1, q2⟩ := q
        by_cases e : i = n
        · exact h1 ⟨q1, e⟩
        · exact h2 ⟨q1, by omega⟩)]
theorem zfil_ne {β : Type} {f : Nat → Nat → β} {a n b : Nat} {c : Nat → β} (hb : b ≠ a) : zfil f a n c b = f b := by funext i; simp [zfil, hb]
theorem zfil_in {β : Type} {f : Nat → Nat → β} {a n i : Nat} {c : Nat → β} (hi : i < n) : zfil f a n c a i = c i := by simp [zfil, hi]
theorem zfil_out {β : Type} {f : Nat → Nat → β} {a n i : Nat} {c : Nat → β} (hi : n ≤ i) : zfil f a n c a i = f a i := by
  unfold zfil
  rw [if_neg (fun q => by omega)]
theorem zfr_filI {h : ZH} {a n : Nat} {c : Nat → Int32} : zfr [a] h (zsI h (zfil (zI h) a n c)) := zfr_zsI (fun b hb => zfil_ne (fun e => hb (by rw [e]; exact List.mem_singleton.mpr rfl)))
theorem zfr_filJ {h : ZH} {a n : Nat} {c : Nat → Int64} : zfr [a] h (zsJ h (zfil (zJ h) a n c)) := zfr_zsJ (fun b hb => zfil_ne (fun e => hb (by rw [e]; exact List.mem_singleton.mpr rfl)))
theorem zsI_zsI {h : ZH} {f g : Nat → Nat → Int32} : zsI (zsI h f) g = zsI h g := rfl
theorem zsJ_zsJ {h : ZH} {f g : Nat → Nat → Int64} : zsJ (zsJ h f) g = zsJ h g := rfl
theorem zI_zsI {h : ZH} {f : Nat → Nat → Int32} : zI (zsI h f) = f := rfl
theorem zJ_zsJ {h : ZH} {f : Nat → Nat → Int64} : zJ (zsJ h f) = f := rfl
theorem isA_zsI {h : ZH} {f : Nat → Nat → Int32} {kind a n : Nat} (g : isA h kind a n) : isA (zsI h f) kind a n := g
theorem isA_zsJ {h : ZH} {f : Nat → Nat → Int64} {kind a n : Nat} (g : isA h kind a n) : isA (zsJ h f) kind a n := g
theorem fillI_ok {h : ZH} {x n : Nat} {v : Int32} (g : isA h 14 x n) (hn : n < 100000) : fJ7_fill_53178 x v h = some (zsI h (zfil (zI h) x n (fun _ => v))) := by
  unfold fJ7_fill_53178
  rw [zlen_ok g.1 (by rw [g.2.1]; decide), g.2.2, Option.bind_some]
  have key := zloop_run (k := lJ7_fill_53178_5 x v (nI n)) (r := some (zsI h (zfil (zI h) x n (fun _ => v)))) (fun j => (nI j, zsI h (zfil (zI h) x j (fun _ => v)))) n (fun j hj self => ?_) (fun self => ?_) (n := zfu) hn
  · have e0 : zsI h (zfil (zI h) x 0 (fun _ => v)) = h := by rw [zfil_0]; rfl
    rw [e0] at key
    exact key
  · show kJ7_fill_53178_5 x v (nI n) self (nI j) _ = _
    unfold kJ7_fill_53178_5
    rw [if_neg (nI_ge hj (by omega)), (isA_zsI g).sI hj (by omega), Option.bind_some, nI_add, zsI_zsI, zI_zsI]
    show self (nI (j + 1), zsI h (zu (zfil (zI h) x j (fun _ => v)) x j v)) = _
    rw [zfil_succ (c := fun _ => v)]
  · show kJ7_fill_53178_5 x v (nI n) self (nI n) _ = _
    unfold kJ7_fill_53178_5
    rw [if_pos (nI_le (Nat.le_refl n) (by omega))]
theorem fillJ_ok {h : ZH} {x n : Nat} {v : Int64} (g : isA h 15 x n) (hn : n < 100000) : fJ7_fill_d0a16 x v h = some (zsJ h (zfil (zJ h) x n (fun _ => v))) := by
  unfold fJ7_fill_d0a16
  rw [zlen_ok g.1 (by rw [g.2.1]; decide), g.2.2, Option.bind_some]
  have key := zloop_run (k := lJ7_fill_d0a16_6 x v (nI n)) (r := some (zsJ h (zfil (zJ h) x n (fun _ => v)))) (fun j => (nI j, zsJ h (zfil (zJ h) x j (fun _ => v)))) n (fun j hj self => ?_) (fun self => ?_) (n := zfu) hn
  · have e0 : zsJ h (zfil (zJ h) x 0 (fun _ => v)) = h := by rw [zfil_0]; rfl
    rw [e0] at key
    exact key
  · show kJ7_fill_d0a16_6 x v (nI n) self (nI j) _ = _
    unfold kJ7_fill_d0a16_6
    rw [if_neg (nI_ge hj (by omega)), (isA_zsJ g).sJ hj (by omega), Option.bind_some, nI_add, zsJ_zsJ, zJ_zsJ]
    show self (nI (j + 1), zsJ h (zu (zfil (zJ h) x j (fun _ => v)) x j v)) = _
    rw [zfil_succ (c := fun _ => v)]
  · show kJ7_fill_d0a16_6 x v (nI n) self (nI n) _ = _
    unfold kJ7_fill_d0a16_6
    rw [if_pos (nI_le (Nat.le_refl n) (by omega))]
def upM (M : Nat → Nat) (k v : Nat) : Nat → Nat := fun j => if j = k then v else M j
theorem eq00 : nI 0 = (0 : Int32) := rfl
section GW
variable {h : ZH} {a m : Nat} {M : Nat → Nat}
theorem clear_ok (g : isG h a m) : ∃ h', fX1_clear a h = some h' ∧ zfr [m] h h' ∧ hasM h' m (fun _ => 0) := by
  refine ⟨_, ?_, zfr_filI (n := 32) (c := fun _ => nI 0), fun j hj => ⟨show zfil (zI h) m 32 (fun _ => nI 0) m j = _ from zfil_in hj, Nat.zero_lt_succ _⟩⟩
  unfold fX1_clear
  rw [if_pos ⟨g.1.1, g.1.2.1⟩, gR_ok g.1.1 g.1.2.1, g.1.2.2, Option.bind_some, fillI_ok g.2 (by decide), Option.bind_some]
theorem copyOf_ok {a2 m2 : Nat} (g : isG h a m) (g2 : isG h a2 m2) (hM : hasM h m2 M) : ∃ h', fX1_copyOf a a2 h = some h' ∧ zfr [m] h h' ∧ hasM h' m M := by
  refine ⟨zsI h (zrow (zI h) m (va_cpy (zI h m2) (zI h m) 0 0 32)), ?_, zfr_zsI (fun b hb => zrow_ne (fun e => hb (by rw [e]; exact List.mem_singleton.mpr rfl))), fun j hj => ?_⟩
  · unfold fX1_copyOf
    rw [if_pos ⟨g.1.1, g.1.2.1⟩, gR_ok g2.1.1 g2.1.2.1, g2.1.2.2, Option.bind_some, gR_ok g.1.1 g.1.2.1, g.1.2.2, Option.bind_some]
    have e : zcpI h m2 m (nI 0) (nI 0) (nI 32) = some (zsI h (zrow (zI h) m (va_cpy (zI h m2) (zI h m) 0 0 32))) := by
      unfold zcpI
      rw [if_pos ⟨⟨⟨g2.2.1, g2.2.2.1⟩, g.2.1, g.2.2.1⟩, ⟨by decide, by decide, by decide⟩, by rw [g2.2.2.2]; decide, by rw [g.2.2.2]; decide⟩]
      rfl
    rw [e, Option.bind_some]
  · show zrow (zI h) m (va_cpy (zI h m2) (zI h m) 0 0 32) m j = _ ∧ _
    rw [zrow_eq]
    have e2 : va_cpy (zI h m2) (zI h m) 0 0 32 j = zI h m2 j := by simp [va_cpy, hj]
    rw [e2]
    exact hM j hj
theorem hasM_up (hM : hasM h m M) {k v : Nat} (hv : v < 256) : hasM (zsI h (zu (zI h) m k (nI v))) m (upM M k v) := by
  intro j hj
  show zu (zI h) m k (nI v) m j = nI (upM M k v j) ∧ upM M k v j < 256
  unfold zu upM
  by_cases e : j = k
  · rw [if_pos ⟨rfl, e⟩, if_pos e]; exact ⟨rfl, hv⟩
  · rw [if_neg (fun q => e q.2), if_neg e]; exact hM j hj
theorem link_ok (g : isG h a m) (hM : hasM h m M) {v l T : Nat} (hv : v < 8) (hl : l < 4) : ∃ h', fX1_link a (nI v) (nI l) (nI T) h = some h' ∧ zfr [m] h h' ∧ hasM h' m (upM M (4 * v + l) (M (4 * v + l) ||| (T &&& 255))) := by
  refine ⟨_, ?_, zfr_uI (j := 4 * v + l) (v := nI (M (4 * v + l) ||| (T &&& 255))), hasM_up hM (Nat.or_lt_two_pow (n := 8) (hM _ (by omega)).2 (Nat.lt_of_le_of_lt Nat.and_le_right (by decide)))⟩
  unfold fX1_link
  rw [if_pos ⟨g.1.1, g.1.2.1⟩, isVertex_ok hv, Option.bind_some, if_neg ne10, isLetter_ok hl, Option.bind_some, if_neg ne10, gR_ok g.1.1 g.1.2.1, g.1.2.2, Option.bind_some]
  unfold zl
  dsimp only
  rw [ix4, g.2.lI (by omega) (by decide), Option.bind_some, g.2.sI (by omega) (by decide), Option.bind_some, (hM _ (by omega)).1, nb_and, nb_or]
  rfl
theorem put_ok (g : isG h a m) (hM : hasM h m M) {v l x : Nat} (hv : v < 8) (hl : l < 4) (hx : x < 8) : ∃ h', fX1_put a (nI v) (nI l) (nI x) h = some h' ∧ zfr [m] h h' ∧ hasM h' m (upM M (4 * v + l) (M (4 * v + l) ||| 2 ^ x)) := by
  obtain ⟨h', e, p, q⟩ := link_ok g hM (T := 2 ^ x) hv hl
  have e2 : 2 ^ x &&& 255 = 2 ^ x := by
    rcases (show x = 0 ∨ x = 1 ∨ x = 2 ∨ x = 3 ∨ x = 4 ∨ x = 5 ∨ x = 6 ∨ x = 7 by omega) with rfl | rfl | rfl | rfl | rfl | rfl | rfl | rfl <;> rfl
  rw [e2] at q
  refine ⟨h', ?_, p, q⟩
  unfold fX1_put
  rw [if_pos ⟨g.1.1, g.1.2.1⟩, isVertex_ok hx, Option.bind_some, if_neg ne10, nb_1shl (by omega), e, Option.bind_some]
  rfl
theorem put_no (g : isG h a m) {v l x : Int32} (hx : x < 0 ∨ nI 8 ≤ x) : fX1_put a v l x h = some h := by
  unfold fX1_put
  rw [if_pos ⟨g.1.1, g.1.2.1⟩, isVertex_no hx, Option.bind_some, if_pos eq00]
  rfl
theorem has_ok (g : isG h a m) (hM : hasM h m M) {v l x : Nat} (hv : v < 8) (hl : l < 4) (hx : x < 8) : fX1_has a (nI v) (nI l) (nI x) h = some (nI ((M (4 * v + l)).testBit x).toNat, h) := by
  have hb := (hM (4 * v + l) (by omega)).2
  unfold fX1_has
  rw [if_pos ⟨g.1.1, g.1.2.1⟩, isVertex_ok hx, Option.bind_some, if_neg ne10, row_ok g hM hv hl, Option.bind_some]
  by_cases e : (M (4 * v + l)).testBit x = true
  · rw [if_neg (by rw [nb_bit0 (by omega) (by omega), e]; decide), e]
    rfl
  · have e' : (M (4 * v + l)).testBit x = false := by simpa using e
    rw [if_pos ((nb_bit0 (by omega) (by omega)).mpr e'), e']
    rfl
theorem nb_not {k : Nat} (hk : k < 256) {x : Nat} (hx : x < 8) : nI k &&& (jshl (nI 1) (nI x) ^^^ (-1 : Int32)) = nI (k &&& (255 - 2 ^ x)) := by
  have key : ∀ x, x < 8 → ∀ k, k < 256 → nI k &&& (jshl (nI 1) (nI x) ^^^ (-1 : Int32)) = nI (k &&& (255 - 2 ^ x)) := by decide +kernel
  exact key x hx k hk
theorem drop_ok (g : isG h a m) (hM : hasM h m M) {v l x : Nat} (hv : v < 8) (hl : l < 4) (hx : x < 8) : ∃ h', fX1_drop a (nI v) (nI l) (nI x) h = some h' ∧ zfr [m] h h' ∧ hasM h' m (upM M (4 * v + l) (M (4 * v + l) &&& (255 - 2 ^ x))) := by
  have hb := (hM (4 * v + l) (by omega)).2
  refine ⟨_, ?_, zfr_uI (j := 4 * v + l) (v := nI (M (4 * v + l) &&& (255 - 2 ^ x))), hasM_up hM (Nat.lt_of_le_of_lt Nat.and_le_left hb)⟩
  unfold fX1_drop
  rw [if_pos ⟨g.1.1, g.1.2.1⟩, isVertex_ok hv, Option.bind_some, if_neg ne10, isLetter_ok hl, Option.bind_some, if_neg ne10, isVertex_ok hx, Option.bind_some, if_neg ne10, gR_ok g.1.1 g.1.2.1, g.1.2.2, Option.bind_some]
  unfold zl
  dsimp only
  rw [ix4, g.2.lI (by omega) (by decide), Option.bind_some, g.2.sI (by omega) (by decide), Option.bind_some, (hM _ (by omega)).1, nb_not hb hx]
  rfl
/-- the library's count of bits, as it stands -/
def bc (x : Int32) : Int32 := ((fJ6_bitCount_0f7a4 x zh0).getD (nI 0, zh0)).1
theorem bc_ok (x : Int32) (h : ZH) : fJ6_bitCount_0f7a4 x h = some (bc x, h) := rfl
def sumI (f : Nat → Int32) : Nat → Int32
  | 0 => nI 0
  | n + 1 => sumI f n + f n
theorem countEdges_ok (g : isG h a m) (hM : hasM h m M) : fX1_countEdges a h = some (sumI (fun j => bc (nI (M j))) 32, h) := by
  unfold fX1_countEdges
  rw [if_pos ⟨g.1.1, g.1.2.1⟩]
  refine zloop_run (fun j => (sumI (fun j => bc (nI (M j))) j, nI j, h)) 32 (fun j hj self => ?_) (fun self => ?_) (by decide)
  · show kX1_countEdges_4 a self _ _ h = _
    unfold kX1_countEdges_4
    rw [if_neg (nI_ge hj (by decide)), gR_ok g.1.1 g.1.2.1, g.1.2.2, Option.bind_some, g.2.lI hj (by decide), Option.bind_some, (hM _ hj).1, bc_ok, Option.bind_some, nI_add]
    rfl
  · show kX1_countEdges_4 a self _ _ h = _
    unfold kX1_countEdges_4
    rw [if_pos (nI_le (Nat.le_refl 32) (by decide))]
end GW
