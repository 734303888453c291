/-! CALLS: edges in and out, graphs turned and relabelled -/
theorem n1eq {a : Nat} (ha : a < 2 ^ 31) : (nI a = 1) = (a = 1) := propext (show nI a = nI 1 ↔ a = 1 from nI_eq ha (by decide))
theorem nm1 {a : Nat} (ha : a < 2 ^ 31) : (nI a = -1) = False := by
  apply propext
  constructor
  · intro e
    have h1 := nI_toInt ha
    rw [e] at h1
    have h2 : (-1 : Int32).toInt = -1 := by decide
    omega
  · exact False.elim
theorem nb_bit1 {a v : Nat} (ha : a < 2 ^ 31) (hv : v < 32) : ((jshr (nI a) (nI v)) &&& (nI 1) = nI 1) ↔ a.testBit v = true := by
  rw [nb_bit ha hv]
  cases a.testBit v <;> simp [nI] <;> decide
theorem ZQ : (∀ (v : Nat) (h : ZH), v < 6 → fX10_isSlot (nI v) h = some (nI 1, h)) ∧ (∀ (v : Nat) (h : ZH), v < 8 → fX10_isVertex (nI v) h = some (nI 1, h)) ∧ (∀ (v : Nat) (h : ZH), v < 4 → fX10_isLetter (nI v) h = some (nI 1, h)) ∧ (∀ (v : Nat) (h : ZH), v < 4 → fX10_isArray (nI v) h = some (nI 1, h)) ∧ (∀ (v : Nat) (h : ZH), v < 6 → fX11_isSlot (nI v) h = some (nI 1, h)) ∧ (∀ (v : Nat) (h : ZH), v < 8 → fX11_isVertex (nI v) h = some (nI 1, h)) ∧ (∀ (v : Nat) (h : ZH), v < 4 → fX11_isLetter (nI v) h = some (nI 1, h)) ∧ (∀ (v : Nat) (h : ZH), v < 4 → fX11_isArray (nI v) h = some (nI 1, h))
    ∧ (∀ (v lo hi : Nat) (h : ZH), lo ≤ v → v ≤ hi → hi < 2 ^ 31 → fX10_isWithin (nI v) (nI lo) (nI hi) h = some (nI 1, h)) ∧ (∀ (v lo hi : Nat) (h : ZH), lo ≤ v → v ≤ hi → hi < 2 ^ 31 → fX11_isIn (nI v) (nI lo) (nI hi) h = some (nI 1, h)) ∧ (∀ a : Nat, a < 2 ^ 31 → (nI a = 1) = (a = 1)) ∧ (∀ a : Nat, a < 2 ^ 31 → (nI a = -1) = False) ∧ ((1 : Nat) = 0) = False ∧ ((0 : Nat) = 1) = False ∧ (∀ a v : Nat, a < 2 ^ 31 → v < 32 → ((jshr (nI a) (nI v)) &&& (nI 1) = 0) = (a.testBit v = false)) ∧ (∀ a v : Nat, a < 2 ^ 31 → v < 32 → ((jshr (nI a) (nI v)) &&& (nI 1) = nI 1) = (a.testBit v = true)) ∧ ((32 : Nat) = 0) = False ∧ ((8 : Nat) = 0) = False ∧ ((4 : Nat) = 0) = False ∧ ((10 : Nat) = 0) = False ∧ ((256 : Nat) = 0) = False :=
  ⟨fun _ h hv => isSlot_ok hv h, fun _ h hv => isVertex_ok hv h, fun _ h hv => isLetter_ok hv h, fun _ h hv => isArray_ok hv h, fun _ h hv => rSlot_ok hv h, fun _ h hv => rVertex_ok hv h, fun _ h hv => rLetter_ok hv h, fun _ h hv => rArray_ok hv h, fun _ _ _ h h1 h2 h3 => isWithin_ok h1 h2 h3 h, fun _ _ _ h h1 h2 h3 => isIn_ok h1 h2 h3 h, fun _ => n1eq, fun _ => nm1, by simp, by simp, fun _ _ h1 h2 => propext (nb_bit0 h1 h2), fun _ _ h1 h2 => propext (nb_bit1 h1 h2), by simp, by simp, by simp, by simp, by simp⟩
theorem sumI_cong {f g : Nat → Int32} {n : Nat} (h : ∀ j, j < n → f j = g j) : sumI f n = sumI g n := by
  induction n with
  | zero => rfl
  | succ n ih => rw [sumI, sumI, ih (fun j hj => h j (by omega)), h n (by omega)]
/-- how many edges, as both count them -/
def nE (M : Nat → Nat) : Int32 := sumI (fun j => bc (nI (M j))) 32
section C1
variable {h : ZH} {G : Nat → Nat → Nat} {n : Nat} {c : Nat → Nat}
theorem edgesG (hs : Sh h) (g : iG G h) {s : Nat} (h6 : s < 6) : fX11_edgesOf 117 (nI s) h = some (nE (G s), h) := by
  rw [edgesOf_ok hs g.r h6]
  unfold nE
  rw [sumI_cong (fun j hj => by rw [show (32 * s + j) / 32 = s by omega, show (32 * s + j) % 32 = j by omega])]
theorem toG (hs : Sh h) (g : iG G h) {s v l : Nat} (h6 : s < 6) (hv : v < 8) (hl : l < 4) : fX11_to 117 (nI s) (nI v) (nI l) h = some (nI (G s (4 * v + l)), h) := by
  rw [to_ok hs g.r h6 hv hl, show (32 * s + 4 * v + l) / 32 = s by omega, show (32 * s + 4 * v + l) % 32 = 4 * v + l by omega]
theorem makeG (hs : Sh h) (g : iG G h) {s : Nat} (h6 : s < 6) : ∃ h', fX11_make 117 (nI s) h = some h' ∧ zfr [119] h h' ∧ vI h' 119 32 (G s) := by
  refine ⟨_, make_ok hs g.r h6, zfr_filI, fun j hj => ?_⟩
  dsimp only [zI_zsI]
  rw [zfil_in hj, show (32 * s + j) / 32 = s by omega, show (32 * s + j) % 32 = j by omega]
theorem clearG (hs : Sh h) : ∃ h', fX11_clearMade 117 h = some h' ∧ zfr [119] h h' ∧ vI h' 119 32 (fun _ => 0) := by
  refine ⟨_, clearMade_ok hs, zfr_filI, fun j hj => ?_⟩
  dsimp only [zI_zsI]
  rw [zfil_in hj]
theorem countS (hs : Sh h) {M : Nat → Nat} {s : Nat} (h6 : s < 6) (hM : hasM h (82 + 4 * s) M) : fX1_countEdges (81 + 4 * s) h = some (nE M, h) := countEdges_ok (gS hs h6) hM
theorem midI.sh {N : Nat → Nat} {s : Nat} (g : midI G N s n c h) : Sh h := g.1
theorem midI.m {N : Nat → Nat} {s : Nat} (g : midI G N s n c h) (h6 : s < 6) : hasM h (82 + 4 * s) N := fun j hj => by
  have := g.2.1 s h6 j hj
  unfold upG at this
  rw [if_pos rfl] at this
  exact ⟨this.1, this.2.2.2⟩
/-- what was built comes into a slot of the object -/
theorem storeFresh_ok (g : INVg G n c h) {N : Nat → Nat} {t : Nat} (ht : t < 6) (hN : hasM h 32 N) : ∃ h', fX10_storeFresh 0 (nI t) h = some h' ∧ midI G N t n c h' ∧ hasM h' 32 N ∧ zfr [3, 5, 7, 9, 11, 13, 15, 17, 19, 21, 23, 25, 82 + 4 * t] h h' := by
  have hs := g.1
  obtain ⟨h1, e1, m1, p1⟩ := push_mid g ht
  have hN1 : hasM h1 32 N := p1.hasM (by decide) hN
  obtain ⟨h2, e2, p2, q2⟩ := copyOf_ok (gS m1.1 ht) (g31 m1.1) hN1
  refine ⟨h2, ?_, mid_set ht m1 p2 q2, p2.hasM (mem1.mpr (by omega)) hN1, (p1.trans p2).mono (fun b hb => ?_)⟩
  · unfold fX10_storeFresh
    simp (disch := omega) only [isSlot_ok ht, SC (hs), zl, Option.bind_some, ZS, ZT, ZN, ZU, eq_self, true_and, and_true, and_self, or_true, true_or, or_false, false_or, not_true, not_false_eq_true, Nat.reduceAdd, Nat.reduceMul, Nat.reduceLT, Nat.reduceLeDiff, Nat.reduceEqDiff, ↓reduceIte, ZQ, Bool.true_eq_false, Bool.false_eq_true, Bool.not_true, Bool.not_false]
    rw [e1, Option.bind_some]
    simp (disch := omega) only [e2, bX10_storeFresh_34, SC (m1.1), zl, Option.bind_some, ZS, ZT, ZN, ZU, eq_self, true_and, and_true, and_self, or_true, true_or, or_false, false_or, not_true, not_false_eq_true, Nat.reduceAdd, Nat.reduceMul, Nat.reduceLT, Nat.reduceLeDiff, Nat.reduceEqDiff, ↓reduceIte, ZQ, Bool.true_eq_false, Bool.false_eq_true, Bool.not_true, Bool.not_false]
  · simp only [List.mem_append, List.mem_cons, List.not_mem_nil, or_false] at hb ⊢
    omega
theorem fin_c (g : INVg G n c h) {N : Nat → Nat} {t : Nat} (ht : t < 6) (hN : hasM h 32 N) : wp ((fX10_storeFresh 0 (nI t) h).bind fun h2 => (gR h2 10 0 7).bind fun v3 => (fX1_countEdges v3 h2).bind fun q4 => some (q4.1, q4.2)) (fun r => r.1 = nE N ∧ midI G N t n c r.2) := by
  obtain ⟨h1, e1, m1, q1, -⟩ := storeFresh_ok g ht hN
  refine wp_eq (a := (nE N, h1)) ?_ ⟨rfl, m1⟩
  rw [e1, Option.bind_some]
  simp (disch := omega) only [show fX1_countEdges 31 h1 = some (nE N, h1) from countEdges_ok (g31 m1.1) q1, SC (m1.1), zl, Option.bind_some, ZS, ZT, ZN, ZU, eq_self, true_and, and_true, and_self, or_true, true_or, or_false, false_or, not_true, not_false_eq_true, Nat.reduceAdd, Nat.reduceMul, Nat.reduceLT, Nat.reduceLeDiff, Nat.reduceEqDiff, ↓reduceIte, ZQ, Bool.true_eq_false, Bool.false_eq_true, Bool.not_true, Bool.not_false]
theorem upG_s {N : Nat → Nat} {t : Nat} : upG G t N t = N := if_pos rfl
theorem fin_r {N : Nat → Nat} {t : Nat} (ht : t < 6) (m : midI G N t n c h) (hN : vI h 119 32 N) : wp ((fX11_replace 117 (nI t) h).bind fun h2 => (fX11_edgesOf 117 (nI t) h2).bind fun q3 => some (q3.1, q3.2)) (fun r => r.1 = nE N ∧ INV r.2) := by
  obtain ⟨h1, e1, g1⟩ := mid_replace ht m hN
  refine wp_eq (a := (nE N, h1)) ?_ ⟨rfl, _, n, c, g1⟩
  rw [e1, Option.bind_some, edgesG g1.1 g1.2.1 ht, upG_s]
  rfl
theorem Ok2.of {β : Type} {f g : ZH → Option (β × ZH)} (k : ∀ h G n c, INVg G n c h → ∃ r, wp (f h) (fun x => x.1 = r ∧ wp (g x.2) (fun y => y.1 = r ∧ INV y.2))) : Ok2 f g := by
  intro h hI
  obtain ⟨G, n, c, hI⟩ := hI
  obtain ⟨r, ⟨r1, h1⟩, e1, e2, ⟨r2, h2⟩, e3, e4, e5⟩ := k h G n c hI
  dsimp only at e2 e4 e5
  subst e2
  subst e4
  exact ⟨_, h1, h2, e1, e3, e5⟩
theorem Ok2.same {β : Type} {f g : ZH → Option (β × ZH)} {h : ZH} {r : β} (hI : INVg G n c h) (e1 : f h = some (r, h)) (e2 : g h = some (r, h)) : ∃ r, wp (f h) (fun x => x.1 = r ∧ wp (g x.2) (fun y => y.1 = r ∧ INV y.2)) :=
  ⟨r, (r, h), e1, rfl, (r, h), e2, rfl, G, n, c, hI⟩
end C1
theorem c_targets (a1 a2 a3 : Int32) : Ok2 (fX10_targets 0 a1 a2 a3) (fX11_targets 117 a1 a2 a3) := by
  refine Ok2.of (fun h G n c hI => ?_)
  have hs := hI.1
  have hG := hI.2.1
  rcases cSlot a1 with b | ⟨s, h6, rfl⟩
  · refine Ok2.same hI (r := -2) ?_ ?_
    · simp (disch := omega) only [fX10_targets, bX10_targets_21, fun q => (b q).1, SC (hs), zl, Option.bind_some, ZS, ZT, ZN, ZU, eq_self, true_and, and_true, and_self, or_true, true_or, or_false, false_or, not_true, not_false_eq_true, Nat.reduceAdd, Nat.reduceMul, Nat.reduceLT, Nat.reduceLeDiff, Nat.reduceEqDiff, ↓reduceIte, ZQ, Bool.true_eq_false, Bool.false_eq_true, Bool.not_true, Bool.not_false]
    · simp (disch := omega) only [fX11_targets, bX11_targets_31, bX11_targets_33, fun q => (b q).2, SR (hs), zl, Option.bind_some, ZS, ZT, ZN, ZU, eq_self, true_and, and_true, and_self, or_true, true_or, or_false, false_or, not_true, not_false_eq_true, Nat.reduceAdd, Nat.reduceMul, Nat.reduceLT, Nat.reduceLeDiff, Nat.reduceEqDiff, ↓reduceIte, ZQ, Bool.true_eq_false, Bool.false_eq_true, Bool.not_true, Bool.not_false]
  rcases cVertex a2 with b | ⟨v, hv, rfl⟩
  · refine Ok2.same hI (r := -2) ?_ ?_
    · simp (disch := omega) only [fX10_targets, bX10_targets_21, fun q => (b q).1, SC (hs), zl, Option.bind_some, ZS, ZT, ZN, ZU, eq_self, true_and, and_true, and_self, or_true, true_or, or_false, false_or, not_true, not_false_eq_true, Nat.reduceAdd, Nat.reduceMul, Nat.reduceLT, Nat.reduceLeDiff, Nat.reduceEqDiff, ↓reduceIte, ZQ, Bool.true_eq_false, Bool.false_eq_true, Bool.not_true, Bool.not_false]
    · simp (disch := omega) only [fX11_targets, bX11_targets_31, bX11_targets_33, fun q => (b q).2, SR (hs), zl, Option.bind_some, ZS, ZT, ZN, ZU, eq_self, true_and, and_true, and_self, or_true, true_or, or_false, false_or, not_true, not_false_eq_true, Nat.reduceAdd, Nat.reduceMul, Nat.reduceLT, Nat.reduceLeDiff, Nat.reduceEqDiff, ↓reduceIte, ZQ, Bool.true_eq_false, Bool.false_eq_true, Bool.not_true, Bool.not_false]
  rcases cLetter a3 with b | ⟨l, hl, rfl⟩
  · refine Ok2.same hI (r := -2) ?_ ?_
    · simp (disch := omega) only [fX10_targets, bX10_targets_21, fun q => (b q).1, SC (hs), zl, Option.bind_some, ZS, ZT, ZN, ZU, eq_self, true_and, and_true, and_self, or_true, true_or, or_false, false_or, not_true, not_false_eq_true, Nat.reduceAdd, Nat.reduceMul, Nat.reduceLT, Nat.reduceLeDiff, Nat.reduceEqDiff, ↓reduceIte, ZQ, Bool.true_eq_false, Bool.false_eq_true, Bool.not_true, Bool.not_false]
    · simp (disch := omega) only [fX11_targets, bX11_targets_31, bX11_targets_33, fun q => (b q).2, SR (hs), zl, Option.bind_some, ZS, ZT, ZN, ZU, eq_self, true_and, and_true, and_self, or_true, true_or, or_false, false_or, not_true, not_false_eq_true, Nat.reduceAdd, Nat.reduceMul, Nat.reduceLT, Nat.reduceLeDiff, Nat.reduceEqDiff, ↓reduceIte, ZQ, Bool.true_eq_false, Bool.false_eq_true, Bool.not_true, Bool.not_false]
  refine Ok2.same hI (r := nI (G s (4 * v + l))) ?_ ?_
  · simp (disch := omega) only [fX10_targets, bX10_targets_21, row_ok (gS hs h6) (hG.m h6) hv hl, SC (hs), zl, Option.bind_some, ZS, ZT, ZN, ZU, eq_self, true_and, and_true, and_self, or_true, true_or, or_false, false_or, not_true, not_false_eq_true, Nat.reduceAdd, Nat.reduceMul, Nat.reduceLT, Nat.reduceLeDiff, Nat.reduceEqDiff, ↓reduceIte, ZQ, Bool.true_eq_false, Bool.false_eq_true, Bool.not_true, Bool.not_false]
  · simp (disch := omega) only [fX11_targets, bX11_targets_33, toG hs hG h6 hv hl, SR (hs), zl, Option.bind_some, ZS, ZT, ZN, ZU, eq_self, true_and, and_true, and_self, or_true, true_or, or_false, false_or, not_true, not_false_eq_true, Nat.reduceAdd, Nat.reduceMul, Nat.reduceLT, Nat.reduceLeDiff, Nat.reduceEqDiff, ↓reduceIte, ZQ, Bool.true_eq_false, Bool.false_eq_true, Bool.not_true, Bool.not_false]
theorem c_edges (a1 : Int32) : Ok2 (fX10_edges 0 a1) (fX11_edges 117 a1) := by
  refine Ok2.of (fun h G n c hI => ?_)
  have hs := hI.1
  have hG := hI.2.1
  rcases cSlot a1 with b | ⟨s, h6, rfl⟩
  · refine Ok2.same hI (r := -2) ?_ ?_
    · simp (disch := omega) only [fX10_edges, bX10_edges_21, fun q => (b q).1, SC (hs), zl, Option.bind_some, ZS, ZT, ZN, ZU, eq_self, true_and, and_true, and_self, or_true, true_or, or_false, false_or, not_true, not_false_eq_true, Nat.reduceAdd, Nat.reduceMul, Nat.reduceLT, Nat.reduceLeDiff, Nat.reduceEqDiff, ↓reduceIte, ZQ, Bool.true_eq_false, Bool.false_eq_true, Bool.not_true, Bool.not_false]
    · simp (disch := omega) only [fX11_edges, bX11_edges_17, fun q => (b q).2, SR (hs), zl, Option.bind_some, ZS, ZT, ZN, ZU, eq_self, true_and, and_true, and_self, or_true, true_or, or_false, false_or, not_true, not_false_eq_true, Nat.reduceAdd, Nat.reduceMul, Nat.reduceLT, Nat.reduceLeDiff, Nat.reduceEqDiff, ↓reduceIte, ZQ, Bool.true_eq_false, Bool.false_eq_true, Bool.not_true, Bool.not_false]
  refine Ok2.same hI (r := nE (G s)) ?_ ?_
  · simp (disch := omega) only [fX10_edges, bX10_edges_21, countS hs h6 (hG.m h6), SC (hs), zl, Option.bind_some, ZS, ZT, ZN, ZU, eq_self, true_and, and_true, and_self, or_true, true_or, or_false, false_or, not_true, not_false_eq_true, Nat.reduceAdd, Nat.reduceMul, Nat.reduceLT, Nat.reduceLeDiff, Nat.reduceEqDiff, ↓reduceIte, ZQ, Bool.true_eq_false, Bool.false_eq_true, Bool.not_true, Bool.not_false]
  · simp (disch := omega) only [fX11_edges, bX11_edges_17, edgesG hs hG h6, SR (hs), zl, Option.bind_some, ZS, ZT, ZN, ZU, eq_self, true_and, and_true, and_self, or_true, true_or, or_false, false_or, not_true, not_false_eq_true, Nat.reduceAdd, Nat.reduceMul, Nat.reduceLT, Nat.reduceLeDiff, Nat.reduceEqDiff, ↓reduceIte, ZQ, Bool.true_eq_false, Bool.false_eq_true, Bool.not_true, Bool.not_false]
/-- a row of what was made is set -/
theorem made_set {h : ZH} {N : Nat → Nat} {k v : Nat} (hN : vI h 119 32 N) : vI (zsI h (zu (zI h) 119 k (nI v))) 119 32 (upM N k v) := by
  intro j hj
  dsimp only [zI_zsI]
  rw [zu_at]
  unfold upM
  by_cases e : j = k
  · rw [if_pos e, if_pos e]
  · rw [if_neg e, if_neg e]; exact hN j hj
theorem c_addEdge (a1 a2 a3 a4 : Int32) : Ok2 (fX10_addEdge 0 a1 a2 a3 a4) (fX11_addEdge 117 a1 a2 a3 a4) := by
  refine Ok2.of (fun h G n c hI => ?_)
  have hs := hI.1
  have hG := hI.2.1
  rcases cSlot a1 with b | ⟨s, h6, rfl⟩
  · refine Ok2.same hI (r := -2) ?_ ?_
    · simp (disch := omega) only [fX10_addEdge, fX10_isEdgeOfSlot, bX10_isEdgeOfSlot_32, bX10_isEdgeOfSlot_33, fun q => (b q).1, SC (hs), zl, Option.bind_some, ZS, ZT, ZN, ZU, eq_self, true_and, and_true, and_self, or_true, true_or, or_false, false_or, not_true, not_false_eq_true, Nat.reduceAdd, Nat.reduceMul, Nat.reduceLT, Nat.reduceLeDiff, Nat.reduceEqDiff, ↓reduceIte, ZQ, Bool.true_eq_false, Bool.false_eq_true, Bool.not_true, Bool.not_false]
    · simp (disch := omega) only [fX11_addEdge, bX11_addEdge_29, fun q => (b q).2, SR (hs), zl, Option.bind_some, ZS, ZT, ZN, ZU, eq_self, true_and, and_true, and_self, or_true, true_or, or_false, false_or, not_true, not_false_eq_true, Nat.reduceAdd, Nat.reduceMul, Nat.reduceLT, Nat.reduceLeDiff, Nat.reduceEqDiff, ↓reduceIte, ZQ, Bool.true_eq_false, Bool.false_eq_true, Bool.not_true, Bool.not_false]
  rcases cVertex a2 with b | ⟨v, hv, rfl⟩
  · refine Ok2.same hI (r := -2) ?_ ?_
    · simp (disch := omega) only [fX10_addEdge, fX10_isEdgeOfSlot, bX10_isEdgeOfSlot_32, bX10_isEdgeOfSlot_33, fun q => (b q).1, SC (hs), zl, Option.bind_some, ZS, ZT, ZN, ZU, eq_self, true_and, and_true, and_self, or_true, true_or, or_false, false_or, not_true, not_false_eq_true, Nat.reduceAdd, Nat.reduceMul, Nat.reduceLT, Nat.reduceLeDiff, Nat.reduceEqDiff, ↓reduceIte, ZQ, Bool.true_eq_false, Bool.false_eq_true, Bool.not_true, Bool.not_false]
    · simp (disch := omega) only [fX11_addEdge, bX11_addEdge_29, fun q => (b q).2, SR (hs), zl, Option.bind_some, ZS, ZT, ZN, ZU, eq_self, true_and, and_true, and_self, or_true, true_or, or_false, false_or, not_true, not_false_eq_true, Nat.reduceAdd, Nat.reduceMul, Nat.reduceLT, Nat.reduceLeDiff, Nat.reduceEqDiff, ↓reduceIte, ZQ, Bool.true_eq_false, Bool.false_eq_true, Bool.not_true, Bool.not_false]
  rcases cLetter a3 with b | ⟨l, hl, rfl⟩
  · refine Ok2.same hI (r := -2) ?_ ?_
    · simp (disch := omega) only [fX10_addEdge, fX10_isEdgeOfSlot, bX10_isEdgeOfSlot_32, bX10_isEdgeOfSlot_33, fun q => (b q).1, SC (hs), zl, Option.bind_some, ZS, ZT, ZN, ZU, eq_self, true_and, and_true, and_self, or_true, true_or, or_false, false_or, not_true, not_false_eq_true, Nat.reduceAdd, Nat.reduceMul, Nat.reduceLT, Nat.reduceLeDiff, Nat.reduceEqDiff, ↓reduceIte, ZQ, Bool.true_eq_false, Bool.false_eq_true, Bool.not_true, Bool.not_false]
    · simp (disch := omega) only [fX11_addEdge, bX11_addEdge_29, fun q => (b q).2, SR (hs), zl, Option.bind_some, ZS, ZT, ZN, ZU, eq_self, true_and, and_true, and_self, or_true, true_or, or_false, false_or, not_true, not_false_eq_true, Nat.reduceAdd, Nat.reduceMul, Nat.reduceLT, Nat.reduceLeDiff, Nat.reduceEqDiff, ↓reduceIte, ZQ, Bool.true_eq_false, Bool.false_eq_true, Bool.not_true, Bool.not_false]
  rcases cVertex a4 with b | ⟨x, hx, rfl⟩
  · refine Ok2.same hI (r := -2) ?_ ?_
    · simp (disch := omega) only [fX10_addEdge, fX10_isEdgeOfSlot, bX10_isEdgeOfSlot_32, bX10_isEdgeOfSlot_33, isSlot_ok h6, isVertex_ok hv, isLetter_ok hl, fun q => (b q).1, SC hs, ZN, Option.bind_some, eq_self, and_self, true_or, Nat.reduceEqDiff, ↓reduceIte]
    · simp (disch := omega) only [fX11_addEdge, bX11_addEdge_29, rSlot_ok h6, rVertex_ok hv, rLetter_ok hl, fun q => (b q).2, SR hs, ZN, Option.bind_some, eq_self, and_self, true_or, Nat.reduceEqDiff, ↓reduceIte]
  obtain ⟨h1, e1, m1, p1⟩ := push_mid hI h6
  obtain ⟨h2, e2, p2, q2⟩ := put_ok (gS m1.1 h6) (m1.m h6) hv hl hx
  have m2 := mid_set h6 m1 p2 q2
  refine ⟨nE (upM (G s) (4 * v + l) (G s (4 * v + l) ||| 2 ^ x)), (nE (upM (G s) (4 * v + l) (G s (4 * v + l) ||| 2 ^ x)), h2), ?_, rfl, ?_⟩
  · unfold fX10_addEdge fX10_isEdgeOfSlot bX10_isEdgeOfSlot_33
    simp (disch := omega) only [e1, SC (hs), zl, Option.bind_some, ZS, ZT, ZN, ZU, eq_self, true_and, and_true, and_self, or_true, true_or, or_false, false_or, not_true, not_false_eq_true, Nat.reduceAdd, Nat.reduceMul, Nat.reduceLT, Nat.reduceLeDiff, Nat.reduceEqDiff, ↓reduceIte, ZQ, Bool.true_eq_false, Bool.false_eq_true, Bool.not_true, Bool.not_false]
    simp (disch := omega) only [e2, SC (m1.1), zl, Option.bind_some, ZS, ZT, ZN, ZU, eq_self, true_and, and_true, and_self, or_true, true_or, or_false, false_or, not_true, not_false_eq_true, Nat.reduceAdd, Nat.reduceMul, Nat.reduceLT, Nat.reduceLeDiff, Nat.reduceEqDiff, ↓reduceIte, ZQ, Bool.true_eq_false, Bool.false_eq_true, Bool.not_true, Bool.not_false]
    simp (disch := omega) only [countS m2.1 h6 (m2.m h6), SC (m2.1), zl, Option.bind_some, ZS, ZT, ZN, ZU, eq_self, true_and, and_true, and_self, or_true, true_or, or_false, false_or, not_true, not_false_eq_true, Nat.reduceAdd, Nat.reduceMul, Nat.reduceLT, Nat.reduceLeDiff, Nat.reduceEqDiff, ↓reduceIte, ZQ, Bool.true_eq_false, Bool.false_eq_true, Bool.not_true, Bool.not_false]
  · have hr : vI h2 118 192 (fun j => G (j / 32) (j % 32)) := by
      intro j hj
      have := (m2.2.1 (j / 32) (by omega) (j % 32) (by omega)).2.1
      rwa [show 32 * (j / 32) + j % 32 = j by omega] at this
    have p3 : zfr [119] h2 (zsI h2 (zfil (zI h2) 119 32 (fun j => nI (G ((32 * s + j) / 32) ((32 * s + j) % 32))))) := zfr_filI
    have v3 : vI (zsI h2 (zfil (zI h2) 119 32 (fun j => nI (G ((32 * s + j) / 32) ((32 * s + j) % 32))))) 119 32 (G s) := by
      intro j hj
      dsimp only [zI_zsI]
      rw [zfil_in hj, show (32 * s + j) / 32 = s by omega, show (32 * s + j) % 32 = j by omega]
    have e3 := make_ok m2.1 hr h6
    have p4 := p3.same (zfr_uI (a := 119) (j := 4 * v + l) (v := nI (G s (4 * v + l) ||| 2 ^ x)))
    have m4 := m2.fr (fq.of p4 (by decide) (by decide))
    have hq := fin_r h6 m4 (made_set v3)
    show wp (fX11_addEdge 117 (nI s) (nI v) (nI l) (nI x) h2) _
    unfold fX11_addEdge
    have r3 := v3 (4 * v + l) (by omega)
    have hs3 := p3.shp m2.1
    simp (disch := omega) only [e3, SR (m2.1), zl, Option.bind_some, ZS, ZT, ZN, ZU, eq_self, true_and, and_true, and_self, or_true, true_or, or_false, false_or, not_true, not_false_eq_true, Nat.reduceAdd, Nat.reduceMul, Nat.reduceLT, Nat.reduceLeDiff, Nat.reduceEqDiff, ↓reduceIte, ZQ, Bool.true_eq_false, Bool.false_eq_true, Bool.not_true, Bool.not_false]
    dsimp only [zI_zsI] at r3
    rw [r3, nb_or]
    exact hq
theorem c_removeEdge (a1 a2 a3 a4 : Int32) : Ok2 (fX10_removeEdge 0 a1 a2 a3 a4) (fX11_removeEdge 117 a1 a2 a3 a4) := by
  refine Ok2.of (fun h G n c hI => ?_)
  have hs := hI.1
  have hG := hI.2.1
  rcases cSlot a1 with b | ⟨s, h6, rfl⟩
  · refine Ok2.same hI (r := -2) ?_ ?_
    · simp (disch := omega) only [fX10_removeEdge, fX10_isEdgeOfSlot, bX10_isEdgeOfSlot_32, bX10_isEdgeOfSlot_33, fun q => (b q).1, SC (hs), zl, Option.bind_some, ZS, ZT, ZN, ZU, eq_self, true_and, and_true, and_self, or_true, true_or, or_false, false_or, not_true, not_false_eq_true, Nat.reduceAdd, Nat.reduceMul, Nat.reduceLT, Nat.reduceLeDiff, Nat.reduceEqDiff, ↓reduceIte, ZQ, Bool.true_eq_false, Bool.false_eq_true, Bool.not_true, Bool.not_false]
    · simp (disch := omega) only [fX11_removeEdge, bX11_removeEdge_29, fun q => (b q).2, SR (hs), zl, Option.bind_some, ZS, ZT, ZN, ZU, eq_self, true_and, and_true, and_self, or_true, true_or, or_false, false_or, not_true, not_false_eq_true, Nat.reduceAdd, Nat.reduceMul, Nat.reduceLT, Nat.reduceLeDiff, Nat.reduceEqDiff, ↓reduceIte, ZQ, Bool.true_eq_false, Bool.false_eq_true, Bool.not_true, Bool.not_false]
  rcases cVertex a2 with b | ⟨v, hv, rfl⟩
  · refine Ok2.same hI (r := -2) ?_ ?_
    · simp (disch := omega) only [fX10_removeEdge, fX10_isEdgeOfSlot, bX10_isEdgeOfSlot_32, bX10_isEdgeOfSlot_33, fun q => (b q).1, SC (hs), zl, Option.bind_some, ZS, ZT, ZN, ZU, eq_self, true_and, and_true, and_self, or_true, true_or, or_false, false_or, not_true, not_false_eq_true, Nat.reduceAdd, Nat.reduceMul, Nat.reduceLT, Nat.reduceLeDiff, Nat.reduceEqDiff, ↓reduceIte, ZQ, Bool.true_eq_false, Bool.false_eq_true, Bool.not_true, Bool.not_false]
    · simp (disch := omega) only [fX11_removeEdge, bX11_removeEdge_29, fun q => (b q).2, SR (hs), zl, Option.bind_some, ZS, ZT, ZN, ZU, eq_self, true_and, and_true, and_self, or_true, true_or, or_false, false_or, not_true, not_false_eq_true, Nat.reduceAdd, Nat.reduceMul, Nat.reduceLT, Nat.reduceLeDiff, Nat.reduceEqDiff, ↓reduceIte, ZQ, Bool.true_eq_false, Bool.false_eq_true, Bool.not_true, Bool.not_false]
  rcases cLetter a3 with b | ⟨l, hl, rfl⟩
  · refine Ok2.same hI (r := -2) ?_ ?_
    · simp (disch := omega) only [fX10_removeEdge, fX10_isEdgeOfSlot, bX10_isEdgeOfSlot_32, bX10_isEdgeOfSlot_33, fun q => (b q).1, SC (hs), zl, Option.bind_some, ZS, ZT, ZN, ZU, eq_self, true_and, and_true, and_self, or_true, true_or, or_false, false_or, not_true, not_false_eq_true, Nat.reduceAdd, Nat.reduceMul, Nat.reduceLT, Nat.reduceLeDiff, Nat.reduceEqDiff, ↓reduceIte, ZQ, Bool.true_eq_false, Bool.false_eq_true, Bool.not_true, Bool.not_false]
    · simp (disch := omega) only [fX11_removeEdge, bX11_removeEdge_29, fun q => (b q).2, SR (hs), zl, Option.bind_some, ZS, ZT, ZN, ZU, eq_self, true_and, and_true, and_self, or_true, true_or, or_false, false_or, not_true, not_false_eq_true, Nat.reduceAdd, Nat.reduceMul, Nat.reduceLT, Nat.reduceLeDiff, Nat.reduceEqDiff, ↓reduceIte, ZQ, Bool.true_eq_false, Bool.false_eq_true, Bool.not_true, Bool.not_false]
  rcases cVertex a4 with b | ⟨x, hx, rfl⟩
  · refine Ok2.same hI (r := -2) ?_ ?_
    · simp (disch := omega) only [fX10_removeEdge, fX10_isEdgeOfSlot, bX10_isEdgeOfSlot_32, bX10_isEdgeOfSlot_33, isSlot_ok h6, isVertex_ok hv, isLetter_ok hl, fun q => (b q).1, SC hs, ZN, Option.bind_some, eq_self, and_self, true_or, Nat.reduceEqDiff, ↓reduceIte]
    · simp (disch := omega) only [fX11_removeEdge, bX11_removeEdge_29, rSlot_ok h6, rVertex_ok hv, rLetter_ok hl, fun q => (b q).2, SR hs, ZN, Option.bind_some, eq_self, and_self, true_or, Nat.reduceEqDiff, ↓reduceIte]
  have hb := (hG s h6 (4 * v + l) (by omega)).2.2
  by_cases e0 : (G s (4 * v + l)).testBit x = true
  · obtain ⟨h1, e1, m1, p1⟩ := push_mid hI h6
    obtain ⟨h2, e2, p2, q2⟩ := drop_ok (gS m1.1 h6) (m1.m h6) hv hl hx
    have m2 := mid_set h6 m1 p2 q2
    refine ⟨nE (upM (G s) (4 * v + l) (G s (4 * v + l) &&& (255 - 2 ^ x))), (nE (upM (G s) (4 * v + l) (G s (4 * v + l) &&& (255 - 2 ^ x))), h2), ?_, rfl, ?_⟩
    · unfold fX10_removeEdge fX10_isEdgeOfSlot bX10_isEdgeOfSlot_33
      simp (disch := omega) only [has_ok (gS hs h6) (hG.m h6) hv hl hx, e0, Bool.toNat_true, e1, SC (hs), zl, Option.bind_some, ZS, ZT, ZN, ZU, eq_self, true_and, and_true, and_self, or_true, true_or, or_false, false_or, not_true, not_false_eq_true, Nat.reduceAdd, Nat.reduceMul, Nat.reduceLT, Nat.reduceLeDiff, Nat.reduceEqDiff, ↓reduceIte, ZQ, Bool.true_eq_false, Bool.false_eq_true, Bool.not_true, Bool.not_false]
      simp (disch := omega) only [e2, SC (m1.1), zl, Option.bind_some, ZS, ZT, ZN, ZU, eq_self, true_and, and_true, and_self, or_true, true_or, or_false, false_or, not_true, not_false_eq_true, Nat.reduceAdd, Nat.reduceMul, Nat.reduceLT, Nat.reduceLeDiff, Nat.reduceEqDiff, ↓reduceIte, ZQ, Bool.true_eq_false, Bool.false_eq_true, Bool.not_true, Bool.not_false]
      simp (disch := omega) only [countS m2.1 h6 (m2.m h6), SC (m2.1), zl, Option.bind_some, ZS, ZT, ZN, ZU, eq_self, true_and, and_true, and_self, or_true, true_or, or_false, false_or, not_true, not_false_eq_true, Nat.reduceAdd, Nat.reduceMul, Nat.reduceLT, Nat.reduceLeDiff, Nat.reduceEqDiff, ↓reduceIte, ZQ, Bool.true_eq_false, Bool.false_eq_true, Bool.not_true, Bool.not_false]
    · have hr : vI h2 118 192 (fun j => G (j / 32) (j % 32)) := by
        intro j hj
        have := (m2.2.1 (j / 32) (by omega) (j % 32) (by omega)).2.1
        rwa [show 32 * (j / 32) + j % 32 = j by omega] at this
      have p3 : zfr [119] h2 (zsI h2 (zfil (zI h2) 119 32 (fun j => nI (G ((32 * s + j) / 32) ((32 * s + j) % 32))))) := zfr_filI
      have v3 : vI (zsI h2 (zfil (zI h2) 119 32 (fun j => nI (G ((32 * s + j) / 32) ((32 * s + j) % 32))))) 119 32 (G s) := by
        intro j hj
        dsimp only [zI_zsI]
        rw [zfil_in hj, show (32 * s + j) / 32 = s by omega, show (32 * s + j) % 32 = j by omega]
      have e3 := make_ok m2.1 hr h6
      have e4 : fX11_to 117 (nI s) (nI v) (nI l) h2 = some (nI (G s (4 * v + l)), h2) := by
        rw [to_ok m2.1 hr h6 hv hl, show (32 * s + 4 * v + l) / 32 = s by omega, show (32 * s + 4 * v + l) % 32 = 4 * v + l by omega]
      have p4 := p3.same (zfr_uI (a := 119) (j := 4 * v + l) (v := nI (G s (4 * v + l) &&& (255 - 2 ^ x))))
      have m4 := m2.fr (fq.of p4 (by decide) (by decide))
      have hq := fin_r h6 m4 (made_set v3)
      show wp (fX11_removeEdge 117 (nI s) (nI v) (nI l) (nI x) h2) _
      unfold fX11_removeEdge
      have r3 := v3 (4 * v + l) (by omega)
      have hn := nb_not hb hx
      have en : jshl (nI 1) (nI x) = nI (2 ^ x) := nb_1shl (by omega)
      rw [en] at hn
      simp (disch := omega) only [e4, e0, e3, SR (m2.1), zl, Option.bind_some, ZS, ZT, ZN, ZU, eq_self, true_and, and_true, and_self, or_true, true_or, or_false, false_or, not_true, not_false_eq_true, Nat.reduceAdd, Nat.reduceMul, Nat.reduceLT, Nat.reduceLeDiff, Nat.reduceEqDiff, ↓reduceIte, ZQ, Bool.true_eq_false, Bool.false_eq_true, Bool.not_true, Bool.not_false]
      dsimp only [zI_zsI] at r3
      rw [r3, hn]
      exact hq
  · have e1 : (G s (4 * v + l)).testBit x = false := by simpa using e0
    refine Ok2.same hI (r := -1) ?_ ?_
    · unfold fX10_removeEdge fX10_isEdgeOfSlot bX10_isEdgeOfSlot_33
      simp (disch := omega) only [has_ok (gS hs h6) (hG.m h6) hv hl hx, e1, Bool.toNat_false, SC (hs), zl, Option.bind_some, ZS, ZT, ZN, ZU, eq_self, true_and, and_true, and_self, or_true, true_or, or_false, false_or, not_true, not_false_eq_true, Nat.reduceAdd, Nat.reduceMul, Nat.reduceLT, Nat.reduceLeDiff, Nat.reduceEqDiff, ↓reduceIte, ZQ, Bool.true_eq_false, Bool.false_eq_true, Bool.not_true, Bool.not_false]
    · unfold fX11_removeEdge
      simp (disch := omega) only [toG hs hG h6 hv hl, e1, SR (hs), zl, Option.bind_some, ZS, ZT, ZN, ZU, eq_self, true_and, and_true, and_self, or_true, true_or, or_false, false_or, not_true, not_false_eq_true, Nat.reduceAdd, Nat.reduceMul, Nat.reduceLT, Nat.reduceLeDiff, Nat.reduceEqDiff, ↓reduceIte, ZQ, Bool.true_eq_false, Bool.false_eq_true, Bool.not_true, Bool.not_false]
