/-! COVERS: the object numbers the vertices -/
def pos : List Nat → Nat → Nat
  | [], _ => 0
  | a :: Q, P => if a = P then 0 else pos Q P + 1
theorem pos_at : ∀ {Q : List Nat}, Q.Nodup → ∀ {i}, i < Q.length → pos Q (Q.getD i 0) = i
  | [], _, i, hi => by cases hi
  | a :: Q, hn, i, hi => by
    rw [List.nodup_cons] at hn
    cases i with
    | zero =>
      show pos (a :: Q) a = 0
      rw [pos, if_pos rfl]
    | succ i =>
      have hi' : i < Q.length := by rw [List.length_cons] at hi; omega
      show pos (a :: Q) (Q.getD i 0) = i + 1
      rw [pos, if_neg (fun e => hn.1 (by rw [e]; exact getD_mem hi')), pos_at hn.2 hi']
theorem pos_app {R : List Nat} : ∀ {Q : List Nat} {P : Nat}, P ∈ Q → pos (Q ++ R) P = pos Q P
  | [], P, h => by cases h
  | a :: Q, P, h => by
    show pos (a :: (Q ++ R)) P = _
    rw [pos, pos]
    by_cases e : a = P
    · rw [if_pos e, if_pos e]
    · rw [if_neg e, if_neg e, pos_app (by
        rcases List.mem_cons.mp h with q | q
        · exact absurd q.symm e
        · exact q)]
theorem pos_new : ∀ {Q : List Nat} {P : Nat}, P ∉ Q → pos (Q ++ [P]) P = Q.length
  | [], P, _ => by show pos [P] P = 0; rw [pos, if_pos rfl]
  | a :: Q, P, h => by
    show pos (a :: (Q ++ [P])) P = _
    rw [pos, if_neg (fun e => h (by rw [e]; exact List.mem_cons_self)), pos_new (fun q => h (List.mem_cons_of_mem _ q)), List.length_cons]
theorem bq_prf {d : Nat → Nat → Nat} {A t : Nat} : ∀ k, ∃ R, (bq d A (t + k)).1 = (bq d A t).1 ++ R
  | 0 => ⟨[], (List.append_nil _).symm⟩
  | k + 1 => by
    obtain ⟨R, hR⟩ := bq_prf (d := d) (A := A) (t := t) k
    rw [← Nat.add_assoc, bq]
    split
    · unfold noteL
      split
      · exact ⟨R, hR⟩
      · exact ⟨R ++ [_], by dsimp only; rw [hR, List.append_assoc]⟩
    · exact ⟨R, hR⟩
theorem vF_s {la : Nat → Nat → Nat} {x l : Nat} : vF la (x + 1) l = la x l := by
  unfold vF
  rw [if_neg (by omega), Nat.add_sub_cancel]
theorem vF_le {la : Nat → Nat → Nat} {n P l : Nat} (hle : ∀ v l, v < n → l < 4 → la v l ≤ n) (hP : P ≤ n) (hl : l < 4) : vF la P l ≤ n := by
  unfold vF
  by_cases z : P = 0
  · rw [if_pos z]; omega
  · rw [if_neg z]; exact hle _ _ (by omega) hl
/-- the graph by the new numbers -/
def shp (le : Nat → Nat → Nat) (Q : List Nat) (s : Nat) : Nat := if s / 4 < Q.length ∧ vF le (Q.getD (s / 4) 0) (s % 4) ≠ 0 then 2 ^ pos Q (vF le (Q.getD (s / 4) 0) (s % 4)) else 0
def nvI (Q : List Nat) (h : ZH) : Prop := (∀ i, i < Q.length → zI h 69 i = nI (Q.getD i 0 - 1)) ∧ ∀ v, v < 8 → zI h 70 v = if v + 1 ∈ Q then nI (pos Q (v + 1)) else -1
/-- the vertices in the order in which they are met -/
theorem VQ_facts {n v0 : Nat} {la : Nat → Nat → Nat} (hv : v0 < n) (hle : ∀ v l, v < n → l < 4 → la v l ≤ n) : ∃ τ, (∀ t, t < τ → t / 4 < (bq (vF la) (v0 + 1) t).1.length) ∧ (bq (vF la) (v0 + 1) τ).1.length ≤ τ / 4 ∧ τ % 4 = 0 ∧ τ / 4 ≤ n ∧ rcD (vF la) (v0 + 1) (bq (vF la) (v0 + 1) τ).1 ∧ BI (vF la) (v0 + 1) τ (bq (vF la) (v0 + 1) τ) ∧ ∀ t, t ≤ τ → (bq (vF la) (v0 + 1) t).1.length ≤ n ∧ ∀ P, P ∈ (bq (vF la) (v0 + 1) t).1 → 1 ≤ P ∧ P ≤ n := by
  have all : ∀ t, ∀ P, P ∈ (bq (vF la) (v0 + 1) t).1 → P ≤ n := by
    intro t
    induction t with
    | zero =>
      intro P hP
      rw [bq] at hP
      unfold noteL at hP
      split at hP
      · cases hP
      · rcases List.mem_append.mp hP with e | e
        · cases e
        · rw [List.mem_singleton] at e
          omega
    | succ t ih =>
      intro P hP
      rw [bq] at hP
      split at hP
      · rename_i ht
        unfold noteL at hP
        split at hP
        · exact ih P hP
        · rcases List.mem_append.mp hP with e | e
          · exact ih P e
          · rw [List.mem_singleton] at e
            rw [e]
            exact vF_le hle (ih _ (getD_mem ht)) (Nat.mod_lt _ (by decide))
      · exact ih P hP
  obtain ⟨τ, t1, t2, t3, t4, t5⟩ := exStop1 (d := vF la) (A := v0 + 1) (n + 1) (by omega) (by omega) (fun t P hP => by have := all t P hP; omega)
  have lens : ∀ t, t ≤ τ → (bq (vF la) (v0 + 1) t).1.length ≤ n ∧ ∀ P, P ∈ (bq (vF la) (v0 + 1) t).1 → 1 ≤ P ∧ P ≤ n := by
    intro t ht
    have b := BI_all (d := vF la) (A := v0 + 1) (by omega) t (fun s hs => t2 s (by omega))
    have := len_lt (N := n + 1) b.2.1 b.2.2.1 (fun P hP => by have := all t P hP; omega) (by omega)
    refine ⟨by omega, fun P hP => ⟨?_, all t P hP⟩⟩
    have : P ≠ 0 := fun z => b.2.2.1 (by rw [← z]; exact hP)
    omega
  have hτ4 : τ % 4 = 0 := by
    apply Classical.byContradiction
    intro hn
    have a := t2 (τ - 1) (by omega)
    have b := bq_grow (d := vF la) (A := v0 + 1) (τ - 1)
    rw [show τ - 1 + 1 = τ by omega] at b
    omega
  refine ⟨τ, t2, t3, hτ4, ?_, rcD_of t4 t3, t4, lens⟩
  apply Classical.byContradiction
  intro hn
  have a := t2 (τ - 1) (by omega)
  have b := (lens (τ - 1) (by omega)).1
  omega
section NV
variable {h : ZH} {Q : List Nat}
theorem numV_old (hs : Sh h) (g : nvI Q h) {v c : Nat} (hv : v < 8) (hin : v + 1 ∈ Q) (hl : Q.length ≤ 8) (nd : Q.Nodup) (hc : c ≤ 8) : fX0_numberVertex 54 (nI v) (nI c) h = some (nI c, h) := by
  have e := g.2 v hv
  rw [if_pos hin] at e
  have hp : pos Q (v + 1) < 8 := by
    obtain ⟨i, hi, ei⟩ := mem_getD hin
    rw [← ei, pos_at nd hi]
    omega
  unfold fX0_numberVertex bX0_numberVertex_24
  by_cases h8 : c = 8
  · have ev := isVertex_no (x := nI 8) (Or.inr (by decide)) h
    rw [h8]
    simp (disch := omega) only [ev, SC (hs), zl_eq, bsm, ZS, ZT, ZN, ZU, eq_self, true_and, and_true, and_self, or_true, true_or, or_false, false_or, not_true, not_false_eq_true, Nat.reduceAdd, Nat.reduceMul, Nat.reduceLT, Nat.reduceLeDiff, Nat.reduceEqDiff, ↓reduceIte, ZQ, Bool.true_eq_false, Bool.false_eq_true, Bool.not_true, Bool.not_false]
  · simp (disch := omega) only [e, SC (hs), zl_eq, bsm, ZS, ZT, ZN, ZU, eq_self, true_and, and_true, and_self, or_true, true_or, or_false, false_or, not_true, not_false_eq_true, Nat.reduceAdd, Nat.reduceMul, Nat.reduceLT, Nat.reduceLeDiff, Nat.reduceEqDiff, ↓reduceIte, ZQ, Bool.true_eq_false, Bool.false_eq_true, Bool.not_true, Bool.not_false]
theorem numV_new (hs : Sh h) (g : nvI Q h) {v : Nat} (hv : v < 8) (hin : v + 1 ∉ Q) (hl : Q.length < 8) : ∃ h', fX0_numberVertex 54 (nI v) (nI Q.length) h = some (nI (Q.length + 1), h') ∧ zfr [69, 70] h h' ∧ nvI (Q ++ [v + 1]) h' := by
  have e := g.2 v hv
  rw [if_neg hin] at e
  refine ⟨zsI h (zu (zu (zI h) 70 v (nI Q.length)) 69 Q.length (nI v)), ?_, zfr_zsI (fun b hb => ?_), fun i hi => ?_, fun u hu => ?_⟩
  · unfold fX0_numberVertex
    simp (disch := omega) only [e, eq_true hl, SC (hs), zl_eq, bsm, ZS, ZT, ZN, ZU, eq_self, true_and, and_true, and_self, or_true, true_or, or_false, false_or, not_true, not_false_eq_true, Nat.reduceAdd, Nat.reduceMul, Nat.reduceLT, Nat.reduceLeDiff, Nat.reduceEqDiff, ↓reduceIte, ZQ, Bool.true_eq_false, Bool.false_eq_true, Bool.not_true, Bool.not_false]
  · rw [zu_ne (fun e => hb (by rw [e]; decide)), zu_ne (fun e => hb (by rw [e]; decide))]
  · rw [List.length_append] at hi
    have hi' : i < Q.length + 1 := hi
    dsimp only [zI_zsI]
    rw [zu_at]
    by_cases q : i = Q.length
    · rw [if_pos q, q, getD_r, Nat.add_sub_cancel]
    · rw [if_neg q, zu_ne (by decide), getD_l (by omega)]
      exact g.1 i (by omega)
  · dsimp only [zI_zsI]
    rw [zu_ne (by decide), zu_at]
    by_cases q : u = v
    · rw [if_pos q, q, if_pos (List.mem_append_right _ (List.mem_singleton.mpr rfl)), pos_new hin]
    · rw [if_neg q, g.2 u hu]
      by_cases q2 : u + 1 ∈ Q
      · rw [if_pos q2, if_pos (List.mem_append_left _ q2), pos_app q2]
      · rw [if_neg q2, if_neg (fun z => by
          rcases List.mem_append.mp z with z | z
          · exact q2 z
          · rw [List.mem_singleton] at z
            omega)]
end NV
theorem numberC {M : Nat → Nat} {T Ld : List Nat} {cl : Nat → Nat} {h : ZH} {Qs Rs : List Nat} {r v0 τ : Nat} (hs : Sh h) (lc : lastC M T) (vt : vtx M T Ld cl) (hM : hasM h 62 (mgM M Ld cl)) (sq : subQ 63 (Qs, Rs) h) (hl : Qs.length ≤ 255) (h9 : zI h 54 10 = nI r) (hr : r < Qs.length) (hv0 : Qs.getD r 0 = 2 ^ v0) (hvn : v0 < Ld.length)
    (t2 : ∀ t, t < τ → t / 4 < (bq (vF (le1 M Ld cl)) (v0 + 1) t).1.length) (t3 : (bq (vF (le1 M Ld cl)) (v0 + 1) τ).1.length ≤ τ / 4) (t4 : τ % 4 = 0) (t5 : τ / 4 ≤ Ld.length) (lens : ∀ t, t ≤ τ → (bq (vF (le1 M Ld cl)) (v0 + 1) t).1.length ≤ Ld.length ∧ ∀ P, P ∈ (bq (vF (le1 M Ld cl)) (v0 + 1) t).1 → 1 ≤ P ∧ P ≤ Ld.length) : ∃ h', fX0_numberVertices 54 h = some h' ∧ zfr [69, 70, 72] h h' ∧ hasM h' 72 (shp (le1 M Ld cl) (bq (vF (le1 M Ld cl)) (v0 + 1) τ).1) := by
  have h8 := vt.1
  have hle : ∀ v l, v < Ld.length → l < 4 → le1 M Ld cl v l ≤ Ld.length := fun v l hv hl => le1_le lc vt hv hl
  have nds : ∀ t, t ≤ τ → (bq (vF (le1 M Ld cl)) (v0 + 1) t).1.Nodup := fun t ht => (BI_all (d := vF (le1 M Ld cl)) (A := v0 + 1) (by omega) t (fun s hs => t2 s (by omega))).2.1
  have key : wp (fX0_numberVertices 54 h) (fun h' => zfr [69, 70, 72] h h' ∧ hasM h' 72 (shp (le1 M Ld cl) (bq (vF (le1 M Ld cl)) (v0 + 1) τ).1)) := by
    obtain ⟨h1, e1, p1, q1⟩ := clear_ok (g71 hs)
    have hs1 := p1.shp hs
    have p2 : zfr [70] h1 (zsI h1 (zfil (zI h1) 70 8 (fun _ => (-1 : Int32)))) := zfr_filI
    have nv2 : nvI [] (zsI h1 (zfil (zI h1) 70 8 (fun _ => (-1 : Int32)))) := ⟨(fun i hi => by cases hi), fun v hv => by
      dsimp only [zI_zsI]
      rw [zfil_in hv, if_neg (fun z => by cases z)]⟩
    have ef : fJ7_fill_53178 70 (-1) h1 = some (zsI h1 (zfil (zI h1) 70 8 (fun _ => (-1 : Int32)))) := fillI_ok (Aa hs1 (by decide) (by decide) (by decide)) (by decide)
    unfold fX0_numberVertices
    simp (disch := omega) only [e1, SC (hs), zl_eq, bsm, ZS, ZT, ZN, ZU, eq_self, true_and, and_true, and_self, or_true, true_or, or_false, false_or, not_true, not_false_eq_true, Nat.reduceAdd, Nat.reduceMul, Nat.reduceLT, Nat.reduceLeDiff, Nat.reduceEqDiff, ↓reduceIte, ZQ, Bool.true_eq_false, Bool.false_eq_true, Bool.not_true, Bool.not_false]
    simp (disch := omega) only [ef, SC (hs1), zl_eq, bsm, ZS, ZT, ZN, ZU, eq_self, true_and, and_true, and_self, or_true, true_or, or_false, false_or, not_true, not_false_eq_true, Nat.reduceAdd, Nat.reduceMul, Nat.reduceLT, Nat.reduceLeDiff, Nat.reduceEqDiff, ↓reduceIte, ZQ, Bool.true_eq_false, Bool.false_eq_true, Bool.not_true, Bool.not_false]
    have q2 := p2.hasM (m := 72) (by decide) q1
    generalize zsI h1 (zfil (zI h1) 70 8 (fun _ => (-1 : Int32))) = h2 at p2 nv2 q2
    have hs2 := p2.shp hs1
    have p12 : zfr [69, 70, 72] h h2 := (p1.mono (by decide)).same (p2.mono (by decide))
    have e0 : (bq (vF (le1 M Ld cl)) (v0 + 1) 0).1 = [] ++ [v0 + 1] := by
      show (noteL ([], []) (v0 + 1) 0).1 = _
      unfold noteL
      rw [if_neg (by rintro (z | z); omega; cases z)]
    -- the search
    have main : ∀ h3, zfr [69, 70, 72] h h3 → nvI (bq (vF (le1 M Ld cl)) (v0 + 1) 0).1 h3 → hasM h3 72 (fun _ => 0) → wp (bX0_numberVertices_60 54 (nI 1) h3) (fun h' => zfr [69, 70, 72] h h' ∧ hasM h' 72 (shp (le1 M Ld cl) (bq (vF (le1 M Ld cl)) (v0 + 1) τ).1)) := by
      intro h3 p3 nv3 q3
      unfold bX0_numberVertices_60
      refine wloop (fun p y => y.1 = nI (bq (vF (le1 M Ld cl)) (v0 + 1) (4 * p)).1.length ∧ y.2.1 = nI p ∧ zfr [69, 70, 72] h y.2.2 ∧ nvI (bq (vF (le1 M Ld cl)) (v0 + 1) (4 * p)).1 y.2.2 ∧ hasM y.2.2 72 (uW (shp (le1 M Ld cl) (bq (vF (le1 M Ld cl)) (v0 + 1) τ).1) (4 * p))) (τ / 4) (fun p y self hp hy ih => ?_) (show τ / 4 < 100000 by omega) ⟨by rw [Nat.mul_zero, e0]; rfl, rfl, p3, nv3, by rw [Nat.mul_zero, uW_0]; exact q3⟩
      obtain ⟨y1, y2, h4⟩ := y
      obtain ⟨rfl, rfl, p4, nv4, q4⟩ := hy
      dsimp only at p4 nv4 q4
      have hs4 := p4.shp hs
      have l4 := (lens (4 * p) (by omega)).1
      show wp (kX0_numberVertices_62 54 self (nI (bq (vF (le1 M Ld cl)) (v0 + 1) (4 * p)).1.length) (nI p) h4) _
      unfold kX0_numberVertices_62 bX0_numberVertices_141
      by_cases hlt : p < τ / 4
      · have hpq := t2 (4 * p) (by omega)
        rw [show 4 * p / 4 = p by omega] at hpq
        simp (disch := omega) only [Nat.not_le.mpr hpq, show ¬ (8 ≤ p) by omega, SC (hs4), zl_eq, bsm, ZS, ZT, ZN, ZU, eq_self, true_and, and_true, and_self, or_true, true_or, or_false, false_or, not_true, not_false_eq_true, Nat.reduceAdd, Nat.reduceMul, Nat.reduceLT, Nat.reduceLeDiff, Nat.reduceEqDiff, ↓reduceIte, ZQ, Bool.true_eq_false, Bool.false_eq_true, Bool.not_true, Bool.not_false]
        refine wloop (fun l y => y.1 = nI (bq (vF (le1 M Ld cl)) (v0 + 1) (4 * p + l)).1.length ∧ y.2.1 = nI l ∧ zfr [69, 70, 72] h y.2.2 ∧ nvI (bq (vF (le1 M Ld cl)) (v0 + 1) (4 * p + l)).1 y.2.2 ∧ hasM y.2.2 72 (uW (shp (le1 M Ld cl) (bq (vF (le1 M Ld cl)) (v0 + 1) τ).1) (4 * p + l))) 4 (fun l y self2 hl2 hy ih2 => ?_) (by decide) ⟨rfl, rfl, p4, nv4, q4⟩
        obtain ⟨y1, y2, h5⟩ := y
        obtain ⟨rfl, rfl, p5, nv5, q5⟩ := hy
        dsimp only at p5 nv5 q5
        have hs5 := p5.shp hs
        show wp (kX0_numberVertices_75 self 54 (nI p) self2 (nI (bq (vF (le1 M Ld cl)) (v0 + 1) (4 * p + l)).1.length) (nI l) h5) _
        unfold kX0_numberVertices_75 bX0_numberVertices_129
        by_cases hl4 : l < 4
        · have hpl := t2 (4 * p + l) (by omega)
          have hpl' : p < (bq (vF (le1 M Ld cl)) (v0 + 1) (4 * p + l)).1.length := by rw [show (4 * p + l) / 4 = p by omega] at hpl; exact hpl
          obtain ⟨l5, in5⟩ := lens (4 * p + l) (by omega)
          obtain ⟨l6, in6⟩ := lens (4 * p + l + 1) (by omega)
          have vo := nv5.1 p hpl'
          obtain ⟨x1, x2⟩ := in5 _ (getD_mem hpl')
          obtain ⟨x, hx⟩ : ∃ x, (bq (vF (le1 M Ld cl)) (v0 + 1) (4 * p + l)).1.getD p 0 = x + 1 := ⟨_, (Nat.sub_add_cancel x1).symm⟩
          rw [hx] at x2
          rw [hx, Nat.add_sub_cancel] at vo
          have hxn : x < Ld.length := by omega
          have hM5 : hasM h5 62 (mgM M Ld cl) := p5.hasM (by decide) hM
          have et := targetC hs5 hM5 (fun v l hv hl => Nat.le_trans (hle v l hv hl) h8) h8 hxn hl4
          have ev : vF (le1 M Ld cl) ((bq (vF (le1 M Ld cl)) (v0 + 1) (4 * p + l)).1.getD p 0) l = le1 M Ld cl x l := by
            rw [hx, vF_s]
          have elx := hle x l hxn hl4
          -- the row of the shape
          obtain ⟨R, hR⟩ := bq_prf (d := vF (le1 M Ld cl)) (A := v0 + 1) (t := 4 * p + l + 1) (τ - (4 * p + l + 1))
          rw [show 4 * p + l + 1 + (τ - (4 * p + l + 1)) = τ by omega] at hR
          obtain ⟨R', hR'⟩ := bq_prf (d := vF (le1 M Ld cl)) (A := v0 + 1) (t := 4 * p + l) (τ - (4 * p + l))
          rw [show 4 * p + l + (τ - (4 * p + l)) = τ by omega] at hR'
          have hgQ : (bq (vF (le1 M Ld cl)) (v0 + 1) τ).1.getD p 0 = (bq (vF (le1 M Ld cl)) (v0 + 1) (4 * p + l)).1.getD p 0 := by
            rw [hR', List.getD_eq_getElem?_getD, List.getElem?_append_left hpl', ← List.getD_eq_getElem?_getD]
          have hplf : p < (bq (vF (le1 M Ld cl)) (v0 + 1) τ).1.length := by rw [hR', List.length_append]; omega
          have esh : shp (le1 M Ld cl) (bq (vF (le1 M Ld cl)) (v0 + 1) τ).1 (4 * p + l) = if le1 M Ld cl x l ≠ 0 then 2 ^ pos (bq (vF (le1 M Ld cl)) (v0 + 1) τ).1 (le1 M Ld cl x l) else 0 := by
            unfold shp
            rw [show (4 * p + l) / 4 = p by omega, show (4 * p + l) % 4 = l by omega, hgQ, ev]
            by_cases z : le1 M Ld cl x l ≠ 0
            · rw [if_pos ⟨hplf, z⟩, if_pos z]
            · rw [if_neg (fun q => z q.2), if_neg z]
          have eb : bq (vF (le1 M Ld cl)) (v0 + 1) (4 * p + l + 1) = noteL (bq (vF (le1 M Ld cl)) (v0 + 1) (4 * p + l)) (le1 M Ld cl x l) (4 * p + l) := by
            rw [bq, if_pos hpl, show (4 * p + l) / 4 = p by omega, show (4 * p + l) % 4 = l by omega, ev]
          generalize le1 M Ld cl x l = e at et ev elx esh eb
          by_cases e0' : e = 0
          · rw [if_pos e0'] at et
            rw [if_neg (fun q => q e0')] at esh
            unfold noteL at eb
            rw [if_pos (Or.inl e0')] at eb
            simp (disch := omega) only [Nat.not_le.mpr hl4, vo, et, show ((-1 : Int32) < 0) = True by decide, SC (hs5), zl_eq, bsm, ZS, ZT, ZN, ZU, eq_self, true_and, and_true, and_self, or_true, true_or, or_false, false_or, not_true, not_false_eq_true, Nat.reduceAdd, Nat.reduceMul, Nat.reduceLT, Nat.reduceLeDiff, Nat.reduceEqDiff, ↓reduceIte, ZQ, Bool.true_eq_false, Bool.false_eq_true, Bool.not_true, Bool.not_false]
            refine ih2 _ hl4 ⟨by rw [← Nat.add_assoc, eb], rfl, p5, by rw [← Nat.add_assoc, eb]; exact nv5, ?_⟩
            rw [← Nat.add_assoc, ← uW_put, esh, uW_nil]
            exact q5
          · rw [if_neg e0'] at et
            rw [if_pos e0'] at esh
            obtain ⟨u, rfl⟩ : ∃ u, e = u + 1 := ⟨e - 1, by omega⟩
            rw [Nat.add_sub_cancel] at et
            -- numbered, and written
            have rest : ∀ h6, zfr [69, 70] h5 h6 → nvI (bq (vF (le1 M Ld cl)) (v0 + 1) (4 * p + l + 1)).1 h6 → u + 1 ∈ (bq (vF (le1 M Ld cl)) (v0 + 1) (4 * p + l + 1)).1 → fX0_numberVertex 54 (nI u) (nI (bq (vF (le1 M Ld cl)) (v0 + 1) (4 * p + l)).1.length) h5 = some (nI (bq (vF (le1 M Ld cl)) (v0 + 1) (4 * p + l + 1)).1.length, h6) → wp (if (nI 4) ≤ (nI l) then (self (nI (bq (vF (le1 M Ld cl)) (v0 + 1) (4 * p + l)).1.length, nI p + nI 1, h5)) else ((gR h5 0 54 11).bind fun v2 => (lI h5 14 v2 (nI p)).bind fun v3 => (fX0_targetInMerged 54 v3 (nI l) h5).bind fun q4 => if q4.1 < 0 then (self2 (nI (bq (vF (le1 M Ld cl)) (v0 + 1) (4 * p + l)).1.length, nI l + nI 1, q4.2)) else (if (nI 8) ≤ q4.1 then (self2 (nI (bq (vF (le1 M Ld cl)) (v0 + 1) (4 * p + l)).1.length, nI l + nI 1, q4.2)) else ((fX0_numberVertex 54 q4.1 (nI (bq (vF (le1 M Ld cl)) (v0 + 1) (4 * p + l)).1.length) q4.2).bind fun q7 => (gR q7.2 0 54 13).bind fun v8 => (gR q7.2 0 54 12).bind fun v9 => (lI q7.2 14 v9 q4.1).bind fun v10 => (fX1_put v8 (nI p) (nI l) v10 q7.2).bind fun h11 => self2 (q7.1, nI l + nI 1, h11))))) (fun h' => zfr [69, 70, 72] h h' ∧ hasM h' 72 (shp (le1 M Ld cl) (bq (vF (le1 M Ld cl)) (v0 + 1) τ).1)) := by
              intro h6 p6 nv6 hin e6
              have hs6 := p6.shp hs5
              have nd6 := nds (4 * p + l + 1) (by omega)
              have v10 := nv6.2 u (by omega)
              rw [if_pos hin] at v10
              have hpos : pos (bq (vF (le1 M Ld cl)) (v0 + 1) (4 * p + l + 1)).1 (u + 1) < 8 := by
                obtain ⟨i, hi, ei⟩ := mem_getD hin
                rw [← ei, pos_at nd6 hi]
                omega
              have epos : pos (bq (vF (le1 M Ld cl)) (v0 + 1) τ).1 (u + 1) = pos (bq (vF (le1 M Ld cl)) (v0 + 1) (4 * p + l + 1)).1 (u + 1) := by rw [hR, pos_app hin]
              obtain ⟨h7, e7, p7, q7⟩ := put_ok (g71 hs6) (p6.hasM (m := 72) (by decide) q5) (v := p) (l := l) (x := pos (bq (vF (le1 M Ld cl)) (v0 + 1) (4 * p + l + 1)).1 (u + 1)) (by omega) hl4 hpos
              simp (disch := omega) only [Nat.not_le.mpr hl4, vo, et, show ¬ (8 ≤ u) by omega, e6, SC (hs5), zl_eq, bsm, ZS, ZT, ZN, ZU, eq_self, true_and, and_true, and_self, or_true, true_or, or_false, false_or, not_true, not_false_eq_true, Nat.reduceAdd, Nat.reduceMul, Nat.reduceLT, Nat.reduceLeDiff, Nat.reduceEqDiff, ↓reduceIte, ZQ, Bool.true_eq_false, Bool.false_eq_true, Bool.not_true, Bool.not_false]
              simp (disch := omega) only [v10, e7, SC (hs6), zl_eq, bsm, ZS, ZT, ZN, ZU, eq_self, true_and, and_true, and_self, or_true, true_or, or_false, false_or, not_true, not_false_eq_true, Nat.reduceAdd, Nat.reduceMul, Nat.reduceLT, Nat.reduceLeDiff, Nat.reduceEqDiff, ↓reduceIte, ZQ, Bool.true_eq_false, Bool.false_eq_true, Bool.not_true, Bool.not_false]
              refine ih2 _ hl4 ⟨rfl, rfl, (p5.same (p6.mono (by decide))).same (p7.mono (by decide)), ?_, ?_⟩
              · exact ⟨fun i hi => by rw [p7.I (by decide)]; exact nv6.1 i hi, fun v hv => by rw [p7.I (by decide)]; exact nv6.2 v hv⟩
              · rw [uW_at, Nat.zero_or, ← epos, ← esh, uW_put] at q7
                exact q7
            by_cases hin : u + 1 ∈ (bq (vF (le1 M Ld cl)) (v0 + 1) (4 * p + l)).1
            · unfold noteL at eb
              rw [if_pos (Or.inr hin)] at eb
              refine rest h5 (zfr.refl h5) (by rw [eb]; exact nv5) (by rw [eb]; exact hin) ?_
              rw [eb]
              exact numV_old hs5 nv5 (by omega) hin (by omega) (nds (4 * p + l) (by omega)) (by omega)
            · unfold noteL at eb
              rw [if_neg (by rintro (z | z); omega; exact hin z)] at eb
              have l6' : (bq (vF (le1 M Ld cl)) (v0 + 1) (4 * p + l)).1.length + 1 ≤ Ld.length := by
                have := l6
                rw [eb, List.length_append] at this
                exact this
              obtain ⟨h6, e6, p6, nv6⟩ := numV_new hs5 nv5 (v := u) (by omega) hin (by omega)
              refine rest h6 p6 (by rw [eb]; exact nv6) (by rw [eb]; exact List.mem_append_right _ (List.mem_singleton.mpr rfl)) ?_
              rw [eb]
              dsimp only
              rw [List.length_append]
              exact e6
        · have : l = 4 := by omega
          subst this
          simp (disch := omega) only [Nat.le_refl, SC (hs5), zl_eq, bsm, ZS, ZT, ZN, ZU, eq_self, true_and, and_true, and_self, or_true, true_or, or_false, false_or, not_true, not_false_eq_true, Nat.reduceAdd, Nat.reduceMul, Nat.reduceLT, Nat.reduceLeDiff, Nat.reduceEqDiff, ↓reduceIte, ZQ, Bool.true_eq_false, Bool.false_eq_true, Bool.not_true, Bool.not_false]
          exact ih _ hlt ⟨by rw [show 4 * (p + 1) = 4 * p + 4 by omega], rfl, p5, by rw [show 4 * (p + 1) = 4 * p + 4 by omega]; exact nv5, by rw [show 4 * (p + 1) = 4 * p + 4 by omega]; exact q5⟩
      · have hpe : 4 * p = τ := by omega
        rw [hpe] at l4 q4 ⊢
        simp (disch := omega) only [show (bq (vF (le1 M Ld cl)) (v0 + 1) τ).1.length ≤ p by omega, SC (hs4), zl_eq, bsm, ZS, ZT, ZN, ZU, eq_self, true_and, and_true, and_self, or_true, true_or, or_false, false_or, not_true, not_false_eq_true, Nat.reduceAdd, Nat.reduceMul, Nat.reduceLT, Nat.reduceLeDiff, Nat.reduceEqDiff, ↓reduceIte, ZQ, Bool.true_eq_false, Bool.false_eq_true, Bool.not_true, Bool.not_false]
        refine wp_some ⟨p4, hasM_cong q4 (fun j hj => ?_)⟩
        unfold uW
        by_cases e : j < τ
        · rw [if_pos e]
        · rw [if_neg e]
          unfold shp
          rw [if_neg (fun q => by omega)]
    -- the first vertex
    have es := setC hs2 (sq.fr p12 (by decide) (by decide) (by decide) (by decide)) hl hr
    rw [hv0] at es
    have h92 : zI h2 54 10 = nI r := by rw [p12.I (by decide)]; exact h9
    have pw : 2 ^ v0 < 256 := show 2 ^ v0 < 2 ^ 8 from Nat.pow_lt_pow_right (by decide) (by omega)
    refine wloop (fun v y => (v ≤ v0 ∧ y = (nI 0, nI v, h2)) ∨ (v = v0 + 1 ∧ ∃ h3, y = (nI 1, nI (v0 + 1), h3) ∧ zfr [69, 70, 72] h h3 ∧ nvI (bq (vF (le1 M Ld cl)) (v0 + 1) 0).1 h3 ∧ hasM h3 72 (fun _ => 0))) (v0 + 1) (fun v y self hv hy ih => ?_) (show v0 + 1 < 100000 by omega) (Or.inl ⟨Nat.zero_le _, rfl⟩)
    rcases hy with ⟨hvv, rfl⟩ | ⟨rfl, h3, rfl, p3, nv3, q3⟩
    · show wp (kX0_numberVertices_19 54 self (nI 0) (nI v) h2) _
      unfold kX0_numberVertices_19 bX0_numberVertices_54
      by_cases hlt : v < v0
      · have hb : (2 ^ v0).testBit v = false := by
          cases q : (2 ^ v0).testBit v with
          | false => rfl
          | true => rw [pow_bit] at q; omega
        simp (disch := omega) only [show ¬ (8 ≤ v) by omega, h92, es, hb, SC (hs2), zl_eq, bsm, ZS, ZT, ZN, ZU, eq_self, true_and, and_true, and_self, or_true, true_or, or_false, false_or, not_true, not_false_eq_true, Nat.reduceAdd, Nat.reduceMul, Nat.reduceLT, Nat.reduceLeDiff, Nat.reduceEqDiff, ↓reduceIte, ZQ, Bool.true_eq_false, Bool.false_eq_true, Bool.not_true, Bool.not_false]
        exact ih _ (by omega) (Or.inl ⟨by omega, rfl⟩)
      · have hve : v = v0 := by omega
        subst hve
        have hb : (2 ^ v).testBit v = true := pow_bit.mpr rfl
        obtain ⟨h3, e3, p3, nv3⟩ := numV_new hs2 nv2 (v := v) (by omega) (fun z => by cases z) (by decide)
        have e3' : fX0_numberVertex 54 (nI v) (nI 0) h2 = some (nI 1, h3) := e3
        simp (disch := omega) only [show ¬ (8 ≤ v) by omega, h92, es, hb, e3', SC (hs2), zl_eq, bsm, ZS, ZT, ZN, ZU, eq_self, true_and, and_true, and_self, or_true, true_or, or_false, false_or, not_true, not_false_eq_true, Nat.reduceAdd, Nat.reduceMul, Nat.reduceLT, Nat.reduceLeDiff, Nat.reduceEqDiff, ↓reduceIte, ZQ, Bool.true_eq_false, Bool.false_eq_true, Bool.not_true, Bool.not_false]
        exact ih _ (by omega) (Or.inr ⟨rfl, h3, rfl, p12.same (p3.mono (by decide)), by rw [e0]; exact nv3, p3.hasM (by decide) q2⟩)
    · have mm := main h3 p3 nv3 q3
      show wp (kX0_numberVertices_19 54 self (nI 1) (nI (v0 + 1)) h3) _
      unfold kX0_numberVertices_19
      by_cases e8 : 8 ≤ v0 + 1
      · simp (disch := omega) only [eq_true e8, zl_eq, bsm, ZS, ZT, ZN, ZU, eq_self, true_and, and_true, and_self, or_true, true_or, or_false, false_or, not_true, not_false_eq_true, Nat.reduceAdd, Nat.reduceMul, Nat.reduceLT, Nat.reduceLeDiff, Nat.reduceEqDiff, ↓reduceIte, ZQ, Bool.true_eq_false, Bool.false_eq_true, Bool.not_true, Bool.not_false]
        exact mm
      · simp (disch := omega) only [eq_false e8, zl_eq, bsm, ZS, ZT, ZN, ZU, eq_self, true_and, and_true, and_self, or_true, true_or, or_false, false_or, not_true, not_false_eq_true, Nat.reduceAdd, Nat.reduceMul, Nat.reduceLT, Nat.reduceLeDiff, Nat.reduceEqDiff, ↓reduceIte, ZQ, Bool.true_eq_false, Bool.false_eq_true, Bool.not_true, Bool.not_false]
        exact mm
  obtain ⟨h', e, p, q⟩ := key
  exact ⟨h', e, p, q⟩
