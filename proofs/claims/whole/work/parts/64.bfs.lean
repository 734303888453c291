/-! SUBSETS: the automaton of sets, in breadth-first order -/
theorem cnt_ins {p : Nat → Bool} {x n : Nat} (hx : x < n) (hp : p x = false) : cnt (fun k => decide (k = x) || p k) n = cnt p n + 1 := by
  induction n with
  | zero => omega
  | succ n ih =>
    rw [cnt, cnt]
    by_cases e : x = n
    · subst e
      have h1 : cnt (fun k => decide (k = x) || p k) x = cnt p x := by
        have : ∀ m, m ≤ x → cnt (fun k => decide (k = x) || p k) m = cnt p m := by
          intro m
          induction m with
          | zero => intro _; rfl
          | succ m ihm =>
            intro hm
            rw [cnt, cnt, ihm (by omega), decide_eq_false (by omega : ¬ m = x), Bool.false_or]
        exact this x (Nat.le_refl _)
      rw [h1, hp, decide_eq_true rfl, Bool.true_or]
      simp
    · rw [ih (by omega), decide_eq_false (by omega : ¬ n = x), Bool.false_or]
      omega
theorem cnt_list {L : List Nat} {n : Nat} (hn : L.Nodup) (hl : ∀ x ∈ L, x < n) : cnt (fun k => decide (k ∈ L)) n = L.length := by
  induction L with
  | nil =>
    have : ∀ n, cnt (fun k => decide (k ∈ ([] : List Nat))) n = 0 := by
      intro n
      induction n with
      | zero => rfl
      | succ n ih => rw [cnt, ih]; simp
    exact this n
  | cons x L ih =>
    rw [List.nodup_cons] at hn
    have e : (fun k => decide (k ∈ x :: L)) = (fun k => decide (k = x) || decide (k ∈ L)) := by
      funext k
      rw [← Bool.decide_or]
      congr 1
      exact propext List.mem_cons
    rw [e, cnt_ins (hl x List.mem_cons_self) (decide_eq_false hn.1), ih hn.2 (fun y hy => hl y (List.mem_cons_of_mem _ hy)), List.length_cons]
def good (L : List Nat) : Prop := L.Nodup ∧ ∀ S ∈ L, S ≠ 0 ∧ S < 256
theorem good.len {L : List Nat} (g : good L) : L.length ≤ 255 := by
  have h1 := cnt_list (n := 256) g.1 (fun x hx => (g.2 x hx).2)
  have h2 := cnt_lt (p := fun _ => true) (q := fun k => decide (k ∈ L)) (n := 256) (fun _ _ _ => rfl) (i := 0) (by decide) rfl (decide_eq_false (fun q => (g.2 0 q).1 rfl))
  have h3 := cnt_le (fun _ => true) 256
  omega
/-- a set is noted, if it is new -/
def noteL (q : List Nat × List Nat) (S a : Nat) : List Nat × List Nat := if S = 0 ∨ S ∈ q.1 then q else (q.1 ++ [S], q.2 ++ [a])
def bq (d : Nat → Nat → Nat) (A : Nat) : Nat → List Nat × List Nat
  | 0 => noteL ([], []) A 0
  | t + 1 => if t / 4 < (bq d A t).1.length then noteL (bq d A t) (d ((bq d A t).1.getD (t / 4) 0) (t % 4)) t else bq d A t
/-- which state a set is: 255 for the empty one -/
def stt (L : List Nat) (j S : Nat) : Prop := (S = 0 ∧ j = 255) ∨ L[j]? = some S
theorem stt.mono {L T : List Nat} {j S : Nat} (h : stt L j S) : stt (L ++ T) j S := by
  rcases h with h | h
  · exact Or.inl h
  · right
    have := (List.getElem?_eq_some_iff.mp h).1
    rw [List.getElem?_append_left this]; exact h
theorem noteL_good {q : List Nat × List Nat} {S a : Nat} (g : good q.1) (hS : S < 256) : good (noteL q S a).1 := by
  unfold noteL
  by_cases h : S = 0 ∨ S ∈ q.1
  · rw [if_pos h]; exact g
  · rw [if_neg h]
    have h1 : S ≠ 0 := fun e => h (Or.inl e)
    have h2 : S ∉ q.1 := fun e => h (Or.inr e)
    refine ⟨?_, fun T hT => ?_⟩
    · rw [List.nodup_append]
      refine ⟨g.1, List.nodup_cons.mpr ⟨List.not_mem_nil, List.nodup_nil⟩, fun x hx y hy e => ?_⟩
      rw [List.mem_singleton] at hy
      exact h2 (by rw [← hy, ← e]; exact hx)
    · rcases List.mem_append.mp hT with q | q
      · exact g.2 T q
      · rw [List.mem_singleton.mp q]; exact ⟨h1, hS⟩
theorem noteL_pre {q : List Nat × List Nat} {S a : Nat} : ∃ T, (noteL q S a).1 = q.1 ++ T := by
  unfold noteL
  split
  · exact ⟨[], (List.append_nil _).symm⟩
  · exact ⟨[S], rfl⟩
theorem bq_good {d : Nat → Nat → Nat} {A : Nat} (hA : A < 256) (hd : ∀ S l, l < 4 → d S l < 256) (t : Nat) : good (bq d A t).1 := by
  induction t with
  | zero => exact noteL_good ⟨List.nodup_nil, fun S h => by cases h⟩ hA
  | succ t ih =>
    rw [bq]
    split
    · exact noteL_good ih (hd _ _ (by omega))
    · exact ih
theorem bq_pre {d : Nat → Nat → Nat} {A : Nat} (t k : Nat) : ∃ T, (bq d A (t + k)).1 = (bq d A t).1 ++ T := by
  induction k with
  | zero => exact ⟨[], (List.append_nil _).symm⟩
  | succ k ih =>
    obtain ⟨T, hT⟩ := ih
    rw [← Nat.add_assoc, bq]
    split
    · obtain ⟨U, hU⟩ := noteL_pre (q := bq d A (t + k)) (S := d ((bq d A (t + k)).1.getD ((t + k) / 4) 0) ((t + k) % 4)) (a := t + k)
      exact ⟨T ++ U, by rw [hU, hT, List.append_assoc]⟩
    · exact ⟨T, hT⟩
theorem bq_stay {d : Nat → Nat → Nat} {A i : Nat} (h : (bq d A (4 * i)).1.length ≤ i) (k : Nat) : bq d A (4 * i + k) = bq d A (4 * i) := by
  induction k with
  | zero => rfl
  | succ k ih =>
    rw [← Nat.add_assoc, bq, ih, if_neg (by omega)]
def isSub (h : ZH) (x : Nat) : Prop := (x < zn h ∧ zK h x = 6 ∧ zR h x 0 = some (x + 1) ∧ zR h x 1 = some (x + 2) ∧ zR h x 2 = some (x + 3) ∧ zR h x 3 = some (x + 4) ∧ zR h x 4 = some (x + 5)) ∧ isA h 14 (x + 1) 256 ∧ isA h 14 (x + 2) 256 ∧ isA h 14 (x + 3) 1024 ∧ isA h 14 (x + 4) 256 ∧ isA h 14 (x + 5) 8
theorem sub37 {h : ZH} (hs : Sh h) : isSub h 37 := ⟨⟨(O37 hs).1, (O37 hs).2, Rr hs (by decide) (by decide) (by decide) (by decide), Rr hs (by decide) (by decide) (by decide) (by decide), Rr hs (by decide) (by decide) (by decide) (by decide), Rr hs (by decide) (by decide) (by decide) (by decide), Rr hs (by decide) (by decide) (by decide) (by decide)⟩, A38 hs, A39 hs, A40 hs, A41 hs, A42 hs⟩
theorem sub43 {h : ZH} (hs : Sh h) : isSub h 43 := ⟨⟨(O43 hs).1, (O43 hs).2, Rr hs (by decide) (by decide) (by decide) (by decide), Rr hs (by decide) (by decide) (by decide) (by decide), Rr hs (by decide) (by decide) (by decide) (by decide), Rr hs (by decide) (by decide) (by decide) (by decide), Rr hs (by decide) (by decide) (by decide) (by decide)⟩, A44 hs, A45 hs, A46 hs, A47 hs, A48 hs⟩
theorem sub62 {h : ZH} (hs : Sh h) : isSub h 63 := ⟨⟨(O63 hs).1, (O63 hs).2, Rr hs (by decide) (by decide) (by decide) (by decide), Rr hs (by decide) (by decide) (by decide) (by decide), Rr hs (by decide) (by decide) (by decide) (by decide), Rr hs (by decide) (by decide) (by decide) (by decide), Rr hs (by decide) (by decide) (by decide) (by decide)⟩, A64 hs, A65 hs, A66 hs, A67 hs, A68 hs⟩
theorem zfr.isSub {A : List Nat} {h h1 : ZH} (p : zfr A h h1) {x : Nat} (g : isSub h x) : isSub h1 x := by
  refine ⟨?_, p.isA g.2.1, p.isA g.2.2.1, p.isA g.2.2.2.1, p.isA g.2.2.2.2.1, p.isA g.2.2.2.2.2⟩
  obtain ⟨⟨p1, p2, p3, p4, p5⟩, -⟩ := p
  rw [p1, p3, p5]
  exact g.1
/-- what a subsets object holds: sets, arrivals, numbers -/
def subQ (x : Nat) (q : List Nat × List Nat) (h : ZH) : Prop := zI h x 5 = nI q.1.length ∧ q.2.length = q.1.length ∧ (∀ i S, q.1[i]? = some S → zI h (x + 1) i = nI S ∧ zI h (x + 2) S = nI i) ∧ (∀ i a, q.2[i]? = some a → zI h (x + 4) i = nI a) ∧ ∀ S, S < 256 → S ∉ q.1 → zI h (x + 2) S = nI 255
section SUB
variable {h : ZH} {x : Nat}
theorem isSub.gr0 (g : isSub h x) : gR h 6 x 0 = some (x + 1) := (gR_ok g.1.1 g.1.2.1).trans g.1.2.2.1
theorem isSub.gr1 (g : isSub h x) : gR h 6 x 1 = some (x + 2) := (gR_ok g.1.1 g.1.2.1).trans g.1.2.2.2.1
theorem isSub.gr2 (g : isSub h x) : gR h 6 x 2 = some (x + 3) := (gR_ok g.1.1 g.1.2.1).trans g.1.2.2.2.2.1
theorem isSub.gr3 (g : isSub h x) : gR h 6 x 3 = some (x + 4) := (gR_ok g.1.1 g.1.2.1).trans g.1.2.2.2.2.2.1
theorem isSub.gr4 (g : isSub h x) : gR h 6 x 4 = some (x + 5) := (gR_ok g.1.1 g.1.2.1).trans g.1.2.2.2.2.2.2
theorem isSub.gi (g : isSub h x) {k : Nat} : gI h 6 x k = some (zI h x k) := gI_ok g.1.1 g.1.2.1
theorem note_ok {q : List Nat × List Nat} {S a : Nat} (g : isSub h x) (hq : subQ x q h) (gd : good q.1) (hS : S < 256) : ∃ h' j, fX6_note x (nI S) (nI a) h = some (nI j, h') ∧ zfr [x, x + 1, x + 2, x + 4] h h' ∧ subQ x (noteL q S a) h' ∧ stt (noteL q S a).1 j S := by
  obtain ⟨q1, q2, q3, q4, q5⟩ := id hq
  have hlen := gd.len
  by_cases h0 : S = 0
  · subst h0
    refine ⟨h, 255, ?_, zfr.refl h, ?_, Or.inl ⟨rfl, rfl⟩⟩
    · unfold fX6_note bX6_note_11
      rw [if_pos ⟨g.1.1, g.1.2.1⟩, if_pos (by decide)]
    · unfold noteL; rw [if_pos (Or.inl rfl)]; exact hq
  · have hle : ¬ nI S ≤ 0 := nI_nle (by omega) (by omega)
    have hlt : nI S < nI 256 := nI_lt hS (by decide)
    by_cases hin : S ∈ q.1
    · obtain ⟨i, hi⟩ := List.getElem?_of_mem hin
      have hil := (List.getElem?_eq_some_iff.mp hi).1
      have e2 := (q3 i S hi).2
      refine ⟨h, i, ?_, zfr.refl h, ?_, ?_⟩
      · unfold fX6_note bX6_note_84
        rw [if_pos ⟨g.1.1, g.1.2.1⟩, if_neg hle, if_pos hlt, g.gr1, bsm, g.2.2.1.lI hS (by decide), bsm, e2, if_neg (fun e => by have := (nI_eq (by omega) (by decide)).mp e; omega), bsm, g.2.2.1.lI hS (by decide), bsm, e2]
      · unfold noteL; rw [if_pos (Or.inr hin)]; exact hq
      · unfold noteL; rw [if_pos (Or.inr hin)]; exact Or.inr hi
    · have hn : ¬ (S = 0 ∨ S ∈ q.1) := fun e => e.elim h0 hin
      have gd' := noteL_good (a := a) gd hS
      have hlen' := gd'.len
      unfold noteL at gd' hlen' ⊢
      rw [if_neg hn] at gd' hlen' ⊢
      rw [List.length_append, List.length_singleton] at hlen'
      have e5 := q5 S hS hin
      have d1 : x + 2 ≠ x := by omega
      have d2 : x + 2 ≠ x + 1 := by omega
      have d3 : x + 2 ≠ x + 4 := by omega
      refine ⟨zsI h (zu (zu (zu (zu (zI h) (x + 2) S (nI q.1.length)) (x + 1) q.1.length (nI S)) (x + 4) q.1.length (nI a)) x 5 (nI (q.1.length + 1))), q.1.length, ?_, zfr_zsI (fun b hb => ?_), ⟨?_, ?_, fun i T hT => ?_, fun i p hp => ?_, fun T hT hTn => ?_⟩, Or.inr ?_⟩
      · have w1 := g.2.2.1.sI (v := nI q.1.length) hS (by decide)
        rw [show zvn 14 (nI q.1.length) = nI q.1.length from rfl] at w1
        unfold fX6_note bX6_note_84
        rw [if_pos ⟨g.1.1, g.1.2.1⟩, if_neg hle, if_pos hlt, g.gr1, bsm, g.2.2.1.lI hS (by decide), bsm, e5, if_pos rfl, g.gi, bsm, q1, if_neg (nI_pos (by omega)), bsm, if_neg (nI_ge (by omega) (by decide)), bsm, bsm, w1, bsm]
        have w2 : ∀ f v, sI (zsI h f) 14 (x + 1) (nI q.1.length) v = some (zsI h (zu f (x + 1) q.1.length v)) := fun f v => by
          rw [sI_zsI (by omega), g.2.1.sI (by omega) (by decide), bsm]; rfl
        have w3 : ∀ f v, sI (zsI h f) 14 (x + 4) (nI q.1.length) v = some (zsI h (zu f (x + 4) q.1.length v)) := fun f v => by
          rw [sI_zsI (by omega), g.2.2.2.2.1.sI (by omega) (by decide), bsm]; rfl
        have w4 : ∀ f, gI (zsI h f) 6 x 5 = some (f x 5) := fun f => by rw [gI_zsI, g.gi, bsm]
        have w5 : ∀ f v, pI (zsI h f) 6 x 5 v = some (zsI h (zu f x 5 v)) := fun f v => by rw [pI_zsI, pI_ok g.1.1 g.1.2.1, bsm]
        have r0 : ∀ f, gR (zsI h f) 6 x 0 = some (x + 1) := fun f => g.gr0
        have r1 : ∀ f, gR (zsI h f) 6 x 1 = some (x + 2) := fun f => g.gr1
        have r3 : ∀ f, gR (zsI h f) 6 x 3 = some (x + 4) := fun f => g.gr3
        have w6 : ∀ f, lI (zsI h f) 14 (x + 2) (nI S) = some (f (x + 2) S) := fun f => by rw [lI_zsI (by omega), g.2.2.1.lI hS (by decide), bsm]
        rw [r0, bsm, w4, bsm, zu_ne (by omega), q1, w2, bsm, r3, bsm, w4, bsm, zu_ne (by omega), zu_ne (by omega), q1, w3, bsm, w4, bsm, zu_ne (by omega), zu_ne (by omega), zu_ne (by omega), q1, nI_add, w5, bsm, r1, bsm, w6, bsm, zu_ne d1, zu_ne d3, zu_ne d2, zu_at, if_pos rfl]
      · simp only [List.mem_cons, List.not_mem_nil, or_false, not_or] at hb
        rw [zu_ne hb.1, zu_ne hb.2.2.2, zu_ne hb.2.1, zu_ne hb.2.2.1]
      · dsimp only [zI_zsI]; rw [zu_at, if_pos rfl, List.length_append, List.length_singleton]
      · rw [List.length_append, List.length_append, List.length_singleton, List.length_singleton, q2]
      · dsimp only [zI_zsI] at hT ⊢
        rw [zu_ne (by omega), zu_ne (by omega), zu_at, zu_ne d1, zu_ne d3, zu_ne d2, zu_at]
        by_cases e : i = q.1.length
        · rw [List.getElem?_append_right (by omega), e, Nat.sub_self] at hT
          have hT' : S = T := Option.some.inj hT
          rw [if_pos e, if_pos hT'.symm, hT', e]
          exact ⟨rfl, rfl⟩
        · have hi : i < q.1.length := by
            have := (List.getElem?_eq_some_iff.mp hT).1
            rw [List.length_append, List.length_singleton] at this
            omega
          rw [List.getElem?_append_left hi] at hT
          have hne : T ≠ S := fun e => hin (by rw [← e]; exact List.mem_of_getElem? hT)
          rw [if_neg e, if_neg hne, zu_ne (by omega)]
          exact q3 i T hT
      · dsimp only [zI_zsI] at hp ⊢
        rw [zu_ne (by omega), zu_at]
        by_cases e : i = q.1.length
        · rw [List.getElem?_append_right (by omega), e, q2, Nat.sub_self] at hp
          have hp' : a = p := Option.some.inj hp
          rw [if_pos e, hp']
        · have hi : i < q.2.length := by
            have := (List.getElem?_eq_some_iff.mp hp).1
            rw [List.length_append, List.length_singleton] at this
            omega
          rw [List.getElem?_append_left hi] at hp
          rw [if_neg e, zu_ne (by omega), zu_ne (by omega)]
          exact q4 i p hp
      · dsimp only [zI_zsI]
        have h1 : T ∉ q.1 := fun e => hTn (List.mem_append_left _ e)
        have h2 : T ≠ S := fun e => hTn (List.mem_append_right _ (List.mem_singleton.mpr e))
        rw [zu_ne d1, zu_ne d3, zu_ne d2, zu_at, if_neg h2]
        exact q5 T hT h1
      · rw [List.getElem?_append_right (Nat.le_refl _), Nat.sub_self]; rfl
end SUB
