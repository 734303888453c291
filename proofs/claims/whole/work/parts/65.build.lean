/-! SUBSETS: the whole automaton; its words' numbers -/
theorem bq_ex (d : Nat → Nat → Nat) (A : Nat) : ∃ q, q = bq d A 1020 := ⟨_, rfl⟩
/-- all states; behind a choice, so that nothing computes it -/
noncomputable def BQ (d : Nat → Nat → Nat) (A : Nat) : List Nat × List Nat := Classical.choose (bq_ex d A)
theorem BQ_eq (d : Nat → Nat → Nat) (A : Nat) : BQ d A = bq d A 1020 := Classical.choose_spec (bq_ex d A)
/-- the automaton stands, by its states in their order -/
def subOK (x : Nat) (d : Nat → Nat → Nat) (A : Nat) (h : ZH) : Prop := subQ x (BQ d A) h ∧ ∀ i S, (BQ d A).1[i]? = some S → ∀ l, l < 4 → ∃ j, zI h (x + 3) (4 * i + l) = nI j ∧ stt (BQ d A).1 j (d S l)
theorem subQ.fr {x : Nat} {q : List Nat × List Nat} {h h' : ZH} {A : List Nat} (p : zfr A h h') (h0 : x ∉ A) (h1 : x + 1 ∉ A) (h2 : x + 2 ∉ A) (h4 : x + 4 ∉ A) (g : subQ x q h) : subQ x q h' := by
  unfold subQ at g ⊢
  rw [p.I h0, p.I h1, p.I h2, p.I h4]
  exact g
theorem subOK.fr {x : Nat} {d : Nat → Nat → Nat} {S : Nat} {h h' : ZH} {A : List Nat} (p : zfr A h h') (h0 : x ∉ A) (h1 : x + 1 ∉ A) (h2 : x + 2 ∉ A) (h3 : x + 3 ∉ A) (h4 : x + 4 ∉ A) (g : subOK x d S h) : subOK x d S h' := by
  refine ⟨g.1.fr p h0 h1 h2 h4, ?_⟩
  rw [p.I h3]
  exact g.2
theorem getD_get {L : List Nat} {i : Nat} (hi : i < L.length) : L[i]? = some (L.getD i 0) := by
  rw [List.getD_eq_getElem?_getD, List.getElem?_eq_getElem hi]; rfl
theorem bq_len0 {d : Nat → Nat → Nat} {A : Nat} (hA : A = 0) (t : Nat) : (bq d A t).1 = [] := by
  induction t with
  | zero => rw [bq]; unfold noteL; rw [if_pos (Or.inl hA)]
  | succ t ih => rw [bq, if_neg (by rw [ih]; simp)]; exact ih
theorem bq_head {d : Nat → Nat → Nat} {A : Nat} (hA : A ≠ 0) (t : Nat) : (bq d A t).1[0]? = some A := by
  obtain ⟨T, hT⟩ := bq_pre (d := d) (A := A) 0 t
  rw [Nat.zero_add] at hT
  have h0 : (bq d A 0).1 = [A] := by
    rw [bq]; unfold noteL; rw [if_neg (fun e => e.elim hA (fun q => by cases q))]; rfl
  rw [hT, h0]; rfl
theorem build_ok {h : ZH} {x a m : Nat} {M : Nat → Nat} (g : isSub h x) (gg : isG h a m) (hM : hasM h m M) (hm : m ∉ [x, x + 1, x + 2, x + 3, x + 4]) : ∃ h', fX6_build x a h = some h' ∧ zfr [x, x + 1, x + 2, x + 3, x + 4] h h' ∧ subOK x (fo M) (ess M) h' := by
  have hd : ∀ S l, l < 4 → fo M S l < 256 := fun S l hl => fo_lt hM S hl
  have hA := ess_lt M
  have key : wp (fX6_build x a h) (fun h' => zfr [x, x + 1, x + 2, x + 3, x + 4] h h' ∧ subOK x (fo M) (ess M) h') := by
    have e1 := fillI_ok (v := nI 255) g.2.2.1 (by decide)
    have p1 : zfr [x, x + 1, x + 2, x + 3, x + 4] h (zsI h (zu (zfil (zI h) (x + 2) 256 (fun _ => nI 255)) x 5 (nI 0))) := zfr_zsI (fun b hb => by
      simp only [List.mem_cons, List.not_mem_nil, or_false, not_or] at hb
      rw [zu_ne hb.1, zfil_ne hb.2.2.1])
    have w5 : pI (zsI h (zfil (zI h) (x + 2) 256 (fun _ => nI 255))) 6 x 5 (nI 0) = some (zsI h (zu (zfil (zI h) (x + 2) 256 (fun _ => nI 255)) x 5 (nI 0))) := by rw [pI_zsI, pI_ok g.1.1 g.1.2.1, bsm]
    have hq0 : subQ x ([], []) (zsI h (zu (zfil (zI h) (x + 2) 256 (fun _ => nI 255)) x 5 (nI 0))) := by
      refine ⟨?_, rfl, fun i S hS => by simp at hS, fun i p hp => by simp at hp, fun S hS _ => ?_⟩
      · dsimp only [zI_zsI]; rw [zu_at, if_pos rfl]; rfl
      · dsimp only [zI_zsI]; rw [zu_ne (by omega), zfil_in hS]
    unfold fX6_build
    rw [if_pos ⟨g.1.1, g.1.2.1⟩, g.gr1, bsm, e1, bsm, w5, bsm]
    generalize zsI h (zu (zfil (zI h) (x + 2) 256 (fun _ => nI 255)) x 5 (nI 0)) = h0 at p1 hq0
    rw [core_ok (p1.isG gg) (p1.hasM hm hM), bsm]
    obtain ⟨h1, j0, e2, p2, hq1, -⟩ := note_ok (a := 0) (p1.isSub g) hq0 ⟨List.nodup_nil, fun S h => by cases h⟩ hA
    rw [e2, bsm]
    have p12 := p1.same (p2.mono (B := [x, x + 1, x + 2, x + 3, x + 4]) (fun b hb => by simp only [List.mem_cons, List.not_mem_nil, or_false] at hb ⊢; omega))
    have hnx : ∀ t, t < (4 * 0 : Nat) → ∃ j, zI h1 (x + 3) t = nI j ∧ stt (bq (fo M) (ess M) (4 * 0)).1 j (fo M ((bq (fo M) (ess M) (4 * 0)).1.getD (t / 4) 0) (t % 4)) := fun t ht => by omega
    refine wloop (fun i y => y.1 = nI i ∧ zfr [x, x + 1, x + 2, x + 3, x + 4] h y.2 ∧ subQ x (bq (fo M) (ess M) (4 * i)) y.2 ∧ i ≤ (bq (fo M) (ess M) (4 * i)).1.length ∧ ∀ t, t < 4 * i → ∃ j, zI y.2 (x + 3) t = nI j ∧ stt (bq (fo M) (ess M) (4 * i)).1 j (fo M ((bq (fo M) (ess M) (4 * i)).1.getD (t / 4) 0) (t % 4))) 255 (fun i y self hi hy ih => ?_) (show 255 < 100000 by omega) ⟨rfl, p12, by rw [Nat.mul_zero, bq]; exact hq1, Nat.zero_le _, hnx⟩
    obtain ⟨y, h2⟩ := y
    obtain ⟨rfl, p3, q3, li, nx⟩ := hy
    dsimp only at p3 q3 nx
    have gs := p3.isSub g
    have gd := bq_good hA hd (4 * i)
    have hlen := gd.len
    show wp (kX6_build_27 x a self (nI i) h2) _
    unfold kX6_build_27 bX6_build_92
    rw [gs.gi, bsm, q3.1]
    by_cases hlt : i < (bq (fo M) (ess M) (4 * i)).1.length
    · rw [if_neg (nI_ge hlt (by omega)), if_neg (nI_ge (by omega) (by decide))]
      refine wloop (fun l y => y.1 = nI l ∧ zfr [x, x + 1, x + 2, x + 3, x + 4] h y.2 ∧ subQ x (bq (fo M) (ess M) (4 * i + l)) y.2 ∧ ∀ t, t < 4 * i + l → ∃ j, zI y.2 (x + 3) t = nI j ∧ stt (bq (fo M) (ess M) (4 * i + l)).1 j (fo M ((bq (fo M) (ess M) (4 * i + l)).1.getD (t / 4) 0) (t % 4))) 4 (fun l y self2 hl hy ih2 => ?_) (by decide) ⟨rfl, p3, q3, nx⟩
      obtain ⟨y, h3⟩ := y
      obtain ⟨rfl, p4, q4, nx4⟩ := hy
      dsimp only at p4 q4 nx4
      have gs4 := p4.isSub g
      have gd4 := bq_good hA hd (4 * i + l)
      obtain ⟨T4, hT4⟩ := bq_pre (d := fo M) (A := ess M) (4 * i) l
      have hlt4 : i < (bq (fo M) (ess M) (4 * i + l)).1.length := by rw [hT4, List.length_append]; omega
      show wp (kX6_build_44 self x a (nI i) self2 (nI l) h3) _
      unfold kX6_build_44
      by_cases hl4 : l < 4
      · have eS := getD_get hlt4
        generalize hS : (bq (fo M) (ess M) (4 * i + l)).1.getD i 0 = S at eS
        have hSin : S ∈ (bq (fo M) (ess M) (4 * i + l)).1 := List.mem_of_getElem? eS
        have hSb := gd4.2 S hSin
        have eset := (q4.2.2.1 i S eS).1
        have M4 := p4.hasM hm hM
        have ebq : bq (fo M) (ess M) (4 * i + l + 1) = noteL (bq (fo M) (ess M) (4 * i + l)) (fo M S l) (4 * i + l) := by
          rw [bq, show (4 * i + l) / 4 = i by omega, show (4 * i + l) % 4 = l by omega, if_pos hlt4, hS]
        obtain ⟨h4, j, e5, p5, q5, st5⟩ := note_ok (a := 4 * i + l) gs4 q4 gd4 (hd S l hl4)
        have gs5 := p5.isSub gs4
        rw [← ebq] at q5 st5
        have hlen4 := gd4.len
        have w6 : sI h4 14 (x + 3) (nI (4 * i + l)) (nI j) = some (zsI h4 (zu (zI h4) (x + 3) (4 * i + l) (nI j))) := by
          rw [gs5.2.2.2.1.sI (by omega) (by decide)]; rfl
        rw [if_neg (nI_ge hl4 (by decide)), zl_eq, ix4, gs4.gr2, bsm, gs4.gr0, bsm, gs4.2.1.lI (by omega) (by decide), bsm, eset, follow_ok (p4.isG gg) M4 (by omega) hl4, bsm, e5, bsm, w6, bsm, nI_add]
        have p6 : zfr [x, x + 1, x + 2, x + 3, x + 4] h4 (zsI h4 (zu (zI h4) (x + 3) (4 * i + l) (nI j))) := zfr_uI.mono (fun b hb => by rw [List.mem_singleton.mp hb]; simp)
        have p5' := p5.mono (B := [x, x + 1, x + 2, x + 3, x + 4]) (fun b hb => by simp only [List.mem_cons, List.not_mem_nil, or_false] at hb ⊢; omega)
        have n3 : x + 3 ∉ [x, x + 1, x + 2, x + 4] := by simp only [List.mem_cons, List.not_mem_nil, or_false]; omega
        refine ih2 _ hl4 ⟨rfl, (p4.same p5').same p6, ?_, fun t ht => ?_⟩
        · dsimp only
          rw [← Nat.add_assoc]
          exact q5.fr (zfr_uI (a := x + 3)) (mem1.mpr (by omega)) (mem1.mpr (by omega)) (mem1.mpr (by omega)) (mem1.mpr (by omega))
        · dsimp only [zI_zsI] at ht ⊢
          rw [← Nat.add_assoc] at ht ⊢
          obtain ⟨U, hU⟩ := bq_pre (d := fo M) (A := ess M) (4 * i + l) 1
          have gde : ∀ t', t' < 4 * i + l + 1 → (bq (fo M) (ess M) (4 * i + l + 1)).1.getD (t' / 4) 0 = (bq (fo M) (ess M) (4 * i + l)).1.getD (t' / 4) 0 := by
            intro t' ht'
            rw [hU, List.getD_eq_getElem?_getD, List.getD_eq_getElem?_getD, List.getElem?_append_left (by omega)]
          rw [zu_at, gde t ht]
          by_cases e : t = 4 * i + l
          · rw [if_pos e]
            refine ⟨j, rfl, ?_⟩
            rw [e, show (4 * i + l) / 4 = i by omega, show (4 * i + l) % 4 = l by omega, hS]
            exact st5
          · rw [if_neg e, p5.I n3]
            obtain ⟨j', e1, s1⟩ := nx4 t (by omega)
            exact ⟨j', e1, by rw [hU]; exact s1.mono⟩
      · have : l = 4 := by omega
        subst this
        rw [if_pos (nI_le (Nat.le_refl 4) (by decide)), nI_add]
        have e4 : 4 * (i + 1) = 4 * i + 4 := by omega
        refine ih _ (by omega) ⟨rfl, p4, ?_, ?_, ?_⟩
        · dsimp only; rw [e4]; exact q4
        · rw [e4]; omega
        · dsimp only; rw [e4]; exact nx4
    · have hile : (bq (fo M) (ess M) (4 * i)).1.length ≤ i := by omega
      rw [if_pos (nI_le hile (by omega))]
      have efin : BQ (fo M) (ess M) = bq (fo M) (ess M) (4 * i) := by
        rw [BQ_eq]
        have := bq_stay hile (1020 - 4 * i)
        rw [show 4 * i + (1020 - 4 * i) = 1020 by omega] at this
        exact this
      refine wp_some ⟨p3, ?_, fun i' S hS l hl => ?_⟩
      · rw [efin]; exact q3
      · rw [efin] at hS ⊢
        have hi' := (List.getElem?_eq_some_iff.mp hS).1
        obtain ⟨j, e1, s1⟩ := nx (4 * i' + l) (by omega)
        refine ⟨j, e1, ?_⟩
        rw [show (4 * i' + l) / 4 = i' by omega, show (4 * i' + l) % 4 = l by omega, List.getD_eq_getElem?_getD, hS] at s1
        exact s1
  exact key
section AU
variable {h : ZH} {x : Nat} {d : Nat → Nat → Nat} {A : Nat}
theorem start_ok (g : isSub h x) (ok : subOK x d A h) (gd : good (BQ d A).1) : ∃ j, fX6_start x h = some (nI j, h) ∧ stt (BQ d A).1 j A := by
  have hl := gd.len
  unfold fX6_start bX6_start_14
  rw [if_pos ⟨g.1.1, g.1.2.1⟩, g.gi, bsm, ok.1.1]
  by_cases e : A = 0
  · rw [BQ_eq, bq_len0 e, if_pos (by decide)]
    exact ⟨255, rfl, Or.inl ⟨e, rfl⟩⟩
  · have hh := bq_head (d := d) e 1020
    rw [← BQ_eq] at hh
    have := (List.getElem?_eq_some_iff.mp hh).1
    rw [if_neg (nI_nle (by omega) (by omega))]
    exact ⟨0, rfl, Or.inr hh⟩
theorem size_ok (g : isSub h x) (ok : subOK x d A h) : fX6_size x h = some (nI (BQ d A).1.length, h) := by
  unfold fX6_size
  rw [if_pos ⟨g.1.1, g.1.2.1⟩, g.gi, bsm, ok.1.1]
theorem after_ok (g : isSub h x) (ok : subOK x d A h) (gd : good (BQ d A).1) (d0 : ∀ l, d 0 l = 0) {j S l : Nat} (hj : stt (BQ d A).1 j S) (hl : l < 4) : ∃ k, fX6_after x (nI j) (nI l) h = some (nI k, h) ∧ stt (BQ d A).1 k (d S l) := by
  have hlen := gd.len
  unfold fX6_after bX6_after_32 bX6_after_33 bX6_after_54
  rcases hj with ⟨e, rfl⟩ | hj
  · subst e
    rw [if_pos ⟨g.1.1, g.1.2.1⟩, if_neg (nI_pos (by decide)), g.gi, bsm, ok.1.1, if_pos (nI_le (by omega) (by decide)), if_pos eq00]
    exact ⟨255, rfl, Or.inl ⟨d0 l, rfl⟩⟩
  · have hjl := (List.getElem?_eq_some_iff.mp hj).1
    obtain ⟨k, e1, s1⟩ := ok.2 j S hj l hl
    refine ⟨k, ?_, s1⟩
    rw [if_pos ⟨g.1.1, g.1.2.1⟩, if_neg (nI_pos (by omega)), g.gi, bsm, ok.1.1, if_neg (nI_ge hjl (by omega)), if_neg (nI_ge (show j < 255 by omega) (by decide)), if_neg (nI_pos (by omega)), if_neg (nI_ge hl (by decide)), if_neg ne10, g.gr2, bsm, ix4, g.2.2.2.1.lI (by omega) (by decide), bsm, e1]
end AU
