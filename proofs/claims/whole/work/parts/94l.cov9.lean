/-! COVERS: the reference's last classes -/
def rcD (d : Nat → Nat → Nat) (A : Nat) (Q : List Nat) : Prop := Q.Nodup ∧ 0 ∉ Q ∧ A ∈ Q ∧ (∀ S, S ∈ Q → ∀ l, l < 4 → d S l = 0 ∨ d S l ∈ Q) ∧ ∀ S, S ∈ Q → ∃ w, lts w ∧ rn d A w = S
theorem rcD_of {d : Nat → Nat → Nat} {A t : Nat} {q : List Nat × List Nat} (g : BI d A t q) (ht : q.1.length ≤ t / 4) : rcD d A q.1 := by
  obtain ⟨g1, g2, g3, g4, g5, g6, g7, g8, g9⟩ := id g
  refine ⟨g2, g3, by rw [← g5]; exact getD_mem g4, fun S hS l hl => ?_, fun S hS => ?_⟩
  · obtain ⟨i, hi, rfl⟩ := mem_getD hS
    have h8 := g8 (4 * i + l) (by omega)
    rw [show (4 * i + l) / 4 = i by omega, show (4 * i + l) % 4 = l by omega] at h8
    rcases h8 with h | ⟨j, hj, ej, -⟩
    · exact Or.inl h
    · right
      rw [← ej]
      exact getD_mem hj
  · obtain ⟨i, hi, rfl⟩ := mem_getD hS
    obtain ⟨w, w1, w2⟩ := wordOf g i hi
    obtain ⟨v, v1, v2⟩ := bp_rn (d := d) (A := A) _ w1
    exact ⟨v, v1, v2.trans w2⟩
section RD
variable {d : Nat → Nat → Nat} {A : Nat} {Q : List Nat}
theorem rcD_rn (d0 : ∀ l, d 0 l = 0) (g : rcD d A Q) {S : Nat} (hS : S ∈ Q) : ∀ w, lts w → rn d S w = 0 ∨ rn d S w ∈ Q := by
  intro w
  induction w generalizing S with
  | nil => intro _; exact Or.inr hS
  | cons a w ih =>
    intro hw
    rw [lts_cons] at hw
    rw [rn_cons]
    rcases g.2.2.2.1 S hS a hw.1 with h | h
    · left
      rw [h, rn_0 d0]
    · exact ih h hw.2
theorem rcD_sub (d0 : ∀ l, d 0 l = 0) {A1 : Nat} {Q1 : List Nat} (g : rcD d A Q) (g1 : rcD d A1 Q1) (h : A1 ∈ Q) : ∀ S, S ∈ Q1 → S ∈ Q := by
  intro S hS
  obtain ⟨w, h1, h2⟩ := g1.2.2.2.2 S hS
  rcases rcD_rn d0 g h w h1 with z | z
  · rw [h2] at z
    exact absurd (by rw [← z]; exact hS) g1.2.1
  · rw [h2] at z
    exact z
theorem rcD_len (d0 : ∀ l, d 0 l = 0) {Q1 : List Nat} (g : rcD d A Q) (g1 : rcD d A Q1) : Q.length = Q1.length := by
  apply Classical.byContradiction
  intro hn
  have one : ∀ {X Y : List Nat}, rcD d A X → rcD d A Y → ¬ X.length < Y.length := by
    intro X Y x y hlt
    have hex : ∃ S, S ∈ Y ∧ S ∉ X := by
      apply Classical.byContradiction
      intro q
      have hsub : ∀ S, S ∈ Y → S ∈ X := fun S hS => by
        apply Classical.byContradiction
        intro z
        exact q ⟨S, hS, z⟩
      have hle : Y.length ≤ X.length := by
        obtain ⟨N, hN⟩ : ∃ N, ∀ x ∈ X, x < N := by
          clear x y hlt q hsub g g1 hn
          induction X with
          | nil => exact ⟨0, fun x hx => by cases hx⟩
          | cons b B ih =>
            obtain ⟨N, hN⟩ := ih
            refine ⟨max N (b + 1), fun x hx => ?_⟩
            rcases List.mem_cons.mp hx with e | e
            · omega
            · have := hN x e
              omega
        have h1 := cnt_list (n := N) x.1 hN
        have h2 := cnt_list (n := N) y.1 (fun z hz => hN z (hsub z hz))
        have h3 : ∀ n, cnt (fun k => decide (k ∈ Y)) n ≤ cnt (fun k => decide (k ∈ X)) n := by
          intro n
          induction n with
          | zero => exact Nat.le_refl _
          | succ n ih =>
            cases hy : decide (n ∈ Y) with
            | false =>
              rw [cnt_zero hy]
              exact Nat.le_trans ih (cnt_mono _ (Nat.le_succ n))
            | true =>
              rw [cnt_one hy, cnt_one (decide_eq_true (hsub n (of_decide_eq_true hy)))]
              omega
        have := h3 N
        omega
      omega
    obtain ⟨S, hS, hn⟩ := hex
    exact hn (rcD_sub d0 x y x.2.2.1 S hS)
  rcases Nat.lt_trichotomy Q.length Q1.length with q | q | q
  · exact one g g1 q
  · exact hn q
  · exact one g1 g q
end RD
/-- classes and letters -/
noncomputable def dN (M : Nat → Nat) (cr : Nat → Nat) (P l : Nat) : Nat := if P = 0 then 0 else if ims M ((LL M).getD (P - 1) 0) l = 0 then 0 else cr (ims M ((LL M).getD (P - 1) 0) l) + 1
section DN
variable {M : Nat → Nat} {h : ZH} {cr : Nat → Nat}
theorem dN_0 (l : Nat) : dN M cr 0 l = 0 := if_pos rfl
theorem dN_s {c l : Nat} : dN M cr (c + 1) l = if ims M ((LL M).getD c 0) l = 0 then 0 else cr (ims M ((LL M).getD c 0) l) + 1 := by
  unfold dN
  rw [if_neg (by omega), Nat.add_sub_cancel]
theorem dN_cr (hE : ess M ≠ 0) (g : numV M cr) {S l : Nat} (hS : S ∈ LL M) (hl : l < 4) : dN M cr (cr S + 1) l = if ims M S l = 0 then 0 else cr (ims M S l) + 1 := by
  have tc := (LLrc hE).2.2.2.1
  obtain ⟨c1, c2, -⟩ := g S hS
  have e := eqv_step c2 hl
  have hR : (LL M).getD (cr S) 0 ∈ LL M := getD_mem c1
  rw [dN_s]
  by_cases hz : ims M S l = 0
  · rw [if_pos ((eqv_z e).mp hz), if_pos hz]
  · have hz' : ims M ((LL M).getD (cr S) 0) l ≠ 0 := fun q => hz ((eqv_z e).mpr q)
    rw [if_neg hz, if_neg hz']
    have m1 : ims M S l ∈ LL M := by
      rcases tc S hS l hl with q | q
      · exact absurd q hz
      · exact q
    have m2 : ims M ((LL M).getD (cr S) 0) l ∈ LL M := by
      rcases tc _ hR l hl with q | q
      · exact absurd q hz'
      · exact q
    rw [(numV_iff g m1 m2).mpr e]
theorem rn_dN (hE : ess M ≠ 0) (g : numV M cr) : ∀ w, lts w → ∀ S, S ∈ LL M → rn (dN M cr) (cr S + 1) w = if rn (ims M) S w = 0 then 0 else cr (rn (ims M) S w) + 1 := by
  have tc := (LLrc hE).2.2.2.1
  intro w
  induction w with
  | nil =>
    intro _ S hS
    rw [rn_nil, rn_nil, if_neg (LL256 hS).1]
  | cons a w ih =>
    intro hw S hS
    rw [lts_cons] at hw
    rw [rn_cons, rn_cons, dN_cr hE g hS hw.1]
    rcases tc S hS a hw.1 with z | z
    · rw [z, if_pos rfl, rn_0 dN_0, rn_0 (fun l => ims_0 l), if_pos rfl]
    · rw [if_neg (LL256 z).1]
      exact ih hw.2 _ z
theorem dN_lt (g : numV M cr) (hE : ess M ≠ 0) {P l : Nat} (hl : l < 4) : dN M cr P l < 257 := by
  have hlen : (LL M).length ≤ 255 := (LL_good M).len
  unfold dN
  by_cases h0 : P = 0
  · rw [if_pos h0]; decide
  · rw [if_neg h0]
    by_cases hz : ims M ((LL M).getD (P - 1) 0) l = 0
    · rw [if_pos hz]; decide
    · rw [if_neg hz]
      by_cases hp : P - 1 < (LL M).length
      · rcases (LLrc hE).2.2.2.1 _ (getD_mem hp) l hl with q | q
        · exact absurd q hz
        · have := (g _ q).1
          omega
      · have e : (LL M).getD (P - 1) 0 = 0 := by
          rw [List.getD_eq_getElem?_getD, List.getElem?_eq_none (by omega)]
          rfl
        rw [e, ims_0] at hz
        exact absurd rfl hz
theorem dN_in (g : numV M cr) (hE : ess M ≠ 0) {P l : Nat} (hl : l < 4) : dN M cr P l = 0 ∨ ∃ S, S ∈ LL M ∧ dN M cr P l = cr S + 1 := by
  unfold dN
  by_cases h0 : P = 0
  · left; rw [if_pos h0]
  · rw [if_neg h0]
    by_cases hz : ims M ((LL M).getD (P - 1) 0) l = 0
    · left; rw [if_pos hz]
    · right
      rw [if_neg hz]
      by_cases hp : P - 1 < (LL M).length
      · rcases (LLrc hE).2.2.2.1 _ (getD_mem hp) l hl with q | q
        · exact absurd q hz
        · exact ⟨_, q, rfl⟩
      · have e : (LL M).getD (P - 1) 0 = 0 := by
          rw [List.getD_eq_getElem?_getD, List.getElem?_eq_none (by omega)]
          rfl
        rw [e, ims_0] at hz
        exact absurd rfl hz
/-- all that is seen from a class -/
theorem seeFrom_ok (hs : Sh h) (pr : prep M h) (hE : ess M ≠ 0) (sr : stR M h) (g : numV M cr) (cH : crH M cr h) {c : Nat} (hc : c < (LL M).length) : ∃ h' Q, fX11_seeFrom 117 (nI c) h = some h' ∧ zfr [117, 136, 137] h h' ∧ (∀ k, k ≠ 28 → zI h' 117 k = zI h 117 k) ∧ seI 1 Q h' ∧ rcD (dN M cr) (c + 1) Q ∧ Q.length ≤ 255 := by
  have hlen : (LL M).length ≤ 255 := (LL_good M).len
  have mem : ∀ i, i < (LL M).length → (LL M).getD i 0 ∈ LL M := fun i hi => getD_mem hi
  have nmLt : ∀ P l, l < 4 → dN M cr P l < (LL M).length + 1 := fun P l hl => by
    rcases dN_in g hE (P := P) hl with z | ⟨S, hS, z⟩
    · rw [z]; omega
    · rw [z]; have := (g S hS).1; omega
  obtain ⟨N, hN⟩ : ∃ N, N = (LL M).length + 1 := ⟨_, rfl⟩
  have bd := bq_bd (d := dN M cr) (A := c + 1) (N := N) (by omega) (fun P l hl => by rw [hN]; exact nmLt P l hl)
  obtain ⟨τ, t1, t2, t3, t4, t5⟩ := exStop1 (d := dN M cr) (A := c + 1) N (by omega) (by omega) bd
  have lens : ∀ t, t ≤ τ → (bq (dN M cr) (c + 1) t).1.length ≤ 255 := by
    intro t ht
    have b := BI_all (d := dN M cr) (A := c + 1) (by omega) t (fun s hs => t2 s (by omega))
    have := len_lt (N := N) b.2.1 b.2.2.1 (bd t) (by omega)
    omega
  have hτ4 : τ % 4 = 0 := by
    apply Classical.byContradiction
    intro hn
    have a := t2 (τ - 1) (by omega)
    have b := bq_grow (d := dN M cr) (A := c + 1) (τ - 1)
    rw [show τ - 1 + 1 = τ by omega] at b
    omega
  have key : wp (fX11_seeFrom 117 (nI c) h) (fun h' => zfr [117, 136, 137] h h' ∧ (∀ k, k ≠ 28 → zI h' 117 k = zI h 117 k) ∧ seI 1 (bq (dN M cr) (c + 1) τ).1 h') := by
    obtain ⟨h1, e1, p1, k1, s1⟩ := clearSeen_ok hs 1
    have hs1 := p1.shp hs
    obtain ⟨h2, e2, p2, k2, s2⟩ := seI_0 (d := dN M cr) (A := c + 1) (x := c) hs1 s1 (by omega) rfl (by omega)
    unfold fX11_seeFrom
    simp (disch := omega) only [e1, e2, SR (hs), zl_eq, bsm, ZS, ZT, ZN, ZU, eq_self, true_and, and_true, and_self, or_true, true_or, or_false, false_or, not_true, not_false_eq_true, Nat.reduceAdd, Nat.reduceMul, Nat.reduceLT, Nat.reduceLeDiff, Nat.reduceEqDiff, ↓reduceIte, ZQ, Bool.true_eq_false, Bool.false_eq_true, Bool.not_true, Bool.not_false]
    have p12 : zfr [117, 136, 137] h h2 := (p1.mono (by decide)).same p2
    refine wloop (fun p y => y.1 = nI p ∧ zfr [117, 136, 137] h y.2 ∧ (∀ k, k ≠ 28 → zI y.2 117 k = zI h 117 k) ∧ seI 1 (bq (dN M cr) (c + 1) (4 * p)).1 y.2) (τ / 4) (fun p y self hp hy ih => ?_) (show τ / 4 < 100000 by omega) ⟨rfl, p12, fun k hk => by rw [k2 k hk, k1 k hk], s2⟩
    obtain ⟨y, h3⟩ := y
    obtain ⟨rfl, p3, k3, s3⟩ := hy
    dsimp only at p3 k3 s3
    have hs3 := p3.shp hs
    have v28 := s3.1
    have l3 := lens (4 * p) (by omega)
    show wp (kX11_seeFrom_11 117 self (nI p) h3) _
    unfold kX11_seeFrom_11
    by_cases hlt : p < τ / 4
    · have hpq := t2 (4 * p) (by omega)
      rw [show 4 * p / 4 = p by omega] at hpq
      simp (disch := omega) only [v28, Nat.not_le.mpr hpq, SR (hs3), zl_eq, bsm, ZS, ZT, ZN, ZU, eq_self, true_and, and_true, and_self, or_true, true_or, or_false, false_or, not_true, not_false_eq_true, Nat.reduceAdd, Nat.reduceMul, Nat.reduceLT, Nat.reduceLeDiff, Nat.reduceEqDiff, ↓reduceIte, ZQ, Bool.true_eq_false, Bool.false_eq_true, Bool.not_true, Bool.not_false]
      refine wloop (fun l y => y.1 = nI l ∧ zfr [117, 136, 137] h y.2 ∧ (∀ k, k ≠ 28 → zI y.2 117 k = zI h 117 k) ∧ seI 1 (bq (dN M cr) (c + 1) (4 * p + l)).1 y.2) 4 (fun l y self2 hl hy ih2 => ?_) (by decide) ⟨rfl, p3, k3, s3⟩
      obtain ⟨y, h4⟩ := y
      obtain ⟨rfl, p4, k4, s4⟩ := hy
      dsimp only at p4 k4 s4
      have hs4 := p4.shp hs
      show wp (kX11_seeFrom_21 self 117 (nI p) self2 (nI l) h4) _
      unfold kX11_seeFrom_21 bX11_seeFrom_65
      by_cases hl4 : l < 4
      · have hpl := t2 (4 * p + l) (by omega)
        have hpl' : p < (bq (dN M cr) (c + 1) (4 * p + l)).1.length := by rw [show (4 * p + l) / 4 = p by omega] at hpl; exact hpl
        have l5 := lens (4 * p + l + 1) (by omega)
        have v6 := s4.2.1 p hpl'
        have hPin := getD_mem hpl'
        have hPN := bd _ _ hPin
        have b4 := BI_all (d := dN M cr) (A := c + 1) (by omega) (4 * p + l) (fun s hs => t2 s (by omega))
        have hP0 : (bq (dN M cr) (c + 1) (4 * p + l)).1.getD p 0 ≠ 0 := fun z => b4.2.2.1 (by rw [← z]; exact hPin)
        have ed : dN M cr ((bq (dN M cr) (c + 1) (4 * p + l)).1.getD ((4 * p + l) / 4) 0) ((4 * p + l) % 4) = dN M cr ((bq (dN M cr) (c + 1) (4 * p + l)).1.getD p 0) l := by rw [show (4 * p + l) / 4 = p by omega, show (4 * p + l) % 4 = l by omega]
        obtain ⟨x, hx⟩ : ∃ x, (bq (dN M cr) (c + 1) (4 * p + l)).1.getD p 0 = x + 1 := ⟨(bq (dN M cr) (c + 1) (4 * p + l)).1.getD p 0 - 1, by omega⟩
        rw [hx] at v6 hPN
        rw [Nat.add_sub_cancel] at v6
        have hxl : x < (LL M).length := by omega
        obtain ⟨xz, x256⟩ := LL256 (mem x hxl)
        have v7 : zI h4 133 x = nI ((LL M).getD x 0) := by rw [p4.I (by decide)]; exact sr.2 x hxl
        have v8 : zI h4 126 (4 * (LL M).getD x 0 + l) = nI (ims M ((LL M).getD x 0) l) := by rw [p4.I (by decide)]; exact pr.2 _ x256 l hl4
        have i256 := ims_lt (M := M) (S := (LL M).getD x 0) hl4
        have edx : dN M cr (x + 1) l = if ims M ((LL M).getD x 0) l = 0 then 0 else cr (ims M ((LL M).getD x 0) l) + 1 := dN_s
        rcases (LLrc hE).2.2.2.1 _ (mem x hxl) l hl4 with z | z
        · have v9 : zI h4 134 (ims M ((LL M).getD x 0) l) = -1 := by rw [z, p4.I (by decide)]; exact cH.1
          rw [if_pos z] at edx
          have ebq := bq_skip (d := dN M cr) (A := c + 1) (t := 4 * p + l) (by rw [ed, hx]; exact edx)
          simp (disch := omega) only [Nat.not_le.mpr hl4, v6, v7, v8, v9, SR (hs4), zl_eq, bsm, ZS, ZT, ZN, ZU, eq_self, true_and, and_true, and_self, or_true, true_or, or_false, false_or, not_true, not_false_eq_true, Nat.reduceAdd, Nat.reduceMul, Nat.reduceLT, Nat.reduceLeDiff, Nat.reduceEqDiff, ↓reduceIte, ZQ, Bool.true_eq_false, Bool.false_eq_true, Bool.not_true, Bool.not_false]
          exact ih2 _ hl4 ⟨rfl, p4, k4, by rw [← Nat.add_assoc, ebq]; exact s4⟩
        · have hz := (LL256 z).1
          have v9 : zI h4 134 (ims M ((LL M).getD x 0) l) = nI (cr (ims M ((LL M).getD x 0) l)) := by rw [p4.I (by decide)]; exact cH.2 _ z
          have hcl := (g _ z).1
          rw [if_neg hz] at edx
          obtain ⟨h5, e5, p5, k5, s5⟩ := see_step hs4 s4 hpl (x := cr (ims M ((LL M).getD x 0) l)) (by omega) (by rw [ed, hx]; exact edx) (by omega) (by omega)
          simp (disch := omega) only [Nat.not_le.mpr hl4, v6, v7, v8, v9, e5, SR (hs4), zl_eq, bsm, ZS, ZT, ZN, ZU, eq_self, true_and, and_true, and_self, or_true, true_or, or_false, false_or, not_true, not_false_eq_true, Nat.reduceAdd, Nat.reduceMul, Nat.reduceLT, Nat.reduceLeDiff, Nat.reduceEqDiff, ↓reduceIte, ZQ, Bool.true_eq_false, Bool.false_eq_true, Bool.not_true, Bool.not_false]
          exact ih2 _ hl4 ⟨rfl, p4.same p5, fun k hk => by rw [k5 k hk, k4 k hk], s5⟩
      · have : l = 4 := by omega
        subst this
        simp (disch := omega) only [Nat.le_refl, SR (hs4), zl_eq, bsm, ZS, ZT, ZN, ZU, eq_self, true_and, and_true, and_self, or_true, true_or, or_false, false_or, not_true, not_false_eq_true, Nat.reduceAdd, Nat.reduceMul, Nat.reduceLT, Nat.reduceLeDiff, Nat.reduceEqDiff, ↓reduceIte, ZQ, Bool.true_eq_false, Bool.false_eq_true, Bool.not_true, Bool.not_false]
        exact ih _ hlt ⟨rfl, p4, k4, by rw [show 4 * (p + 1) = 4 * p + 4 by omega]; exact s4⟩
    · have hpe : 4 * p = τ := by omega
      rw [hpe] at s3 v28
      simp (disch := omega) only [v28, show (bq (dN M cr) (c + 1) τ).1.length ≤ p by omega, SR (hs3), zl_eq, bsm, ZS, ZT, ZN, ZU, eq_self, true_and, and_true, and_self, or_true, true_or, or_false, false_or, not_true, not_false_eq_true, Nat.reduceAdd, Nat.reduceMul, Nat.reduceLT, Nat.reduceLeDiff, Nat.reduceEqDiff, ↓reduceIte, ZQ, Bool.true_eq_false, Bool.false_eq_true, Bool.not_true, Bool.not_false]
      exact wp_some ⟨p3, k3, s3⟩
  obtain ⟨h', e, p, q1, q2⟩ := key
  exact ⟨h', _, e, p, q1, q2, rcD_of t4 t3, lens τ (Nat.le_refl _)⟩
end DN
