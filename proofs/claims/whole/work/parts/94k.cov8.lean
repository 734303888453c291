/-! COVERS: classes of like followers, the reference's -/
def numK (M : Nat → Nat) (k : Nat) (cr : Nat → Nat) : Prop := ∀ S, S ∈ LL M → cr S < (LL M).length ∧ eqk M k S ((LL M).getD (cr S) 0) ∧ ∀ i, i < cr S → ¬ eqk M k S ((LL M).getD i 0)
def numV (M : Nat → Nat) (cr : Nat → Nat) : Prop := ∀ S, S ∈ LL M → cr S < (LL M).length ∧ eqv M S ((LL M).getD (cr S) 0) ∧ ∀ i, i < cr S → ¬ eqv M S ((LL M).getD i 0)
def crH (M : Nat → Nat) (cr : Nat → Nat) (h : ZH) : Prop := zI h 134 0 = -1 ∧ ∀ S, S ∈ LL M → zI h 134 S = nI (cr S)
section NK
variable {M : Nat → Nat} {h : ZH} {k : Nat} {cr : Nat → Nat}
theorem numK_iff (g : numK M k cr) {S R : Nat} (hS : S ∈ LL M) (hR : R ∈ LL M) : cr S = cr R ↔ eqk M k S R := by
  obtain ⟨s1, s2, s3⟩ := g S hS
  obtain ⟨r1, r2, r3⟩ := g R hR
  constructor
  · intro e
    rw [e] at s2
    exact eqk_tr s2 (eqk_sym r2)
  · intro e
    rcases Nat.lt_trichotomy (cr S) (cr R) with q | q | q
    · exact absurd (eqk_tr (eqk_sym e) s2) (r3 _ q)
    · exact q
    · exact absurd (eqk_tr e r2) (s3 _ q)
theorem numV_iff (g : numV M cr) {S R : Nat} (hS : S ∈ LL M) (hR : R ∈ LL M) : cr S = cr R ↔ eqv M S R := by
  obtain ⟨s1, s2, s3⟩ := g S hS
  obtain ⟨r1, r2, r3⟩ := g R hR
  constructor
  · intro e
    rw [e] at s2
    exact eqv_tr s2 (eqv_sym r2)
  · intro e
    rcases Nat.lt_trichotomy (cr S) (cr R) with q | q | q
    · exact absurd (eqv_tr (eqv_sym e) s2) (r3 _ q)
    · exact q
    · exact absurd (eqv_tr e r2) (s3 _ q)
theorem LL256 {S : Nat} (hS : S ∈ LL M) : S ≠ 0 ∧ S < 256 := (LL_good M).2 S hS
theorem crN (hE : ess M ≠ 0) (g : numK M k cr) (cH : crH M cr h) {S R : Nat} (hS : S = 0 ∨ S ∈ LL M) (hR : R = 0 ∨ R ∈ LL M) : (zI h 134 S = zI h 134 R) ↔ eqk M k S R := by
  have hlen : (LL M).length ≤ 255 := (LL_good M).len
  have nm : ∀ Q, Q ∈ LL M → nI (cr Q) ≠ (-1 : Int32) := fun Q hQ e => by
    have := (g Q hQ).1
    rw [nm1 (by omega)] at e
    exact e
  rcases hS with rfl | hS
  · rcases hR with rfl | hR
    · exact ⟨fun _ => eqk_rfl, fun _ => rfl⟩
    · rw [cH.1, cH.2 R hR]
      constructor
      · intro e; exact absurd e.symm (nm R hR)
      · intro e
        exact absurd rfl ((e [] lts_nil (Nat.zero_le _)).mpr (LL256 hR).1)
  · rcases hR with rfl | hR
    · rw [cH.1, cH.2 S hS]
      constructor
      · intro e; exact absurd e (nm S hS)
      · intro e
        exact absurd rfl ((e [] lts_nil (Nat.zero_le _)).mp (LL256 hS).1)
    · have b1 := (g S hS).1
      have b2 := (g R hR).1
      rw [cH.2 S hS, cH.2 R hR, nI_eq (by omega) (by omega)]
      exact numK_iff g hS hR
theorem isAlike_ok (hs : Sh h) (pr : prep M h) (hE : ess M ≠ 0) (g : numK M k cr) (cH : crH M cr h) {S R : Nat} (hS : S ∈ LL M) (hR : R ∈ LL M) : ∃ b : Bool, fX11_isAlike 117 (nI S) (nI R) h = some (nI b.toNat, h) ∧ (b = true ↔ eqk M (k + 1) S R) := by
  classical
  have tc := (LLrc hE).2.2.2.1
  obtain ⟨z1, b1⟩ := LL256 hS
  obtain ⟨z2, b2⟩ := LL256 hR
  have key : ∀ f : Bool, bX11_isAlike_20 117 (nI S) (nI R) (nI f.toNat) h = some (nI (f && decide (alk M k S R 4)).toNat, h) := by
    intro f
    have kk : wp (bX11_isAlike_20 117 (nI S) (nI R) (nI f.toNat) h) (fun y => y = (nI (f && decide (alk M k S R 4)).toNat, h)) := by
      unfold bX11_isAlike_20
      refine wloop (fun l y => y = (nI (f && decide (alk M k S R l)).toNat, nI l, h)) 4 (fun l y self hl hy ih => ?_) (by decide) (by rw [decide_eq_true (show alk M k S R 0 from fun l' hl' => by omega), Bool.and_true])
      subst hy
      show wp (kX11_isAlike_24 117 (nI S) (nI R) self (nI (f && decide (alk M k S R l)).toNat) (nI l) h) _
      unfold kX11_isAlike_24 bX11_isAlike_81 bX11_isAlike_74
      by_cases hl4 : l < 4
      · cases hc : (f && decide (alk M k S R l)) with
        | false =>
          have hfin : (f && decide (alk M k S R 4)) = false := by
            rw [Bool.and_eq_false_iff] at hc ⊢
            rcases hc with q | q
            · exact Or.inl q
            · exact Or.inr (decide_eq_false (fun z => of_decide_eq_false q (fun l' hl' => z l' (by omega))))
          rw [hfin]
          simp (disch := omega) only [Nat.not_le.mpr hl4, Bool.toNat_false, SR (hs), zl_eq, bsm, ZS, ZT, ZN, ZU, eq_self, true_and, and_true, and_self, or_true, true_or, or_false, false_or, not_true, not_false_eq_true, Nat.reduceAdd, Nat.reduceMul, Nat.reduceLT, Nat.reduceLeDiff, Nat.reduceEqDiff, ↓reduceIte, ZQ, Bool.true_eq_false, Bool.false_eq_true, Bool.not_true, Bool.not_false]
          exact wp_some rfl
        | true =>
          rw [Bool.and_eq_true] at hc
          have va := pr.2 S b1 l hl4
          have vb := pr.2 R b2 l hl4
          have ia := ims_lt (M := M) (S := S) hl4
          have ib := ims_lt (M := M) (S := R) hl4
          have cc := crN hE g cH (tc S hS l hl4) (tc R hR l hl4)
          by_cases e : zI h 134 (ims M S l) = zI h 134 (ims M R l)
          · simp (disch := omega) only [Nat.not_le.mpr hl4, Bool.toNat_true, va, vb, eq_true e, SR (hs), zl_eq, bsm, ZS, ZT, ZN, ZU, eq_self, true_and, and_true, and_self, or_true, true_or, or_false, false_or, not_true, not_false_eq_true, Nat.reduceAdd, Nat.reduceMul, Nat.reduceLT, Nat.reduceLeDiff, Nat.reduceEqDiff, ↓reduceIte, ZQ, Bool.true_eq_false, Bool.false_eq_true, Bool.not_true, Bool.not_false]
            refine ih _ hl4 ?_
            rw [hc.1, Bool.true_and, decide_eq_true (show alk M k S R (l + 1) from fun l' hl' => by
              by_cases q : l' = l
              · rw [q]; exact cc.mp e
              · exact of_decide_eq_true hc.2 l' (by omega)), Bool.toNat_true]
          · simp (disch := omega) only [Nat.not_le.mpr hl4, Bool.toNat_true, va, vb, eq_false e, SR (hs), zl_eq, bsm, ZS, ZT, ZN, ZU, eq_self, true_and, and_true, and_self, or_true, true_or, or_false, false_or, not_true, not_false_eq_true, Nat.reduceAdd, Nat.reduceMul, Nat.reduceLT, Nat.reduceLeDiff, Nat.reduceEqDiff, ↓reduceIte, ZQ, Bool.true_eq_false, Bool.false_eq_true, Bool.not_true, Bool.not_false]
            refine ih _ hl4 ?_
            rw [decide_eq_false (show ¬ alk M k S R (l + 1) from fun z => e (cc.mpr (z l (by omega)))), Bool.and_false, Bool.toNat_false]
      · have : l = 4 := by omega
        subst this
        cases hc : (f && decide (alk M k S R 4)) with
        | false =>
          simp (disch := omega) only [Nat.le_refl, Bool.toNat_false, SR (hs), zl_eq, bsm, ZS, ZT, ZN, ZU, eq_self, true_and, and_true, and_self, or_true, true_or, or_false, false_or, not_true, not_false_eq_true, Nat.reduceAdd, Nat.reduceMul, Nat.reduceLT, Nat.reduceLeDiff, Nat.reduceEqDiff, ↓reduceIte, ZQ, Bool.true_eq_false, Bool.false_eq_true, Bool.not_true, Bool.not_false]
          exact wp_some rfl
        | true =>
          simp (disch := omega) only [Nat.le_refl, Bool.toNat_true, SR (hs), zl_eq, bsm, ZS, ZT, ZN, ZU, eq_self, true_and, and_true, and_self, or_true, true_or, or_false, false_or, not_true, not_false_eq_true, Nat.reduceAdd, Nat.reduceMul, Nat.reduceLT, Nat.reduceLeDiff, Nat.reduceEqDiff, ↓reduceIte, ZQ, Bool.true_eq_false, Bool.false_eq_true, Bool.not_true, Bool.not_false]
          exact wp_some rfl
    obtain ⟨y, e, rfl⟩ := kk
    exact e
  have cc := crN hE g cH (Or.inr hS) (Or.inr hR)
  by_cases e : zI h 134 S = zI h 134 R
  · refine ⟨decide (alk M k S R 4), ?_, ?_⟩
    · have kt := key true
      rw [Bool.true_and, Bool.toNat_true] at kt
      unfold fX11_isAlike
      simp (disch := omega) only [eq_true e, SR (hs), zl_eq, bsm, ZS, ZT, ZN, ZU, eq_self, true_and, and_true, and_self, or_true, true_or, or_false, false_or, not_true, not_false_eq_true, Nat.reduceAdd, Nat.reduceMul, Nat.reduceLT, Nat.reduceLeDiff, Nat.reduceEqDiff, ↓reduceIte, ZQ, Bool.true_eq_false, Bool.false_eq_true, Bool.not_true, Bool.not_false]
      exact kt
    · rw [decide_eq_true_iff, eqk_s]
      exact ⟨fun z => ⟨⟨fun _ => z2, fun _ => z1⟩, z⟩, fun z => z.2⟩
  · refine ⟨false, ?_, ?_⟩
    · have kf := key false
      rw [Bool.false_and, Bool.toNat_false] at kf
      unfold fX11_isAlike
      simp (disch := omega) only [eq_false e, SR (hs), zl_eq, bsm, ZS, ZT, ZN, ZU, eq_self, true_and, and_true, and_self, or_true, true_or, or_false, false_or, not_true, not_false_eq_true, Nat.reduceAdd, Nat.reduceMul, Nat.reduceLT, Nat.reduceLeDiff, Nat.reduceEqDiff, ↓reduceIte, ZQ, Bool.true_eq_false, Bool.false_eq_true, Bool.not_true, Bool.not_false]
      exact kf
    · constructor
      · intro z; cases z
      · intro z
        exact absurd (cc.mpr (eqk_dn z)) e
theorem sm_le {f : Nat → Nat} {c : Nat} : ∀ n, (∀ i, i < n → f i ≤ c) → sm f n ≤ n * c
  | 0, _ => Nat.zero_le _
  | n + 1, h => by
    have := sm_le n (fun i hi => h i (by omega))
    have := h n (by omega)
    rw [sm, Nat.succ_mul]
    omega
theorem sm_mono {f g : Nat → Nat} : ∀ n, (∀ i, i < n → f i ≤ g i) → sm f n ≤ sm g n
  | 0, _ => Nat.le_refl _
  | n + 1, h => by
    have := sm_mono n (fun i hi => h i (by omega))
    have := h n (by omega)
    rw [sm, sm]
    omega
theorem sm_lt {f g : Nat → Nat} {j : Nat} : ∀ n, (∀ i, i < n → f i ≤ g i) → j < n → f j < g j → sm f n < sm g n
  | 0, _, hj, _ => by omega
  | n + 1, h, hj, hlt => by
    rw [sm, sm]
    by_cases e : j = n
    · have := sm_mono n (fun i hi => h i (by omega))
      rw [e] at hlt
      omega
    · have := sm_lt n (fun i hi => h i (by omega)) (by omega) hlt
      have := h n (by omega)
      omega
theorem classify_ok (hs : Sh h) (pr : prep M h) (hE : ess M ≠ 0) (sr : stR M h) : ∃ h' cr, fX11_classify 117 h = some h' ∧ zfr [134, 135] h h' ∧ numV M cr ∧ crH M cr h' := by
  have hlen : (LL M).length ≤ 255 := (LL_good M).len
  have hLL := LLrc hE
  have nd := hLL.1
  have hpos : 0 < (LL M).length := List.length_pos_of_mem hLL.2.2.1
  have mem : ∀ i, i < (LL M).length → (LL M).getD i 0 ∈ LL M := fun i hi => getD_mem hi
  have key : wp (fX11_classify 117 h) (fun h' => zfr [134, 135] h h' ∧ ∃ cr, numV M cr ∧ crH M cr h') := by
    have p1 : zfr [134] h (zsI h (zfil (zI h) 134 256 (fun i => if i = 0 then (-1 : Int32) else nI 0))) := zfr_filI
    have c1 : crH M (fun _ => 0) (zsI h (zfil (zI h) 134 256 (fun i => if i = 0 then (-1 : Int32) else nI 0))) := by
      refine ⟨?_, fun S hS => ?_⟩
      · dsimp only [zI_zsI]
        rw [zfil_in (by decide), if_pos rfl]
      · obtain ⟨q1, q2⟩ := LL256 hS
        dsimp only [zI_zsI]
        rw [zfil_in q2, if_neg q1]
    have g0 : numK M 0 (fun _ => 0) := fun S hS => ⟨hpos, eqk_0.mpr ⟨fun _ => (LL256 (mem 0 hpos)).1, fun _ => (LL256 hS).1⟩, fun i hi => absurd (show i < 0 from hi) (Nat.not_lt_zero i)⟩
    have e1 : fX11_classify 117 h = zloop (lX11_classify_32 117) zfu (nI 1, zsI h (zfil (zI h) 134 256 (fun i => if i = 0 then (-1 : Int32) else nI 0))) := by
      unfold fX11_classify
      simp (disch := omega) only [SR (hs), zl_eq, bsm, ZS, ZT, ZN, ZU, eq_self, true_and, and_true, and_self, or_true, true_or, or_false, false_or, not_true, not_false_eq_true, Nat.reduceAdd, Nat.reduceMul, Nat.reduceLT, Nat.reduceLeDiff, Nat.reduceEqDiff, ↓reduceIte, ZQ, Bool.true_eq_false, Bool.false_eq_true, Bool.not_true, Bool.not_false]
      refine zfill 134 256 (fun i => if i = 0 then (-1 : Int32) else nI 0) (fun j hj self => ?_) (fun self => ?_) (by decide)
      · show kX11_classify_2 117 self (nI j) _ = _
        unfold kX11_classify_2 bX11_classify_23
        by_cases j0 : j = 0
        · simp (disch := omega) only [Nat.not_le.mpr hj, eq_true j0, SR (hs), zl_eq, bsm, ZS, ZT, ZN, ZU, eq_self, true_and, and_true, and_self, or_true, true_or, or_false, false_or, not_true, not_false_eq_true, Nat.reduceAdd, Nat.reduceMul, Nat.reduceLT, Nat.reduceLeDiff, Nat.reduceEqDiff, ↓reduceIte, ZQ, Bool.true_eq_false, Bool.false_eq_true, Bool.not_true, Bool.not_false]
        · simp (disch := omega) only [Nat.not_le.mpr hj, eq_false j0, SR (hs), zl_eq, bsm, ZS, ZT, ZN, ZU, eq_self, true_and, and_true, and_self, or_true, true_or, or_false, false_or, not_true, not_false_eq_true, Nat.reduceAdd, Nat.reduceMul, Nat.reduceLT, Nat.reduceLeDiff, Nat.reduceEqDiff, ↓reduceIte, ZQ, Bool.true_eq_false, Bool.false_eq_true, Bool.not_true, Bool.not_false]
      · show kX11_classify_2 117 self (nI 256) _ = _
        unfold kX11_classify_2
        rw [if_pos (by decide)]
    rw [e1]
    generalize zsI h (zfil (zI h) 134 256 (fun i => if i = 0 then (-1 : Int32) else nI 0)) = h1 at p1 c1
    refine wloop (fun r y => zfr [134, 135] h y.2 ∧ ∃ b cr, y.1 = nI (b : Bool).toNat ∧ numK M r cr ∧ crH M cr y.2 ∧ (b = true → r ≤ sm (fun i => cr ((LL M).getD i 0)) (LL M).length) ∧ (b = false → numV M cr)) 65100 (fun r y self hr hy ih => ?_) (by decide) ⟨p1.mono (by decide), true, fun _ => 0, rfl, g0, c1, fun _ => Nat.zero_le _, (fun z => by cases z)⟩
    obtain ⟨y1, h2⟩ := y
    obtain ⟨p2, b, cr, rfl, g, cH, mes, fin⟩ := hy
    dsimp only at p2 cH
    have hs2 := p2.shp hs
    have pr2 : prep M h2 := ⟨by rw [p2.I (by decide)]; exact pr.1, fun S hS l hl => by rw [p2.I (by decide)]; exact pr.2 S hS l hl⟩
    have sr2 : stR M h2 := ⟨by rw [p2.I (by decide)]; exact sr.1, fun i hi => by rw [p2.I (by decide)]; exact sr.2 i hi⟩
    show wp (kX11_classify_32 117 self (nI b.toNat) h2) _
    unfold kX11_classify_32
    cases hb : b with
    | false =>
      subst hb
      rw [Bool.toNat_false, if_pos eq00]
      exact wp_some ⟨p2, cr, fin rfl, cH⟩
    | true =>
      subst hb
      have hm := mes rfl
      have hbnd : sm (fun i => cr ((LL M).getD i 0)) (LL M).length ≤ 255 * 255 := Nat.le_trans (sm_le _ (fun i hi => by have := (g _ (mem i hi)).1; exact Nat.le_of_lt_succ (show cr ((LL M).getD i 0) < 255 + 1 by omega))) (Nat.mul_le_mul_right _ hlen)
      rw [Bool.toNat_true, if_neg ne10]
      -- each set finds its class
      refine wloop (fun i y => y.1 = nI i ∧ zfr [135] h2 y.2 ∧ ∃ f : Nat → Nat, ∀ m, m < i → zI y.2 135 m = nI (f m) ∧ f m ≤ m ∧ eqk M (r + 1) ((LL M).getD m 0) ((LL M).getD (f m) 0) ∧ ∀ u, u < f m → ¬ eqk M (r + 1) ((LL M).getD m 0) ((LL M).getD u 0)) (LL M).length (fun i y self2 hi hy ih2 => ?_) (show (LL M).length < 100000 by omega) ⟨rfl, zfr.refl h2, fun _ => 0, fun m hm => by omega⟩
      obtain ⟨y, h3⟩ := y
      obtain ⟨rfl, p3, f, ff⟩ := hy
      dsimp only at p3 ff
      have hs3 := p3.shp hs2
      have pr3 : prep M h3 := ⟨by rw [p3.I (by decide)]; exact pr2.1, fun S hS l hl => by rw [p3.I (by decide)]; exact pr2.2 S hS l hl⟩
      have cH3 : crH M cr h3 := ⟨by rw [p3.I (by decide)]; exact cH.1, fun S hS => by rw [p3.I (by decide)]; exact cH.2 S hS⟩
      have v23 : zI h3 117 23 = nI (LL M).length := by rw [p3.I (by decide)]; exact sr2.1
      have v132 : ∀ i, i < (LL M).length → zI h3 133 i = nI ((LL M).getD i 0) := fun i hi => by rw [p3.I (by decide)]; exact sr2.2 i hi
      show wp (kX11_classify_40 self 117 (nI 0) self2 (nI i) h3) _
      unfold kX11_classify_40
      by_cases hil : i < (LL M).length
      · simp (disch := omega) only [v23, Nat.not_le.mpr hil, SR (hs3), zl_eq, bsm, ZS, ZT, ZN, ZU, eq_self, true_and, and_true, and_self, or_true, true_or, or_false, false_or, not_true, not_false_eq_true, Nat.reduceAdd, Nat.reduceMul, Nat.reduceLT, Nat.reduceLeDiff, Nat.reduceEqDiff, ↓reduceIte, ZQ, Bool.true_eq_false, Bool.false_eq_true, Bool.not_true, Bool.not_false]
        refine wloop (fun v y => y = (nI v, h3) ∧ ∀ u, u < v → ¬ eqk M (r + 1) ((LL M).getD i 0) ((LL M).getD u 0)) i (fun v y self3 hv hy ih3 => ?_) (show i < 100000 by omega) ⟨rfl, fun u hu => by omega⟩
        obtain ⟨rfl, no⟩ := hy
        obtain ⟨b, eb, hb⟩ := isAlike_ok hs3 pr3 hE g cH3 (mem i hil) (mem v (by omega))
        have w1 := v132 i hil
        have w2 := v132 v (by omega)
        have x1 := (LL256 (mem i hil)).2
        have x2 := (LL256 (mem v (by omega))).2
        show wp (kX11_classify_50 self self2 117 (nI 0) (nI i) self3 (nI v) h3) _
        unfold kX11_classify_50
        cases hbb : b with
        | true =>
          rw [hbb, Bool.toNat_true] at eb
          simp (disch := omega) only [w1, w2, eb, SR (hs3), zl_eq, bsm, ZS, ZT, ZN, ZU, eq_self, true_and, and_true, and_self, or_true, true_or, or_false, false_or, not_true, not_false_eq_true, Nat.reduceAdd, Nat.reduceMul, Nat.reduceLT, Nat.reduceLeDiff, Nat.reduceEqDiff, ↓reduceIte, ZQ, Bool.true_eq_false, Bool.false_eq_true, Bool.not_true, Bool.not_false]
          refine ih2 _ hil ⟨rfl, p3.same zfr_uI, upM f i v, fun m hm => ?_⟩
          dsimp only [zI_zsI]
          unfold upM
          rw [zu_at]
          by_cases e : m = i
          · rw [if_pos e, if_pos e, e]
            exact ⟨rfl, hv, hb.mp hbb, no⟩
          · rw [if_neg e, if_neg e]
            exact ff m (by omega)
        | false =>
          rw [hbb, Bool.toNat_false] at eb
          have hvi : v < i := by
            apply Classical.byContradiction
            intro q
            have : v = i := by omega
            rw [this] at hb
            rw [hb.mpr eqk_rfl] at hbb
            cases hbb
          simp (disch := omega) only [w1, w2, eb, SR (hs3), zl_eq, bsm, ZS, ZT, ZN, ZU, eq_self, true_and, and_true, and_self, or_true, true_or, or_false, false_or, not_true, not_false_eq_true, Nat.reduceAdd, Nat.reduceMul, Nat.reduceLT, Nat.reduceLeDiff, Nat.reduceEqDiff, ↓reduceIte, ZQ, Bool.true_eq_false, Bool.false_eq_true, Bool.not_true, Bool.not_false]
          refine ih3 _ hvi ⟨rfl, fun u hu => ?_⟩
          by_cases e : u = v
          · rw [e]
            exact fun z => by rw [hb.mpr z] at hbb; cases hbb
          · exact no u (by omega)
      · have hie : i = (LL M).length := by omega
        subst hie
        -- the new numbers
        obtain ⟨cr', hcr'⟩ : ∃ cr' : Nat → Nat, ∀ m, m < (LL M).length → cr' ((LL M).getD m 0) = f m := by
          classical
          refine ⟨fun S => if hS : ∃ m, m < (LL M).length ∧ (LL M).getD m 0 = S then f (Classical.choose hS) else 0, fun m hm => ?_⟩
          have hex : ∃ m', m' < (LL M).length ∧ (LL M).getD m' 0 = (LL M).getD m 0 := ⟨m, hm, rfl⟩
          dsimp only
          rw [dif_pos hex]
          have := Classical.choose_spec hex
          rw [getD_inj nd this.1 hm this.2]
        have g' : numK M (r + 1) cr' := fun S hS => by
          obtain ⟨m, hm, rfl⟩ := mem_getD hS
          obtain ⟨-, q2, q3, q4⟩ := ff m hm
          rw [hcr' m hm]
          exact ⟨by omega, q3, q4⟩
        have hge : ∀ S, S ∈ LL M → cr S ≤ cr' S := fun S hS => by
          apply Classical.byContradiction
          intro q
          exact (g S hS).2.2 (cr' S) (by omega) (eqk_dn (g' S hS).2.1)
        simp (disch := omega) only [v23, Nat.le_refl, SR (hs3), zl_eq, bsm, ZS, ZT, ZN, ZU, eq_self, true_and, and_true, and_self, or_true, true_or, or_false, false_or, not_true, not_false_eq_true, Nat.reduceAdd, Nat.reduceMul, Nat.reduceLT, Nat.reduceLeDiff, Nat.reduceEqDiff, ↓reduceIte, ZQ, Bool.true_eq_false, Bool.false_eq_true, Bool.not_true, Bool.not_false]
        refine wloop (fun i y => y.2.1 = nI i ∧ zfr [134] h3 y.2.2 ∧ zI y.2.2 134 0 = -1 ∧ (∀ m, m < (LL M).length → zI y.2.2 134 ((LL M).getD m 0) = nI (if m < i then cr' ((LL M).getD m 0) else cr ((LL M).getD m 0))) ∧ ∃ b, y.1 = nI (b : Bool).toNat ∧ (b = false → ∀ m, m < i → cr' ((LL M).getD m 0) = cr ((LL M).getD m 0)) ∧ (b = true → ∃ m, m < (LL M).length ∧ cr' ((LL M).getD m 0) ≠ cr ((LL M).getD m 0))) (LL M).length (fun i y self3 hi hy ih3 => ?_) (show (LL M).length < 100000 by omega) ⟨rfl, zfr.refl h3, cH3.1, (fun m hm => by rw [if_neg (by omega)]; exact cH3.2 _ (mem m hm)), false, rfl, (fun _ m hm => by omega), (fun z => by cases z)⟩
        obtain ⟨y1, y2, h4⟩ := y
        obtain ⟨rfl, p4, z4, q4, b, rfl, bf, bt⟩ := hy
        dsimp only at p4 z4 q4
        have hs4 := p4.shp hs3
        have v23' : zI h4 117 23 = nI (LL M).length := by rw [p4.I (by decide)]; exact v23
        show wp (kX11_classify_90 self 117 self3 (nI b.toNat) (nI i) h4) _
        unfold kX11_classify_90
        by_cases hil : i < (LL M).length
        · have w1 : zI h4 133 i = nI ((LL M).getD i 0) := by rw [p4.I (by decide)]; exact v132 i hil
          have w2 : zI h4 135 i = nI (cr' ((LL M).getD i 0)) := by rw [p4.I (by decide), hcr' i hil]; exact (ff i hil).1
          have w3 := q4 i hil
          rw [if_neg (by omega)] at w3
          obtain ⟨xn, x1⟩ := LL256 (mem i hil)
          have y1' := (g' _ (mem i hil)).1
          have y2' := (g _ (mem i hil)).1
          have fin : ∀ b', (b' = false → b = false ∧ cr' ((LL M).getD i 0) = cr ((LL M).getD i 0)) → (b' = true → b = true ∨ cr' ((LL M).getD i 0) ≠ cr ((LL M).getD i 0)) → wp (bX11_classify_127 self self3 117 (nI i) (nI (b' : Bool).toNat) h4) _ := fun b' hf ht => by
            unfold bX11_classify_127
            simp (disch := omega) only [w1, w2, SR (hs4), zl_eq, bsm, ZS, ZT, ZN, ZU, eq_self, true_and, and_true, and_self, or_true, true_or, or_false, false_or, not_true, not_false_eq_true, Nat.reduceAdd, Nat.reduceMul, Nat.reduceLT, Nat.reduceLeDiff, Nat.reduceEqDiff, ↓reduceIte, ZQ, Bool.true_eq_false, Bool.false_eq_true, Bool.not_true, Bool.not_false]
            refine ih3 _ hil ⟨rfl, p4.same zfr_uI, ?_, fun m hm => ?_, b', rfl, fun z m hm => ?_, fun z => ?_⟩
            · dsimp only [zI_zsI]
              rw [zu_at, if_neg (fun q => xn q.symm)]
              exact z4
            · dsimp only [zI_zsI]
              rw [zu_at]
              by_cases e : m = i
              · rw [e, if_pos rfl, if_pos (by omega)]
              · have hne : (LL M).getD m 0 ≠ (LL M).getD i 0 := fun q => e (getD_inj nd hm hil q)
                rw [if_neg hne, q4 m hm]
                by_cases e2 : m < i
                · rw [if_pos e2, if_pos (by omega)]
                · rw [if_neg e2, if_neg (by omega)]
            · obtain ⟨c1, c2⟩ := hf z
              by_cases e : m = i
              · rw [e]; exact c2
              · exact bf c1 m (by omega)
            · rcases ht z with q | q
              · exact bt q
              · exact ⟨i, hil, q⟩
          cases hb : b with
          | true =>
            unfold bX11_classify_122
            simp (disch := omega) only [v23', Nat.not_le.mpr hil, Bool.toNat_true, SR (hs4), zl_eq, bsm, ZS, ZT, ZN, ZU, eq_self, true_and, and_true, and_self, or_true, true_or, or_false, false_or, not_true, not_false_eq_true, Nat.reduceAdd, Nat.reduceMul, Nat.reduceLT, Nat.reduceLeDiff, Nat.reduceEqDiff, ↓reduceIte, ZQ, Bool.true_eq_false, Bool.false_eq_true, Bool.not_true, Bool.not_false]
            exact fin true (fun z => by cases z) (fun _ => Or.inl hb)
          | false =>
            by_cases e : cr ((LL M).getD i 0) = cr' ((LL M).getD i 0)
            · simp (disch := omega) only [v23', Nat.not_le.mpr hil, Bool.toNat_false, w1, w2, w3, eq_true e, SR (hs4), zl_eq, bsm, ZS, ZT, ZN, ZU, eq_self, true_and, and_true, and_self, or_true, true_or, or_false, false_or, not_true, not_false_eq_true, Nat.reduceAdd, Nat.reduceMul, Nat.reduceLT, Nat.reduceLeDiff, Nat.reduceEqDiff, ↓reduceIte, ZQ, Bool.true_eq_false, Bool.false_eq_true, Bool.not_true, Bool.not_false]
              exact fin false (fun _ => ⟨hb, e.symm⟩) (fun z => by cases z)
            · unfold bX11_classify_122
              simp (disch := omega) only [v23', Nat.not_le.mpr hil, Bool.toNat_false, w1, w2, w3, eq_false e, SR (hs4), zl_eq, bsm, ZS, ZT, ZN, ZU, eq_self, true_and, and_true, and_self, or_true, true_or, or_false, false_or, not_true, not_false_eq_true, Nat.reduceAdd, Nat.reduceMul, Nat.reduceLT, Nat.reduceLeDiff, Nat.reduceEqDiff, ↓reduceIte, ZQ, Bool.true_eq_false, Bool.false_eq_true, Bool.not_true, Bool.not_false]
              exact fin true (fun z => by cases z) (fun _ => Or.inr (fun q => e q.symm))
        · have hie : i = (LL M).length := by omega
          subst hie
          simp (disch := omega) only [v23', Nat.le_refl, SR (hs4), zl_eq, bsm, ZS, ZT, ZN, ZU, eq_self, true_and, and_true, and_self, or_true, true_or, or_false, false_or, not_true, not_false_eq_true, Nat.reduceAdd, Nat.reduceMul, Nat.reduceLT, Nat.reduceLeDiff, Nat.reduceEqDiff, ↓reduceIte, ZQ, Bool.true_eq_false, Bool.false_eq_true, Bool.not_true, Bool.not_false]
          have cH4 : crH M cr' h4 := ⟨z4, fun S hS => by
            obtain ⟨m, hm, rfl⟩ := mem_getD hS
            rw [q4 m hm, if_pos hm]⟩
          refine ih _ (by omega) ⟨(p2.same (p3.mono (by decide))).same (p4.mono (by decide)), b, cr', rfl, g', cH4, fun z => ?_, fun z => ?_⟩
          · obtain ⟨m, m1, m2⟩ := bt z
            have := sm_lt (f := fun i => cr ((LL M).getD i 0)) (g := fun i => cr' ((LL M).getD i 0)) (j := m) (LL M).length (fun i hi => hge _ (mem i hi)) m1 (by have := hge _ (mem m m1); omega)
            omega
          · have same := bf z
            have st : ∀ S R, S ∈ LL M → R ∈ LL M → eqk M r S R → eqk M (r + 1) S R := fun S R hS hR e => by
              have e1 := (numK_iff g hS hR).mpr e
              obtain ⟨m, hm, rfl⟩ := mem_getD hS
              obtain ⟨m', hm', rfl⟩ := mem_getD hR
              rw [← same m hm, ← same m' hm'] at e1
              exact (numK_iff g' hS hR).mp e1
            intro S hS
            obtain ⟨c1, c2, c3⟩ := g' S hS
            exact ⟨c1, eqv_of hLL.2.2.2.1 st hS (mem _ c1) (eqk_dn c2), fun i hi e => c3 i hi (eqv_k e)⟩
  obtain ⟨h', e, p, cr, q⟩ := key
  exact ⟨h', cr, e, p, q⟩
end NK
