/-! COVERS: the two are one -/
section LG
variable {M : Nat → Nat}
theorem rn_sb {S : Nat} (hS : sb S (ess M)) : ∀ w, lts w → sb (rn (ims M) S w) (ess M) := by
  intro w
  induction w generalizing S with
  | nil => intro _; exact hS
  | cons a w ih =>
    intro hw
    rw [lts_cons] at hw
    rw [rn_cons]
    exact ih (ims_sb hw.1) hw.2
theorem rn_mono {S R : Nat} (h : sb S R) (hR : sb R (ess M)) : ∀ w, lts w → sb (rn (ims M) S w) (rn (ims M) R w) := by
  intro w
  induction w generalizing S R with
  | nil => intro _; exact h
  | cons a w ih =>
    intro hw
    rw [lts_cons] at hw
    rw [rn_cons, rn_cons]
    exact ih (ims_mono h hR) (ims_sb hw.1) hw.2
theorem pow_sb {v T : Nat} (h : T.testBit v = true) : sb (2 ^ v) T := fun i hi => by
  rw [pow_bit] at hi
  rw [← hi]; exact h
theorem path_ex (ha : allB M) {u v : Nat} (hu : (ess M).testBit u = true) (hv : (ess M).testBit v = true) : ∃ w, lts w ∧ (rn (ims M) (2 ^ u) w).testBit v = true := by
  classical
  have hX : ∀ i, (orf (fun x => decide (∃ w, lts w ∧ (rn (ims M) (2 ^ u) w).testBit x = true)) (fun k => 2 ^ k) 8).testBit i = true ↔ i < 8 ∧ ∃ w, lts w ∧ (rn (ims M) (2 ^ u) w).testBit i = true := by
    intro i
    rw [orf_bit]
    constructor
    · rintro ⟨k, h1, h2, h3⟩
      rw [Nat.testBit_two_pow] at h3
      have := of_decide_eq_true h3
      subst this
      exact ⟨h1, of_decide_eq_true h2⟩
    · rintro ⟨h1, h2⟩
      exact ⟨i, h1, decide_eq_true h2, by rw [Nat.testBit_two_pow]; exact decide_eq_true rfl⟩
  generalize orf (fun x => decide (∃ w, lts w ∧ (rn (ims M) (2 ^ u) w).testBit x = true)) (fun k => 2 ^ k) 8 = X at hX
  have u8 : u < 8 := tb8 (ess_lt M) hu
  have key := rF_min (M := coreM M) (S := 2 ^ u) (T := X) (fun x hx => by
    obtain ⟨y, y1, y2, l, l1, l2⟩ := fa_bit.mp hx
    obtain ⟨-, w, w1, w2⟩ := (hX y).mp y2
    have hx8 : x < 8 := by
      have := (coreM_bit l1).mp l2
      exact tb8 (ess_lt M) this.2.2
    refine (hX x).mpr ⟨hx8, w ++ [l], lts_app.mpr ⟨w1, lts_cons.mpr ⟨l1, lts_nil⟩⟩, ?_⟩
    rw [rn_app]
    show (ims M (rn (ims M) (2 ^ u) w) l).testBit x = true
    rw [ims_in (rn_sb (pow_sb hu) w w1)]
    exact fo_bit.mpr ⟨y, y1, w2, l2⟩) (fun x hx => by
    rw [pow_bit] at hx
    rw [← hx]
    exact (hX u).mpr ⟨u8, [], lts_nil, by rw [rn_nil, pow_bit]⟩) 8
  have := key v (by rw [ha.2 u hu]; exact hv)
  exact ((hX v).mp this).2
/-- whatever is closed and not empty has all words -/
theorem lang (ha : allB M) {U : List Nat} (hU : ∀ S, S ∈ U → S ∈ LL M) (cU : ∀ S, S ∈ U → ∀ w, lts w → rn (ims M) S w ≠ 0 → rn (ims M) S w ∈ U) (eU : ∃ S, S ∈ U) : ∀ w, lts w → ((∃ S, S ∈ U ∧ rn (ims M) S w ≠ 0) ↔ rn (ims M) (ess M) w ≠ 0) := by
  intro w hw
  constructor
  · rintro ⟨S, hS, h⟩
    obtain ⟨i, hi⟩ := nz_bit.mp h
    exact nz_bit.mpr ⟨i, rn_mono (LL_sb (hU S hS)) (fun _ h => h) w hw i hi⟩
  · intro h
    obtain ⟨S, hS⟩ := eU
    obtain ⟨u, hu⟩ := nz_bit.mp (LL256 (hU S hS)).1
    have hue := LL_sb (hU S hS) u hu
    -- a vertex from which the word can be read
    have : ∃ v, (ess M).testBit v = true ∧ rn (ims M) (2 ^ v) w ≠ 0 := by
      apply Classical.byContradiction
      intro hn
      apply h
      have add : ∀ w, lts w → ∀ R, sb R (ess M) → (∀ v, R.testBit v = true → rn (ims M) (2 ^ v) w = 0) → rn (ims M) R w = 0 := by
        intro w
        induction w with
        | nil =>
          intro _ R _ hv
          apply Classical.byContradiction
          intro q
          obtain ⟨i, hi⟩ := nz_bit.mp q
          have := hv i hi
          rw [rn_nil] at this
          have h2 : (2 ^ i).testBit i = true := pow_bit.mpr rfl
          rw [this, Nat.zero_testBit] at h2
          cases h2
        | cons a w ih =>
          intro hw R hR hv
          rw [lts_cons] at hw
          rw [rn_cons]
          refine ih hw.2 _ (ims_sb hw.1) (fun x hx => ?_)
          rw [ims_in hR] at hx
          obtain ⟨y, y1, y2, y3⟩ := fo_bit.mp hx
          have h1 := hv y y2
          rw [rn_cons] at h1
          apply Classical.byContradiction
          intro q
          obtain ⟨i, hi⟩ := nz_bit.mp q
          have hye : (ess M).testBit y = true := hR y y2
          have hxs : sb (2 ^ x) (ims M (2 ^ y) a) := pow_sb (by
            rw [ims_in (pow_sb hye)]
            exact fo_bit.mpr ⟨y, y1, pow_bit.mpr rfl, y3⟩)
          have := rn_mono hxs (ims_sb hw.1) w hw.2 i hi
          rw [h1, Nat.zero_testBit] at this
          cases this
      exact add w hw (ess M) (fun _ h => h) (fun v hv => by
        apply Classical.byContradiction
        intro q
        exact hn ⟨v, hv, q⟩)
    obtain ⟨v, hv, hvw⟩ := this
    obtain ⟨x, x1, x2⟩ := path_ex ha hue hv
    have hSx : (rn (ims M) S x).testBit v = true := rn_mono (pow_sb hu) (LL_sb (hU S hS)) x x1 v x2
    have hne : rn (ims M) S x ≠ 0 := nz_bit.mpr ⟨v, hSx⟩
    refine ⟨rn (ims M) S x, cU S hS x x1 hne, ?_⟩
    obtain ⟨i, hi⟩ := nz_bit.mp hvw
    exact nz_bit.mpr ⟨i, rn_mono (pow_sb hSx) (rn_sb (LL_sb (hU S hS)) x x1) w hw i hi⟩
end LG
theorem pig2 {A B : List Nat} (hA : A.Nodup) (hB : B.Nodup) (h : ∀ x, x ∈ A → x ∈ B) : A.length ≤ B.length := by
  obtain ⟨N, hN⟩ : ∃ N, ∀ x ∈ B, x < N := by
    clear hA hB h
    induction B with
    | nil => exact ⟨0, fun x hx => by cases hx⟩
    | cons b B ih =>
      obtain ⟨N, hN⟩ := ih
      refine ⟨max N (b + 1), fun x hx => ?_⟩
      rcases List.mem_cons.mp hx with e | e
      · omega
      · have := hN x e
        omega
  have h1 := cnt_list (n := N) hA (fun x hx => hN x (h x hx))
  have h2 := cnt_list (n := N) hB hN
  have h3 : ∀ n, cnt (fun k => decide (k ∈ A)) n ≤ cnt (fun k => decide (k ∈ B)) n := by
    intro n
    induction n with
    | zero => exact Nat.le_refl _
    | succ n ih =>
      cases hy : decide (n ∈ A) with
      | false =>
        rw [cnt_zero hy]
        exact Nat.le_trans ih (cnt_mono _ (Nat.le_succ n))
      | true =>
        rw [cnt_one hy, cnt_one (decide_eq_true (h n (of_decide_eq_true hy)))]
        omega
  have := h3 N
  omega
section ISO
variable {M : Nat → Nat} {T Ld Q : List Nat} {cl cr : Nat → Nat} {b : Nat}
theorem rnT (lc : lastC M T) {S : Nat} (hS : S ∈ T) {w : List Nat} (hw : lts w) (h : rn (ims M) S w ≠ 0) : rn (ims M) S w ∈ T := by
  obtain ⟨S0, rc, -⟩ := lc
  rcases rcL_rn rc hS w hw with z | z
  · exact absurd z h
  · exact z
theorem memT (lc : lastC M T) {S : Nat} (hS : S ∈ T) : S ∈ LL M := by
  obtain ⟨S0, rc, -, -, hT, -⟩ := lc
  exact hT S hS
/-- from each of the last classes the first can be come to -/
theorem bot (hE : ess M ≠ 0) (g : numV M cr) (bq : bestQ M cr b Q) : ∀ P, P ∈ Q → ∃ w, lts w ∧ rn (dN M cr) P w = b + 1 := by
  obtain ⟨b1, b2, rc, mn⟩ := bq
  have mem : ∀ i, i < (LL M).length → (LL M).getD i 0 ∈ LL M := fun i hi => getD_mem hi
  intro P hP
  have hP0 : P ≠ 0 := fun z => rc.2.1 (by rw [← z]; exact hP)
  -- P is a class
  have hcl : ∃ S, S ∈ LL M ∧ P = cr S + 1 := by
    obtain ⟨w, w1, w2⟩ := rc.2.2.2.2 P hP
    have e := rn_dN hE g w w1 _ (mem b b1)
    rw [b2, w2] at e
    by_cases z : rn (ims M) ((LL M).getD b 0) w = 0
    · rw [if_pos z] at e; exact absurd e hP0
    · rw [if_neg z] at e
      rcases rcL_rn (LLrc hE) (mem b b1) w w1 with q | q
      · exact absurd q z
      · exact ⟨_, q, e⟩
  obtain ⟨S, hS, rfl⟩ := hcl
  obtain ⟨c1, c2, -⟩ := g S hS
  have hrep : cr ((LL M).getD (cr S) 0) = cr S := (numV_iff g (mem _ c1) hS).mpr (eqv_sym c2)
  -- what is seen from it
  have hlen : (LL M).length ≤ 255 := (LL_good M).len
  have nmLt : ∀ P l, l < 4 → dN M cr P l < (LL M).length + 1 := fun P l hl => by
    rcases dN_in g hE (P := P) hl with z | ⟨S, hS, z⟩
    · rw [z]; omega
    · rw [z]; have := (g S hS).1; omega
  obtain ⟨τ, t1, t2, t3, t4, t5⟩ := exStop1 (d := dN M cr) (A := cr S + 1) ((LL M).length + 1) (by omega) (by omega) (bq_bd (by omega) nmLt)
  have rc1 := rcD_of t4 t3
  have hle := mn (cr S) c1 hrep _ rc1
  have hin : b + 1 ∈ (bq (dN M cr) (cr S + 1) τ).1 := by
    apply Classical.byContradiction
    intro q
    have := nodup_le rc1.1 rc.1 (rcD_sub dN_0 rc rc1 hP) rc.2.2.1 q
    omega
  exact rc1.2.2.2.2 _ hin
theorem famT (ha : allB M) (lc : lastC M T) (g : numV M cr) (bq : bestQ M cr b Q) : (∀ R, R ∈ T → cr R + 1 ∈ Q) ∧ ∀ P, P ∈ Q → ∃ R, R ∈ T ∧ cr R + 1 = P := by
  classical
  have hE := ha.1
  obtain ⟨b1, b2, rcb, mn⟩ := id bq
  obtain ⟨S0, rc, hS0, hl, hT, con⟩ := id lc
  have mem : ∀ i, i < (LL M).length → (LL M).getD i 0 ∈ LL M := fun i hi => getD_mem hi
  have hT2 : ∀ S, S ∈ (LL M).filter (fun S => decide (cr S + 1 ∈ Q)) ↔ S ∈ LL M ∧ cr S + 1 ∈ Q := fun S => by
    rw [List.mem_filter, decide_eq_true_iff]
  have c2 : ∀ S, S ∈ (LL M).filter (fun S => decide (cr S + 1 ∈ Q)) → ∀ w, lts w → rn (ims M) S w ≠ 0 → rn (ims M) S w ∈ (LL M).filter (fun S => decide (cr S + 1 ∈ Q)) := by
    intro S hS w hw hne
    obtain ⟨s1, s2⟩ := (hT2 S).mp hS
    refine (hT2 _).mpr ⟨?_, ?_⟩
    · rcases rcL_rn (LLrc hE) s1 w hw with q | q
      · exact absurd q hne
      · exact q
    · have e := rn_dN hE g w hw S s1
      rw [if_neg hne] at e
      rcases rcD_rn dN_0 rcb s2 w hw with q | q
      · rw [e] at q; omega
      · rw [e] at q; exact q
  have e2 : ∃ S, S ∈ (LL M).filter (fun S => decide (cr S + 1 ∈ Q)) := ⟨_, (hT2 _).mpr ⟨mem b b1, by rw [b2]; exact rcb.2.2.1⟩⟩
  have l1 := lang ha hT (fun S hS w hw h => rnT lc hS hw h) ⟨S0, rc.2.2.1⟩
  have l2 := lang ha (fun S hS => ((hT2 S).mp hS).1) c2 e2
  have fe := fam_eq (d := ims M) (fun l => ims_0 l) (T1 := T) (T2 := (LL M).filter (fun S => decide (cr S + 1 ∈ Q))) (fun S hS w hw h => rnT lc hS hw h) c2 (fun S hS R hR => by
    obtain ⟨w, w1, w2⟩ := con S hS
    obtain ⟨v, v1, v2⟩ := rc.2.2.2.2 R hR
    exact ⟨w ++ v, lts_app.mpr ⟨w1, v1⟩, by rw [rn_app, w2, v2]⟩) (fun S hS z => rc.2.1 (by rw [← z]; exact hS)) ⟨S0, rc.2.2.1⟩ (fun w hw => (l1 w hw).trans (l2 w hw).symm)
  have first : ∀ R, R ∈ T → cr R + 1 ∈ Q := by
    intro R hR
    obtain ⟨R', r1, -, r3⟩ := fe R hR
    obtain ⟨r4, r5⟩ := (hT2 R').mp r1
    have : cr R = cr R' := (numV_iff g (hT R hR) r4).mpr r3
    rw [this]; exact r5
  refine ⟨first, fun P hP => ?_⟩
  have h0 := first S0 rc.2.2.1
  obtain ⟨w, w1, w2⟩ := bot hE g bq _ h0
  obtain ⟨v, v1, v2⟩ := rcb.2.2.2.2 P hP
  have hP0 : P ≠ 0 := fun z => rcb.2.1 (by rw [← z]; exact hP)
  have e := rn_dN hE g (w ++ v) (lts_app.mpr ⟨w1, v1⟩) S0 hS0
  rw [rn_app, w2, v2] at e
  by_cases z : rn (ims M) S0 (w ++ v) = 0
  · rw [if_pos z] at e; exact absurd e hP0
  · rw [if_neg z] at e
    exact ⟨_, rnT lc rc.2.2.1 (lts_app.mpr ⟨w1, v1⟩) z, e.symm⟩
/-- where a letter leads in the object's graph of classes -/
noncomputable def le1 (M : Nat → Nat) (Ld : List Nat) (cl : Nat → Nat) (v l : Nat) : Nat := if ims M (Ld.getD v 0) l = 0 then 0 else cl (ims M (Ld.getD v 0) l) + 1
/-- one graph is the other, renamed -/
def iso (n : Nat) (la lb : Nat → Nat → Nat) (φ : Nat → Nat) : Prop := (∀ v, v < n → φ v < n) ∧ (∀ u v, u < n → v < n → φ u = φ v → u = v) ∧ (∀ w, w < n → ∃ v, v < n ∧ φ v = w) ∧ ∀ v l, v < n → l < 4 → (la v l = 0 ∧ lb (φ v) l = 0) ∨ (la v l ≠ 0 ∧ la v l ≤ n ∧ lb (φ v) l = φ (la v l - 1) + 1)
theorem iso_len (ha : allB M) (lc : lastC M T) (g : numV M cr) (bq : bestQ M cr b Q) (vt : vtx M T Ld cl) : Q.length = Ld.length := by
  obtain ⟨f1, f2⟩ := famT ha lc g bq
  have rcb := bq.2.2.1
  have dist : ∀ u v, u < Ld.length → v < Ld.length → cr (Ld.getD u 0) = cr (Ld.getD v 0) → u = v := fun u v hu hv e => by
    have e2 := (numV_iff g (memT lc (vt.2.1 u hu)) (memT lc (vt.2.1 v hv))).mp e
    rcases Nat.lt_trichotomy u v with q | q | q
    · exact absurd e2 (vt.2.2.1 u v q hv)
    · exact q
    · exact absurd (eqv_sym e2) (vt.2.2.1 v u q hu)
  have nd1 : ((List.range Ld.length).map (fun v => cr (Ld.getD v 0) + 1)).Nodup := by
    rw [List.nodup_iff_pairwise_ne, List.pairwise_map]
    refine List.Pairwise.imp_of_mem ?_ (List.pairwise_lt_range (n := Ld.length))
    intro a c ha' hc hac e
    rw [List.mem_range] at ha' hc
    have := dist a c ha' hc (by omega)
    omega
  have same : ∀ P, P ∈ (List.range Ld.length).map (fun v => cr (Ld.getD v 0) + 1) ↔ P ∈ Q := by
    intro P
    constructor
    · intro h
      obtain ⟨v, hv, rfl⟩ := List.mem_map.mp h
      exact f1 _ (vt.2.1 v (List.mem_range.mp hv))
    · intro h
      obtain ⟨R, hR, e⟩ := f2 P h
      obtain ⟨c1, c2⟩ := vt.2.2.2 R hR
      refine List.mem_map.mpr ⟨cl R, List.mem_range.mpr c1, ?_⟩
      rw [← e, (numV_iff g (memT lc hR) (memT lc (vt.2.1 _ c1))).mpr c2]
  have a1 : ¬ Q.length < ((List.range Ld.length).map (fun v => cr (Ld.getD v 0) + 1)).length := fun hlt => by
    apply Classical.byContradiction
    intro _
    have hh := pig2 nd1 rcb.1 (fun x hx => (same x).mp hx)
    omega
  have a2 : ¬ ((List.range Ld.length).map (fun v => cr (Ld.getD v 0) + 1)).length < Q.length := fun hlt => by
    have hh := pig2 rcb.1 nd1 (fun x hx => (same x).mpr hx)
    omega
  rw [List.length_map, List.length_range] at a1 a2
  omega
end ISO
