/-! COVERS: classes of like followers, the object's -/
def lds (M : Nat → Nat) (k : Nat) (T Ld : List Nat) : Prop := (∀ v, v < Ld.length → Ld.getD v 0 ∈ T) ∧ ∀ u v, u < v → v < Ld.length → ¬ eqk M k (Ld.getD u 0) (Ld.getD v 0)
def clsf (M : Nat → Nat) (k : Nat) (T Ld : List Nat) (cl : Nat → Nat) : Prop := lds M k T Ld ∧ ∀ S, S ∈ T → cl S < Ld.length ∧ eqk M k S (Ld.getD (cl S) 0)
section CL
variable {M : Nat → Nat} {k : Nat} {T Ld : List Nat} {cl : Nat → Nat}
theorem clsf_iff (g : clsf M k T Ld cl) {S R : Nat} (hS : S ∈ T) (hR : R ∈ T) : cl S = cl R ↔ eqk M k S R := by
  obtain ⟨s1, s2⟩ := g.2 S hS
  obtain ⟨r1, r2⟩ := g.2 R hR
  constructor
  · intro e
    rw [e] at s2
    exact eqk_tr s2 (eqk_sym r2)
  · intro e
    have h := eqk_tr (eqk_sym s2) (eqk_tr e r2)
    rcases Nat.lt_trichotomy (cl S) (cl R) with q | q | q
    · exact absurd h (g.1.2 _ _ q r1)
    · exact q
    · exact absurd (eqk_sym h) (g.1.2 _ _ q s1)
theorem pig {X : List Nat} {c : Nat} (hn : X.Nodup) (hb : ∀ x, x ∈ X → x < c) : X.length ≤ c := by
  have h1 := cnt_list (n := c) hn hb
  have h2 := cnt_le (fun k => decide (k ∈ X)) c
  omega
/-- members that are told apart are no more than the classes -/
theorem lds_le {Ld2 : List Nat} (g : clsf M k T Ld cl) (g2 : lds M k T Ld2) : Ld2.length ≤ Ld.length := by
  have h := pig (X := (List.range Ld2.length).map (fun v => cl (Ld2.getD v 0))) (c := Ld.length) ?_ ?_
  · rw [List.length_map, List.length_range] at h
    exact h
  · rw [List.nodup_iff_pairwise_ne, List.pairwise_map]
    refine List.Pairwise.imp_of_mem ?_ (List.pairwise_lt_range (n := Ld2.length))
    intro a b ha hb hab e
    rw [List.mem_range] at ha hb
    exact g2.2 a b hab hb ((clsf_iff g (g2.1 a ha) (g2.1 b hb)).mp e)
  · intro x hx
    obtain ⟨v, hv, rfl⟩ := List.mem_map.mp hx
    rw [List.mem_range] at hv
    exact (g.2 _ (g2.1 v hv)).1
theorem lds_up (g : lds M k T Ld) : lds M (k + 1) T Ld := ⟨g.1, fun u v h1 h2 e => g.2 u v h1 h2 (eqk_dn e)⟩
/-- as many classes as before: nothing was split -/
theorem clsf_stop {Ld2 : List Nat} {cl2 : Nat → Nat} (g : clsf M k T Ld cl) (g2 : clsf M (k + 1) T Ld2 cl2) (hl : Ld2.length = Ld.length) : ∀ S R, S ∈ T → R ∈ T → eqk M k S R → eqk M (k + 1) S R := by
  intro S R hS hR h
  apply Classical.byContradiction
  intro hn
  -- one class is two
  have hsr := (clsf_iff g hS hR).mpr h
  obtain ⟨c1, -⟩ := g.2 S hS
  have hX := pig (X := cl2 S :: cl2 R :: ((List.range Ld.length).filter (fun v => !decide (v = cl S))).map (fun v => cl2 (Ld.getD v 0))) (c := Ld2.length) ?_ ?_
  · have hf : ((List.range Ld.length).filter (fun v => !decide (v = cl S))).length + 1 = Ld.length := by
      have h1 := cnt_list (L := cl S :: (List.range Ld.length).filter (fun v => !decide (v = cl S))) (n := Ld.length) (List.nodup_cons.mpr ⟨(fun q => by
        have := (List.mem_filter.mp q).2
        rw [decide_eq_true rfl] at this
        cases this), List.Pairwise.filter _ List.nodup_range⟩) (fun x hx => by
        rcases List.mem_cons.mp hx with e | e
        · rw [e]; exact c1
        · exact List.mem_range.mp (List.mem_filter.mp e).1)
      have h2 : ∀ x, x < Ld.length → decide (x ∈ cl S :: (List.range Ld.length).filter (fun v => !decide (v = cl S))) = true := fun x hx => by
        refine decide_eq_true ?_
        by_cases e : x = cl S
        · rw [e]; exact List.mem_cons_self
        · exact List.mem_cons_of_mem _ (List.mem_filter.mpr ⟨List.mem_range.mpr hx, by rw [decide_eq_false e]; rfl⟩)
      have h3 : ∀ n, n ≤ Ld.length → cnt (fun x => decide (x ∈ cl S :: (List.range Ld.length).filter (fun v => !decide (v = cl S)))) n = n := by
        intro n
        induction n with
        | zero => intro _; rfl
        | succ n ih =>
          intro hn
          rw [cnt_one (h2 n (by omega)), ih (by omega)]
      rw [h3 _ (Nat.le_refl _), List.length_cons] at h1
      exact h1.symm
    rw [List.length_cons, List.length_cons, List.length_map] at hX
    omega
  · have ne2 : ∀ v, v < Ld.length → v ≠ cl S → ∀ Q, Q ∈ T → cl Q = cl S → cl2 Q ≠ cl2 (Ld.getD v 0) := by
      intro v hv hne Q hQ hQS e
      have e1 := eqk_dn ((clsf_iff g2 hQ (g.1.1 v hv)).mp e)
      have e2 := (clsf_iff g hQ (g.1.1 v hv)).mpr e1
      obtain ⟨d1, d2⟩ := g.2 _ (g.1.1 v hv)
      have : cl (Ld.getD v 0) = v := by
        rcases Nat.lt_trichotomy (cl (Ld.getD v 0)) v with q | q | q
        · exact absurd (eqk_sym d2) (g.1.2 _ _ q hv)
        · exact q
        · exact absurd d2 (g.1.2 _ _ q d1)
      rw [this, hQS] at e2
      exact hne e2.symm
    refine List.nodup_cons.mpr ⟨fun q => ?_, List.nodup_cons.mpr ⟨fun q => ?_, ?_⟩⟩
    · rcases List.mem_cons.mp q with e | e
      · exact hn ((clsf_iff g2 hS hR).mp e)
      · obtain ⟨v, hv, e⟩ := List.mem_map.mp e
        obtain ⟨v1, v2⟩ := List.mem_filter.mp hv
        exact ne2 v (List.mem_range.mp v1) (fun z => by rw [decide_eq_true z] at v2; cases v2) S hS rfl e.symm
    · obtain ⟨v, hv, e⟩ := List.mem_map.mp q
      obtain ⟨v1, v2⟩ := List.mem_filter.mp hv
      exact ne2 v (List.mem_range.mp v1) (fun z => by rw [decide_eq_true z] at v2; cases v2) R hR hsr.symm e.symm
    · rw [List.nodup_iff_pairwise_ne, List.pairwise_map]
      refine List.Pairwise.imp_of_mem ?_ (List.Pairwise.filter _ (List.pairwise_lt_range (n := Ld.length)))
      intro a b ha hb hab e
      have ha' := List.mem_range.mp (List.mem_filter.mp ha).1
      have hb' := List.mem_range.mp (List.mem_filter.mp hb).1
      exact g.1.2 a b hab hb' (eqk_dn ((clsf_iff g2 (g.1.1 a ha') (g.1.1 b hb')).mp e))
  · intro x hx
    rcases List.mem_cons.mp hx with e | e
    · rw [e]; exact (g2.2 S hS).1
    · rcases List.mem_cons.mp e with e | e
      · rw [e]; exact (g2.2 R hR).1
      · obtain ⟨v, hv, rfl⟩ := List.mem_map.mp e
        exact (g2.2 _ (g.1.1 v (List.mem_range.mp (List.mem_filter.mp hv).1))).1
end CL
/-! in the object -/
def alk (M : Nat → Nat) (k S R n : Nat) : Prop := ∀ l, l < n → eqk M k (ims M S l) (ims M R l)
def clH (M : Nat → Nat) (T : List Nat) (cl : Nat → Nat) (h : ZH) : Prop := ∀ j S, stt (LL M) j S → zI h 58 j = if S ∈ T then nI (cl S) else -1
def ldH (M : Nat → Nat) (Ld : List Nat) (h : ZH) : Prop := ∀ v, v < Ld.length → ∃ j, zI h 60 v = nI j ∧ stt (LL M) j (Ld.getD v 0)
section CH
variable {M : Nat → Nat} {h : ZH} {k : Nat} {T Ld : List Nat} {cl : Nat → Nat}
theorem clH.fr {h' : ZH} {A : List Nat} (p : zfr A h h') (h1 : 58 ∉ A) (g : clH M T cl h) : clH M T cl h' := fun j S st => by rw [p.I h1]; exact g j S st
theorem ldH.fr {h' : ZH} {A : List Nat} (p : zfr A h h') (h1 : 60 ∉ A) (g : ldH M Ld h) : ldH M Ld h' := fun v hv => by rw [p.I h1]; exact g v hv
/-- the numbers tell whether two sets of the part are alike -/
theorem clN (g : clsf M k T Ld cl) (h8 : Ld.length ≤ 8) (t0 : 0 ∉ T) {S R : Nat} (hS : S = 0 ∨ S ∈ T) (hR : R = 0 ∨ R ∈ T) : ((if S ∈ T then nI (cl S) else (-1 : Int32)) = if R ∈ T then nI (cl R) else -1) ↔ eqk M k S R := by
  have nm : ∀ Q, Q ∈ T → nI (cl Q) ≠ (-1 : Int32) := fun Q hQ e => by
    have := (g.2 Q hQ).1
    rw [nm1 (by omega)] at e
    exact e
  rcases hS with rfl | hS
  · rcases hR with rfl | hR
    · exact ⟨fun _ => eqk_rfl, fun _ => rfl⟩
    · rw [if_neg t0, if_pos hR]
      constructor
      · intro e; exact absurd e.symm (nm R hR)
      · intro e
        exact absurd rfl ((e [] lts_nil (Nat.zero_le _)).mpr (fun z => t0 (by rw [← show R = 0 from z]; exact hR)))
  · rcases hR with rfl | hR
    · rw [if_pos hS, if_neg t0]
      constructor
      · intro e; exact absurd e (nm S hS)
      · intro e
        exact absurd rfl ((e [] lts_nil (Nat.zero_le _)).mp (fun z => t0 (by rw [← show S = 0 from z]; exact hS)))
    · have b1 := (g.2 S hS).1
      have b2 := (g.2 R hR).1
      rw [if_pos hS, if_pos hR, nI_eq (by omega) (by omega)]
      exact clsf_iff g hS hR
theorem classOf_ok (hs : Sh h) (t0 : 0 ∉ T) (cH : clH M T cl h) {j S : Nat} (st : stt (LL M) j S) : fX0_classOf 54 (nI j) h = some ((if S ∈ T then nI (cl S) else -1), h) := by
  have b := stt255 st
  have v := cH j S st
  unfold fX0_classOf bX0_classOf_20 bX0_classOf_21
  by_cases h0 : j = 255
  · have hS : S = 0 := b.2.mp h0
    rw [hS, if_neg t0, h0]
    simp (disch := omega) only [Nat.le_refl, SC (hs), zl_eq, bsm, ZS, ZT, ZN, ZU, eq_self, true_and, and_true, and_self, or_true, true_or, or_false, false_or, not_true, not_false_eq_true, Nat.reduceAdd, Nat.reduceMul, Nat.reduceLT, Nat.reduceLeDiff, Nat.reduceEqDiff, ↓reduceIte, ZQ, Bool.true_eq_false, Bool.false_eq_true, Bool.not_true, Bool.not_false]
  · rw [← v]
    simp (disch := omega) only [show ¬ (255 ≤ j) by omega, SC (hs), zl_eq, bsm, ZS, ZT, ZN, ZU, eq_self, true_and, and_true, and_self, or_true, true_or, or_false, false_or, not_true, not_false_eq_true, Nat.reduceAdd, Nat.reduceMul, Nat.reduceLT, Nat.reduceLeDiff, Nat.reduceEqDiff, ↓reduceIte, ZQ, Bool.true_eq_false, Bool.false_eq_true, Bool.not_true, Bool.not_false]
theorem alike_ok (hs : Sh h) (au : aut 37 M h) (g : clsf M k T Ld cl) (h8 : Ld.length ≤ 8) (t0 : 0 ∉ T) (cH : clH M T cl h) (tc : ∀ S, S ∈ T → ∀ l, l < 4 → ims M S l = 0 ∨ ims M S l ∈ T) {i j S R : Nat} (hi : stt (LL M) i S) (hj : stt (LL M) j R) (hS : S ∈ T) (hR : R ∈ T) : ∃ b : Bool, fX0_leadAlike 54 37 (nI i) (nI j) h = some (nI b.toNat, h) ∧ (b = true ↔ eqk M (k + 1) S R) := by
  classical
  have bi := (stt255 hi).1
  have bj := (stt255 hj).1
  have key : ∀ f : Bool, bX0_leadAlike_18 54 37 (nI i) (nI j) (nI f.toNat) h = some (nI (f && decide (alk M k S R 4)).toNat, h) := by
    intro f
    have kk : wp (bX0_leadAlike_18 54 37 (nI i) (nI j) (nI f.toNat) h) (fun y => y = (nI (f && decide (alk M k S R 4)).toNat, h)) := by
      unfold bX0_leadAlike_18
      refine wloop (fun l y => y = (nI (f && decide (alk M k S R l)).toNat, nI l, h)) 4 (fun l y self hl hy ih => ?_) (by decide) (by rw [decide_eq_true (show alk M k S R 0 from fun l' hl' => by omega), Bool.and_true])
      subst hy
      show wp (kX0_leadAlike_23 54 37 (nI i) (nI j) self (nI (f && decide (alk M k S R l)).toNat) (nI l) h) _
      unfold kX0_leadAlike_23 bX0_leadAlike_72 bX0_leadAlike_64
      by_cases hl4 : l < 4
      · cases hc : (f && decide (alk M k S R l)) with
        | false =>
          have hfin : (f && decide (alk M k S R 4)) = false := by
            rw [Bool.and_eq_false_iff] at hc ⊢
            rcases hc with q | q
            · exact Or.inl q
            · exact Or.inr (decide_eq_false (fun z => of_decide_eq_false q (fun l' hl' => z l' (by omega))))
          rw [hfin]
          simp (disch := omega) only [Nat.not_le.mpr hl4, Bool.toNat_false, SC (hs), zl_eq, bsm, ZS, ZT, ZN, ZU, eq_self, true_and, and_true, and_self, or_true, true_or, or_false, false_or, not_true, not_false_eq_true, Nat.reduceAdd, Nat.reduceMul, Nat.reduceLT, Nat.reduceLeDiff, Nat.reduceEqDiff, ↓reduceIte, ZQ, Bool.true_eq_false, Bool.false_eq_true, Bool.not_true, Bool.not_false]
          exact wp_some rfl
        | true =>
          rw [Bool.and_eq_true] at hc
          obtain ⟨ka, ea, sa⟩ := afterC hs au hi hl4
          obtain ⟨kb, eb, sb'⟩ := afterC hs au hj hl4
          have va := classOf_ok hs t0 cH sa
          have vb := classOf_ok hs t0 cH sb'
          have ba := (stt255 sa).1
          have bb := (stt255 sb').1
          have cc := clN g h8 t0 (tc S hS l hl4) (tc R hR l hl4)
          generalize (if ims M S l ∈ T then nI (cl (ims M S l)) else (-1 : Int32)) = xa at va cc
          generalize (if ims M R l ∈ T then nI (cl (ims M R l)) else (-1 : Int32)) = xb at vb cc
          by_cases e : xa = xb
          · simp (disch := omega) only [Nat.not_le.mpr hl4, Bool.toNat_true, ea, eb, va, vb, eq_true e, SC (hs), zl_eq, bsm, ZS, ZT, ZN, ZU, eq_self, true_and, and_true, and_self, or_true, true_or, or_false, false_or, not_true, not_false_eq_true, Nat.reduceAdd, Nat.reduceMul, Nat.reduceLT, Nat.reduceLeDiff, Nat.reduceEqDiff, ↓reduceIte, ZQ, Bool.true_eq_false, Bool.false_eq_true, Bool.not_true, Bool.not_false]
            refine ih _ hl4 ?_
            rw [hc.1, Bool.true_and, decide_eq_true (show alk M k S R (l + 1) from fun l' hl' => by
              by_cases q : l' = l
              · rw [q]; exact cc.mp e
              · exact of_decide_eq_true hc.2 l' (by omega)), Bool.toNat_true]
          · simp (disch := omega) only [Nat.not_le.mpr hl4, Bool.toNat_true, ea, eb, va, vb, eq_false e, SC (hs), zl_eq, bsm, ZS, ZT, ZN, ZU, eq_self, true_and, and_true, and_self, or_true, true_or, or_false, false_or, not_true, not_false_eq_true, Nat.reduceAdd, Nat.reduceMul, Nat.reduceLT, Nat.reduceLeDiff, Nat.reduceEqDiff, ↓reduceIte, ZQ, Bool.true_eq_false, Bool.false_eq_true, Bool.not_true, Bool.not_false]
            refine ih _ hl4 ?_
            rw [decide_eq_false (show ¬ alk M k S R (l + 1) from fun z => e (cc.mpr (z l (by omega)))), Bool.and_false, Bool.toNat_false]
      · have : l = 4 := by omega
        subst this
        cases hc : (f && decide (alk M k S R 4)) with
        | false =>
          simp (disch := omega) only [Nat.le_refl, Bool.toNat_false, SC (hs), zl_eq, bsm, ZS, ZT, ZN, ZU, eq_self, true_and, and_true, and_self, or_true, true_or, or_false, false_or, not_true, not_false_eq_true, Nat.reduceAdd, Nat.reduceMul, Nat.reduceLT, Nat.reduceLeDiff, Nat.reduceEqDiff, ↓reduceIte, ZQ, Bool.true_eq_false, Bool.false_eq_true, Bool.not_true, Bool.not_false]
          exact wp_some rfl
        | true =>
          simp (disch := omega) only [Nat.le_refl, Bool.toNat_true, SC (hs), zl_eq, bsm, ZS, ZT, ZN, ZU, eq_self, true_and, and_true, and_self, or_true, true_or, or_false, false_or, not_true, not_false_eq_true, Nat.reduceAdd, Nat.reduceMul, Nat.reduceLT, Nat.reduceLeDiff, Nat.reduceEqDiff, ↓reduceIte, ZQ, Bool.true_eq_false, Bool.false_eq_true, Bool.not_true, Bool.not_false]
          exact wp_some rfl
    obtain ⟨y, e, rfl⟩ := kk
    exact e
  have v1 := classOf_ok hs t0 cH hi
  have v2 := classOf_ok hs t0 cH hj
  have cc := clN g h8 t0 (Or.inr hS) (Or.inr hR)
  generalize (if S ∈ T then nI (cl S) else (-1 : Int32)) = xa at v1 cc
  generalize (if R ∈ T then nI (cl R) else (-1 : Int32)) = xb at v2 cc
  have nz : S ≠ 0 ∧ R ≠ 0 := ⟨fun z => t0 (by rw [← z]; exact hS), fun z => t0 (by rw [← z]; exact hR)⟩
  by_cases e : xa = xb
  · refine ⟨decide (alk M k S R 4), ?_, ?_⟩
    · have kt := key true
      rw [Bool.true_and, Bool.toNat_true] at kt
      unfold fX0_leadAlike
      simp (disch := omega) only [v1, v2, eq_true e, SC (hs), zl_eq, bsm, ZS, ZT, ZN, ZU, eq_self, true_and, and_true, and_self, or_true, true_or, or_false, false_or, not_true, not_false_eq_true, Nat.reduceAdd, Nat.reduceMul, Nat.reduceLT, Nat.reduceLeDiff, Nat.reduceEqDiff, ↓reduceIte, ZQ, Bool.true_eq_false, Bool.false_eq_true, Bool.not_true, Bool.not_false]
      exact kt
    · rw [decide_eq_true_iff, eqk_s]
      exact ⟨fun z => ⟨⟨fun _ => nz.2, fun _ => nz.1⟩, z⟩, fun z => z.2⟩
  · refine ⟨false, ?_, ?_⟩
    · have kf := key false
      rw [Bool.false_and, Bool.toNat_false] at kf
      unfold fX0_leadAlike
      simp (disch := omega) only [v1, v2, eq_false e, SC (hs), zl_eq, bsm, ZS, ZT, ZN, ZU, eq_self, true_and, and_true, and_self, or_true, true_or, or_false, false_or, not_true, not_false_eq_true, Nat.reduceAdd, Nat.reduceMul, Nat.reduceLT, Nat.reduceLeDiff, Nat.reduceEqDiff, ↓reduceIte, ZQ, Bool.true_eq_false, Bool.false_eq_true, Bool.not_true, Bool.not_false]
      exact kf
    · constructor
      · intro z; cases z
      · intro z
        exact absurd (cc.mpr (eqk_dn z)) e
end CH
