/-! COVERS: the object splits its classes -/
section SPL
variable {M : Nat → Nat} {h : ZH} {k : Nat} {T Ld : List Nat} {cl : Nat → Nat}
theorem split_ok (hs : Sh h) (au : aut 37 M h) (nd : T.Nodup) (hl : T.length ≤ 255) (t0 : 0 ∉ T) (tc : ∀ S, S ∈ T → ∀ l, l < 4 → ims M S l = 0 ∨ ims M S l ∈ T) (mb : mbI M T h) (g : clsf M k T Ld cl) (h8 : Ld.length ≤ 8) (cH : clH M T cl h) : ∃ h' r, fX0_splitClasses 54 37 h = some (r, h') ∧ zfr [58, 59, 60] h h' ∧ ((∃ Ld' cl', r = nI Ld'.length ∧ Ld'.length ≤ 8 ∧ clsf M (k + 1) T Ld' cl' ∧ clH M T cl' h' ∧ ldH M Ld' h') ∨ (r = nI 9 ∧ ∃ X : List Nat, X.length = 9 ∧ lds M (k + 1) T X)) := by
  have key : wp (fX0_splitClasses 54 37 h) (fun y => zfr [58, 59, 60] h y.2 ∧ ((∃ Ld' cl', y.1 = nI Ld'.length ∧ Ld'.length ≤ 8 ∧ clsf M (k + 1) T Ld' cl' ∧ clH M T cl' y.2 ∧ ldH M Ld' y.2) ∨ (y.1 = nI 9 ∧ ∃ X : List Nat, X.length = 9 ∧ lds M (k + 1) T X))) := by
    unfold fX0_splitClasses
    simp (disch := omega) only [SC (hs), zl_eq, bsm, ZS, ZT, ZN, ZU, eq_self, true_and, and_true, and_self, or_true, true_or, or_false, false_or, not_true, not_false_eq_true, Nat.reduceAdd, Nat.reduceMul, Nat.reduceLT, Nat.reduceLeDiff, Nat.reduceEqDiff, ↓reduceIte, ZQ, Bool.true_eq_false, Bool.false_eq_true, Bool.not_true, Bool.not_false]
    refine wloop (fun i y => y.2.1 = nI i ∧ zfr [59, 60] h y.2.2 ∧ ∃ Ld' f, y.1 = nI (Ld' : List Nat).length ∧ Ld'.length ≤ 8 ∧ lds M (k + 1) T Ld' ∧ ldH M Ld' y.2.2 ∧ ∀ m, m < i → f (T.getD m 0) < Ld'.length ∧ eqk M (k + 1) (T.getD m 0) (Ld'.getD (f (T.getD m 0)) 0) ∧ ∀ j, stt (LL M) j (T.getD m 0) → zI y.2.2 59 j = nI (f (T.getD m 0))) T.length (fun i y self hi hy ih => ?_) (show T.length < 100000 by omega) ⟨rfl, zfr.refl h, [], fun _ => 0, rfl, by decide, ⟨(fun v hv => by cases hv), (fun u v _ hv => by cases hv)⟩, (fun v hv => by cases hv), (fun m hm => by omega)⟩
    obtain ⟨y1, y2, h1⟩ := y
    obtain ⟨rfl, p1, L1, f, rfl, l8, ld1, lh1, fi⟩ := hy
    dsimp only at p1 lh1 fi
    have hs1 := p1.shp hs
    have mb1 := mb.fr p1 (by decide) (by decide)
    have cH1 := cH.fr p1 (by decide)
    have au1 : aut 37 M h1 := subOK.fr p1 (by decide) (by decide) (by decide) (by decide) (by decide) au
    have e54 := mb1.1
    show wp (kX0_splitClasses_4 54 37 self (nI L1.length) (nI i) h1) _
    unfold kX0_splitClasses_4
    by_cases hlt : i < T.length
    · obtain ⟨j, ej, sj⟩ := mb1.2 i hlt
      have bj := (stt255 sj).1
      have hmem : T.getD i 0 ∈ T := getD_mem hlt
      simp (disch := omega) only [e54, Nat.not_le.mpr hlt, SC (hs1), zl_eq, bsm, ZS, ZT, ZN, ZU, eq_self, true_and, and_true, and_self, or_true, true_or, or_false, false_or, not_true, not_false_eq_true, Nat.reduceAdd, Nat.reduceMul, Nat.reduceLT, Nat.reduceLeDiff, Nat.reduceEqDiff, ↓reduceIte, ZQ, Bool.true_eq_false, Bool.false_eq_true, Bool.not_true, Bool.not_false]
      -- a member finds its class
      have done : ∀ (L2 : List Nat) (v : Nat) (h2 : ZH), zfr [60] h1 h2 → L2.length ≤ 8 → lds M (k + 1) T L2 → ldH M L2 h2 → (∀ u, u < L1.length → L2.getD u 0 = L1.getD u 0) → L1.length ≤ L2.length → v < L2.length → eqk M (k + 1) (T.getD i 0) (L2.getD v 0) → wp (bX0_splitClasses_79 self 54 37 (nI L2.length) (nI i) (nI v) h2) (fun y => zfr [58, 59, 60] h y.2 ∧ ((∃ Ld' cl', y.1 = nI Ld'.length ∧ Ld'.length ≤ 8 ∧ clsf M (k + 1) T Ld' cl' ∧ clH M T cl' y.2 ∧ ldH M Ld' y.2) ∨ (y.1 = nI 9 ∧ ∃ X : List Nat, X.length = 9 ∧ lds M (k + 1) T X))) := by
        intro L2 v h2 p2 l82 ld2 lh2 same hle hv he
        have hs2 := p2.shp hs1
        have ej2 : zI h2 55 i = nI j := by rw [p2.I (by decide)]; exact ej
        unfold bX0_splitClasses_79
        simp (disch := omega) only [ej2, SC (hs2), zl_eq, bsm, ZS, ZT, ZN, ZU, eq_self, true_and, and_true, and_self, or_true, true_or, or_false, false_or, not_true, not_false_eq_true, Nat.reduceAdd, Nat.reduceMul, Nat.reduceLT, Nat.reduceLeDiff, Nat.reduceEqDiff, ↓reduceIte, ZQ, Bool.true_eq_false, Bool.false_eq_true, Bool.not_true, Bool.not_false]
        refine ih _ hlt ⟨rfl, (p1.same (p2.mono (by decide))).same (zfr_uI.mono (by decide)), L2, upM f (T.getD i 0) v, rfl, l82, ld2, lh2.fr zfr_uI (by decide), fun m hm => ?_⟩
        by_cases e : m = i
        · rw [e]
          unfold upM
          rw [if_pos rfl]
          refine ⟨hv, he, fun j' sj' => ?_⟩
          have := (stt_eq sj' sj).mpr rfl
          dsimp only [zI_zsI]
          rw [this, zu_at, if_pos rfl]
        · have hne : T.getD m 0 ≠ T.getD i 0 := fun z => e (getD_inj nd (by omega) hlt z)
          obtain ⟨f1, f2, f3⟩ := fi m (by omega)
          unfold upM
          rw [if_neg hne]
          refine ⟨by omega, by rw [same _ f1]; exact f2, fun j' sj' => ?_⟩
          have hjj : j' ≠ j := fun z => hne ((stt_eq sj' sj).mp z)
          dsimp only [zI_zsI]
          rw [zu_at, if_neg hjj, p2.I (by decide)]
          exact f3 j' sj'
      refine wloop (fun v y => y = (nI v, h1) ∧ ∀ u, u < v → ¬ eqk M (k + 1) (T.getD i 0) (L1.getD u 0)) L1.length (fun v y self2 hv hy ih2 => ?_) (show L1.length < 100000 by omega) ⟨rfl, fun u hu => by omega⟩
      obtain ⟨rfl, no⟩ := hy
      show wp (kX0_splitClasses_15 self 54 37 (nI L1.length) (nI i) self2 (nI v) h1) _
      unfold kX0_splitClasses_15
      by_cases hvl : v < L1.length
      · obtain ⟨j2, e2, s2⟩ := lh1 v hvl
        have b2 := (stt255 s2).1
        obtain ⟨b, eb, hb⟩ := alike_ok hs1 au1 g h8 t0 cH1 tc sj s2 hmem (ld1.1 v hvl)
        cases hbb : b with
        | true =>
          rw [hbb, Bool.toNat_true] at eb
          simp (disch := omega) only [Nat.not_le.mpr hvl, ej, e2, eb, SC (hs1), zl_eq, bsm, ZS, ZT, ZN, ZU, eq_self, true_and, and_true, and_self, or_true, true_or, or_false, false_or, not_true, not_false_eq_true, Nat.reduceAdd, Nat.reduceMul, Nat.reduceLT, Nat.reduceLeDiff, Nat.reduceEqDiff, ↓reduceIte, ZQ, Bool.true_eq_false, Bool.false_eq_true, Bool.not_true, Bool.not_false]
          unfold bX0_splitClasses_48
          simp (disch := omega) only [show ¬ (v = 8) by omega, show ¬ (v = L1.length) by omega, SC (hs1), zl_eq, bsm, ZS, ZT, ZN, ZU, eq_self, true_and, and_true, and_self, or_true, true_or, or_false, false_or, not_true, not_false_eq_true, Nat.reduceAdd, Nat.reduceMul, Nat.reduceLT, Nat.reduceLeDiff, Nat.reduceEqDiff, ↓reduceIte, ZQ, Bool.true_eq_false, Bool.false_eq_true, Bool.not_true, Bool.not_false]
          exact done L1 v h1 (zfr.refl h1) l8 ld1 lh1 (fun _ _ => rfl) (Nat.le_refl _) hvl (hb.mp hbb)
        | false =>
          rw [hbb, Bool.toNat_false] at eb
          simp (disch := omega) only [Nat.not_le.mpr hvl, ej, e2, eb, SC (hs1), zl_eq, bsm, ZS, ZT, ZN, ZU, eq_self, true_and, and_true, and_self, or_true, true_or, or_false, false_or, not_true, not_false_eq_true, Nat.reduceAdd, Nat.reduceMul, Nat.reduceLT, Nat.reduceLeDiff, Nat.reduceEqDiff, ↓reduceIte, ZQ, Bool.true_eq_false, Bool.false_eq_true, Bool.not_true, Bool.not_false]
          refine ih2 _ hvl ⟨rfl, fun u hu => ?_⟩
          by_cases e : u = v
          · rw [e]
            exact fun z => by rw [hb.mpr z] at hbb; cases hbb
          · exact no u (by omega)
      · have hve : v = L1.length := by omega
        rw [hve] at no ⊢
        have ldn : lds M (k + 1) T (L1 ++ [T.getD i 0]) := by
          refine ⟨fun u hu => ?_, fun a b hab hb e => ?_⟩
          · rw [List.length_append] at hu
            have hu' : u < L1.length + 1 := hu
            by_cases e : u = L1.length
            · rw [e, getD_r]; exact hmem
            · rw [getD_l (by omega)]; exact ld1.1 u (by omega)
          · rw [List.length_append] at hb
            have hb' : b < L1.length + 1 := hb
            rw [getD_l (show a < L1.length by omega)] at e
            by_cases eb : b = L1.length
            · rw [eb, getD_r] at e
              exact no a (by omega) (eqk_sym e)
            · rw [getD_l (by omega)] at e
              exact ld1.2 a b hab (by omega) e
        have hlen : (L1 ++ [T.getD i 0]).length = L1.length + 1 := by rw [List.length_append]; rfl
        unfold bX0_splitClasses_48
        by_cases e8 : L1.length = 8
        · simp (disch := omega) only [Nat.le_refl, eq_true e8, SC (hs1), zl_eq, bsm, ZS, ZT, ZN, ZU, eq_self, true_and, and_true, and_self, or_true, true_or, or_false, false_or, not_true, not_false_eq_true, Nat.reduceAdd, Nat.reduceMul, Nat.reduceLT, Nat.reduceLeDiff, Nat.reduceEqDiff, ↓reduceIte, ZQ, Bool.true_eq_false, Bool.false_eq_true, Bool.not_true, Bool.not_false]
          exact wp_some ⟨p1.mono (by decide), Or.inr ⟨rfl, L1 ++ [T.getD i 0], by omega, ldn⟩⟩
        · simp (disch := omega) only [Nat.le_refl, eq_false e8, ej, SC (hs1), zl_eq, bsm, ZS, ZT, ZN, ZU, eq_self, true_and, and_true, and_self, or_true, true_or, or_false, false_or, not_true, not_false_eq_true, Nat.reduceAdd, Nat.reduceMul, Nat.reduceLT, Nat.reduceLeDiff, Nat.reduceEqDiff, ↓reduceIte, ZQ, Bool.true_eq_false, Bool.false_eq_true, Bool.not_true, Bool.not_false]
          have dn := done (L1 ++ [T.getD i 0]) L1.length (zsI h1 (zu (zI h1) 60 L1.length (nI j))) zfr_uI (by omega) ldn ?_ (fun u hu => getD_l hu) (by omega) (by omega) (by rw [getD_r]; exact eqk_rfl)
          · rw [hlen] at dn
            exact dn
          · intro u hu
            rw [hlen] at hu
            dsimp only [zI_zsI]
            rw [zu_at]
            by_cases e : u = L1.length
            · rw [if_pos e, e, getD_r]; exact ⟨j, rfl, sj⟩
            · rw [if_neg e, getD_l (by omega)]; exact lh1 u (by omega)
    · have hie : i = T.length := by omega
      subst hie
      simp (disch := omega) only [e54, Nat.le_refl, SC (hs1), zl_eq, bsm, ZS, ZT, ZN, ZU, eq_self, true_and, and_true, and_self, or_true, true_or, or_false, false_or, not_true, not_false_eq_true, Nat.reduceAdd, Nat.reduceMul, Nat.reduceLT, Nat.reduceLeDiff, Nat.reduceEqDiff, ↓reduceIte, ZQ, Bool.true_eq_false, Bool.false_eq_true, Bool.not_true, Bool.not_false]
      refine wloop (fun m y => y.1 = nI m ∧ zfr [58] h1 y.2 ∧ (∀ m', m' < m → ∀ j, stt (LL M) j (T.getD m' 0) → zI y.2 58 j = nI (f (T.getD m' 0))) ∧ ∀ j S, stt (LL M) j S → S ∉ T → zI y.2 58 j = -1) T.length (fun m y self2 hm hy ih2 => ?_) (show T.length < 100000 by omega) ⟨rfl, zfr.refl h1, (fun m' hm' => by omega), (fun j S st hn => by rw [cH1 j S st, if_neg hn])⟩
      obtain ⟨y1, h2⟩ := y
      obtain ⟨rfl, p2, c2, n2⟩ := hy
      dsimp only at p2 c2 n2
      have hs2 := p2.shp hs1
      have e54' : zI h2 54 1 = nI T.length := by rw [p2.I (by decide)]; exact e54
      show wp (kX0_splitClasses_100 54 (nI L1.length) self2 (nI m) h2) _
      unfold kX0_splitClasses_100
      by_cases hml : m < T.length
      · obtain ⟨j, ej, sj⟩ := mb1.2 m hml
        have bj := (stt255 sj).1
        have ej2 : zI h2 55 m = nI j := by rw [p2.I (by decide)]; exact ej
        obtain ⟨f1, f2, f3⟩ := fi m hml
        have ef : zI h2 59 j = nI (f (T.getD m 0)) := by rw [p2.I (by decide)]; exact f3 j sj
        have hmem : T.getD m 0 ∈ T := getD_mem hml
        simp (disch := omega) only [e54', Nat.not_le.mpr hml, ej2, ef, SC (hs2), zl_eq, bsm, ZS, ZT, ZN, ZU, eq_self, true_and, and_true, and_self, or_true, true_or, or_false, false_or, not_true, not_false_eq_true, Nat.reduceAdd, Nat.reduceMul, Nat.reduceLT, Nat.reduceLeDiff, Nat.reduceEqDiff, ↓reduceIte, ZQ, Bool.true_eq_false, Bool.false_eq_true, Bool.not_true, Bool.not_false]
        refine ih2 _ hml ⟨rfl, p2.same zfr_uI, fun m' hm' j' sj' => ?_, fun j' S sj' hn => ?_⟩
        · dsimp only [zI_zsI]
          rw [zu_at]
          by_cases e : m' = m
          · rw [e] at sj' ⊢
            rw [if_pos ((stt_eq sj' sj).mpr rfl)]
          · have hne : T.getD m' 0 ≠ T.getD m 0 := fun z => e (getD_inj nd (by omega) hml z)
            rw [if_neg (fun z => hne ((stt_eq sj' sj).mp z))]
            exact c2 m' (by omega) j' sj'
        · have hne : S ≠ T.getD m 0 := fun z => hn (by rw [z]; exact hmem)
          dsimp only [zI_zsI]
          rw [zu_at, if_neg (fun z => hne ((stt_eq sj' sj).mp z))]
          exact n2 j' S sj' hn
      · have hme : m = T.length := by omega
        subst hme
        simp (disch := omega) only [e54', Nat.le_refl, SC (hs2), zl_eq, bsm, ZS, ZT, ZN, ZU, eq_self, true_and, and_true, and_self, or_true, true_or, or_false, false_or, not_true, not_false_eq_true, Nat.reduceAdd, Nat.reduceMul, Nat.reduceLT, Nat.reduceLeDiff, Nat.reduceEqDiff, ↓reduceIte, ZQ, Bool.true_eq_false, Bool.false_eq_true, Bool.not_true, Bool.not_false]
        refine wp_some ⟨(p1.trans p2).mono (by decide), Or.inl ⟨L1, f, rfl, l8, ⟨ld1, fun S hS => ?_⟩, fun j S st => ?_, lh1.fr p2 (by decide)⟩⟩
        · obtain ⟨m, hm, em⟩ := mem_getD hS
          obtain ⟨f1, f2, -⟩ := fi m hm
          rw [em] at f1 f2
          exact ⟨f1, f2⟩
        · by_cases hS : S ∈ T
          · rw [if_pos hS]
            obtain ⟨m, hm, em⟩ := mem_getD hS
            have := c2 m hm j (by rw [em]; exact st)
            rw [em] at this
            exact this
          · rw [if_neg hS]; exact n2 j S st hS
  obtain ⟨⟨r, h'⟩, e, q⟩ := key
  exact ⟨h', r, e, q⟩
end SPL
