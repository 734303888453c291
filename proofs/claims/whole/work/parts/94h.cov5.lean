/-! COVERS: the object splits its classes -/
section SPL
variable {M : Nat → Nat} {h : ZH} {k : Nat} {T Ld : List Nat} {cl : Nat → Nat}
theorem cp255 (hs : Sh h) : zcpI h 59 58 (nI 0) (nI 0) (nI 255) = some (zsI h (zrow (zI h) 58 (va_cpy (zI h 59) (zI h 58) 0 0 255))) := by
  have a := A59 hs
  have b := A58 hs
  unfold zcpI
  rw [if_pos ⟨⟨⟨a.1, a.2.1⟩, b.1, b.2.1⟩, ⟨by decide, by decide, by decide⟩, by rw [a.2.2]; decide, by rw [b.2.2]; decide⟩]
  rfl
theorem split_ok (hs : Sh h) (au : aut 37 M h) (t0 : 0 ∉ T) (tc : ∀ S, S ∈ T → ∀ l, l < 4 → ims M S l = 0 ∨ ims M S l ∈ T) (hT : ∀ S, S ∈ T → S ∈ LL M) (mb : mbI M T h) (g : clsf M k T Ld cl) (h8 : Ld.length ≤ 8) (cH : clH M T cl h) : ∃ h' r, fX0_splitClasses 54 37 h = some (r, h') ∧ zfr [58, 59, 60] h h' ∧ ((∃ Ld' cl', r = nI Ld'.length ∧ Ld'.length ≤ 8 ∧ clsf M (k + 1) T Ld' cl' ∧ clH M T cl' h' ∧ ldH M Ld' h') ∨ (r = nI 9 ∧ ∃ X : List Nat, X.length = 9 ∧ lds M (k + 1) T X)) := by
  have key : wp (fX0_splitClasses 54 37 h) (fun y => zfr [58, 59, 60] h y.2 ∧ ((∃ Ld' cl', y.1 = nI Ld'.length ∧ Ld'.length ≤ 8 ∧ clsf M (k + 1) T Ld' cl' ∧ clH M T cl' y.2 ∧ ldH M Ld' y.2) ∨ (y.1 = nI 9 ∧ ∃ X : List Nat, X.length = 9 ∧ lds M (k + 1) T X))) := by
    unfold fX0_splitClasses
    simp (disch := omega) only [SC (hs), zl_eq, bsm, ZS, ZT, ZN, ZU, eq_self, true_and, and_true, and_self, or_true, true_or, or_false, false_or, not_true, not_false_eq_true, Nat.reduceAdd, Nat.reduceMul, Nat.reduceLT, Nat.reduceLeDiff, Nat.reduceEqDiff, ↓reduceIte, ZQ, Bool.true_eq_false, Bool.false_eq_true, Bool.not_true, Bool.not_false]
    refine wloop (fun i y => y.2.1 = nI i ∧ zfr [59, 60] h y.2.2 ∧ ∃ Ld' f, y.1 = nI (Ld' : List Nat).length ∧ Ld'.length ≤ 8 ∧ lds M (k + 1) T Ld' ∧ ldH M Ld' y.2.2 ∧ (∀ m, m < i → nmS M m ∈ T → f (nmS M m) < Ld'.length ∧ eqk M (k + 1) (nmS M m) (Ld'.getD (f (nmS M m)) 0)) ∧ ∀ m, m < i → zI y.2.2 59 m = if nmS M m ∈ T then nI (f (nmS M m)) else -1) 255 (fun i y self hi hy ih => ?_) (by decide) ⟨rfl, zfr.refl h, [], fun _ => 0, rfl, by decide, ⟨(fun v hv => by cases hv), (fun u v _ hv => by cases hv)⟩, (fun v hv => by cases hv), (fun m hm => by omega), (fun m hm => by omega)⟩
    obtain ⟨y1, y2, h1⟩ := y
    obtain ⟨rfl, p1, L1, f, rfl, l8, ld1, lh1, fi, fv⟩ := hy
    dsimp only at p1 lh1 fv
    have hs1 := p1.shp hs
    have mb1 := mb.fr p1 (by decide)
    have cH1 := cH.fr p1 (by decide)
    have au1 : aut 37 M h1 := subOK.fr p1 (by decide) (by decide) (by decide) (by decide) (by decide) au
    show wp (kX0_splitClasses_4 54 37 self (nI L1.length) (nI i) h1) _
    unfold kX0_splitClasses_4
    by_cases hlt : i < 255
    · have pa : zfr [59] h1 (zsI h1 (zu (zI h1) 59 i (-1))) := zfr_uI
      have wa : ∀ m, zI (zsI h1 (zu (zI h1) 59 i (-1))) 59 m = if m = i then -1 else zI h1 59 m := fun m => by
        dsimp only [zI_zsI]
        rw [zu_at]
      have vm := mb1 i (by omega)
      by_cases hmem : nmS M i ∈ T
      case neg =>
        rw [decide_eq_false hmem, Bool.toNat_false] at vm
        unfold bX0_splitClasses_100
        simp (disch := omega) only [Nat.not_le.mpr hlt, vm, SC (hs1), zl_eq, bsm, ZS, ZT, ZN, ZU, eq_self, true_and, and_true, and_self, or_true, true_or, or_false, false_or, not_true, not_false_eq_true, Nat.reduceAdd, Nat.reduceMul, Nat.reduceLT, Nat.reduceLeDiff, Nat.reduceEqDiff, ↓reduceIte, ZQ, Bool.true_eq_false, Bool.false_eq_true, Bool.not_true, Bool.not_false]
        refine ih _ hlt ⟨rfl, p1.same (pa.mono (by decide)), L1, f, rfl, l8, ld1, lh1.fr pa (by decide), fun m hm hmT => ?_, fun m hm => ?_⟩
        · by_cases e : m = i
          · rw [e] at hmT
            exact absurd hmT hmem
          · exact fi m (by omega) hmT
        · rw [wa m]
          by_cases e : m = i
          · rw [if_pos e, e, if_neg hmem]
          · rw [if_neg e]
            exact fv m (by omega)
      rw [decide_eq_true hmem, Bool.toNat_true] at vm
      have hne0 : nmS M i ≠ 0 := fun z => t0 (by rw [← z]; exact hmem)
      have sj := (nmS_stt hne0).1
      simp (disch := omega) only [Nat.not_le.mpr hlt, vm, SC (hs1), zl_eq, bsm, ZS, ZT, ZN, ZU, eq_self, true_and, and_true, and_self, or_true, true_or, or_false, false_or, not_true, not_false_eq_true, Nat.reduceAdd, Nat.reduceMul, Nat.reduceLT, Nat.reduceLeDiff, Nat.reduceEqDiff, ↓reduceIte, ZQ, Bool.true_eq_false, Bool.false_eq_true, Bool.not_true, Bool.not_false]
      generalize zsI h1 (zu (zI h1) 59 i (-1)) = ha at pa wa
      have hsa := pa.shp hs1
      have aua : aut 37 M ha := subOK.fr pa (by decide) (by decide) (by decide) (by decide) (by decide) au1
      have cHa := cH1.fr pa (by decide)
      have lha := lh1.fr pa (by decide)
      -- a member finds its class
      have done : ∀ (L2 : List Nat) (v : Nat) (h2 : ZH), zfr [60] ha h2 → L2.length ≤ 8 → lds M (k + 1) T L2 → ldH M L2 h2 → (∀ u, u < L1.length → L2.getD u 0 = L1.getD u 0) → L1.length ≤ L2.length → v < L2.length → eqk M (k + 1) (nmS M i) (L2.getD v 0) → wp (bX0_splitClasses_92 self 54 37 (nI L2.length) (nI i) (nI v) h2) (fun y => zfr [58, 59, 60] h y.2 ∧ ((∃ Ld' cl', y.1 = nI Ld'.length ∧ Ld'.length ≤ 8 ∧ clsf M (k + 1) T Ld' cl' ∧ clH M T cl' y.2 ∧ ldH M Ld' y.2) ∨ (y.1 = nI 9 ∧ ∃ X : List Nat, X.length = 9 ∧ lds M (k + 1) T X))) := by
        intro L2 v h2 p2 l82 ld2 lh2 same hle hv he
        have hs2 := p2.shp hsa
        unfold bX0_splitClasses_92 bX0_splitClasses_100
        simp (disch := omega) only [SC (hs2), zl_eq, bsm, ZS, ZT, ZN, ZU, eq_self, true_and, and_true, and_self, or_true, true_or, or_false, false_or, not_true, not_false_eq_true, Nat.reduceAdd, Nat.reduceMul, Nat.reduceLT, Nat.reduceLeDiff, Nat.reduceEqDiff, ↓reduceIte, ZQ, Bool.true_eq_false, Bool.false_eq_true, Bool.not_true, Bool.not_false]
        refine ih _ hlt ⟨rfl, ((p1.same (pa.mono (by decide))).same (p2.mono (by decide))).same (zfr_uI.mono (by decide)), L2, upM f (nmS M i) v, rfl, l82, ld2, lh2.fr zfr_uI (by decide), fun m hm hmT => ?_, fun m hm => ?_⟩
        · by_cases e : m = i
          · rw [e]
            unfold upM
            rw [if_pos rfl]
            exact ⟨hv, he⟩
          · have hne : nmS M m ≠ nmS M i := fun z => e (nmS_inj sj hne0 z)
            obtain ⟨f1, f2⟩ := fi m (by omega) hmT
            unfold upM
            rw [if_neg hne]
            exact ⟨by omega, by rw [same _ f1]; exact f2⟩
        · dsimp only [zI_zsI]
          rw [zu_at]
          by_cases e : m = i
          · rw [if_pos e, e, if_pos hmem]
            unfold upM
            rw [if_pos rfl]
          · have hne : nmS M m ≠ nmS M i := fun z => e (nmS_inj sj hne0 z)
            rw [if_neg e, p2.I (by decide), wa m, if_neg e, fv m (by omega)]
            unfold upM
            rw [if_neg hne]
      refine wloop (fun v y => y = (nI v, ha) ∧ ∀ u, u < v → ¬ eqk M (k + 1) (nmS M i) (L1.getD u 0)) L1.length (fun v y self2 hv hy ih2 => ?_) (show L1.length < 100000 by omega) ⟨rfl, fun u hu => by omega⟩
      obtain ⟨rfl, no⟩ := hy
      show wp (kX0_splitClasses_30 self 54 37 (nI L1.length) (nI i) self2 (nI v) ha) _
      unfold kX0_splitClasses_30
      by_cases hvl : v < L1.length
      · obtain ⟨j2, e2, s2⟩ := lha v hvl
        have b2 := (stt255 s2).1
        obtain ⟨b, eb, hb⟩ := alike_ok hsa aua g h8 t0 cHa tc sj s2 hmem (ld1.1 v hvl)
        cases hbb : b with
        | true =>
          rw [hbb, Bool.toNat_true] at eb
          simp (disch := omega) only [Nat.not_le.mpr hvl, show ¬ (8 ≤ v) by omega, e2, eb, SC (hsa), zl_eq, bsm, ZS, ZT, ZN, ZU, eq_self, true_and, and_true, and_self, or_true, true_or, or_false, false_or, not_true, not_false_eq_true, Nat.reduceAdd, Nat.reduceMul, Nat.reduceLT, Nat.reduceLeDiff, Nat.reduceEqDiff, ↓reduceIte, ZQ, Bool.true_eq_false, Bool.false_eq_true, Bool.not_true, Bool.not_false]
          unfold bX0_splitClasses_65
          simp (disch := omega) only [show v < 8 by omega, show ¬ (v = L1.length) by omega, SC (hsa), zl_eq, bsm, ZS, ZT, ZN, ZU, eq_self, true_and, and_true, and_self, or_true, true_or, or_false, false_or, not_true, not_false_eq_true, Nat.reduceAdd, Nat.reduceMul, Nat.reduceLT, Nat.reduceLeDiff, Nat.reduceEqDiff, ↓reduceIte, ZQ, Bool.true_eq_false, Bool.false_eq_true, Bool.not_true, Bool.not_false]
          exact done L1 v ha (zfr.refl ha) l8 ld1 lha (fun _ _ => rfl) (Nat.le_refl _) hvl (hb.mp hbb)
        | false =>
          rw [hbb, Bool.toNat_false] at eb
          simp (disch := omega) only [Nat.not_le.mpr hvl, show ¬ (8 ≤ v) by omega, e2, eb, SC (hsa), zl_eq, bsm, ZS, ZT, ZN, ZU, eq_self, true_and, and_true, and_self, or_true, true_or, or_false, false_or, not_true, not_false_eq_true, Nat.reduceAdd, Nat.reduceMul, Nat.reduceLT, Nat.reduceLeDiff, Nat.reduceEqDiff, ↓reduceIte, ZQ, Bool.true_eq_false, Bool.false_eq_true, Bool.not_true, Bool.not_false]
          refine ih2 _ hvl ⟨rfl, fun u hu => ?_⟩
          by_cases e : u = v
          · rw [e]
            exact fun z => by rw [hb.mpr z] at hbb; cases hbb
          · exact no u (by omega)
      · have hve : v = L1.length := by omega
        rw [hve] at no ⊢
        have ldn : lds M (k + 1) T (L1 ++ [nmS M i]) := by
          refine ⟨fun u hu => ?_, fun a b hab hb e => ?_⟩
          · rw [List.length_append] at hu
            have hu' : u < L1.length + 1 := hu
            by_cases e : u = L1.length
            · rw [e, getD_r]; exact hmem
            · rw [getD_l (by omega)]; exact ld1.1 u (by omega)
          · rw [List.length_append] at hb
            have hb' : b < L1.length + 1 := hb
            rw [getD_l (show a < L1.length by omega)] at e
            by_cases eb : b = L1.length
            · rw [eb, getD_r] at e
              exact no a (by omega) (eqk_sym e)
            · rw [getD_l (by omega)] at e
              exact ld1.2 a b hab (by omega) e
        have hlen : (L1 ++ [nmS M i]).length = L1.length + 1 := by rw [List.length_append]; rfl
        unfold bX0_splitClasses_65
        by_cases e8 : L1.length = 8
        · simp (disch := omega) only [Nat.le_refl, show ¬ (L1.length < 8) by omega, SC (hsa), zl_eq, bsm, ZS, ZT, ZN, ZU, eq_self, true_and, and_true, and_self, or_true, true_or, or_false, false_or, not_true, not_false_eq_true, Nat.reduceAdd, Nat.reduceMul, Nat.reduceLT, Nat.reduceLeDiff, Nat.reduceEqDiff, ↓reduceIte, ZQ, Bool.true_eq_false, Bool.false_eq_true, Bool.not_true, Bool.not_false]
          exact wp_some ⟨(p1.same (pa.mono (by decide))).mono (by decide), Or.inr ⟨rfl, L1 ++ [nmS M i], by omega, ldn⟩⟩
        · simp (disch := omega) only [Nat.le_refl, show L1.length < 8 by omega, SC (hsa), zl_eq, bsm, ZS, ZT, ZN, ZU, eq_self, true_and, and_true, and_self, or_true, true_or, or_false, false_or, not_true, not_false_eq_true, Nat.reduceAdd, Nat.reduceMul, Nat.reduceLT, Nat.reduceLeDiff, Nat.reduceEqDiff, ↓reduceIte, ZQ, Bool.true_eq_false, Bool.false_eq_true, Bool.not_true, Bool.not_false]
          have dn := done (L1 ++ [nmS M i]) L1.length (zsI ha (zu (zI ha) 60 L1.length (nI i))) zfr_uI (by omega) ldn ?_ (fun u hu => getD_l hu) (by omega) (by omega) (by rw [getD_r]; exact eqk_rfl)
          · rw [hlen] at dn
            exact dn
          · intro u hu
            rw [hlen] at hu
            dsimp only [zI_zsI]
            rw [zu_at]
            by_cases e : u = L1.length
            · rw [if_pos e, e, getD_r]; exact ⟨i, rfl, sj⟩
            · rw [if_neg e, getD_l (by omega)]; exact lha u (by omega)
    · have hie : i = 255 := by omega
      subst hie
      have ecp := cp255 hs1
      have pc : zfr [58] h1 (zsI h1 (zrow (zI h1) 58 (va_cpy (zI h1 59) (zI h1 58) 0 0 255))) := zfr_zsI (fun b hb => zrow_ne (fun e => hb (by rw [e]; exact List.mem_singleton.mpr rfl)))
      have v1 : ∀ j, j < 255 → zI (zsI h1 (zrow (zI h1) 58 (va_cpy (zI h1 59) (zI h1 58) 0 0 255))) 58 j = zI h1 59 j := fun j hj => by
        dsimp only [zI_zsI]
        rw [zrow_eq]
        simp [va_cpy, hj]
      have v2 : zI (zsI h1 (zrow (zI h1) 58 (va_cpy (zI h1 59) (zI h1 58) 0 0 255))) 58 255 = zI h1 58 255 := by
        dsimp only [zI_zsI]
        rw [zrow_eq]
        simp [va_cpy]
      generalize zsI h1 (zrow (zI h1) 58 (va_cpy (zI h1 59) (zI h1 58) 0 0 255)) = h2 at ecp pc v1 v2
      simp (disch := omega) only [Nat.le_refl, ecp, SC (hs1), zl_eq, bsm, ZS, ZT, ZN, ZU, eq_self, true_and, and_true, and_self, or_true, true_or, or_false, false_or, not_true, not_false_eq_true, Nat.reduceAdd, Nat.reduceMul, Nat.reduceLT, Nat.reduceLeDiff, Nat.reduceEqDiff, ↓reduceIte, ZQ, Bool.true_eq_false, Bool.false_eq_true, Bool.not_true, Bool.not_false]
      refine wp_some ⟨(p1.trans pc).mono (by decide), Or.inl ⟨L1, f, rfl, l8, ⟨ld1, fun S hS => ?_⟩, fun j S st => ?_, lh1.fr pc (by decide)⟩⟩
      · obtain ⟨m, sm', hm⟩ := mem_stt (hT S hS)
        have em := nmS_of sm'
        have := fi m hm (by rw [em]; exact hS)
        rw [em] at this
        exact this
      · have b := stt255 st
        by_cases hj : j = 255
        · have hS : S ∉ T := by rw [b.2.mp hj]; exact t0
          have q := cH1 j S st
          rw [if_neg hS] at q ⊢
          rw [hj] at q ⊢
          rw [v2]
          exact q
        · rw [v1 j (by omega), fv j (by omega), nmS_of st]
  obtain ⟨⟨r, h'⟩, e, q⟩ := key
  exact ⟨h', r, e, q⟩
end SPL
