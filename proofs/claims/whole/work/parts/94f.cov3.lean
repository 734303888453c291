/-! COVERS: the object's last component -/
theorem rcEx {M : Nat → Nat} {S0 : Nat} (hS : S0 < 256) (h0 : S0 ≠ 0) : ∃ T, rcL M S0 T := by
  obtain ⟨N, hN⟩ : ∃ N, N = 256 := ⟨_, rfl⟩
  obtain ⟨τ, t1, t2, t3, t4, t5⟩ := exStop1 (d := ims M) (A := S0) N (by omega) h0 (bq_bd (by rw [hN]; exact hS) (fun P l hl => by rw [hN]; exact ims_lt hl))
  exact ⟨_, rcL_of t4 t3⟩
section LC
variable {M : Nat → Nat} {h : ZH}
/-- one way through the members, from the last to the first -/
theorem markPass (hs : Sh h) (au : aut 37 M h) {S0 : Nat} {T K : List Nat} (rc : rcL M S0 T) (hl : T.length ≤ 255) (hT : ∀ S, S ∈ T → S ∈ LL M) (mb : mbI M T h) (mk : mkI M K h) (k0 : 0 ∉ K) (snd : ∀ S, S ∈ K → ∃ w, lts w ∧ rn (ims M) S w = S0) : ∃ h' b K', fX0_markMembersBeforeMarked 54 37 h = some (nI (b : Bool).toNat, h') ∧ zfr [56] h h' ∧ mkI M K' h' ∧ 0 ∉ K' ∧ (∀ S, S ∈ K → S ∈ K') ∧ (∀ S, S ∈ K' → ∃ w, lts w ∧ rn (ims M) S w = S0) ∧ (b = false → ∀ S, S ∈ T → ∀ l, l < 4 → ims M S l ∈ K' → S ∈ K') ∧ (b = true → ∃ S, S ∈ T ∧ S ∉ K ∧ S ∈ K') := by
  have key : wp (fX0_markMembersBeforeMarked 54 37 h) (fun r => ∃ b K', r.1 = nI (b : Bool).toNat ∧ zfr [56] h r.2 ∧ mkI M K' r.2 ∧ 0 ∉ K' ∧ (∀ S, S ∈ K → S ∈ K') ∧ (∀ S, S ∈ K' → ∃ w, lts w ∧ rn (ims M) S w = S0) ∧ (b = false → ∀ S, S ∈ T → ∀ l, l < 4 → ims M S l ∈ K' → S ∈ K') ∧ (b = true → ∃ S, S ∈ T ∧ S ∉ K ∧ S ∈ K')) := by
    have hL : (LL M).length ≤ 255 := (LL_good M).len
    have e1 : fX6_size 37 h = some (nI (LL M).length, h) := size_ok (sub37 hs) au
    have ejm : jmmin (nI (LL M).length) (nI 255) = nI (LL M).length := by rw [jmmin_ok (by omega) (by decide), Nat.min_eq_left hL]
    unfold fX0_markMembersBeforeMarked
    rw [if_pos (O54 hs), e1, bsm, zl_eq]
    show wp (zloop (lX0_markMembersBeforeMarked_15 54 37) zfu (nI 0, jmmin (nI (LL M).length) (nI 255) - nI 1, h)) _
    rw [ejm, m1_add]
    refine wloop (fun i y => y.2.1 = nI ((LL M).length - i) + (-1 : Int32) ∧ zfr [56] h y.2.2 ∧ ∃ b K', y.1 = nI (b : Bool).toNat ∧ mkI M K' y.2.2 ∧ 0 ∉ K' ∧ (∀ S, S ∈ K → S ∈ K') ∧ (∀ S, S ∈ K' → ∃ w, lts w ∧ rn (ims M) S w = S0) ∧ (b = false → K' = K ∧ ∀ k, (LL M).length - i ≤ k → k < (LL M).length → nmS M k ∈ T → ∀ l, l < 4 → ims M (nmS M k) l ∈ K → nmS M k ∈ K) ∧ (b = true → ∃ S, S ∈ T ∧ S ∉ K ∧ S ∈ K')) (LL M).length (fun i y self hi hy ih => ?_) (show (LL M).length < 100000 by omega) ⟨rfl, zfr.refl h, false, K, rfl, mk, k0, fun _ h => h, snd, fun _ => ⟨rfl, fun k h1 h2 => by omega⟩, fun z => by cases z⟩
    obtain ⟨y1, y2, h1⟩ := y
    obtain ⟨rfl, p1, b, K1, rfl, mk1, z1, sub1, snd1, cm1, nw1⟩ := hy
    dsimp only at p1 mk1
    have hs1 := p1.shp hs
    show wp (kX0_markMembersBeforeMarked_15 54 37 self (nI b.toNat) (nI ((LL M).length - i) + (-1 : Int32)) h1) _
    unfold kX0_markMembersBeforeMarked_15
    by_cases hlt : i < (LL M).length
    · have ei : nI ((LL M).length - i) + (-1 : Int32) = nI ((LL M).length - (i + 1)) := by rw [show (LL M).length - i = ((LL M).length - (i + 1)) + 1 by omega]; exact nI_prd _
      obtain ⟨j, hj⟩ : ∃ j, (LL M).length - (i + 1) = j := ⟨_, rfl⟩
      have hjl : j < (LL M).length := by omega
      have sj := nmS_lt hjl
      have hne0 : nmS M j ≠ 0 := ((LL_good M).2 (nmS M j) (getD_mem hjl)).1
      have bj := stt255 sj
      rw [ei, hj]
      rw [if_neg (nI_pos (by omega))]
      generalize hS : nmS M j = S at sj hne0 bj
      -- the letters
      refine wloop (fun l y => y.2.1 = nI l ∧ zfr [56] h y.2.2 ∧ ∃ b2 K2, y.1 = nI (b2 : Bool).toNat ∧ mkI M K2 y.2.2 ∧ 0 ∉ K2 ∧ (∀ S, S ∈ K1 → S ∈ K2) ∧ (∀ S, S ∈ K2 → ∃ w, lts w ∧ rn (ims M) S w = S0) ∧ (b2 = false → b = false ∧ K2 = K1 ∧ (S ∈ K1 ∨ ∀ l', l' < l → ims M S l' ∉ K1)) ∧ (b2 = true → b = true ∨ (S ∈ T ∧ S ∉ K1 ∧ S ∈ K2)) ∧ (b2 = true → b = true → True)) 4 (fun l y self2 hl hy ih2 => ?_) (by decide) ⟨rfl, p1, b, K1, rfl, mk1, z1, fun _ h => h, snd1, fun z => ⟨z, rfl, Or.inr (fun l' hl' => by omega)⟩, fun z => Or.inl z, fun _ _ => trivial⟩
      obtain ⟨y1, y2, h2⟩ := y
      obtain ⟨rfl, p2, b2, K2, rfl, mk2, z2, sub2, snd2, cm2, nw2, -⟩ := hy
      dsimp only at p2 mk2
      have hs2 := p2.shp hs
      have au2 : aut 37 M h2 := subOK.fr p2 (by decide) (by decide) (by decide) (by decide) (by decide) au
      have v3 := mk2 j S sj
      have vm : zI h2 55 j = nI (decide (S ∈ T)).toNat := by rw [p2.I (by decide)]; exact mb.st sj
      -- what the next member gets
      have nxt : (S ∉ T ∨ S ∈ K2 ∨ l = 4) → wp (self (nI b2.toNat, nI j + (-1 : Int32), h2)) _ := fun hdone => ih _ hlt ⟨(show nI j + (-1 : Int32) = nI ((LL M).length - (i + 1)) + (-1 : Int32) by rw [hj]), p2, b2, K2, rfl, mk2, z2, fun S hS => sub2 S (sub1 S hS), snd2, fun z => by
          obtain ⟨c1, c2, c3⟩ := cm2 z
          obtain ⟨d1, d2⟩ := cm1 c1
          refine ⟨c2.trans d1, fun k hk1 hk2 hkT l' hl' hin => ?_⟩
          by_cases ek : k = j
          · rw [ek, hS] at hin hkT ⊢
            rw [← d1] at hin ⊢
            rcases c3 with c3 | c3
            · exact c3
            · rcases hdone with q | q | q
              · exact absurd hkT q
              · rw [c2] at q; exact q
              · exact absurd hin (c3 l' (by omega))
          · exact d2 k (by omega) hk2 hkT l' hl' hin, fun z => by
          rcases nw2 z with q | ⟨q0, q1, q2⟩
          · obtain ⟨R, r1, r2, r3⟩ := nw1 q
            exact ⟨R, r1, r2, sub2 R r3⟩
          · exact ⟨S, q0, fun q => q1 (sub1 S q), q2⟩⟩
      show wp (kX0_markMembersBeforeMarked_22 self 54 37 (nI j) self2 (nI b2.toNat) (nI l) h2) _
      unfold kX0_markMembersBeforeMarked_22 bX0_markMembersBeforeMarked_93 bX0_markMembersBeforeMarked_87
      by_cases hl4 : l = 4
      · subst hl4
        simp (disch := omega) only [Nat.le_refl, SC (hs2), zl_eq, bsm, ZS, ZT, ZN, ZU, eq_self, true_and, and_true, and_self, or_true, true_or, or_false, false_or, not_true, not_false_eq_true, Nat.reduceAdd, Nat.reduceMul, Nat.reduceLT, Nat.reduceLeDiff, Nat.reduceEqDiff, ↓reduceIte, ZQ, Bool.true_eq_false, Bool.false_eq_true, Bool.not_true, Bool.not_false]
        exact nxt (Or.inr (Or.inr rfl))
      · have hl4' : l < 4 := by omega
        by_cases hmem : S ∈ T
        case neg =>
          rw [decide_eq_false hmem, Bool.toNat_false] at vm
          simp (disch := omega) only [Nat.not_le.mpr hl4', vm, SC (hs2), zl_eq, bsm, ZS, ZT, ZN, ZU, eq_self, true_and, and_true, and_self, or_true, true_or, or_false, false_or, not_true, not_false_eq_true, Nat.reduceAdd, Nat.reduceMul, Nat.reduceLT, Nat.reduceLeDiff, Nat.reduceEqDiff, ↓reduceIte, ZQ, Bool.true_eq_false, Bool.false_eq_true, Bool.not_true, Bool.not_false]
          exact nxt (Or.inl hmem)
        rw [decide_eq_true hmem, Bool.toNat_true] at vm
        by_cases hin : S ∈ K2
        · rw [decide_eq_true hin, Bool.toNat_true] at v3
          simp (disch := omega) only [Nat.not_le.mpr hl4', vm, v3, SC (hs2), zl_eq, bsm, ZS, ZT, ZN, ZU, eq_self, true_and, and_true, and_self, or_true, true_or, or_false, false_or, not_true, not_false_eq_true, Nat.reduceAdd, Nat.reduceMul, Nat.reduceLT, Nat.reduceLeDiff, Nat.reduceEqDiff, ↓reduceIte, ZQ, Bool.true_eq_false, Bool.false_eq_true, Bool.not_true, Bool.not_false]
          exact nxt (Or.inr (Or.inl hin))
        · rw [decide_eq_false hin, Bool.toNat_false] at v3
          obtain ⟨k, ek, sk⟩ := afterC hs2 au2 sj hl4'
          have bk := stt255 sk
          have vk := mk2 k _ sk
          by_cases hk0 : k = 255
          · have hz : ims M S l = 0 := bk.2.mp hk0
            rw [hk0] at ek
            simp (disch := omega) only [Nat.not_le.mpr hl4', vm, v3, ek, Nat.le_refl, SC (hs2), zl_eq, bsm, ZS, ZT, ZN, ZU, eq_self, true_and, and_true, and_self, or_true, true_or, or_false, false_or, not_true, not_false_eq_true, Nat.reduceAdd, Nat.reduceMul, Nat.reduceLT, Nat.reduceLeDiff, Nat.reduceEqDiff, ↓reduceIte, ZQ, Bool.true_eq_false, Bool.false_eq_true, Bool.not_true, Bool.not_false]
            refine ih2 _ hl4' ⟨rfl, p2, b2, K2, rfl, mk2, z2, sub2, snd2, fun z => ?_, nw2, fun _ _ => trivial⟩
            obtain ⟨c1, c2, c3⟩ := cm2 z
            refine ⟨c1, c2, ?_⟩
            rcases c3 with c3 | c3
            · exact Or.inl c3
            · refine Or.inr (fun l' hl' q => ?_)
              by_cases e : l' = l
              · rw [e, hz, ← c2] at q
                exact z2 q
              · exact c3 l' (by omega) q
          · by_cases hkin : ims M S l ∈ K2
            · rw [decide_eq_true hkin, Bool.toNat_true] at vk
              have p3 : zfr [56] h (zsI h2 (zu (zI h2) 56 j (nI 1))) := p2.same zfr_uI
              have mk3 : mkI M (S :: K2) (zsI h2 (zu (zI h2) 56 j (nI 1))) := fun i R sr => by
                dsimp only [zI_zsI]
                rw [zu_at]
                by_cases e : i = j
                · have := (stt_eq sr sj).mp e
                  rw [if_pos e, this, decide_eq_true List.mem_cons_self, Bool.toNat_true]
                · have hne : R ≠ S := fun z => e ((stt_eq sr sj).mpr z)
                  rw [if_neg e, mk2 i R sr]
                  congr 2
                  apply decide_eq_decide.mpr
                  constructor
                  · exact fun z => List.mem_cons_of_mem _ z
                  · intro z
                    rcases List.mem_cons.mp z with z | z
                    · exact absurd z hne
                    · exact z
              simp (disch := omega) only [Nat.not_le.mpr hl4', vm, v3, ek, show ¬ (255 ≤ k) by omega, vk, z16_1, SC (hs2), zl_eq, bsm, ZS, ZT, ZN, ZU, eq_self, true_and, and_true, and_self, or_true, true_or, or_false, false_or, not_true, not_false_eq_true, Nat.reduceAdd, Nat.reduceMul, Nat.reduceLT, Nat.reduceLeDiff, Nat.reduceEqDiff, ↓reduceIte, ZQ, Bool.true_eq_false, Bool.false_eq_true, Bool.not_true, Bool.not_false]
              refine ih2 _ hl4' ⟨rfl, p3, true, S :: K2, rfl, mk3, ?_, fun R hR => List.mem_cons_of_mem _ (sub2 R hR), fun R hR => ?_, (fun z => by cases z), fun _ => Or.inr ⟨hmem, fun q => hin (sub2 S q), List.mem_cons_self⟩, fun _ _ => trivial⟩
              · intro z
                rcases List.mem_cons.mp z with z | z
                · exact hne0 z.symm
                · exact z2 z
              · rcases List.mem_cons.mp hR with z | z
                · obtain ⟨w, w1, w2⟩ := snd2 _ hkin
                  refine ⟨l :: w, lts_cons.mpr ⟨hl4', w1⟩, ?_⟩
                  rw [z, rn_cons]
                  exact w2
                · exact snd2 R z
            · rw [decide_eq_false hkin, Bool.toNat_false] at vk
              simp (disch := omega) only [Nat.not_le.mpr hl4', vm, v3, ek, show ¬ (255 ≤ k) by omega, vk, SC (hs2), zl_eq, bsm, ZS, ZT, ZN, ZU, eq_self, true_and, and_true, and_self, or_true, true_or, or_false, false_or, not_true, not_false_eq_true, Nat.reduceAdd, Nat.reduceMul, Nat.reduceLT, Nat.reduceLeDiff, Nat.reduceEqDiff, ↓reduceIte, ZQ, Bool.true_eq_false, Bool.false_eq_true, Bool.not_true, Bool.not_false]
              refine ih2 _ hl4' ⟨rfl, p2, b2, K2, rfl, mk2, z2, sub2, snd2, fun z => ?_, nw2, fun _ _ => trivial⟩
              obtain ⟨c1, c2, c3⟩ := cm2 z
              refine ⟨c1, c2, ?_⟩
              rcases c3 with c3 | c3
              · exact Or.inl c3
              · refine Or.inr (fun l' hl' q => ?_)
                by_cases e : l' = l
                · rw [e, ← c2] at q
                  exact hkin q
                · exact c3 l' (by omega) q
    · have hie : i = (LL M).length := by omega
      rw [hie, Nat.sub_self]
      have eneg : (nI 0 + (-1 : Int32) < 0) = True := by decide
      have fin : wp (some (nI b.toNat, h1)) (fun r => ∃ b K', r.1 = nI (b : Bool).toNat ∧ zfr [56] h r.2 ∧ mkI M K' r.2 ∧ 0 ∉ K' ∧ (∀ S, S ∈ K → S ∈ K') ∧ (∀ S, S ∈ K' → ∃ w, lts w ∧ rn (ims M) S w = S0) ∧ (b = false → ∀ S, S ∈ T → ∀ l, l < 4 → ims M S l ∈ K' → S ∈ K') ∧ (b = true → ∃ S, S ∈ T ∧ S ∉ K ∧ S ∈ K')) := by
        refine wp_some ⟨b, K1, rfl, p1, mk1, z1, sub1, snd1, fun z S hS l hl hin => ?_, nw1⟩
        obtain ⟨d1, d2⟩ := cm1 z
        obtain ⟨k, sk, -⟩ := mem_stt (hT S hS)
        have hk : k < (LL M).length := by
          rcases sk with ⟨q, -⟩ | q
          · exact absurd hS (by rw [q]; exact rc.2.1)
          · exact (List.getElem?_eq_some_iff.mp q).1
        have ek := nmS_of sk
        rw [d1] at hin ⊢
        rw [← ek] at hin hS ⊢
        exact d2 k (by omega) hk hS l hl hin
      rw [if_pos (by rw [eneg]; trivial)]
      cases b with
      | true => rw [if_pos (by decide)]; exact fin
      | false => rw [if_pos (by decide)]; exact fin
  obtain ⟨⟨r, h'⟩, e, b, K', q1, q2⟩ := key
  dsimp only at q1 q2
  subst q1
  exact ⟨h', b, K', e, q2⟩
theorem wayTo {S0 : Nat} {T K : List Nat} (rc : rcL M S0 T) (hin : S0 ∈ K) (cm : ∀ S, S ∈ T → ∀ l, l < 4 → ims M S l ∈ K → S ∈ K) : ∀ w, lts w → ∀ S, S ∈ T → rn (ims M) S w = S0 → S ∈ K := by
  intro w
  induction w with
  | nil =>
    intro _ S _ e
    rw [rn_nil] at e
    rw [e]; exact hin
  | cons a w ih =>
    intro hw S hS e
    rw [lts_cons] at hw
    rw [rn_cons] at e
    refine cm S hS a hw.1 ?_
    rcases rc.2.2.2.1 S hS a hw.1 with z | z
    · rw [z, rn_0 (fun l => ims_0 l)] at e
      exact absurd rc.2.2.1 (by rw [← e]; exact rc.2.1)
    · exact ih hw.2 _ z e
theorem without_ok (hs : Sh h) (au : aut 37 M h) {S0 j0 : Nat} {T : List Nat} (st0 : stt (LL M) j0 S0) (rc : rcL M S0 T) (hl : T.length ≤ 255) (hT : ∀ S, S ∈ T → S ∈ LL M) (mb : mbI M T h) : ∃ h' j, fX0_memberWithoutWayTo 54 37 (nI j0) h = some (nI j, h') ∧ zfr [56] h h' ∧ ((j = 255 ∧ ∀ S, S ∈ T → ∃ w, lts w ∧ rn (ims M) S w = S0) ∨ ∃ S1, stt (LL M) j S1 ∧ S1 ∈ T ∧ ∀ w, lts w → rn (ims M) S1 w ≠ S0) := by
  have hS0 : S0 ≠ 0 := fun z => rc.2.1 (by rw [← z]; exact rc.2.2.1)
  have key : wp (fX0_memberWithoutWayTo 54 37 (nI j0) h) (fun r => ∃ j, r.1 = nI j ∧ zfr [56] h r.2 ∧ ((j = 255 ∧ ∀ S, S ∈ T → ∃ w, lts w ∧ rn (ims M) S w = S0) ∨ ∃ S1, stt (LL M) j S1 ∧ S1 ∈ T ∧ ∀ w, lts w → rn (ims M) S1 w ≠ S0)) := by
    obtain ⟨h1, e1, p1, mk1⟩ := clearM_ok (M := M) hs
    have hs1 := p1.shp hs
    have bj := stt255 st0
    have hj : j0 ≠ 255 := fun z => hS0 (bj.2.mp z)
    have p2 : zfr [56] h (zsI h1 (zu (zI h1) 56 j0 (nI 1))) := p1.same zfr_uI
    have mk2 : mkI M [S0] (zsI h1 (zu (zI h1) 56 j0 (nI 1))) := fun i R sr => by
      dsimp only [zI_zsI]
      rw [zu_at]
      by_cases e : i = j0
      · have := (stt_eq sr st0).mp e
        rw [if_pos e, this, decide_eq_true (List.mem_singleton.mpr rfl), Bool.toNat_true]
      · have hne : R ≠ S0 := fun z => e ((stt_eq sr st0).mpr z)
        rw [if_neg e, mk1 i R sr, decide_eq_false (fun z => by cases z), decide_eq_false (fun z => hne (List.mem_singleton.mp z))]
    have ew := isWithin_ok (Nat.zero_le j0) (show j0 ≤ 254 by omega) (by decide) h1
    unfold fX0_memberWithoutWayTo bX0_memberWithoutWayTo_25
    simp (disch := omega) only [e1, SC (hs), zl_eq, bsm, ZS, ZT, ZN, ZU, eq_self, true_and, and_true, and_self, or_true, true_or, or_false, false_or, not_true, not_false_eq_true, Nat.reduceAdd, Nat.reduceMul, Nat.reduceLT, Nat.reduceLeDiff, Nat.reduceEqDiff, ↓reduceIte, ZQ, Bool.true_eq_false, Bool.false_eq_true, Bool.not_true, Bool.not_false]
    simp (disch := omega) only [ew, z16_1, SC (hs1), zl_eq, bsm, ZS, ZT, ZN, ZU, eq_self, true_and, and_true, and_self, or_true, true_or, or_false, false_or, not_true, not_false_eq_true, Nat.reduceAdd, Nat.reduceMul, Nat.reduceLT, Nat.reduceLeDiff, Nat.reduceEqDiff, ↓reduceIte, ZQ, Bool.true_eq_false, Bool.false_eq_true, Bool.not_true, Bool.not_false]
    generalize zsI h1 (zu (zI h1) 56 j0 (nI 1)) = h2 at p2 mk2
    refine wloop (fun r y => y.2.1 = nI r ∧ zfr [56] h y.2.2 ∧ ∃ b K, y.1 = nI (b : Bool).toNat ∧ mkI M K y.2.2 ∧ 0 ∉ K ∧ S0 ∈ K ∧ (∀ S, S ∈ K → ∃ w, lts w ∧ rn (ims M) S w = S0) ∧ (b = true → r + 1 ≤ (T.filter (fun S => decide (S ∈ K))).length) ∧ (b = false → ∀ S, S ∈ T → ∀ l, l < 4 → ims M S l ∈ K → S ∈ K)) 255 (fun r y self hr hy ih => ?_) (by decide) ⟨rfl, p2, true, [S0], rfl, mk2, (fun z => by rw [List.mem_singleton] at z; exact hS0 z.symm), List.mem_singleton.mpr rfl, (fun S hS => by rw [List.mem_singleton] at hS; exact ⟨[], lts_nil, hS⟩), (fun _ => List.length_pos_of_mem (List.mem_filter.mpr ⟨rc.2.2.1, decide_eq_true (List.mem_singleton.mpr rfl)⟩)), (fun z => by cases z)⟩
    obtain ⟨y1, y2, h3⟩ := y
    obtain ⟨rfl, p3, b, K, rfl, mk3, z3, s3, snd3, f3, cm3⟩ := hy
    dsimp only at p3 mk3
    have hs3 := p3.shp hs
    have mb3 := mb.fr p3 (by decide)
    show wp (kX0_memberWithoutWayTo_30 54 37 self (nI b.toNat) (nI r) h3) _
    unfold kX0_memberWithoutWayTo_30
    cases hb : b with
    | true =>
      subst hb
      have hfl := f3 rfl
      have hfle : (T.filter (fun S => decide (S ∈ K))).length ≤ T.length := List.length_filter_le _ _
      have au3 : aut 37 M h3 := subOK.fr p3 (by decide) (by decide) (by decide) (by decide) (by decide) au
      obtain ⟨h4, b4, K4, e4, p4, mk4, z4, sub4, snd4, cm4, nw4⟩ := markPass hs3 au3 rc hl hT mb3 mk3 z3 snd3
      rw [Bool.toNat_true]
      simp (disch := omega) only [show ¬ (256 ≤ r) by omega, e4, SC (hs3), zl_eq, bsm, ZS, ZT, ZN, ZU, eq_self, true_and, and_true, and_self, or_true, true_or, or_false, false_or, not_true, not_false_eq_true, Nat.reduceAdd, Nat.reduceMul, Nat.reduceLT, Nat.reduceLeDiff, Nat.reduceEqDiff, ↓reduceIte, ZQ, Bool.true_eq_false, Bool.false_eq_true, Bool.not_true, Bool.not_false]
      refine ih _ (by omega) ⟨rfl, p3.same p4, b4, K4, rfl, mk4, z4, sub4 _ s3, snd4, fun z => ?_, cm4⟩
      obtain ⟨S, q1, q2, q3⟩ := nw4 z
      have := filt_lt (p := fun S => decide (S ∈ K4)) (q := fun S => decide (S ∈ K)) T (fun x _ hx => decide_eq_true (sub4 x (of_decide_eq_true hx))) q1 (decide_eq_true q3) (decide_eq_false q2)
      omega
    | false =>
      subst hb
      have cm := cm3 rfl
      rw [Bool.toNat_false]
      unfold bX0_memberWithoutWayTo_54
      simp (disch := omega) only [show ¬ (256 ≤ r) by omega, SC (hs3), zl_eq, bsm, ZS, ZT, ZN, ZU, eq_self, true_and, and_true, and_self, or_true, true_or, or_false, false_or, not_true, not_false_eq_true, Nat.reduceAdd, Nat.reduceMul, Nat.reduceLT, Nat.reduceLeDiff, Nat.reduceEqDiff, ↓reduceIte, ZQ, Bool.true_eq_false, Bool.false_eq_true, Bool.not_true, Bool.not_false]
      refine wloop (fun i y => y.1 = nI (255 - i) + (-1 : Int32) ∧ y.2 = h3 ∧ ∀ k, 255 - i ≤ k → k < 255 → nmS M k ∈ T → nmS M k ∈ K) 255 (fun i y self2 hi hy ih2 => ?_) (by decide) ⟨(show nI 254 = nI (255 - 0) + (-1 : Int32) by decide), rfl, fun k h1 h2 => by omega⟩
      obtain ⟨y1, y2⟩ := y
      obtain ⟨rfl, rfl, all⟩ := hy
      show wp (kX0_memberWithoutWayTo_59 54 self2 (nI (255 - i) + (-1 : Int32)) y2) _
      unfold kX0_memberWithoutWayTo_59 bX0_memberWithoutWayTo_87
      by_cases hlt : i < 255
      · have ei : nI (255 - i) + (-1 : Int32) = nI (255 - (i + 1)) := by rw [show 255 - i = (255 - (i + 1)) + 1 by omega]; exact nI_prd _
        obtain ⟨j, hj⟩ : ∃ j, 255 - (i + 1) = j := ⟨_, rfl⟩
        have hj255 : j < 255 := by omega
        rw [ei, hj]
        have vm := mb3 j (by omega)
        have nxt : (nmS M j ∈ T → nmS M j ∈ K) → wp (self2 (nI j + (-1 : Int32), y2)) _ := fun hq => ih2 _ hlt ⟨(show nI j + (-1 : Int32) = nI (255 - (i + 1)) + (-1 : Int32) by rw [hj]), rfl, fun k h1 h2 hk => by
          by_cases e : k = j
          · rw [e] at hk ⊢
            exact hq hk
          · exact all k (by omega) h2 hk⟩
        by_cases hmem : nmS M j ∈ T
        · have sj := (nmS_stt (M := M) (j := j) (fun z => rc.2.1 (by rw [← z]; exact hmem))).1
          have v := mk3 j _ sj
          rw [decide_eq_true hmem, Bool.toNat_true] at vm
          by_cases hin : nmS M j ∈ K
          · rw [decide_eq_true hin, Bool.toNat_true] at v
            simp (disch := omega) only [vm, v, SC (hs3), zl_eq, bsm, ZS, ZT, ZN, ZU, eq_self, true_and, and_true, and_self, or_true, true_or, or_false, false_or, not_true, not_false_eq_true, Nat.reduceAdd, Nat.reduceMul, Nat.reduceLT, Nat.reduceLeDiff, Nat.reduceEqDiff, ↓reduceIte, ZQ, Bool.true_eq_false, Bool.false_eq_true, Bool.not_true, Bool.not_false]
            exact nxt (fun _ => hin)
          · rw [decide_eq_false hin, Bool.toNat_false] at v
            simp (disch := omega) only [vm, v, SC (hs3), zl_eq, bsm, ZS, ZT, ZN, ZU, eq_self, true_and, and_true, and_self, or_true, true_or, or_false, false_or, not_true, not_false_eq_true, Nat.reduceAdd, Nat.reduceMul, Nat.reduceLT, Nat.reduceLeDiff, Nat.reduceEqDiff, ↓reduceIte, ZQ, Bool.true_eq_false, Bool.false_eq_true, Bool.not_true, Bool.not_false]
            exact wp_some ⟨j, rfl, p3, Or.inr ⟨_, sj, hmem, fun w hw e => hin (wayTo rc s3 cm w hw _ hmem e)⟩⟩
        · rw [decide_eq_false hmem, Bool.toNat_false] at vm
          simp (disch := omega) only [vm, SC (hs3), zl_eq, bsm, ZS, ZT, ZN, ZU, eq_self, true_and, and_true, and_self, or_true, true_or, or_false, false_or, not_true, not_false_eq_true, Nat.reduceAdd, Nat.reduceMul, Nat.reduceLT, Nat.reduceLeDiff, Nat.reduceEqDiff, ↓reduceIte, ZQ, Bool.true_eq_false, Bool.false_eq_true, Bool.not_true, Bool.not_false]
          exact nxt (fun q => absurd q hmem)
      · have hie : i = 255 := by omega
        rw [hie, Nat.sub_self] at all ⊢
        rw [if_pos (by decide)]
        refine wp_some ⟨255, rfl, p3, Or.inl ⟨rfl, fun S hS => ?_⟩⟩
        obtain ⟨k, sk, hk⟩ := mem_stt (hT S hS)
        have ek := nmS_of sk
        rw [← ek] at hS ⊢
        exact snd3 _ (all k (by omega) hk hS)
  obtain ⟨⟨r, h'⟩, e, j, q1, q2⟩ := key
  dsimp only at q1 q2
  subst q1
  exact ⟨h', j, e, q2⟩
/-- members that all lead to one another, and to no other state -/
def lastC (M : Nat → Nat) (T : List Nat) : Prop := ∃ S0, rcL M S0 T ∧ S0 ∈ LL M ∧ T.length ≤ 255 ∧ (∀ S, S ∈ T → S ∈ LL M) ∧ ∀ S, S ∈ T → ∃ w, lts w ∧ rn (ims M) S w = S0
theorem lastLoop (hE : ess M ≠ 0) (n : Nat) : ∀ f r j0 S0 h, Sh h → aut 37 M h → stt (LL M) j0 S0 → S0 ≠ 0 → (∃ T, rcL M S0 T ∧ T.length ≤ n) → r + n ≤ 255 → n < f → wp (zloop (lX0_findLastComponent_7 54 37) f (nI j0, nI r, h)) (fun h' => zfr [54, 55, 56, 57] h h' ∧ ∃ T, lastC M T ∧ mbI M T h') := by
  induction n with
  | zero =>
    intro f r j0 S0 h _ _ _ _ ⟨T, rc, hl⟩
    have := List.length_pos_of_mem rc.2.2.1
    omega
  | succ n ih =>
    intro f r j0 S0 h hs au st0 h0 hex hrn hf
    obtain ⟨f, rfl⟩ : ∃ k, f = k + 1 := ⟨f - 1, by omega⟩
    show wp (kX0_findLastComponent_7 54 37 (zloop (lX0_findLastComponent_7 54 37) f) (nI j0) (nI r) h) _
    have bj := stt255 st0
    have hj : j0 ≠ 255 := fun z => h0 (bj.2.mp z)
    have hLL := LLrc hE
    obtain ⟨h1, T, e1, p1, rc, mb, hl⟩ := collectFrom_ok hs au st0 h0
    have hs1 := p1.shp hs
    have au1 : aut 37 M h1 := subOK.fr p1 (by decide) (by decide) (by decide) (by decide) (by decide) au
    have hT : ∀ S, S ∈ T → S ∈ LL M := rcL_sub hLL rc (stt_mem st0 h0)
    obtain ⟨h2, j, e2, p2, res⟩ := without_ok hs1 au1 st0 rc hl hT mb
    have hs2 := p2.shp hs1
    have p12 : zfr [54, 55, 56, 57] h h2 := (p1.mono (by decide)).same (p2.mono (by decide))
    unfold kX0_findLastComponent_7 bX0_findLastComponent_40
    simp (disch := omega) only [show ¬ (256 ≤ r) by omega, eq_false hj, e1, e2, SC (hs), zl_eq, bsm, ZS, ZT, ZN, ZU, eq_self, true_and, and_true, and_self, or_true, true_or, or_false, false_or, not_true, not_false_eq_true, Nat.reduceAdd, Nat.reduceMul, Nat.reduceLT, Nat.reduceLeDiff, Nat.reduceEqDiff, ↓reduceIte, ZQ, Bool.true_eq_false, Bool.false_eq_true, Bool.not_true, Bool.not_false]
    rcases res with ⟨rfl, all⟩ | ⟨S1, s1, m1, no⟩
    · obtain ⟨f, rfl⟩ : ∃ k, f = k + 1 := ⟨f - 1, by omega⟩
      show wp (kX0_findLastComponent_7 54 37 (zloop (lX0_findLastComponent_7 54 37) f) (nI 255) (nI (r + 1)) h2) _
      unfold kX0_findLastComponent_7 bX0_findLastComponent_40
      simp (disch := omega) only [show ¬ (256 ≤ r + 1) by omega, SC (hs2), zl_eq, bsm, ZS, ZT, ZN, ZU, eq_self, true_and, and_true, and_self, or_true, true_or, or_false, false_or, not_true, not_false_eq_true, Nat.reduceAdd, Nat.reduceMul, Nat.reduceLT, Nat.reduceLeDiff, Nat.reduceEqDiff, ↓reduceIte, ZQ, Bool.true_eq_false, Bool.false_eq_true, Bool.not_true, Bool.not_false]
      exact wp_some ⟨p12, T, ⟨S0, rc, stt_mem st0 h0, hl, hT, all⟩, mb.fr p2 (by decide)⟩
    · have h10 : S1 ≠ 0 := fun z => rc.2.1 (by rw [← z]; exact m1)
      obtain ⟨T1, rc1⟩ := rcEx (M := M) ((LL_good M).2 S1 (stt_mem s1 h10)).2 h10
      obtain ⟨T0, rc0, hl0⟩ := hex
      have hsub : ∀ S, S ∈ T1 → S ∈ T0 := fun S hS => (rcL_uniq rc rc0 S).mp (rcL_sub rc rc1 m1 S hS)
      have hlt := nodup_le rc1.1 rc0.1 hsub rc0.2.2.1 (fun z => by
        obtain ⟨w, w1, w2⟩ := rc1.2.2.2.2 S0 z
        exact no w w1 w2)
      have au2 : aut 37 M h2 := subOK.fr p2 (by decide) (by decide) (by decide) (by decide) (by decide) au1
      obtain ⟨h3, e3, p3, q3⟩ := ih f (r + 1) j S1 h2 hs2 au2 s1 h10 ⟨T1, rc1, by omega⟩ (by omega) (by omega)
      exact ⟨h3, e3, p12.same p3, q3⟩
theorem findLast_ok (hs : Sh h) (au : aut 37 M h) (hE : ess M ≠ 0) : ∃ h' T, fX0_findLastComponent 54 37 h = some h' ∧ zfr [54, 55, 56, 57] h h' ∧ lastC M T ∧ mbI M T h' := by
  obtain ⟨j0, e0, s0⟩ := start_ok (sub37 hs) au (LL_good M)
  have hLL := LLrc hE
  have hlen : (LL M).length ≤ 255 := (LL_good M).len
  obtain ⟨h1, e1, p1, T, q1, q2⟩ := lastLoop hE 255 zfu 0 j0 (ess M) h hs au s0 hE ⟨LL M, hLL, hlen⟩ (by omega) (by decide)
  refine ⟨h1, T, ?_, p1, q1, q2⟩
  unfold fX0_findLastComponent
  simp (disch := omega) only [e0, SC (hs), zl_eq, bsm, ZS, ZT, ZN, ZU, eq_self, true_and, and_true, and_self, or_true, true_or, or_false, false_or, not_true, not_false_eq_true, Nat.reduceAdd, Nat.reduceMul, Nat.reduceLT, Nat.reduceLeDiff, Nat.reduceEqDiff, ↓reduceIte, ZQ, Bool.true_eq_false, Bool.false_eq_true, Bool.not_true, Bool.not_false]
  exact e1
end LC
