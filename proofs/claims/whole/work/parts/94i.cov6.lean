/-! COVERS: the object's classes, and its graph of them -/
def vtx (M : Nat → Nat) (T Ld : List Nat) (cl : Nat → Nat) : Prop := Ld.length ≤ 8 ∧ (∀ v, v < Ld.length → Ld.getD v 0 ∈ T) ∧ (∀ u v, u < v → v < Ld.length → ¬ eqv M (Ld.getD u 0) (Ld.getD v 0)) ∧ ∀ S, S ∈ T → cl S < Ld.length ∧ eqv M S (Ld.getD (cl S) 0)
section MG
variable {M : Nat → Nat} {h : ZH} {T Ld : List Nat} {cl : Nat → Nat}
theorem vtx_iff (g : vtx M T Ld cl) {S R : Nat} (hS : S ∈ T) (hR : R ∈ T) : cl S = cl R ↔ eqv M S R := by
  obtain ⟨s1, s2⟩ := g.2.2.2 S hS
  obtain ⟨r1, r2⟩ := g.2.2.2 R hR
  constructor
  · intro e
    rw [e] at s2
    exact eqv_tr s2 (eqv_sym r2)
  · intro e
    have h := eqv_tr (eqv_sym s2) (eqv_tr e r2)
    rcases Nat.lt_trichotomy (cl S) (cl R) with q | q | q
    · exact absurd h (g.2.2.1 _ _ q r1)
    · exact q
    · exact absurd (eqv_sym h) (g.2.2.1 _ _ q s1)
theorem merge_ok (hs : Sh h) (au : aut 37 M h) (lc : lastC M T) (mb : mbI M T h) : ∃ h' b, fX0_mergeMembers 54 37 h = some (nI (b : Bool).toNat, h') ∧ zfr [54, 58, 59, 60] h h' ∧ (b = true → ∃ Ld cl, vtx M T Ld cl ∧ clH M T cl h' ∧ ldH M Ld h' ∧ zI h' 54 7 = nI Ld.length) ∧ (b = false → ∃ X : List Nat, X.length = 9 ∧ (∀ v, v < 9 → X.getD v 0 ∈ T) ∧ ∀ u v, u < v → v < 9 → ¬ eqv M (X.getD u 0) (X.getD v 0)) := by
  obtain ⟨S0, rc, hS0, hl, hT, con⟩ := lc
  have nd := rc.1
  have t0 := rc.2.1
  have tc := rc.2.2.2.1
  have hpos : 0 < T.length := List.length_pos_of_mem rc.2.2.1
  have key : wp (fX0_mergeMembers 54 37 h) (fun y => ∃ b, y.1 = nI (b : Bool).toNat ∧ zfr [54, 58, 59, 60] h y.2 ∧ (b = true → ∃ Ld cl, vtx M T Ld cl ∧ clH M T cl y.2 ∧ ldH M Ld y.2 ∧ zI y.2 54 7 = nI Ld.length) ∧ (b = false → ∃ X : List Nat, X.length = 9 ∧ (∀ v, v < 9 → X.getD v 0 ∈ T) ∧ ∀ u v, u < v → v < 9 → ¬ eqv M (X.getD u 0) (X.getD v 0))) := by
    unfold fX0_mergeMembers
    simp (disch := omega) only [SC (hs), zl_eq, bsm, ZS, ZT, ZN, ZU, eq_self, true_and, and_true, and_self, or_true, true_or, or_false, false_or, not_true, not_false_eq_true, Nat.reduceAdd, Nat.reduceMul, Nat.reduceLT, Nat.reduceLeDiff, Nat.reduceEqDiff, ↓reduceIte, ZQ, Bool.true_eq_false, Bool.false_eq_true, Bool.not_true, Bool.not_false]
    refine wloop (fun m y => y.1 = nI m ∧ zfr [58] h y.2 ∧ ∀ j, j < m → zI y.2 58 j = if nmS M j ∈ T then nI 0 else -1) 256 (fun m y self2 hm hy ih2 => ?_) (by decide) ⟨rfl, zfr.refl h, (fun j hj => by omega)⟩
    obtain ⟨y1, h2⟩ := y
    obtain ⟨rfl, p2, c2⟩ := hy
    dsimp only at p2 c2
    have hs2 := p2.shp hs
    show wp (kX0_mergeMembers_2 54 37 self2 (nI m) h2) _
    unfold kX0_mergeMembers_2
    by_cases hml : m < 256
    · have vm : zI h2 55 m = nI (decide (nmS M m ∈ T)).toNat := by rw [p2.I (by decide)]; exact mb m hml
      have nxt : ∀ v : Int32, (v = if nmS M m ∈ T then nI 0 else -1) → wp (bX0_mergeMembers_28 self2 54 37 (nI m) v (nI m) 58 h2) _ := fun v hv => by
        unfold bX0_mergeMembers_28
        simp (disch := omega) only [SC (hs2), zl_eq, bsm, ZS, ZT, ZN, ZU, eq_self, true_and, and_true, and_self, or_true, true_or, or_false, false_or, not_true, not_false_eq_true, Nat.reduceAdd, Nat.reduceMul, Nat.reduceLT, Nat.reduceLeDiff, Nat.reduceEqDiff, ↓reduceIte, ZQ, Bool.true_eq_false, Bool.false_eq_true, Bool.not_true, Bool.not_false]
        refine ih2 _ hml ⟨rfl, p2.same zfr_uI, fun j hj => ?_⟩
        dsimp only [zI_zsI]
        rw [zu_at]
        by_cases e : j = m
        · rw [if_pos e, e]
          exact hv
        · rw [if_neg e]
          exact c2 j (by omega)
      by_cases hmem : nmS M m ∈ T
      · rw [decide_eq_true hmem, Bool.toNat_true] at vm
        simp (disch := omega) only [Nat.not_le.mpr hml, vm, SC (hs2), zl_eq, bsm, ZS, ZT, ZN, ZU, eq_self, true_and, and_true, and_self, or_true, true_or, or_false, false_or, not_true, not_false_eq_true, Nat.reduceAdd, Nat.reduceMul, Nat.reduceLT, Nat.reduceLeDiff, Nat.reduceEqDiff, ↓reduceIte, ZQ, Bool.true_eq_false, Bool.false_eq_true, Bool.not_true, Bool.not_false]
        exact nxt _ (by rw [if_pos hmem])
      · rw [decide_eq_false hmem, Bool.toNat_false] at vm
        simp (disch := omega) only [Nat.not_le.mpr hml, vm, SC (hs2), zl_eq, bsm, ZS, ZT, ZN, ZU, eq_self, true_and, and_true, and_self, or_true, true_or, or_false, false_or, not_true, not_false_eq_true, Nat.reduceAdd, Nat.reduceMul, Nat.reduceLT, Nat.reduceLeDiff, Nat.reduceEqDiff, ↓reduceIte, ZQ, Bool.true_eq_false, Bool.false_eq_true, Bool.not_true, Bool.not_false]
        exact nxt _ (by rw [if_neg hmem])
    · have hme : m = 256 := by omega
      subst hme
      simp (disch := omega) only [Nat.le_refl, SC (hs2), zl_eq, bsm, ZS, ZT, ZN, ZU, eq_self, true_and, and_true, and_self, or_true, true_or, or_false, false_or, not_true, not_false_eq_true, Nat.reduceAdd, Nat.reduceMul, Nat.reduceLT, Nat.reduceLeDiff, Nat.reduceEqDiff, ↓reduceIte, ZQ, Bool.true_eq_false, Bool.false_eq_true, Bool.not_true, Bool.not_false]
      have p3 : zfr [54, 58, 59, 60] h (zsI h2 (zu (zI h2) 54 7 (nI 1))) := (p2.mono (by decide)).same (zfr_uI.mono (by decide))
      have z6 : zI (zsI h2 (zu (zI h2) 54 7 (nI 1))) 54 7 = nI 1 := by dsimp only [zI_zsI]; rw [zu_at, if_pos rfl]
      have cH0 : clH M T (fun _ => 0) (zsI h2 (zu (zI h2) 54 7 (nI 1))) := fun j S st => by
        dsimp only [zI_zsI]
        rw [zu_ne (by decide)]
        rw [c2 j (by have := (stt255 st).1; omega), nmS_of st]
      have cl0 : clsf M 0 T [S0] (fun _ => 0) := by
        refine ⟨⟨fun v hv => ?_, fun u v huv hv => ?_⟩, fun S hS => ⟨Nat.one_pos, ?_⟩⟩
        · have : v < 1 := hv
          have : v = 0 := by omega
          subst this
          exact rc.2.2.1
        · have : v < 1 := hv
          omega
        · refine eqk_0.mpr ⟨fun _ z => t0 (by rw [← show S0 = 0 from z]; exact rc.2.2.1), fun _ z => t0 (by rw [← z]; exact hS)⟩
      generalize zsI h2 (zu (zI h2) 54 7 (nI 1)) = h3 at p3 z6 cH0
      refine wloop (fun r y => y.1 = nI r ∧ zfr [54, 58, 59, 60] h y.2 ∧ ∃ Ld cl, zI y.2 54 7 = nI (Ld : List Nat).length ∧ clsf M r T Ld cl ∧ Ld.length ≤ 8 ∧ clH M T cl y.2 ∧ r + 1 ≤ Ld.length) 8 (fun r y self hr hy ih => ?_) (by decide) ⟨rfl, p3, [S0], fun _ => 0, z6, cl0, (show 1 ≤ 8 by decide), cH0, Nat.le_refl _⟩
      obtain ⟨y1, h4⟩ := y
      obtain ⟨rfl, p4, Ld, cl, s4, g4, l8, cH4, hrl⟩ := hy
      dsimp only at p4 s4 cH4
      have hs4 := p4.shp hs
      have au4 : aut 37 M h4 := subOK.fr p4 (by decide) (by decide) (by decide) (by decide) (by decide) au
      have mb4 := mb.fr p4 (by decide)
      obtain ⟨h5, rr, e5, p5, res⟩ := split_ok hs4 au4 t0 tc hT mb4 g4 l8 cH4
      have hs5 := p5.shp hs4
      have p45 : zfr [54, 58, 59, 60] h h5 := p4.same (p5.mono (by decide))
      have s5 : zI h5 54 7 = nI Ld.length := by rw [p5.I (by decide)]; exact s4
      show wp (kX0_mergeMembers_42 54 37 self (nI r) h4) _
      unfold kX0_mergeMembers_42
      rcases res with ⟨L2, c2', rfl, l82, g5, cH5, lh5⟩ | ⟨rfl, X, hX, ldX⟩
      · by_cases heq : L2.length = Ld.length
        · simp (disch := omega) only [show ¬ (8 < r) by omega, e5, SC (hs4), zl_eq, bsm, ZS, ZT, ZN, ZU, eq_self, true_and, and_true, and_self, or_true, true_or, or_false, false_or, not_true, not_false_eq_true, Nat.reduceAdd, Nat.reduceMul, Nat.reduceLT, Nat.reduceLeDiff, Nat.reduceEqDiff, ↓reduceIte, ZQ, Bool.true_eq_false, Bool.false_eq_true, Bool.not_true, Bool.not_false]
          simp (disch := omega) only [eq_true l82, s5, eq_true heq, SC (hs5), zl_eq, bsm, ZS, ZT, ZN, ZU, eq_self, true_and, and_true, and_self, or_true, true_or, or_false, false_or, not_true, not_false_eq_true, Nat.reduceAdd, Nat.reduceMul, Nat.reduceLT, Nat.reduceLeDiff, Nat.reduceEqDiff, ↓reduceIte, ZQ, Bool.true_eq_false, Bool.false_eq_true, Bool.not_true, Bool.not_false]
          have st := clsf_stop g4 g5 heq
          refine wp_some ⟨true, rfl, p45, fun _ => ⟨L2, c2', ⟨l82, g5.1.1, fun u v huv hv e => g5.1.2 u v huv hv (eqv_k e), fun S hS => ?_⟩, cH5, lh5, by rw [s5, heq]⟩, (fun z => by cases z)⟩
          obtain ⟨q1, q2⟩ := g5.2 S hS
          exact ⟨q1, eqv_of tc st hS (g5.1.1 _ q1) (eqk_dn q2)⟩
        · have hge := lds_le g5 (lds_up g4.1)
          simp (disch := omega) only [show ¬ (8 < r) by omega, e5, SC (hs4), zl_eq, bsm, ZS, ZT, ZN, ZU, eq_self, true_and, and_true, and_self, or_true, true_or, or_false, false_or, not_true, not_false_eq_true, Nat.reduceAdd, Nat.reduceMul, Nat.reduceLT, Nat.reduceLeDiff, Nat.reduceEqDiff, ↓reduceIte, ZQ, Bool.true_eq_false, Bool.false_eq_true, Bool.not_true, Bool.not_false]
          simp (disch := omega) only [eq_true l82, s5, eq_false heq, SC (hs5), zl_eq, bsm, ZS, ZT, ZN, ZU, eq_self, true_and, and_true, and_self, or_true, true_or, or_false, false_or, not_true, not_false_eq_true, Nat.reduceAdd, Nat.reduceMul, Nat.reduceLT, Nat.reduceLeDiff, Nat.reduceEqDiff, ↓reduceIte, ZQ, Bool.true_eq_false, Bool.false_eq_true, Bool.not_true, Bool.not_false]
          have pf : zfr [54] h5 (zsI h5 (zu (zI h5) 54 7 (nI L2.length))) := zfr_uI
          refine ih _ (by omega) ⟨rfl, p45.same (pf.mono (by decide)), L2, c2', ?_, g5, l82, cH5.fr pf (by decide), by omega⟩
          · dsimp only [zI_zsI]
            rw [zu_at, if_pos rfl]
      · simp (disch := omega) only [show ¬ (8 < r) by omega, e5, SC (hs4), zl_eq, bsm, ZS, ZT, ZN, ZU, eq_self, true_and, and_true, and_self, or_true, true_or, or_false, false_or, not_true, not_false_eq_true, Nat.reduceAdd, Nat.reduceMul, Nat.reduceLT, Nat.reduceLeDiff, Nat.reduceEqDiff, ↓reduceIte, ZQ, Bool.true_eq_false, Bool.false_eq_true, Bool.not_true, Bool.not_false]
        exact wp_some ⟨false, rfl, p45, (fun z => by cases z), fun _ => ⟨X, hX, fun v hv => ldX.1 v (by omega), fun u v huv hv e => ldX.2 u v huv (by omega) (eqv_k e)⟩⟩
  obtain ⟨⟨r, h'⟩, e, b, q1, q2⟩ := key
  dsimp only at q1 q2
  subst q1
  exact ⟨h', b, e, q2⟩
/-- the graph of the classes -/
def mgM (M : Nat → Nat) (Ld : List Nat) (cl : Nat → Nat) (i : Nat) : Nat := if i / 4 < Ld.length ∧ ims M (Ld.getD (i / 4) 0) (i % 4) ≠ 0 then 2 ^ cl (ims M (Ld.getD (i / 4) 0) (i % 4)) else 0
theorem mgM_at {v l : Nat} (hl : l < 4) : mgM M Ld cl (4 * v + l) = if v < Ld.length ∧ ims M (Ld.getD v 0) l ≠ 0 then 2 ^ cl (ims M (Ld.getD v 0) l) else 0 := by
  unfold mgM
  rw [show (4 * v + l) / 4 = v by omega, show (4 * v + l) % 4 = l by omega]
theorem hasM_cong {m : Nat} {A B : Nat → Nat} (g : hasM h m A) (e : ∀ j, j < 32 → A j = B j) : hasM h m B := fun j hj => by rw [← e j hj]; exact g j hj
theorem link_okC (hs : Sh h) (au : aut 37 M h) (t0 : 0 ∉ T) (tc : ∀ S, S ∈ T → ∀ l, l < 4 → ims M S l = 0 ∨ ims M S l ∈ T) (g : vtx M T Ld cl) (cH : clH M T cl h) (lh : ldH M Ld h) (s6 : zI h 54 7 = nI Ld.length) : ∃ h', fX0_linkClasses 54 37 h = some h' ∧ zfr [62] h h' ∧ hasM h' 62 (mgM M Ld cl) := by
  have l8 := g.1
  have key : wp (fX0_linkClasses 54 37 h) (fun h' => zfr [62] h h' ∧ hasM h' 62 (mgM M Ld cl)) := by
    obtain ⟨h1, e1, p1, q1⟩ := clear_ok (g61 hs)
    unfold fX0_linkClasses
    simp (disch := omega) only [e1, SC (hs), zl_eq, bsm, ZS, ZT, ZN, ZU, eq_self, true_and, and_true, and_self, or_true, true_or, or_false, false_or, not_true, not_false_eq_true, Nat.reduceAdd, Nat.reduceMul, Nat.reduceLT, Nat.reduceLeDiff, Nat.reduceEqDiff, ↓reduceIte, ZQ, Bool.true_eq_false, Bool.false_eq_true, Bool.not_true, Bool.not_false]
    refine wloop (fun v y => y.1 = nI v ∧ zfr [62] h y.2 ∧ hasM y.2 62 (uW (mgM M Ld cl) (4 * v + 0))) Ld.length (fun v y self hv hy ih => ?_) (show Ld.length < 100000 by omega) ⟨rfl, p1, by rw [uW_0]; exact q1⟩
    obtain ⟨y, h2⟩ := y
    obtain ⟨rfl, p2, q2⟩ := hy
    dsimp only at p2 q2
    have hs2 := p2.shp hs
    have s2 : zI h2 54 7 = nI Ld.length := by rw [p2.I (by decide)]; exact s6
    show wp (kX0_linkClasses_9 54 37 self (nI v) h2) _
    unfold kX0_linkClasses_9 bX0_linkClasses_66
    by_cases hvl : v < Ld.length
    · simp (disch := omega) only [s2, Nat.not_le.mpr hvl, show ¬ (8 ≤ v) by omega, SC (hs2), zl_eq, bsm, ZS, ZT, ZN, ZU, eq_self, true_and, and_true, and_self, or_true, true_or, or_false, false_or, not_true, not_false_eq_true, Nat.reduceAdd, Nat.reduceMul, Nat.reduceLT, Nat.reduceLeDiff, Nat.reduceEqDiff, ↓reduceIte, ZQ, Bool.true_eq_false, Bool.false_eq_true, Bool.not_true, Bool.not_false]
      refine wloop (fun l y => y.1 = nI l ∧ zfr [62] h y.2 ∧ hasM y.2 62 (uW (mgM M Ld cl) (4 * v + l))) 4 (fun l y self2 hl hy ih2 => ?_) (by decide) ⟨rfl, p2, q2⟩
      obtain ⟨y, h3⟩ := y
      obtain ⟨rfl, p3, q3⟩ := hy
      dsimp only at p3 q3
      have hs3 := p3.shp hs
      have au3 : aut 37 M h3 := subOK.fr p3 (by decide) (by decide) (by decide) (by decide) (by decide) au
      show wp (kX0_linkClasses_25 self 54 37 (nI v) self2 (nI l) h3) _
      unfold kX0_linkClasses_25
      by_cases hl4 : l < 4
      · obtain ⟨j, ej, sj⟩ := lh v hvl
        have ej3 : zI h3 60 v = nI j := by rw [p3.I (by decide)]; exact ej
        obtain ⟨k, ek, sk⟩ := afterC hs3 au3 sj hl4
        have bk := stt255 sk
        have bj := stt255 sj
        have vk := classOf_ok hs3 t0 (cH.fr p3 (by decide)) sk
        have mgv := mgM_at (M := M) (Ld := Ld) (cl := cl) (v := v) hl4
        rcases tc _ (g.2.1 v hvl) l hl4 with z | z
        · rw [z, if_neg t0] at vk
          rw [z, if_neg (fun q => q.2 rfl)] at mgv
          have ep := put_no (h := h3) (g61 hs3) (v := nI v) (l := nI l) (x := (-1 : Int32)) (Or.inl (by decide))
          simp (disch := omega) only [Nat.not_le.mpr hl4, ej3, ek, vk, ep, SC (hs3), zl_eq, bsm, ZS, ZT, ZN, ZU, eq_self, true_and, and_true, and_self, or_true, true_or, or_false, false_or, not_true, not_false_eq_true, Nat.reduceAdd, Nat.reduceMul, Nat.reduceLT, Nat.reduceLeDiff, Nat.reduceEqDiff, ↓reduceIte, ZQ, Bool.true_eq_false, Bool.false_eq_true, Bool.not_true, Bool.not_false]
          refine ih2 _ hl4 ⟨rfl, p3, ?_⟩
          rw [← Nat.add_assoc, ← uW_put, mgv, uW_nil]
          exact q3
        · have hz : ims M (Ld.getD v 0) l ≠ 0 := fun q => t0 (by rw [← q]; exact z)
          have hc := (g.2.2.2 _ z).1
          rw [if_pos z] at vk
          rw [if_pos ⟨hvl, hz⟩] at mgv
          obtain ⟨h4, e4, p4, q4⟩ := put_ok (g61 hs3) q3 (v := v) (l := l) (x := cl (ims M (Ld.getD v 0) l)) (by omega) hl4 (by omega)
          simp (disch := omega) only [Nat.not_le.mpr hl4, ej3, ek, vk, e4, SC (hs3), zl_eq, bsm, ZS, ZT, ZN, ZU, eq_self, true_and, and_true, and_self, or_true, true_or, or_false, false_or, not_true, not_false_eq_true, Nat.reduceAdd, Nat.reduceMul, Nat.reduceLT, Nat.reduceLeDiff, Nat.reduceEqDiff, ↓reduceIte, ZQ, Bool.true_eq_false, Bool.false_eq_true, Bool.not_true, Bool.not_false]
          refine ih2 _ hl4 ⟨rfl, p3.same p4, ?_⟩
          rw [uW_at, Nat.zero_or, ← mgv, uW_put] at q4
          exact q4
      · have : l = 4 := by omega
        subst this
        simp (disch := omega) only [Nat.le_refl, SC (hs3), zl_eq, bsm, ZS, ZT, ZN, ZU, eq_self, true_and, and_true, and_self, or_true, true_or, or_false, false_or, not_true, not_false_eq_true, Nat.reduceAdd, Nat.reduceMul, Nat.reduceLT, Nat.reduceLeDiff, Nat.reduceEqDiff, ↓reduceIte, ZQ, Bool.true_eq_false, Bool.false_eq_true, Bool.not_true, Bool.not_false]
        exact ih _ hvl ⟨rfl, p3, by rw [show 4 * (v + 1) + 0 = 4 * v + 4 by omega]; exact q3⟩
    · have : v = Ld.length := by omega
      subst this
      simp (disch := omega) only [s2, Nat.le_refl, SC (hs2), zl_eq, bsm, ZS, ZT, ZN, ZU, eq_self, true_and, and_true, and_self, or_true, true_or, or_false, false_or, not_true, not_false_eq_true, Nat.reduceAdd, Nat.reduceMul, Nat.reduceLT, Nat.reduceLeDiff, Nat.reduceEqDiff, ↓reduceIte, ZQ, Bool.true_eq_false, Bool.false_eq_true, Bool.not_true, Bool.not_false]
      refine wp_some ⟨p2, hasM_cong q2 (fun j hj => ?_)⟩
      unfold uW
      by_cases e : j < 4 * Ld.length + 0
      · rw [if_pos e]
      · rw [if_neg e]
        unfold mgM
        rw [if_neg (fun q => by omega)]
  obtain ⟨h', e, p, q⟩ := key
  exact ⟨h', e, p, q⟩
end MG
