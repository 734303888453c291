/-! COVERS: the object's classes, and its graph of them -/
def vtx (M : Nat → Nat) (T Ld : List Nat) (cl : Nat → Nat) : Prop := Ld.length ≤ 8 ∧ (∀ v, v < Ld.length → Ld.getD v 0 ∈ T) ∧ (∀ u v, u < v → v < Ld.length → ¬ eqv M (Ld.getD u 0) (Ld.getD v 0)) ∧ ∀ S, S ∈ T → cl S < Ld.length ∧ eqv M S (Ld.getD (cl S) 0)
section MG
variable {M : Nat → Nat} {h : ZH} {T Ld : List Nat} {cl : Nat → Nat}
theorem vtx_iff (g : vtx M T Ld cl) {S R : Nat} (hS : S ∈ T) (hR : R ∈ T) : cl S = cl R ↔ eqv M S R := by
  obtain ⟨s1, s2⟩ := g.2.2.2 S hS
  obtain ⟨r1, r2⟩ := g.2.2.2 R hR
  constructor
  · intro e
    rw [e] at s2
    exact eqv_tr s2 (eqv_sym r2)
  · intro e
    have h := eqv_tr (eqv_sym s2) (eqv_tr e r2)
    rcases Nat.lt_trichotomy (cl S) (cl R) with q | q | q
    · exact absurd h (g.2.2.1 _ _ q r1)
    · exact q
    · exact absurd (eqv_sym h) (g.2.2.1 _ _ q s1)
theorem merge_ok (hs : Sh h) (au : aut 37 M h) (lc : lastC M T) (mb : mbI M T h) : ∃ h' b, fX0_mergeMembers 54 37 h = some (nI (b : Bool).toNat, h') ∧ zfr [54, 58, 59, 60] h h' ∧ (b = true → ∃ Ld cl, vtx M T Ld cl ∧ clH M T cl h' ∧ ldH M Ld h' ∧ zI h' 54 6 = nI Ld.length) ∧ (b = false → ∃ X : List Nat, X.length = 9 ∧ (∀ v, v < 9 → X.getD v 0 ∈ T) ∧ ∀ u v, u < v → v < 9 → ¬ eqv M (X.getD u 0) (X.getD v 0)) := by
  obtain ⟨S0, rc, hS0, hl, hT, con⟩ := lc
  have nd := rc.1
  have t0 := rc.2.1
  have tc := rc.2.2.2.1
  have hpos : 0 < T.length := List.length_pos_of_mem rc.2.2.1
  have key : wp (fX0_mergeMembers 54 37 h) (fun y => ∃ b, y.1 = nI (b : Bool).toNat ∧ zfr [54, 58, 59, 60] h y.2 ∧ (b = true → ∃ Ld cl, vtx M T Ld cl ∧ clH M T cl y.2 ∧ ldH M Ld y.2 ∧ zI y.2 54 6 = nI Ld.length) ∧ (b = false → ∃ X : List Nat, X.length = 9 ∧ (∀ v, v < 9 → X.getD v 0 ∈ T) ∧ ∀ u v, u < v → v < 9 → ¬ eqv M (X.getD u 0) (X.getD v 0))) := by
    have p1 : zfr [58] h (zsI h (zfil (zI h) 58 256 (fun _ => (-1 : Int32)))) := zfr_filI
    have v1 : ∀ j, j < 256 → zI (zsI h (zfil (zI h) 58 256 (fun _ => (-1 : Int32)))) 58 j = -1 := fun j hj => by dsimp only [zI_zsI]; exact zfil_in hj
    have ef : fJ7_fill_53178 58 (-1) h = some (zsI h (zfil (zI h) 58 256 (fun _ => (-1 : Int32)))) := fillI_ok (Aa hs (by decide) (by decide) (by decide)) (by decide)
    unfold fX0_mergeMembers
    simp (disch := omega) only [ef, SC (hs), zl_eq, bsm, ZS, ZT, ZN, ZU, eq_self, true_and, and_true, and_self, or_true, true_or, or_false, false_or, not_true, not_false_eq_true, Nat.reduceAdd, Nat.reduceMul, Nat.reduceLT, Nat.reduceLeDiff, Nat.reduceEqDiff, ↓reduceIte, ZQ, Bool.true_eq_false, Bool.false_eq_true, Bool.not_true, Bool.not_false]
    generalize zsI h (zfil (zI h) 58 256 (fun _ => (-1 : Int32))) = h1 at p1 v1
    have hs1 := p1.shp hs
    refine wloop (fun m y => y.1 = nI m ∧ zfr [58] h y.2 ∧ (∀ m', m' < m → ∀ j, stt (LL M) j (T.getD m' 0) → zI y.2 58 j = nI 0) ∧ ∀ j S, stt (LL M) j S → S ∉ T → zI y.2 58 j = -1) T.length (fun m y self2 hm hy ih2 => ?_) (show T.length < 100000 by omega) ⟨rfl, p1, (fun m' hm' => by omega), (fun j S st hn => by have := (stt255 st).1; exact v1 j (by omega))⟩
    obtain ⟨y1, h2⟩ := y
    obtain ⟨rfl, p2, c2, n2⟩ := hy
    dsimp only at p2 c2 n2
    have hs2 := p2.shp hs
    have e54 : zI h2 54 1 = nI T.length := by rw [p2.I (by decide)]; exact mb.1
    show wp (kX0_mergeMembers_10 54 37 self2 (nI m) h2) _
    unfold kX0_mergeMembers_10
    by_cases hml : m < T.length
    · obtain ⟨j, ej, sj⟩ := mb.2 m hml
      have bj := (stt255 sj).1
      have ej2 : zI h2 55 m = nI j := by rw [p2.I (by decide)]; exact ej
      have hmem : T.getD m 0 ∈ T := getD_mem hml
      simp (disch := omega) only [e54, Nat.not_le.mpr hml, ej2, SC (hs2), zl_eq, bsm, ZS, ZT, ZN, ZU, eq_self, true_and, and_true, and_self, or_true, true_or, or_false, false_or, not_true, not_false_eq_true, Nat.reduceAdd, Nat.reduceMul, Nat.reduceLT, Nat.reduceLeDiff, Nat.reduceEqDiff, ↓reduceIte, ZQ, Bool.true_eq_false, Bool.false_eq_true, Bool.not_true, Bool.not_false]
      refine ih2 _ hml ⟨rfl, p2.same zfr_uI, fun m' hm' j' sj' => ?_, fun j' S sj' hn => ?_⟩
      · dsimp only [zI_zsI]
        rw [zu_at]
        by_cases e : j' = j
        · rw [if_pos e]
        · rw [if_neg e]
          by_cases em : m' = m
          · rw [em] at sj'
            exact absurd ((stt_eq sj' sj).mpr rfl) e
          · exact c2 m' (by omega) j' sj'
      · have hne : S ≠ T.getD m 0 := fun z => hn (by rw [z]; exact hmem)
        dsimp only [zI_zsI]
        rw [zu_at, if_neg (fun z => hne ((stt_eq sj' sj).mp z))]
        exact n2 j' S sj' hn
    · have hme : m = T.length := by omega
      subst hme
      simp (disch := omega) only [e54, Nat.le_refl, SC (hs2), zl_eq, bsm, ZS, ZT, ZN, ZU, eq_self, true_and, and_true, and_self, or_true, true_or, or_false, false_or, not_true, not_false_eq_true, Nat.reduceAdd, Nat.reduceMul, Nat.reduceLT, Nat.reduceLeDiff, Nat.reduceEqDiff, ↓reduceIte, ZQ, Bool.true_eq_false, Bool.false_eq_true, Bool.not_true, Bool.not_false]
      have p3 : zfr [54, 58, 59, 60] h (zsI h2 (zu (zI h2) 54 6 (nI 1))) := (p2.mono (by decide)).same (zfr_uI.mono (by decide))
      have z6 : zI (zsI h2 (zu (zI h2) 54 6 (nI 1))) 54 6 = nI 1 := by dsimp only [zI_zsI]; rw [zu_at, if_pos rfl]
      have z1 : zI (zsI h2 (zu (zI h2) 54 6 (nI 1))) 54 1 = nI T.length := by dsimp only [zI_zsI]; rw [zu_at, if_neg (by decide)]; exact e54
      have cH0 : clH M T (fun _ => 0) (zsI h2 (zu (zI h2) 54 6 (nI 1))) := fun j S st => by
        dsimp only [zI_zsI]
        rw [zu_ne (by decide)]
        by_cases hS : S ∈ T
        · rw [if_pos hS]
          obtain ⟨m, hm, em⟩ := mem_getD hS
          exact c2 m hm j (by rw [em]; exact st)
        · rw [if_neg hS]; exact n2 j S st hS
      have cl0 : clsf M 0 T [S0] (fun _ => 0) := by
        refine ⟨⟨fun v hv => ?_, fun u v huv hv => ?_⟩, fun S hS => ⟨Nat.one_pos, ?_⟩⟩
        · have : v < 1 := hv
          have : v = 0 := by omega
          subst this
          exact rc.2.2.1
        · have : v < 1 := hv
          omega
        · refine eqk_0.mpr ⟨fun _ z => t0 (by rw [← show S0 = 0 from z]; exact rc.2.2.1), fun _ z => t0 (by rw [← z]; exact hS)⟩
      generalize zsI h2 (zu (zI h2) 54 6 (nI 1)) = h3 at p3 z6 z1 cH0
      refine wloop (fun r y => y.1 = nI r ∧ zfr [54, 58, 59, 60] h y.2 ∧ zI y.2 54 1 = nI T.length ∧ ∃ Ld cl, zI y.2 54 6 = nI (Ld : List Nat).length ∧ clsf M r T Ld cl ∧ Ld.length ≤ 8 ∧ clH M T cl y.2 ∧ r + 1 ≤ Ld.length) 8 (fun r y self hr hy ih => ?_) (by decide) ⟨rfl, p3, z1, [S0], fun _ => 0, z6, cl0, (show 1 ≤ 8 by decide), cH0, Nat.le_refl _⟩
      obtain ⟨y1, h4⟩ := y
      obtain ⟨rfl, p4, z4, Ld, cl, s4, g4, l8, cH4, hrl⟩ := hy
      dsimp only at p4 z4 s4 cH4
      have hs4 := p4.shp hs
      have au4 : aut 37 M h4 := subOK.fr p4 (by decide) (by decide) (by decide) (by decide) (by decide) au
      have mb4 : mbI M T h4 := ⟨z4, fun i hi => by rw [p4.I (by decide)]; exact mb.2 i hi⟩
      obtain ⟨h5, rr, e5, p5, res⟩ := split_ok hs4 au4 nd hl t0 tc mb4 g4 l8 cH4
      have hs5 := p5.shp hs4
      have p45 : zfr [54, 58, 59, 60] h h5 := p4.same (p5.mono (by decide))
      have s5 : zI h5 54 6 = nI Ld.length := by rw [p5.I (by decide)]; exact s4
      have z5 : zI h5 54 1 = nI T.length := by rw [p5.I (by decide)]; exact z4
      show wp (kX0_mergeMembers_43 54 37 self (nI r) h4) _
      unfold kX0_mergeMembers_43
      rcases res with ⟨L2, c2', rfl, l82, g5, cH5, lh5⟩ | ⟨rfl, X, hX, ldX⟩
      · by_cases heq : L2.length = Ld.length
        · simp (disch := omega) only [show ¬ (8 < r) by omega, e5, SC (hs4), zl_eq, bsm, ZS, ZT, ZN, ZU, eq_self, true_and, and_true, and_self, or_true, true_or, or_false, false_or, not_true, not_false_eq_true, Nat.reduceAdd, Nat.reduceMul, Nat.reduceLT, Nat.reduceLeDiff, Nat.reduceEqDiff, ↓reduceIte, ZQ, Bool.true_eq_false, Bool.false_eq_true, Bool.not_true, Bool.not_false]
          simp (disch := omega) only [eq_true l82, s5, eq_true heq, SC (hs5), zl_eq, bsm, ZS, ZT, ZN, ZU, eq_self, true_and, and_true, and_self, or_true, true_or, or_false, false_or, not_true, not_false_eq_true, Nat.reduceAdd, Nat.reduceMul, Nat.reduceLT, Nat.reduceLeDiff, Nat.reduceEqDiff, ↓reduceIte, ZQ, Bool.true_eq_false, Bool.false_eq_true, Bool.not_true, Bool.not_false]
          have st := clsf_stop g4 g5 heq
          refine wp_some ⟨true, rfl, p45, fun _ => ⟨L2, c2', ⟨l82, g5.1.1, fun u v huv hv e => g5.1.2 u v huv hv (eqv_k e), fun S hS => ?_⟩, cH5, lh5, by rw [s5, heq]⟩, (fun z => by cases z)⟩
          obtain ⟨q1, q2⟩ := g5.2 S hS
          exact ⟨q1, eqv_of tc st hS (g5.1.1 _ q1) (eqk_dn q2)⟩
        · have hge := lds_le g5 (lds_up g4.1)
          simp (disch := omega) only [show ¬ (8 < r) by omega, e5, SC (hs4), zl_eq, bsm, ZS, ZT, ZN, ZU, eq_self, true_and, and_true, and_self, or_true, true_or, or_false, false_or, not_true, not_false_eq_true, Nat.reduceAdd, Nat.reduceMul, Nat.reduceLT, Nat.reduceLeDiff, Nat.reduceEqDiff, ↓reduceIte, ZQ, Bool.true_eq_false, Bool.false_eq_true, Bool.not_true, Bool.not_false]
          simp (disch := omega) only [eq_true l82, s5, eq_false heq, SC (hs5), zl_eq, bsm, ZS, ZT, ZN, ZU, eq_self, true_and, and_true, and_self, or_true, true_or, or_false, false_or, not_true, not_false_eq_true, Nat.reduceAdd, Nat.reduceMul, Nat.reduceLT, Nat.reduceLeDiff, Nat.reduceEqDiff, ↓reduceIte, ZQ, Bool.true_eq_false, Bool.false_eq_true, Bool.not_true, Bool.not_false]
          have pf : zfr [54] h5 (zsI h5 (zu (zI h5) 54 6 (nI L2.length))) := zfr_uI
          refine ih _ (by omega) ⟨rfl, p45.same (pf.mono (by decide)), ?_, L2, c2', ?_, g5, l82, cH5.fr pf (by decide), by omega⟩
          · dsimp only [zI_zsI]
            rw [zu_at, if_neg (by decide)]
            exact z5
          · dsimp only [zI_zsI]
            rw [zu_at, if_pos rfl]
      · simp (disch := omega) only [show ¬ (8 < r) by omega, e5, SC (hs4), zl_eq, bsm, ZS, ZT, ZN, ZU, eq_self, true_and, and_true, and_self, or_true, true_or, or_false, false_or, not_true, not_false_eq_true, Nat.reduceAdd, Nat.reduceMul, Nat.reduceLT, Nat.reduceLeDiff, Nat.reduceEqDiff, ↓reduceIte, ZQ, Bool.true_eq_false, Bool.false_eq_true, Bool.not_true, Bool.not_false]
        exact wp_some ⟨false, rfl, p45, (fun z => by cases z), fun _ => ⟨X, hX, fun v hv => ldX.1 v (by omega), fun u v huv hv e => ldX.2 u v huv (by omega) (eqv_k e)⟩⟩
  obtain ⟨⟨r, h'⟩, e, b, q1, q2⟩ := key
  dsimp only at q1 q2
  subst q1
  exact ⟨h', b, e, q2⟩
/-- the graph of the classes -/
def mgM (M : Nat → Nat) (Ld : List Nat) (cl : Nat → Nat) (i : Nat) : Nat := if i / 4 < Ld.length ∧ ims M (Ld.getD (i / 4) 0) (i % 4) ≠ 0 then 2 ^ cl (ims M (Ld.getD (i / 4) 0) (i % 4)) else 0
theorem mgM_at {v l : Nat} (hl : l < 4) : mgM M Ld cl (4 * v + l) = if v < Ld.length ∧ ims M (Ld.getD v 0) l ≠ 0 then 2 ^ cl (ims M (Ld.getD v 0) l) else 0 := by
  unfold mgM
  rw [show (4 * v + l) / 4 = v by omega, show (4 * v + l) % 4 = l by omega]
theorem hasM_cong {m : Nat} {A B : Nat → Nat} (g : hasM h m A) (e : ∀ j, j < 32 → A j = B j) : hasM h m B := fun j hj => by rw [← e j hj]; exact g j hj
theorem link_okC (hs : Sh h) (au : aut 37 M h) (t0 : 0 ∉ T) (tc : ∀ S, S ∈ T → ∀ l, l < 4 → ims M S l = 0 ∨ ims M S l ∈ T) (g : vtx M T Ld cl) (cH : clH M T cl h) (lh : ldH M Ld h) (s6 : zI h 54 6 = nI Ld.length) : ∃ h', fX0_linkClasses 54 37 h = some h' ∧ zfr [62] h h' ∧ hasM h' 62 (mgM M Ld cl) := by
  have l8 := g.1
  have key : wp (fX0_linkClasses 54 37 h) (fun h' => zfr [62] h h' ∧ hasM h' 62 (mgM M Ld cl)) := by
    obtain ⟨h1, e1, p1, q1⟩ := clear_ok (g61 hs)
    unfold fX0_linkClasses
    simp (disch := omega) only [e1, SC (hs), zl_eq, bsm, ZS, ZT, ZN, ZU, eq_self, true_and, and_true, and_self, or_true, true_or, or_false, false_or, not_true, not_false_eq_true, Nat.reduceAdd, Nat.reduceMul, Nat.reduceLT, Nat.reduceLeDiff, Nat.reduceEqDiff, ↓reduceIte, ZQ, Bool.true_eq_false, Bool.false_eq_true, Bool.not_true, Bool.not_false]
    refine wloop (fun v y => y.1 = nI v ∧ zfr [62] h y.2 ∧ hasM y.2 62 (uW (mgM M Ld cl) (4 * v + 0))) Ld.length (fun v y self hv hy ih => ?_) (show Ld.length < 100000 by omega) ⟨rfl, p1, by rw [uW_0]; exact q1⟩
    obtain ⟨y, h2⟩ := y
    obtain ⟨rfl, p2, q2⟩ := hy
    dsimp only at p2 q2
    have hs2 := p2.shp hs
    have s2 : zI h2 54 6 = nI Ld.length := by rw [p2.I (by decide)]; exact s6
    show wp (kX0_linkClasses_9 54 37 self (nI v) h2) _
    unfold kX0_linkClasses_9 bX0_linkClasses_67
    by_cases hvl : v < Ld.length
    · simp (disch := omega) only [s2, Nat.not_le.mpr hvl, show ¬ (8 ≤ v) by omega, SC (hs2), zl_eq, bsm, ZS, ZT, ZN, ZU, eq_self, true_and, and_true, and_self, or_true, true_or, or_false, false_or, not_true, not_false_eq_true, Nat.reduceAdd, Nat.reduceMul, Nat.reduceLT, Nat.reduceLeDiff, Nat.reduceEqDiff, ↓reduceIte, ZQ, Bool.true_eq_false, Bool.false_eq_true, Bool.not_true, Bool.not_false]
      refine wloop (fun l y => y.1 = nI l ∧ zfr [62] h y.2 ∧ hasM y.2 62 (uW (mgM M Ld cl) (4 * v + l))) 4 (fun l y self2 hl hy ih2 => ?_) (by decide) ⟨rfl, p2, q2⟩
      obtain ⟨y, h3⟩ := y
      obtain ⟨rfl, p3, q3⟩ := hy
      dsimp only at p3 q3
      have hs3 := p3.shp hs
      have au3 : aut 37 M h3 := subOK.fr p3 (by decide) (by decide) (by decide) (by decide) (by decide) au
      show wp (kX0_linkClasses_25 self 54 37 (nI v) self2 (nI l) h3) _
      unfold kX0_linkClasses_25
      by_cases hl4 : l < 4
      · obtain ⟨j, ej, sj⟩ := lh v hvl
        have ej3 : zI h3 60 v = nI j := by rw [p3.I (by decide)]; exact ej
        obtain ⟨k, ek, sk⟩ := afterC hs3 au3 sj hl4
        have bk := stt255 sk
        have bj := stt255 sj
        have vk : zI h3 58 k = if ims M (Ld.getD v 0) l ∈ T then nI (cl (ims M (Ld.getD v 0) l)) else -1 := by rw [p3.I (by decide)]; exact cH k _ sk
        have mgv := mgM_at (M := M) (Ld := Ld) (cl := cl) (v := v) hl4
        rcases tc _ (g.2.1 v hvl) l hl4 with z | z
        · rw [z, if_neg t0] at vk
          rw [z, if_neg (fun q => q.2 rfl)] at mgv
          have ep := put_no (h := h3) (g61 hs3) (v := nI v) (l := nI l) (x := (-1 : Int32)) (Or.inl (by decide))
          simp (disch := omega) only [Nat.not_le.mpr hl4, ej3, ek, vk, ep, SC (hs3), zl_eq, bsm, ZS, ZT, ZN, ZU, eq_self, true_and, and_true, and_self, or_true, true_or, or_false, false_or, not_true, not_false_eq_true, Nat.reduceAdd, Nat.reduceMul, Nat.reduceLT, Nat.reduceLeDiff, Nat.reduceEqDiff, ↓reduceIte, ZQ, Bool.true_eq_false, Bool.false_eq_true, Bool.not_true, Bool.not_false]
          refine ih2 _ hl4 ⟨rfl, p3, ?_⟩
          rw [← Nat.add_assoc, ← uW_put, mgv, uW_nil]
          exact q3
        · have hz : ims M (Ld.getD v 0) l ≠ 0 := fun q => t0 (by rw [← q]; exact z)
          have hc := (g.2.2.2 _ z).1
          rw [if_pos z] at vk
          rw [if_pos ⟨hvl, hz⟩] at mgv
          obtain ⟨h4, e4, p4, q4⟩ := put_ok (g61 hs3) q3 (v := v) (l := l) (x := cl (ims M (Ld.getD v 0) l)) (by omega) hl4 (by omega)
          simp (disch := omega) only [Nat.not_le.mpr hl4, ej3, ek, vk, e4, SC (hs3), zl_eq, bsm, ZS, ZT, ZN, ZU, eq_self, true_and, and_true, and_self, or_true, true_or, or_false, false_or, not_true, not_false_eq_true, Nat.reduceAdd, Nat.reduceMul, Nat.reduceLT, Nat.reduceLeDiff, Nat.reduceEqDiff, ↓reduceIte, ZQ, Bool.true_eq_false, Bool.false_eq_true, Bool.not_true, Bool.not_false]
          refine ih2 _ hl4 ⟨rfl, p3.same p4, ?_⟩
          rw [uW_at, Nat.zero_or, ← mgv, uW_put] at q4
          exact q4
      · have : l = 4 := by omega
        subst this
        simp (disch := omega) only [Nat.le_refl, SC (hs3), zl_eq, bsm, ZS, ZT, ZN, ZU, eq_self, true_and, and_true, and_self, or_true, true_or, or_false, false_or, not_true, not_false_eq_true, Nat.reduceAdd, Nat.reduceMul, Nat.reduceLT, Nat.reduceLeDiff, Nat.reduceEqDiff, ↓reduceIte, ZQ, Bool.true_eq_false, Bool.false_eq_true, Bool.not_true, Bool.not_false]
        exact ih _ hvl ⟨rfl, p3, by rw [show 4 * (v + 1) + 0 = 4 * v + 4 by omega]; exact q3⟩
    · have : v = Ld.length := by omega
      subst this
      simp (disch := omega) only [s2, Nat.le_refl, SC (hs2), zl_eq, bsm, ZS, ZT, ZN, ZU, eq_self, true_and, and_true, and_self, or_true, true_or, or_false, false_or, not_true, not_false_eq_true, Nat.reduceAdd, Nat.reduceMul, Nat.reduceLT, Nat.reduceLeDiff, Nat.reduceEqDiff, ↓reduceIte, ZQ, Bool.true_eq_false, Bool.false_eq_true, Bool.not_true, Bool.not_false]
      refine wp_some ⟨p2, hasM_cong q2 (fun j hj => ?_)⟩
      unfold uW
      by_cases e : j < 4 * Ld.length + 0
      · rw [if_pos e]
      · rw [if_neg e]
        unfold mgM
        rw [if_neg (fun q => by omega)]
  obtain ⟨h', e, p, q⟩ := key
  exact ⟨h', e, p, q⟩
end MG
