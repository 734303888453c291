/-! CALL: cover -/
theorem stopF {n v0 τ : Nat} {la : Nat → Nat → Nat} (hv : v0 < n) (hle : ∀ v l, v < n → l < 4 → la v l ≤ n) (t2 : ∀ t, t < τ → t / 4 < (bq (vF la) (v0 + 1) t).1.length) (t3 : (bq (vF la) (v0 + 1) τ).1.length ≤ τ / 4) : τ % 4 = 0 ∧ τ / 4 ≤ n ∧ ∀ t, t ≤ τ → (bq (vF la) (v0 + 1) t).1.length ≤ n ∧ ∀ P, P ∈ (bq (vF la) (v0 + 1) t).1 → 1 ≤ P ∧ P ≤ n := by
  obtain ⟨τ', a1, a2, a3, a4, -, -, a7⟩ := VQ_facts hv hle
  have : τ = τ' := by
    rcases Nat.lt_trichotomy τ τ' with q | q | q
    · have := a1 τ q; omega
    · exact q
    · have := t2 τ' q; omega
  subst this
  exact ⟨a3, a4, a7⟩
theorem findCover_ok {h h2 : ZH} {n v r τ s : Nat} {le : Nat → Nat → Nat} (hs : Sh h) (e2 : fX11_findMembers 117 (nI s) h = some (nI 0, h2)) (hs2 : Sh h2) (n1 : 1 ≤ n) (h8 : n ≤ 8) (v30 : zI h2 117 30 = nI n) (lr : leR n le h2) (hle : ∀ v l, v < n → l < 4 → le v l ≤ n) (hr : rsI (BQ (stF n le) (2 ^ n - 1)).1 r) (er : (BQ (stF n le) (2 ^ n - 1)).1.getD r 0 = 2 ^ v) (hv : v < n) (t2 : ∀ t, t < τ → t / 4 < (bq (vF le) (v + 1) t).1.length) (t3 : (bq (vF le) (v + 1) τ).1.length ≤ τ / 4) (hall : ∀ u, u < n → u + 1 ∈ (bq (vF le) (v + 1) τ).1) : wp (fX11_findCover 117 (nI s) h) (fun y => y.1 = nI 0 ∧ zfr [117, 125, 136, 137, 140, 141, 142, 143] h2 y.2 ∧ (∀ k, k ≠ 28 → k ≠ 12 → zI y.2 117 k = zI h2 117 k) ∧ cvT n le (bq (vF le) (v + 1) τ).1 y.2) := by
  obtain ⟨τ4, τn, hb⟩ := stopF hv hle t2 t3
  obtain ⟨h3, e3, p3, k3, s3⟩ := clearSeen_ok hs2 0
  have hs3 := p3.shp hs2
  obtain ⟨⟨w, h4⟩, e4, q1, p4, k4, -, -⟩ := findReset_ok hs3 n1 h8 (by rw [k3 30 (by decide)]; exact v30) (fun k hk l hl => by rw [p3.I (by decide)]; exact lr k hk l hl) hle hr er
  dsimp only at q1 p4 k4
  subst q1
  have hs4 := p4.shp hs3
  obtain ⟨h5, e5, p5, k5, s5⟩ := clearSeen_ok hs4 1
  have hs5 := p5.shp hs4
  obtain ⟨h6, e6, p6, k6, s6⟩ := seI_0 (d := vF le) (A := v + 1) (x := v) hs5 s5 (by omega) rfl (by omega)
  have hs6 := p6.shp hs5
  have pp : zfr [117, 125, 136, 137, 140, 141, 142, 143] h2 h6 := (((p3.trans p4).trans p5).trans p6).mono (by decide)
  have kk : ∀ k, k ≠ 28 → k ≠ 12 → zI h6 117 k = zI h2 117 k := fun k a b => by rw [k6 k a, k5 k a, k4 k a b, k3 k a]
  have lr6 : leR n le h6 := fun k hk l hl => by rw [pp.I (by decide)]; exact lr k hk l hl
  have bI := BI_all (d := vF le) (A := v + 1) (by omega) τ t2
  unfold fX11_findCover fX11_resetEnd
  simp (disch := omega) only [e2, SR (hs), zl_eq, bsm, ZS, ZT, ZN, ZU, eq_self, true_and, and_true, and_self, or_true, true_or, or_false, false_or, not_true, not_false_eq_true, Nat.reduceAdd, Nat.reduceMul, Nat.reduceLT, Nat.reduceLeDiff, Nat.reduceEqDiff, ↓reduceIte, ZQ, Bool.true_eq_false, Bool.false_eq_true, Bool.not_true, Bool.not_false]
  simp (disch := omega) only [e3, SR (hs2), zl_eq, bsm, ZS, ZT, ZN, ZU, eq_self, true_and, and_true, and_self, or_true, true_or, or_false, false_or, not_true, not_false_eq_true, Nat.reduceAdd, Nat.reduceMul, Nat.reduceLT, Nat.reduceLeDiff, Nat.reduceEqDiff, ↓reduceIte, ZQ, Bool.true_eq_false, Bool.false_eq_true, Bool.not_true, Bool.not_false]
  simp (disch := omega) only [e4, e5, e6, SR (hs3), zl_eq, bsm, ZS, ZT, ZN, ZU, eq_self, true_and, and_true, and_self, or_true, true_or, or_false, false_or, not_true, not_false_eq_true, Nat.reduceAdd, Nat.reduceMul, Nat.reduceLT, Nat.reduceLeDiff, Nat.reduceEqDiff, ↓reduceIte, ZQ, Bool.true_eq_false, Bool.false_eq_true, Bool.not_true, Bool.not_false]
  refine numR hs6 h8 hv lr6 hle t2 t3 τ4 τn hb s6 (fun h7 p7 k7 nu => ?_)
  have hs7 := p7.shp hs6
  refine wp_mono (coverT hs7 h8 (by rw [k7 30 (by decide), kk 30 (by decide) (by decide)]; exact v30) (fun k hk l hl => by rw [p7.I (by decide)]; exact lr6 k hk l hl) hle bI.2.1 (hb τ (Nat.le_refl τ)).2 hall nu) (fun y hy => ?_)
  exact ⟨hy.1, (pp.same (p7.mono (by decide))).same (hy.2.1.mono (by decide)), fun k a b => by rw [hy.2.1.I (by decide), k7 k a, kk k a b], hy.2.2⟩
/-- the rows of the stored graph -/
theorem cover36 {h : ZH} {n t : Nat} {le : Nat → Nat → Nat} {Q : List Nat} {P : Int32 × ZH → Prop} (hs : Sh h) (h8 : n ≤ 8) (v30 : zI h 117 30 = nI n) (cv : cvT n le Q h) (ql : Q.length = n) (hQ : ∀ P, P ∈ Q → 1 ≤ P ∧ P ≤ n) (hpos : ∀ v l, v < n → l < 4 → le v l ≠ 0 → pos Q (le v l) < 8) (z : ∀ j, j < 32 → zI h 119 j = nI 0)
    (K : ∀ h', zfr [119] h h' → vI h' 119 32 (shp le Q) → wp ((fX11_replace 117 (nI t) h').bind fun h3 => (gI h3 11 117 30).bind fun v4 => some (v4, h3)) P) : wp (zloop (lX11_cover_36 117 (nI t)) zfu (nI 0, h)) P := by
  have hsh : ∀ i l, i < n → l < 4 → shp le Q (4 * i + l) = if le (Q.getD i 0 - 1) l = 0 then 0 else 2 ^ pos Q (le (Q.getD i 0 - 1) l) := by
    intro i l hi hl
    have b := hQ _ (getD_mem (show i < Q.length by omega))
    unfold shp vF
    rw [show (4 * i + l) / 4 = i by omega, show (4 * i + l) % 4 = l by omega, if_neg (show ¬ Q.getD i 0 = 0 by omega)]
    by_cases q : le (Q.getD i 0 - 1) l = 0
    · rw [if_neg (fun z => z.2 q), if_pos q]
    · rw [if_pos ⟨by omega, q⟩, if_neg q]
  have hout : ∀ j, 4 * n ≤ j → shp le Q j = 0 := fun j hj => by
    unfold shp
    rw [if_neg (fun z => by have := z.1; omega)]
  refine wloop (fun x y => y.1 = nI x ∧ zfr [119] h y.2 ∧ (∀ j, j < x → zI y.2 119 j = nI (shp le Q j)) ∧ ∀ j, x ≤ j → j < 32 → zI y.2 119 j = nI 0) (4 * n) (fun x y self hx hy ih => ?_) (show 4 * n < 100000 by omega) ⟨rfl, zfr.refl h, fun j hj => by omega, fun j _ hj => z j hj⟩
  obtain ⟨y, h3⟩ := y
  obtain ⟨rfl, p3, q3, r3⟩ := hy
  dsimp only at p3 q3 r3
  have hs3 := p3.shp hs
  have v3 : zI h3 117 30 = nI n := by rw [p3.I (by decide)]; exact v30
  show wp (kX11_cover_36 117 (nI t) self (nI x) h3) _
  unfold kX11_cover_36 bX11_cover_77
  by_cases hlt : x < 4 * n
  · have c1 := cv (x / 4) (by omega) (x % 4) (by omega)
    have c2 := hsh (x / 4) (x % 4) (by omega) (by omega)
    rw [show 4 * (x / 4) + x % 4 = x by omega] at c1 c2
    have b := hQ _ (getD_mem (show x / 4 < Q.length by omega))
    have c0 : zI h3 143 x = zI h 143 x := by rw [p3.I (by decide)]
    have c1' := c0.trans c1
    have next : ∀ h5, h5 = zsI h3 (zu (zI h3) 119 x (nI (shp le Q x))) → wp (self (nI (x + 1), h5)) P := by
      intro h5 e5
      rw [e5]
      refine ih _ hlt ⟨rfl, p3.same zfr_uI, fun j hj => ?_, fun j h1 h2 => ?_⟩
      · dsimp only [zI_zsI]
        rw [zu_at]
        by_cases e : j = x
        · rw [if_pos e, e]
        · rw [if_neg e]; exact q3 j (by omega)
      · dsimp only [zI_zsI]
        rw [zu_at, if_neg (by omega)]
        exact r3 j (by omega) h2
    have hp := hpos (Q.getD (x / 4) 0 - 1) (x % 4) (by omega) (by omega)
    by_cases q : le (Q.getD (x / 4) 0 - 1) (x % 4) = 0
    · rw [if_pos q] at c1' c2
      simp (disch := omega) only [v3, Nat.not_le.mpr hlt, c1', SR (hs3), zl_eq, bsm, ZS, ZT, ZN, ZU, eq_self, true_and, and_true, and_self, or_true, true_or, or_false, false_or, not_true, not_false_eq_true, Nat.reduceAdd, Nat.reduceMul, Nat.reduceLT, Nat.reduceLeDiff, Nat.reduceEqDiff, ↓reduceIte, ZQ, Bool.true_eq_false, Bool.false_eq_true, Bool.not_true, Bool.not_false]
      exact next _ (by rw [c2])
    · rw [if_neg q] at c1' c2
      have hp' := hp q
      simp (disch := omega) only [v3, Nat.not_le.mpr hlt, c1', SR (hs3), zl_eq, bsm, ZS, ZT, ZN, ZU, eq_self, true_and, and_true, and_self, or_true, true_or, or_false, false_or, not_true, not_false_eq_true, Nat.reduceAdd, Nat.reduceMul, Nat.reduceLT, Nat.reduceLeDiff, Nat.reduceEqDiff, ↓reduceIte, ZQ, Bool.true_eq_false, Bool.false_eq_true, Bool.not_true, Bool.not_false]
      exact next _ (by rw [c2])
  · have : x = 4 * n := by omega
    subst this
    simp (disch := omega) only [v3, Nat.le_refl, SR (hs3), zl_eq, bsm, ZS, ZT, ZN, ZU, eq_self, true_and, and_true, and_self, or_true, true_or, or_false, false_or, not_true, not_false_eq_true, Nat.reduceAdd, Nat.reduceMul, Nat.reduceLT, Nat.reduceLeDiff, Nat.reduceEqDiff, ↓reduceIte, ZQ, Bool.true_eq_false, Bool.false_eq_true, Bool.not_true, Bool.not_false]
    refine K h3 p3 (fun j hj => ?_)
    by_cases q : j < 4 * n
    · exact q3 j q
    · rw [hout j (by omega)]; exact r3 j (by omega) hj
theorem pos_map {f : Nat → Nat} {P : Nat} : ∀ {Q : List Nat}, (∀ a, a ∈ Q → f a = f P → a = P) → pos (Q.map f) (f P) = pos Q P
  | [], _ => rfl
  | a :: Q, h => by
    rw [List.map_cons, pos, pos, pos_map (Q := Q) (fun b hb => h b (List.mem_cons_of_mem _ hb))]
    by_cases e : a = P
    · rw [e, if_pos rfl, if_pos rfl]
    · rw [if_neg e, if_neg (fun z => e (h a (List.mem_cons_self ..) z))]
theorem vP_s {φ : Nat → Nat} {x : Nat} : vP φ (x + 1) = φ x + 1 := by
  unfold vP
  rw [if_neg (by omega), Nat.add_sub_cancel]
theorem shp_map {n : Nat} {la lb : Nat → Nat → Nat} {φ : Nat → Nat} {Q : List Nat} (is : iso n la lb φ) (hQ : ∀ P, P ∈ Q → 1 ≤ P ∧ P ≤ n) (s : Nat) : shp lb (Q.map (vP φ)) s = shp la Q s := by
  have hl : s % 4 < 4 := Nat.mod_lt _ (by decide)
  unfold shp
  rw [List.length_map]
  by_cases hi : s / 4 < Q.length
  · have b := hQ _ (getD_mem hi)
    rw [mapD hi]
    obtain ⟨x, hx⟩ : ∃ x, Q.getD (s / 4) 0 = x + 1 := ⟨Q.getD (s / 4) 0 - 1, by omega⟩
    rw [hx, vP_s, vF_s, vF_s]
    rw [hx] at b
    rcases is.2.2.2 x (s % 4) (by omega) hl with ⟨z1, z2⟩ | ⟨z0, z1, z2⟩
    · rw [z1, z2, if_neg (fun z => z.2 rfl), if_neg (fun z => z.2 rfl)]
    · have hb : lb (φ x) (s % 4) ≠ 0 := by omega
      rw [if_pos ⟨hi, hb⟩, if_pos ⟨hi, z0⟩]
      obtain ⟨y, hy⟩ : ∃ y, la x (s % 4) = y + 1 := ⟨la x (s % 4) - 1, by omega⟩
      rw [hy, Nat.add_sub_cancel] at z2
      rw [z2, hy, ← vP_s, pos_map]
      intro a ha e
      have ba := hQ a ha
      obtain ⟨u, rfl⟩ : ∃ u, a = u + 1 := ⟨a - 1, by omega⟩
      rw [vP_s, vP_s] at e
      have := is.2.1 u y (by omega) (by omega) (by omega)
      rw [this]
  · rw [if_neg (fun z => hi z.1), if_neg (fun z => hi z.1)]
theorem c_cover (a1 a2 : Int32) : Ok2 (fX10_cover 0 a1 a2) (fX11_cover 117 a1 a2) := by
  refine Ok2.of (fun h G n c hI => ?_)
  have hs := hI.1
  rcases cSlot a1 with b | ⟨s, h6, rfl⟩
  · refine Ok2.same hI (r := -2) ?_ ?_
    · simp (disch := omega) only [fX10_cover, bX10_cover_14, fun q => (b q).1, SC (hs), zl_eq, bsm, ZS, ZT, ZN, ZU, eq_self, true_and, and_true, and_self, or_true, true_or, or_false, false_or, not_true, not_false_eq_true, Nat.reduceAdd, Nat.reduceMul, Nat.reduceLT, Nat.reduceLeDiff, Nat.reduceEqDiff, ↓reduceIte, ZQ, Bool.true_eq_false, Bool.false_eq_true, Bool.not_true, Bool.not_false]
    · simp (disch := omega) only [fX11_cover, bX11_cover_14, fun q => (b q).2, SR (hs), zl_eq, bsm, ZS, ZT, ZN, ZU, eq_self, true_and, and_true, and_self, or_true, true_or, or_false, false_or, not_true, not_false_eq_true, Nat.reduceAdd, Nat.reduceMul, Nat.reduceLT, Nat.reduceLeDiff, Nat.reduceEqDiff, ↓reduceIte, ZQ, Bool.true_eq_false, Bool.false_eq_true, Bool.not_true, Bool.not_false]
  rcases cSlot a2 with b | ⟨t, ht, rfl⟩
  · refine Ok2.same hI (r := -2) ?_ ?_
    · simp (disch := omega) only [fX10_cover, bX10_cover_14, isSlot_ok h6, fun q => (b q).1, SC hs, ZN, bsm, eq_self, and_self, Nat.reduceEqDiff, ↓reduceIte]
    · simp (disch := omega) only [fX11_cover, bX11_cover_14, rSlot_ok h6, fun q => (b q).2, SR hs, ZN, bsm, eq_self, and_self, Nat.reduceEqDiff, ↓reduceIte]
  obtain ⟨h1, r, e1, g1, res⟩ := bothCover hI h6
  have hs1 := g1.1
  rcases res with ⟨hr, h2, e2, g2⟩ | ⟨T, Ld, cl, r0, v0, τ, cv, rfl, ref⟩
  · refine ⟨r, ?_⟩
    have n1 : (r ≤ 0) = True := by rcases hr with rfl | rfl <;> decide
    have n2 : (r = 0) = False := by rcases hr with rfl | rfl <;> decide
    unfold fX10_cover fX11_cover bX10_cover_51
    simp (disch := omega) only [isSlot_ok h6, isSlot_ok ht, e1, n1, SC (hs), zl_eq, bsm, ZS, ZT, ZN, ZU, eq_self, true_and, and_true, and_self, or_true, true_or, or_false, false_or, not_true, not_false_eq_true, Nat.reduceAdd, Nat.reduceMul, Nat.reduceLT, Nat.reduceLeDiff, Nat.reduceEqDiff, ↓reduceIte, ZQ, Bool.true_eq_false, Bool.false_eq_true, Bool.not_true, Bool.not_false]
    refine wp_some ⟨rfl, ?_⟩
    dsimp only
    unfold fX11_findCover
    simp (disch := omega) only [rSlot_ok h6, rSlot_ok ht, e2, n2, SR (hs1), zl_eq, bsm, ZS, ZT, ZN, ZU, eq_self, true_and, and_true, and_self, or_true, true_or, or_false, false_or, not_true, not_false_eq_true, Nat.reduceAdd, Nat.reduceMul, Nat.reduceLT, Nat.reduceLeDiff, Nat.reduceEqDiff, ↓reduceIte, ZQ, Bool.true_eq_false, Bool.false_eq_true, Bool.not_true, Bool.not_false]
    exact wp_some ⟨rfl, G, n, c, g2⟩
  · obtain ⟨lc, vt, l1, -, -, -, -, rs, er, hv0, t2, t3, hM⟩ := cv
    have h8 : Ld.length ≤ 8 := vt.1
    have hle : ∀ v l, v < Ld.length → l < 4 → le1 (G s) Ld cl v l ≤ Ld.length := fun v l hv hl => le1_le lc vt hv hl
    obtain ⟨τ4, τn, hb⟩ := stopF hv0 hle t2 t3
    have bI := BI_all (d := vF (le1 (G s) Ld cl)) (A := v0 + 1) (by omega) τ t2
    have rc := rcD_of bI t3
    have hall : ∀ v, v < Ld.length → v + 1 ∈ (bq (vF (le1 (G s) Ld cl)) (v0 + 1) τ).1 := fun v hv => reachV lc vt hv0 hv rc
    have e12 : gR h1 0 54 13 = some 71 := (gR_ok (O54 hs1).1 (O54 hs1).2).trans (Rr hs1 (by decide) (by decide) (by decide) (by decide))
    have esh : fX0_shape 54 h1 = some (71, h1) := by
      unfold fX0_shape
      rw [if_pos (O54 hs1), e12, bsm]
    obtain ⟨h3, e3, p3, q3⟩ := copyOf_ok (g31 hs1) (g71 hs1) hM
    have g3 := g1.fr (fq.of p3 (by decide) (by decide))
    obtain ⟨h5, e5, m5, -, -⟩ := storeFresh_ok g3 ht q3
    have hs5 := m5.1
    obtain ⟨h7, Q, le, φ, e7, p7, k7, mr, lr, hQl, is⟩ := ref h5 hs5 m5.rg
    have hs7 := p7.shp hs5
    have v30 := mr.1
    rw [hQl] at v30 lr
    obtain ⟨rs', er', -⟩ := reset_rs l1 h8 is rs hv0 er
    have nm := fun t => (number_map is hv0 t).2
    have len : ∀ t, (bq (vF le) (φ v0 + 1) t).1.length = (bq (vF (le1 (G s) Ld cl)) (v0 + 1) t).1.length := fun t => by rw [nm]; exact List.length_map _
    have hall' : ∀ u, u < Ld.length → u + 1 ∈ (bq (vF le) (φ v0 + 1) τ).1 := fun u hu => by
      obtain ⟨v, hv, rfl⟩ := is.2.2.1 u hu
      rw [nm]
      exact List.mem_map.mpr ⟨v + 1, hall v hv, vP_s⟩
    have t2' : ∀ t, t < τ → t / 4 < (bq (vF le) (φ v0 + 1) t).1.length := fun t ht => by rw [len]; exact t2 t ht
    have t3' : (bq (vF le) (φ v0 + 1) τ).1.length ≤ τ / 4 := by rw [len]; exact t3
    have hv' := is.1 v0 hv0
    obtain ⟨-, -, hb'⟩ := stopF hv' (iso_leB is) t2' t3'
    obtain ⟨⟨w, h9⟩, e9, q1, p9, k9, cT⟩ := findCover_ok (n := Ld.length) (v := φ v0) (s := s) hs5 e7 hs7 l1 h8 v30 lr (iso_leB is) rs' er' hv' t2' t3' hall'
    dsimp only at q1 p9 k9 cT
    subst q1
    have hs9 := p9.shp hs7
    have ecl := clearMade_ok hs9
    have p10 : zfr [119] h9 (zsI h9 (zfil (zI h9) 119 32 (fun _ => nI 0))) := zfr_filI
    have z10 : ∀ j, j < 32 → zI (zsI h9 (zfil (zI h9) 119 32 (fun _ => nI 0))) 119 j = nI 0 := fun j hj => by
      dsimp only [zI_zsI]
      rw [zfil_in hj]
    generalize zsI h9 (zfil (zI h9) 119 32 (fun _ => nI 0)) = h10 at ecl p10 z10
    have hs10 := p10.shp hs9
    have bI' := BI_all (d := vF le) (A := φ v0 + 1) (by omega) τ t2'
    have ql : (bq (vF le) (φ v0 + 1) τ).1.length = Ld.length := by
      have a := (hb' τ (Nat.le_refl τ)).1
      have b := nodup_le (A := (List.range Ld.length).map (fun v => v + 1)) (B := 0 :: (bq (vF le) (φ v0 + 1) τ).1) (y := 0) (by
        rw [List.nodup_iff_pairwise_ne, List.pairwise_map]
        refine List.Pairwise.imp_of_mem ?_ List.nodup_range
        intro a b ha hb hab e
        omega) (List.nodup_cons.mpr ⟨bI'.2.2.1, bI'.2.1⟩) (by
        intro x hx
        obtain ⟨v, hv, e⟩ := List.mem_map.mp hx
        rw [← e]
        exact List.mem_cons_of_mem _ (hall' v (List.mem_range.mp hv))) (List.mem_cons_self ..) (by
        intro m
        obtain ⟨v, -, e⟩ := List.mem_map.mp m
        omega)
      rw [List.length_map, List.length_range, List.length_cons] at b
      omega
    have hpos : ∀ v l, v < Ld.length → l < 4 → le v l ≠ 0 → pos (bq (vF le) (φ v0 + 1) τ).1 (le v l) < 8 := by
      intro v l hv hl hz
      have a := iso_leB is v l hv hl
      have m := hall' (le v l - 1) (by omega)
      rw [show le v l - 1 + 1 = le v l by omega] at m
      obtain ⟨i, i1, i2⟩ := mem_getD m
      rw [← i2, pos_at bI'.2.1 i1]
      omega
    have l0 : (nI Ld.length ≤ 0) = False := by
      have bl : ¬ (Ld.length ≤ 0) := by omega
      have : (nI Ld.length ≤ nI 0) = False := by
        simp (disch := omega) only [eq_false bl, zl_eq, bsm, ZS, ZT, ZN, ZU, eq_self, true_and, and_true, and_self, or_true, true_or, or_false, false_or, not_true, not_false_eq_true, Nat.reduceAdd, Nat.reduceMul, Nat.reduceLT, Nat.reduceLeDiff, Nat.reduceEqDiff, ↓reduceIte, ZQ, Bool.true_eq_false, Bool.false_eq_true, Bool.not_true, Bool.not_false]
      exact this
    have v30' : zI h10 117 30 = nI Ld.length := by rw [p10.I (by decide), k9 30 (by decide) (by decide)]; exact v30
    refine ⟨nI Ld.length, ?_⟩
    unfold fX10_cover fX11_cover bX10_cover_51
    simp (disch := omega) only [isSlot_ok h6, isSlot_ok ht, e1, l0, SC (hs), zl_eq, bsm, ZS, ZT, ZN, ZU, eq_self, true_and, and_true, and_self, or_true, true_or, or_false, false_or, not_true, not_false_eq_true, Nat.reduceAdd, Nat.reduceMul, Nat.reduceLT, Nat.reduceLeDiff, Nat.reduceEqDiff, ↓reduceIte, ZQ, Bool.true_eq_false, Bool.false_eq_true, Bool.not_true, Bool.not_false]
    simp (disch := omega) only [esh, e3, SC (hs1), zl_eq, bsm, ZS, ZT, ZN, ZU, eq_self, true_and, and_true, and_self, or_true, true_or, or_false, false_or, not_true, not_false_eq_true, Nat.reduceAdd, Nat.reduceMul, Nat.reduceLT, Nat.reduceLeDiff, Nat.reduceEqDiff, ↓reduceIte, ZQ, Bool.true_eq_false, Bool.false_eq_true, Bool.not_true, Bool.not_false]
    simp (disch := omega) only [e5, SC (g3.1), zl_eq, bsm, ZS, ZT, ZN, ZU, eq_self, true_and, and_true, and_self, or_true, true_or, or_false, false_or, not_true, not_false_eq_true, Nat.reduceAdd, Nat.reduceMul, Nat.reduceLT, Nat.reduceLeDiff, Nat.reduceEqDiff, ↓reduceIte, ZQ, Bool.true_eq_false, Bool.false_eq_true, Bool.not_true, Bool.not_false]
    refine wp_some ⟨rfl, ?_⟩
    dsimp only
    simp (disch := omega) only [rSlot_ok h6, rSlot_ok ht, e9, SR (hs5), zl_eq, bsm, ZS, ZT, ZN, ZU, eq_self, true_and, and_true, and_self, or_true, true_or, or_false, false_or, not_true, not_false_eq_true, Nat.reduceAdd, Nat.reduceMul, Nat.reduceLT, Nat.reduceLeDiff, Nat.reduceEqDiff, ↓reduceIte, ZQ, Bool.true_eq_false, Bool.false_eq_true, Bool.not_true, Bool.not_false]
    simp (disch := omega) only [ecl, SR (hs9), zl_eq, bsm, ZS, ZT, ZN, ZU, eq_self, true_and, and_true, and_self, or_true, true_or, or_false, false_or, not_true, not_false_eq_true, Nat.reduceAdd, Nat.reduceMul, Nat.reduceLT, Nat.reduceLeDiff, Nat.reduceEqDiff, ↓reduceIte, ZQ, Bool.true_eq_false, Bool.false_eq_true, Bool.not_true, Bool.not_false]
    refine cover36 (n := Ld.length) (le := le) (Q := (bq (vF le) (φ v0 + 1) τ).1) hs10 h8 v30' (fun i hi l hl => by rw [p10.I (by decide)]; exact cT i hi l hl) ql (hb' τ (Nat.le_refl τ)).2 hpos z10 (fun h11 p11 v11 => ?_)
    have hs11 := p11.shp hs10
    have hN : vI h11 119 32 (shp (le1 (G s) Ld cl) (bq (vF (le1 (G s) Ld cl)) (v0 + 1) τ).1) := fun j hj => by
      rw [v11 j hj, nm]
      dsimp only
      rw [shp_map is (hb τ (Nat.le_refl τ)).2]
    have m9 := (m5.fr (fq.of2 p7 (by decide) (fun k hk => k7 k (by omega) (by omega) (by omega) (by omega)))).fr (fq.of2 p9 (by decide) (fun k hk => k9 k (by omega) (by omega)))
    have m11 := (m9.fr (fq118 p10)).fr (fq118 p11)
    obtain ⟨h12, e12', g12⟩ := mid_replace ht m11 hN
    obtain ⟨nh, lat, a1, a2, a3, a4, -⟩ := m11.2.2.2.1
    obtain ⟨h13, e13, -, k13, -⟩ := replace_ok hs11 ht a1 a4
    have ee : h13 = h12 := Option.some.inj (e13.symm.trans e12')
    subst ee
    have v13 : zI h13 117 30 = nI Ld.length := by rw [k13 30 (by decide), p11.I (by decide)]; exact v30'
    rw [e13, bsm]
    simp (disch := omega) only [v13, SR (g12.1), zl_eq, bsm, ZS, ZT, ZN, ZU, eq_self, true_and, and_true, and_self, or_true, true_or, or_false, false_or, not_true, not_false_eq_true, Nat.reduceAdd, Nat.reduceMul, Nat.reduceLT, Nat.reduceLeDiff, Nat.reduceEqDiff, ↓reduceIte, ZQ, Bool.true_eq_false, Bool.false_eq_true, Bool.not_true, Bool.not_false]
    exact wp_some ⟨rfl, _, n, c, g12⟩
