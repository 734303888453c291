/-! CALL: writeDifference: the reference's search -/
section RF
variable {M1 M2 : Nat → Nat} {h h0 : ZH}
/-- the reference's tables: the queue, and whence each pair came -/
def Rt (M1 M2 : Nat → Nat) (h0 : ZH) (t : Nat) (h : ZH) : Prop := zfr [145, 146] h0 h ∧ (∀ i, i < ql M1 M2 t → zI h 145 i = nI ((bq (pd M1 M2) (256 * ess M1 + ess M2) t).1.getD i 0)) ∧ (∀ P, P < 65536 → P ∉ (bq (pd M1 M2) (256 * ess M1 + ess M2) t).1 → zI h 146 P = -1) ∧ ∀ i, i < ql M1 M2 t → zI h 146 ((bq (pd M1 M2) (256 * ess M1 + ess M2) t).1.getD i 0) = nI (if i = 0 then 0 else 4 * (bq (pd M1 M2) (256 * ess M1 + ess M2) t).1.getD ((bq (pd M1 M2) (256 * ess M1 + ess M2) t).2.getD i 0 / 4) 0 + (bq (pd M1 M2) (256 * ess M1 + ess M2) t).2.getD i 0 % 4)
theorem rtStep {t : Nat} {h1 : ZH} (hA : 256 * ess M1 + ess M2 ≠ 0) (ht : ∀ s, s < t + 1 → s / 4 < ql M1 M2 s) (st : Rt M1 M2 h0 t h) (h0' : nx M1 M2 t ≠ 0) (hin : nx M1 M2 t ∉ (bq (pd M1 M2) (256 * ess M1 + ess M2) t).1) (f : zfr [145, 146] h h1) (w1 : ∀ i, zI h1 145 i = if i = ql M1 M2 t then nI (nx M1 M2 t) else zI h 145 i) (w2 : ∀ P, zI h1 146 P = if P = nx M1 M2 t then nI (4 * (bq (pd M1 M2) (256 * ess M1 + ess M2) t).1.getD (t / 4) 0 + t % 4) else zI h 146 P) : Rt M1 M2 h0 (t + 1) h1 ∧ ql M1 M2 (t + 1) = ql M1 M2 t + 1 := by
  obtain ⟨r1, r2, r3, r4⟩ := st
  have htt := ht t (by omega)
  have bI := BI_all (d := pd M1 M2) hA t (fun s hs => ht s (by omega))
  have hlr : (bq (pd M1 M2) (256 * ess M1 + ess M2) t).2.length = ql M1 M2 t := bI.1
  have hpar : ∀ i, 1 ≤ i → i < ql M1 M2 t → (bq (pd M1 M2) (256 * ess M1 + ess M2) t).2.getD i 0 / 4 < ql M1 M2 t := fun i h1 h2 => by have := (bI.2.2.2.2.2.1 i h1 h2).2.1; omega
  have ebq : bq (pd M1 M2) (256 * ess M1 + ess M2) (t + 1) = ((bq (pd M1 M2) (256 * ess M1 + ess M2) t).1 ++ [nx M1 M2 t], (bq (pd M1 M2) (256 * ess M1 + ess M2) t).2 ++ [t]) := by
    rw [bq_s htt]
    unfold noteL
    rw [if_neg (by rintro (z | z); exact h0' z; exact hin z)]
  have hq1 : ql M1 M2 (t + 1) = ql M1 M2 t + 1 := by
    unfold ql
    rw [ebq, List.length_append]
    rfl
  have hlen : (bq (pd M1 M2) (256 * ess M1 + ess M2) t).1.length = ql M1 M2 t := rfl
  refine ⟨⟨r1.same f, ?_, ?_, ?_⟩, hq1⟩
  · intro i hi
    rw [hq1] at hi
    rw [ebq, w1 i]
    dsimp only
    by_cases z : i = ql M1 M2 t
    · rw [if_pos z, z, ← hlen, getD_r]
    · rw [if_neg z, getD_l (by rw [hlen]; omega)]
      exact r2 i (by omega)
  · intro P hP hn
    rw [ebq] at hn
    dsimp only at hn
    have n1 : P ∉ (bq (pd M1 M2) (256 * ess M1 + ess M2) t).1 := fun z => hn (List.mem_append_left _ z)
    have n2 : P ≠ nx M1 M2 t := fun z => hn (List.mem_append_right _ (by rw [z]; exact List.mem_singleton.mpr rfl))
    rw [w2 P, if_neg n2]
    exact r3 P hP n1
  · intro i hi
    rw [hq1] at hi
    rw [ebq]
    dsimp only
    by_cases z : i = ql M1 M2 t
    · have e1 : ((bq (pd M1 M2) (256 * ess M1 + ess M2) t).1 ++ [nx M1 M2 t]).getD i 0 = nx M1 M2 t := by rw [z, ← hlen, getD_r]
      have e2 : ((bq (pd M1 M2) (256 * ess M1 + ess M2) t).2 ++ [t]).getD i 0 = t := by rw [z, ← hlr, getD_r]
      have i0 : i ≠ 0 := by
        have := bI.2.2.2.1
        omega
      rw [e1, e2, w2, if_pos rfl, if_neg i0, getD_l (by rw [hlen]; exact htt)]
    · have e1 : ((bq (pd M1 M2) (256 * ess M1 + ess M2) t).1 ++ [nx M1 M2 t]).getD i 0 = (bq (pd M1 M2) (256 * ess M1 + ess M2) t).1.getD i 0 := getD_l (by rw [hlen]; omega)
      have e2 : ((bq (pd M1 M2) (256 * ess M1 + ess M2) t).2 ++ [t]).getD i 0 = (bq (pd M1 M2) (256 * ess M1 + ess M2) t).2.getD i 0 := getD_l (by rw [hlr]; omega)
      have hne : (bq (pd M1 M2) (256 * ess M1 + ess M2) t).1.getD i 0 ≠ nx M1 M2 t := fun q => hin (by rw [← q]; exact getD_mem (by rw [hlen]; omega))
      rw [e1, e2, w2, if_neg hne, r4 i (by omega)]
      by_cases i0 : i = 0
      · rw [if_pos i0, if_pos i0]
      · rw [if_neg i0, if_neg i0, getD_l (by rw [hlen]; exact hpar i (by omega) (by omega))]
theorem rtSame {t : Nat} (ht : t / 4 < ql M1 M2 t) (st : Rt M1 M2 h0 t h) (hz : nx M1 M2 t = 0 ∨ nx M1 M2 t ∈ (bq (pd M1 M2) (256 * ess M1 + ess M2) t).1) : Rt M1 M2 h0 (t + 1) h ∧ ql M1 M2 (t + 1) = ql M1 M2 t := by
  have ebq : bq (pd M1 M2) (256 * ess M1 + ess M2) (t + 1) = bq (pd M1 M2) (256 * ess M1 + ess M2) t := by
    rw [bq_s ht]
    unfold noteL
    rw [if_pos hz]
  refine ⟨?_, by unfold ql; rw [ebq]⟩
  unfold Rt ql
  rw [ebq]
  exact st
/-- the last state: the pair that tells the graphs apart has come too -/
def Rfin (M1 M2 : Nat → Nat) (h0 : ZH) (τ : Nat) (h : ZH) : Prop := zfr [145, 146] h0 h ∧ zI h 146 (nx M1 M2 τ) = nI (4 * (bq (pd M1 M2) (256 * ess M1 + ess M2) τ).1.getD (τ / 4) 0 + τ % 4) ∧ ∀ i, 1 ≤ i → i < ql M1 M2 τ → zI h 146 ((bq (pd M1 M2) (256 * ess M1 + ess M2) τ).1.getD i 0) = nI (4 * (bq (pd M1 M2) (256 * ess M1 + ess M2) τ).1.getD ((bq (pd M1 M2) (256 * ess M1 + ess M2) τ).2.getD i 0 / 4) 0 + (bq (pd M1 M2) (256 * ess M1 + ess M2) τ).2.getD i 0 % 4)
theorem loopR {τ : Nat} {Q : Int32 × ZH → Prop} (hA : 256 * ess M1 + ess M2 ≠ 0) (hr : dfB (256 * ess M1 + ess M2) = false) (hs0 : Sh h0) (i1 : ∀ S, S < 256 → ∀ l, l < 4 → zI h0 126 (4 * S + l) = nI (ims M1 S l)) (i2 : ∀ S, S < 256 → ∀ l, l < 4 → zI h0 144 (4 * S + l) = nI (ims M2 S l)) (hτ : τ ≤ 4 * 65536) (h1 : ∀ t, t < τ → t / 4 < ql M1 M2 t ∧ dfB (nx M1 M2 t) = false) (st : Rt M1 M2 h0 0 h)
    (kno : ql M1 M2 τ ≤ τ / 4 → ∀ h', zfr [145, 146] h0 h' → Q (-1, h'))
    (kyes : τ / 4 < ql M1 M2 τ → dfB (nx M1 M2 τ) = true → ∀ h', Rfin M1 M2 h0 τ h' → wp (bX11_writeDifference_285 117 (nI (256 * ess M1 + ess M2)) (nI (nx M1 M2 τ)) h') Q)
    (h2 : ql M1 M2 τ ≤ τ / 4 ∨ (τ / 4 < ql M1 M2 τ ∧ dfB (nx M1 M2 τ) = true)) : wp (zloop (lX11_writeDifference_155 117 (nI (256 * ess M1 + ess M2))) zfu (nI 1, nI 0, h)) Q := by
  have hlt : ∀ t, t ≤ τ → ql M1 M2 t ≤ 65535 := fun t ht => bq_len hA (fun s hs => (h1 s (by omega)).1)
  have q0 : ql M1 M2 0 = 1 := by
    unfold ql
    show (noteL ([], []) _ 0).1.length = 1
    unfold noteL
    rw [if_neg (by rintro (z | z); exact hA z; cases z)]
    rfl
  refine wloop (fun p y => y.1 = nI (ql M1 M2 (4 * p)) ∧ y.2.1 = nI p ∧ Rt M1 M2 h0 (4 * p) y.2.2) (τ / 4) (fun p y self hp hy ih => ?_) (show τ / 4 < 100000 by omega) ⟨by rw [Nat.mul_zero, q0], rfl, st⟩
  obtain ⟨y1, y2, h3⟩ := y
  obtain ⟨rfl, rfl, st3⟩ := hy
  dsimp only at st3
  have hl4 := hlt (4 * p) (by omega)
  show wp (kX11_writeDifference_155 117 (nI (256 * ess M1 + ess M2)) self (nI (ql M1 M2 (4 * p))) (nI p) h3) _
  unfold kX11_writeDifference_155
  by_cases hend : ql M1 M2 (4 * p) ≤ p
  · have hpt : 4 * p = τ := by
      apply Classical.byContradiction
      intro z
      have := (h1 (4 * p) (by omega)).1
      omega
    simp (disch := omega) only [eq_true hend, zl_eq, bsm, ZS, ZT, ZN, ZU, eq_self, true_and, and_true, and_self, or_true, true_or, or_false, false_or, not_true, not_false_eq_true, Nat.reduceAdd, Nat.reduceMul, Nat.reduceLT, Nat.reduceLeDiff, Nat.reduceEqDiff, ↓reduceIte, ZQ, Bool.true_eq_false, Bool.false_eq_true, Bool.not_true, Bool.not_false]
    rw [hpt] at hend
    exact wp_some (kno (by omega) h3 st3.1)
  · have hpq : p < ql M1 M2 (4 * p) := by omega
    have hP65 : (bq (pd M1 M2) (256 * ess M1 + ess M2) (4 * p)).1.getD p 0 < 65536 := bq_lt (4 * p) _ (getD_mem hpq)
    generalize hP : (bq (pd M1 M2) (256 * ess M1 + ess M2) (4 * p)).1.getD p 0 = P at hP65
    simp (disch := omega) only [eq_false hend, zl_eq, bsm, ZS, ZT, ZN, ZU, eq_self, true_and, and_true, and_self, or_true, true_or, or_false, false_or, not_true, not_false_eq_true, Nat.reduceAdd, Nat.reduceMul, Nat.reduceLT, Nat.reduceLeDiff, Nat.reduceEqDiff, ↓reduceIte, ZQ, Bool.true_eq_false, Bool.false_eq_true, Bool.not_true, Bool.not_false]
    refine wloop (fun l y => y.1 = nI (ql M1 M2 (4 * p + l)) ∧ y.2.1 = nI l ∧ Rt M1 M2 h0 (4 * p + l) y.2.2 ∧ p < ql M1 M2 (4 * p + l) ∧ (bq (pd M1 M2) (256 * ess M1 + ess M2) (4 * p + l)).1.getD p 0 = P) (min 4 (τ - 4 * p)) (fun l y self2 hl hy ih2 => ?_) (show min 4 (τ - 4 * p) < 100000 by omega) ⟨rfl, rfl, st3, hpq, hP⟩
    obtain ⟨y1, y2, h4⟩ := y
    obtain ⟨rfl, rfl, st4, hp4, hP4⟩ := hy
    dsimp only at st4
    show wp (kX11_writeDifference_165 self 117 (nI (256 * ess M1 + ess M2)) (nI p) self2 (nI (ql M1 M2 (4 * p + l))) (nI l) h4) _
    unfold kX11_writeDifference_165 bX11_writeDifference_294
    have hs4 : Sh h4 := st4.1.shp hs0
    by_cases hl4' : l = 4
    · subst hl4'
      simp (disch := omega) only [Nat.le_refl, zl_eq, bsm, ZS, ZT, ZN, ZU, eq_self, true_and, and_true, and_self, or_true, true_or, or_false, false_or, not_true, not_false_eq_true, Nat.reduceAdd, Nat.reduceMul, Nat.reduceLT, Nat.reduceLeDiff, Nat.reduceEqDiff, ↓reduceIte, ZQ, Bool.true_eq_false, Bool.false_eq_true, Bool.not_true, Bool.not_false]
      exact ih _ (by omega) ⟨by rw [show 4 * (p + 1) = 4 * p + 4 by omega], rfl, by rw [show 4 * (p + 1) = 4 * p + 4 by omega]; exact st4⟩
    · have hl4 : l < 4 := by omega
      have hlq := hlt (4 * p + l) (by omega)
      have v4 : zI h4 145 p = nI P := by rw [st4.2.1 p hp4, hP4]
      have v5 : zI h4 126 (4 * (P / 256) + l) = nI (ims M1 (P / 256) l) := by rw [st4.1.I (by decide)]; exact i1 _ (by omega) l hl4
      have v9 : zI h4 144 (4 * (P % 256) + l) = nI (ims M2 (P % 256) l) := by rw [st4.1.I (by decide)]; exact i2 _ (by omega) l hl4
      have b5 := ims_lt (M := M1) (S := P / 256) hl4
      have b9 := ims_lt (M := M2) (S := P % 256) hl4
      have enx : nx M1 M2 (4 * p + l) = 256 * ims M1 (P / 256) l + ims M2 (P % 256) l := by
        unfold nx
        rw [show (4 * p + l) / 4 = p by omega, show (4 * p + l) % 4 = l by omega, hP4]
        rfl
      have keep : ∀ z, p < ql M1 M2 (4 * p + (l + 1)) → z = (bq (pd M1 M2) (256 * ess M1 + ess M2) (4 * p + (l + 1))).1.getD p 0 → z = P := fun z _ hz => by
        rw [hz, ← Nat.add_assoc, bq_keep (by rw [show (4 * p + l) / 4 = p by omega]; exact hp4) hp4]
        exact hP4
      have hpn : p < ql M1 M2 (4 * p + (l + 1)) := Nat.lt_of_lt_of_le hp4 (bq_grow (d := pd M1 M2) (A := 256 * ess M1 + ess M2) (4 * p + l))
      have htt : ∀ s, s < 4 * p + l + 1 → s / 4 < ql M1 M2 s := fun s hs => by
        by_cases z : s = 4 * p + l
        · rw [z, show (4 * p + l) / 4 = p by omega]; exact hp4
        · exact (h1 s (by omega)).1
      have hdiv : (4 * p + l) / 4 < ql M1 M2 (4 * p + l) := htt _ (by omega)
      by_cases hz : nx M1 M2 (4 * p + l) = 0
      · -- both are empty
        have hm : l < min 4 (τ - 4 * p) := by
          apply Classical.byContradiction
          intro q
          have hτl : 4 * p + l = τ := by omega
          rcases h2 with z | ⟨-, hd⟩
          · rw [← hτl] at z; omega
          · rw [← hτl, hz] at hd; cases hd
        obtain ⟨rs, rq⟩ := rtSame hdiv st4 (Or.inl hz)
        have e0 : 256 * ims M1 (P / 256) l + ims M2 (P % 256) l = 0 := by rw [← enx]; exact hz
        simp (disch := omega) only [Nat.not_le.mpr hl4, v4, v5, v9, eq_true e0, SR (hs4), zl_eq, bsm, ZS, ZT, ZN, ZU, eq_self, true_and, and_true, and_self, or_true, true_or, or_false, false_or, not_true, not_false_eq_true, Nat.reduceAdd, Nat.reduceMul, Nat.reduceLT, Nat.reduceLeDiff, Nat.reduceEqDiff, ↓reduceIte, ZQ, Bool.true_eq_false, Bool.false_eq_true, Bool.not_true, Bool.not_false]
        exact ih2 _ hm ⟨by rw [← Nat.add_assoc, rq], rfl, rs, hpn, (keep _ hpn rfl)⟩
      · have hn65 : nx M1 M2 (4 * p + l) < 65536 := by omega
        have e0 : ¬ (256 * ims M1 (P / 256) l + ims M2 (P % 256) l = 0) := by rw [← enx]; exact hz
        by_cases hin : nx M1 M2 (4 * p + l) ∈ (bq (pd M1 M2) (256 * ess M1 + ess M2) (4 * p + l)).1
        · have hm : l < min 4 (τ - 4 * p) := by
            apply Classical.byContradiction
            intro q
            have hτl : 4 * p + l = τ := by omega
            rcases h2 with z | ⟨-, hd⟩
            · rw [← hτl] at z; omega
            · have := bq_nd hr τ (fun s hs => (h1 s hs).2) (nx M1 M2 τ) (by rw [← hτl]; exact hin)
              rw [hd] at this; cases this
          obtain ⟨rs, rq⟩ := rtSame hdiv st4 (Or.inr hin)
          obtain ⟨i, hi, ei⟩ := mem_getD hin
          have vc := st4.2.2.2 i hi
          rw [ei, enx] at vc
          have bI := BI_all (d := pd M1 M2) hA (4 * p + l) (fun s hs => htt s (by omega))
          have vb : (if i = 0 then 0 else 4 * (bq (pd M1 M2) (256 * ess M1 + ess M2) (4 * p + l)).1.getD ((bq (pd M1 M2) (256 * ess M1 + ess M2) (4 * p + l)).2.getD i 0 / 4) 0 + (bq (pd M1 M2) (256 * ess M1 + ess M2) (4 * p + l)).2.getD i 0 % 4) < 2 ^ 31 := by
            by_cases i0 : i = 0
            · rw [if_pos i0]; decide
            · have a1 := (bI.2.2.2.2.2.1 i (by omega) hi).2.1
              have a2 := bq_lt (M1 := M1) (M2 := M2) (4 * p + l) _ (getD_mem (show (bq (pd M1 M2) (256 * ess M1 + ess M2) (4 * p + l)).2.getD i 0 / 4 < (bq (pd M1 M2) (256 * ess M1 + ess M2) (4 * p + l)).1.length by omega))
              rw [if_neg i0]
              omega
          generalize (if i = 0 then 0 else 4 * (bq (pd M1 M2) (256 * ess M1 + ess M2) (4 * p + l)).1.getD ((bq (pd M1 M2) (256 * ess M1 + ess M2) (4 * p + l)).2.getD i 0 / 4) 0 + (bq (pd M1 M2) (256 * ess M1 + ess M2) (4 * p + l)).2.getD i 0 % 4) = vv at vc vb
          simp (disch := omega) only [Nat.not_le.mpr hl4, v4, v5, v9, eq_false e0, vc, SR (hs4), zl_eq, bsm, ZS, ZT, ZN, ZU, eq_self, true_and, and_true, and_self, or_true, true_or, or_false, false_or, not_true, not_false_eq_true, Nat.reduceAdd, Nat.reduceMul, Nat.reduceLT, Nat.reduceLeDiff, Nat.reduceEqDiff, ↓reduceIte, ZQ, Bool.true_eq_false, Bool.false_eq_true, Bool.not_true, Bool.not_false]
          exact ih2 _ hm ⟨by rw [← Nat.add_assoc, rq], rfl, rs, hpn, (keep _ hpn rfl)⟩
        · have vc := st4.2.2.1 _ hn65 hin
          rw [enx] at vc
          -- the two writes
          have pa : zfr [145, 146] h4 (zsI h4 (zu (zu (zI h4) 146 (256 * ims M1 (P / 256) l + ims M2 (P % 256) l) (nI (4 * P + l))) 145 (ql M1 M2 (4 * p + l)) (nI (256 * ims M1 (P / 256) l + ims M2 (P % 256) l)))) := zfr_zsI (fun b hb => by
            rw [zu_ne (fun e => hb (by rw [e]; decide)), zu_ne (fun e => hb (by rw [e]; decide))])
          have w1 : ∀ i, zI (zsI h4 (zu (zu (zI h4) 146 (256 * ims M1 (P / 256) l + ims M2 (P % 256) l) (nI (4 * P + l))) 145 (ql M1 M2 (4 * p + l)) (nI (256 * ims M1 (P / 256) l + ims M2 (P % 256) l)))) 145 i = if i = ql M1 M2 (4 * p + l) then nI (nx M1 M2 (4 * p + l)) else zI h4 145 i := fun i => by
            dsimp only [zI_zsI]
            rw [zu_at, zu_ne (by decide), enx]
          have w2 : ∀ i, zI (zsI h4 (zu (zu (zI h4) 146 (256 * ims M1 (P / 256) l + ims M2 (P % 256) l) (nI (4 * P + l))) 145 (ql M1 M2 (4 * p + l)) (nI (256 * ims M1 (P / 256) l + ims M2 (P % 256) l)))) 146 i = if i = nx M1 M2 (4 * p + l) then nI (4 * (bq (pd M1 M2) (256 * ess M1 + ess M2) (4 * p + l)).1.getD ((4 * p + l) / 4) 0 + (4 * p + l) % 4) else zI h4 146 i := fun i => by
            dsimp only [zI_zsI]
            rw [zu_ne (by decide), zu_at, enx, show (4 * p + l) / 4 = p by omega, show (4 * p + l) % 4 = l by omega, hP4]
          by_cases hm : l < min 4 (τ - 4 * p)
          · have hd := (h1 (4 * p + l) (by omega)).2
            rw [enx, dfB_iff b9] at hd
            have n5 : ims M1 (P / 256) l ≠ 0 := fun z => e0 (by have := hd.mp z; omega)
            have n9 : ims M2 (P % 256) l ≠ 0 := fun z => e0 (by have := hd.mpr z; omega)
            obtain ⟨rs, rq⟩ := rtStep hA htt st4 hz hin pa w1 w2
            simp (disch := omega) only [Nat.not_le.mpr hl4, v4, v5, v9, eq_false e0, vc, eq_false n5, eq_false n9, SR (hs4), zl_eq, bsm, ZS, ZT, ZN, ZU, eq_self, true_and, and_true, and_self, or_true, true_or, or_false, false_or, not_true, not_false_eq_true, Nat.reduceAdd, Nat.reduceMul, Nat.reduceLT, Nat.reduceLeDiff, Nat.reduceEqDiff, ↓reduceIte, ZQ, Bool.true_eq_false, Bool.false_eq_true, Bool.not_true, Bool.not_false]
            exact ih2 _ hm ⟨by rw [← Nat.add_assoc, rq], rfl, rs, hpn, (keep _ hpn rfl)⟩
          · have hτl : 4 * p + l = τ := by omega
            rcases h2 with z | ⟨z, hd⟩
            · rw [← hτl] at z; omega
            · have kk := kyes z hd _ ⟨st4.1.same pa, by rw [← hτl, w2, if_pos rfl], fun i hi1 hi2 => by
                rw [← hτl] at hi2 ⊢
                have hne : (bq (pd M1 M2) (256 * ess M1 + ess M2) (4 * p + l)).1.getD i 0 ≠ nx M1 M2 (4 * p + l) := fun q => hin (by rw [← q]; exact getD_mem hi2)
                rw [w2, if_neg hne, st4.2.2.2 i hi2, if_neg (by omega)]⟩
              rw [← hτl, enx] at kk
              by_cases n5 : ims M1 (P / 256) l = 0
              · simp (disch := omega) only [Nat.not_le.mpr hl4, v4, v5, v9, eq_false e0, vc, eq_true n5, SR (hs4), zl_eq, bsm, ZS, ZT, ZN, ZU, eq_self, true_and, and_true, and_self, or_true, true_or, or_false, false_or, not_true, not_false_eq_true, Nat.reduceAdd, Nat.reduceMul, Nat.reduceLT, Nat.reduceLeDiff, Nat.reduceEqDiff, ↓reduceIte, ZQ, Bool.true_eq_false, Bool.false_eq_true, Bool.not_true, Bool.not_false]
                exact kk
              · have n9 : ims M2 (P % 256) l = 0 := by
                  apply Classical.byContradiction
                  intro n9
                  rw [← hτl, enx, (dfB_iff b9).mpr ⟨fun z => absurd z n5, fun z => absurd z n9⟩] at hd
                  cases hd
                simp (disch := omega) only [Nat.not_le.mpr hl4, v4, v5, v9, eq_false e0, vc, eq_false n5, eq_true n9, SR (hs4), zl_eq, bsm, ZS, ZT, ZN, ZU, eq_self, true_and, and_true, and_self, or_true, true_or, or_false, false_or, not_true, not_false_eq_true, Nat.reduceAdd, Nat.reduceMul, Nat.reduceLT, Nat.reduceLeDiff, Nat.reduceEqDiff, ↓reduceIte, ZQ, Bool.true_eq_false, Bool.false_eq_true, Bool.not_true, Bool.not_false]
                exact kk
end RF
