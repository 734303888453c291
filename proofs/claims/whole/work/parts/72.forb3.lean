/-! CALLS: writeForbidden -/
def clt (M : Nat → Nat) (m S : Nat) (t : Option Nat) (r : Nat) : Nat := if r < cfs M m S t 1 then 0 else if r < cfs M m S t 2 then 1 else if r < cfs M m S t 3 then 2 else 3
theorem clt_ok {M : Nat → Nat} {m S r : Nat} {t : Option Nat} (h : r < cf M (m + 1) S t) : clt M m S t r < 4 ∧ cfs M m S t (clt M m S t r) ≤ r ∧ r < cfs M m S t (clt M m S t r) + cfB M m S t (clt M m S t r) := by
  have e : ∀ l, cfs M m S t l + cfB M m S t l = cfs M m S t (l + 1) := fun l => rfl
  rw [e]
  rw [← cfs4] at h
  unfold clt
  by_cases h1 : r < cfs M m S t 1
  · rw [if_pos h1]; exact ⟨by decide, Nat.zero_le _, h1⟩
  · rw [if_neg h1]
    by_cases h2 : r < cfs M m S t 2
    · rw [if_pos h2]; exact ⟨by decide, by omega, h2⟩
    · rw [if_neg h2]
      by_cases h3 : r < cfs M m S t 3
      · rw [if_pos h3]; exact ⟨by decide, by omega, h3⟩
      · rw [if_neg h3]; exact ⟨by decide, by omega, h⟩
theorem cfs_mono {M : Nat → Nat} {m S a : Nat} {t : Option Nat} (b : Nat) (h : a ≤ b) : cfs M m S t a ≤ cfs M m S t b := by
  induction b with
  | zero => rw [show a = 0 by omega]; exact Nat.le_refl _
  | succ b ih =>
    by_cases e : a = b + 1
    · rw [e]; exact Nat.le_refl _
    · rw [cfs]; have := ih (by omega); omega
/-- the number of the r-th such word -/
def sel (M : Nat → Nat) : Nat → Nat → Option Nat → Nat → Nat
  | 0, _, _, _ => 0
  | m + 1, S, t, r => clt M m S t r * 4 ^ m + sel M m (ims M S (clt M m S t r)) (some (tlA M t (clt M m S t r))) (r - cfs M m S t (clt M m S t r))
theorem PP_step (M : Nat → Nat) (m S l k : Nat) (t : Option Nat) (hk : k < 4 ^ (m + 1)) : PP M (m + 1 + 1) S t (l * 4 ^ (m + 1) + k) = (!decide (ims M S l = 0) && PP M (m + 1) (ims M S l) (some (tlA M t l)) k) := by
  have hp : 0 < 4 ^ (m + 1) := Nat.pow_pos (by decide)
  have e1 : (l * 4 ^ (m + 1) + k) / 4 ^ (m + 1) = l := by
    rw [Nat.mul_comm, Nat.mul_add_div hp, Nat.div_eq_of_lt hk, Nat.add_zero]
  have e2 : (l * 4 ^ (m + 1) + k) % 4 ^ (m + 1) = k := by
    rw [Nat.mul_comm, Nat.mul_add_mod, Nat.mod_eq_of_lt hk]
  rw [PP, if_neg (by omega), e1, e2]
theorem cfB_S {M : Nat → Nat} {m S l : Nat} {t : Option Nat} (h : 0 < cfB M (m + 1) S t l) : ims M S l ≠ 0 ∧ cfB M (m + 1) S t l = cf M (m + 1) (ims M S l) (some (tlA M t l)) := by
  unfold cfB at h ⊢
  rw [if_neg (by omega)] at h ⊢
  by_cases e : ims M S l = 0
  · rw [if_pos e] at h; omega
  · rw [if_neg e]; exact ⟨e, rfl⟩
theorem sel_ok (M : Nat → Nat) (m : Nat) : ∀ S t r, r < cf M (m + 1) S t → sel M (m + 1) S t r < 4 ^ (m + 1) ∧ PP M (m + 1) S t (sel M (m + 1) S t r) = true ∧ cnt (PP M (m + 1) S t) (sel M (m + 1) S t r) = r := by
  induction m with
  | zero =>
    intro S t r h
    obtain ⟨l1, l2, l3⟩ := clt_ok h
    have hcp := cnt_PP M 0 S t (clt M 0 S t r) (by omega)
    rw [sel, sel]
    generalize clt M 0 S t r = l at l1 l2 l3 hcp
    rw [Nat.add_zero]
    have hB : cfB M 0 S t l ≤ 1 := by unfold cfB; rw [if_pos rfl]; split <;> decide
    refine ⟨by rw [Nat.pow_zero]; omega, ?_, by rw [hcp]; omega⟩
    rw [PP, if_pos rfl, Nat.pow_zero, Nat.mul_one, Nat.div_one]
    apply decide_eq_true
    apply Classical.byContradiction
    intro hn
    have : cfB M 0 S t l = 0 := by unfold cfB; rw [if_pos rfl, if_neg hn]
    omega
  | succ m ih =>
    intro S t r h
    obtain ⟨l1, l2, l3⟩ := clt_ok h
    have hcp := cnt_PP M (m + 1) S t (clt M (m + 1) S t r) (by omega)
    rw [sel]
    generalize clt M (m + 1) S t r = l at l1 l2 l3 hcp
    obtain ⟨z, eB⟩ := cfB_S (M := M) (m := m) (S := S) (l := l) (t := t) (by omega)
    obtain ⟨i1, i2, i3⟩ := ih (ims M S l) (some (tlA M t l)) (r - cfs M (m + 1) S t l) (by omega)
    generalize sel M (m + 1) (ims M S l) (some (tlA M t l)) (r - cfs M (m + 1) S t l) = k at i1 i2 i3
    have hp : 0 < 4 ^ (m + 1) := Nat.pow_pos (by decide)
    refine ⟨?_, ?_, ?_⟩
    · have e : 4 ^ (m + 1 + 1) = 4 ^ (m + 1) * 4 := Nat.pow_succ ..
      have h1 : l * 4 ^ (m + 1) ≤ 3 * 4 ^ (m + 1) := Nat.mul_le_mul_right _ (by omega)
      omega
    · rw [PP_step M m S l k t i1, decide_eq_false z, i2]; rfl
    · rw [cnt_app, hcp]
      have : cnt (fun k' => PP M (m + 1 + 1) S t (l * 4 ^ (m + 1) + k')) k = cnt (PP M (m + 1) (ims M S l) (some (tlA M t l))) k := cnt_cong (fun k' hk' => by
        rw [PP_step M m S l k' t (by omega), decide_eq_false z]; simp)
      rw [this, i3]
      omega
theorem sel_dig {M : Nat → Nat} {m S r K : Nat} {t : Option Nat} (h : r < cf M (m + 1) S t) (hK : K % 4 ^ (m + 1) = sel M (m + 1) S t r) : K / 4 ^ m % 4 = clt M m S t r ∧ K % 4 ^ m = sel M m (ims M S (clt M m S t r)) (some (tlA M t (clt M m S t r))) (r - cfs M m S t (clt M m S t r)) := by
  obtain ⟨l1, l2, l3⟩ := clt_ok h
  have hp : 0 < 4 ^ m := Nat.pow_pos (by decide)
  have hlt : sel M m (ims M S (clt M m S t r)) (some (tlA M t (clt M m S t r))) (r - cfs M m S t (clt M m S t r)) < 4 ^ m := by
    cases m with
    | zero => rw [sel]; decide
    | succ m =>
      obtain ⟨z, eB⟩ := cfB_S (M := M) (m := m) (S := S) (l := clt M (m + 1) S t r) (t := t) (by omega)
      exact (sel_ok M m _ _ _ (by omega)).1
  rw [sel] at hK
  generalize clt M m S t r = l at l1 hK hlt
  generalize sel M m (ims M S l) (some (tlA M t l)) (r - cfs M m S t l) = k at hK hlt
  constructor
  · rw [← dgt_mod (m := m + 1) (by omega), hK, Nat.mul_comm, Nat.mul_add_div hp, Nat.div_eq_of_lt hlt, Nat.add_zero, Nat.mod_eq_of_lt l1]
  · have e : K % 4 ^ m = K % 4 ^ (m + 1) % 4 ^ m := by
      rw [Nat.mod_mod_of_dvd _ ⟨4, Nat.pow_succ ..⟩]
    rw [e, hK, Nat.mul_comm, Nat.mul_add_mod, Nat.mod_eq_of_lt hlt]
theorem spellForb_ok {h : ZH} {M : Nat → Nat} {m i : Nat} (hs : Sh h) (au : aut 37 M h) (hm : m < 6) (hi : i < cf M (m + 1) (ess M) none) : ∃ h', fX6_spellForbidden 37 (nI (m + 1)) (nI i) 28 h = some h' ∧ zfr [28, 29] h h' ∧ txC (m + 1) (fun j => 97 + dgt (m + 1) (sel M (m + 1) (ess M) none i) j) h' := by
  have gd := LL_good M
  have so := sel_ok M m _ _ _ hi
  generalize hK : sel M (m + 1) (ess M) none i = K at so
  have key : wp (fX6_spellForbidden 37 (nI (m + 1)) (nI i) 28 h) (fun h' => zfr [28, 29] h h' ∧ txC (m + 1) (fun j => 97 + dgt (m + 1) K j) h') := by
    have p0 : zfr [28, 29] h (zsI h (zu (zI h) 28 1 (nI 0))) := (zfr_uI (a := 28)).mono (by decide)
    have t0 : zI (zsI h (zu (zI h) 28 1 (nI 0))) 28 1 = nI 0 := by dsimp only [zI_zsI]; rw [zu_at, if_pos rfl]
    unfold fX6_spellForbidden
    rw [if_pos (O37 hs), tclear_ok (T28 hs), bsm]
    generalize zsI h (zu (zI h) 28 1 (nI 0)) = h0 at p0 t0
    have au0 : aut 37 M h0 := subOK.fr p0 (by decide) (by decide) (by decide) (by decide) (by decide) au
    obtain ⟨j0, es, st0⟩ := start_ok (sub37 (p0.shp hs)) au0 gd
    rw [es, bsm]
    refine wloop (fun a y => (∃ r S t j, y.1 = nI r ∧ y.2.1 = nI j ∧ stt (LL M) j S ∧ ttl M y.2.2.1 t ∧ (a < m + 1 → r < cf M (m + 1 - a) S t) ∧ K % 4 ^ (m + 1 - a) = sel M (m + 1 - a) S t r) ∧ y.2.2.2.1 = nI (m + 1 - a) ∧ zfr [28, 29] h y.2.2.2.2 ∧ txC a (fun j => 97 + dgt (m + 1) K j) y.2.2.2.2) (m + 1) (fun a y self ha hy ih => ?_) (show m + 1 < 100000 by omega) ⟨⟨i, ess M, none, j0, rfl, rfl, st0, (show ttl M (-1) none from rfl), fun _ => hi, by rw [Nat.sub_zero, hK, Nat.mod_eq_of_lt so.1]⟩, rfl, p0, t0, fun i hi => by omega⟩
    obtain ⟨x4, x5, x6, x7, h1⟩ := y
    obtain ⟨⟨r, S, t, j, rfl, rfl, st, tt, hr, hKr⟩, rfl, p1, t1⟩ := hy
    dsimp only at tt p1 t1
    have hs1 := p1.shp hs
    have au1 : aut 37 M h1 := subOK.fr p1 (by decide) (by decide) (by decide) (by decide) (by decide) au
    show wp (kX6_spellForbidden_19 37 28 self (nI r) (nI j) x6 (nI (m + 1 - a)) h1) _
    unfold kX6_spellForbidden_19
    by_cases hlt : a < m + 1
    · obtain ⟨q, hq⟩ : ∃ q, m + 1 - a = q + 1 := ⟨m - a, by omega⟩
      have hr' := hr hlt
      rw [hq] at hr' hKr ⊢
      obtain ⟨l1, l2, l3⟩ := clt_ok hr'
      obtain ⟨d1, d2⟩ := sel_dig hr' hKr
      have rb := cf_le M S t (m := q + 1) (by omega)
      generalize clt M q S t r = l at l1 l2 l3 d1 d2
      have ed : dgt (m + 1) K a = l := by
        unfold dgt
        rw [show m + 1 - 1 - a = q by omega]; exact d1
      rw [if_neg (nI_nle (by omega) (by omega))]
      refine wloop (fun l' y => y.1 = nI (r - cfs M q S t l') ∧ y.2.1 = nI l' ∧ y.2.2 = h1) l (fun l' y self2 hl' hy ih2 => ?_) (show l < 100000 by omega) ⟨by rw [show cfs M q S t 0 = 0 from rfl, Nat.sub_zero], rfl, rfl⟩
      obtain ⟨z, y, h2⟩ := y
      obtain ⟨rfl, rfl, rfl⟩ := hy
      have eb := cfBy_ok (rec := fX6_countForbiddenFrom 8) (m := q) hs1 au1 (by omega) st tt (show l' < 4 by omega) (fun hq0 j' S' j2 T s1 s2 => by
        obtain ⟨q', rfl⟩ : ∃ q', q = q' + 1 := ⟨q - 1, by omega⟩
        exact cfFrom_ok hs1 au1 q' 8 S' j' (nI j2) (some T) (by omega) (by omega) s1 ⟨j2, rfl, s2⟩)
      have bb := cfB_le M (m := q) S t l' (by omega)
      have hmn := cfs_mono (M := M) (m := q) (S := S) (t := t) l hl'
      show wp (kX6_spellForbidden_27 self 37 28 (nI j) x6 (nI (q + 1)) self2 (nI (r - cfs M q S t l')) (nI l') h2) _
      unfold kX6_spellForbidden_27 bX6_spellForbidden_96
      rw [if_neg (nI_ge (by omega) (by decide)), eb, bsm]
      by_cases hll : l' < l
      · have hm2 := cfs_mono (M := M) (m := q) (S := S) (t := t) l (show l' + 1 ≤ l by omega)
        have e1 : cfs M q S t (l' + 1) = cfs M q S t l' + cfB M q S t l' := rfl
        rw [if_pos (nI_le (by omega) (by omega)), zl_eq, pk_sub (by omega), nI_add]
        exact ih2 _ hll ⟨by dsimp only; congr 1; omega, rfl, rfl⟩
      · have hle : l' = l := by omega
        subst hle
        obtain ⟨h3, e3, p3, t3⟩ := addLC hs1 t1 (by omega) (l := l') (by omega)
        have hs3 := p3.shp hs1
        have au3 : aut 37 M h3 := subOK.fr p3 (by decide) (by decide) (by decide) (by decide) (by decide) au1
        obtain ⟨j1, e4, s4⟩ := after_ok (sub37 hs3) au3 gd (fun l => ims_0 l) st (show l' < 4 by omega)
        obtain ⟨j2, e5, s5⟩ := tailAfter_ok hs3 au3 tt (show l' < 4 by omega)
        rw [if_neg (nI_ge (by omega) (by omega)), e3, bsm, e4, bsm, e5, bsm, pk_m1]
        refine ih _ hlt ⟨⟨r - cfs M q S t l', ims M S l', some (tlA M t l'), j1, rfl, rfl, s4, ⟨j2, rfl, s5⟩, fun h' => ?_, ?_⟩, ?_, p1.same p3, t3.cong (fun j' hj' => ?_)⟩
        · rw [show m + 1 - (a + 1) = q by omega]
          obtain ⟨q', rfl⟩ : ∃ q', q = q' + 1 := ⟨q - 1, by omega⟩
          obtain ⟨z, eB⟩ := cfB_S (M := M) (m := q') (S := S) (l := l') (t := t) (by omega)
          omega
        · rw [show m + 1 - (a + 1) = q by omega]; exact d2
        · dsimp only; congr 1; omega
        · unfold upM
          by_cases ee : j' = a
          · rw [if_pos ee, ee, ed]
          · rw [if_neg ee]
    · have : a = m + 1 := by omega
      subst this
      rw [Nat.sub_self, if_pos (by decide)]
      exact wp_some ⟨p1, t1⟩
  exact key
