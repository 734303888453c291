/-! COVERS: the graph of the classes -/
section GC
variable {M : Nat → Nat} {T Ld : List Nat} {cl : Nat → Nat}
theorem le1_eq {v l : Nat} : le1 M Ld cl v l = if ims M (Ld.getD v 0) l = 0 then 0 else cl (ims M (Ld.getD v 0) l) + 1 := rfl
theorem outT (lc : lastC M T) {S : Nat} (hS : S ∈ T) : ∃ l, l < 4 ∧ ims M S l ≠ 0 := by
  have hL := memT lc hS
  obtain ⟨i, hi⟩ := nz_bit.mp (LL256 hL).1
  have hie := LL_sb hL i hi
  obtain ⟨i8, x, hx, l, hl, hb⟩ := vi_bit.mp (ess_in hie).2
  refine ⟨l, hl, nz_bit.mpr ⟨x, ?_⟩⟩
  rw [ims_in (LL_sb hL)]
  exact fo_bit.mpr ⟨i, i8, hi, (coreM_bit hl).mpr ⟨hie, hb, hx⟩⟩
theorem stepT (lc : lastC M T) {S l : Nat} (hS : S ∈ T) (hl : l < 4) (h : ims M S l ≠ 0) : ims M S l ∈ T := rnT lc hS (w := [l]) (lts_cons.mpr ⟨hl, lts_nil⟩) h
theorem connT (lc : lastC M T) {S R : Nat} (hS : S ∈ T) (hR : R ∈ T) : ∃ w, lts w ∧ rn (ims M) S w = R := by
  obtain ⟨S0, rc, -, -, -, con⟩ := lc
  obtain ⟨w, w1, w2⟩ := con S hS
  obtain ⟨v, v1, v2⟩ := rc.2.2.2.2 R hR
  exact ⟨w ++ v, lts_app.mpr ⟨w1, v1⟩, by rw [rn_app, w2, v2]⟩
theorem inT (lc : lastC M T) {S : Nat} (hS : S ∈ T) : ∃ R l, R ∈ T ∧ l < 4 ∧ ims M R l = S := by
  obtain ⟨l1, hl1, hz⟩ := outT lc hS
  have h1 := stepT lc hS hl1 hz
  obtain ⟨w, w1, w2⟩ := connT lc h1 hS
  have key : ∀ w : List Nat, lts w → ∀ R l, R ∈ T → l < 4 → ims M R l ∈ T → rn (ims M) (ims M R l) w = S → ∃ R l, R ∈ T ∧ l < 4 ∧ ims M R l = S := by
    intro w
    induction w with
    | nil => intro _ R l hR hl _ e; exact ⟨R, l, hR, hl, e⟩
    | cons a w ih =>
      intro hw R l hR hl hin e
      rw [lts_cons] at hw
      rw [rn_cons] at e
      have hne : ims M (ims M R l) a ≠ 0 := fun z => by
        rw [z, rn_0 (fun l => ims_0 l)] at e
        exact (LL256 (memT lc hS)).1 e.symm
      exact ih hw.2 _ a hin hw.1 (stepT lc hin hw.1 hne) e
  exact key w w1 S l1 hS hl1 h1 w2
theorem cl_ld (vt : vtx M T Ld cl) {v : Nat} (hv : v < Ld.length) : cl (Ld.getD v 0) = v := by
  obtain ⟨c1, c2⟩ := vt.2.2.2 _ (vt.2.1 v hv)
  rcases Nat.lt_trichotomy (cl (Ld.getD v 0)) v with q | q | q
  · exact absurd (eqv_sym c2) (vt.2.2.1 _ _ q hv)
  · exact q
  · exact absurd c2 (vt.2.2.1 _ _ q c1)
/-- the leader goes where each goes -/
theorem le1_cl (lc : lastC M T) (vt : vtx M T Ld cl) {S l : Nat} (hS : S ∈ T) (hl : l < 4) : le1 M Ld cl (cl S) l = if ims M S l = 0 then 0 else cl (ims M S l) + 1 := by
  obtain ⟨c1, c2⟩ := vt.2.2.2 S hS
  have e := eqv_step c2 hl
  have hm := vt.2.1 _ c1
  rw [le1_eq]
  by_cases hz : ims M S l = 0
  · rw [if_pos ((eqv_z e).mp hz), if_pos hz]
  · have hz' : ims M (Ld.getD (cl S) 0) l ≠ 0 := fun q => hz ((eqv_z e).mpr q)
    rw [if_neg hz, if_neg hz', (vtx_iff vt (stepT lc hS hl hz) (stepT lc hm hl hz')).mpr e]
theorem le1_le (lc : lastC M T) (vt : vtx M T Ld cl) {v l : Nat} (hv : v < Ld.length) (hl : l < 4) : le1 M Ld cl v l ≤ Ld.length := by
  rw [le1_eq]
  by_cases hz : ims M (Ld.getD v 0) l = 0
  · rw [if_pos hz]; omega
  · rw [if_neg hz]
    exact (vt.2.2.2 _ (stepT lc (vt.2.1 v hv) hl hz)).1
theorem fo_mg (vt : vtx M T Ld cl) {S l : Nat} (hl : l < 4) : fo (mgM M Ld cl) S l = stF Ld.length (le1 M Ld cl) S l := by
  have h8 := vt.1
  apply sb_eq
  · intro x hx
    obtain ⟨v, v1, v2, v3⟩ := fo_bit.mp hx
    rw [mgM_at hl] at v3
    by_cases q : v < Ld.length ∧ ims M (Ld.getD v 0) l ≠ 0
    · rw [if_pos q, pow_bit] at v3
      refine stF_bit.mpr ⟨v, q.1, v2, ?_⟩
      rw [le1_eq, if_neg q.2, v3]
    · rw [if_neg q, Nat.zero_testBit] at v3
      cases v3
  · intro x hx
    obtain ⟨v, v1, v2, v3⟩ := stF_bit.mp hx
    rw [le1_eq] at v3
    by_cases z : ims M (Ld.getD v 0) l = 0
    · rw [if_pos z] at v3; omega
    · rw [if_neg z] at v3
      refine fo_bit.mpr ⟨v, by omega, v2, ?_⟩
      rw [mgM_at hl, if_pos ⟨v1, z⟩, pow_bit]
      omega
theorem ess_mg (lc : lastC M T) (vt : vtx M T Ld cl) : ess (mgM M Ld cl) = 2 ^ Ld.length - 1 := by
  have h8 := vt.1
  have bitF : ∀ i, (2 ^ Ld.length - 1).testBit i = true ↔ i < Ld.length := fun i => by rw [Nat.testBit_two_pow_sub_one, decide_eq_true_iff]
  have p8 : 2 ^ Ld.length ≤ 2 ^ 8 := Nat.pow_le_pow_right (by decide) h8
  have ppos : 0 < 2 ^ Ld.length := Nat.pow_pos (by decide)
  apply sb_eq
  · intro x hx
    obtain ⟨x8, y, -, l, hl, hb⟩ := vi_bit.mp (ess_in hx).2
    rw [mgM_at hl] at hb
    by_cases q : x < Ld.length ∧ ims M (Ld.getD x 0) l ≠ 0
    · exact (bitF x).mpr q.1
    · rw [if_neg q, Nat.zero_testBit] at hb
      cases hb
  · refine ess_top (by omega) (fun x hx => ?_)
    have hxn := (bitF x).mp hx
    have hm := vt.2.1 x hxn
    refine cs_bit.mpr ⟨hx, fa_bit.mpr ?_, vi_bit.mpr ⟨by omega, ?_⟩⟩
    · obtain ⟨R, l, hR, hl, e⟩ := inT lc hm
      obtain ⟨c1, c2⟩ := vt.2.2.2 R hR
      have hz : ims M R l ≠ 0 := fun z => (LL256 (memT lc hm)).1 (by rw [← e]; exact z)
      have h1 := le1_cl lc vt hR hl
      rw [if_neg hz, e, cl_ld vt hxn, le1_eq] at h1
      by_cases z : ims M (Ld.getD (cl R) 0) l = 0
      · rw [if_pos z] at h1; omega
      · rw [if_neg z] at h1
        refine ⟨cl R, by omega, (bitF _).mpr c1, l, hl, ?_⟩
        rw [mgM_at hl, if_pos ⟨c1, z⟩, pow_bit]
        omega
    · obtain ⟨l, hl, hz⟩ := outT lc hm
      obtain ⟨c1, -⟩ := vt.2.2.2 _ (stepT lc hm hl hz)
      refine ⟨cl (ims M (Ld.getD x 0) l), (bitF _).mpr c1, l, hl, ?_⟩
      rw [mgM_at hl, if_pos ⟨hxn, hz⟩, pow_bit]
/-- runs of sets and of vertices -/
theorem rn_stF (lc : lastC M T) (vt : vtx M T Ld cl) : ∀ w, lts w → ∀ S x, (rn (stF Ld.length (le1 M Ld cl)) S w).testBit x = true → inN Ld.length S → ∃ u, u < Ld.length ∧ S.testBit u = true ∧ rn (ims M) (Ld.getD u 0) w ≠ 0 ∧ cl (rn (ims M) (Ld.getD u 0) w) = x := by
  intro w
  induction w with
  | nil =>
    intro _ S x hx hS
    rw [rn_nil] at hx
    have hxn := hS x hx
    exact ⟨x, hxn, hx, by rw [rn_nil]; exact (LL256 (memT lc (vt.2.1 x hxn))).1, by rw [rn_nil]; exact cl_ld vt hxn⟩
  | cons a w ih =>
    intro hw S x hx hS
    rw [lts_cons] at hw
    rw [rn_cons] at hx
    obtain ⟨u', u1, u2, u3, u4⟩ := ih hw.2 _ x hx (stF_in (fun v l hv hl => le1_le lc vt hv hl) hw.1)
    obtain ⟨u, v1, v2, v3⟩ := stF_bit.mp u2
    have hm := vt.2.1 u v1
    rw [le1_eq] at v3
    by_cases z : ims M (Ld.getD u 0) a = 0
    · rw [if_pos z] at v3; omega
    · rw [if_neg z] at v3
      have hin := stepT lc hm hw.1 z
      obtain ⟨c1, c2⟩ := vt.2.2.2 _ hin
      rw [show cl (ims M (Ld.getD u 0) a) = u' by omega] at c2
      have e := eqv_rn c2 w hw.2
      have hne : rn (ims M) (ims M (Ld.getD u 0) a) w ≠ 0 := fun q => u3 ((eqv_z e).mp q)
      refine ⟨u, v1, v2, by rw [rn_cons]; exact hne, ?_⟩
      rw [rn_cons, ← u4]
      exact (vtx_iff vt (rnT lc hin hw.2 hne) (rnT lc (vt.2.1 u' u1) hw.2 u3)).mpr e
theorem rn_stF2 (lc : lastC M T) (vt : vtx M T Ld cl) : ∀ w, lts w → ∀ S u, u < Ld.length → S.testBit u = true → rn (ims M) (Ld.getD u 0) w ≠ 0 → (rn (stF Ld.length (le1 M Ld cl)) S w).testBit (cl (rn (ims M) (Ld.getD u 0) w)) = true := by
  intro w
  induction w with
  | nil =>
    intro _ S u hu hS _
    rw [rn_nil, rn_nil, cl_ld vt hu]
    exact hS
  | cons a w ih =>
    intro hw S u hu hS hne
    rw [lts_cons] at hw
    rw [rn_cons] at hne ⊢
    rw [rn_cons]
    have hm := vt.2.1 u hu
    have z : ims M (Ld.getD u 0) a ≠ 0 := fun q => hne (by rw [q, rn_0 (fun l => ims_0 l)])
    have hin := stepT lc hm hw.1 z
    obtain ⟨c1, c2⟩ := vt.2.2.2 _ hin
    have e := eqv_rn c2 w hw.2
    have hne2 : rn (ims M) (Ld.getD (cl (ims M (Ld.getD u 0) a)) 0) w ≠ 0 := fun q => hne ((eqv_z e).mpr q)
    have := ih hw.2 (stF Ld.length (le1 M Ld cl) S a) (cl (ims M (Ld.getD u 0) a)) c1 (stF_bit.mpr ⟨u, hu, hS, by rw [le1_eq, if_neg z]⟩) hne2
    rw [(vtx_iff vt (rnT lc hin hw.2 hne) (rnT lc (vt.2.1 _ c1) hw.2 hne2)).mpr e]
    exact this
/-- a word behind which there is one vertex alone -/
theorem sync1 (lc : lastC M T) (vt : vtx M T Ld cl) : ∃ w v, lts w ∧ v < Ld.length ∧ rn (stF Ld.length (le1 M Ld cl)) (2 ^ Ld.length - 1) w = 2 ^ v := by
  obtain ⟨S0, rc, -⟩ := id lc
  obtain ⟨w, w1, ⟨S, hS, ha⟩, al⟩ := sync_ex (d := ims M) (fun l => ims_0 l) T T.length [] lts_nil (List.length_filter_le _ _) ⟨S0, rc.2.2.1, by rw [rn_nil]; exact (LL256 (memT lc rc.2.2.1)).1⟩
  have hin := rnT lc hS w1 ha
  obtain ⟨c1, c2⟩ := vt.2.2.2 _ hin
  obtain ⟨d1, d2⟩ := vt.2.2.2 S hS
  have ad : rn (ims M) (Ld.getD (cl S) 0) w ≠ 0 := fun q => ha ((eqv_z (eqv_rn d2 w w1)).mpr q)
  refine ⟨w, cl (rn (ims M) S w), w1, c1, sb_eq (fun x hx => ?_) (fun x hx => ?_)⟩
  · obtain ⟨u, u1, u2, u3, u4⟩ := rn_stF lc vt w w1 _ x hx full_in
    have hm := vt.2.1 u u1
    rw [pow_bit, ← u4]
    refine (vtx_iff vt hin (rnT lc hm w1 u3)).mpr (fun v hv => ?_)
    rw [← rn_app, ← rn_app]
    exact ⟨al S hS _ hm ha u3 v hv, al _ hm S hS u3 ha v hv⟩
  · rw [pow_bit] at hx
    rw [← hx, (vtx_iff vt hin (rnT lc (vt.2.1 _ d1) w1 ad)).mpr (eqv_rn d2 w w1)]
    exact rn_stF2 lc vt w w1 _ _ d1 (by rw [Nat.testBit_two_pow_sub_one]; exact decide_eq_true d1) ad
theorem rn_vF (lc : lastC M T) (vt : vtx M T Ld cl) : ∀ w, lts w → ∀ S, S ∈ T → rn (vF (le1 M Ld cl)) (cl S + 1) w = if rn (ims M) S w = 0 then 0 else cl (rn (ims M) S w) + 1 := by
  have d0 : ∀ l, vF (le1 M Ld cl) 0 l = 0 := fun l => if_pos rfl
  intro w
  induction w with
  | nil =>
    intro _ S hS
    rw [rn_nil, rn_nil, if_neg (LL256 (memT lc hS)).1]
  | cons a w ih =>
    intro hw S hS
    rw [lts_cons] at hw
    have e : vF (le1 M Ld cl) (cl S + 1) a = if ims M S a = 0 then 0 else cl (ims M S a) + 1 := by
      unfold vF
      rw [if_neg (by omega), Nat.add_sub_cancel, le1_cl lc vt hS hw.1]
    rw [rn_cons, rn_cons, e]
    by_cases z : ims M S a = 0
    · rw [z, if_pos rfl, rn_0 d0, rn_0 (fun l => ims_0 l), if_pos rfl]
    · rw [if_neg z]
      exact ih hw.2 _ (stepT lc hS hw.1 z)
/-- each vertex can be come to from each -/
theorem reachV (lc : lastC M T) (vt : vtx M T Ld cl) {Q : List Nat} {u v : Nat} (hu : u < Ld.length) (hv : v < Ld.length) (rc : rcD (vF (le1 M Ld cl)) (u + 1) Q) : v + 1 ∈ Q := by
  obtain ⟨w, w1, w2⟩ := connT lc (vt.2.1 u hu) (vt.2.1 v hv)
  have e := rn_vF lc vt w w1 _ (vt.2.1 u hu)
  rw [cl_ld vt hu, w2, if_neg (LL256 (memT lc (vt.2.1 v hv))).1, cl_ld vt hv] at e
  rcases rcD_rn (d := vF (le1 M Ld cl)) (fun l => if_pos rfl) rc rc.2.2.1 w w1 with q | q
  · rw [e] at q; omega
  · rw [e] at q; exact q
end GC
theorem bq_cong {d d' : Nat → Nat → Nat} {A : Nat} (h : ∀ S l, l < 4 → d S l = d' S l) : ∀ t, bq d A t = bq d' A t
  | 0 => rfl
  | t + 1 => by rw [bq, bq, bq_cong h t, h _ _ (Nat.mod_lt _ (by decide))]
