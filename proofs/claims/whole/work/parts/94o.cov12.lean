/-! COVERS: renamed -/
section IS2
variable {M : Nat → Nat} {T Ld Q : List Nat} {cl cr : Nat → Nat} {b : Nat}
theorem iso_ex (ha : allB M) (lc : lastC M T) (g : numV M cr) (bq : bestQ M cr b Q) (vt : vtx M T Ld cl) {le : Nat → Nat → Nat} (lq : leQ (dN M cr) Q le) : ∃ φ, iso Ld.length (le1 M Ld cl) le φ := by
  classical
  obtain ⟨f1, f2⟩ := famT ha lc g bq
  have hlen := iso_len ha lc g bq vt
  have rcb := bq.2.2.1
  have hE := ha.1
  have hex : ∀ v, ∃ i, v < Ld.length → i < Q.length ∧ Q.getD i 0 = cr (Ld.getD v 0) + 1 := by
    intro v
    by_cases hv : v < Ld.length
    · obtain ⟨i, hi, e⟩ := mem_getD (f1 _ (vt.2.1 v hv))
      exact ⟨i, fun _ => ⟨hi, e⟩⟩
    · exact ⟨0, fun q => absurd q hv⟩
  obtain ⟨φ, hφ⟩ : ∃ φ : Nat → Nat, ∀ v, v < Ld.length → φ v < Q.length ∧ Q.getD (φ v) 0 = cr (Ld.getD v 0) + 1 := ⟨fun v => Classical.choose (hex v), fun v hv => Classical.choose_spec (hex v) hv⟩
  refine ⟨φ, fun v hv => by rw [← hlen]; exact (hφ v hv).1, fun u v hu hv e => ?_, fun w hw => ?_, fun v l hv hl => ?_⟩
  · have e1 := (hφ u hu).2
    rw [e, (hφ v hv).2] at e1
    have e2 := (numV_iff g (memT lc (vt.2.1 v hv)) (memT lc (vt.2.1 u hu))).mp (by omega)
    rcases Nat.lt_trichotomy u v with q | q | q
    · exact absurd (eqv_sym e2) (vt.2.2.1 u v q hv)
    · exact q
    · exact absurd e2 (vt.2.2.1 v u q hu)
  · rw [← hlen] at hw
    obtain ⟨R, hR, e⟩ := f2 _ (getD_mem hw)
    obtain ⟨c1, c2⟩ := vt.2.2.2 R hR
    refine ⟨cl R, c1, ?_⟩
    obtain ⟨p1, p2⟩ := hφ _ c1
    refine getD_inj rcb.1 p1 hw ?_
    rw [p2, ← e, (numV_iff g (memT lc hR) (memT lc (vt.2.1 _ c1))).mpr c2]
  · obtain ⟨p1, p2⟩ := hφ v hv
    have hmem := vt.2.1 v hv
    have ed := dN_cr hE g (memT lc hmem) hl
    unfold le1
    rcases lq _ p1 l hl with ⟨q1, q2⟩ | ⟨q1, q2, q3, q4⟩
    · left
      rw [p2, ed] at q2
      refine ⟨?_, q1⟩
      by_cases z : ims M (Ld.getD v 0) l = 0
      · rw [if_pos z]
      · rw [if_neg z] at q2; omega
    · right
      rw [p2, ed] at q3 q4
      by_cases z : ims M (Ld.getD v 0) l = 0
      · rw [if_pos z] at q4; exact absurd rfl q4
      · rw [if_neg z] at q3 ⊢
        have hm : ims M (Ld.getD v 0) l ∈ T := by
          have := rnT lc hmem (w := [l]) (lts_cons.mpr ⟨hl, lts_nil⟩) z
          exact this
        obtain ⟨c1, c2⟩ := vt.2.2.2 _ hm
        obtain ⟨r1, r2⟩ := hφ _ c1
        refine ⟨by omega, by omega, ?_⟩
        rw [Nat.add_sub_cancel]
        have : le (φ v) l - 1 = φ (cl (ims M (Ld.getD v 0) l)) := by
          refine getD_inj rcb.1 (by omega) r1 ?_
          rw [q3, r2, (numV_iff g (memT lc hm) (memT lc (vt.2.1 _ c1))).mpr c2]
        omega
theorem big9 (ha : allB M) (lc : lastC M T) (g : numV M cr) (bq : bestQ M cr b Q) {X : List Nat} (hX : X.length = 9) (x1 : ∀ v, v < 9 → X.getD v 0 ∈ T) (x2 : ∀ u v, u < v → v < 9 → ¬ eqv M (X.getD u 0) (X.getD v 0)) : 8 < Q.length := by
  obtain ⟨f1, -⟩ := famT ha lc g bq
  have hh := pig2 (A := (List.range 9).map (fun v => cr (X.getD v 0) + 1)) (B := Q) ?_ bq.2.2.1.1 ?_
  · rw [List.length_map, List.length_range] at hh
    exact hh
  · rw [List.nodup_iff_pairwise_ne, List.pairwise_map]
    refine List.Pairwise.imp_of_mem ?_ (List.pairwise_lt_range (n := 9))
    intro a c ha' hc hac e
    rw [List.mem_range] at ha' hc
    exact x2 a c hac hc ((numV_iff g (memT lc (x1 a ha')) (memT lc (x1 c hc))).mp (by omega))
  · intro x hx
    obtain ⟨v, hv, rfl⟩ := List.mem_map.mp hx
    exact f1 _ (x1 v (List.mem_range.mp hv))
end IS2
/-! searches, renamed -/
theorem bq_map {d1 d2 : Nat → Nat → Nat} {A : Nat} {Φ : Nat → Nat} {D : Nat → Prop} (hA : D A) (hd : ∀ x l, D x → l < 4 → D (d1 x l)) (h0 : ∀ x, D x → (Φ x = 0 ↔ x = 0)) (hi : ∀ x y, D x → D y → Φ x = Φ y → x = y) (hc : ∀ x l, D x → l < 4 → d2 (Φ x) l = Φ (d1 x l)) : ∀ t, (∀ x, x ∈ (bq d1 A t).1 → D x) ∧ bq d2 (Φ A) t = ((bq d1 A t).1.map Φ, (bq d1 A t).2) := by
  have step : ∀ (q : List Nat × List Nat) x a, (∀ y, y ∈ q.1 → D y) → D x → (∀ y, y ∈ (noteL q x a).1 → D y) ∧ noteL (q.1.map Φ, q.2) (Φ x) a = ((noteL q x a).1.map Φ, (noteL q x a).2) := by
    intro q x a hq hx
    unfold noteL
    have iff1 : (Φ x = 0 ∨ Φ x ∈ q.1.map Φ) ↔ (x = 0 ∨ x ∈ q.1) := by
      constructor
      · rintro (z | z)
        · exact Or.inl ((h0 x hx).mp z)
        · obtain ⟨y, hy, e⟩ := List.mem_map.mp z
          have := hi y x (hq y hy) hx e
          rw [← this]; exact Or.inr hy
      · rintro (z | z)
        · exact Or.inl ((h0 x hx).mpr z)
        · exact Or.inr (List.mem_map.mpr ⟨x, z, rfl⟩)
    by_cases e : x = 0 ∨ x ∈ q.1
    · rw [if_pos e, if_pos (iff1.mpr e)]
      exact ⟨hq, rfl⟩
    · rw [if_neg e, if_neg (fun z => e (iff1.mp z))]
      refine ⟨fun y hy => ?_, by rw [List.map_append]; rfl⟩
      rcases List.mem_append.mp hy with z | z
      · exact hq y z
      · rw [List.mem_singleton] at z
        rw [z]; exact hx
  intro t
  induction t with
  | zero => exact step ([], []) A 0 (fun y hy => by cases hy) hA
  | succ t ih =>
    obtain ⟨i1, i2⟩ := ih
    rw [bq, bq, i2]
    dsimp only
    rw [List.length_map]
    by_cases e : t / 4 < (bq d1 A t).1.length
    · rw [if_pos e, if_pos e]
      have hg : ((bq d1 A t).1.map Φ).getD (t / 4) 0 = Φ ((bq d1 A t).1.getD (t / 4) 0) := by
        rw [List.getD_eq_getElem?_getD, List.getElem?_map, List.getD_eq_getElem?_getD, List.getElem?_eq_getElem e]
        rfl
      have hD := i1 _ (getD_mem e)
      have hl : t % 4 < 4 := Nat.mod_lt _ (by decide)
      rw [hg, hc _ _ hD hl]
      exact step _ _ _ i1 (hd _ _ hD hl)
    · rw [if_neg e, if_neg e]
      exact ⟨i1, rfl⟩
/-! sets of vertices -/
/-- where a letter leads a set -/
def stF (n : Nat) (le : Nat → Nat → Nat) (S l : Nat) : Nat := orf (fun v => S.testBit v && !decide (le v l = 0)) (fun v => 2 ^ (le v l - 1)) n
def sP (n : Nat) (φ : Nat → Nat) (S : Nat) : Nat := orf (fun v => S.testBit v) (fun v => 2 ^ φ v) n
section SM
variable {n : Nat} {la lb : Nat → Nat → Nat} {φ : Nat → Nat}
theorem stF_bit {S l x : Nat} : (stF n la S l).testBit x = true ↔ ∃ v, v < n ∧ S.testBit v = true ∧ la v l = x + 1 := by
  unfold stF
  rw [orf_bit]
  constructor
  · rintro ⟨v, h1, h2, h3⟩
    rw [Bool.and_eq_true] at h2
    rw [Nat.testBit_two_pow] at h3
    have h4 := of_decide_eq_true h3
    have h5 : la v l ≠ 0 := fun z => by rw [decide_eq_true z] at h2; exact absurd h2.2 (by decide)
    exact ⟨v, h1, h2.1, by omega⟩
  · rintro ⟨v, h1, h2, h3⟩
    refine ⟨v, h1, by rw [h2, decide_eq_false (by omega)]; rfl, ?_⟩
    rw [Nat.testBit_two_pow]
    exact decide_eq_true (by omega)
theorem sP_bit {S x : Nat} : (sP n φ S).testBit x = true ↔ ∃ v, v < n ∧ S.testBit v = true ∧ φ v = x := by
  unfold sP
  rw [orf_bit]
  constructor
  · rintro ⟨v, h1, h2, h3⟩
    rw [Nat.testBit_two_pow] at h3
    exact ⟨v, h1, h2, of_decide_eq_true h3⟩
  · rintro ⟨v, h1, h2, h3⟩
    exact ⟨v, h1, h2, by rw [Nat.testBit_two_pow]; exact decide_eq_true h3⟩
def inN (n S : Nat) : Prop := ∀ i, S.testBit i = true → i < n
theorem stF_in (is : ∀ v l, v < n → l < 4 → la v l ≤ n) {S l : Nat} (hl : l < 4) : inN n (stF n la S l) := fun i hi => by
  obtain ⟨v, h1, -, h3⟩ := stF_bit.mp hi
  have := is v l h1 hl
  omega
theorem iso_le (is : iso n la lb φ) : ∀ v l, v < n → l < 4 → la v l ≤ n := fun v l hv hl => by
  rcases is.2.2.2 v l hv hl with ⟨q, -⟩ | ⟨-, q, -⟩
  · omega
  · exact q
theorem sP_0 {S : Nat} (hS : inN n S) : sP n φ S = 0 ↔ S = 0 := by
  constructor
  · intro h
    apply Classical.byContradiction
    intro q
    obtain ⟨i, hi⟩ := nz_bit.mp q
    have := (sP_bit (n := n) (φ := φ) (S := S) (x := φ i)).mpr ⟨i, hS i hi, hi, rfl⟩
    rw [h, Nat.zero_testBit] at this
    cases this
  · intro h
    apply Classical.byContradiction
    intro q
    obtain ⟨i, hi⟩ := nz_bit.mp q
    obtain ⟨v, -, h2, -⟩ := sP_bit.mp hi
    rw [h, Nat.zero_testBit] at h2
    cases h2
theorem sP_inj (is : iso n la lb φ) {S R : Nat} (hS : inN n S) (hR : inN n R) (e : sP n φ S = sP n φ R) : S = R := by
  have one : ∀ {A B : Nat}, inN n A → sP n φ A = sP n φ B → sb A B := fun {A B} hA e i hi => by
    have h1 := (sP_bit (n := n) (φ := φ) (S := A) (x := φ i)).mpr ⟨i, hA i hi, hi, rfl⟩
    rw [e] at h1
    obtain ⟨v, v1, v2, v3⟩ := sP_bit.mp h1
    rw [is.2.1 i v (hA i hi) v1 v3.symm]
    exact v2
  exact sb_eq (one hS e) (one hR e.symm)
theorem sP_step (is : iso n la lb φ) {S l : Nat} (hS : inN n S) (hl : l < 4) : stF n lb (sP n φ S) l = sP n φ (stF n la S l) := by
  apply sb_eq
  · intro x hx
    obtain ⟨w, w1, w2, w3⟩ := stF_bit.mp hx
    obtain ⟨v, v1, v2, v3⟩ := sP_bit.mp w2
    subst v3
    rcases is.2.2.2 v l v1 hl with ⟨-, q⟩ | ⟨q1, q2, q3⟩
    · omega
    · refine sP_bit.mpr ⟨la v l - 1, by omega, stF_bit.mpr ⟨v, v1, v2, by omega⟩, by omega⟩
  · intro x hx
    obtain ⟨u, u1, u2, u3⟩ := sP_bit.mp hx
    obtain ⟨v, v1, v2, v3⟩ := stF_bit.mp u2
    refine stF_bit.mpr ⟨φ v, is.1 v v1, sP_bit.mpr ⟨v, v1, v2, rfl⟩, ?_⟩
    rcases is.2.2.2 v l v1 hl with ⟨q, -⟩ | ⟨q1, q2, q3⟩
    · omega
    · rw [q3, v3, Nat.add_sub_cancel, u3]
theorem full_in : inN n (2 ^ n - 1) := fun i hi => by
  rw [Nat.testBit_two_pow_sub_one] at hi
  exact of_decide_eq_true hi
theorem sP_full (is : iso n la lb φ) : sP n φ (2 ^ n - 1) = 2 ^ n - 1 := by
  apply sb_eq
  · intro x hx
    obtain ⟨v, v1, v2, v3⟩ := sP_bit.mp hx
    rw [Nat.testBit_two_pow_sub_one, ← v3]
    exact decide_eq_true (is.1 v v1)
  · intro x hx
    rw [Nat.testBit_two_pow_sub_one] at hx
    obtain ⟨v, v1, v2⟩ := is.2.2.1 x (of_decide_eq_true hx)
    exact sP_bit.mpr ⟨v, v1, by rw [Nat.testBit_two_pow_sub_one]; exact decide_eq_true v1, v2⟩
/-- just one -/
def one1 (S : Nat) : Prop := ∃ v, S = 2 ^ v
theorem sP_pow {v : Nat} (hv : v < n) : sP n φ (2 ^ v) = 2 ^ φ v := by
  apply sb_eq
  · intro x hx
    obtain ⟨u, u1, u2, u3⟩ := sP_bit.mp hx
    rw [pow_bit] at u2 ⊢
    rw [u2, u3]
  · intro x hx
    rw [pow_bit] at hx
    exact sP_bit.mpr ⟨v, hv, pow_bit.mpr rfl, hx⟩
theorem sP_one (is : iso n la lb φ) {S : Nat} (hS : inN n S) : one1 (sP n φ S) ↔ one1 S := by
  constructor
  · rintro ⟨x, hx⟩
    have h1 : (sP n φ S).testBit x = true := by rw [hx]; exact pow_bit.mpr rfl
    obtain ⟨v, v1, v2, v3⟩ := sP_bit.mp h1
    refine ⟨v, sP_inj is hS (fun i hi => by rw [pow_bit] at hi; rw [← hi]; exact v1) ?_⟩
    rw [sP_pow v1, hx, v3]
  · rintro ⟨v, rfl⟩
    have hv := hS v (pow_bit.mpr rfl)
    exact ⟨φ v, sP_pow hv⟩
/-- the search for a reset word, both sides -/
theorem reset_map (is : iso n la lb φ) (t : Nat) : (∀ x, x ∈ (bq (stF n la) (2 ^ n - 1) t).1 → inN n x) ∧ bq (stF n lb) (2 ^ n - 1) t = ((bq (stF n la) (2 ^ n - 1) t).1.map (sP n φ), (bq (stF n la) (2 ^ n - 1) t).2) := by
  have := bq_map (d1 := stF n la) (d2 := stF n lb) (A := 2 ^ n - 1) (Φ := sP n φ) (D := inN n) full_in (fun x l _ hl => stF_in (iso_le is) hl) (fun x hx => sP_0 hx) (fun x y hx hy e => sP_inj is hx hy e) (fun x l hx hl => sP_step is hx hl) t
  rw [sP_full is] at this
  exact this
/-- the search that numbers the vertices: a vertex and one more -/
def vF (le : Nat → Nat → Nat) (P l : Nat) : Nat := if P = 0 then 0 else le (P - 1) l
def vP (φ : Nat → Nat) (P : Nat) : Nat := if P = 0 then 0 else φ (P - 1) + 1
theorem number_map (is : iso n la lb φ) {v0 : Nat} (hv : v0 < n) (t : Nat) : (∀ x, x ∈ (bq (vF la) (v0 + 1) t).1 → x ≤ n) ∧ bq (vF lb) (φ v0 + 1) t = ((bq (vF la) (v0 + 1) t).1.map (vP φ), (bq (vF la) (v0 + 1) t).2) := by
  have e0 : vP φ (v0 + 1) = φ v0 + 1 := by unfold vP; rw [if_neg (by omega), Nat.add_sub_cancel]
  have := bq_map (d1 := vF la) (d2 := vF lb) (A := v0 + 1) (Φ := vP φ) (D := fun x => x ≤ n) (by omega) (fun x l hx hl => by
    unfold vF
    by_cases z : x = 0
    · rw [if_pos z]; omega
    · rw [if_neg z]; exact iso_le is (x - 1) l (by omega) hl) (fun x hx => by
    unfold vP
    by_cases z : x = 0
    · rw [if_pos z]; exact ⟨fun _ => z, fun _ => rfl⟩
    · rw [if_neg z]; exact ⟨fun q => by omega, fun q => absurd q z⟩) (fun x y hx hy e => by
    unfold vP at e
    by_cases z : x = 0
    · rw [if_pos z] at e
      by_cases z2 : y = 0
      · omega
      · rw [if_neg z2] at e; omega
    · rw [if_neg z] at e
      by_cases z2 : y = 0
      · rw [if_pos z2] at e; omega
      · rw [if_neg z2] at e
        have := is.2.1 (x - 1) (y - 1) (by omega) (by omega) (by omega)
        omega) (fun x l hx hl => by
    unfold vF vP
    by_cases z : x = 0
    · rw [if_pos z, if_pos rfl, if_pos z, if_pos rfl]
    · rw [if_neg z, if_neg (by omega), Nat.add_sub_cancel, if_neg z]
      rcases is.2.2.2 (x - 1) l (by omega) hl with ⟨q1, q2⟩ | ⟨q1, q2, q3⟩
      · rw [q1, q2, if_pos rfl]
      · rw [q3, if_neg q1]) t
  rw [e0] at this
  exact this
end SM
