/-! MEMORY: the reference -/
section MER
variable {h h0 : ZH} {n : Nat} {le : Nat → Nat → Nat} {Q : List Nat}
/-- a list of sets without doubles -/
def okL (Q : List Nat) : Prop := Q.Nodup ∧ 0 ∉ Q ∧ ∀ x, x ∈ Q → x < 256
theorem okL.len (g : okL Q) : Q.length ≤ 255 := by
  have := len_lt (N := 256) g.1 g.2.1 g.2.2 (by decide)
  omega
theorem see_any (hs : Sh h) (g : seI 0 Q h) (ok : okL Q) {x : Nat} (hx : x < 256) (h0 : x ≠ 0) : ∃ h' Q', fX11_see 117 (nI x) h = some h' ∧ zfr [117, 136, 137] h h' ∧ (∀ k, k ≠ 28 → zI h' 117 k = zI h 117 k) ∧ seI 0 Q' h' ∧ okL Q' ∧ ∀ y, y ∈ Q' ↔ y ∈ Q ∨ y = x := by
  by_cases hin : x ∈ Q
  · exact ⟨h, Q, see_old hs g hx hin, zfr.refl h, fun _ _ => rfl, g, ok, fun y => ⟨Or.inl, fun z => by
      rcases z with z | z
      · exact z
      · rw [z]; exact hin⟩⟩
  · obtain ⟨h', e, p, k, q⟩ := see_new hs g hx hin (by have := ok.len; omega)
    refine ⟨h', Q ++ [x], e, p, k, q, ⟨?_, ?_, ?_⟩, fun y => by rw [List.mem_append, List.mem_singleton]⟩
    · refine List.nodup_append.mpr ⟨ok.1, List.nodup_cons.mpr ⟨(fun z => by cases z), List.nodup_nil⟩, fun a ha b hb e => ?_⟩
      rw [List.mem_singleton] at hb
      exact hin (by rw [← hb, ← e]; exact ha)
    · intro z
      rcases List.mem_append.mp z with z | z
      · exact ok.2.1 z
      · rw [List.mem_singleton] at z; exact h0 z.symm
    · intro y hy
      rcases List.mem_append.mp hy with z | z
      · exact ok.2.2 y z
      · rw [List.mem_singleton] at z; rw [z]; exact hx
theorem und_one : ∀ S, S < 256 → (und S 8 ≤ 1 ↔ ∀ x, x < 8 → ∀ y, y < 8 → S.testBit x = true → S.testBit y = true → x = y) := by decide +kernel
theorem isSingle_ok (hs : Sh h) (g : seI 0 Q h) (ok : okL Q) : ∃ b : Bool, fX11_isSingle 117 (nI Q.length) h = some (nI b.toNat, h) ∧ (b = true ↔ ∀ S, S ∈ Q → und S 8 ≤ 1) := by
  have ln := ok.len
  have key : wp (fX11_isSingle 117 (nI Q.length) h) (fun y => y.2 = h ∧ ∃ b : Bool, y.1 = nI b.toNat ∧ (b = true ↔ ∀ S, S ∈ Q → und S 8 ≤ 1)) := by
    unfold fX11_isSingle
    simp (disch := omega) only [SR (hs), zl_eq, bsm, ZS, ZT, ZN, ZU, eq_self, true_and, and_true, and_self, or_true, true_or, or_false, false_or, not_true, not_false_eq_true, Nat.reduceAdd, Nat.reduceMul, Nat.reduceLT, Nat.reduceLeDiff, Nat.reduceEqDiff, ↓reduceIte, ZQ, Bool.true_eq_false, Bool.false_eq_true, Bool.not_true, Bool.not_false]
    refine wloop (fun i y => y = (nI i, h) ∧ ∀ j, j < i → und (Q.getD j 0) 8 ≤ 1) Q.length (fun i y self hi hy ih => ?_) (show Q.length < 100000 by omega) ⟨rfl, fun j hj => by omega⟩
    obtain ⟨rfl, q⟩ := hy
    show wp (kX11_isSingle_2 117 (nI Q.length) self (nI i) h) _
    unfold kX11_isSingle_2
    by_cases hlt : i < Q.length
    · have v := g.2.1 i hlt
      rw [Nat.sub_zero] at v
      have h256 := ok.2.2 _ (getD_mem hlt)
      have eb := bc_und _ h256
      have ub := und_le (Q.getD i 0) 8
      by_cases u1 : und (Q.getD i 0) 8 ≤ 1
      · simp (disch := omega) only [Nat.not_le.mpr hlt, v, bc_ok, eb, eq_true u1, SR (hs), zl_eq, bsm, ZS, ZT, ZN, ZU, eq_self, true_and, and_true, and_self, or_true, true_or, or_false, false_or, not_true, not_false_eq_true, Nat.reduceAdd, Nat.reduceMul, Nat.reduceLT, Nat.reduceLeDiff, Nat.reduceEqDiff, ↓reduceIte, ZQ, Bool.true_eq_false, Bool.false_eq_true, Bool.not_true, Bool.not_false]
        refine ih _ hlt ⟨rfl, fun j hj => ?_⟩
        by_cases e : j = i
        · rw [e]; exact u1
        · exact q j (by omega)
      · simp (disch := omega) only [Nat.not_le.mpr hlt, v, bc_ok, eb, eq_false u1, SR (hs), zl_eq, bsm, ZS, ZT, ZN, ZU, eq_self, true_and, and_true, and_self, or_true, true_or, or_false, false_or, not_true, not_false_eq_true, Nat.reduceAdd, Nat.reduceMul, Nat.reduceLT, Nat.reduceLeDiff, Nat.reduceEqDiff, ↓reduceIte, ZQ, Bool.true_eq_false, Bool.false_eq_true, Bool.not_true, Bool.not_false]
        refine wp_some ⟨rfl, false, rfl, ?_⟩
        constructor
        · intro z; cases z
        · intro z; exact absurd (z _ (getD_mem hlt)) u1
    · have : i = Q.length := by omega
      subst this
      simp (disch := omega) only [Nat.le_refl, SR (hs), zl_eq, bsm, ZS, ZT, ZN, ZU, eq_self, true_and, and_true, and_self, or_true, true_or, or_false, false_or, not_true, not_false_eq_true, Nat.reduceAdd, Nat.reduceMul, Nat.reduceLT, Nat.reduceLeDiff, Nat.reduceEqDiff, ↓reduceIte, ZQ, Bool.true_eq_false, Bool.false_eq_true, Bool.not_true, Bool.not_false]
      refine wp_some ⟨rfl, true, rfl, ?_⟩
      constructor
      · intro _ S hS
        obtain ⟨j, j1, j2⟩ := mem_getD hS
        rw [← j2]; exact q j j1
      · intro _; rfl
  obtain ⟨⟨w, h'⟩, e, e1, b, e2, e3⟩ := key
  dsimp only at e1 e2
  subst e1 e2
  exact ⟨b, e, e3⟩
end MER
