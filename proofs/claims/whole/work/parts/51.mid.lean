/-! BETWEEN THE OBJECT'S STORE AND THE REFERENCE'S -/
def upG (G : Nat → Nat → Nat) (s : Nat) (N : Nat → Nat) : Nat → Nat → Nat := fun t => if t = s then N else G t
def iHm (s : Nat) (M : Nat → Nat) (h : ZH) : Prop := ∃ n lat, n ≤ 10 ∧ lat < 10 ∧ zI h 3 3 = nI (min (n + 1) 10) ∧ zI h 117 4 = nI n ∧ zI h 3 2 = nI lat ∧ zI h 5 lat = nI s ∧ (∀ j, j < 32 → zI h (7 + 2 * lat) j = nI (M j)) ∧ ∀ i, i + 1 < min (n + 1) 10 → ∃ (t : Nat) (m : Nat → Nat), t < 6 ∧ zI h 5 ((lat + 10 - (i + 1)) % 10) = nI t ∧ zI h 121 (n - 1 - i) = nI t ∧ ∀ j, j < 32 → zI h (7 + 2 * ((lat + 10 - (i + 1)) % 10)) j = nI (m j) ∧ zI h 120 (32 * (n - 1 - i) + j) = nI (m j) ∧ m j < 256
def iGm (G : Nat → Nat → Nat) (N : Nat → Nat) (s : Nat) (h : ZH) : Prop := ∀ t, t < 6 → ∀ j, j < 32 → zI h (82 + 4 * t) j = nI (upG G s N t j) ∧ zI h 118 (32 * t + j) = nI (G t j) ∧ G t j < 256 ∧ N j < 256
def midI (G : Nat → Nat → Nat) (N : Nat → Nat) (s n : Nat) (c : Nat → Nat) (h : ZH) : Prop := Sh h ∧ iGm G N s h ∧ iIn n c h ∧ iHm s (G s) h ∧ iS h ∧ iOut h ∧ iRow h ∧ iP h
theorem iHm.fr {s : Nat} {M : Nat → Nat} {h h' : ZH} {A : List Nat} (p : zfr A h h') (h1 : 3 ∉ A) (h2 : 5 ∉ A) (h3 : 120 ∉ A) (h4 : 121 ∉ A) (h5 : ∀ x, x < 10 → 7 + 2 * x ∉ A) (h6 : zI h' 117 4 = zI h 117 4) (g : iHm s M h) : iHm s M h' := by
  obtain ⟨n, lat, g1, g2, g3, g4, g5, g6, g7, g8⟩ := g
  refine ⟨n, lat, g1, g2, by rw [p.I h1]; exact g3, by rw [h6]; exact g4, by rw [p.I h1]; exact g5, by rw [p.I h2]; exact g6, fun j hj => by rw [p.I (h5 lat g2)]; exact g7 j hj, fun i hi => ?_⟩
  obtain ⟨t, m, k1, k2, k3, k4⟩ := g8 i hi
  refine ⟨t, m, k1, by rw [p.I h2]; exact k2, by rw [p.I h4]; exact k3, fun j hj => ?_⟩
  rw [p.I (h5 _ (Nat.mod_lt _ (by decide))), p.I h3]
  exact k4 j hj
theorem midI.fr {G : Nat → Nat → Nat} {N : Nat → Nat} {s n : Nat} {c : Nat → Nat} {h h' : ZH} (p : fq h h') (g : midI G N s n c h) : midI G N s n c h' := by
  obtain ⟨g1, g2, g3, g4, g5, g6, g7, g8⟩ := g
  obtain ⟨p, k⟩ := p
  refine ⟨p.shp g1, ?_, g3.fr p (by decide) (by decide) (by decide) (k 8 (by decide)), g4.fr p (by decide) (by decide) (by decide) (by decide) (fun x hx => d10 hx) (k 4 (by decide)), g5.fr p (by decide) (by decide) d6b (k 6 (by decide)), g6.fr p (by decide) (by decide) (by decide) (k 10 (by decide)), g7.fr p d4a d4b d4c (by decide) (by decide) (by decide) (by decide), g8.fr p dbig (by decide) (by decide)⟩
  intro t ht j hj
  rw [p.I (d6a t ht), p.I (by decide)]
  exact g2 t ht j hj
theorem mem1 {a b : Nat} : a ∉ [b] ↔ a ≠ b := by simp
/-- the object has recorded what is in the slot -/
theorem push_mid {G : Nat → Nat → Nat} {n : Nat} {c : Nat → Nat} {h : ZH} (g : INVg G n c h) {s : Nat} (h6 : s < 6) : ∃ h', fX2_push 3 (nI s) (81 + 4 * s) h = some h' ∧ midI G (G s) s n c h' ∧ zfr [3, 5, 7, 9, 11, 13, 15, 17, 19, 21, 23, 25] h h' := by
  obtain ⟨g1, g2, g3, g4, g5, g6, g7, g8⟩ := g
  obtain ⟨nh, lat, a1, a2, a3, a4, a5, a6⟩ := g4
  obtain ⟨h', e, p, b1, b2, b3, b4, b5⟩ := push_ok g1 (s := s) a1 a2 a3 a5 (gS g1 h6) (by omega) (g2.m h6)
  have hl : (lat + 1) % 10 < 10 := Nat.mod_lt _ (by decide)
  have nin : ∀ b, b ≠ 3 → b ≠ 5 → b ≠ 7 + 2 * ((lat + 1) % 10) → b ∉ [3, 5, 7 + 2 * ((lat + 1) % 10)] := by
    intro b x1 x2 x3 hb
    simp only [List.mem_cons, List.not_mem_nil, or_false] at hb
    omega
  refine ⟨h', e, ⟨p.shp g1, ?_, ?_, ?_, ?_, ?_, ?_, ?_⟩, ?_⟩
  · intro t ht j hj
    rw [p.I (nin _ (by omega) (by omega) (by omega)), p.I (nin _ (by omega) (by omega) (by omega))]
    obtain ⟨k1, k2, k3⟩ := g2 t ht j hj
    refine ⟨?_, k2, k3, (g2 s h6 j hj).2.2⟩
    rw [k1]
    unfold upG
    by_cases e : t = s
    · rw [if_pos e, e]
    · rw [if_neg e]
  · exact g3.fr p (nin _ (by omega) (by omega) (by omega)) (nin _ (by omega) (by omega) (by omega)) (nin _ (by omega) (by omega) (by omega)) (by rw [p.I (nin _ (by omega) (by omega) (by omega))])
  · refine ⟨nh, (lat + 1) % 10, a1, hl, b2, by rw [p.I (nin _ (by omega) (by omega) (by omega))]; exact a4, b1, b4, fun j hj => (b3 j hj).1, fun i hi => ?_⟩
    obtain ⟨t, m, k1, k2, k3, k4⟩ := a6 i (by omega)
    have er : ((lat + 1) % 10 + 10 - (i + 1)) % 10 = (lat + 10 - i) % 10 := by omega
    have hne : (lat + 10 - i) % 10 ≠ (lat + 1) % 10 := by omega
    refine ⟨t, m, k1, by rw [er, b5 _ hne]; exact k2, by rw [p.I (nin _ (by omega) (by omega) (by omega))]; exact k3, fun j hj => ?_⟩
    rw [er, p.I (nin _ (by omega) (by omega) (by omega)), p.I (nin _ (by omega) (by omega) (by omega))]
    exact k4 j hj
  · exact g5.fr p (nin _ (by omega) (by omega) (by omega)) (nin _ (by omega) (by omega) (by omega)) (fun t ht => nin _ (by omega) (by omega) (by omega)) (by rw [p.I (nin _ (by omega) (by omega) (by omega))])
  · exact g6.fr p (nin _ (by omega) (by omega) (by omega)) (nin _ (by omega) (by omega) (by omega)) (nin _ (by omega) (by omega) (by omega)) (by rw [p.I (nin _ (by omega) (by omega) (by omega))])
  · exact g7.fr p (fun t ht => nin _ (by omega) (by omega) (by omega)) (fun t ht => nin _ (by omega) (by omega) (by omega)) (fun t ht => nin _ (by omega) (by omega) (by omega)) (nin _ (by omega) (by omega) (by omega)) (nin _ (by omega) (by omega) (by omega)) (nin _ (by omega) (by omega) (by omega)) (nin _ (by omega) (by omega) (by omega))
  · refine g8.fr p (fun b hb => ?_) (nin _ (by omega) (by omega) (by omega)) (nin _ (by omega) (by omega) (by omega))
    simp only [List.mem_cons, List.not_mem_nil, or_false] at hb
    omega
  · refine p.mono (fun b hb => ?_)
    have : ∀ x, x < 10 → 7 + 2 * x ∈ [3, 5, 7, 9, 11, 13, 15, 17, 19, 21, 23, 25] := by decide
    have h3 := this _ hl
    simp only [List.mem_cons, List.not_mem_nil, or_false] at hb
    rcases hb with rfl | rfl | rfl
    · decide
    · decide
    · exact h3
/-- another graph in the object's slot -/
theorem mid_set {G : Nat → Nat → Nat} {N N' : Nat → Nat} {s n : Nat} {c : Nat → Nat} {h h' : ZH} (h6 : s < 6) (g : midI G N s n c h) (p : zfr [82 + 4 * s] h h') (hN : hasM h' (82 + 4 * s) N') : midI G N' s n c h' := by
  obtain ⟨g1, g2, g3, g4, g5, g6, g7, g8⟩ := g
  refine ⟨p.shp g1, ?_, g3.fr p (mem1.mpr (by omega)) (mem1.mpr (by omega)) (mem1.mpr (by omega)) (by rw [p.I (mem1.mpr (by omega))]), g4.fr p (mem1.mpr (by omega)) (mem1.mpr (by omega)) (mem1.mpr (by omega)) (mem1.mpr (by omega)) (fun x hx => mem1.mpr (by omega)) (by rw [p.I (mem1.mpr (by omega))]), g5.fr p (mem1.mpr (by omega)) (mem1.mpr (by omega)) (fun x hx => mem1.mpr (by omega)) (by rw [p.I (mem1.mpr (by omega))]), g6.fr p (mem1.mpr (by omega)) (mem1.mpr (by omega)) (mem1.mpr (by omega)) (by rw [p.I (mem1.mpr (by omega))]), g7.fr p (fun x hx => mem1.mpr (by omega)) (fun x hx => mem1.mpr (by omega)) (fun x hx => mem1.mpr (by omega)) (mem1.mpr (by omega)) (mem1.mpr (by omega)) (mem1.mpr (by omega)) (mem1.mpr (by omega)), g8.fr p (fun b hb => by have := List.mem_singleton.mp hb; omega) (mem1.mpr (by omega)) (mem1.mpr (by omega))⟩
  intro t ht j hj
  obtain ⟨k1, k2, k3, k4⟩ := g2 t ht j hj
  rw [p.I (show 118 ∉ [82 + 4 * s] from mem1.mpr (by omega))]
  refine ⟨?_, k2, k3, (hN j hj).2⟩
  unfold upG at k1 ⊢
  by_cases e : t = s
  · subst e; rw [if_pos rfl]; exact (hN j hj).1
  · rw [if_neg e] at k1 ⊢
    rw [p.I (mem1.mpr (by omega))]; exact k1
/-- the reference follows -/
theorem mid_replace {G : Nat → Nat → Nat} {N : Nat → Nat} {s n : Nat} {c : Nat → Nat} {h : ZH} (h6 : s < 6) (g : midI G N s n c h) (hN : vI h 119 32 N) : ∃ h', fX11_replace 117 (nI s) h = some h' ∧ INVg (upG G s N) n c h' := by
  obtain ⟨g1, g2, g3, g4, g5, g6, g7, g8⟩ := g
  obtain ⟨nh, lat, a1, a2, a3, a4, a5, a6, a7, a8⟩ := g4
  obtain ⟨h', e, p, b1, b2, b3, b4, b5, b6, b7, b8⟩ := replace_ok g1 h6 a1 a4
  refine ⟨h', e, p.shp g1, ?_, g3.fr p (by decide) (by decide) (by decide) (b1 8 (by decide)), ?_, g5.fr p (by decide) (by decide) (by intro s hs q; simp only [List.mem_cons, List.not_mem_nil, or_false] at q; omega) (b1 6 (by decide)), g6.fr p (by decide) (by decide) (by decide) (b1 10 (by decide)), g7.fr p (by decide) (by decide) (by decide) (by decide) (by decide) (by decide) (by decide), g8.fr p (by decide) (by decide) (by decide)⟩
  · intro t ht j hj
    obtain ⟨k1, k2, k3, k4⟩ := g2 t ht j hj
    rw [p.I (show 82 + 4 * t ∉ [117, 118, 120, 121] by intro q; simp only [List.mem_cons, List.not_mem_nil, or_false] at q; omega)]
    refine ⟨k1, ?_, ?_⟩
    · unfold upG
      by_cases e : t = s
      · subst e; rw [if_pos rfl, b7 j hj]; exact hN j hj
      · rw [if_neg e, b8 _ (by omega)]; exact k2
    · unfold upG
      split
      · exact k4
      · exact k3
  · refine ⟨min (nh + 1) 10, lat, by omega, a2, by rw [p.I (by decide)]; exact a3, b2, by rw [p.I (by decide)]; exact a5, fun i hi => ?_⟩
    have d7 : ∀ x, x < 10 → 7 + 2 * x ∉ [117, 118, 120, 121] := by decide
    by_cases e0 : i = 0
    · subst e0
      have er : (lat + 10 - 0) % 10 = lat := by omega
      refine ⟨s, G s, h6, by rw [er, p.I (by decide)]; exact a6, b3, fun j hj => ?_⟩
      rw [er, p.I (d7 _ a2)]
      refine ⟨a7 j hj, ?_, (g2 s h6 j hj).2.2.1⟩
      rw [Nat.sub_zero, b5 j hj]
      exact (g2 s h6 j hj).2.1
    · obtain ⟨t, m, k1, k2, k3, k4⟩ := a8 (i - 1) (by omega)
      rw [show i - 1 + 1 = i by omega] at k2 k4
      have e1 : min (nh + 1) 10 - 1 - i + (nh + 1 - min (nh + 1) 10) = nh - 1 - (i - 1) := by omega
      refine ⟨t, m, k1, by rw [p.I (by decide)]; exact k2, by rw [b4 _ (by omega), e1]; exact k3, fun j hj => ?_⟩
      rw [p.I (d7 _ (Nat.mod_lt _ (by decide))), b6 _ (by omega) j hj, e1]
      exact k4 j hj
