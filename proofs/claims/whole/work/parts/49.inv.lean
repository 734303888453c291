/-! WHAT HOLDS BETWEEN CALLS: the object (cells 0 to 116) beside the reference (117 to 151) -/
def iG (G : Nat → Nat → Nat) (h : ZH) : Prop := ∀ s, s < 6 → ∀ j, j < 32 → zI h (82 + 4 * s) j = nI (G s j) ∧ zI h 118 (32 * s + j) = nI (G s j) ∧ G s j < 256
def iH (h : ZH) : Prop := ∃ n lat, n ≤ 10 ∧ lat < 10 ∧ zI h 3 3 = nI n ∧ zI h 117 4 = nI n ∧ zI h 3 2 = nI lat ∧ ∀ i, i < n → ∃ (s : Nat) (m : Nat → Nat), s < 6 ∧ zI h 5 ((lat + 10 - i) % 10) = nI s ∧ zI h 121 (n - 1 - i) = nI s ∧ ∀ j, j < 32 → zI h (7 + 2 * ((lat + 10 - i) % 10)) j = nI (m j) ∧ zI h 120 (32 * (n - 1 - i) + j) = nI (m j) ∧ m j < 256
def iS (h : ZH) : Prop := ∃ b, b < 2 ∧ zI h 0 2 = nI b ∧ zI h 117 6 = nI b ∧ (b = 1 → ∃ G : Nat → Nat → Nat, ∀ s, s < 6 → ∀ j, j < 32 → zI h (84 + 4 * s) j = nI (G s j) ∧ zI h 122 (32 * s + j) = nI (G s j) ∧ G s j < 256)
def iIn (n : Nat) (c : Nat → Nat) (h : ZH) : Prop := n ≤ 120 ∧ zI h 26 1 = nI n ∧ zI h 117 8 = nI n ∧ ∀ i, i < n → zI h 27 i = nI (c i) ∧ zI h 123 i = nI (c i) ∧ 1 ≤ c i ∧ c i ≤ 127
def iOut (h : ZH) : Prop := ∃ (n : Nat) (c : Nat → Nat), n ≤ 1024 ∧ zI h 28 1 = nI n ∧ zI h 117 10 = nI n ∧ ∀ i, i < n → zI h 29 i = nI (c i) ∧ zI h 124 i = nI (c i) ∧ c i < 128
def nn (v : UInt32) : Prop := v &&& 0x7fffffff ≤ 0x7f800000
def rowR (a : Nat) (h : ZH) : Prop := (zI h (105 + 3 * a) 2 = -1 ∧ zI h 148 a = -1) ∨ ∃ t n, t < 3 ∧ n ≤ 30 ∧ zI h (105 + 3 * a) 2 = nI t ∧ zI h 148 a = nI t ∧ zI h (105 + 3 * a) 3 = nI n ∧ zI h 149 a = nI n ∧ ∀ i, i < 30 →
  (t = 0 → ∃ x, zI h (107 + 3 * a) i = nI 0 ∧ zI h 150 (30 * a + i) = ji2b x ∧ zF h (106 + 3 * a) i = FP.i2f (ji2b x)) ∧ (t = 1 → ∃ x, zI h (107 + 3 * a) i = nI 0 ∧ zI h 150 (30 * a + i) = ji2c x ∧ zF h (106 + 3 * a) i = FP.i2f (ji2c x)) ∧
  (t = 2 → (zI h (107 + 3 * a) i = nI 0 ∧ nn (zF h (106 + 3 * a) i) ∧ zF h 151 (30 * a + i) = zF h (106 + 3 * a) i) ∨ (zI h (107 + 3 * a) i = nI 1 ∧ zF h 151 (30 * a + i) = 2143289344))
def iRow (h : ZH) : Prop := ∀ a, a < 4 → rowR a h
/-- the queue of the difference search, and the bits of what it found -/
def iP (h : ZH) : Prop := ∃ q g n, zR h 51 0 = some q ∧ q < zn h ∧ (q = 52 ∨ 152 ≤ q) ∧ zK h q = 15 ∧ zN h q = 512 * 2 ^ g ∧ g ≤ 7 ∧ zn h ≤ 152 + g ∧ zs h ≤ 166924 + 1024 * 2 ^ g ∧ zI h 51 1 = nI n ∧ n ≤ 512 * 2 ^ g ∧ n ≤ 65535 ∧ ∃ p : Nat → Nat, (∀ i, i < n → ∃ r, zJ h q i = lN (p i + 65536 * r) ∧ p i < 65535 ∧ r < 2 ^ 20) ∧ ∀ w, w < 2048 → (zI h 53 w = nI 0 ∨ ∃ i, i < n ∧ p i / 32 = w)
def INVg (G : Nat → Nat → Nat) (n : Nat) (c : Nat → Nat) (h : ZH) : Prop := Sh h ∧ iG G h ∧ iIn n c h ∧ iH h ∧ iS h ∧ iOut h ∧ iRow h ∧ iP h
def INV (h : ZH) : Prop := ∃ G n c, INVg G n c h
def scr : List Nat := [117, 32, 34, 36, 37, 38, 39, 40, 41, 42, 43, 44, 45, 46, 47, 48, 49, 50, 54, 55, 56, 57, 58, 59, 60, 62, 63, 64, 65, 66, 67, 68, 69, 70, 72, 74, 75, 77, 78, 79, 80, 119, 125, 126, 127, 128, 129, 130, 131, 132, 133, 134, 135, 136, 137, 138, 139, 140, 141, 142, 143, 144, 145, 146, 147]
/-- nothing but scratch is another -/
def fq (h h' : ZH) : Prop := zfr scr h h' ∧ ∀ k, (k = 4 ∨ k = 6 ∨ k = 8 ∨ k = 10) → zI h' 117 k = zI h 117 k
theorem fq.refl (h : ZH) : fq h h := ⟨zfr.refl h, fun _ _ => rfl⟩
theorem fq.tr {h h1 h2 : ZH} (p : fq h h1) (q : fq h1 h2) : fq h h2 := ⟨p.1.same q.1, fun k hk => (q.2 k hk).trans (p.2 k hk)⟩
theorem fq.of {A : List Nat} {h h' : ZH} (p : zfr A h h') (hA : ∀ b ∈ A, b ∈ scr) (h116 : ¬ 117 ∈ A) : fq h h' := ⟨p.mono hA, fun k _ => by rw [p.I h116]⟩
theorem fq.of2 {A : List Nat} {h h' : ZH} (p : zfr A h h') (hA : ∀ b ∈ A, b ∈ scr) (hk : ∀ k, (k = 4 ∨ k = 6 ∨ k = 8 ∨ k = 10) → zI h' 117 k = zI h 117 k) : fq h h' := ⟨p.mono hA, hk⟩
theorem d10 {x : Nat} (h : x < 10) : 7 + 2 * x ∉ scr := by
  have : ∀ x, x < 10 → 7 + 2 * x ∉ scr := by decide
  exact this x h
theorem d6a : ∀ s, s < 6 → 82 + 4 * s ∉ scr := by decide
theorem d6b : ∀ s, s < 6 → 84 + 4 * s ∉ scr := by decide
theorem d4a : ∀ s, s < 4 → 105 + 3 * s ∉ scr := by decide
theorem d4b : ∀ s, s < 4 → 106 + 3 * s ∉ scr := by decide
theorem d4c : ∀ s, s < 4 → 107 + 3 * s ∉ scr := by decide
theorem dbig : ∀ b ∈ scr, b < 152 ∧ b ≠ 52 := by decide
theorem iG.fr {G : Nat → Nat → Nat} {h h' : ZH} {A : List Nat} (p : zfr A h h') (h1 : ∀ s, s < 6 → 82 + 4 * s ∉ A) (h2 : 118 ∉ A) (g : iG G h) : iG G h' := by
  intro s hs j hj
  rw [p.I (h1 s hs), p.I h2]
  exact g s hs j hj
theorem iIn.fr {n : Nat} {c : Nat → Nat} {h h' : ZH} {A : List Nat} (p : zfr A h h') (h1 : 26 ∉ A) (h2 : 27 ∉ A) (h3 : 123 ∉ A) (h4 : zI h' 117 8 = zI h 117 8) (g : iIn n c h) : iIn n c h' := by
  obtain ⟨g1, g2, g3, g4⟩ := g
  refine ⟨g1, by rw [p.I h1]; exact g2, by rw [h4]; exact g3, fun i hi => ?_⟩
  rw [p.I h2, p.I h3]
  exact g4 i hi
theorem iH.fr {h h' : ZH} {A : List Nat} (p : zfr A h h') (h1 : 3 ∉ A) (h2 : 5 ∉ A) (h3 : 120 ∉ A) (h4 : 121 ∉ A) (h5 : ∀ x, x < 10 → 7 + 2 * x ∉ A) (h6 : zI h' 117 4 = zI h 117 4) (g : iH h) : iH h' := by
  obtain ⟨n, lat, g1, g2, g3, g4, g5, g6⟩ := g
  refine ⟨n, lat, g1, g2, by rw [p.I h1]; exact g3, by rw [h6]; exact g4, by rw [p.I h1]; exact g5, fun i hi => ?_⟩
  obtain ⟨s, m, k1, k2, k3, k4⟩ := g6 i hi
  refine ⟨s, m, k1, by rw [p.I h2]; exact k2, by rw [p.I h4]; exact k3, fun j hj => ?_⟩
  rw [p.I (h5 _ (Nat.mod_lt _ (by decide))), p.I h3]
  exact k4 j hj
theorem iS.fr {h h' : ZH} {A : List Nat} (p : zfr A h h') (h1 : 0 ∉ A) (h2 : 122 ∉ A) (h3 : ∀ s, s < 6 → 84 + 4 * s ∉ A) (h4 : zI h' 117 6 = zI h 117 6) (g : iS h) : iS h' := by
  obtain ⟨b, g1, g2, g3, g4⟩ := g
  refine ⟨b, g1, by rw [p.I h1]; exact g2, by rw [h4]; exact g3, fun hb => ?_⟩
  obtain ⟨G, hG⟩ := g4 hb
  refine ⟨G, fun s hs j hj => ?_⟩
  rw [p.I (h3 s hs), p.I h2]
  exact hG s hs j hj
theorem iOut.fr {h h' : ZH} {A : List Nat} (p : zfr A h h') (h1 : 28 ∉ A) (h2 : 29 ∉ A) (h3 : 124 ∉ A) (h4 : zI h' 117 10 = zI h 117 10) (g : iOut h) : iOut h' := by
  obtain ⟨n, c, g1, g2, g3, g4⟩ := g
  refine ⟨n, c, g1, by rw [p.I h1]; exact g2, by rw [h4]; exact g3, fun i hi => ?_⟩
  rw [p.I h2, p.I h3]
  exact g4 i hi
theorem rowR.fr {a : Nat} {h h' : ZH} {A : List Nat} (p : zfr A h h') (h1 : 105 + 3 * a ∉ A) (h2 : 106 + 3 * a ∉ A) (h3 : 107 + 3 * a ∉ A) (h4 : 148 ∉ A) (h5 : 149 ∉ A) (h6 : 150 ∉ A) (h7 : 151 ∉ A) (g : rowR a h) : rowR a h' := by
  unfold rowR at g ⊢
  rw [p.I h1, p.F h2, p.I h3, p.I h4, p.I h5, p.I h6, p.F h7]
  exact g
theorem iRow.fr {h h' : ZH} {A : List Nat} (p : zfr A h h') (h1 : ∀ a, a < 4 → 105 + 3 * a ∉ A) (h2 : ∀ a, a < 4 → 106 + 3 * a ∉ A) (h3 : ∀ a, a < 4 → 107 + 3 * a ∉ A) (h4 : 148 ∉ A) (h5 : 149 ∉ A) (h6 : 150 ∉ A) (h7 : 151 ∉ A) (g : iRow h) : iRow h' :=
  fun a ha => (g a ha).fr p (h1 a ha) (h2 a ha) (h3 a ha) h4 h5 h6 h7
theorem iP.fr {h h' : ZH} {A : List Nat} (p : zfr A h h') (h1 : ∀ b ∈ A, b < 152 ∧ b ≠ 52) (h2 : 51 ∉ A) (h3 : 53 ∉ A) (g : iP h) : iP h' := by
  obtain ⟨q, gg, n, g1, g2, g3, g4, g5, g6, g7, g8, g9, g10, g11, p', g12, g13⟩ := g
  have hq : q ∉ A := fun hin => by
    have := h1 q hin
    omega
  obtain ⟨⟨p1, p2, p3, p4, p5⟩, -⟩ := id p
  refine ⟨q, gg, n, by rw [p5]; exact g1, by rw [p1]; exact g2, g3, by rw [p3]; exact g4, by rw [p4]; exact g5, g6, by rw [p1]; exact g7, by rw [p2]; exact g8, by rw [p.I h2]; exact g9, g10, g11, p', fun i hi => ?_, fun w hw => ?_⟩
  · rw [p.J hq]; exact g12 i hi
  · rw [p.I h3]; exact g13 w hw
theorem INVg.fr {G : Nat → Nat → Nat} {n : Nat} {c : Nat → Nat} {h h' : ZH} (p : fq h h') (g : INVg G n c h) : INVg G n c h' := by
  obtain ⟨g1, g2, g3, g4, g5, g6, g7, g8⟩ := g
  obtain ⟨p, k⟩ := p
  exact ⟨p.shp g1, g2.fr p d6a (by decide), g3.fr p (by decide) (by decide) (by decide) (k 8 (by decide)), g4.fr p (by decide) (by decide) (by decide) (by decide) (fun x hx => d10 hx) (k 4 (by decide)), g5.fr p (by decide) (by decide) d6b (k 6 (by decide)), g6.fr p (by decide) (by decide) (by decide) (k 10 (by decide)), g7.fr p d4a d4b d4c (by decide) (by decide) (by decide) (by decide), g8.fr p dbig (by decide) (by decide)⟩
theorem INV.fr {h h' : ZH} (p : fq h h') (g : INV h) : INV h' := by
  obtain ⟨G, n, c, g⟩ := g
  exact ⟨G, n, c, g.fr p⟩
theorem iG.m {G : Nat → Nat → Nat} {h : ZH} (g : iG G h) {s : Nat} (hs : s < 6) : hasM h (82 + 4 * s) (G s) := fun j hj => ⟨(g s hs j hj).1, (g s hs j hj).2.2⟩
theorem iG.r {G : Nat → Nat → Nat} {h : ZH} (g : iG G h) : vI h 118 192 (fun j => G (j / 32) (j % 32)) := by
  intro j hj
  have := (g (j / 32) (by omega) (j % 32) (by omega)).2.1
  rw [show 32 * (j / 32) + j % 32 = j by omega] at this
  exact this
/-- a call of the object and the same call of the reference answer alike, and all stands as it must -/
def Ok2 {β : Type} (f g : ZH → Option (β × ZH)) : Prop := ∀ h, INV h → ∃ r h1 h2, f h = some (r, h1) ∧ g h1 = some (r, h2) ∧ INV h2
