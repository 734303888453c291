/-! THE LAW -/
abbrev YL (b0 sa L : Nat) (xs : Nat → Int32) : zY := (yL_law, RL, cL_law, 4, some .boolean, fun s => va_X sa L xs s s.heap ∧ sa < s.heap.size ∧ ¬ b0 ≤ sa)
def lS (xs : Nat → Int32) (L : Nat) (i : Int32) : Option Int32 := if ¬ (i < 0 ∨ L ≤ i.toNatClampNeg) then some (xs i.toNatClampNeg) else none
theorem z_sld {α : Type} {enc : α → Option Value × ZH} {b0 d pc sa L : Nat} {xs : Nat → Int32} {lv : List (Nat × Value)} {st : List Value} {h : ZH} {i : Int32} {f : Int32 → Option α} (pc2 : Nat) (hd : decode cL_law pc = .ok (.iaload, 1)) (e : pc + 1 = pc2) (kk : ∀ v, lS xs L i = some v → Zr enc b0 (YL b0 sa L xs) d pc2 lv (.int v :: st) h (f v)) : Zr enc b0 (YL b0 sa L xs) d pc lv (.int i :: .ref sa :: st) h ((lS xs L i).bind f) := by
  subst e
  by_cases g : ¬ (i < 0 ∨ L ≤ i.toNatClampNeg)
  · have e1 : lS xs L i = some (xs i.toNatClampNeg) := if_pos g
    have := kk _ e1
    rw [e1]
    exact this.step (fun D CA p l e R s m args below meth c H locs ls n0 cells slots Q hA hc hs hl hP hS kk => va_sld hA.1 hA.2.1 hA.2.2.2.2.2.2.2.2.2.2.2.1 hA.2.2.2.2.2.2.2.2.2.2.2.2.1 hA.2.2.2.2.2.2.2.2.2.2.2.2.2 hS g hd (kk _ hl))
  · have e1 : lS xs L i = none := if_neg g
    rw [e1]; exact Zr.none
theorem z_slen {α : Type} {enc : α → Option Value × ZH} {b0 d pc sa L : Nat} {xs : Nat → Int32} {lv : List (Nat × Value)} {st : List Value} {h : ZH} {r : Option α} (pc2 : Nat) (hd : decode cL_law pc = .ok (.arraylength, 1)) (e : pc + 1 = pc2) (k : Zr enc b0 (YL b0 sa L xs) d pc2 lv (.int (Int32.ofNat L) :: st) h r) : Zr enc b0 (YL b0 sa L xs) d pc lv (.ref sa :: st) h r := by
  subst e
  exact k.step (fun D CA p l e R s m args below meth c H locs ls n0 cells slots Q hA hc hs hl hP hS kk => va_slen hA.1 hA.2.1 hA.2.2.2.2.2.2.2.2.2.2.2.1 hA.2.2.2.2.2.2.2.2.2.2.2.2.1 hA.2.2.2.2.2.2.2.2.2.2.2.2.2 hS hd (kk _ hl))
theorem sw_L_law_32 {x : Int32} (h0 : ¬ x = 0) (h1 : ¬ x = 1) (h2 : ¬ x = 2) (h3 : ¬ x = 3) (h4 : ¬ x = 4) (h5 : ¬ x = 5) (h6 : ¬ x = 6) (h7 : ¬ x = 7) (h8 : ¬ x = 8) (h9 : ¬ x = 9) (h10 : ¬ x = 10) (h11 : ¬ x = 11) (h12 : ¬ x = 12) (h13 : ¬ x = 13) (h14 : ¬ x = 14) (h15 : ¬ x = 15) (h16 : ¬ x = 16) (h17 : ¬ x = 17) (h18 : ¬ x = 18) (h19 : ¬ x = 19) (h20 : ¬ x = 20) (h21 : ¬ x = 21) (h22 : ¬ x = 22) (h23 : ¬ x = 23) (h24 : ¬ x = 24) (h25 : ¬ x = 25) (h26 : ¬ x = 26) (h27 : ¬ x = 27) (h28 : ¬ x = 28) (h29 : ¬ x = 29) (h30 : ¬ x = 30) (h31 : ¬ x = 31) (h32 : ¬ x = 32) (h33 : ¬ x = 33) (h34 : ¬ x = 34) (h35 : ¬ x = 35) (h36 : ¬ x = 36) (h37 : ¬ x = 37) (h38 : ¬ x = 38) : x.toInt < 0 ∨ 38 < x.toInt := by
  have e0 : ¬ x.toInt = 0 := fun q => h0 (z_i32_eq (k := 0) q)
  have e1 : ¬ x.toInt = 1 := fun q => h1 (z_i32_eq (k := 1) q)
  have e2 : ¬ x.toInt = 2 := fun q => h2 (z_i32_eq (k := 2) q)
  have e3 : ¬ x.toInt = 3 := fun q => h3 (z_i32_eq (k := 3) q)
  have e4 : ¬ x.toInt = 4 := fun q => h4 (z_i32_eq (k := 4) q)
  have e5 : ¬ x.toInt = 5 := fun q => h5 (z_i32_eq (k := 5) q)
  have e6 : ¬ x.toInt = 6 := fun q => h6 (z_i32_eq (k := 6) q)
  have e7 : ¬ x.toInt = 7 := fun q => h7 (z_i32_eq (k := 7) q)
  have e8 : ¬ x.toInt = 8 := fun q => h8 (z_i32_eq (k := 8) q)
  have e9 : ¬ x.toInt = 9 := fun q => h9 (z_i32_eq (k := 9) q)
  have e10 : ¬ x.toInt = 10 := fun q => h10 (z_i32_eq (k := 10) q)
  have e11 : ¬ x.toInt = 11 := fun q => h11 (z_i32_eq (k := 11) q)
  have e12 : ¬ x.toInt = 12 := fun q => h12 (z_i32_eq (k := 12) q)
  have e13 : ¬ x.toInt = 13 := fun q => h13 (z_i32_eq (k := 13) q)
  have e14 : ¬ x.toInt = 14 := fun q => h14 (z_i32_eq (k := 14) q)
  have e15 : ¬ x.toInt = 15 := fun q => h15 (z_i32_eq (k := 15) q)
  have e16 : ¬ x.toInt = 16 := fun q => h16 (z_i32_eq (k := 16) q)
  have e17 : ¬ x.toInt = 17 := fun q => h17 (z_i32_eq (k := 17) q)
  have e18 : ¬ x.toInt = 18 := fun q => h18 (z_i32_eq (k := 18) q)
  have e19 : ¬ x.toInt = 19 := fun q => h19 (z_i32_eq (k := 19) q)
  have e20 : ¬ x.toInt = 20 := fun q => h20 (z_i32_eq (k := 20) q)
  have e21 : ¬ x.toInt = 21 := fun q => h21 (z_i32_eq (k := 21) q)
  have e22 : ¬ x.toInt = 22 := fun q => h22 (z_i32_eq (k := 22) q)
  have e23 : ¬ x.toInt = 23 := fun q => h23 (z_i32_eq (k := 23) q)
  have e24 : ¬ x.toInt = 24 := fun q => h24 (z_i32_eq (k := 24) q)
  have e25 : ¬ x.toInt = 25 := fun q => h25 (z_i32_eq (k := 25) q)
  have e26 : ¬ x.toInt = 26 := fun q => h26 (z_i32_eq (k := 26) q)
  have e27 : ¬ x.toInt = 27 := fun q => h27 (z_i32_eq (k := 27) q)
  have e28 : ¬ x.toInt = 28 := fun q => h28 (z_i32_eq (k := 28) q)
  have e29 : ¬ x.toInt = 29 := fun q => h29 (z_i32_eq (k := 29) q)
  have e30 : ¬ x.toInt = 30 := fun q => h30 (z_i32_eq (k := 30) q)
  have e31 : ¬ x.toInt = 31 := fun q => h31 (z_i32_eq (k := 31) q)
  have e32 : ¬ x.toInt = 32 := fun q => h32 (z_i32_eq (k := 32) q)
  have e33 : ¬ x.toInt = 33 := fun q => h33 (z_i32_eq (k := 33) q)
  have e34 : ¬ x.toInt = 34 := fun q => h34 (z_i32_eq (k := 34) q)
  have e35 : ¬ x.toInt = 35 := fun q => h35 (z_i32_eq (k := 35) q)
  have e36 : ¬ x.toInt = 36 := fun q => h36 (z_i32_eq (k := 36) q)
  have e37 : ¬ x.toInt = 37 := fun q => h37 (z_i32_eq (k := 37) q)
  have e38 : ¬ x.toInt = 38 := fun q => h38 (z_i32_eq (k := 38) q)
  omega
def bL_law_1504 (xs : Nat → Int32) (L sa : Nat) (self18 : Int32 × ZH → Option (Int32 × ZH)) (x1 : Nat) (x2 : Nat) (x3 : Int32) (h : ZH) : Option (Int32 × ZH) :=
  self18 ((x3 + (nI 5)), h)
theorem BL_law_1504 (b0 : Nat) (xs : Nat → Int32) (L sa : Nat) (self18 : Int32 × ZH → Option (Int32 × ZH)) (x1 : Nat) (x2 : Nat) (x3 : Int32) (h : ZH) (hself18 : ∀ (y3 : Int32) (hh : ZH), Zr zi b0 (YL b0 sa L xs) 25 18 [(0, .ref sa), (1, .ref (b0 + x1)), (2, .ref (b0 + x2)), (3, .int y3)] [] hh (self18 (y3, hh))) : Zr zi b0 (YL b0 sa L xs) 25 1504 [(0, .ref sa), (1, .ref (b0 + x1)), (2, .ref (b0 + x2)), (3, .int x3)] [] h (bL_law_1504 xs L sa self18 x1 x2 x3 h) := by
  unfold bL_law_1504
  refine z_iinc (lv2 := [(3, .int (x3 + (nI 5))), (0, .ref sa), (1, .ref (b0 + x1)), (2, .ref (b0 + x2))]) (nI 5) 1507 3 dL_law_1504 rfl rfl zki_5 (Nat.le_of_ble_eq_true rfl) rfl ?_
  refine z_goto 18 dL_law_1507 (by decide) ?_
  exact z_sub [1, 2, 3, 0] rfl (hself18 (x3 + (nI 5)) h)
def kL_law_18 (xs : Nat → Int32) (L sa : Nat) (x1 : Nat) (x2 : Nat) (self18 : Int32 × ZH → Option (Int32 × ZH)) (x3 : Int32) (h : ZH) : Option (Int32 × ZH) :=
  if ((Int32.ofNat L) - (nI 5)) < x3 then (if (nI 1) = 0 ∨ (nI 1) = 1 then some ((nI 1), h) else none) else
  ((lS xs L x3).bind fun v2 =>
  zl (v2 &&& (nI 63)) fun v3 =>
  if v3 = 0 then ((lS xs L (x3 + (nI 1))).bind fun v5 =>
  (lS xs L (x3 + (nI 2))).bind fun v6 =>
  (lS xs L (x3 + (nI 3))).bind fun v7 =>
  (lS xs L (x3 + (nI 4))).bind fun v8 =>
  (fX10_addEdge x1 v5 v6 v7 v8 h).bind fun q9 =>
  (lS xs L (x3 + (nI 1))).bind fun v10 =>
  (lS xs L (x3 + (nI 2))).bind fun v11 =>
  (lS xs L (x3 + (nI 3))).bind fun v12 =>
  (lS xs L (x3 + (nI 4))).bind fun v13 =>
  (fX11_addEdge x2 v10 v11 v12 v13 q9.2).bind fun q14 =>
  if q9.1 = q14.1 then (bL_law_1504 xs L sa self18 x1 x2 x3 q14.2) else
  (if (nI 0) = 0 ∨ (nI 0) = 1 then some ((nI 0), q14.2) else none)) else
  if v3 = 1 then ((lS xs L (x3 + (nI 1))).bind fun v17 =>
  (lS xs L (x3 + (nI 2))).bind fun v18 =>
  (lS xs L (x3 + (nI 3))).bind fun v19 =>
  (lS xs L (x3 + (nI 4))).bind fun v20 =>
  (fX10_removeEdge x1 v17 v18 v19 v20 h).bind fun q21 =>
  (lS xs L (x3 + (nI 1))).bind fun v22 =>
  (lS xs L (x3 + (nI 2))).bind fun v23 =>
  (lS xs L (x3 + (nI 3))).bind fun v24 =>
  (lS xs L (x3 + (nI 4))).bind fun v25 =>
  (fX11_removeEdge x2 v22 v23 v24 v25 q21.2).bind fun q26 =>
  if q21.1 = q26.1 then (bL_law_1504 xs L sa self18 x1 x2 x3 q26.2) else
  (if (nI 0) = 0 ∨ (nI 0) = 1 then some ((nI 0), q26.2) else none)) else
  if v3 = 2 then ((lS xs L (x3 + (nI 1))).bind fun v29 =>
  (lS xs L (x3 + (nI 2))).bind fun v30 =>
  (lS xs L (x3 + (nI 3))).bind fun v31 =>
  (fX10_targets x1 v29 v30 v31 h).bind fun q32 =>
  (lS xs L (x3 + (nI 1))).bind fun v33 =>
  (lS xs L (x3 + (nI 2))).bind fun v34 =>
  (lS xs L (x3 + (nI 3))).bind fun v35 =>
  (fX11_targets x2 v33 v34 v35 q32.2).bind fun q36 =>
  if q32.1 = q36.1 then (bL_law_1504 xs L sa self18 x1 x2 x3 q36.2) else
  (if (nI 0) = 0 ∨ (nI 0) = 1 then some ((nI 0), q36.2) else none)) else
  if v3 = 3 then ((lS xs L (x3 + (nI 1))).bind fun v39 =>
  (fX10_edges x1 v39 h).bind fun q40 =>
  (lS xs L (x3 + (nI 1))).bind fun v41 =>
  (fX11_edges x2 v41 q40.2).bind fun q42 =>
  if q40.1 = q42.1 then (bL_law_1504 xs L sa self18 x1 x2 x3 q42.2) else
  (if (nI 0) = 0 ∨ (nI 0) = 1 then some ((nI 0), q42.2) else none)) else
  if v3 = 4 then ((lS xs L (x3 + (nI 1))).bind fun v45 =>
  (fX10_feed x1 v45 h).bind fun q46 =>
  (lS xs L (x3 + (nI 1))).bind fun v47 =>
  (fX11_feed x2 v47 q46.2).bind fun q48 =>
  if q46.1 = q48.1 then (bL_law_1504 xs L sa self18 x1 x2 x3 q48.2) else
  (if (nI 0) = 0 ∨ (nI 0) = 1 then some ((nI 0), q48.2) else none)) else
  if v3 = 5 then ((lS xs L (x3 + (nI 1))).bind fun v51 =>
  (fX10_parse x1 v51 h).bind fun q52 =>
  (lS xs L (x3 + (nI 1))).bind fun v53 =>
  (fX11_parse x2 v53 q52.2).bind fun q54 =>
  if q52.1 = q54.1 then (bL_law_1504 xs L sa self18 x1 x2 x3 q54.2) else
  (if (nI 0) = 0 ∨ (nI 0) = 1 then some ((nI 0), q54.2) else none)) else
  if v3 = 6 then ((lS xs L (x3 + (nI 1))).bind fun v57 =>
  (lS xs L (x3 + (nI 2))).bind fun v58 =>
  (lS xs L (x3 + (nI 3))).bind fun v59 =>
  (fX10_random x1 v57 v58 v59 h).bind fun q60 =>
  (lS xs L (x3 + (nI 1))).bind fun v61 =>
  (lS xs L (x3 + (nI 2))).bind fun v62 =>
  (lS xs L (x3 + (nI 3))).bind fun v63 =>
  (fX11_random x2 v61 v62 v63 q60.2).bind fun q64 =>
  if q60.1 = q64.1 then (bL_law_1504 xs L sa self18 x1 x2 x3 q64.2) else
  (if (nI 0) = 0 ∨ (nI 0) = 1 then some ((nI 0), q64.2) else none)) else
  if v3 = 7 then ((lS xs L (x3 + (nI 1))).bind fun v67 =>
  (fX10_essential x1 v67 h).bind fun q68 =>
  (lS xs L (x3 + (nI 1))).bind fun v69 =>
  (fX11_essential x2 v69 q68.2).bind fun q70 =>
  if q68.1 = q70.1 then (bL_law_1504 xs L sa self18 x1 x2 x3 q70.2) else
  (if (nI 0) = 0 ∨ (nI 0) = 1 then some ((nI 0), q70.2) else none)) else
  if v3 = 8 then ((lS xs L (x3 + (nI 1))).bind fun v73 =>
  (fX10_isIrreducible x1 v73 h).bind fun q74 =>
  (lS xs L (x3 + (nI 1))).bind fun v75 =>
  (fX11_isIrreducible x2 v75 q74.2).bind fun q76 =>
  if q74.1 = q76.1 then (bL_law_1504 xs L sa self18 x1 x2 x3 q76.2) else
  (if (nI 0) = 0 ∨ (nI 0) = 1 then some ((nI 0), q76.2) else none)) else
  if v3 = 9 then ((lS xs L (x3 + (nI 1))).bind fun v79 =>
  (fX10_period x1 v79 h).bind fun q80 =>
  (lS xs L (x3 + (nI 1))).bind fun v81 =>
  (fX11_period x2 v81 q80.2).bind fun q82 =>
  if q80.1 = q82.1 then (bL_law_1504 xs L sa self18 x1 x2 x3 q82.2) else
  (if (nI 0) = 0 ∨ (nI 0) = 1 then some ((nI 0), q82.2) else none)) else
  if v3 = 10 then ((lS xs L (x3 + (nI 1))).bind fun v85 =>
  (lS xs L (x3 + (nI 2))).bind fun v86 =>
  (fX10_words x1 v85 v86 h).bind fun q87 =>
  (lS xs L (x3 + (nI 1))).bind fun v88 =>
  (lS xs L (x3 + (nI 2))).bind fun v89 =>
  (fX11_words x2 v88 v89 q87.2).bind fun q90 =>
  if (lg_cmp q87.1 q90.1) = 0 then (bL_law_1504 xs L sa self18 x1 x2 x3 q90.2) else
  (if (nI 0) = 0 ∨ (nI 0) = 1 then some ((nI 0), q90.2) else none)) else
  if v3 = 11 then ((lS xs L (x3 + (nI 1))).bind fun v93 =>
  (lS xs L (x3 + (nI 2))).bind fun v94 =>
  (lS xs L (x3 + (nI 3))).bind fun v95 =>
  (fX10_growth x1 v93 v94 v95 h).bind fun q96 =>
  (lS xs L (x3 + (nI 1))).bind fun v97 =>
  (lS xs L (x3 + (nI 2))).bind fun v98 =>
  (lS xs L (x3 + (nI 3))).bind fun v99 =>
  (fX11_growth x2 v97 v98 v99 q96.2).bind fun q100 =>
  if (lg_cmp q96.1 q100.1) = 0 then (bL_law_1504 xs L sa self18 x1 x2 x3 q100.2) else
  (if (nI 0) = 0 ∨ (nI 0) = 1 then some ((nI 0), q100.2) else none)) else
  if v3 = 12 then ((lS xs L (x3 + (nI 1))).bind fun v103 =>
  (fX10_allows x1 v103 h).bind fun q104 =>
  (lS xs L (x3 + (nI 1))).bind fun v105 =>
  (fX11_allows x2 v105 q104.2).bind fun q106 =>
  if q104.1 = q106.1 then (bL_law_1504 xs L sa self18 x1 x2 x3 q106.2) else
  (if (nI 0) = 0 ∨ (nI 0) = 1 then some ((nI 0), q106.2) else none)) else
  if v3 = 13 then ((lS xs L (x3 + (nI 1))).bind fun v109 =>
  (lS xs L (x3 + (nI 2))).bind fun v110 =>
  (lS xs L (x3 + (nI 3))).bind fun v111 =>
  (lS xs L (x3 + (nI 4))).bind fun v112 =>
  (fX10_writeWord x1 v109 v110 ((jlshl (v111.toInt64) (nI 32)) ||| ((v112.toInt64) &&& (4294967295 : Int64))) h).bind fun q113 =>
  (lS xs L (x3 + (nI 1))).bind fun v114 =>
  (lS xs L (x3 + (nI 2))).bind fun v115 =>
  (lS xs L (x3 + (nI 3))).bind fun v116 =>
  (lS xs L (x3 + (nI 4))).bind fun v117 =>
  (fX11_writeWord x2 v114 v115 ((jlshl (v116.toInt64) (nI 32)) ||| ((v117.toInt64) &&& (4294967295 : Int64))) q113.2).bind fun q118 =>
  if q113.1 = q118.1 then (bL_law_1504 xs L sa self18 x1 x2 x3 q118.2) else
  (if (nI 0) = 0 ∨ (nI 0) = 1 then some ((nI 0), q118.2) else none)) else
  if v3 = 14 then ((lS xs L (x3 + (nI 1))).bind fun v121 =>
  (lS xs L (x3 + (nI 2))).bind fun v122 =>
  (fX10_forbidden x1 v121 v122 h).bind fun q123 =>
  (lS xs L (x3 + (nI 1))).bind fun v124 =>
  (lS xs L (x3 + (nI 2))).bind fun v125 =>
  (fX11_forbidden x2 v124 v125 q123.2).bind fun q126 =>
  if q123.1 = q126.1 then (bL_law_1504 xs L sa self18 x1 x2 x3 q126.2) else
  (if (nI 0) = 0 ∨ (nI 0) = 1 then some ((nI 0), q126.2) else none)) else
  if v3 = 15 then ((lS xs L (x3 + (nI 1))).bind fun v129 =>
  (lS xs L (x3 + (nI 2))).bind fun v130 =>
  (lS xs L (x3 + (nI 3))).bind fun v131 =>
  (fX10_writeForbidden x1 v129 v130 v131 h).bind fun q132 =>
  (lS xs L (x3 + (nI 1))).bind fun v133 =>
  (lS xs L (x3 + (nI 2))).bind fun v134 =>
  (lS xs L (x3 + (nI 3))).bind fun v135 =>
  (fX11_writeForbidden x2 v133 v134 v135 q132.2).bind fun q136 =>
  if q132.1 = q136.1 then (bL_law_1504 xs L sa self18 x1 x2 x3 q136.2) else
  (if (nI 0) = 0 ∨ (nI 0) = 1 then some ((nI 0), q136.2) else none)) else
  if v3 = 16 then ((lS xs L (x3 + (nI 1))).bind fun v139 =>
  (lS xs L (x3 + (nI 2))).bind fun v140 =>
  (fX10_periodic x1 v139 v140 h).bind fun q141 =>
  (lS xs L (x3 + (nI 1))).bind fun v142 =>
  (lS xs L (x3 + (nI 2))).bind fun v143 =>
  (fX11_periodic x2 v142 v143 q141.2).bind fun q144 =>
  if q141.1 = q144.1 then (bL_law_1504 xs L sa self18 x1 x2 x3 q144.2) else
  (if (nI 0) = 0 ∨ (nI 0) = 1 then some ((nI 0), q144.2) else none)) else
  if v3 = 17 then ((lS xs L (x3 + (nI 1))).bind fun v147 =>
  (lS xs L (x3 + (nI 2))).bind fun v148 =>
  (fX10_orbits x1 v147 v148 h).bind fun q149 =>
  (lS xs L (x3 + (nI 1))).bind fun v150 =>
  (lS xs L (x3 + (nI 2))).bind fun v151 =>
  (fX11_orbits x2 v150 v151 q149.2).bind fun q152 =>
  if q149.1 = q152.1 then (bL_law_1504 xs L sa self18 x1 x2 x3 q152.2) else
  (if (nI 0) = 0 ∨ (nI 0) = 1 then some ((nI 0), q152.2) else none)) else
  if v3 = 18 then ((lS xs L (x3 + (nI 1))).bind fun v155 =>
  (lS xs L (x3 + (nI 2))).bind fun v156 =>
  (fX10_characteristic x1 v155 v156 h).bind fun q157 =>
  (lS xs L (x3 + (nI 1))).bind fun v158 =>
  (lS xs L (x3 + (nI 2))).bind fun v159 =>
  (fX11_characteristic x2 v158 v159 q157.2).bind fun q160 =>
  if (lg_cmp q157.1 q160.1) = 0 then (bL_law_1504 xs L sa self18 x1 x2 x3 q160.2) else
  (if (nI 0) = 0 ∨ (nI 0) = 1 then some ((nI 0), q160.2) else none)) else
  if v3 = 19 then ((lS xs L (x3 + (nI 1))).bind fun v163 =>
  (lS xs L (x3 + (nI 2))).bind fun v164 =>
  (fX10_cover x1 v163 v164 h).bind fun q165 =>
  (lS xs L (x3 + (nI 1))).bind fun v166 =>
  (lS xs L (x3 + (nI 2))).bind fun v167 =>
  (fX11_cover x2 v166 v167 q165.2).bind fun q168 =>
  if q165.1 = q168.1 then (bL_law_1504 xs L sa self18 x1 x2 x3 q168.2) else
  (if (nI 0) = 0 ∨ (nI 0) = 1 then some ((nI 0), q168.2) else none)) else
  if v3 = 20 then ((lS xs L (x3 + (nI 1))).bind fun v171 =>
  (fX10_writeReset x1 v171 h).bind fun q172 =>
  (lS xs L (x3 + (nI 1))).bind fun v173 =>
  (fX11_writeReset x2 v173 q172.2).bind fun q174 =>
  if q172.1 = q174.1 then (bL_law_1504 xs L sa self18 x1 x2 x3 q174.2) else
  (if (nI 0) = 0 ∨ (nI 0) = 1 then some ((nI 0), q174.2) else none)) else
  if v3 = 21 then ((lS xs L (x3 + (nI 1))).bind fun v177 =>
  (fX10_memory x1 v177 h).bind fun q178 =>
  (lS xs L (x3 + (nI 1))).bind fun v179 =>
  (fX11_memory x2 v179 q178.2).bind fun q180 =>
  if q178.1 = q180.1 then (bL_law_1504 xs L sa self18 x1 x2 x3 q180.2) else
  (if (nI 0) = 0 ∨ (nI 0) = 1 then some ((nI 0), q180.2) else none)) else
  if v3 = 22 then ((lS xs L (x3 + (nI 1))).bind fun v183 =>
  (fX10_isMixing x1 v183 h).bind fun q184 =>
  (lS xs L (x3 + (nI 1))).bind fun v185 =>
  (fX11_isMixing x2 v185 q184.2).bind fun q186 =>
  if q184.1 = q186.1 then (bL_law_1504 xs L sa self18 x1 x2 x3 q186.2) else
  (if (nI 0) = 0 ∨ (nI 0) = 1 then some ((nI 0), q186.2) else none)) else
  if v3 = 23 then ((lS xs L (x3 + (nI 1))).bind fun v189 =>
  (lS xs L (x3 + (nI 2))).bind fun v190 =>
  (fX10_writeDifference x1 v189 v190 h).bind fun q191 =>
  (lS xs L (x3 + (nI 1))).bind fun v192 =>
  (lS xs L (x3 + (nI 2))).bind fun v193 =>
  (fX11_writeDifference x2 v192 v193 q191.2).bind fun q194 =>
  if q191.1 = q194.1 then (bL_law_1504 xs L sa self18 x1 x2 x3 q194.2) else
  (if (nI 0) = 0 ∨ (nI 0) = 1 then some ((nI 0), q194.2) else none)) else
  if v3 = 24 then ((lS xs L (x3 + (nI 1))).bind fun v197 =>
  (lS xs L (x3 + (nI 2))).bind fun v198 =>
  (lS xs L (x3 + (nI 3))).bind fun v199 =>
  (fX10_union x1 v197 v198 v199 h).bind fun q200 =>
  (lS xs L (x3 + (nI 1))).bind fun v201 =>
  (lS xs L (x3 + (nI 2))).bind fun v202 =>
  (lS xs L (x3 + (nI 3))).bind fun v203 =>
  (fX11_union x2 v201 v202 v203 q200.2).bind fun q204 =>
  if q200.1 = q204.1 then (bL_law_1504 xs L sa self18 x1 x2 x3 q204.2) else
  (if (nI 0) = 0 ∨ (nI 0) = 1 then some ((nI 0), q204.2) else none)) else
  if v3 = 25 then ((lS xs L (x3 + (nI 1))).bind fun v207 =>
  (lS xs L (x3 + (nI 2))).bind fun v208 =>
  (lS xs L (x3 + (nI 3))).bind fun v209 =>
  (fX10_intersect x1 v207 v208 v209 h).bind fun q210 =>
  (lS xs L (x3 + (nI 1))).bind fun v211 =>
  (lS xs L (x3 + (nI 2))).bind fun v212 =>
  (lS xs L (x3 + (nI 3))).bind fun v213 =>
  (fX11_intersect x2 v211 v212 v213 q210.2).bind fun q214 =>
  if q210.1 = q214.1 then (bL_law_1504 xs L sa self18 x1 x2 x3 q214.2) else
  (if (nI 0) = 0 ∨ (nI 0) = 1 then some ((nI 0), q214.2) else none)) else
  if v3 = 26 then ((lS xs L (x3 + (nI 1))).bind fun v217 =>
  (lS xs L (x3 + (nI 2))).bind fun v218 =>
  (fX10_reverse x1 v217 v218 h).bind fun q219 =>
  (lS xs L (x3 + (nI 1))).bind fun v220 =>
  (lS xs L (x3 + (nI 2))).bind fun v221 =>
  (fX11_reverse x2 v220 v221 q219.2).bind fun q222 =>
  if q219.1 = q222.1 then (bL_law_1504 xs L sa self18 x1 x2 x3 q222.2) else
  (if (nI 0) = 0 ∨ (nI 0) = 1 then some ((nI 0), q222.2) else none)) else
  if v3 = 27 then ((lS xs L (x3 + (nI 1))).bind fun v225 =>
  (lS xs L (x3 + (nI 2))).bind fun v226 =>
  (lS xs L (x3 + (nI 3))).bind fun v227 =>
  (lS xs L (x3 + (nI 4))).bind fun v228 =>
  (fX10_relabel x1 v225 v226 v227 v228 h).bind fun q229 =>
  (lS xs L (x3 + (nI 1))).bind fun v230 =>
  (lS xs L (x3 + (nI 2))).bind fun v231 =>
  (lS xs L (x3 + (nI 3))).bind fun v232 =>
  (lS xs L (x3 + (nI 4))).bind fun v233 =>
  (fX11_relabel x2 v230 v231 v232 v233 q229.2).bind fun q234 =>
  if q229.1 = q234.1 then (bL_law_1504 xs L sa self18 x1 x2 x3 q234.2) else
  (if (nI 0) = 0 ∨ (nI 0) = 1 then some ((nI 0), q234.2) else none)) else
  if v3 = 28 then ((lS xs L (x3 + (nI 1))).bind fun v237 =>
  (lS xs L (x3 + (nI 2))).bind fun v238 =>
  (fX10_forbid x1 v237 v238 h).bind fun q239 =>
  (lS xs L (x3 + (nI 1))).bind fun v240 =>
  (lS xs L (x3 + (nI 2))).bind fun v241 =>
  (fX11_forbid x2 v240 v241 q239.2).bind fun q242 =>
  if q239.1 = q242.1 then (bL_law_1504 xs L sa self18 x1 x2 x3 q242.2) else
  (if (nI 0) = 0 ∨ (nI 0) = 1 then some ((nI 0), q242.2) else none)) else
  if v3 = 29 then ((lS xs L (x3 + (nI 1))).bind fun v245 =>
  (fX10_writeGraph x1 v245 h).bind fun q246 =>
  (lS xs L (x3 + (nI 1))).bind fun v247 =>
  (fX11_writeGraph x2 v247 q246.2).bind fun q248 =>
  if q246.1 = q248.1 then (bL_law_1504 xs L sa self18 x1 x2 x3 q248.2) else
  (if (nI 0) = 0 ∨ (nI 0) = 1 then some ((nI 0), q248.2) else none)) else
  if v3 = 30 then ((lS xs L (x3 + (nI 1))).bind fun v251 =>
  (fX10_output x1 v251 h).bind fun q252 =>
  (lS xs L (x3 + (nI 1))).bind fun v253 =>
  (fX11_output x2 v253 q252.2).bind fun q254 =>
  if q252.1 = q254.1 then (bL_law_1504 xs L sa self18 x1 x2 x3 q254.2) else
  (if (nI 0) = 0 ∨ (nI 0) = 1 then some ((nI 0), q254.2) else none)) else
  if v3 = 31 then ((fX10_undo x1 h).bind fun q257 =>
  (fX11_undo x2 q257.2).bind fun q258 =>
  if q257.1 = q258.1 then (bL_law_1504 xs L sa self18 x1 x2 x3 q258.2) else
  (if (nI 0) = 0 ∨ (nI 0) = 1 then some ((nI 0), q258.2) else none)) else
  if v3 = 32 then ((fX10_save x1 h).bind fun q261 =>
  (fX11_save x2 q261.2).bind fun q262 =>
  if q261.1 = q262.1 then (bL_law_1504 xs L sa self18 x1 x2 x3 q262.2) else
  (if (nI 0) = 0 ∨ (nI 0) = 1 then some ((nI 0), q262.2) else none)) else
  if v3 = 33 then ((fX10_restore x1 h).bind fun q265 =>
  (fX11_restore x2 q265.2).bind fun q266 =>
  if q265.1 = q266.1 then (bL_law_1504 xs L sa self18 x1 x2 x3 q266.2) else
  (if (nI 0) = 0 ∨ (nI 0) = 1 then some ((nI 0), q266.2) else none)) else
  if v3 = 34 then ((lS xs L (x3 + (nI 1))).bind fun v269 =>
  (lS xs L (x3 + (nI 2))).bind fun v270 =>
  (lS xs L (x3 + (nI 3))).bind fun v271 =>
  (fX10_createArray x1 v269 v270 v271 h).bind fun q272 =>
  (lS xs L (x3 + (nI 1))).bind fun v273 =>
  (lS xs L (x3 + (nI 2))).bind fun v274 =>
  (lS xs L (x3 + (nI 3))).bind fun v275 =>
  (fX11_createArray x2 v273 v274 v275 q272.2).bind fun q276 =>
  if q272.1 = q276.1 then (bL_law_1504 xs L sa self18 x1 x2 x3 q276.2) else
  (if (nI 0) = 0 ∨ (nI 0) = 1 then some ((nI 0), q276.2) else none)) else
  if v3 = 35 then ((lS xs L (x3 + (nI 1))).bind fun v279 =>
  (lS xs L (x3 + (nI 2))).bind fun v280 =>
  (lS xs L (x3 + (nI 3))).bind fun v281 =>
  (fX10_setElement x1 v279 v280 v281 h).bind fun q282 =>
  (lS xs L (x3 + (nI 1))).bind fun v283 =>
  (lS xs L (x3 + (nI 2))).bind fun v284 =>
  (lS xs L (x3 + (nI 3))).bind fun v285 =>
  (fX11_setElement x2 v283 v284 v285 q282.2).bind fun q286 =>
  if q282.1 = q286.1 then (bL_law_1504 xs L sa self18 x1 x2 x3 q286.2) else
  (if (nI 0) = 0 ∨ (nI 0) = 1 then some ((nI 0), q286.2) else none)) else
  if v3 = 36 then ((lS xs L (x3 + (nI 1))).bind fun v289 =>
  (lS xs L (x3 + (nI 2))).bind fun v290 =>
  (fX10_setNaN x1 v289 v290 h).bind fun q291 =>
  (lS xs L (x3 + (nI 1))).bind fun v292 =>
  (lS xs L (x3 + (nI 2))).bind fun v293 =>
  (fX11_setNaN x2 v292 v293 q291.2).bind fun q294 =>
  if q291.1 = q294.1 then (bL_law_1504 xs L sa self18 x1 x2 x3 q294.2) else
  (if (nI 0) = 0 ∨ (nI 0) = 1 then some ((nI 0), q294.2) else none)) else
  if v3 = 37 then ((lS xs L (x3 + (nI 1))).bind fun v297 =>
  (lS xs L (x3 + (nI 2))).bind fun v298 =>
  (lS xs L (x3 + (nI 3))).bind fun v299 =>
  (fX10_compareElements x1 v297 v298 v299 h).bind fun q300 =>
  (lS xs L (x3 + (nI 1))).bind fun v301 =>
  (lS xs L (x3 + (nI 2))).bind fun v302 =>
  (lS xs L (x3 + (nI 3))).bind fun v303 =>
  (fX11_compareElements x2 v301 v302 v303 q300.2).bind fun q304 =>
  if q300.1 = q304.1 then (bL_law_1504 xs L sa self18 x1 x2 x3 q304.2) else
  (if (nI 0) = 0 ∨ (nI 0) = 1 then some ((nI 0), q304.2) else none)) else
  if v3 = 38 then ((lS xs L (x3 + (nI 1))).bind fun v307 =>
  (lS xs L (x3 + (nI 2))).bind fun v308 =>
  (fX10_checkCounts x1 v307 v308 h).bind fun q309 =>
  (lS xs L (x3 + (nI 1))).bind fun v310 =>
  (lS xs L (x3 + (nI 2))).bind fun v311 =>
  (fX11_checkCounts x2 v310 v311 q309.2).bind fun q312 =>
  if q309.1 = q312.1 then (bL_law_1504 xs L sa self18 x1 x2 x3 q312.2) else
  (if (nI 0) = 0 ∨ (nI 0) = 1 then some ((nI 0), q312.2) else none)) else
  (bL_law_1504 xs L sa self18 x1 x2 x3 h))
def lL_law_18 (xs : Nat → Int32) (L sa : Nat) (x1 : Nat) (x2 : Nat) : (Int32 × ZH → Option (Int32 × ZH)) → Int32 × ZH → Option (Int32 × ZH) := fun self s => kL_law_18 xs L sa x1 x2 self s.1 s.2
theorem KL_law_18 (b0 : Nat) (xs : Nat → Int32) (L sa : Nat) (x1 : Nat) (x2 : Nat) (self18 : Int32 × ZH → Option (Int32 × ZH)) (hself18 : ∀ (y3 : Int32) (hh : ZH), Zr zi b0 (YL b0 sa L xs) 25 18 [(0, .ref sa), (1, .ref (b0 + x1)), (2, .ref (b0 + x2)), (3, .int y3)] [] hh (self18 (y3, hh))) (x3 : Int32) (h : ZH) : Zr zi b0 (YL b0 sa L xs) 25 18 [(0, .ref sa), (1, .ref (b0 + x1)), (2, .ref (b0 + x2)), (3, .int x3)] [] h (kL_law_18 xs L sa x1 x2 self18 x3 h) := by
  unfold kL_law_18
  refine z_iload_n 19 3 dL_law_18 rfl rfl ?_
  refine z_aload_n 20 0 dL_law_19 rfl rfl ?_
  refine z_slen 21 dL_law_20 rfl ?_
  refine z_iconst (nI 5) 22 zki_5 dL_law_21 rfl ?_
  refine z_isub 23 dL_law_22 rfl ?_
  refine z_icmp_gt 1510 26 dL_law_23 (by decide) rfl (fun c1 => ?_) (fun c1 => ?_)
  · refine z_iconst (nI 1) 1511 zki_1 dL_law_1510 rfl ?_
    exact z_zreturn dL_law_1511 rfl
  · refine z_aload_n 27 0 dL_law_26 rfl rfl ?_
    refine z_iload_n 28 3 dL_law_27 rfl rfl ?_
    refine z_sld 29 dL_law_28 rfl (fun v2 _ => ?_)
    refine z_bipush (nI 63) 31 zkb_63 dL_law_29 rfl ?_
    refine z_iand 32 dL_law_31 rfl ?_
    refine z_letI (fun v3 _ => ?_)
    refine z_ite (fun c4 => ?_) (fun c4 => ?_)
    · refine z_tabIn (off := 172) 204 dL_law_32 (by rw [c4] <;> decide) (by rw [c4] <;> decide) (by rw [c4] <;> decide) (by decide) ?_
      refine z_aload_n 205 1 dL_law_204 rfl rfl ?_
      refine z_aload_n 206 0 dL_law_205 rfl rfl ?_
      refine z_iload_n 207 3 dL_law_206 rfl rfl ?_
      refine z_iconst (nI 1) 208 zki_1 dL_law_207 rfl ?_
      refine z_iadd 209 dL_law_208 rfl ?_
      refine z_sld 210 dL_law_209 rfl (fun v5 _ => ?_)
      refine z_aload_n 211 0 dL_law_210 rfl rfl ?_
      refine z_iload_n 212 3 dL_law_211 rfl rfl ?_
      refine z_iconst (nI 2) 213 zki_2 dL_law_212 rfl ?_
      refine z_iadd 214 dL_law_213 rfl ?_
      refine z_sld 215 dL_law_214 rfl (fun v6 _ => ?_)
      refine z_aload_n 216 0 dL_law_215 rfl rfl ?_
      refine z_iload_n 217 3 dL_law_216 rfl rfl ?_
      refine z_iconst (nI 3) 218 zki_3 dL_law_217 rfl ?_
      refine z_iadd 219 dL_law_218 rfl ?_
      refine z_sld 220 dL_law_219 rfl (fun v7 _ => ?_)
      refine z_aload_n 221 0 dL_law_220 rfl rfl ?_
      refine z_iload_n 222 3 dL_law_221 rfl rfl ?_
      refine z_iconst (nI 4) 223 zki_4 dL_law_222 rfl ?_
      refine z_iadd 224 dL_law_223 rfl ?_
      refine z_sld 225 dL_law_224 rfl (fun v8 _ => ?_)
      refine z_callVi 228 (mX10_addEdge b0 x1 v5 v6 v7 v8 h) zyX10_addEdge rfl w_290 (ci := 10) rfl (Nat.le_of_ble_eq_true rfl) (fun _ e9 => kX10_addEdge e9) wm_yX10_addEdge ws_yX10_addEdge (Nat.le_of_ble_eq_true rfl) rfl (Nat.le_of_ble_eq_true rfl) dL_law_225 rfl (fun q9 => ?_)
      refine z_aload_n 229 2 dL_law_228 rfl rfl ?_
      refine z_aload_n 230 0 dL_law_229 rfl rfl ?_
      refine z_iload_n 231 3 dL_law_230 rfl rfl ?_
      refine z_iconst (nI 1) 232 zki_1 dL_law_231 rfl ?_
      refine z_iadd 233 dL_law_232 rfl ?_
      refine z_sld 234 dL_law_233 rfl (fun v10 _ => ?_)
      refine z_aload_n 235 0 dL_law_234 rfl rfl ?_
      refine z_iload_n 236 3 dL_law_235 rfl rfl ?_
      refine z_iconst (nI 2) 237 zki_2 dL_law_236 rfl ?_
      refine z_iadd 238 dL_law_237 rfl ?_
      refine z_sld 239 dL_law_238 rfl (fun v11 _ => ?_)
      refine z_aload_n 240 0 dL_law_239 rfl rfl ?_
      refine z_iload_n 241 3 dL_law_240 rfl rfl ?_
      refine z_iconst (nI 3) 242 zki_3 dL_law_241 rfl ?_
      refine z_iadd 243 dL_law_242 rfl ?_
      refine z_sld 244 dL_law_243 rfl (fun v12 _ => ?_)
      refine z_aload_n 245 0 dL_law_244 rfl rfl ?_
      refine z_iload_n 246 3 dL_law_245 rfl rfl ?_
      refine z_iconst (nI 4) 247 zki_4 dL_law_246 rfl ?_
      refine z_iadd 248 dL_law_247 rfl ?_
      refine z_sld 249 dL_law_248 rfl (fun v13 _ => ?_)
      refine z_callVi 252 (mX11_addEdge b0 x2 v10 v11 v12 v13 q9.2) zyX11_addEdge rfl w_1150 (ci := 11) rfl (Nat.le_of_ble_eq_true rfl) (fun _ e9 => kX11_addEdge e9) wm_yX11_addEdge ws_yX11_addEdge (Nat.le_of_ble_eq_true rfl) rfl (Nat.le_of_ble_eq_true rfl) dL_law_249 rfl (fun q14 => ?_)
      refine z_icmp_eq 1504 255 dL_law_252 (by decide) rfl (fun c15 => ?_) (fun c15 => ?_)
      · exact z_sub [0, 1, 2, 3] rfl (BL_law_1504 b0 xs L sa self18 x1 x2 x3 q14.2 hself18)
      · refine z_iconst (nI 0) 256 zki_0 dL_law_255 rfl ?_
        exact z_zreturn dL_law_256 rfl
    refine z_ite (fun c16 => ?_) (fun c16 => ?_)
    · refine z_tabIn (off := 225) 257 dL_law_32 (by rw [c16] <;> decide) (by rw [c16] <;> decide) (by rw [c16] <;> decide) (by decide) ?_
      refine z_aload_n 258 1 dL_law_257 rfl rfl ?_
      refine z_aload_n 259 0 dL_law_258 rfl rfl ?_
      refine z_iload_n 260 3 dL_law_259 rfl rfl ?_
      refine z_iconst (nI 1) 261 zki_1 dL_law_260 rfl ?_
      refine z_iadd 262 dL_law_261 rfl ?_
      refine z_sld 263 dL_law_262 rfl (fun v17 _ => ?_)
      refine z_aload_n 264 0 dL_law_263 rfl rfl ?_
      refine z_iload_n 265 3 dL_law_264 rfl rfl ?_
      refine z_iconst (nI 2) 266 zki_2 dL_law_265 rfl ?_
      refine z_iadd 267 dL_law_266 rfl ?_
      refine z_sld 268 dL_law_267 rfl (fun v18 _ => ?_)
      refine z_aload_n 269 0 dL_law_268 rfl rfl ?_
      refine z_iload_n 270 3 dL_law_269 rfl rfl ?_
      refine z_iconst (nI 3) 271 zki_3 dL_law_270 rfl ?_
      refine z_iadd 272 dL_law_271 rfl ?_
      refine z_sld 273 dL_law_272 rfl (fun v19 _ => ?_)
      refine z_aload_n 274 0 dL_law_273 rfl rfl ?_
      refine z_iload_n 275 3 dL_law_274 rfl rfl ?_
      refine z_iconst (nI 4) 276 zki_4 dL_law_275 rfl ?_
      refine z_iadd 277 dL_law_276 rfl ?_
      refine z_sld 278 dL_law_277 rfl (fun v20 _ => ?_)
      refine z_callVi 281 (mX10_removeEdge b0 x1 v17 v18 v19 v20 h) zyX10_removeEdge rfl w_343 (ci := 10) rfl (Nat.le_of_ble_eq_true rfl) (fun _ e9 => kX10_removeEdge e9) wm_yX10_removeEdge ws_yX10_removeEdge (Nat.le_of_ble_eq_true rfl) rfl (Nat.le_of_ble_eq_true rfl) dL_law_278 rfl (fun q21 => ?_)
      refine z_aload_n 282 2 dL_law_281 rfl rfl ?_
      refine z_aload_n 283 0 dL_law_282 rfl rfl ?_
      refine z_iload_n 284 3 dL_law_283 rfl rfl ?_
      refine z_iconst (nI 1) 285 zki_1 dL_law_284 rfl ?_
      refine z_iadd 286 dL_law_285 rfl ?_
      refine z_sld 287 dL_law_286 rfl (fun v22 _ => ?_)
      refine z_aload_n 288 0 dL_law_287 rfl rfl ?_
      refine z_iload_n 289 3 dL_law_288 rfl rfl ?_
      refine z_iconst (nI 2) 290 zki_2 dL_law_289 rfl ?_
      refine z_iadd 291 dL_law_290 rfl ?_
      refine z_sld 292 dL_law_291 rfl (fun v23 _ => ?_)
      refine z_aload_n 293 0 dL_law_292 rfl rfl ?_
      refine z_iload_n 294 3 dL_law_293 rfl rfl ?_
      refine z_iconst (nI 3) 295 zki_3 dL_law_294 rfl ?_
      refine z_iadd 296 dL_law_295 rfl ?_
      refine z_sld 297 dL_law_296 rfl (fun v24 _ => ?_)
      refine z_aload_n 298 0 dL_law_297 rfl rfl ?_
      refine z_iload_n 299 3 dL_law_298 rfl rfl ?_
      refine z_iconst (nI 4) 300 zki_4 dL_law_299 rfl ?_
      refine z_iadd 301 dL_law_300 rfl ?_
      refine z_sld 302 dL_law_301 rfl (fun v25 _ => ?_)
      refine z_callVi 305 (mX11_removeEdge b0 x2 v22 v23 v24 v25 q21.2) zyX11_removeEdge rfl w_1179 (ci := 11) rfl (Nat.le_of_ble_eq_true rfl) (fun _ e9 => kX11_removeEdge e9) wm_yX11_removeEdge ws_yX11_removeEdge (Nat.le_of_ble_eq_true rfl) rfl (Nat.le_of_ble_eq_true rfl) dL_law_302 rfl (fun q26 => ?_)
      refine z_icmp_eq 1504 308 dL_law_305 (by decide) rfl (fun c27 => ?_) (fun c27 => ?_)
      · exact z_sub [0, 1, 2, 3] rfl (BL_law_1504 b0 xs L sa self18 x1 x2 x3 q26.2 hself18)
      · refine z_iconst (nI 0) 309 zki_0 dL_law_308 rfl ?_
        exact z_zreturn dL_law_309 rfl
    refine z_ite (fun c28 => ?_) (fun c28 => ?_)
    · refine z_tabIn (off := 278) 310 dL_law_32 (by rw [c28] <;> decide) (by rw [c28] <;> decide) (by rw [c28] <;> decide) (by decide) ?_
      refine z_aload_n 311 1 dL_law_310 rfl rfl ?_
      refine z_aload_n 312 0 dL_law_311 rfl rfl ?_
      refine z_iload_n 313 3 dL_law_312 rfl rfl ?_
      refine z_iconst (nI 1) 314 zki_1 dL_law_313 rfl ?_
      refine z_iadd 315 dL_law_314 rfl ?_
      refine z_sld 316 dL_law_315 rfl (fun v29 _ => ?_)
      refine z_aload_n 317 0 dL_law_316 rfl rfl ?_
      refine z_iload_n 318 3 dL_law_317 rfl rfl ?_
      refine z_iconst (nI 2) 319 zki_2 dL_law_318 rfl ?_
      refine z_iadd 320 dL_law_319 rfl ?_
      refine z_sld 321 dL_law_320 rfl (fun v30 _ => ?_)
      refine z_aload_n 322 0 dL_law_321 rfl rfl ?_
      refine z_iload_n 323 3 dL_law_322 rfl rfl ?_
      refine z_iconst (nI 3) 324 zki_3 dL_law_323 rfl ?_
      refine z_iadd 325 dL_law_324 rfl ?_
      refine z_sld 326 dL_law_325 rfl (fun v31 _ => ?_)
      refine z_callVi 329 (mX10_targets b0 x1 v29 v30 v31 h) zyX10_targets rfl w_359 (ci := 10) rfl (Nat.le_of_ble_eq_true rfl) (fun _ e9 => kX10_targets e9) wm_yX10_targets ws_yX10_targets (Nat.le_of_ble_eq_true rfl) rfl (Nat.le_of_ble_eq_true rfl) dL_law_326 rfl (fun q32 => ?_)
      refine z_aload_n 330 2 dL_law_329 rfl rfl ?_
      refine z_aload_n 331 0 dL_law_330 rfl rfl ?_
      refine z_iload_n 332 3 dL_law_331 rfl rfl ?_
      refine z_iconst (nI 1) 333 zki_1 dL_law_332 rfl ?_
      refine z_iadd 334 dL_law_333 rfl ?_
      refine z_sld 335 dL_law_334 rfl (fun v33 _ => ?_)
      refine z_aload_n 336 0 dL_law_335 rfl rfl ?_
      refine z_iload_n 337 3 dL_law_336 rfl rfl ?_
      refine z_iconst (nI 2) 338 zki_2 dL_law_337 rfl ?_
      refine z_iadd 339 dL_law_338 rfl ?_
      refine z_sld 340 dL_law_339 rfl (fun v34 _ => ?_)
      refine z_aload_n 341 0 dL_law_340 rfl rfl ?_
      refine z_iload_n 342 3 dL_law_341 rfl rfl ?_
      refine z_iconst (nI 3) 343 zki_3 dL_law_342 rfl ?_
      refine z_iadd 344 dL_law_343 rfl ?_
      refine z_sld 345 dL_law_344 rfl (fun v35 _ => ?_)
      refine z_callVi 348 (mX11_targets b0 x2 v33 v34 v35 q32.2) zyX11_targets rfl w_1187 (ci := 11) rfl (Nat.le_of_ble_eq_true rfl) (fun _ e9 => kX11_targets e9) wm_yX11_targets ws_yX11_targets (Nat.le_of_ble_eq_true rfl) rfl (Nat.le_of_ble_eq_true rfl) dL_law_345 rfl (fun q36 => ?_)
      refine z_icmp_eq 1504 351 dL_law_348 (by decide) rfl (fun c37 => ?_) (fun c37 => ?_)
      · exact z_sub [0, 1, 2, 3] rfl (BL_law_1504 b0 xs L sa self18 x1 x2 x3 q36.2 hself18)
      · refine z_iconst (nI 0) 352 zki_0 dL_law_351 rfl ?_
        exact z_zreturn dL_law_352 rfl
    refine z_ite (fun c38 => ?_) (fun c38 => ?_)
    · refine z_tabIn (off := 321) 353 dL_law_32 (by rw [c38] <;> decide) (by rw [c38] <;> decide) (by rw [c38] <;> decide) (by decide) ?_
      refine z_aload_n 354 1 dL_law_353 rfl rfl ?_
      refine z_aload_n 355 0 dL_law_354 rfl rfl ?_
      refine z_iload_n 356 3 dL_law_355 rfl rfl ?_
      refine z_iconst (nI 1) 357 zki_1 dL_law_356 rfl ?_
      refine z_iadd 358 dL_law_357 rfl ?_
      refine z_sld 359 dL_law_358 rfl (fun v39 _ => ?_)
      refine z_callVi 362 (mX10_edges b0 x1 v39 h) zyX10_edges rfl w_364 (ci := 10) rfl (Nat.le_of_ble_eq_true rfl) (fun _ e9 => kX10_edges e9) wm_yX10_edges ws_yX10_edges (Nat.le_of_ble_eq_true rfl) rfl (Nat.le_of_ble_eq_true rfl) dL_law_359 rfl (fun q40 => ?_)
      refine z_aload_n 363 2 dL_law_362 rfl rfl ?_
      refine z_aload_n 364 0 dL_law_363 rfl rfl ?_
      refine z_iload_n 365 3 dL_law_364 rfl rfl ?_
      refine z_iconst (nI 1) 366 zki_1 dL_law_365 rfl ?_
      refine z_iadd 367 dL_law_366 rfl ?_
      refine z_sld 368 dL_law_367 rfl (fun v41 _ => ?_)
      refine z_callVi 371 (mX11_edges b0 x2 v41 q40.2) zyX11_edges rfl w_1191 (ci := 11) rfl (Nat.le_of_ble_eq_true rfl) (fun _ e9 => kX11_edges e9) wm_yX11_edges ws_yX11_edges (Nat.le_of_ble_eq_true rfl) rfl (Nat.le_of_ble_eq_true rfl) dL_law_368 rfl (fun q42 => ?_)
      refine z_icmp_eq 1504 374 dL_law_371 (by decide) rfl (fun c43 => ?_) (fun c43 => ?_)
      · exact z_sub [0, 1, 2, 3] rfl (BL_law_1504 b0 xs L sa self18 x1 x2 x3 q42.2 hself18)
      · refine z_iconst (nI 0) 375 zki_0 dL_law_374 rfl ?_
        exact z_zreturn dL_law_375 rfl
    refine z_ite (fun c44 => ?_) (fun c44 => ?_)
    · refine z_tabIn (off := 344) 376 dL_law_32 (by rw [c44] <;> decide) (by rw [c44] <;> decide) (by rw [c44] <;> decide) (by decide) ?_
      refine z_aload_n 377 1 dL_law_376 rfl rfl ?_
      refine z_aload_n 378 0 dL_law_377 rfl rfl ?_
      refine z_iload_n 379 3 dL_law_378 rfl rfl ?_
      refine z_iconst (nI 1) 380 zki_1 dL_law_379 rfl ?_
      refine z_iadd 381 dL_law_380 rfl ?_
      refine z_sld 382 dL_law_381 rfl (fun v45 _ => ?_)
      refine z_callVi 385 (mX10_feed b0 x1 v45 h) zyX10_feed rfl w_368 (ci := 10) rfl (Nat.le_of_ble_eq_true rfl) (fun _ e9 => kX10_feed e9) wm_yX10_feed ws_yX10_feed (Nat.le_of_ble_eq_true rfl) rfl (Nat.le_of_ble_eq_true rfl) dL_law_382 rfl (fun q46 => ?_)
      refine z_aload_n 386 2 dL_law_385 rfl rfl ?_
      refine z_aload_n 387 0 dL_law_386 rfl rfl ?_
      refine z_iload_n 388 3 dL_law_387 rfl rfl ?_
      refine z_iconst (nI 1) 389 zki_1 dL_law_388 rfl ?_
      refine z_iadd 390 dL_law_389 rfl ?_
      refine z_sld 391 dL_law_390 rfl (fun v47 _ => ?_)
      refine z_callVi 394 (mX11_feed b0 x2 v47 q46.2) zyX11_feed rfl w_1195 (ci := 11) rfl (Nat.le_of_ble_eq_true rfl) (fun _ e9 => kX11_feed e9) wm_yX11_feed ws_yX11_feed (Nat.le_of_ble_eq_true rfl) rfl (Nat.le_of_ble_eq_true rfl) dL_law_391 rfl (fun q48 => ?_)
      refine z_icmp_eq 1504 397 dL_law_394 (by decide) rfl (fun c49 => ?_) (fun c49 => ?_)
      · exact z_sub [0, 1, 2, 3] rfl (BL_law_1504 b0 xs L sa self18 x1 x2 x3 q48.2 hself18)
      · refine z_iconst (nI 0) 398 zki_0 dL_law_397 rfl ?_
        exact z_zreturn dL_law_398 rfl
    refine z_ite (fun c50 => ?_) (fun c50 => ?_)
    · refine z_tabIn (off := 367) 399 dL_law_32 (by rw [c50] <;> decide) (by rw [c50] <;> decide) (by rw [c50] <;> decide) (by decide) ?_
      refine z_aload_n 400 1 dL_law_399 rfl rfl ?_
      refine z_aload_n 401 0 dL_law_400 rfl rfl ?_
      refine z_iload_n 402 3 dL_law_401 rfl rfl ?_
      refine z_iconst (nI 1) 403 zki_1 dL_law_402 rfl ?_
      refine z_iadd 404 dL_law_403 rfl ?_
      refine z_sld 405 dL_law_404 rfl (fun v51 _ => ?_)
      refine z_callVi 408 (mX10_parse b0 x1 v51 h) zyX10_parse rfl w_381 (ci := 10) rfl (Nat.le_of_ble_eq_true rfl) (fun _ e9 => kX10_parse e9) wm_yX10_parse ws_yX10_parse (Nat.le_of_ble_eq_true rfl) rfl (Nat.le_of_ble_eq_true rfl) dL_law_405 rfl (fun q52 => ?_)
      refine z_aload_n 409 2 dL_law_408 rfl rfl ?_
      refine z_aload_n 410 0 dL_law_409 rfl rfl ?_
      refine z_iload_n 411 3 dL_law_410 rfl rfl ?_
      refine z_iconst (nI 1) 412 zki_1 dL_law_411 rfl ?_
      refine z_iadd 413 dL_law_412 rfl ?_
      refine z_sld 414 dL_law_413 rfl (fun v53 _ => ?_)
      refine z_callVi 417 (mX11_parse b0 x2 v53 q52.2) zyX11_parse rfl w_1199 (ci := 11) rfl (Nat.le_of_ble_eq_true rfl) (fun _ e9 => kX11_parse e9) wm_yX11_parse ws_yX11_parse (Nat.le_of_ble_eq_true rfl) rfl (Nat.le_of_ble_eq_true rfl) dL_law_414 rfl (fun q54 => ?_)
      refine z_icmp_eq 1504 420 dL_law_417 (by decide) rfl (fun c55 => ?_) (fun c55 => ?_)
      · exact z_sub [0, 1, 2, 3] rfl (BL_law_1504 b0 xs L sa self18 x1 x2 x3 q54.2 hself18)
      · refine z_iconst (nI 0) 421 zki_0 dL_law_420 rfl ?_
        exact z_zreturn dL_law_421 rfl
    refine z_ite (fun c56 => ?_) (fun c56 => ?_)
    · refine z_tabIn (off := 390) 422 dL_law_32 (by rw [c56] <;> decide) (by rw [c56] <;> decide) (by rw [c56] <;> decide) (by decide) ?_
      refine z_aload_n 423 1 dL_law_422 rfl rfl ?_
      refine z_aload_n 424 0 dL_law_423 rfl rfl ?_
      refine z_iload_n 425 3 dL_law_424 rfl rfl ?_
      refine z_iconst (nI 1) 426 zki_1 dL_law_425 rfl ?_
      refine z_iadd 427 dL_law_426 rfl ?_
      refine z_sld 428 dL_law_427 rfl (fun v57 _ => ?_)
      refine z_aload_n 429 0 dL_law_428 rfl rfl ?_
      refine z_iload_n 430 3 dL_law_429 rfl rfl ?_
      refine z_iconst (nI 2) 431 zki_2 dL_law_430 rfl ?_
      refine z_iadd 432 dL_law_431 rfl ?_
      refine z_sld 433 dL_law_432 rfl (fun v58 _ => ?_)
      refine z_aload_n 434 0 dL_law_433 rfl rfl ?_
      refine z_iload_n 435 3 dL_law_434 rfl rfl ?_
      refine z_iconst (nI 3) 436 zki_3 dL_law_435 rfl ?_
      refine z_iadd 437 dL_law_436 rfl ?_
      refine z_sld 438 dL_law_437 rfl (fun v59 _ => ?_)
      refine z_callVi 441 (mX10_random b0 x1 v57 v58 v59 h) zyX10_random rfl w_412 (ci := 10) rfl (Nat.le_of_ble_eq_true rfl) (fun _ e9 => kX10_random e9) wm_yX10_random ws_yX10_random (Nat.le_of_ble_eq_true rfl) rfl (Nat.le_of_ble_eq_true rfl) dL_law_438 rfl (fun q60 => ?_)
      refine z_aload_n 442 2 dL_law_441 rfl rfl ?_
      refine z_aload_n 443 0 dL_law_442 rfl rfl ?_
      refine z_iload_n 444 3 dL_law_443 rfl rfl ?_
      refine z_iconst (nI 1) 445 zki_1 dL_law_444 rfl ?_
      refine z_iadd 446 dL_law_445 rfl ?_
      refine z_sld 447 dL_law_446 rfl (fun v61 _ => ?_)
      refine z_aload_n 448 0 dL_law_447 rfl rfl ?_
      refine z_iload_n 449 3 dL_law_448 rfl rfl ?_
      refine z_iconst (nI 2) 450 zki_2 dL_law_449 rfl ?_
      refine z_iadd 451 dL_law_450 rfl ?_
      refine z_sld 452 dL_law_451 rfl (fun v62 _ => ?_)
      refine z_aload_n 453 0 dL_law_452 rfl rfl ?_
      refine z_iload_n 454 3 dL_law_453 rfl rfl ?_
      refine z_iconst (nI 3) 455 zki_3 dL_law_454 rfl ?_
      refine z_iadd 456 dL_law_455 rfl ?_
      refine z_sld 457 dL_law_456 rfl (fun v63 _ => ?_)
      refine z_callVi 460 (mX11_random b0 x2 v61 v62 v63 q60.2) zyX11_random rfl w_1210 (ci := 11) rfl (Nat.le_of_ble_eq_true rfl) (fun _ e9 => kX11_random e9) wm_yX11_random ws_yX11_random (Nat.le_of_ble_eq_true rfl) rfl (Nat.le_of_ble_eq_true rfl) dL_law_457 rfl (fun q64 => ?_)
      refine z_icmp_eq 1504 463 dL_law_460 (by decide) rfl (fun c65 => ?_) (fun c65 => ?_)
      · exact z_sub [0, 1, 2, 3] rfl (BL_law_1504 b0 xs L sa self18 x1 x2 x3 q64.2 hself18)
      · refine z_iconst (nI 0) 464 zki_0 dL_law_463 rfl ?_
        exact z_zreturn dL_law_464 rfl
    refine z_ite (fun c66 => ?_) (fun c66 => ?_)
    · refine z_tabIn (off := 433) 465 dL_law_32 (by rw [c66] <;> decide) (by rw [c66] <;> decide) (by rw [c66] <;> decide) (by decide) ?_
      refine z_aload_n 466 1 dL_law_465 rfl rfl ?_
      refine z_aload_n 467 0 dL_law_466 rfl rfl ?_
      refine z_iload_n 468 3 dL_law_467 rfl rfl ?_
      refine z_iconst (nI 1) 469 zki_1 dL_law_468 rfl ?_
      refine z_iadd 470 dL_law_469 rfl ?_
      refine z_sld 471 dL_law_470 rfl (fun v67 _ => ?_)
      refine z_callVi 474 (mX10_essential b0 x1 v67 h) zyX10_essential rfl w_420 (ci := 10) rfl (Nat.le_of_ble_eq_true rfl) (fun _ e9 => kX10_essential e9) wm_yX10_essential ws_yX10_essential (Nat.le_of_ble_eq_true rfl) rfl (Nat.le_of_ble_eq_true rfl) dL_law_471 rfl (fun q68 => ?_)
      refine z_aload_n 475 2 dL_law_474 rfl rfl ?_
      refine z_aload_n 476 0 dL_law_475 rfl rfl ?_
      refine z_iload_n 477 3 dL_law_476 rfl rfl ?_
      refine z_iconst (nI 1) 478 zki_1 dL_law_477 rfl ?_
      refine z_iadd 479 dL_law_478 rfl ?_
      refine z_sld 480 dL_law_479 rfl (fun v69 _ => ?_)
      refine z_callVi 483 (mX11_essential b0 x2 v69 q68.2) zyX11_essential rfl w_1227 (ci := 11) rfl (Nat.le_of_ble_eq_true rfl) (fun _ e9 => kX11_essential e9) wm_yX11_essential ws_yX11_essential (Nat.le_of_ble_eq_true rfl) rfl (Nat.le_of_ble_eq_true rfl) dL_law_480 rfl (fun q70 => ?_)
      refine z_icmp_eq 1504 486 dL_law_483 (by decide) rfl (fun c71 => ?_) (fun c71 => ?_)
      · exact z_sub [0, 1, 2, 3] rfl (BL_law_1504 b0 xs L sa self18 x1 x2 x3 q70.2 hself18)
      · refine z_iconst (nI 0) 487 zki_0 dL_law_486 rfl ?_
        exact z_zreturn dL_law_487 rfl
    refine z_ite (fun c72 => ?_) (fun c72 => ?_)
    · refine z_tabIn (off := 456) 488 dL_law_32 (by rw [c72] <;> decide) (by rw [c72] <;> decide) (by rw [c72] <;> decide) (by decide) ?_
      refine z_aload_n 489 1 dL_law_488 rfl rfl ?_
      refine z_aload_n 490 0 dL_law_489 rfl rfl ?_
      refine z_iload_n 491 3 dL_law_490 rfl rfl ?_
      refine z_iconst (nI 1) 492 zki_1 dL_law_491 rfl ?_
      refine z_iadd 493 dL_law_492 rfl ?_
      refine z_sld 494 dL_law_493 rfl (fun v73 _ => ?_)
      refine z_callVi 497 (mX10_isIrreducible b0 x1 v73 h) zyX10_isIrreducible rfl w_440 (ci := 10) rfl (Nat.le_of_ble_eq_true rfl) (fun _ e9 => kX10_isIrreducible e9) wm_yX10_isIrreducible ws_yX10_isIrreducible (Nat.le_of_ble_eq_true rfl) rfl (Nat.le_of_ble_eq_true rfl) dL_law_494 rfl (fun q74 => ?_)
      refine z_aload_n 498 2 dL_law_497 rfl rfl ?_
      refine z_aload_n 499 0 dL_law_498 rfl rfl ?_
      refine z_iload_n 500 3 dL_law_499 rfl rfl ?_
      refine z_iconst (nI 1) 501 zki_1 dL_law_500 rfl ?_
      refine z_iadd 502 dL_law_501 rfl ?_
      refine z_sld 503 dL_law_502 rfl (fun v75 _ => ?_)
      refine z_callVi 506 (mX11_isIrreducible b0 x2 v75 q74.2) zyX11_isIrreducible rfl w_1239 (ci := 11) rfl (Nat.le_of_ble_eq_true rfl) (fun _ e9 => kX11_isIrreducible e9) wm_yX11_isIrreducible ws_yX11_isIrreducible (Nat.le_of_ble_eq_true rfl) rfl (Nat.le_of_ble_eq_true rfl) dL_law_503 rfl (fun q76 => ?_)
      refine z_icmp_eq 1504 509 dL_law_506 (by decide) rfl (fun c77 => ?_) (fun c77 => ?_)
      · exact z_sub [0, 1, 2, 3] rfl (BL_law_1504 b0 xs L sa self18 x1 x2 x3 q76.2 hself18)
      · refine z_iconst (nI 0) 510 zki_0 dL_law_509 rfl ?_
        exact z_zreturn dL_law_510 rfl
    refine z_ite (fun c78 => ?_) (fun c78 => ?_)
    · refine z_tabIn (off := 479) 511 dL_law_32 (by rw [c78] <;> decide) (by rw [c78] <;> decide) (by rw [c78] <;> decide) (by decide) ?_
      refine z_aload_n 512 1 dL_law_511 rfl rfl ?_
      refine z_aload_n 513 0 dL_law_512 rfl rfl ?_
      refine z_iload_n 514 3 dL_law_513 rfl rfl ?_
      refine z_iconst (nI 1) 515 zki_1 dL_law_514 rfl ?_
      refine z_iadd 516 dL_law_515 rfl ?_
      refine z_sld 517 dL_law_516 rfl (fun v79 _ => ?_)
      refine z_callVi 520 (mX10_period b0 x1 v79 h) zyX10_period rfl w_453 (ci := 10) rfl (Nat.le_of_ble_eq_true rfl) (fun _ e9 => kX10_period e9) wm_yX10_period ws_yX10_period (Nat.le_of_ble_eq_true rfl) rfl (Nat.le_of_ble_eq_true rfl) dL_law_517 rfl (fun q80 => ?_)
      refine z_aload_n 521 2 dL_law_520 rfl rfl ?_
      refine z_aload_n 522 0 dL_law_521 rfl rfl ?_
      refine z_iload_n 523 3 dL_law_522 rfl rfl ?_
      refine z_iconst (nI 1) 524 zki_1 dL_law_523 rfl ?_
      refine z_iadd 525 dL_law_524 rfl ?_
      refine z_sld 526 dL_law_525 rfl (fun v81 _ => ?_)
      refine z_callVi 529 (mX11_period b0 x2 v81 q80.2) zyX11_period rfl w_1251 (ci := 11) rfl (Nat.le_of_ble_eq_true rfl) (fun _ e9 => kX11_period e9) wm_yX11_period ws_yX11_period (Nat.le_of_ble_eq_true rfl) rfl (Nat.le_of_ble_eq_true rfl) dL_law_526 rfl (fun q82 => ?_)
      refine z_icmp_eq 1504 532 dL_law_529 (by decide) rfl (fun c83 => ?_) (fun c83 => ?_)
      · exact z_sub [0, 1, 2, 3] rfl (BL_law_1504 b0 xs L sa self18 x1 x2 x3 q82.2 hself18)
      · refine z_iconst (nI 0) 533 zki_0 dL_law_532 rfl ?_
        exact z_zreturn dL_law_533 rfl
    refine z_ite (fun c84 => ?_) (fun c84 => ?_)
    · refine z_tabIn (off := 502) 534 dL_law_32 (by rw [c84] <;> decide) (by rw [c84] <;> decide) (by rw [c84] <;> decide) (by decide) ?_
      refine z_aload_n 535 1 dL_law_534 rfl rfl ?_
      refine z_aload_n 536 0 dL_law_535 rfl rfl ?_
      refine z_iload_n 537 3 dL_law_536 rfl rfl ?_
      refine z_iconst (nI 1) 538 zki_1 dL_law_537 rfl ?_
      refine z_iadd 539 dL_law_538 rfl ?_
      refine z_sld 540 dL_law_539 rfl (fun v85 _ => ?_)
      refine z_aload_n 541 0 dL_law_540 rfl rfl ?_
      refine z_iload_n 542 3 dL_law_541 rfl rfl ?_
      refine z_iconst (nI 2) 543 zki_2 dL_law_542 rfl ?_
      refine z_iadd 544 dL_law_543 rfl ?_
      refine z_sld 545 dL_law_544 rfl (fun v86 _ => ?_)
      refine z_callVj 548 (mX10_words b0 x1 v85 v86 h) zyX10_words rfl w_464 (ci := 10) rfl (Nat.le_of_ble_eq_true rfl) (fun _ e9 => kX10_words e9) wm_yX10_words ws_yX10_words (Nat.le_of_ble_eq_true rfl) rfl (Nat.le_of_ble_eq_true rfl) dL_law_545 rfl (fun q87 => ?_)
      refine z_aload_n 549 2 dL_law_548 rfl rfl ?_
      refine z_aload_n 550 0 dL_law_549 rfl rfl ?_
      refine z_iload_n 551 3 dL_law_550 rfl rfl ?_
      refine z_iconst (nI 1) 552 zki_1 dL_law_551 rfl ?_
      refine z_iadd 553 dL_law_552 rfl ?_
      refine z_sld 554 dL_law_553 rfl (fun v88 _ => ?_)
      refine z_aload_n 555 0 dL_law_554 rfl rfl ?_
      refine z_iload_n 556 3 dL_law_555 rfl rfl ?_
      refine z_iconst (nI 2) 557 zki_2 dL_law_556 rfl ?_
      refine z_iadd 558 dL_law_557 rfl ?_
      refine z_sld 559 dL_law_558 rfl (fun v89 _ => ?_)
      refine z_callVj 562 (mX11_words b0 x2 v88 v89 q87.2) zyX11_words rfl w_1258 (ci := 11) rfl (Nat.le_of_ble_eq_true rfl) (fun _ e9 => kX11_words e9) wm_yX11_words ws_yX11_words (Nat.le_of_ble_eq_true rfl) rfl (Nat.le_of_ble_eq_true rfl) dL_law_559 rfl (fun q90 => ?_)
      refine z_lcmp 563 dL_law_562 rfl ?_
      refine z_if_eq 1504 566 dL_law_563 (by decide) rfl (fun c91 => ?_) (fun c91 => ?_)
      · exact z_sub [0, 1, 2, 3] rfl (BL_law_1504 b0 xs L sa self18 x1 x2 x3 q90.2 hself18)
      · refine z_iconst (nI 0) 567 zki_0 dL_law_566 rfl ?_
        exact z_zreturn dL_law_567 rfl
    refine z_ite (fun c92 => ?_) (fun c92 => ?_)
    · refine z_tabIn (off := 536) 568 dL_law_32 (by rw [c92] <;> decide) (by rw [c92] <;> decide) (by rw [c92] <;> decide) (by decide) ?_
      refine z_aload_n 569 1 dL_law_568 rfl rfl ?_
      refine z_aload_n 570 0 dL_law_569 rfl rfl ?_
      refine z_iload_n 571 3 dL_law_570 rfl rfl ?_
      refine z_iconst (nI 1) 572 zki_1 dL_law_571 rfl ?_
      refine z_iadd 573 dL_law_572 rfl ?_
      refine z_sld 574 dL_law_573 rfl (fun v93 _ => ?_)
      refine z_aload_n 575 0 dL_law_574 rfl rfl ?_
      refine z_iload_n 576 3 dL_law_575 rfl rfl ?_
      refine z_iconst (nI 2) 577 zki_2 dL_law_576 rfl ?_
      refine z_iadd 578 dL_law_577 rfl ?_
      refine z_sld 579 dL_law_578 rfl (fun v94 _ => ?_)
      refine z_aload_n 580 0 dL_law_579 rfl rfl ?_
      refine z_iload_n 581 3 dL_law_580 rfl rfl ?_
      refine z_iconst (nI 3) 582 zki_3 dL_law_581 rfl ?_
      refine z_iadd 583 dL_law_582 rfl ?_
      refine z_sld 584 dL_law_583 rfl (fun v95 _ => ?_)
      refine z_callVj 587 (mX10_growth b0 x1 v93 v94 v95 h) zyX10_growth rfl w_515 (ci := 10) rfl (Nat.le_of_ble_eq_true rfl) (fun _ e9 => kX10_growth e9) wm_yX10_growth ws_yX10_growth (Nat.le_of_ble_eq_true rfl) rfl (Nat.le_of_ble_eq_true rfl) dL_law_584 rfl (fun q96 => ?_)
      refine z_aload_n 588 2 dL_law_587 rfl rfl ?_
      refine z_aload_n 589 0 dL_law_588 rfl rfl ?_
      refine z_iload_n 590 3 dL_law_589 rfl rfl ?_
      refine z_iconst (nI 1) 591 zki_1 dL_law_590 rfl ?_
      refine z_iadd 592 dL_law_591 rfl ?_
      refine z_sld 593 dL_law_592 rfl (fun v97 _ => ?_)
      refine z_aload_n 594 0 dL_law_593 rfl rfl ?_
      refine z_iload_n 595 3 dL_law_594 rfl rfl ?_
      refine z_iconst (nI 2) 596 zki_2 dL_law_595 rfl ?_
      refine z_iadd 597 dL_law_596 rfl ?_
      refine z_sld 598 dL_law_597 rfl (fun v98 _ => ?_)
      refine z_aload_n 599 0 dL_law_598 rfl rfl ?_
      refine z_iload_n 600 3 dL_law_599 rfl rfl ?_
      refine z_iconst (nI 3) 601 zki_3 dL_law_600 rfl ?_
      refine z_iadd 602 dL_law_601 rfl ?_
      refine z_sld 603 dL_law_602 rfl (fun v99 _ => ?_)
      refine z_callVj 606 (mX11_growth b0 x2 v97 v98 v99 q96.2) zyX11_growth rfl w_1275 (ci := 11) rfl (Nat.le_of_ble_eq_true rfl) (fun _ e9 => kX11_growth e9) wm_yX11_growth ws_yX11_growth (Nat.le_of_ble_eq_true rfl) rfl (Nat.le_of_ble_eq_true rfl) dL_law_603 rfl (fun q100 => ?_)
      refine z_lcmp 607 dL_law_606 rfl ?_
      refine z_if_eq 1504 610 dL_law_607 (by decide) rfl (fun c101 => ?_) (fun c101 => ?_)
      · exact z_sub [0, 1, 2, 3] rfl (BL_law_1504 b0 xs L sa self18 x1 x2 x3 q100.2 hself18)
      · refine z_iconst (nI 0) 611 zki_0 dL_law_610 rfl ?_
        exact z_zreturn dL_law_611 rfl
    refine z_ite (fun c102 => ?_) (fun c102 => ?_)
    · refine z_tabIn (off := 580) 612 dL_law_32 (by rw [c102] <;> decide) (by rw [c102] <;> decide) (by rw [c102] <;> decide) (by decide) ?_
      refine z_aload_n 613 1 dL_law_612 rfl rfl ?_
      refine z_aload_n 614 0 dL_law_613 rfl rfl ?_
      refine z_iload_n 615 3 dL_law_614 rfl rfl ?_
      refine z_iconst (nI 1) 616 zki_1 dL_law_615 rfl ?_
      refine z_iadd 617 dL_law_616 rfl ?_
      refine z_sld 618 dL_law_617 rfl (fun v103 _ => ?_)
      refine z_callVi 621 (mX10_allows b0 x1 v103 h) zyX10_allows rfl w_520 (ci := 10) rfl (Nat.le_of_ble_eq_true rfl) (fun _ e9 => kX10_allows e9) wm_yX10_allows ws_yX10_allows (Nat.le_of_ble_eq_true rfl) rfl (Nat.le_of_ble_eq_true rfl) dL_law_618 rfl (fun q104 => ?_)
      refine z_aload_n 622 2 dL_law_621 rfl rfl ?_
      refine z_aload_n 623 0 dL_law_622 rfl rfl ?_
      refine z_iload_n 624 3 dL_law_623 rfl rfl ?_
      refine z_iconst (nI 1) 625 zki_1 dL_law_624 rfl ?_
      refine z_iadd 626 dL_law_625 rfl ?_
      refine z_sld 627 dL_law_626 rfl (fun v105 _ => ?_)
      refine z_callVi 630 (mX11_allows b0 x2 v105 q104.2) zyX11_allows rfl w_1279 (ci := 11) rfl (Nat.le_of_ble_eq_true rfl) (fun _ e9 => kX11_allows e9) wm_yX11_allows ws_yX11_allows (Nat.le_of_ble_eq_true rfl) rfl (Nat.le_of_ble_eq_true rfl) dL_law_627 rfl (fun q106 => ?_)
      refine z_icmp_eq 1504 633 dL_law_630 (by decide) rfl (fun c107 => ?_) (fun c107 => ?_)
      · exact z_sub [0, 1, 2, 3] rfl (BL_law_1504 b0 xs L sa self18 x1 x2 x3 q106.2 hself18)
      · refine z_iconst (nI 0) 634 zki_0 dL_law_633 rfl ?_
        exact z_zreturn dL_law_634 rfl
    refine z_ite (fun c108 => ?_) (fun c108 => ?_)
    · refine z_tabIn (off := 603) 635 dL_law_32 (by rw [c108] <;> decide) (by rw [c108] <;> decide) (by rw [c108] <;> decide) (by decide) ?_
      refine z_aload_n 636 1 dL_law_635 rfl rfl ?_
      refine z_aload_n 637 0 dL_law_636 rfl rfl ?_
      refine z_iload_n 638 3 dL_law_637 rfl rfl ?_
      refine z_iconst (nI 1) 639 zki_1 dL_law_638 rfl ?_
      refine z_iadd 640 dL_law_639 rfl ?_
      refine z_sld 641 dL_law_640 rfl (fun v109 _ => ?_)
      refine z_aload_n 642 0 dL_law_641 rfl rfl ?_
      refine z_iload_n 643 3 dL_law_642 rfl rfl ?_
      refine z_iconst (nI 2) 644 zki_2 dL_law_643 rfl ?_
      refine z_iadd 645 dL_law_644 rfl ?_
      refine z_sld 646 dL_law_645 rfl (fun v110 _ => ?_)
      refine z_aload_n 647 0 dL_law_646 rfl rfl ?_
      refine z_iload_n 648 3 dL_law_647 rfl rfl ?_
      refine z_iconst (nI 3) 649 zki_3 dL_law_648 rfl ?_
      refine z_iadd 650 dL_law_649 rfl ?_
      refine z_sld 651 dL_law_650 rfl (fun v111 _ => ?_)
      refine z_i2l 652 dL_law_651 rfl ?_
      refine z_bipush (nI 32) 654 zkb_32 dL_law_652 rfl ?_
      refine z_lshl 655 dL_law_654 rfl ?_
      refine z_aload_n 656 0 dL_law_655 rfl rfl ?_
      refine z_iload_n 657 3 dL_law_656 rfl rfl ?_
      refine z_iconst (nI 4) 658 zki_4 dL_law_657 rfl ?_
      refine z_iadd 659 dL_law_658 rfl ?_
      refine z_sld 660 dL_law_659 rfl (fun v112 _ => ?_)
      refine z_i2l 661 dL_law_660 rfl ?_
      refine z_ldc2 664 w_1527 dL_law_661 rfl ?_
      refine z_land 665 dL_law_664 rfl ?_
      refine z_lor 666 dL_law_665 rfl ?_
      refine z_callVi 669 (mX10_writeWord b0 x1 v109 v110 ((jlshl (v111.toInt64) (nI 32)) ||| ((v112.toInt64) &&& (4294967295 : Int64))) h) zyX10_writeWord rfl w_533 (ci := 10) rfl (Nat.le_of_ble_eq_true rfl) (fun _ e9 => kX10_writeWord e9) wm_yX10_writeWord ws_yX10_writeWord (Nat.le_of_ble_eq_true rfl) rfl (Nat.le_of_ble_eq_true rfl) dL_law_666 rfl (fun q113 => ?_)
      refine z_aload_n 670 2 dL_law_669 rfl rfl ?_
      refine z_aload_n 671 0 dL_law_670 rfl rfl ?_
      refine z_iload_n 672 3 dL_law_671 rfl rfl ?_
      refine z_iconst (nI 1) 673 zki_1 dL_law_672 rfl ?_
      refine z_iadd 674 dL_law_673 rfl ?_
      refine z_sld 675 dL_law_674 rfl (fun v114 _ => ?_)
      refine z_aload_n 676 0 dL_law_675 rfl rfl ?_
      refine z_iload_n 677 3 dL_law_676 rfl rfl ?_
      refine z_iconst (nI 2) 678 zki_2 dL_law_677 rfl ?_
      refine z_iadd 679 dL_law_678 rfl ?_
      refine z_sld 680 dL_law_679 rfl (fun v115 _ => ?_)
      refine z_aload_n 681 0 dL_law_680 rfl rfl ?_
      refine z_iload_n 682 3 dL_law_681 rfl rfl ?_
      refine z_iconst (nI 3) 683 zki_3 dL_law_682 rfl ?_
      refine z_iadd 684 dL_law_683 rfl ?_
      refine z_sld 685 dL_law_684 rfl (fun v116 _ => ?_)
      refine z_i2l 686 dL_law_685 rfl ?_
      refine z_bipush (nI 32) 688 zkb_32 dL_law_686 rfl ?_
      refine z_lshl 689 dL_law_688 rfl ?_
      refine z_aload_n 690 0 dL_law_689 rfl rfl ?_
      refine z_iload_n 691 3 dL_law_690 rfl rfl ?_
      refine z_iconst (nI 4) 692 zki_4 dL_law_691 rfl ?_
      refine z_iadd 693 dL_law_692 rfl ?_
      refine z_sld 694 dL_law_693 rfl (fun v117 _ => ?_)
      refine z_i2l 695 dL_law_694 rfl ?_
      refine z_ldc2 698 w_1527 dL_law_695 rfl ?_
      refine z_land 699 dL_law_698 rfl ?_
      refine z_lor 700 dL_law_699 rfl ?_
      refine z_callVi 703 (mX11_writeWord b0 x2 v114 v115 ((jlshl (v116.toInt64) (nI 32)) ||| ((v117.toInt64) &&& (4294967295 : Int64))) q113.2) zyX11_writeWord rfl w_1291 (ci := 11) rfl (Nat.le_of_ble_eq_true rfl) (fun _ e9 => kX11_writeWord e9) wm_yX11_writeWord ws_yX11_writeWord (Nat.le_of_ble_eq_true rfl) rfl (Nat.le_of_ble_eq_true rfl) dL_law_700 rfl (fun q118 => ?_)
      refine z_icmp_eq 1504 706 dL_law_703 (by decide) rfl (fun c119 => ?_) (fun c119 => ?_)
      · exact z_sub [0, 1, 2, 3] rfl (BL_law_1504 b0 xs L sa self18 x1 x2 x3 q118.2 hself18)
      · refine z_iconst (nI 0) 707 zki_0 dL_law_706 rfl ?_
        exact z_zreturn dL_law_707 rfl
    refine z_ite (fun c120 => ?_) (fun c120 => ?_)
    · refine z_tabIn (off := 676) 708 dL_law_32 (by rw [c120] <;> decide) (by rw [c120] <;> decide) (by rw [c120] <;> decide) (by decide) ?_
      refine z_aload_n 709 1 dL_law_708 rfl rfl ?_
      refine z_aload_n 710 0 dL_law_709 rfl rfl ?_
      refine z_iload_n 711 3 dL_law_710 rfl rfl ?_
      refine z_iconst (nI 1) 712 zki_1 dL_law_711 rfl ?_
      refine z_iadd 713 dL_law_712 rfl ?_
      refine z_sld 714 dL_law_713 rfl (fun v121 _ => ?_)
      refine z_aload_n 715 0 dL_law_714 rfl rfl ?_
      refine z_iload_n 716 3 dL_law_715 rfl rfl ?_
      refine z_iconst (nI 2) 717 zki_2 dL_law_716 rfl ?_
      refine z_iadd 718 dL_law_717 rfl ?_
      refine z_sld 719 dL_law_718 rfl (fun v122 _ => ?_)
      refine z_callVi 722 (mX10_forbidden b0 x1 v121 v122 h) zyX10_forbidden rfl w_547 (ci := 10) rfl (Nat.le_of_ble_eq_true rfl) (fun _ e9 => kX10_forbidden e9) wm_yX10_forbidden ws_yX10_forbidden (Nat.le_of_ble_eq_true rfl) rfl (Nat.le_of_ble_eq_true rfl) dL_law_719 rfl (fun q123 => ?_)
      refine z_aload_n 723 2 dL_law_722 rfl rfl ?_
      refine z_aload_n 724 0 dL_law_723 rfl rfl ?_
      refine z_iload_n 725 3 dL_law_724 rfl rfl ?_
      refine z_iconst (nI 1) 726 zki_1 dL_law_725 rfl ?_
      refine z_iadd 727 dL_law_726 rfl ?_
      refine z_sld 728 dL_law_727 rfl (fun v124 _ => ?_)
      refine z_aload_n 729 0 dL_law_728 rfl rfl ?_
      refine z_iload_n 730 3 dL_law_729 rfl rfl ?_
      refine z_iconst (nI 2) 731 zki_2 dL_law_730 rfl ?_
      refine z_iadd 732 dL_law_731 rfl ?_
      refine z_sld 733 dL_law_732 rfl (fun v125 _ => ?_)
      refine z_callVi 736 (mX11_forbidden b0 x2 v124 v125 q123.2) zyX11_forbidden rfl w_1299 (ci := 11) rfl (Nat.le_of_ble_eq_true rfl) (fun _ e9 => kX11_forbidden e9) wm_yX11_forbidden ws_yX11_forbidden (Nat.le_of_ble_eq_true rfl) rfl (Nat.le_of_ble_eq_true rfl) dL_law_733 rfl (fun q126 => ?_)
      refine z_icmp_eq 1504 739 dL_law_736 (by decide) rfl (fun c127 => ?_) (fun c127 => ?_)
      · exact z_sub [0, 1, 2, 3] rfl (BL_law_1504 b0 xs L sa self18 x1 x2 x3 q126.2 hself18)
      · refine z_iconst (nI 0) 740 zki_0 dL_law_739 rfl ?_
        exact z_zreturn dL_law_740 rfl
    refine z_ite (fun c128 => ?_) (fun c128 => ?_)
    · refine z_tabIn (off := 709) 741 dL_law_32 (by rw [c128] <;> decide) (by rw [c128] <;> decide) (by rw [c128] <;> decide) (by decide) ?_
      refine z_aload_n 742 1 dL_law_741 rfl rfl ?_
      refine z_aload_n 743 0 dL_law_742 rfl rfl ?_
      refine z_iload_n 744 3 dL_law_743 rfl rfl ?_
      refine z_iconst (nI 1) 745 zki_1 dL_law_744 rfl ?_
      refine z_iadd 746 dL_law_745 rfl ?_
      refine z_sld 747 dL_law_746 rfl (fun v129 _ => ?_)
      refine z_aload_n 748 0 dL_law_747 rfl rfl ?_
      refine z_iload_n 749 3 dL_law_748 rfl rfl ?_
      refine z_iconst (nI 2) 750 zki_2 dL_law_749 rfl ?_
      refine z_iadd 751 dL_law_750 rfl ?_
      refine z_sld 752 dL_law_751 rfl (fun v130 _ => ?_)
      refine z_aload_n 753 0 dL_law_752 rfl rfl ?_
      refine z_iload_n 754 3 dL_law_753 rfl rfl ?_
      refine z_iconst (nI 3) 755 zki_3 dL_law_754 rfl ?_
      refine z_iadd 756 dL_law_755 rfl ?_
      refine z_sld 757 dL_law_756 rfl (fun v131 _ => ?_)
      refine z_callVi 760 (mX10_writeForbidden b0 x1 v129 v130 v131 h) zyX10_writeForbidden rfl w_570 (ci := 10) rfl (Nat.le_of_ble_eq_true rfl) (fun _ e9 => kX10_writeForbidden e9) wm_yX10_writeForbidden ws_yX10_writeForbidden (Nat.le_of_ble_eq_true rfl) rfl (Nat.le_of_ble_eq_true rfl) dL_law_757 rfl (fun q132 => ?_)
      refine z_aload_n 761 2 dL_law_760 rfl rfl ?_
      refine z_aload_n 762 0 dL_law_761 rfl rfl ?_
      refine z_iload_n 763 3 dL_law_762 rfl rfl ?_
      refine z_iconst (nI 1) 764 zki_1 dL_law_763 rfl ?_
      refine z_iadd 765 dL_law_764 rfl ?_
      refine z_sld 766 dL_law_765 rfl (fun v133 _ => ?_)
      refine z_aload_n 767 0 dL_law_766 rfl rfl ?_
      refine z_iload_n 768 3 dL_law_767 rfl rfl ?_
      refine z_iconst (nI 2) 769 zki_2 dL_law_768 rfl ?_
      refine z_iadd 770 dL_law_769 rfl ?_
      refine z_sld 771 dL_law_770 rfl (fun v134 _ => ?_)
      refine z_aload_n 772 0 dL_law_771 rfl rfl ?_
      refine z_iload_n 773 3 dL_law_772 rfl rfl ?_
      refine z_iconst (nI 3) 774 zki_3 dL_law_773 rfl ?_
      refine z_iadd 775 dL_law_774 rfl ?_
      refine z_sld 776 dL_law_775 rfl (fun v135 _ => ?_)
      refine z_callVi 779 (mX11_writeForbidden b0 x2 v133 v134 v135 q132.2) zyX11_writeForbidden rfl w_1311 (ci := 11) rfl (Nat.le_of_ble_eq_true rfl) (fun _ e9 => kX11_writeForbidden e9) wm_yX11_writeForbidden ws_yX11_writeForbidden (Nat.le_of_ble_eq_true rfl) rfl (Nat.le_of_ble_eq_true rfl) dL_law_776 rfl (fun q136 => ?_)
      refine z_icmp_eq 1504 782 dL_law_779 (by decide) rfl (fun c137 => ?_) (fun c137 => ?_)
      · exact z_sub [0, 1, 2, 3] rfl (BL_law_1504 b0 xs L sa self18 x1 x2 x3 q136.2 hself18)
      · refine z_iconst (nI 0) 783 zki_0 dL_law_782 rfl ?_
        exact z_zreturn dL_law_783 rfl
    refine z_ite (fun c138 => ?_) (fun c138 => ?_)
    · refine z_tabIn (off := 752) 784 dL_law_32 (by rw [c138] <;> decide) (by rw [c138] <;> decide) (by rw [c138] <;> decide) (by decide) ?_
      refine z_aload_n 785 1 dL_law_784 rfl rfl ?_
      refine z_aload_n 786 0 dL_law_785 rfl rfl ?_
      refine z_iload_n 787 3 dL_law_786 rfl rfl ?_
      refine z_iconst (nI 1) 788 zki_1 dL_law_787 rfl ?_
      refine z_iadd 789 dL_law_788 rfl ?_
      refine z_sld 790 dL_law_789 rfl (fun v139 _ => ?_)
      refine z_aload_n 791 0 dL_law_790 rfl rfl ?_
      refine z_iload_n 792 3 dL_law_791 rfl rfl ?_
      refine z_iconst (nI 2) 793 zki_2 dL_law_792 rfl ?_
      refine z_iadd 794 dL_law_793 rfl ?_
      refine z_sld 795 dL_law_794 rfl (fun v140 _ => ?_)
      refine z_callVi 798 (mX10_periodic b0 x1 v139 v140 h) zyX10_periodic rfl w_580 (ci := 10) rfl (Nat.le_of_ble_eq_true rfl) (fun _ e9 => kX10_periodic e9) wm_yX10_periodic ws_yX10_periodic (Nat.le_of_ble_eq_true rfl) rfl (Nat.le_of_ble_eq_true rfl) dL_law_795 rfl (fun q141 => ?_)
      refine z_aload_n 799 2 dL_law_798 rfl rfl ?_
      refine z_aload_n 800 0 dL_law_799 rfl rfl ?_
      refine z_iload_n 801 3 dL_law_800 rfl rfl ?_
      refine z_iconst (nI 1) 802 zki_1 dL_law_801 rfl ?_
      refine z_iadd 803 dL_law_802 rfl ?_
      refine z_sld 804 dL_law_803 rfl (fun v142 _ => ?_)
      refine z_aload_n 805 0 dL_law_804 rfl rfl ?_
      refine z_iload_n 806 3 dL_law_805 rfl rfl ?_
      refine z_iconst (nI 2) 807 zki_2 dL_law_806 rfl ?_
      refine z_iadd 808 dL_law_807 rfl ?_
      refine z_sld 809 dL_law_808 rfl (fun v143 _ => ?_)
      refine z_callVi 812 (mX11_periodic b0 x2 v142 v143 q141.2) zyX11_periodic rfl w_1315 (ci := 11) rfl (Nat.le_of_ble_eq_true rfl) (fun _ e9 => kX11_periodic e9) wm_yX11_periodic ws_yX11_periodic (Nat.le_of_ble_eq_true rfl) rfl (Nat.le_of_ble_eq_true rfl) dL_law_809 rfl (fun q144 => ?_)
      refine z_icmp_eq 1504 815 dL_law_812 (by decide) rfl (fun c145 => ?_) (fun c145 => ?_)
      · exact z_sub [0, 1, 2, 3] rfl (BL_law_1504 b0 xs L sa self18 x1 x2 x3 q144.2 hself18)
      · refine z_iconst (nI 0) 816 zki_0 dL_law_815 rfl ?_
        exact z_zreturn dL_law_816 rfl
    refine z_ite (fun c146 => ?_) (fun c146 => ?_)
    · refine z_tabIn (off := 785) 817 dL_law_32 (by rw [c146] <;> decide) (by rw [c146] <;> decide) (by rw [c146] <;> decide) (by decide) ?_
      refine z_aload_n 818 1 dL_law_817 rfl rfl ?_
      refine z_aload_n 819 0 dL_law_818 rfl rfl ?_
      refine z_iload_n 820 3 dL_law_819 rfl rfl ?_
      refine z_iconst (nI 1) 821 zki_1 dL_law_820 rfl ?_
      refine z_iadd 822 dL_law_821 rfl ?_
      refine z_sld 823 dL_law_822 rfl (fun v147 _ => ?_)
      refine z_aload_n 824 0 dL_law_823 rfl rfl ?_
      refine z_iload_n 825 3 dL_law_824 rfl rfl ?_
      refine z_iconst (nI 2) 826 zki_2 dL_law_825 rfl ?_
      refine z_iadd 827 dL_law_826 rfl ?_
      refine z_sld 828 dL_law_827 rfl (fun v148 _ => ?_)
      refine z_callVi 831 (mX10_orbits b0 x1 v147 v148 h) zyX10_orbits rfl w_596 (ci := 10) rfl (Nat.le_of_ble_eq_true rfl) (fun _ e9 => kX10_orbits e9) wm_yX10_orbits ws_yX10_orbits (Nat.le_of_ble_eq_true rfl) rfl (Nat.le_of_ble_eq_true rfl) dL_law_828 rfl (fun q149 => ?_)
      refine z_aload_n 832 2 dL_law_831 rfl rfl ?_
      refine z_aload_n 833 0 dL_law_832 rfl rfl ?_
      refine z_iload_n 834 3 dL_law_833 rfl rfl ?_
      refine z_iconst (nI 1) 835 zki_1 dL_law_834 rfl ?_
      refine z_iadd 836 dL_law_835 rfl ?_
      refine z_sld 837 dL_law_836 rfl (fun v150 _ => ?_)
      refine z_aload_n 838 0 dL_law_837 rfl rfl ?_
      refine z_iload_n 839 3 dL_law_838 rfl rfl ?_
      refine z_iconst (nI 2) 840 zki_2 dL_law_839 rfl ?_
      refine z_iadd 841 dL_law_840 rfl ?_
      refine z_sld 842 dL_law_841 rfl (fun v151 _ => ?_)
      refine z_callVi 845 (mX11_orbits b0 x2 v150 v151 q149.2) zyX11_orbits rfl w_1331 (ci := 11) rfl (Nat.le_of_ble_eq_true rfl) (fun _ e9 => kX11_orbits e9) wm_yX11_orbits ws_yX11_orbits (Nat.le_of_ble_eq_true rfl) rfl (Nat.le_of_ble_eq_true rfl) dL_law_842 rfl (fun q152 => ?_)
      refine z_icmp_eq 1504 848 dL_law_845 (by decide) rfl (fun c153 => ?_) (fun c153 => ?_)
      · exact z_sub [0, 1, 2, 3] rfl (BL_law_1504 b0 xs L sa self18 x1 x2 x3 q152.2 hself18)
      · refine z_iconst (nI 0) 849 zki_0 dL_law_848 rfl ?_
        exact z_zreturn dL_law_849 rfl
    refine z_ite (fun c154 => ?_) (fun c154 => ?_)
    · refine z_tabIn (off := 818) 850 dL_law_32 (by rw [c154] <;> decide) (by rw [c154] <;> decide) (by rw [c154] <;> decide) (by decide) ?_
      refine z_aload_n 851 1 dL_law_850 rfl rfl ?_
      refine z_aload_n 852 0 dL_law_851 rfl rfl ?_
      refine z_iload_n 853 3 dL_law_852 rfl rfl ?_
      refine z_iconst (nI 1) 854 zki_1 dL_law_853 rfl ?_
      refine z_iadd 855 dL_law_854 rfl ?_
      refine z_sld 856 dL_law_855 rfl (fun v155 _ => ?_)
      refine z_aload_n 857 0 dL_law_856 rfl rfl ?_
      refine z_iload_n 858 3 dL_law_857 rfl rfl ?_
      refine z_iconst (nI 2) 859 zki_2 dL_law_858 rfl ?_
      refine z_iadd 860 dL_law_859 rfl ?_
      refine z_sld 861 dL_law_860 rfl (fun v156 _ => ?_)
      refine z_callVj 864 (mX10_characteristic b0 x1 v155 v156 h) zyX10_characteristic rfl w_600 (ci := 10) rfl (Nat.le_of_ble_eq_true rfl) (fun _ e9 => kX10_characteristic e9) wm_yX10_characteristic ws_yX10_characteristic (Nat.le_of_ble_eq_true rfl) rfl (Nat.le_of_ble_eq_true rfl) dL_law_861 rfl (fun q157 => ?_)
      refine z_aload_n 865 2 dL_law_864 rfl rfl ?_
      refine z_aload_n 866 0 dL_law_865 rfl rfl ?_
      refine z_iload_n 867 3 dL_law_866 rfl rfl ?_
      refine z_iconst (nI 1) 868 zki_1 dL_law_867 rfl ?_
      refine z_iadd 869 dL_law_868 rfl ?_
      refine z_sld 870 dL_law_869 rfl (fun v158 _ => ?_)
      refine z_aload_n 871 0 dL_law_870 rfl rfl ?_
      refine z_iload_n 872 3 dL_law_871 rfl rfl ?_
      refine z_iconst (nI 2) 873 zki_2 dL_law_872 rfl ?_
      refine z_iadd 874 dL_law_873 rfl ?_
      refine z_sld 875 dL_law_874 rfl (fun v159 _ => ?_)
      refine z_callVj 878 (mX11_characteristic b0 x2 v158 v159 q157.2) zyX11_characteristic rfl w_1335 (ci := 11) rfl (Nat.le_of_ble_eq_true rfl) (fun _ e9 => kX11_characteristic e9) wm_yX11_characteristic ws_yX11_characteristic (Nat.le_of_ble_eq_true rfl) rfl (Nat.le_of_ble_eq_true rfl) dL_law_875 rfl (fun q160 => ?_)
      refine z_lcmp 879 dL_law_878 rfl ?_
      refine z_if_eq 1504 882 dL_law_879 (by decide) rfl (fun c161 => ?_) (fun c161 => ?_)
      · exact z_sub [0, 1, 2, 3] rfl (BL_law_1504 b0 xs L sa self18 x1 x2 x3 q160.2 hself18)
      · refine z_iconst (nI 0) 883 zki_0 dL_law_882 rfl ?_
        exact z_zreturn dL_law_883 rfl
    refine z_ite (fun c162 => ?_) (fun c162 => ?_)
    · refine z_tabIn (off := 852) 884 dL_law_32 (by rw [c162] <;> decide) (by rw [c162] <;> decide) (by rw [c162] <;> decide) (by decide) ?_
      refine z_aload_n 885 1 dL_law_884 rfl rfl ?_
      refine z_aload_n 886 0 dL_law_885 rfl rfl ?_
      refine z_iload_n 887 3 dL_law_886 rfl rfl ?_
      refine z_iconst (nI 1) 888 zki_1 dL_law_887 rfl ?_
      refine z_iadd 889 dL_law_888 rfl ?_
      refine z_sld 890 dL_law_889 rfl (fun v163 _ => ?_)
      refine z_aload_n 891 0 dL_law_890 rfl rfl ?_
      refine z_iload_n 892 3 dL_law_891 rfl rfl ?_
      refine z_iconst (nI 2) 893 zki_2 dL_law_892 rfl ?_
      refine z_iadd 894 dL_law_893 rfl ?_
      refine z_sld 895 dL_law_894 rfl (fun v164 _ => ?_)
      refine z_callVi 898 (mX10_cover b0 x1 v163 v164 h) zyX10_cover rfl w_631 (ci := 10) rfl (Nat.le_of_ble_eq_true rfl) (fun _ e9 => kX10_cover e9) wm_yX10_cover ws_yX10_cover (Nat.le_of_ble_eq_true rfl) rfl (Nat.le_of_ble_eq_true rfl) dL_law_895 rfl (fun q165 => ?_)
      refine z_aload_n 899 2 dL_law_898 rfl rfl ?_
      refine z_aload_n 900 0 dL_law_899 rfl rfl ?_
      refine z_iload_n 901 3 dL_law_900 rfl rfl ?_
      refine z_iconst (nI 1) 902 zki_1 dL_law_901 rfl ?_
      refine z_iadd 903 dL_law_902 rfl ?_
      refine z_sld 904 dL_law_903 rfl (fun v166 _ => ?_)
      refine z_aload_n 905 0 dL_law_904 rfl rfl ?_
      refine z_iload_n 906 3 dL_law_905 rfl rfl ?_
      refine z_iconst (nI 2) 907 zki_2 dL_law_906 rfl ?_
      refine z_iadd 908 dL_law_907 rfl ?_
      refine z_sld 909 dL_law_908 rfl (fun v167 _ => ?_)
      refine z_callVi 912 (mX11_cover b0 x2 v166 v167 q165.2) zyX11_cover rfl w_1352 (ci := 11) rfl (Nat.le_of_ble_eq_true rfl) (fun _ e9 => kX11_cover e9) wm_yX11_cover ws_yX11_cover (Nat.le_of_ble_eq_true rfl) rfl (Nat.le_of_ble_eq_true rfl) dL_law_909 rfl (fun q168 => ?_)
      refine z_icmp_eq 1504 915 dL_law_912 (by decide) rfl (fun c169 => ?_) (fun c169 => ?_)
      · exact z_sub [0, 1, 2, 3] rfl (BL_law_1504 b0 xs L sa self18 x1 x2 x3 q168.2 hself18)
      · refine z_iconst (nI 0) 916 zki_0 dL_law_915 rfl ?_
        exact z_zreturn dL_law_916 rfl
    refine z_ite (fun c170 => ?_) (fun c170 => ?_)
    · refine z_tabIn (off := 885) 917 dL_law_32 (by rw [c170] <;> decide) (by rw [c170] <;> decide) (by rw [c170] <;> decide) (by decide) ?_
      refine z_aload_n 918 1 dL_law_917 rfl rfl ?_
      refine z_aload_n 919 0 dL_law_918 rfl rfl ?_
      refine z_iload_n 920 3 dL_law_919 rfl rfl ?_
      refine z_iconst (nI 1) 921 zki_1 dL_law_920 rfl ?_
      refine z_iadd 922 dL_law_921 rfl ?_
      refine z_sld 923 dL_law_922 rfl (fun v171 _ => ?_)
      refine z_callVi 926 (mX10_writeReset b0 x1 v171 h) zyX10_writeReset rfl w_727 (ci := 10) rfl (Nat.le_of_ble_eq_true rfl) (fun _ e9 => kX10_writeReset e9) wm_yX10_writeReset ws_yX10_writeReset (Nat.le_of_ble_eq_true rfl) rfl (Nat.le_of_ble_eq_true rfl) dL_law_923 rfl (fun q172 => ?_)
      refine z_aload_n 927 2 dL_law_926 rfl rfl ?_
      refine z_aload_n 928 0 dL_law_927 rfl rfl ?_
      refine z_iload_n 929 3 dL_law_928 rfl rfl ?_
      refine z_iconst (nI 1) 930 zki_1 dL_law_929 rfl ?_
      refine z_iadd 931 dL_law_930 rfl ?_
      refine z_sld 932 dL_law_931 rfl (fun v173 _ => ?_)
      refine z_callVi 935 (mX11_writeReset b0 x2 v173 q172.2) zyX11_writeReset rfl w_1408 (ci := 11) rfl (Nat.le_of_ble_eq_true rfl) (fun _ e9 => kX11_writeReset e9) wm_yX11_writeReset ws_yX11_writeReset (Nat.le_of_ble_eq_true rfl) rfl (Nat.le_of_ble_eq_true rfl) dL_law_932 rfl (fun q174 => ?_)
      refine z_icmp_eq 1504 938 dL_law_935 (by decide) rfl (fun c175 => ?_) (fun c175 => ?_)
      · exact z_sub [0, 1, 2, 3] rfl (BL_law_1504 b0 xs L sa self18 x1 x2 x3 q174.2 hself18)
      · refine z_iconst (nI 0) 939 zki_0 dL_law_938 rfl ?_
        exact z_zreturn dL_law_939 rfl
    refine z_ite (fun c176 => ?_) (fun c176 => ?_)
    · refine z_tabIn (off := 908) 940 dL_law_32 (by rw [c176] <;> decide) (by rw [c176] <;> decide) (by rw [c176] <;> decide) (by decide) ?_
      refine z_aload_n 941 1 dL_law_940 rfl rfl ?_
      refine z_aload_n 942 0 dL_law_941 rfl rfl ?_
      refine z_iload_n 943 3 dL_law_942 rfl rfl ?_
      refine z_iconst (nI 1) 944 zki_1 dL_law_943 rfl ?_
      refine z_iadd 945 dL_law_944 rfl ?_
      refine z_sld 946 dL_law_945 rfl (fun v177 _ => ?_)
      refine z_callVi 949 (mX10_memory b0 x1 v177 h) zyX10_memory rfl w_744 (ci := 10) rfl (Nat.le_of_ble_eq_true rfl) (fun _ e9 => kX10_memory e9) wm_yX10_memory ws_yX10_memory (Nat.le_of_ble_eq_true rfl) rfl (Nat.le_of_ble_eq_true rfl) dL_law_946 rfl (fun q178 => ?_)
      refine z_aload_n 950 2 dL_law_949 rfl rfl ?_
      refine z_aload_n 951 0 dL_law_950 rfl rfl ?_
      refine z_iload_n 952 3 dL_law_951 rfl rfl ?_
      refine z_iconst (nI 1) 953 zki_1 dL_law_952 rfl ?_
      refine z_iadd 954 dL_law_953 rfl ?_
      refine z_sld 955 dL_law_954 rfl (fun v179 _ => ?_)
      refine z_callVi 958 (mX11_memory b0 x2 v179 q178.2) zyX11_memory rfl w_1412 (ci := 11) rfl (Nat.le_of_ble_eq_true rfl) (fun _ e9 => kX11_memory e9) wm_yX11_memory ws_yX11_memory (Nat.le_of_ble_eq_true rfl) rfl (Nat.le_of_ble_eq_true rfl) dL_law_955 rfl (fun q180 => ?_)
      refine z_icmp_eq 1504 961 dL_law_958 (by decide) rfl (fun c181 => ?_) (fun c181 => ?_)
      · exact z_sub [0, 1, 2, 3] rfl (BL_law_1504 b0 xs L sa self18 x1 x2 x3 q180.2 hself18)
      · refine z_iconst (nI 0) 962 zki_0 dL_law_961 rfl ?_
        exact z_zreturn dL_law_962 rfl
    refine z_ite (fun c182 => ?_) (fun c182 => ?_)
    · refine z_tabIn (off := 931) 963 dL_law_32 (by rw [c182] <;> decide) (by rw [c182] <;> decide) (by rw [c182] <;> decide) (by decide) ?_
      refine z_aload_n 964 1 dL_law_963 rfl rfl ?_
      refine z_aload_n 965 0 dL_law_964 rfl rfl ?_
      refine z_iload_n 966 3 dL_law_965 rfl rfl ?_
      refine z_iconst (nI 1) 967 zki_1 dL_law_966 rfl ?_
      refine z_iadd 968 dL_law_967 rfl ?_
      refine z_sld 969 dL_law_968 rfl (fun v183 _ => ?_)
      refine z_callVi 972 (mX10_isMixing b0 x1 v183 h) zyX10_isMixing rfl w_763 (ci := 10) rfl (Nat.le_of_ble_eq_true rfl) (fun _ e9 => kX10_isMixing e9) wm_yX10_isMixing ws_yX10_isMixing (Nat.le_of_ble_eq_true rfl) rfl (Nat.le_of_ble_eq_true rfl) dL_law_969 rfl (fun q184 => ?_)
      refine z_aload_n 973 2 dL_law_972 rfl rfl ?_
      refine z_aload_n 974 0 dL_law_973 rfl rfl ?_
      refine z_iload_n 975 3 dL_law_974 rfl rfl ?_
      refine z_iconst (nI 1) 976 zki_1 dL_law_975 rfl ?_
      refine z_iadd 977 dL_law_976 rfl ?_
      refine z_sld 978 dL_law_977 rfl (fun v185 _ => ?_)
      refine z_callVi 981 (mX11_isMixing b0 x2 v185 q184.2) zyX11_isMixing rfl w_1420 (ci := 11) rfl (Nat.le_of_ble_eq_true rfl) (fun _ e9 => kX11_isMixing e9) wm_yX11_isMixing ws_yX11_isMixing (Nat.le_of_ble_eq_true rfl) rfl (Nat.le_of_ble_eq_true rfl) dL_law_978 rfl (fun q186 => ?_)
      refine z_icmp_eq 1504 984 dL_law_981 (by decide) rfl (fun c187 => ?_) (fun c187 => ?_)
      · exact z_sub [0, 1, 2, 3] rfl (BL_law_1504 b0 xs L sa self18 x1 x2 x3 q186.2 hself18)
      · refine z_iconst (nI 0) 985 zki_0 dL_law_984 rfl ?_
        exact z_zreturn dL_law_985 rfl
    refine z_ite (fun c188 => ?_) (fun c188 => ?_)
    · refine z_tabIn (off := 954) 986 dL_law_32 (by rw [c188] <;> decide) (by rw [c188] <;> decide) (by rw [c188] <;> decide) (by decide) ?_
      refine z_aload_n 987 1 dL_law_986 rfl rfl ?_
      refine z_aload_n 988 0 dL_law_987 rfl rfl ?_
      refine z_iload_n 989 3 dL_law_988 rfl rfl ?_
      refine z_iconst (nI 1) 990 zki_1 dL_law_989 rfl ?_
      refine z_iadd 991 dL_law_990 rfl ?_
      refine z_sld 992 dL_law_991 rfl (fun v189 _ => ?_)
      refine z_aload_n 993 0 dL_law_992 rfl rfl ?_
      refine z_iload_n 994 3 dL_law_993 rfl rfl ?_
      refine z_iconst (nI 2) 995 zki_2 dL_law_994 rfl ?_
      refine z_iadd 996 dL_law_995 rfl ?_
      refine z_sld 997 dL_law_996 rfl (fun v190 _ => ?_)
      refine z_callVi 1000 (mX10_writeDifference b0 x1 v189 v190 h) zyX10_writeDifference rfl w_767 (ci := 10) rfl (Nat.le_of_ble_eq_true rfl) (fun _ e9 => kX10_writeDifference e9) wm_yX10_writeDifference ws_yX10_writeDifference (Nat.le_of_ble_eq_true rfl) rfl (Nat.le_of_ble_eq_true rfl) dL_law_997 rfl (fun q191 => ?_)
      refine z_aload_n 1001 2 dL_law_1000 rfl rfl ?_
      refine z_aload_n 1002 0 dL_law_1001 rfl rfl ?_
      refine z_iload_n 1003 3 dL_law_1002 rfl rfl ?_
      refine z_iconst (nI 1) 1004 zki_1 dL_law_1003 rfl ?_
      refine z_iadd 1005 dL_law_1004 rfl ?_
      refine z_sld 1006 dL_law_1005 rfl (fun v192 _ => ?_)
      refine z_aload_n 1007 0 dL_law_1006 rfl rfl ?_
      refine z_iload_n 1008 3 dL_law_1007 rfl rfl ?_
      refine z_iconst (nI 2) 1009 zki_2 dL_law_1008 rfl ?_
      refine z_iadd 1010 dL_law_1009 rfl ?_
      refine z_sld 1011 dL_law_1010 rfl (fun v193 _ => ?_)
      refine z_callVi 1014 (mX11_writeDifference b0 x2 v192 v193 q191.2) zyX11_writeDifference rfl w_1424 (ci := 11) rfl (Nat.le_of_ble_eq_true rfl) (fun _ e9 => kX11_writeDifference e9) wm_yX11_writeDifference ws_yX11_writeDifference (Nat.le_of_ble_eq_true rfl) rfl (Nat.le_of_ble_eq_true rfl) dL_law_1011 rfl (fun q194 => ?_)
      refine z_icmp_eq 1504 1017 dL_law_1014 (by decide) rfl (fun c195 => ?_) (fun c195 => ?_)
      · exact z_sub [0, 1, 2, 3] rfl (BL_law_1504 b0 xs L sa self18 x1 x2 x3 q194.2 hself18)
      · refine z_iconst (nI 0) 1018 zki_0 dL_law_1017 rfl ?_
        exact z_zreturn dL_law_1018 rfl
    refine z_ite (fun c196 => ?_) (fun c196 => ?_)
    · refine z_tabIn (off := 987) 1019 dL_law_32 (by rw [c196] <;> decide) (by rw [c196] <;> decide) (by rw [c196] <;> decide) (by decide) ?_
      refine z_aload_n 1020 1 dL_law_1019 rfl rfl ?_
      refine z_aload_n 1021 0 dL_law_1020 rfl rfl ?_
      refine z_iload_n 1022 3 dL_law_1021 rfl rfl ?_
      refine z_iconst (nI 1) 1023 zki_1 dL_law_1022 rfl ?_
      refine z_iadd 1024 dL_law_1023 rfl ?_
      refine z_sld 1025 dL_law_1024 rfl (fun v197 _ => ?_)
      refine z_aload_n 1026 0 dL_law_1025 rfl rfl ?_
      refine z_iload_n 1027 3 dL_law_1026 rfl rfl ?_
      refine z_iconst (nI 2) 1028 zki_2 dL_law_1027 rfl ?_
      refine z_iadd 1029 dL_law_1028 rfl ?_
      refine z_sld 1030 dL_law_1029 rfl (fun v198 _ => ?_)
      refine z_aload_n 1031 0 dL_law_1030 rfl rfl ?_
      refine z_iload_n 1032 3 dL_law_1031 rfl rfl ?_
      refine z_iconst (nI 3) 1033 zki_3 dL_law_1032 rfl ?_
      refine z_iadd 1034 dL_law_1033 rfl ?_
      refine z_sld 1035 dL_law_1034 rfl (fun v199 _ => ?_)
      refine z_callVi 1038 (mX10_union b0 x1 v197 v198 v199 h) zyX10_union rfl w_823 (ci := 10) rfl (Nat.le_of_ble_eq_true rfl) (fun _ e9 => kX10_union e9) wm_yX10_union ws_yX10_union (Nat.le_of_ble_eq_true rfl) rfl (Nat.le_of_ble_eq_true rfl) dL_law_1035 rfl (fun q200 => ?_)
      refine z_aload_n 1039 2 dL_law_1038 rfl rfl ?_
      refine z_aload_n 1040 0 dL_law_1039 rfl rfl ?_
      refine z_iload_n 1041 3 dL_law_1040 rfl rfl ?_
      refine z_iconst (nI 1) 1042 zki_1 dL_law_1041 rfl ?_
      refine z_iadd 1043 dL_law_1042 rfl ?_
      refine z_sld 1044 dL_law_1043 rfl (fun v201 _ => ?_)
      refine z_aload_n 1045 0 dL_law_1044 rfl rfl ?_
      refine z_iload_n 1046 3 dL_law_1045 rfl rfl ?_
      refine z_iconst (nI 2) 1047 zki_2 dL_law_1046 rfl ?_
      refine z_iadd 1048 dL_law_1047 rfl ?_
      refine z_sld 1049 dL_law_1048 rfl (fun v202 _ => ?_)
      refine z_aload_n 1050 0 dL_law_1049 rfl rfl ?_
      refine z_iload_n 1051 3 dL_law_1050 rfl rfl ?_
      refine z_iconst (nI 3) 1052 zki_3 dL_law_1051 rfl ?_
      refine z_iadd 1053 dL_law_1052 rfl ?_
      refine z_sld 1054 dL_law_1053 rfl (fun v203 _ => ?_)
      refine z_callVi 1057 (mX11_union b0 x2 v201 v202 v203 q200.2) zyX11_union rfl w_1432 (ci := 11) rfl (Nat.le_of_ble_eq_true rfl) (fun _ e9 => kX11_union e9) wm_yX11_union ws_yX11_union (Nat.le_of_ble_eq_true rfl) rfl (Nat.le_of_ble_eq_true rfl) dL_law_1054 rfl (fun q204 => ?_)
      refine z_icmp_eq 1504 1060 dL_law_1057 (by decide) rfl (fun c205 => ?_) (fun c205 => ?_)
      · exact z_sub [0, 1, 2, 3] rfl (BL_law_1504 b0 xs L sa self18 x1 x2 x3 q204.2 hself18)
      · refine z_iconst (nI 0) 1061 zki_0 dL_law_1060 rfl ?_
        exact z_zreturn dL_law_1061 rfl
    refine z_ite (fun c206 => ?_) (fun c206 => ?_)
    · refine z_tabIn (off := 1030) 1062 dL_law_32 (by rw [c206] <;> decide) (by rw [c206] <;> decide) (by rw [c206] <;> decide) (by decide) ?_
      refine z_aload_n 1063 1 dL_law_1062 rfl rfl ?_
      refine z_aload_n 1064 0 dL_law_1063 rfl rfl ?_
      refine z_iload_n 1065 3 dL_law_1064 rfl rfl ?_
      refine z_iconst (nI 1) 1066 zki_1 dL_law_1065 rfl ?_
      refine z_iadd 1067 dL_law_1066 rfl ?_
      refine z_sld 1068 dL_law_1067 rfl (fun v207 _ => ?_)
      refine z_aload_n 1069 0 dL_law_1068 rfl rfl ?_
      refine z_iload_n 1070 3 dL_law_1069 rfl rfl ?_
      refine z_iconst (nI 2) 1071 zki_2 dL_law_1070 rfl ?_
      refine z_iadd 1072 dL_law_1071 rfl ?_
      refine z_sld 1073 dL_law_1072 rfl (fun v208 _ => ?_)
      refine z_aload_n 1074 0 dL_law_1073 rfl rfl ?_
      refine z_iload_n 1075 3 dL_law_1074 rfl rfl ?_
      refine z_iconst (nI 3) 1076 zki_3 dL_law_1075 rfl ?_
      refine z_iadd 1077 dL_law_1076 rfl ?_
      refine z_sld 1078 dL_law_1077 rfl (fun v209 _ => ?_)
      refine z_callVi 1081 (mX10_intersect b0 x1 v207 v208 v209 h) zyX10_intersect rfl w_874 (ci := 10) rfl (Nat.le_of_ble_eq_true rfl) (fun _ e9 => kX10_intersect e9) wm_yX10_intersect ws_yX10_intersect (Nat.le_of_ble_eq_true rfl) rfl (Nat.le_of_ble_eq_true rfl) dL_law_1078 rfl (fun q210 => ?_)
      refine z_aload_n 1082 2 dL_law_1081 rfl rfl ?_
      refine z_aload_n 1083 0 dL_law_1082 rfl rfl ?_
      refine z_iload_n 1084 3 dL_law_1083 rfl rfl ?_
      refine z_iconst (nI 1) 1085 zki_1 dL_law_1084 rfl ?_
      refine z_iadd 1086 dL_law_1085 rfl ?_
      refine z_sld 1087 dL_law_1086 rfl (fun v211 _ => ?_)
      refine z_aload_n 1088 0 dL_law_1087 rfl rfl ?_
      refine z_iload_n 1089 3 dL_law_1088 rfl rfl ?_
      refine z_iconst (nI 2) 1090 zki_2 dL_law_1089 rfl ?_
      refine z_iadd 1091 dL_law_1090 rfl ?_
      refine z_sld 1092 dL_law_1091 rfl (fun v212 _ => ?_)
      refine z_aload_n 1093 0 dL_law_1092 rfl rfl ?_
      refine z_iload_n 1094 3 dL_law_1093 rfl rfl ?_
      refine z_iconst (nI 3) 1095 zki_3 dL_law_1094 rfl ?_
      refine z_iadd 1096 dL_law_1095 rfl ?_
      refine z_sld 1097 dL_law_1096 rfl (fun v213 _ => ?_)
      refine z_callVi 1100 (mX11_intersect b0 x2 v211 v212 v213 q210.2) zyX11_intersect rfl w_1440 (ci := 11) rfl (Nat.le_of_ble_eq_true rfl) (fun _ e9 => kX11_intersect e9) wm_yX11_intersect ws_yX11_intersect (Nat.le_of_ble_eq_true rfl) rfl (Nat.le_of_ble_eq_true rfl) dL_law_1097 rfl (fun q214 => ?_)
      refine z_icmp_eq 1504 1103 dL_law_1100 (by decide) rfl (fun c215 => ?_) (fun c215 => ?_)
      · exact z_sub [0, 1, 2, 3] rfl (BL_law_1504 b0 xs L sa self18 x1 x2 x3 q214.2 hself18)
      · refine z_iconst (nI 0) 1104 zki_0 dL_law_1103 rfl ?_
        exact z_zreturn dL_law_1104 rfl
    refine z_ite (fun c216 => ?_) (fun c216 => ?_)
    · refine z_tabIn (off := 1073) 1105 dL_law_32 (by rw [c216] <;> decide) (by rw [c216] <;> decide) (by rw [c216] <;> decide) (by decide) ?_
      refine z_aload_n 1106 1 dL_law_1105 rfl rfl ?_
      refine z_aload_n 1107 0 dL_law_1106 rfl rfl ?_
      refine z_iload_n 1108 3 dL_law_1107 rfl rfl ?_
      refine z_iconst (nI 1) 1109 zki_1 dL_law_1108 rfl ?_
      refine z_iadd 1110 dL_law_1109 rfl ?_
      refine z_sld 1111 dL_law_1110 rfl (fun v217 _ => ?_)
      refine z_aload_n 1112 0 dL_law_1111 rfl rfl ?_
      refine z_iload_n 1113 3 dL_law_1112 rfl rfl ?_
      refine z_iconst (nI 2) 1114 zki_2 dL_law_1113 rfl ?_
      refine z_iadd 1115 dL_law_1114 rfl ?_
      refine z_sld 1116 dL_law_1115 rfl (fun v218 _ => ?_)
      refine z_callVi 1119 (mX10_reverse b0 x1 v217 v218 h) zyX10_reverse rfl w_881 (ci := 10) rfl (Nat.le_of_ble_eq_true rfl) (fun _ e9 => kX10_reverse e9) wm_yX10_reverse ws_yX10_reverse (Nat.le_of_ble_eq_true rfl) rfl (Nat.le_of_ble_eq_true rfl) dL_law_1116 rfl (fun q219 => ?_)
      refine z_aload_n 1120 2 dL_law_1119 rfl rfl ?_
      refine z_aload_n 1121 0 dL_law_1120 rfl rfl ?_
      refine z_iload_n 1122 3 dL_law_1121 rfl rfl ?_
      refine z_iconst (nI 1) 1123 zki_1 dL_law_1122 rfl ?_
      refine z_iadd 1124 dL_law_1123 rfl ?_
      refine z_sld 1125 dL_law_1124 rfl (fun v220 _ => ?_)
      refine z_aload_n 1126 0 dL_law_1125 rfl rfl ?_
      refine z_iload_n 1127 3 dL_law_1126 rfl rfl ?_
      refine z_iconst (nI 2) 1128 zki_2 dL_law_1127 rfl ?_
      refine z_iadd 1129 dL_law_1128 rfl ?_
      refine z_sld 1130 dL_law_1129 rfl (fun v221 _ => ?_)
      refine z_callVi 1133 (mX11_reverse b0 x2 v220 v221 q219.2) zyX11_reverse rfl w_1461 (ci := 11) rfl (Nat.le_of_ble_eq_true rfl) (fun _ e9 => kX11_reverse e9) wm_yX11_reverse ws_yX11_reverse (Nat.le_of_ble_eq_true rfl) rfl (Nat.le_of_ble_eq_true rfl) dL_law_1130 rfl (fun q222 => ?_)
      refine z_icmp_eq 1504 1136 dL_law_1133 (by decide) rfl (fun c223 => ?_) (fun c223 => ?_)
      · exact z_sub [0, 1, 2, 3] rfl (BL_law_1504 b0 xs L sa self18 x1 x2 x3 q222.2 hself18)
      · refine z_iconst (nI 0) 1137 zki_0 dL_law_1136 rfl ?_
        exact z_zreturn dL_law_1137 rfl
    refine z_ite (fun c224 => ?_) (fun c224 => ?_)
    · refine z_tabIn (off := 1106) 1138 dL_law_32 (by rw [c224] <;> decide) (by rw [c224] <;> decide) (by rw [c224] <;> decide) (by decide) ?_
      refine z_aload_n 1139 1 dL_law_1138 rfl rfl ?_
      refine z_aload_n 1140 0 dL_law_1139 rfl rfl ?_
      refine z_iload_n 1141 3 dL_law_1140 rfl rfl ?_
      refine z_iconst (nI 1) 1142 zki_1 dL_law_1141 rfl ?_
      refine z_iadd 1143 dL_law_1142 rfl ?_
      refine z_sld 1144 dL_law_1143 rfl (fun v225 _ => ?_)
      refine z_aload_n 1145 0 dL_law_1144 rfl rfl ?_
      refine z_iload_n 1146 3 dL_law_1145 rfl rfl ?_
      refine z_iconst (nI 2) 1147 zki_2 dL_law_1146 rfl ?_
      refine z_iadd 1148 dL_law_1147 rfl ?_
      refine z_sld 1149 dL_law_1148 rfl (fun v226 _ => ?_)
      refine z_aload_n 1150 0 dL_law_1149 rfl rfl ?_
      refine z_iload_n 1151 3 dL_law_1150 rfl rfl ?_
      refine z_iconst (nI 3) 1152 zki_3 dL_law_1151 rfl ?_
      refine z_iadd 1153 dL_law_1152 rfl ?_
      refine z_sld 1154 dL_law_1153 rfl (fun v227 _ => ?_)
      refine z_aload_n 1155 0 dL_law_1154 rfl rfl ?_
      refine z_iload_n 1156 3 dL_law_1155 rfl rfl ?_
      refine z_iconst (nI 4) 1157 zki_4 dL_law_1156 rfl ?_
      refine z_iadd 1158 dL_law_1157 rfl ?_
      refine z_sld 1159 dL_law_1158 rfl (fun v228 _ => ?_)
      refine z_callVi 1162 (mX10_relabel b0 x1 v225 v226 v227 v228 h) zyX10_relabel rfl w_885 (ci := 10) rfl (Nat.le_of_ble_eq_true rfl) (fun _ e9 => kX10_relabel e9) wm_yX10_relabel ws_yX10_relabel (Nat.le_of_ble_eq_true rfl) rfl (Nat.le_of_ble_eq_true rfl) dL_law_1159 rfl (fun q229 => ?_)
      refine z_aload_n 1163 2 dL_law_1162 rfl rfl ?_
      refine z_aload_n 1164 0 dL_law_1163 rfl rfl ?_
      refine z_iload_n 1165 3 dL_law_1164 rfl rfl ?_
      refine z_iconst (nI 1) 1166 zki_1 dL_law_1165 rfl ?_
      refine z_iadd 1167 dL_law_1166 rfl ?_
      refine z_sld 1168 dL_law_1167 rfl (fun v230 _ => ?_)
      refine z_aload_n 1169 0 dL_law_1168 rfl rfl ?_
      refine z_iload_n 1170 3 dL_law_1169 rfl rfl ?_
      refine z_iconst (nI 2) 1171 zki_2 dL_law_1170 rfl ?_
      refine z_iadd 1172 dL_law_1171 rfl ?_
      refine z_sld 1173 dL_law_1172 rfl (fun v231 _ => ?_)
      refine z_aload_n 1174 0 dL_law_1173 rfl rfl ?_
      refine z_iload_n 1175 3 dL_law_1174 rfl rfl ?_
      refine z_iconst (nI 3) 1176 zki_3 dL_law_1175 rfl ?_
      refine z_iadd 1177 dL_law_1176 rfl ?_
      refine z_sld 1178 dL_law_1177 rfl (fun v232 _ => ?_)
      refine z_aload_n 1179 0 dL_law_1178 rfl rfl ?_
      refine z_iload_n 1180 3 dL_law_1179 rfl rfl ?_
      refine z_iconst (nI 4) 1181 zki_4 dL_law_1180 rfl ?_
      refine z_iadd 1182 dL_law_1181 rfl ?_
      refine z_sld 1183 dL_law_1182 rfl (fun v233 _ => ?_)
      refine z_callVi 1186 (mX11_relabel b0 x2 v230 v231 v232 v233 q229.2) zyX11_relabel rfl w_1465 (ci := 11) rfl (Nat.le_of_ble_eq_true rfl) (fun _ e9 => kX11_relabel e9) wm_yX11_relabel ws_yX11_relabel (Nat.le_of_ble_eq_true rfl) rfl (Nat.le_of_ble_eq_true rfl) dL_law_1183 rfl (fun q234 => ?_)
      refine z_icmp_eq 1504 1189 dL_law_1186 (by decide) rfl (fun c235 => ?_) (fun c235 => ?_)
      · exact z_sub [0, 1, 2, 3] rfl (BL_law_1504 b0 xs L sa self18 x1 x2 x3 q234.2 hself18)
      · refine z_iconst (nI 0) 1190 zki_0 dL_law_1189 rfl ?_
        exact z_zreturn dL_law_1190 rfl
    refine z_ite (fun c236 => ?_) (fun c236 => ?_)
    · refine z_tabIn (off := 1159) 1191 dL_law_32 (by rw [c236] <;> decide) (by rw [c236] <;> decide) (by rw [c236] <;> decide) (by decide) ?_
      refine z_aload_n 1192 1 dL_law_1191 rfl rfl ?_
      refine z_aload_n 1193 0 dL_law_1192 rfl rfl ?_
      refine z_iload_n 1194 3 dL_law_1193 rfl rfl ?_
      refine z_iconst (nI 1) 1195 zki_1 dL_law_1194 rfl ?_
      refine z_iadd 1196 dL_law_1195 rfl ?_
      refine z_sld 1197 dL_law_1196 rfl (fun v237 _ => ?_)
      refine z_aload_n 1198 0 dL_law_1197 rfl rfl ?_
      refine z_iload_n 1199 3 dL_law_1198 rfl rfl ?_
      refine z_iconst (nI 2) 1200 zki_2 dL_law_1199 rfl ?_
      refine z_iadd 1201 dL_law_1200 rfl ?_
      refine z_sld 1202 dL_law_1201 rfl (fun v238 _ => ?_)
      refine z_callVi 1205 (mX10_forbid b0 x1 v237 v238 h) zyX10_forbid rfl w_890 (ci := 10) rfl (Nat.le_of_ble_eq_true rfl) (fun _ e9 => kX10_forbid e9) wm_yX10_forbid ws_yX10_forbid (Nat.le_of_ble_eq_true rfl) rfl (Nat.le_of_ble_eq_true rfl) dL_law_1202 rfl (fun q239 => ?_)
      refine z_aload_n 1206 2 dL_law_1205 rfl rfl ?_
      refine z_aload_n 1207 0 dL_law_1206 rfl rfl ?_
      refine z_iload_n 1208 3 dL_law_1207 rfl rfl ?_
      refine z_iconst (nI 1) 1209 zki_1 dL_law_1208 rfl ?_
      refine z_iadd 1210 dL_law_1209 rfl ?_
      refine z_sld 1211 dL_law_1210 rfl (fun v240 _ => ?_)
      refine z_aload_n 1212 0 dL_law_1211 rfl rfl ?_
      refine z_iload_n 1213 3 dL_law_1212 rfl rfl ?_
      refine z_iconst (nI 2) 1214 zki_2 dL_law_1213 rfl ?_
      refine z_iadd 1215 dL_law_1214 rfl ?_
      refine z_sld 1216 dL_law_1215 rfl (fun v241 _ => ?_)
      refine z_callVi 1219 (mX11_forbid b0 x2 v240 v241 q239.2) zyX11_forbid rfl w_1469 (ci := 11) rfl (Nat.le_of_ble_eq_true rfl) (fun _ e9 => kX11_forbid e9) wm_yX11_forbid ws_yX11_forbid (Nat.le_of_ble_eq_true rfl) rfl (Nat.le_of_ble_eq_true rfl) dL_law_1216 rfl (fun q242 => ?_)
      refine z_icmp_eq 1504 1222 dL_law_1219 (by decide) rfl (fun c243 => ?_) (fun c243 => ?_)
      · exact z_sub [0, 1, 2, 3] rfl (BL_law_1504 b0 xs L sa self18 x1 x2 x3 q242.2 hself18)
      · refine z_iconst (nI 0) 1223 zki_0 dL_law_1222 rfl ?_
        exact z_zreturn dL_law_1223 rfl
    refine z_ite (fun c244 => ?_) (fun c244 => ?_)
    · refine z_tabIn (off := 1192) 1224 dL_law_32 (by rw [c244] <;> decide) (by rw [c244] <;> decide) (by rw [c244] <;> decide) (by decide) ?_
      refine z_aload_n 1225 1 dL_law_1224 rfl rfl ?_
      refine z_aload_n 1226 0 dL_law_1225 rfl rfl ?_
      refine z_iload_n 1227 3 dL_law_1226 rfl rfl ?_
      refine z_iconst (nI 1) 1228 zki_1 dL_law_1227 rfl ?_
      refine z_iadd 1229 dL_law_1228 rfl ?_
      refine z_sld 1230 dL_law_1229 rfl (fun v245 _ => ?_)
      refine z_callVi 1233 (mX10_writeGraph b0 x1 v245 h) zyX10_writeGraph rfl w_906 (ci := 10) rfl (Nat.le_of_ble_eq_true rfl) (fun _ e9 => kX10_writeGraph e9) wm_yX10_writeGraph ws_yX10_writeGraph (Nat.le_of_ble_eq_true rfl) rfl (Nat.le_of_ble_eq_true rfl) dL_law_1230 rfl (fun q246 => ?_)
      refine z_aload_n 1234 2 dL_law_1233 rfl rfl ?_
      refine z_aload_n 1235 0 dL_law_1234 rfl rfl ?_
      refine z_iload_n 1236 3 dL_law_1235 rfl rfl ?_
      refine z_iconst (nI 1) 1237 zki_1 dL_law_1236 rfl ?_
      refine z_iadd 1238 dL_law_1237 rfl ?_
      refine z_sld 1239 dL_law_1238 rfl (fun v247 _ => ?_)
      refine z_callVi 1242 (mX11_writeGraph b0 x2 v247 q246.2) zyX11_writeGraph rfl w_1219 (ci := 11) rfl (Nat.le_of_ble_eq_true rfl) (fun _ e9 => kX11_writeGraph e9) wm_yX11_writeGraph ws_yX11_writeGraph (Nat.le_of_ble_eq_true rfl) rfl (Nat.le_of_ble_eq_true rfl) dL_law_1239 rfl (fun q248 => ?_)
      refine z_icmp_eq 1504 1245 dL_law_1242 (by decide) rfl (fun c249 => ?_) (fun c249 => ?_)
      · exact z_sub [0, 1, 2, 3] rfl (BL_law_1504 b0 xs L sa self18 x1 x2 x3 q248.2 hself18)
      · refine z_iconst (nI 0) 1246 zki_0 dL_law_1245 rfl ?_
        exact z_zreturn dL_law_1246 rfl
    refine z_ite (fun c250 => ?_) (fun c250 => ?_)
    · refine z_tabIn (off := 1215) 1247 dL_law_32 (by rw [c250] <;> decide) (by rw [c250] <;> decide) (by rw [c250] <;> decide) (by decide) ?_
      refine z_aload_n 1248 1 dL_law_1247 rfl rfl ?_
      refine z_aload_n 1249 0 dL_law_1248 rfl rfl ?_
      refine z_iload_n 1250 3 dL_law_1249 rfl rfl ?_
      refine z_iconst (nI 1) 1251 zki_1 dL_law_1250 rfl ?_
      refine z_iadd 1252 dL_law_1251 rfl ?_
      refine z_sld 1253 dL_law_1252 rfl (fun v251 _ => ?_)
      refine z_callVi 1256 (mX10_output b0 x1 v251 h) zyX10_output rfl w_915 (ci := 10) rfl (Nat.le_of_ble_eq_true rfl) (fun _ e9 => kX10_output e9) wm_yX10_output ws_yX10_output (Nat.le_of_ble_eq_true rfl) rfl (Nat.le_of_ble_eq_true rfl) dL_law_1253 rfl (fun q252 => ?_)
      refine z_aload_n 1257 2 dL_law_1256 rfl rfl ?_
      refine z_aload_n 1258 0 dL_law_1257 rfl rfl ?_
      refine z_iload_n 1259 3 dL_law_1258 rfl rfl ?_
      refine z_iconst (nI 1) 1260 zki_1 dL_law_1259 rfl ?_
      refine z_iadd 1261 dL_law_1260 rfl ?_
      refine z_sld 1262 dL_law_1261 rfl (fun v253 _ => ?_)
      refine z_callVi 1265 (mX11_output b0 x2 v253 q252.2) zyX11_output rfl w_1215 (ci := 11) rfl (Nat.le_of_ble_eq_true rfl) (fun _ e9 => kX11_output e9) wm_yX11_output ws_yX11_output (Nat.le_of_ble_eq_true rfl) rfl (Nat.le_of_ble_eq_true rfl) dL_law_1262 rfl (fun q254 => ?_)
      refine z_icmp_eq 1504 1268 dL_law_1265 (by decide) rfl (fun c255 => ?_) (fun c255 => ?_)
      · exact z_sub [0, 1, 2, 3] rfl (BL_law_1504 b0 xs L sa self18 x1 x2 x3 q254.2 hself18)
      · refine z_iconst (nI 0) 1269 zki_0 dL_law_1268 rfl ?_
        exact z_zreturn dL_law_1269 rfl
    refine z_ite (fun c256 => ?_) (fun c256 => ?_)
    · refine z_tabIn (off := 1238) 1270 dL_law_32 (by rw [c256] <;> decide) (by rw [c256] <;> decide) (by rw [c256] <;> decide) (by decide) ?_
      refine z_aload_n 1271 1 dL_law_1270 rfl rfl ?_
      refine z_callVi 1274 (mX10_undo b0 x1 h) zyX10_undo rfl w_919 (ci := 10) rfl (Nat.le_of_ble_eq_true rfl) (fun _ e9 => kX10_undo e9) wm_yX10_undo ws_yX10_undo (Nat.le_of_ble_eq_true rfl) rfl (Nat.le_of_ble_eq_true rfl) dL_law_1271 rfl (fun q257 => ?_)
      refine z_aload_n 1275 2 dL_law_1274 rfl rfl ?_
      refine z_callVi 1278 (mX11_undo b0 x2 q257.2) zyX11_undo rfl w_1478 (ci := 11) rfl (Nat.le_of_ble_eq_true rfl) (fun _ e9 => kX11_undo e9) wm_yX11_undo ws_yX11_undo (Nat.le_of_ble_eq_true rfl) rfl (Nat.le_of_ble_eq_true rfl) dL_law_1275 rfl (fun q258 => ?_)
      refine z_icmp_eq 1504 1281 dL_law_1278 (by decide) rfl (fun c259 => ?_) (fun c259 => ?_)
      · exact z_sub [0, 1, 2, 3] rfl (BL_law_1504 b0 xs L sa self18 x1 x2 x3 q258.2 hself18)
      · refine z_iconst (nI 0) 1282 zki_0 dL_law_1281 rfl ?_
        exact z_zreturn dL_law_1282 rfl
    refine z_ite (fun c260 => ?_) (fun c260 => ?_)
    · refine z_tabIn (off := 1251) 1283 dL_law_32 (by rw [c260] <;> decide) (by rw [c260] <;> decide) (by rw [c260] <;> decide) (by decide) ?_
      refine z_aload_n 1284 1 dL_law_1283 rfl rfl ?_
      refine z_callVi 1287 (mX10_save b0 x1 h) zyX10_save rfl w_927 (ci := 10) rfl (Nat.le_of_ble_eq_true rfl) (fun _ e9 => kX10_save e9) wm_yX10_save ws_yX10_save (Nat.le_of_ble_eq_true rfl) rfl (Nat.le_of_ble_eq_true rfl) dL_law_1284 rfl (fun q261 => ?_)
      refine z_aload_n 1288 2 dL_law_1287 rfl rfl ?_
      refine z_callVi 1291 (mX11_save b0 x2 q261.2) zyX11_save rfl w_1482 (ci := 11) rfl (Nat.le_of_ble_eq_true rfl) (fun _ e9 => kX11_save e9) wm_yX11_save ws_yX11_save (Nat.le_of_ble_eq_true rfl) rfl (Nat.le_of_ble_eq_true rfl) dL_law_1288 rfl (fun q262 => ?_)
      refine z_icmp_eq 1504 1294 dL_law_1291 (by decide) rfl (fun c263 => ?_) (fun c263 => ?_)
      · exact z_sub [0, 1, 2, 3] rfl (BL_law_1504 b0 xs L sa self18 x1 x2 x3 q262.2 hself18)
      · refine z_iconst (nI 0) 1295 zki_0 dL_law_1294 rfl ?_
        exact z_zreturn dL_law_1295 rfl
    refine z_ite (fun c264 => ?_) (fun c264 => ?_)
    · refine z_tabIn (off := 1264) 1296 dL_law_32 (by rw [c264] <;> decide) (by rw [c264] <;> decide) (by rw [c264] <;> decide) (by decide) ?_
      refine z_aload_n 1297 1 dL_law_1296 rfl rfl ?_
      refine z_callVi 1300 (mX10_restore b0 x1 h) zyX10_restore rfl w_935 (ci := 10) rfl (Nat.le_of_ble_eq_true rfl) (fun _ e9 => kX10_restore e9) wm_yX10_restore ws_yX10_restore (Nat.le_of_ble_eq_true rfl) rfl (Nat.le_of_ble_eq_true rfl) dL_law_1297 rfl (fun q265 => ?_)
      refine z_aload_n 1301 2 dL_law_1300 rfl rfl ?_
      refine z_callVi 1304 (mX11_restore b0 x2 q265.2) zyX11_restore rfl w_1490 (ci := 11) rfl (Nat.le_of_ble_eq_true rfl) (fun _ e9 => kX11_restore e9) wm_yX11_restore ws_yX11_restore (Nat.le_of_ble_eq_true rfl) rfl (Nat.le_of_ble_eq_true rfl) dL_law_1301 rfl (fun q266 => ?_)
      refine z_icmp_eq 1504 1307 dL_law_1304 (by decide) rfl (fun c267 => ?_) (fun c267 => ?_)
      · exact z_sub [0, 1, 2, 3] rfl (BL_law_1504 b0 xs L sa self18 x1 x2 x3 q266.2 hself18)
      · refine z_iconst (nI 0) 1308 zki_0 dL_law_1307 rfl ?_
        exact z_zreturn dL_law_1308 rfl
    refine z_ite (fun c268 => ?_) (fun c268 => ?_)
    · refine z_tabIn (off := 1277) 1309 dL_law_32 (by rw [c268] <;> decide) (by rw [c268] <;> decide) (by rw [c268] <;> decide) (by decide) ?_
      refine z_aload_n 1310 1 dL_law_1309 rfl rfl ?_
      refine z_aload_n 1311 0 dL_law_1310 rfl rfl ?_
      refine z_iload_n 1312 3 dL_law_1311 rfl rfl ?_
      refine z_iconst (nI 1) 1313 zki_1 dL_law_1312 rfl ?_
      refine z_iadd 1314 dL_law_1313 rfl ?_
      refine z_sld 1315 dL_law_1314 rfl (fun v269 _ => ?_)
      refine z_aload_n 1316 0 dL_law_1315 rfl rfl ?_
      refine z_iload_n 1317 3 dL_law_1316 rfl rfl ?_
      refine z_iconst (nI 2) 1318 zki_2 dL_law_1317 rfl ?_
      refine z_iadd 1319 dL_law_1318 rfl ?_
      refine z_sld 1320 dL_law_1319 rfl (fun v270 _ => ?_)
      refine z_aload_n 1321 0 dL_law_1320 rfl rfl ?_
      refine z_iload_n 1322 3 dL_law_1321 rfl rfl ?_
      refine z_iconst (nI 3) 1323 zki_3 dL_law_1322 rfl ?_
      refine z_iadd 1324 dL_law_1323 rfl ?_
      refine z_sld 1325 dL_law_1324 rfl (fun v271 _ => ?_)
      refine z_callVi 1328 (mX10_createArray b0 x1 v269 v270 v271 h) zyX10_createArray rfl w_943 (ci := 10) rfl (Nat.le_of_ble_eq_true rfl) (fun _ e9 => kX10_createArray e9) wm_yX10_createArray ws_yX10_createArray (Nat.le_of_ble_eq_true rfl) rfl (Nat.le_of_ble_eq_true rfl) dL_law_1325 rfl (fun q272 => ?_)
      refine z_aload_n 1329 2 dL_law_1328 rfl rfl ?_
      refine z_aload_n 1330 0 dL_law_1329 rfl rfl ?_
      refine z_iload_n 1331 3 dL_law_1330 rfl rfl ?_
      refine z_iconst (nI 1) 1332 zki_1 dL_law_1331 rfl ?_
      refine z_iadd 1333 dL_law_1332 rfl ?_
      refine z_sld 1334 dL_law_1333 rfl (fun v273 _ => ?_)
      refine z_aload_n 1335 0 dL_law_1334 rfl rfl ?_
      refine z_iload_n 1336 3 dL_law_1335 rfl rfl ?_
      refine z_iconst (nI 2) 1337 zki_2 dL_law_1336 rfl ?_
      refine z_iadd 1338 dL_law_1337 rfl ?_
      refine z_sld 1339 dL_law_1338 rfl (fun v274 _ => ?_)
      refine z_aload_n 1340 0 dL_law_1339 rfl rfl ?_
      refine z_iload_n 1341 3 dL_law_1340 rfl rfl ?_
      refine z_iconst (nI 3) 1342 zki_3 dL_law_1341 rfl ?_
      refine z_iadd 1343 dL_law_1342 rfl ?_
      refine z_sld 1344 dL_law_1343 rfl (fun v275 _ => ?_)
      refine z_callVi 1347 (mX11_createArray b0 x2 v273 v274 v275 q272.2) zyX11_createArray rfl w_1494 (ci := 11) rfl (Nat.le_of_ble_eq_true rfl) (fun _ e9 => kX11_createArray e9) wm_yX11_createArray ws_yX11_createArray (Nat.le_of_ble_eq_true rfl) rfl (Nat.le_of_ble_eq_true rfl) dL_law_1344 rfl (fun q276 => ?_)
      refine z_icmp_eq 1504 1350 dL_law_1347 (by decide) rfl (fun c277 => ?_) (fun c277 => ?_)
      · exact z_sub [0, 1, 2, 3] rfl (BL_law_1504 b0 xs L sa self18 x1 x2 x3 q276.2 hself18)
      · refine z_iconst (nI 0) 1351 zki_0 dL_law_1350 rfl ?_
        exact z_zreturn dL_law_1351 rfl
    refine z_ite (fun c278 => ?_) (fun c278 => ?_)
    · refine z_tabIn (off := 1320) 1352 dL_law_32 (by rw [c278] <;> decide) (by rw [c278] <;> decide) (by rw [c278] <;> decide) (by decide) ?_
      refine z_aload_n 1353 1 dL_law_1352 rfl rfl ?_
      refine z_aload_n 1354 0 dL_law_1353 rfl rfl ?_
      refine z_iload_n 1355 3 dL_law_1354 rfl rfl ?_
      refine z_iconst (nI 1) 1356 zki_1 dL_law_1355 rfl ?_
      refine z_iadd 1357 dL_law_1356 rfl ?_
      refine z_sld 1358 dL_law_1357 rfl (fun v279 _ => ?_)
      refine z_aload_n 1359 0 dL_law_1358 rfl rfl ?_
      refine z_iload_n 1360 3 dL_law_1359 rfl rfl ?_
      refine z_iconst (nI 2) 1361 zki_2 dL_law_1360 rfl ?_
      refine z_iadd 1362 dL_law_1361 rfl ?_
      refine z_sld 1363 dL_law_1362 rfl (fun v280 _ => ?_)
      refine z_aload_n 1364 0 dL_law_1363 rfl rfl ?_
      refine z_iload_n 1365 3 dL_law_1364 rfl rfl ?_
      refine z_iconst (nI 3) 1366 zki_3 dL_law_1365 rfl ?_
      refine z_iadd 1367 dL_law_1366 rfl ?_
      refine z_sld 1368 dL_law_1367 rfl (fun v281 _ => ?_)
      refine z_callVi 1371 (mX10_setElement b0 x1 v279 v280 v281 h) zyX10_setElement rfl w_956 (ci := 10) rfl (Nat.le_of_ble_eq_true rfl) (fun _ e9 => kX10_setElement e9) wm_yX10_setElement ws_yX10_setElement (Nat.le_of_ble_eq_true rfl) rfl (Nat.le_of_ble_eq_true rfl) dL_law_1368 rfl (fun q282 => ?_)
      refine z_aload_n 1372 2 dL_law_1371 rfl rfl ?_
      refine z_aload_n 1373 0 dL_law_1372 rfl rfl ?_
      refine z_iload_n 1374 3 dL_law_1373 rfl rfl ?_
      refine z_iconst (nI 1) 1375 zki_1 dL_law_1374 rfl ?_
      refine z_iadd 1376 dL_law_1375 rfl ?_
      refine z_sld 1377 dL_law_1376 rfl (fun v283 _ => ?_)
      refine z_aload_n 1378 0 dL_law_1377 rfl rfl ?_
      refine z_iload_n 1379 3 dL_law_1378 rfl rfl ?_
      refine z_iconst (nI 2) 1380 zki_2 dL_law_1379 rfl ?_
      refine z_iadd 1381 dL_law_1380 rfl ?_
      refine z_sld 1382 dL_law_1381 rfl (fun v284 _ => ?_)
      refine z_aload_n 1383 0 dL_law_1382 rfl rfl ?_
      refine z_iload_n 1384 3 dL_law_1383 rfl rfl ?_
      refine z_iconst (nI 3) 1385 zki_3 dL_law_1384 rfl ?_
      refine z_iadd 1386 dL_law_1385 rfl ?_
      refine z_sld 1387 dL_law_1386 rfl (fun v285 _ => ?_)
      refine z_callVi 1390 (mX11_setElement b0 x2 v283 v284 v285 q282.2) zyX11_setElement rfl w_1501 (ci := 11) rfl (Nat.le_of_ble_eq_true rfl) (fun _ e9 => kX11_setElement e9) wm_yX11_setElement ws_yX11_setElement (Nat.le_of_ble_eq_true rfl) rfl (Nat.le_of_ble_eq_true rfl) dL_law_1387 rfl (fun q286 => ?_)
      refine z_icmp_eq 1504 1393 dL_law_1390 (by decide) rfl (fun c287 => ?_) (fun c287 => ?_)
      · exact z_sub [0, 1, 2, 3] rfl (BL_law_1504 b0 xs L sa self18 x1 x2 x3 q286.2 hself18)
      · refine z_iconst (nI 0) 1394 zki_0 dL_law_1393 rfl ?_
        exact z_zreturn dL_law_1394 rfl
    refine z_ite (fun c288 => ?_) (fun c288 => ?_)
    · refine z_tabIn (off := 1363) 1395 dL_law_32 (by rw [c288] <;> decide) (by rw [c288] <;> decide) (by rw [c288] <;> decide) (by decide) ?_
      refine z_aload_n 1396 1 dL_law_1395 rfl rfl ?_
      refine z_aload_n 1397 0 dL_law_1396 rfl rfl ?_
      refine z_iload_n 1398 3 dL_law_1397 rfl rfl ?_
      refine z_iconst (nI 1) 1399 zki_1 dL_law_1398 rfl ?_
      refine z_iadd 1400 dL_law_1399 rfl ?_
      refine z_sld 1401 dL_law_1400 rfl (fun v289 _ => ?_)
      refine z_aload_n 1402 0 dL_law_1401 rfl rfl ?_
      refine z_iload_n 1403 3 dL_law_1402 rfl rfl ?_
      refine z_iconst (nI 2) 1404 zki_2 dL_law_1403 rfl ?_
      refine z_iadd 1405 dL_law_1404 rfl ?_
      refine z_sld 1406 dL_law_1405 rfl (fun v290 _ => ?_)
      refine z_callVi 1409 (mX10_setNaN b0 x1 v289 v290 h) zyX10_setNaN rfl w_978 (ci := 10) rfl (Nat.le_of_ble_eq_true rfl) (fun _ e9 => kX10_setNaN e9) wm_yX10_setNaN ws_yX10_setNaN (Nat.le_of_ble_eq_true rfl) rfl (Nat.le_of_ble_eq_true rfl) dL_law_1406 rfl (fun q291 => ?_)
      refine z_aload_n 1410 2 dL_law_1409 rfl rfl ?_
      refine z_aload_n 1411 0 dL_law_1410 rfl rfl ?_
      refine z_iload_n 1412 3 dL_law_1411 rfl rfl ?_
      refine z_iconst (nI 1) 1413 zki_1 dL_law_1412 rfl ?_
      refine z_iadd 1414 dL_law_1413 rfl ?_
      refine z_sld 1415 dL_law_1414 rfl (fun v292 _ => ?_)
      refine z_aload_n 1416 0 dL_law_1415 rfl rfl ?_
      refine z_iload_n 1417 3 dL_law_1416 rfl rfl ?_
      refine z_iconst (nI 2) 1418 zki_2 dL_law_1417 rfl ?_
      refine z_iadd 1419 dL_law_1418 rfl ?_
      refine z_sld 1420 dL_law_1419 rfl (fun v293 _ => ?_)
      refine z_callVi 1423 (mX11_setNaN b0 x2 v292 v293 q291.2) zyX11_setNaN rfl w_1510 (ci := 11) rfl (Nat.le_of_ble_eq_true rfl) (fun _ e9 => kX11_setNaN e9) wm_yX11_setNaN ws_yX11_setNaN (Nat.le_of_ble_eq_true rfl) rfl (Nat.le_of_ble_eq_true rfl) dL_law_1420 rfl (fun q294 => ?_)
      refine z_icmp_eq 1504 1426 dL_law_1423 (by decide) rfl (fun c295 => ?_) (fun c295 => ?_)
      · exact z_sub [0, 1, 2, 3] rfl (BL_law_1504 b0 xs L sa self18 x1 x2 x3 q294.2 hself18)
      · refine z_iconst (nI 0) 1427 zki_0 dL_law_1426 rfl ?_
        exact z_zreturn dL_law_1427 rfl
    refine z_ite (fun c296 => ?_) (fun c296 => ?_)
    · refine z_tabIn (off := 1396) 1428 dL_law_32 (by rw [c296] <;> decide) (by rw [c296] <;> decide) (by rw [c296] <;> decide) (by decide) ?_
      refine z_aload_n 1429 1 dL_law_1428 rfl rfl ?_
      refine z_aload_n 1430 0 dL_law_1429 rfl rfl ?_
      refine z_iload_n 1431 3 dL_law_1430 rfl rfl ?_
      refine z_iconst (nI 1) 1432 zki_1 dL_law_1431 rfl ?_
      refine z_iadd 1433 dL_law_1432 rfl ?_
      refine z_sld 1434 dL_law_1433 rfl (fun v297 _ => ?_)
      refine z_aload_n 1435 0 dL_law_1434 rfl rfl ?_
      refine z_iload_n 1436 3 dL_law_1435 rfl rfl ?_
      refine z_iconst (nI 2) 1437 zki_2 dL_law_1436 rfl ?_
      refine z_iadd 1438 dL_law_1437 rfl ?_
      refine z_sld 1439 dL_law_1438 rfl (fun v298 _ => ?_)
      refine z_aload_n 1440 0 dL_law_1439 rfl rfl ?_
      refine z_iload_n 1441 3 dL_law_1440 rfl rfl ?_
      refine z_iconst (nI 3) 1442 zki_3 dL_law_1441 rfl ?_
      refine z_iadd 1443 dL_law_1442 rfl ?_
      refine z_sld 1444 dL_law_1443 rfl (fun v299 _ => ?_)
      refine z_callVi 1447 (mX10_compareElements b0 x1 v297 v298 v299 h) zyX10_compareElements rfl w_990 (ci := 10) rfl (Nat.le_of_ble_eq_true rfl) (fun _ e9 => kX10_compareElements e9) wm_yX10_compareElements ws_yX10_compareElements (Nat.le_of_ble_eq_true rfl) rfl (Nat.le_of_ble_eq_true rfl) dL_law_1444 rfl (fun q300 => ?_)
      refine z_aload_n 1448 2 dL_law_1447 rfl rfl ?_
      refine z_aload_n 1449 0 dL_law_1448 rfl rfl ?_
      refine z_iload_n 1450 3 dL_law_1449 rfl rfl ?_
      refine z_iconst (nI 1) 1451 zki_1 dL_law_1450 rfl ?_
      refine z_iadd 1452 dL_law_1451 rfl ?_
      refine z_sld 1453 dL_law_1452 rfl (fun v301 _ => ?_)
      refine z_aload_n 1454 0 dL_law_1453 rfl rfl ?_
      refine z_iload_n 1455 3 dL_law_1454 rfl rfl ?_
      refine z_iconst (nI 2) 1456 zki_2 dL_law_1455 rfl ?_
      refine z_iadd 1457 dL_law_1456 rfl ?_
      refine z_sld 1458 dL_law_1457 rfl (fun v302 _ => ?_)
      refine z_aload_n 1459 0 dL_law_1458 rfl rfl ?_
      refine z_iload_n 1460 3 dL_law_1459 rfl rfl ?_
      refine z_iconst (nI 3) 1461 zki_3 dL_law_1460 rfl ?_
      refine z_iadd 1462 dL_law_1461 rfl ?_
      refine z_sld 1463 dL_law_1462 rfl (fun v303 _ => ?_)
      refine z_callVi 1466 (mX11_compareElements b0 x2 v301 v302 v303 q300.2) zyX11_compareElements rfl w_1515 (ci := 11) rfl (Nat.le_of_ble_eq_true rfl) (fun _ e9 => kX11_compareElements e9) wm_yX11_compareElements ws_yX11_compareElements (Nat.le_of_ble_eq_true rfl) rfl (Nat.le_of_ble_eq_true rfl) dL_law_1463 rfl (fun q304 => ?_)
      refine z_icmp_eq 1504 1469 dL_law_1466 (by decide) rfl (fun c305 => ?_) (fun c305 => ?_)
      · exact z_sub [0, 1, 2, 3] rfl (BL_law_1504 b0 xs L sa self18 x1 x2 x3 q304.2 hself18)
      · refine z_iconst (nI 0) 1470 zki_0 dL_law_1469 rfl ?_
        exact z_zreturn dL_law_1470 rfl
    refine z_ite (fun c306 => ?_) (fun c306 => ?_)
    · refine z_tabIn (off := 1439) 1471 dL_law_32 (by rw [c306] <;> decide) (by rw [c306] <;> decide) (by rw [c306] <;> decide) (by decide) ?_
      refine z_aload_n 1472 1 dL_law_1471 rfl rfl ?_
      refine z_aload_n 1473 0 dL_law_1472 rfl rfl ?_
      refine z_iload_n 1474 3 dL_law_1473 rfl rfl ?_
      refine z_iconst (nI 1) 1475 zki_1 dL_law_1474 rfl ?_
      refine z_iadd 1476 dL_law_1475 rfl ?_
      refine z_sld 1477 dL_law_1476 rfl (fun v307 _ => ?_)
      refine z_aload_n 1478 0 dL_law_1477 rfl rfl ?_
      refine z_iload_n 1479 3 dL_law_1478 rfl rfl ?_
      refine z_iconst (nI 2) 1480 zki_2 dL_law_1479 rfl ?_
      refine z_iadd 1481 dL_law_1480 rfl ?_
      refine z_sld 1482 dL_law_1481 rfl (fun v308 _ => ?_)
      refine z_callVi 1485 (mX10_checkCounts b0 x1 v307 v308 h) zyX10_checkCounts rfl w_998 (ci := 10) rfl (Nat.le_of_ble_eq_true rfl) (fun _ e9 => kX10_checkCounts e9) wm_yX10_checkCounts ws_yX10_checkCounts (Nat.le_of_ble_eq_true rfl) rfl (Nat.le_of_ble_eq_true rfl) dL_law_1482 rfl (fun q309 => ?_)
      refine z_aload_n 1486 2 dL_law_1485 rfl rfl ?_
      refine z_aload_n 1487 0 dL_law_1486 rfl rfl ?_
      refine z_iload_n 1488 3 dL_law_1487 rfl rfl ?_
      refine z_iconst (nI 1) 1489 zki_1 dL_law_1488 rfl ?_
      refine z_iadd 1490 dL_law_1489 rfl ?_
      refine z_sld 1491 dL_law_1490 rfl (fun v310 _ => ?_)
      refine z_aload_n 1492 0 dL_law_1491 rfl rfl ?_
      refine z_iload_n 1493 3 dL_law_1492 rfl rfl ?_
      refine z_iconst (nI 2) 1494 zki_2 dL_law_1493 rfl ?_
      refine z_iadd 1495 dL_law_1494 rfl ?_
      refine z_sld 1496 dL_law_1495 rfl (fun v311 _ => ?_)
      refine z_callVi 1499 (mX11_checkCounts b0 x2 v310 v311 q309.2) zyX11_checkCounts rfl w_1519 (ci := 11) rfl (Nat.le_of_ble_eq_true rfl) (fun _ e9 => kX11_checkCounts e9) wm_yX11_checkCounts ws_yX11_checkCounts (Nat.le_of_ble_eq_true rfl) rfl (Nat.le_of_ble_eq_true rfl) dL_law_1496 rfl (fun q312 => ?_)
      refine z_icmp_eq 1504 1502 dL_law_1499 (by decide) rfl (fun c313 => ?_) (fun c313 => ?_)
      · exact z_sub [0, 1, 2, 3] rfl (BL_law_1504 b0 xs L sa self18 x1 x2 x3 q312.2 hself18)
      · refine z_iconst (nI 0) 1503 zki_0 dL_law_1502 rfl ?_
        exact z_zreturn dL_law_1503 rfl
    refine z_tabOut 1504 dL_law_32 (sw_L_law_32 c4 c16 c28 c38 c44 c50 c56 c66 c72 c78 c84 c92 c102 c108 c120 c128 c138 c146 c154 c162 c170 c176 c182 c188 c196 c206 c216 c224 c236 c244 c250 c256 c260 c264 c268 c278 c288 c296 c306) (by decide) ?_
    exact z_sub [0, 1, 2, 3] rfl (BL_law_1504 b0 xs L sa self18 x1 x2 x3 h hself18)
theorem BL_law_18 (b0 : Nat) (xs : Nat → Int32) (L sa : Nat) (x1 : Nat) (x2 : Nat) (n : Nat) (x3 : Int32) (h : ZH) : Zr zi b0 (YL b0 sa L xs) 25 18 [(0, .ref sa), (1, .ref (b0 + x1)), (2, .ref (b0 + x2)), (3, .int x3)] [] h (zloop (lL_law_18 xs L sa x1 x2) n (x3, h)) :=
  zloop_Zr (fun s => [(0, .ref sa), (1, .ref (b0 + x1)), (2, .ref (b0 + x2)), (3, .int s.1)]) (fun _ => []) (fun s => s.2) (lL_law_18 xs L sa x1 x2) (fun self hs s => KL_law_18 b0 xs L sa x1 x2 self (fun y3 hh => hs (y3, hh)) s.1 s.2) n (x3, h)
def fL_law (xs : Nat → Int32) (L sa : Nat) (h : ZH) : Option (Int32 × ZH) :=
  (zal h 10 17).bind fun q1 =>
  (fX10_init q1.1 q1.2).bind fun h2 =>
  (zal h2 11 44).bind fun q3 =>
  (fX11_init q3.1 q3.2).bind fun h4 =>
  zloop (lL_law_18 xs L sa q1.1 q3.1) zfu ((nI 0), h4)
theorem mL_law (b0 : Nat) (xs : Nat → Int32) (L sa : Nat) (h : ZH) : Zr zi b0 (YL b0 sa L xs) 25 0 [(0, .ref sa)] [] h (fL_law xs L sa h) := by
  unfold fL_law
  refine z_newO 3 zC10 zdf10 w_18 wn_10 wi_RX10 dL_law_0 rfl (fun q1 => ?_)
  refine z_dup 4 rfl dL_law_3 rfl ?_
  refine z_callIv 7 (mX10_init b0 q1.1 q1.2) zyX10_init rfl w_20 rfl rfl wm_yX10_init (Nat.le_of_ble_eq_true rfl) rfl (Nat.le_of_ble_eq_true rfl) dL_law_4 rfl (fun h2 => ?_)
  refine z_astore_n (lv2 := [(1, .ref (b0 + q1.1)), (0, .ref sa)]) 8 dL_law_7 rfl (Nat.le_of_ble_eq_true rfl) rfl ?_
  refine z_newO 11 zC11 zdf11 w_1010 wn_11 wi_RX11 dL_law_8 rfl (fun q3 => ?_)
  refine z_dup 12 rfl dL_law_11 rfl ?_
  refine z_callIv 15 (mX11_init b0 q3.1 q3.2) zyX11_init rfl w_1012 rfl rfl wm_yX11_init (Nat.le_of_ble_eq_true rfl) rfl (Nat.le_of_ble_eq_true rfl) dL_law_12 rfl (fun h4 => ?_)
  refine z_astore_n (lv2 := [(2, .ref (b0 + q3.1)), (1, .ref (b0 + q1.1)), (0, .ref sa)]) 16 dL_law_15 rfl (Nat.le_of_ble_eq_true rfl) rfl ?_
  refine z_iconst (nI 0) 17 zki_0 dL_law_16 rfl ?_
  refine z_istore_n (lv2 := [(3, .int (nI 0)), (2, .ref (b0 + q3.1)), (1, .ref (b0 + q1.1)), (0, .ref sa)]) 18 dL_law_17 rfl (Nat.le_of_ble_eq_true rfl) rfl ?_
  exact z_sub [3, 2, 1, 0] rfl (BL_law_18 b0 xs L sa q1.1 q3.1 zfu (nI 0) h4)
