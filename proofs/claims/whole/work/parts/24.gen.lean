-- X10_removeEdge
def fX10_removeEdge (x0 : Nat) (x1 : Int32) (x2 : Int32) (x3 : Int32) (x4 : Int32) (h : ZH) : Option (Int32 × ZH) :=
  if x0 < zn h ∧ zK h x0 = 10 then ((fX10_isEdgeOfSlot x1 x2 x3 x4 h).bind fun q1 =>
  if q1.1 = 0 then (some ((-2 : Int32), q1.2)) else
  ((gR q1.2 10 x0 0).bind fun v3 =>
  (lR q1.2 17 v3 x1).bind fun v4 =>
  (fX1_has v4 x2 x3 x4 q1.2).bind fun q5 =>
  if q5.1 = 0 then (some ((-1 : Int32), q5.2)) else
  ((gR q5.2 10 x0 3).bind fun v7 =>
  (gR q5.2 10 x0 0).bind fun v8 =>
  (lR q5.2 17 v8 x1).bind fun v9 =>
  (fX2_push v7 x1 v9 q5.2).bind fun h10 =>
  (gR h10 10 x0 0).bind fun v11 =>
  (lR h10 17 v11 x1).bind fun v12 =>
  (fX1_drop v12 x2 x3 x4 h10).bind fun h13 =>
  (gR h13 10 x0 0).bind fun v14 =>
  (lR h13 17 v14 x1).bind fun v15 =>
  (fX1_countEdges v15 h13).bind fun q16 =>
  some (q16.1, q16.2)))) else none
theorem kX10_removeEdge {x0 : Nat} {x1 : Int32} {x2 : Int32} {x3 : Int32} {x4 : Int32} {h : ZH} {x : Int32 × ZH} (e : fX10_removeEdge x0 x1 x2 x3 x4 h = some x) : x0 < zn h ∧ zK h x0 = 10 := by
  unfold fX10_removeEdge at e
  exact zguard e
theorem mX10_removeEdge (b0 : Nat) (x0 : Nat) (x1 : Int32) (x2 : Int32) (x3 : Int32) (x4 : Int32) (h : ZH) : ZM zi b0 YX10_removeEdge 4 [.ref (b0 + x0), .int x1, .int x2, .int x3, .int x4] h (fX10_removeEdge x0 x1 x2 x3 x4 h) := by
  unfold fX10_removeEdge
  refine ZM.of (by decide) rfl (Nat.le_of_ble_eq_true rfl) (fun _ => trivial) ?_
  refine z_sub (lv2 := [(0, .ref (b0 + x0)), (1, .int x1), (2, .int x2), (3, .int x3), (4, .int x4)]) [0, 1, 2, 3, 4] rfl ?_
  refine z_guard (fun _ => ?_)
  refine z_iload_n 1 1 dX10_removeEdge_0 rfl rfl ?_
  refine z_iload_n 2 2 dX10_removeEdge_1 rfl rfl ?_
  refine z_iload_n 3 3 dX10_removeEdge_2 rfl rfl ?_
  refine z_iload 5 4 dX10_removeEdge_3 rfl rfl ?_
  refine z_callSi 8 (mX10_isEdgeOfSlot b0 x1 x2 x3 x4 h) zyX10_isEdgeOfSlot rfl w_291 wt_yX10_isEdgeOfSlot (Nat.le_of_ble_eq_true rfl) rfl (Nat.le_of_ble_eq_true rfl) dX10_removeEdge_5 rfl (fun q1 => ?_)
  refine z_if_ne 14 11 dX10_removeEdge_8 (by decide) rfl (fun c2 => ?_) (fun c2 => ?_)
  · refine z_aload_n 15 0 dX10_removeEdge_14 rfl rfl ?_
    refine z_getR 18 zC10 (Nat.le_of_ble_eq_true rfl) rfl w_235 dX10_removeEdge_15 rfl (fun v3 _ => ?_)
    refine z_iload_n 19 1 dX10_removeEdge_18 rfl rfl ?_
    refine z_aaload17 20 dX10_removeEdge_19 rfl (fun v4 _ => ?_)
    refine z_iload_n 21 2 dX10_removeEdge_20 rfl rfl ?_
    refine z_iload_n 22 3 dX10_removeEdge_21 rfl rfl ?_
    refine z_iload 24 4 dX10_removeEdge_22 rfl rfl ?_
    refine z_callVi 27 (mX1_has b0 v4 x2 x3 x4 q1.2) zyX1_has rfl w_341 (ci := 1) rfl (Nat.le_of_ble_eq_true rfl) (fun _ e9 => kX1_has e9) wm_yX1_has ws_yX1_has (Nat.le_of_ble_eq_true rfl) rfl (Nat.le_of_ble_eq_true rfl) dX10_removeEdge_24 rfl (fun q5 => ?_)
    refine z_if_ne 32 30 dX10_removeEdge_27 (by decide) rfl (fun c6 => ?_) (fun c6 => ?_)
    · refine z_aload_n 33 0 dX10_removeEdge_32 rfl rfl ?_
      refine z_getR 36 zC10 (Nat.le_of_ble_eq_true rfl) rfl w_238 dX10_removeEdge_33 rfl (fun v7 _ => ?_)
      refine z_iload_n 37 1 dX10_removeEdge_36 rfl rfl ?_
      refine z_aload_n 38 0 dX10_removeEdge_37 rfl rfl ?_
      refine z_getR 41 zC10 (Nat.le_of_ble_eq_true rfl) rfl w_235 dX10_removeEdge_38 rfl (fun v8 _ => ?_)
      refine z_iload_n 42 1 dX10_removeEdge_41 rfl rfl ?_
      refine z_aaload17 43 dX10_removeEdge_42 rfl (fun v9 _ => ?_)
      refine z_callVv 46 (mX2_push b0 v7 x1 v9 q5.2) zyX2_push rfl w_303 (ci := 2) rfl (Nat.le_of_ble_eq_true rfl) (fun _ e9 => kX2_push e9) wm_yX2_push ws_yX2_push (Nat.le_of_ble_eq_true rfl) rfl (Nat.le_of_ble_eq_true rfl) dX10_removeEdge_43 rfl (fun h10 => ?_)
      refine z_aload_n 47 0 dX10_removeEdge_46 rfl rfl ?_
      refine z_getR 50 zC10 (Nat.le_of_ble_eq_true rfl) rfl w_235 dX10_removeEdge_47 rfl (fun v11 _ => ?_)
      refine z_iload_n 51 1 dX10_removeEdge_50 rfl rfl ?_
      refine z_aaload17 52 dX10_removeEdge_51 rfl (fun v12 _ => ?_)
      refine z_iload_n 53 2 dX10_removeEdge_52 rfl rfl ?_
      refine z_iload_n 54 3 dX10_removeEdge_53 rfl rfl ?_
      refine z_iload 56 4 dX10_removeEdge_54 rfl rfl ?_
      refine z_callVv 59 (mX1_drop b0 v12 x2 x3 x4 h10) zyX1_drop rfl w_349 (ci := 1) rfl (Nat.le_of_ble_eq_true rfl) (fun _ e9 => kX1_drop e9) wm_yX1_drop ws_yX1_drop (Nat.le_of_ble_eq_true rfl) rfl (Nat.le_of_ble_eq_true rfl) dX10_removeEdge_56 rfl (fun h13 => ?_)
      refine z_aload_n 60 0 dX10_removeEdge_59 rfl rfl ?_
      refine z_getR 63 zC10 (Nat.le_of_ble_eq_true rfl) rfl w_235 dX10_removeEdge_60 rfl (fun v14 _ => ?_)
      refine z_iload_n 64 1 dX10_removeEdge_63 rfl rfl ?_
      refine z_aaload17 65 dX10_removeEdge_64 rfl (fun v15 _ => ?_)
      refine z_callVi 68 (mX1_countEdges b0 v15 h13) zyX1_countEdges rfl w_327 (ci := 1) rfl (Nat.le_of_ble_eq_true rfl) (fun _ e9 => kX1_countEdges e9) wm_yX1_countEdges ws_yX1_countEdges (Nat.le_of_ble_eq_true rfl) rfl (Nat.le_of_ble_eq_true rfl) dX10_removeEdge_65 rfl (fun q16 => ?_)
      exact z_ireturn dX10_removeEdge_68 rfl
    · refine z_iconst (-1 : Int32) 31 zki_m1 dX10_removeEdge_30 rfl ?_
      exact z_ireturn dX10_removeEdge_31 rfl
  · refine z_bipush (-2 : Int32) 13 zkb_m2 dX10_removeEdge_11 rfl ?_
    exact z_ireturn dX10_removeEdge_13 rfl
-- X10_targets
def bX10_targets_21 (h : ZH) : Option (Int32 × ZH) :=
  some ((-2 : Int32), h)
theorem BX10_targets_21 (b0 : Nat) (h : ZH) : Zr zi b0 YX10_targets 2 21 [] [] h (bX10_targets_21 h) := by
  unfold bX10_targets_21
  refine z_bipush (-2 : Int32) 23 zkb_m2 dX10_targets_21 rfl ?_
  exact z_ireturn dX10_targets_23 rfl
def fX10_targets (x0 : Nat) (x1 : Int32) (x2 : Int32) (x3 : Int32) (h : ZH) : Option (Int32 × ZH) :=
  if x0 < zn h ∧ zK h x0 = 10 then ((fX10_isSlot x1 h).bind fun q1 =>
  if q1.1 = 0 then (bX10_targets_21 q1.2) else
  ((fX10_isVertex x2 q1.2).bind fun q3 =>
  if q3.1 = 0 then (bX10_targets_21 q3.2) else
  ((fX10_isLetter x3 q3.2).bind fun q5 =>
  if q5.1 = 0 then (bX10_targets_21 q5.2) else
  ((gR q5.2 10 x0 0).bind fun v7 =>
  (lR q5.2 17 v7 x1).bind fun v8 =>
  (fX1_row v8 x2 x3 q5.2).bind fun q9 =>
  some (q9.1, q9.2))))) else none
theorem kX10_targets {x0 : Nat} {x1 : Int32} {x2 : Int32} {x3 : Int32} {h : ZH} {x : Int32 × ZH} (e : fX10_targets x0 x1 x2 x3 h = some x) : x0 < zn h ∧ zK h x0 = 10 := by
  unfold fX10_targets at e
  exact zguard e
theorem mX10_targets (b0 : Nat) (x0 : Nat) (x1 : Int32) (x2 : Int32) (x3 : Int32) (h : ZH) : ZM zi b0 YX10_targets 2 [.ref (b0 + x0), .int x1, .int x2, .int x3] h (fX10_targets x0 x1 x2 x3 h) := by
  unfold fX10_targets
  refine ZM.of (by decide) rfl (Nat.le_of_ble_eq_true rfl) (fun _ => trivial) ?_
  refine z_sub (lv2 := [(0, .ref (b0 + x0)), (1, .int x1), (2, .int x2), (3, .int x3)]) [0, 1, 2, 3] rfl ?_
  refine z_guard (fun _ => ?_)
  refine z_iload_n 1 1 dX10_targets_0 rfl rfl ?_
  refine z_callSi 4 (mX10_isSlot b0 x1 h) zyX10_isSlot rfl w_294 wt_yX10_isSlot (Nat.le_of_ble_eq_true rfl) rfl (Nat.le_of_ble_eq_true rfl) dX10_targets_1 rfl (fun q1 => ?_)
  refine z_if_eq 21 7 dX10_targets_4 (by decide) rfl (fun c2 => ?_) (fun c2 => ?_)
  · exact z_sub [] rfl (BX10_targets_21 b0 q1.2 )
  · refine z_iload_n 8 2 dX10_targets_7 rfl rfl ?_
    refine z_callSi 11 (mX10_isVertex b0 x2 q1.2) zyX10_isVertex rfl w_297 wt_yX10_isVertex (Nat.le_of_ble_eq_true rfl) rfl (Nat.le_of_ble_eq_true rfl) dX10_targets_8 rfl (fun q3 => ?_)
    refine z_if_eq 21 14 dX10_targets_11 (by decide) rfl (fun c4 => ?_) (fun c4 => ?_)
    · exact z_sub [] rfl (BX10_targets_21 b0 q3.2 )
    · refine z_iload_n 15 3 dX10_targets_14 rfl rfl ?_
      refine z_callSi 18 (mX10_isLetter b0 x3 q3.2) zyX10_isLetter rfl w_300 wt_yX10_isLetter (Nat.le_of_ble_eq_true rfl) rfl (Nat.le_of_ble_eq_true rfl) dX10_targets_15 rfl (fun q5 => ?_)
      refine z_if_ne 24 21 dX10_targets_18 (by decide) rfl (fun c6 => ?_) (fun c6 => ?_)
      · refine z_aload_n 25 0 dX10_targets_24 rfl rfl ?_
        refine z_getR 28 zC10 (Nat.le_of_ble_eq_true rfl) rfl w_235 dX10_targets_25 rfl (fun v7 _ => ?_)
        refine z_iload_n 29 1 dX10_targets_28 rfl rfl ?_
        refine z_aaload17 30 dX10_targets_29 rfl (fun v8 _ => ?_)
        refine z_iload_n 31 2 dX10_targets_30 rfl rfl ?_
        refine z_iload_n 32 3 dX10_targets_31 rfl rfl ?_
        refine z_callVi 35 (mX1_row b0 v8 x2 x3 q5.2) zyX1_row rfl w_357 (ci := 1) rfl (Nat.le_of_ble_eq_true rfl) (fun _ e9 => kX1_row e9) wm_yX1_row ws_yX1_row (Nat.le_of_ble_eq_true rfl) rfl (Nat.le_of_ble_eq_true rfl) dX10_targets_32 rfl (fun q9 => ?_)
        exact z_ireturn dX10_targets_35 rfl
      · exact z_sub [] rfl (BX10_targets_21 b0 q5.2 )
-- X10_edges
def bX10_edges_21 (t0 : Int32) (h : ZH) : Option (Int32 × ZH) :=
  some (t0, h)
theorem BX10_edges_21 (b0 : Nat) (t0 : Int32) (h : ZH) : Zr zi b0 YX10_edges 3 21 [] [.int t0] h (bX10_edges_21 t0 h) := by
  unfold bX10_edges_21
  exact z_ireturn dX10_edges_21 rfl
def fX10_edges (x0 : Nat) (x1 : Int32) (h : ZH) : Option (Int32 × ZH) :=
  if x0 < zn h ∧ zK h x0 = 10 then ((fX10_isSlot x1 h).bind fun q1 =>
  if q1.1 = 0 then (bX10_edges_21 (-2 : Int32) q1.2) else
  ((gR q1.2 10 x0 0).bind fun v3 =>
  (lR q1.2 17 v3 x1).bind fun v4 =>
  (fX1_countEdges v4 q1.2).bind fun q5 =>
  bX10_edges_21 q5.1 q5.2)) else none
theorem kX10_edges {x0 : Nat} {x1 : Int32} {h : ZH} {x : Int32 × ZH} (e : fX10_edges x0 x1 h = some x) : x0 < zn h ∧ zK h x0 = 10 := by
  unfold fX10_edges at e
  exact zguard e
theorem mX10_edges (b0 : Nat) (x0 : Nat) (x1 : Int32) (h : ZH) : ZM zi b0 YX10_edges 3 [.ref (b0 + x0), .int x1] h (fX10_edges x0 x1 h) := by
  unfold fX10_edges
  refine ZM.of (by decide) rfl (Nat.le_of_ble_eq_true rfl) (fun _ => trivial) ?_
  refine z_sub (lv2 := [(0, .ref (b0 + x0)), (1, .int x1)]) [0, 1] rfl ?_
  refine z_guard (fun _ => ?_)
  refine z_iload_n 1 1 dX10_edges_0 rfl rfl ?_
  refine z_callSi 4 (mX10_isSlot b0 x1 h) zyX10_isSlot rfl w_294 wt_yX10_isSlot (Nat.le_of_ble_eq_true rfl) rfl (Nat.le_of_ble_eq_true rfl) dX10_edges_1 rfl (fun q1 => ?_)
  refine z_if_eq 19 7 dX10_edges_4 (by decide) rfl (fun c2 => ?_) (fun c2 => ?_)
  · refine z_bipush (-2 : Int32) 21 zkb_m2 dX10_edges_19 rfl ?_
    exact z_sub [] rfl (BX10_edges_21 b0 (-2 : Int32) q1.2 )
  · refine z_aload_n 8 0 dX10_edges_7 rfl rfl ?_
    refine z_getR 11 zC10 (Nat.le_of_ble_eq_true rfl) rfl w_235 dX10_edges_8 rfl (fun v3 _ => ?_)
    refine z_iload_n 12 1 dX10_edges_11 rfl rfl ?_
    refine z_aaload17 13 dX10_edges_12 rfl (fun v4 _ => ?_)
    refine z_callVi 16 (mX1_countEdges b0 v4 q1.2) zyX1_countEdges rfl w_327 (ci := 1) rfl (Nat.le_of_ble_eq_true rfl) (fun _ e9 => kX1_countEdges e9) wm_yX1_countEdges ws_yX1_countEdges (Nat.le_of_ble_eq_true rfl) rfl (Nat.le_of_ble_eq_true rfl) dX10_edges_13 rfl (fun q5 => ?_)
    refine z_goto 21 dX10_edges_16 (by decide) ?_
    exact z_sub [] rfl (BX10_edges_21 b0 q5.1 q5.2 )
-- X10_feed
def bX10_feed_36 (t0 : Int32) (h : ZH) : Option (Int32 × ZH) :=
  some (t0, h)
theorem BX10_feed_36 (b0 : Nat) (t0 : Int32) (h : ZH) : Zr zi b0 YX10_feed 2 36 [] [.int t0] h (bX10_feed_36 t0 h) := by
  unfold bX10_feed_36
  exact z_ireturn dX10_feed_36 rfl
def fX10_feed (x0 : Nat) (x1 : Int32) (h : ZH) : Option (Int32 × ZH) :=
  if x0 < zn h ∧ zK h x0 = 10 then ((fX10_isWithin x1 (nI 1) (nI 127) h).bind fun q1 =>
  if q1.1 = 0 then (some ((-2 : Int32), q1.2)) else
  ((gR q1.2 10 x0 4).bind fun v3 =>
  (fX7_add v3 x1 q1.2).bind fun q4 =>
  if q4.1 = 0 then (bX10_feed_36 (-3 : Int32) q4.2) else
  ((gR q4.2 10 x0 4).bind fun v6 =>
  (fX7_length v6 q4.2).bind fun q7 =>
  bX10_feed_36 q7.1 q7.2))) else none
theorem kX10_feed {x0 : Nat} {x1 : Int32} {h : ZH} {x : Int32 × ZH} (e : fX10_feed x0 x1 h = some x) : x0 < zn h ∧ zK h x0 = 10 := by
  unfold fX10_feed at e
  exact zguard e
theorem mX10_feed (b0 : Nat) (x0 : Nat) (x1 : Int32) (h : ZH) : ZM zi b0 YX10_feed 2 [.ref (b0 + x0), .int x1] h (fX10_feed x0 x1 h) := by
  unfold fX10_feed
  refine ZM.of (by decide) rfl (Nat.le_of_ble_eq_true rfl) (fun _ => trivial) ?_
  refine z_sub (lv2 := [(0, .ref (b0 + x0)), (1, .int x1)]) [0, 1] rfl ?_
  refine z_guard (fun _ => ?_)
  refine z_iload_n 1 1 dX10_feed_0 rfl rfl ?_
  refine z_iconst (nI 1) 2 zki_1 dX10_feed_1 rfl ?_
  refine z_bipush (nI 127) 4 zkb_127 dX10_feed_2 rfl ?_
  refine z_callSi 7 (mX10_isWithin b0 x1 (nI 1) (nI 127) h) zyX10_isWithin rfl w_366 wt_yX10_isWithin (Nat.le_of_ble_eq_true rfl) rfl (Nat.le_of_ble_eq_true rfl) dX10_feed_4 rfl (fun q1 => ?_)
  refine z_if_ne 13 10 dX10_feed_7 (by decide) rfl (fun c2 => ?_) (fun c2 => ?_)
  · refine z_aload_n 14 0 dX10_feed_13 rfl rfl ?_
    refine z_getR 17 zC10 (Nat.le_of_ble_eq_true rfl) rfl w_239 dX10_feed_14 rfl (fun v3 _ => ?_)
    refine z_iload_n 18 1 dX10_feed_17 rfl rfl ?_
    refine z_callVi 21 (mX7_add b0 v3 x1 q1.2) zyX7_add rfl w_369 (ci := 7) rfl (Nat.le_of_ble_eq_true rfl) (fun _ e9 => kX7_add e9) wm_yX7_add ws_yX7_add (Nat.le_of_ble_eq_true rfl) rfl (Nat.le_of_ble_eq_true rfl) dX10_feed_18 rfl (fun q4 => ?_)
    refine z_if_eq 34 24 dX10_feed_21 (by decide) rfl (fun c5 => ?_) (fun c5 => ?_)
    · refine z_bipush (-3 : Int32) 36 zkb_m3 dX10_feed_34 rfl ?_
      exact z_sub [] rfl (BX10_feed_36 b0 (-3 : Int32) q4.2 )
    · refine z_aload_n 25 0 dX10_feed_24 rfl rfl ?_
      refine z_getR 28 zC10 (Nat.le_of_ble_eq_true rfl) rfl w_239 dX10_feed_25 rfl (fun v6 _ => ?_)
      refine z_callVi 31 (mX7_length b0 v6 q4.2) zyX7_length rfl w_373 (ci := 7) rfl (Nat.le_of_ble_eq_true rfl) (fun _ e9 => kX7_length e9) wm_yX7_length ws_yX7_length (Nat.le_of_ble_eq_true rfl) rfl (Nat.le_of_ble_eq_true rfl) dX10_feed_28 rfl (fun q7 => ?_)
      refine z_goto 36 dX10_feed_31 (by decide) ?_
      exact z_sub [] rfl (BX10_feed_36 b0 q7.1 q7.2 )
  · refine z_bipush (-2 : Int32) 12 zkb_m2 dX10_feed_10 rfl ?_
    exact z_ireturn dX10_feed_12 rfl
-- X10_fitsInGraph
def bX10_fitsInGraph_47 (t0 : Int32) (h : ZH) : Option (Int32 × ZH) :=
  if t0 = 0 ∨ t0 = 1 then some (t0, h) else none
theorem BX10_fitsInGraph_47 (b0 : Nat) (t0 : Int32) (h : ZH) : Zr zi b0 YX10_fitsInGraph 2 47 [] [.int t0] h (bX10_fitsInGraph_47 t0 h) := by
  unfold bX10_fitsInGraph_47
  exact z_zreturn dX10_fitsInGraph_47 rfl
def fX10_fitsInGraph (x0 : Int32) (x1 : Int32) (h : ZH) : Option (Int32 × ZH) :=
  if (nI 4) = 0 then none else
  zl (jrem x0 (nI 4)) fun v1 =>
  if v1 = 1 then ((fX10_isLetter (x1 - (nI 97)) h).bind fun q3 =>
  if q3.1 = 0 ∨ q3.1 = 1 then some (q3.1, q3.2) else none) else
  if v1 = 3 then (if x1 = (nI 59) then (bX10_fitsInGraph_47 (nI 1) h) else
  (bX10_fitsInGraph_47 (nI 0) h)) else
  ((fX10_isVertex (x1 - (nI 48)) h).bind fun q6 =>
  if q6.1 = 0 ∨ q6.1 = 1 then some (q6.1, q6.2) else none)
theorem mX10_fitsInGraph (b0 : Nat) (x0 : Int32) (x1 : Int32) (h : ZH) : ZM zi b0 YX10_fitsInGraph 2 [.int x0, .int x1] h (fX10_fitsInGraph x0 x1 h) := by
  unfold fX10_fitsInGraph
  refine ZM.of (by decide) rfl (Nat.le_of_ble_eq_true rfl) (fun _ => trivial) ?_
  refine z_sub (lv2 := [(0, .int x0), (1, .int x1)]) [0, 1] rfl ?_
  refine z_iload_n 1 0 dX10_fitsInGraph_0 rfl rfl ?_
  refine z_iconst (nI 4) 2 zki_4 dX10_fitsInGraph_1 rfl ?_
  refine z_irem 3 dX10_fitsInGraph_2 rfl (fun _ => ?_)
  refine z_letI (fun v1 _ => ?_)
  refine z_ite (fun c2 => ?_) (fun c2 => ?_)
  · refine z_lookup (off := 25) 28 dX10_fitsInGraph_3 (by decide) (by rw [c2] <;> decide) (by decide) ?_
    refine z_iload_n 29 1 dX10_fitsInGraph_28 rfl rfl ?_
    refine z_bipush (nI 97) 31 zkb_97 dX10_fitsInGraph_29 rfl ?_
    refine z_isub 32 dX10_fitsInGraph_31 rfl ?_
    refine z_callSi 35 (mX10_isLetter b0 (x1 - (nI 97)) h) zyX10_isLetter rfl w_300 wt_yX10_isLetter (Nat.le_of_ble_eq_true rfl) rfl (Nat.le_of_ble_eq_true rfl) dX10_fitsInGraph_32 rfl (fun q3 => ?_)
    exact z_zreturn dX10_fitsInGraph_35 rfl
  refine z_ite (fun c4 => ?_) (fun c4 => ?_)
  · refine z_lookup (off := 33) 36 dX10_fitsInGraph_3 (by decide) (by rw [c4] <;> decide) (by decide) ?_
    refine z_iload_n 37 1 dX10_fitsInGraph_36 rfl rfl ?_
    refine z_bipush (nI 59) 39 zkb_59 dX10_fitsInGraph_37 rfl ?_
    refine z_icmp_ne 46 42 dX10_fitsInGraph_39 (by decide) rfl (fun c5 => ?_) (fun c5 => ?_)
    · refine z_iconst (nI 0) 47 zki_0 dX10_fitsInGraph_46 rfl ?_
      exact z_sub [] rfl (BX10_fitsInGraph_47 b0 (nI 0) h )
    · refine z_iconst (nI 1) 43 zki_1 dX10_fitsInGraph_42 rfl ?_
      refine z_goto 47 dX10_fitsInGraph_43 (by decide) ?_
      exact z_sub [] rfl (BX10_fitsInGraph_47 b0 (nI 1) h )
  refine z_lookup (off := 45) 48 dX10_fitsInGraph_3 (by decide) (sw_X10_fitsInGraph_3 (by assumption) (by assumption)) (by decide) ?_
  refine z_iload_n 49 1 dX10_fitsInGraph_48 rfl rfl ?_
  refine z_bipush (nI 48) 51 zkb_48 dX10_fitsInGraph_49 rfl ?_
  refine z_isub 52 dX10_fitsInGraph_51 rfl ?_
  refine z_callSi 55 (mX10_isVertex b0 (x1 - (nI 48)) h) zyX10_isVertex rfl w_297 wt_yX10_isVertex (Nat.le_of_ble_eq_true rfl) rfl (Nat.le_of_ble_eq_true rfl) dX10_fitsInGraph_52 rfl (fun q6 => ?_)
  exact z_zreturn dX10_fitsInGraph_55 rfl
-- X10_readGraph
def bX10_readGraph_137 (t0 : Int32) (h : ZH) : Option (Int32 × ZH) :=
  some (t0, h)
theorem BX10_readGraph_137 (b0 : Nat) (t0 : Int32) (h : ZH) : Zr zi b0 YX10_readGraph 4 137 [] [.int t0] h (bX10_readGraph_137 t0 h) := by
  unfold bX10_readGraph_137
  exact z_ireturn dX10_readGraph_137 rfl
def bX10_readGraph_119 (self22 : Int32 × Int32 × Int32 × ZH → Option (Int32 × ZH)) (x0 : Nat) (x1 : Int32) (x2 : Int32) (x3 : Int32) (x4 : Int32) (h : ZH) : Option (Int32 × ZH) :=
  self22 (x2, x3, (x4 + (nI 1)), h)
theorem BX10_readGraph_119 (b0 : Nat) (self22 : Int32 × Int32 × Int32 × ZH → Option (Int32 × ZH)) (x0 : Nat) (x1 : Int32) (x2 : Int32) (x3 : Int32) (x4 : Int32) (h : ZH) (hself22 : ∀ (y2 : Int32) (y3 : Int32) (y4 : Int32) (hh : ZH), Zr zi b0 YX10_readGraph 4 22 [(0, .ref (b0 + x0)), (1, .int x1), (2, .int y2), (3, .int y3), (4, .int y4)] [] hh (self22 (y2, y3, y4, hh))) : Zr zi b0 YX10_readGraph 4 119 [(0, .ref (b0 + x0)), (1, .int x1), (2, .int x2), (3, .int x3), (4, .int x4)] [] h (bX10_readGraph_119 self22 x0 x1 x2 x3 x4 h) := by
  unfold bX10_readGraph_119
  refine z_iinc (lv2 := [(4, .int (x4 + (nI 1))), (0, .ref (b0 + x0)), (1, .int x1), (2, .int x2), (3, .int x3)]) (nI 1) 122 4 dX10_readGraph_119 rfl rfl zki_1 (Nat.le_of_ble_eq_true rfl) rfl ?_
  refine z_goto 22 dX10_readGraph_122 (by decide) ?_
  exact z_sub [1, 2, 3, 4, 0] rfl (hself22 x2 x3 (x4 + (nI 1)) h)
def kX10_readGraph_22 (x0 : Nat) (x1 : Int32) (self22 : Int32 × Int32 × Int32 × ZH → Option (Int32 × ZH)) (x2 : Int32) (x3 : Int32) (x4 : Int32) (h : ZH) : Option (Int32 × ZH) :=
  if x1 ≤ x4 then (if (nI 4) = 0 then none else
  if (jrem x1 (nI 4)) = (nI 3) then (bX10_readGraph_137 (-1 : Int32) h) else
  (bX10_readGraph_137 x1 h)) else
  ((gR h 10 x0 4).bind fun v3 =>
  (fX7_at v3 x4 h).bind fun q4 =>
  (fX10_fitsInGraph x4 q4.1 q4.2).bind fun q5 =>
  if q5.1 = 0 then (some (x4, q5.2)) else
  (if (nI 4) = 0 then none else
  zl (jrem x4 (nI 4)) fun v7 =>
  if v7 = 0 then (zl (q4.1 - (nI 48)) fun v9 =>
  bX10_readGraph_119 self22 x0 x1 v9 x3 x4 q5.2) else
  if v7 = 1 then (zl (q4.1 - (nI 97)) fun v11 =>
  bX10_readGraph_119 self22 x0 x1 x2 v11 x4 q5.2) else
  if v7 = 2 then ((gR q5.2 10 x0 7).bind fun v13 =>
  (fX1_put v13 x2 x3 (q4.1 - (nI 48)) q5.2).bind fun h14 =>
  bX10_readGraph_119 self22 x0 x1 x2 x3 x4 h14) else
  (bX10_readGraph_119 self22 x0 x1 x2 x3 x4 q5.2)))
def lX10_readGraph_22 (x0 : Nat) (x1 : Int32) : (Int32 × Int32 × Int32 × ZH → Option (Int32 × ZH)) → Int32 × Int32 × Int32 × ZH → Option (Int32 × ZH) := fun self s => kX10_readGraph_22 x0 x1 self s.1 s.2.1 s.2.2.1 s.2.2.2
theorem KX10_readGraph_22 (b0 : Nat) (x0 : Nat) (x1 : Int32) (self22 : Int32 × Int32 × Int32 × ZH → Option (Int32 × ZH)) (hself22 : ∀ (y2 : Int32) (y3 : Int32) (y4 : Int32) (hh : ZH), Zr zi b0 YX10_readGraph 4 22 [(0, .ref (b0 + x0)), (1, .int x1), (2, .int y2), (3, .int y3), (4, .int y4)] [] hh (self22 (y2, y3, y4, hh))) (x2 : Int32) (x3 : Int32) (x4 : Int32) (h : ZH) : Zr zi b0 YX10_readGraph 4 22 [(0, .ref (b0 + x0)), (1, .int x1), (2, .int x2), (3, .int x3), (4, .int x4)] [] h (kX10_readGraph_22 x0 x1 self22 x2 x3 x4 h) := by
  unfold kX10_readGraph_22
  refine z_iload 24 4 dX10_readGraph_22 rfl rfl ?_
  refine z_iload_n 25 1 dX10_readGraph_24 rfl rfl ?_
  refine z_icmp_ge 125 28 dX10_readGraph_25 (by decide) rfl (fun c1 => ?_) (fun c1 => ?_)
  · refine z_iload_n 126 1 dX10_readGraph_125 rfl rfl ?_
    refine z_iconst (nI 4) 127 zki_4 dX10_readGraph_126 rfl ?_
    refine z_irem 128 dX10_readGraph_127 rfl (fun _ => ?_)
    refine z_iconst (nI 3) 129 zki_3 dX10_readGraph_128 rfl ?_
    refine z_icmp_ne 136 132 dX10_readGraph_129 (by decide) rfl (fun c2 => ?_) (fun c2 => ?_)
    · refine z_iload_n 137 1 dX10_readGraph_136 rfl rfl ?_
      exact z_sub [] rfl (BX10_readGraph_137 b0 x1 h )
    · refine z_iconst (-1 : Int32) 133 zki_m1 dX10_readGraph_132 rfl ?_
      refine z_goto 137 dX10_readGraph_133 (by decide) ?_
      exact z_sub [] rfl (BX10_readGraph_137 b0 (-1 : Int32) h )
  · refine z_aload_n 29 0 dX10_readGraph_28 rfl rfl ?_
    refine z_getR 32 zC10 (Nat.le_of_ble_eq_true rfl) rfl w_239 dX10_readGraph_29 rfl (fun v3 _ => ?_)
    refine z_iload 34 4 dX10_readGraph_32 rfl rfl ?_
    refine z_callVi 37 (mX7_at b0 v3 x4 h) zyX7_at rfl w_392 (ci := 7) rfl (Nat.le_of_ble_eq_true rfl) (fun _ e9 => kX7_at e9) wm_yX7_at ws_yX7_at (Nat.le_of_ble_eq_true rfl) rfl (Nat.le_of_ble_eq_true rfl) dX10_readGraph_34 rfl (fun q4 => ?_)
    refine z_istore (lv2 := [(5, .int q4.1), (0, .ref (b0 + x0)), (1, .int x1), (2, .int x2), (3, .int x3), (4, .int x4)]) 39 dX10_readGraph_37 rfl (Nat.le_of_ble_eq_true rfl) rfl ?_
    refine z_iload 41 5 dX10_readGraph_39 rfl rfl ?_
    refine z_iload 43 0 dX10_readGraph_41 rfl rfl ?_
    refine z_callSi 46 (mX10_fitsInGraph b0 x4 q4.1 q4.2) zyX10_fitsInGraph rfl w_396 wt_yX10_fitsInGraph (Nat.le_of_ble_eq_true rfl) rfl (Nat.le_of_ble_eq_true rfl) dX10_readGraph_43 rfl (fun q5 => ?_)
    refine z_if_ne 52 49 dX10_readGraph_46 (by decide) rfl (fun c6 => ?_) (fun c6 => ?_)
    · refine z_iload 54 5 dX10_readGraph_52 rfl rfl ?_
      refine z_iconst (nI 4) 55 zki_4 dX10_readGraph_54 rfl ?_
      refine z_irem 56 dX10_readGraph_55 rfl (fun _ => ?_)
      refine z_letI (fun v7 _ => ?_)
      refine z_ite (fun c8 => ?_) (fun c8 => ?_)
      · refine z_tabIn (off := 28) 84 dX10_readGraph_56 (by rw [c8] <;> decide) (by rw [c8] <;> decide) (by rw [c8] <;> decide) (by decide) ?_
        refine z_iload 86 0 dX10_readGraph_84 rfl rfl ?_
        refine z_bipush (nI 48) 88 zkb_48 dX10_readGraph_86 rfl ?_
        refine z_isub 89 dX10_readGraph_88 rfl ?_
        refine z_letI (fun v9 _ => ?_)
        refine z_istore_n (lv2 := [(2, .int v9), (5, .int q4.1), (0, .ref (b0 + x0)), (1, .int x1), (3, .int x3), (4, .int x4)]) 90 dX10_readGraph_89 rfl (Nat.le_of_ble_eq_true rfl) rfl ?_
        refine z_goto 119 dX10_readGraph_90 (by decide) ?_
        exact z_sub [2, 3, 0, 4, 5] rfl (BX10_readGraph_119 b0 self22 x0 x1 v9 x3 x4 q5.2 hself22)
      refine z_ite (fun c10 => ?_) (fun c10 => ?_)
      · refine z_tabIn (off := 37) 93 dX10_readGraph_56 (by rw [c10] <;> decide) (by rw [c10] <;> decide) (by rw [c10] <;> decide) (by decide) ?_
        refine z_iload 95 0 dX10_readGraph_93 rfl rfl ?_
        refine z_bipush (nI 97) 97 zkb_97 dX10_readGraph_95 rfl ?_
        refine z_isub 98 dX10_readGraph_97 rfl ?_
        refine z_letI (fun v11 _ => ?_)
        refine z_istore_n (lv2 := [(3, .int v11), (5, .int q4.1), (0, .ref (b0 + x0)), (1, .int x1), (2, .int x2), (4, .int x4)]) 99 dX10_readGraph_98 rfl (Nat.le_of_ble_eq_true rfl) rfl ?_
        refine z_goto 119 dX10_readGraph_99 (by decide) ?_
        exact z_sub [2, 3, 4, 0, 5] rfl (BX10_readGraph_119 b0 self22 x0 x1 x2 v11 x4 q5.2 hself22)
      refine z_ite (fun c12 => ?_) (fun c12 => ?_)
      · refine z_tabIn (off := 46) 102 dX10_readGraph_56 (by rw [c12] <;> decide) (by rw [c12] <;> decide) (by rw [c12] <;> decide) (by decide) ?_
        refine z_aload_n 103 1 dX10_readGraph_102 rfl rfl ?_
        refine z_getR 106 zC10 (Nat.le_of_ble_eq_true rfl) rfl w_242 dX10_readGraph_103 rfl (fun v13 _ => ?_)
        refine z_iload_n 107 3 dX10_readGraph_106 rfl rfl ?_
        refine z_iload_n 108 4 dX10_readGraph_107 rfl rfl ?_
        refine z_iload 110 0 dX10_readGraph_108 rfl rfl ?_
        refine z_bipush (nI 48) 112 zkb_48 dX10_readGraph_110 rfl ?_
        refine z_isub 113 dX10_readGraph_112 rfl ?_
        refine z_callVv 116 (mX1_put b0 v13 x2 x3 (q4.1 - (nI 48)) q5.2) zyX1_put rfl w_317 (ci := 1) rfl (Nat.le_of_ble_eq_true rfl) (fun _ e9 => kX1_put e9) wm_yX1_put ws_yX1_put (Nat.le_of_ble_eq_true rfl) rfl (Nat.le_of_ble_eq_true rfl) dX10_readGraph_113 rfl (fun h14 => ?_)
        refine z_goto 119 dX10_readGraph_116 (by decide) ?_
        exact z_sub [1, 2, 3, 4, 5] rfl (BX10_readGraph_119 b0 self22 x0 x1 x2 x3 x4 h14 hself22)
      refine z_tabOut 119 dX10_readGraph_56 (sw_X10_readGraph_56 c8 c10 c12) (by decide) ?_
      exact z_sub [1, 2, 3, 4, 5] rfl (BX10_readGraph_119 b0 self22 x0 x1 x2 x3 x4 q5.2 hself22)
    · refine z_iload 51 5 dX10_readGraph_49 rfl rfl ?_
      exact z_ireturn dX10_readGraph_51 rfl
theorem BX10_readGraph_22 (b0 : Nat) (x0 : Nat) (x1 : Int32) (n : Nat) (x2 : Int32) (x3 : Int32) (x4 : Int32) (h : ZH) : Zr zi b0 YX10_readGraph 4 22 [(0, .ref (b0 + x0)), (1, .int x1), (2, .int x2), (3, .int x3), (4, .int x4)] [] h (zloop (lX10_readGraph_22 x0 x1) n (x2, x3, x4, h)) :=
  zloop_Zr (fun s => [(0, .ref (b0 + x0)), (1, .int x1), (2, .int s.1), (3, .int s.2.1), (4, .int s.2.2.1)]) (fun _ => []) (fun s => s.2.2.2) (lX10_readGraph_22 x0 x1) (fun self hs s => KX10_readGraph_22 b0 x0 x1 self (fun y2 y3 y4 hh => hs (y2, y3, y4, hh)) s.1 s.2.1 s.2.2.1 s.2.2.2) n (x2, x3, x4, h)
def fX10_readGraph (x0 : Nat) (h : ZH) : Option (Int32 × ZH) :=
  if x0 < zn h ∧ zK h x0 = 10 then ((gR h 10 x0 7).bind fun v1 =>
  (fX1_clear v1 h).bind fun h2 =>
  (gR h2 10 x0 4).bind fun v3 =>
  (fX7_length v3 h2).bind fun q4 =>
  zloop (lX10_readGraph_22 x0 q4.1) zfu ((nI 0), (nI 0), (nI 0), q4.2)) else none
theorem kX10_readGraph {x0 : Nat} {h : ZH} {x : Int32 × ZH} (e : fX10_readGraph x0 h = some x) : x0 < zn h ∧ zK h x0 = 10 := by
  unfold fX10_readGraph at e
  exact zguard e
theorem mX10_readGraph (b0 : Nat) (x0 : Nat) (h : ZH) : ZM zi b0 YX10_readGraph 4 [.ref (b0 + x0)] h (fX10_readGraph x0 h) := by
  unfold fX10_readGraph
  refine ZM.of (by decide) rfl (Nat.le_of_ble_eq_true rfl) (fun _ => trivial) ?_
  refine z_sub (lv2 := [(0, .ref (b0 + x0))]) [0] rfl ?_
  refine z_guard (fun _ => ?_)
  refine z_aload_n 1 0 dX10_readGraph_0 rfl rfl ?_
  refine z_getR 4 zC10 (Nat.le_of_ble_eq_true rfl) rfl w_242 dX10_readGraph_1 rfl (fun v1 _ => ?_)
  refine z_callVv 7 (mX1_clear b0 v1 h) zyX1_clear rfl w_385 (ci := 1) rfl (Nat.le_of_ble_eq_true rfl) (fun _ e9 => kX1_clear e9) wm_yX1_clear ws_yX1_clear (Nat.le_of_ble_eq_true rfl) rfl (Nat.le_of_ble_eq_true rfl) dX10_readGraph_4 rfl (fun h2 => ?_)
  refine z_aload_n 8 0 dX10_readGraph_7 rfl rfl ?_
  refine z_getR 11 zC10 (Nat.le_of_ble_eq_true rfl) rfl w_239 dX10_readGraph_8 rfl (fun v3 _ => ?_)
  refine z_callVi 14 (mX7_length b0 v3 h2) zyX7_length rfl w_373 (ci := 7) rfl (Nat.le_of_ble_eq_true rfl) (fun _ e9 => kX7_length e9) wm_yX7_length ws_yX7_length (Nat.le_of_ble_eq_true rfl) rfl (Nat.le_of_ble_eq_true rfl) dX10_readGraph_11 rfl (fun q4 => ?_)
  refine z_istore_n (lv2 := [(1, .int q4.1), (0, .ref (b0 + x0))]) 15 dX10_readGraph_14 rfl (Nat.le_of_ble_eq_true rfl) rfl ?_
  refine z_iconst (nI 0) 16 zki_0 dX10_readGraph_15 rfl ?_
  refine z_istore_n (lv2 := [(2, .int (nI 0)), (1, .int q4.1), (0, .ref (b0 + x0))]) 17 dX10_readGraph_16 rfl (Nat.le_of_ble_eq_true rfl) rfl ?_
  refine z_iconst (nI 0) 18 zki_0 dX10_readGraph_17 rfl ?_
  refine z_istore_n (lv2 := [(3, .int (nI 0)), (2, .int (nI 0)), (1, .int q4.1), (0, .ref (b0 + x0))]) 19 dX10_readGraph_18 rfl (Nat.le_of_ble_eq_true rfl) rfl ?_
  refine z_iconst (nI 0) 20 zki_0 dX10_readGraph_19 rfl ?_
  refine z_istore (lv2 := [(4, .int (nI 0)), (3, .int (nI 0)), (2, .int (nI 0)), (1, .int q4.1), (0, .ref (b0 + x0))]) 22 dX10_readGraph_20 rfl (Nat.le_of_ble_eq_true rfl) rfl ?_
  exact z_sub [4, 3, 2, 1, 0] rfl (BX10_readGraph_22 b0 x0 q4.1 zfu (nI 0) (nI 0) (nI 0) q4.2)
-- X10_storeFresh
def fX10_storeFresh (x0 : Nat) (x1 : Int32) (h : ZH) : Option (ZH) :=
  if x0 < zn h ∧ zK h x0 = 10 then ((gR h 10 x0 3).bind fun v1 =>
  (gR h 10 x0 0).bind fun v2 =>
  (lR h 17 v2 x1).bind fun v3 =>
  (fX2_push v1 x1 v3 h).bind fun h4 =>
  (gR h4 10 x0 0).bind fun v5 =>
  (lR h4 17 v5 x1).bind fun v6 =>
  (gR h4 10 x0 7).bind fun v7 =>
  (fX1_copyOf v6 v7 h4).bind fun h8 =>
  some h8) else none
theorem kX10_storeFresh {x0 : Nat} {x1 : Int32} {h : ZH} {x : ZH} (e : fX10_storeFresh x0 x1 h = some x) : x0 < zn h ∧ zK h x0 = 10 := by
  unfold fX10_storeFresh at e
  exact zguard e
theorem mX10_storeFresh (b0 : Nat) (x0 : Nat) (x1 : Int32) (h : ZH) : ZM zv b0 YX10_storeFresh 4 [.ref (b0 + x0), .int x1] h (fX10_storeFresh x0 x1 h) := by
  unfold fX10_storeFresh
  refine ZM.of (by decide) rfl (Nat.le_of_ble_eq_true rfl) (fun _ => trivial) ?_
  refine z_sub (lv2 := [(0, .ref (b0 + x0)), (1, .int x1)]) [0, 1] rfl ?_
  refine z_guard (fun _ => ?_)
  refine z_aload_n 1 0 dX10_storeFresh_0 rfl rfl ?_
  refine z_getR 4 zC10 (Nat.le_of_ble_eq_true rfl) rfl w_238 dX10_storeFresh_1 rfl (fun v1 _ => ?_)
  refine z_iload_n 5 1 dX10_storeFresh_4 rfl rfl ?_
  refine z_aload_n 6 0 dX10_storeFresh_5 rfl rfl ?_
  refine z_getR 9 zC10 (Nat.le_of_ble_eq_true rfl) rfl w_235 dX10_storeFresh_6 rfl (fun v2 _ => ?_)
  refine z_iload_n 10 1 dX10_storeFresh_9 rfl rfl ?_
  refine z_aaload17 11 dX10_storeFresh_10 rfl (fun v3 _ => ?_)
  refine z_callVv 14 (mX2_push b0 v1 x1 v3 h) zyX2_push rfl w_303 (ci := 2) rfl (Nat.le_of_ble_eq_true rfl) (fun _ e9 => kX2_push e9) wm_yX2_push ws_yX2_push (Nat.le_of_ble_eq_true rfl) rfl (Nat.le_of_ble_eq_true rfl) dX10_storeFresh_11 rfl (fun h4 => ?_)
  refine z_aload_n 15 0 dX10_storeFresh_14 rfl rfl ?_
  refine z_getR 18 zC10 (Nat.le_of_ble_eq_true rfl) rfl w_235 dX10_storeFresh_15 rfl (fun v5 _ => ?_)
  refine z_iload_n 19 1 dX10_storeFresh_18 rfl rfl ?_
  refine z_aaload17 20 dX10_storeFresh_19 rfl (fun v6 _ => ?_)
  refine z_aload_n 21 0 dX10_storeFresh_20 rfl rfl ?_
  refine z_getR 24 zC10 (Nat.le_of_ble_eq_true rfl) rfl w_242 dX10_storeFresh_21 rfl (fun v7 _ => ?_)
  refine z_callVv 27 (mX1_copyOf b0 v6 v7 h4) zyX1_copyOf rfl w_407 (ci := 1) rfl (Nat.le_of_ble_eq_true rfl) (fun _ e9 => kX1_copyOf e9) wm_yX1_copyOf ws_yX1_copyOf (Nat.le_of_ble_eq_true rfl) rfl (Nat.le_of_ble_eq_true rfl) dX10_storeFresh_24 rfl (fun h8 => ?_)
  exact z_return dX10_storeFresh_27 rfl
-- X10_parse
def fX10_parse (x0 : Nat) (x1 : Int32) (h : ZH) : Option (Int32 × ZH) :=
  if x0 < zn h ∧ zK h x0 = 10 then ((fX10_isSlot x1 h).bind fun q1 =>
  if q1.1 = 0 then (some ((-2 : Int32), q1.2)) else
  ((fX10_readGraph x0 q1.2).bind fun q3 =>
  (gR q3.2 10 x0 4).bind fun v4 =>
  (fX7_clear v4 q3.2).bind fun h5 =>
  if q3.1 < 0 then ((fX10_storeFresh x0 x1 h5).bind fun h7 =>
  (gR h7 10 x0 7).bind fun v8 =>
  (fX1_countEdges v8 h7).bind fun q9 =>
  some (q9.1, q9.2)) else
  (some (((-100 : Int32) - q3.1), h5)))) else none
theorem kX10_parse {x0 : Nat} {x1 : Int32} {h : ZH} {x : Int32 × ZH} (e : fX10_parse x0 x1 h = some x) : x0 < zn h ∧ zK h x0 = 10 := by
  unfold fX10_parse at e
  exact zguard e
theorem mX10_parse (b0 : Nat) (x0 : Nat) (x1 : Int32) (h : ZH) : ZM zi b0 YX10_parse 5 [.ref (b0 + x0), .int x1] h (fX10_parse x0 x1 h) := by
  unfold fX10_parse
  refine ZM.of (by decide) rfl (Nat.le_of_ble_eq_true rfl) (fun _ => trivial) ?_
  refine z_sub (lv2 := [(0, .ref (b0 + x0)), (1, .int x1)]) [0, 1] rfl ?_
  refine z_guard (fun _ => ?_)
  refine z_iload_n 1 1 dX10_parse_0 rfl rfl ?_
  refine z_callSi 4 (mX10_isSlot b0 x1 h) zyX10_isSlot rfl w_294 wt_yX10_isSlot (Nat.le_of_ble_eq_true rfl) rfl (Nat.le_of_ble_eq_true rfl) dX10_parse_1 rfl (fun q1 => ?_)
  refine z_if_ne 10 7 dX10_parse_4 (by decide) rfl (fun c2 => ?_) (fun c2 => ?_)
  · refine z_aload_n 11 0 dX10_parse_10 rfl rfl ?_
    refine z_callVi 14 (mX10_readGraph b0 x0 q1.2) zyX10_readGraph rfl w_381 (ci := 10) rfl (Nat.le_of_ble_eq_true rfl) (fun _ e9 => kX10_readGraph e9) wm_yX10_readGraph ws_yX10_readGraph (Nat.le_of_ble_eq_true rfl) rfl (Nat.le_of_ble_eq_true rfl) dX10_parse_11 rfl (fun q3 => ?_)
    refine z_istore_n (lv2 := [(2, .int q3.1), (0, .ref (b0 + x0)), (1, .int x1)]) 15 dX10_parse_14 rfl (Nat.le_of_ble_eq_true rfl) rfl ?_
    refine z_aload_n 16 1 dX10_parse_15 rfl rfl ?_
    refine z_getR 19 zC10 (Nat.le_of_ble_eq_true rfl) rfl w_239 dX10_parse_16 rfl (fun v4 _ => ?_)
    refine z_callVv 22 (mX7_clear b0 v4 q3.2) zyX7_clear rfl w_399 (ci := 7) rfl (Nat.le_of_ble_eq_true rfl) (fun _ e9 => kX7_clear e9) wm_yX7_clear ws_yX7_clear (Nat.le_of_ble_eq_true rfl) rfl (Nat.le_of_ble_eq_true rfl) dX10_parse_19 rfl (fun h5 => ?_)
    refine z_iload_n 23 0 dX10_parse_22 rfl rfl ?_
    refine z_if_lt 31 26 dX10_parse_23 (by decide) rfl (fun c6 => ?_) (fun c6 => ?_)
    · refine z_aload_n 32 1 dX10_parse_31 rfl rfl ?_
      refine z_iload_n 33 2 dX10_parse_32 rfl rfl ?_
      refine z_callVv 36 (mX10_storeFresh b0 x0 x1 h5) zyX10_storeFresh rfl w_403 (ci := 10) rfl (Nat.le_of_ble_eq_true rfl) (fun _ e9 => kX10_storeFresh e9) wm_yX10_storeFresh ws_yX10_storeFresh (Nat.le_of_ble_eq_true rfl) rfl (Nat.le_of_ble_eq_true rfl) dX10_parse_33 rfl (fun h7 => ?_)
      refine z_aload_n 37 1 dX10_parse_36 rfl rfl ?_
      refine z_getR 40 zC10 (Nat.le_of_ble_eq_true rfl) rfl w_242 dX10_parse_37 rfl (fun v8 _ => ?_)
      refine z_callVi 43 (mX1_countEdges b0 v8 h7) zyX1_countEdges rfl w_327 (ci := 1) rfl (Nat.le_of_ble_eq_true rfl) (fun _ e9 => kX1_countEdges e9) wm_yX1_countEdges ws_yX1_countEdges (Nat.le_of_ble_eq_true rfl) rfl (Nat.le_of_ble_eq_true rfl) dX10_parse_40 rfl (fun q9 => ?_)
      exact z_ireturn dX10_parse_43 rfl
    · refine z_bipush (-100 : Int32) 28 zkb_m100 dX10_parse_26 rfl ?_
      refine z_iload_n 29 0 dX10_parse_28 rfl rfl ?_
      refine z_isub 30 dX10_parse_29 rfl ?_
      exact z_ireturn dX10_parse_30 rfl
  · refine z_bipush (-2 : Int32) 9 zkb_m2 dX10_parse_7 rfl ?_
    exact z_ireturn dX10_parse_9 rfl
-- X10_nextDraw
def fX10_nextDraw (x0 : Int32) (h : ZH) : Option (Int32 × ZH) :=
  some (((x0 * (1103515245 : Int32)) + (nI 12345)), h)
theorem mX10_nextDraw (b0 : Nat) (x0 : Int32) (h : ZH) : ZM zi b0 YX10_nextDraw 1 [.int x0] h (fX10_nextDraw x0 h) := by
  unfold fX10_nextDraw
  refine ZM.of (by decide) rfl (Nat.le_of_ble_eq_true rfl) (fun _ => trivial) ?_
  refine z_sub (lv2 := [(0, .int x0)]) [0] rfl ?_
  refine z_iload_n 1 0 dX10_nextDraw_0 rfl rfl ?_
  refine z_ldcw 4 w_415 dX10_nextDraw_1 rfl ?_
  refine z_imul 5 dX10_nextDraw_4 rfl ?_
  refine z_sipush (nI 12345) 8 zks_12345 dX10_nextDraw_5 rfl ?_
  refine z_iadd 9 dX10_nextDraw_8 rfl ?_
  exact z_ireturn dX10_nextDraw_9 rfl
-- X10_random
def kX10_random_33 (x0 : Nat) (x1 : Int32) (x3 : Int32) (self33 : Int32 × Int32 × ZH → Option (Int32 × ZH)) (x4 : Int32) (x5 : Int32) (h : ZH) : Option (Int32 × ZH) :=
  if x3 ≤ x5 then ((fX10_storeFresh x0 x1 h).bind fun h2 =>
  (gR h2 10 x0 7).bind fun v3 =>
  (fX1_countEdges v3 h2).bind fun q4 =>
  some (q4.1, q4.2)) else
  ((fX10_nextDraw x4 h).bind fun q5 =>
  if (nI 8) = 0 then none else
  zl (jrem (jushr q5.1 (nI 16)) (nI 8)) fun v6 =>
  (fX10_nextDraw q5.1 q5.2).bind fun q7 =>
  if (nI 4) = 0 then none else
  zl (jrem (jushr q7.1 (nI 16)) (nI 4)) fun v8 =>
  (fX10_nextDraw q7.1 q7.2).bind fun q9 =>
  (gR q9.2 10 x0 7).bind fun v10 =>
  if (nI 8) = 0 then none else
  (fX1_put v10 v6 v8 (jrem (jushr q9.1 (nI 16)) (nI 8)) q9.2).bind fun h11 =>
  self33 (q9.1, (x5 + (nI 1)), h11))
def lX10_random_33 (x0 : Nat) (x1 : Int32) (x3 : Int32) : (Int32 × Int32 × ZH → Option (Int32 × ZH)) → Int32 × Int32 × ZH → Option (Int32 × ZH) := fun self s => kX10_random_33 x0 x1 x3 self s.1 s.2.1 s.2.2
theorem KX10_random_33 (b0 : Nat) (x0 : Nat) (x1 : Int32) (x3 : Int32) (self33 : Int32 × Int32 × ZH → Option (Int32 × ZH)) (hself33 : ∀ (y4 : Int32) (y5 : Int32) (hh : ZH), Zr zi b0 YX10_random 5 33 [(0, .ref (b0 + x0)), (1, .int x1), (3, .int x3), (4, .int y4), (5, .int y5)] [] hh (self33 (y4, y5, hh))) (x4 : Int32) (x5 : Int32) (h : ZH) : Zr zi b0 YX10_random 5 33 [(0, .ref (b0 + x0)), (1, .int x1), (3, .int x3), (4, .int x4), (5, .int x5)] [] h (kX10_random_33 x0 x1 x3 self33 x4 x5 h) := by
  unfold kX10_random_33
  refine z_iload 35 4 dX10_random_33 rfl rfl ?_
  refine z_iload_n 36 2 dX10_random_35 rfl rfl ?_
  refine z_icmp_ge 104 39 dX10_random_36 (by decide) rfl (fun c1 => ?_) (fun c1 => ?_)
  · refine z_aload_n 105 0 dX10_random_104 rfl rfl ?_
    refine z_iload_n 106 1 dX10_random_105 rfl rfl ?_
    refine z_callVv 109 (mX10_storeFresh b0 x0 x1 h) zyX10_storeFresh rfl w_403 (ci := 10) rfl (Nat.le_of_ble_eq_true rfl) (fun _ e9 => kX10_storeFresh e9) wm_yX10_storeFresh ws_yX10_storeFresh (Nat.le_of_ble_eq_true rfl) rfl (Nat.le_of_ble_eq_true rfl) dX10_random_106 rfl (fun h2 => ?_)
    refine z_aload_n 110 0 dX10_random_109 rfl rfl ?_
    refine z_getR 113 zC10 (Nat.le_of_ble_eq_true rfl) rfl w_242 dX10_random_110 rfl (fun v3 _ => ?_)
    refine z_callVi 116 (mX1_countEdges b0 v3 h2) zyX1_countEdges rfl w_327 (ci := 1) rfl (Nat.le_of_ble_eq_true rfl) (fun _ e9 => kX1_countEdges e9) wm_yX1_countEdges ws_yX1_countEdges (Nat.le_of_ble_eq_true rfl) rfl (Nat.le_of_ble_eq_true rfl) dX10_random_113 rfl (fun q4 => ?_)
    exact z_ireturn dX10_random_116 rfl
  · refine z_iload 41 3 dX10_random_39 rfl rfl ?_
    refine z_callSi 44 (mX10_nextDraw b0 x4 h) zyX10_nextDraw rfl w_412 wt_yX10_nextDraw (Nat.le_of_ble_eq_true rfl) rfl (Nat.le_of_ble_eq_true rfl) dX10_random_41 rfl (fun q5 => ?_)
    refine z_istore (lv2 := [(4, .int q5.1), (0, .ref (b0 + x0)), (1, .int x1), (3, .int x3), (5, .int x5)]) 46 dX10_random_44 rfl (Nat.le_of_ble_eq_true rfl) rfl ?_
    refine z_iload 48 0 dX10_random_46 rfl rfl ?_
    refine z_bipush (nI 16) 50 zkb_16 dX10_random_48 rfl ?_
    refine z_iushr 51 dX10_random_50 rfl ?_
    refine z_bipush (nI 8) 53 zkb_8 dX10_random_51 rfl ?_
    refine z_irem 54 dX10_random_53 rfl (fun _ => ?_)
    refine z_letI (fun v6 _ => ?_)
    refine z_istore (lv2 := [(6, .int v6), (4, .int q5.1), (0, .ref (b0 + x0)), (1, .int x1), (3, .int x3), (5, .int x5)]) 56 dX10_random_54 rfl (Nat.le_of_ble_eq_true rfl) rfl ?_
    refine z_iload 58 1 dX10_random_56 rfl rfl ?_
    refine z_callSi 61 (mX10_nextDraw b0 q5.1 q5.2) zyX10_nextDraw rfl w_412 wt_yX10_nextDraw (Nat.le_of_ble_eq_true rfl) rfl (Nat.le_of_ble_eq_true rfl) dX10_random_58 rfl (fun q7 => ?_)
    refine z_istore (lv2 := [(4, .int q7.1), (6, .int v6), (0, .ref (b0 + x0)), (1, .int x1), (3, .int x3), (5, .int x5)]) 63 dX10_random_61 rfl (Nat.le_of_ble_eq_true rfl) rfl ?_
    refine z_iload 65 0 dX10_random_63 rfl rfl ?_
    refine z_bipush (nI 16) 67 zkb_16 dX10_random_65 rfl ?_
    refine z_iushr 68 dX10_random_67 rfl ?_
    refine z_iconst (nI 4) 69 zki_4 dX10_random_68 rfl ?_
    refine z_irem 70 dX10_random_69 rfl (fun _ => ?_)
    refine z_letI (fun v8 _ => ?_)
    refine z_istore (lv2 := [(7, .int v8), (4, .int q7.1), (6, .int v6), (0, .ref (b0 + x0)), (1, .int x1), (3, .int x3), (5, .int x5)]) 72 dX10_random_70 rfl (Nat.le_of_ble_eq_true rfl) rfl ?_
    refine z_iload 74 1 dX10_random_72 rfl rfl ?_
    refine z_callSi 77 (mX10_nextDraw b0 q7.1 q7.2) zyX10_nextDraw rfl w_412 wt_yX10_nextDraw (Nat.le_of_ble_eq_true rfl) rfl (Nat.le_of_ble_eq_true rfl) dX10_random_74 rfl (fun q9 => ?_)
    refine z_istore (lv2 := [(4, .int q9.1), (7, .int v8), (6, .int v6), (0, .ref (b0 + x0)), (1, .int x1), (3, .int x3), (5, .int x5)]) 79 dX10_random_77 rfl (Nat.le_of_ble_eq_true rfl) rfl ?_
    refine z_aload_n 80 3 dX10_random_79 rfl rfl ?_
    refine z_getR 83 zC10 (Nat.le_of_ble_eq_true rfl) rfl w_242 dX10_random_80 rfl (fun v10 _ => ?_)
    refine z_iload 85 2 dX10_random_83 rfl rfl ?_
    refine z_iload 87 1 dX10_random_85 rfl rfl ?_
    refine z_iload 89 0 dX10_random_87 rfl rfl ?_
    refine z_bipush (nI 16) 91 zkb_16 dX10_random_89 rfl ?_
    refine z_iushr 92 dX10_random_91 rfl ?_
    refine z_bipush (nI 8) 94 zkb_8 dX10_random_92 rfl ?_
    refine z_irem 95 dX10_random_94 rfl (fun _ => ?_)
    refine z_callVv 98 (mX1_put b0 v10 v6 v8 (jrem (jushr q9.1 (nI 16)) (nI 8)) q9.2) zyX1_put rfl w_317 (ci := 1) rfl (Nat.le_of_ble_eq_true rfl) (fun _ e9 => kX1_put e9) wm_yX1_put ws_yX1_put (Nat.le_of_ble_eq_true rfl) rfl (Nat.le_of_ble_eq_true rfl) dX10_random_95 rfl (fun h11 => ?_)
    refine z_iinc (lv2 := [(5, .int (x5 + (nI 1))), (4, .int q9.1), (7, .int v8), (6, .int v6), (0, .ref (b0 + x0)), (1, .int x1), (3, .int x3)]) (nI 1) 101 6 dX10_random_98 rfl rfl zki_1 (Nat.le_of_ble_eq_true rfl) rfl ?_
    refine z_goto 33 dX10_random_101 (by decide) ?_
    exact z_sub [4, 5, 6, 1, 0] rfl (hself33 q9.1 (x5 + (nI 1)) h11)
theorem BX10_random_33 (b0 : Nat) (x0 : Nat) (x1 : Int32) (x3 : Int32) (n : Nat) (x4 : Int32) (x5 : Int32) (h : ZH) : Zr zi b0 YX10_random 5 33 [(0, .ref (b0 + x0)), (1, .int x1), (3, .int x3), (4, .int x4), (5, .int x5)] [] h (zloop (lX10_random_33 x0 x1 x3) n (x4, x5, h)) :=
  zloop_Zr (fun s => [(0, .ref (b0 + x0)), (1, .int x1), (3, .int x3), (4, .int s.1), (5, .int s.2.1)]) (fun _ => []) (fun s => s.2.2) (lX10_random_33 x0 x1 x3) (fun self hs s => KX10_random_33 b0 x0 x1 x3 self (fun y4 y5 hh => hs (y4, y5, hh)) s.1 s.2.1 s.2.2) n (x4, x5, h)
def bX10_random_17 (h : ZH) : Option (Int32 × ZH) :=
  some ((-2 : Int32), h)
theorem BX10_random_17 (b0 : Nat) (h : ZH) : Zr zi b0 YX10_random 5 17 [] [] h (bX10_random_17 h) := by
  unfold bX10_random_17
  refine z_bipush (-2 : Int32) 19 zkb_m2 dX10_random_17 rfl ?_
  exact z_ireturn dX10_random_19 rfl
def fX10_random (x0 : Nat) (x1 : Int32) (x2 : Int32) (x3 : Int32) (h : ZH) : Option (Int32 × ZH) :=
  if x0 < zn h ∧ zK h x0 = 10 then ((fX10_isSlot x1 h).bind fun q1 =>
  if q1.1 = 0 then (bX10_random_17 q1.2) else
  ((fX10_isWithin x3 (nI 0) (nI 24) q1.2).bind fun q3 =>
  if q3.1 = 0 then (bX10_random_17 q3.2) else
  ((gR q3.2 10 x0 7).bind fun v5 =>
  (fX1_clear v5 q3.2).bind fun h6 =>
  zloop (lX10_random_33 x0 x1 x3) zfu (x2, (nI 0), h6)))) else none
theorem kX10_random {x0 : Nat} {x1 : Int32} {x2 : Int32} {x3 : Int32} {h : ZH} {x : Int32 × ZH} (e : fX10_random x0 x1 x2 x3 h = some x) : x0 < zn h ∧ zK h x0 = 10 := by
  unfold fX10_random at e
  exact zguard e
theorem mX10_random (b0 : Nat) (x0 : Nat) (x1 : Int32) (x2 : Int32) (x3 : Int32) (h : ZH) : ZM zi b0 YX10_random 5 [.ref (b0 + x0), .int x1, .int x2, .int x3] h (fX10_random x0 x1 x2 x3 h) := by
  unfold fX10_random
  refine ZM.of (by decide) rfl (Nat.le_of_ble_eq_true rfl) (fun _ => trivial) ?_
  refine z_sub (lv2 := [(0, .ref (b0 + x0)), (1, .int x1), (2, .int x2), (3, .int x3)]) [0, 1, 2, 3] rfl ?_
  refine z_guard (fun _ => ?_)
  refine z_iload_n 1 1 dX10_random_0 rfl rfl ?_
  refine z_callSi 4 (mX10_isSlot b0 x1 h) zyX10_isSlot rfl w_294 wt_yX10_isSlot (Nat.le_of_ble_eq_true rfl) rfl (Nat.le_of_ble_eq_true rfl) dX10_random_1 rfl (fun q1 => ?_)
  refine z_if_eq 17 7 dX10_random_4 (by decide) rfl (fun c2 => ?_) (fun c2 => ?_)
  · exact z_sub [] rfl (BX10_random_17 b0 q1.2 )
  · refine z_iload_n 8 3 dX10_random_7 rfl rfl ?_
    refine z_iconst (nI 0) 9 zki_0 dX10_random_8 rfl ?_
    refine z_bipush (nI 24) 11 zkb_24 dX10_random_9 rfl ?_
    refine z_callSi 14 (mX10_isWithin b0 x3 (nI 0) (nI 24) q1.2) zyX10_isWithin rfl w_366 wt_yX10_isWithin (Nat.le_of_ble_eq_true rfl) rfl (Nat.le_of_ble_eq_true rfl) dX10_random_11 rfl (fun q3 => ?_)
    refine z_if_ne 20 17 dX10_random_14 (by decide) rfl (fun c4 => ?_) (fun c4 => ?_)
    · refine z_aload_n 21 0 dX10_random_20 rfl rfl ?_
      refine z_getR 24 zC10 (Nat.le_of_ble_eq_true rfl) rfl w_242 dX10_random_21 rfl (fun v5 _ => ?_)
      refine z_callVv 27 (mX1_clear b0 v5 q3.2) zyX1_clear rfl w_385 (ci := 1) rfl (Nat.le_of_ble_eq_true rfl) (fun _ e9 => kX1_clear e9) wm_yX1_clear ws_yX1_clear (Nat.le_of_ble_eq_true rfl) rfl (Nat.le_of_ble_eq_true rfl) dX10_random_24 rfl (fun h6 => ?_)
      refine z_iload_n 28 2 dX10_random_27 rfl rfl ?_
      refine z_istore (lv2 := [(4, .int x2), (0, .ref (b0 + x0)), (1, .int x1), (2, .int x2), (3, .int x3)]) 30 dX10_random_28 rfl (Nat.le_of_ble_eq_true rfl) rfl ?_
      refine z_iconst (nI 0) 31 zki_0 dX10_random_30 rfl ?_
      refine z_istore (lv2 := [(5, .int (nI 0)), (4, .int x2), (0, .ref (b0 + x0)), (1, .int x1), (2, .int x2), (3, .int x3)]) 33 dX10_random_31 rfl (Nat.le_of_ble_eq_true rfl) rfl ?_
      exact z_sub [2, 3, 5, 1, 0] rfl (BX10_random_33 b0 x0 x1 x3 zfu x2 (nI 0) h6)
    · exact z_sub [] rfl (BX10_random_17 b0 q3.2 )
-- X10_essential
def bX10_essential_21 (t0 : Int32) (h : ZH) : Option (Int32 × ZH) :=
  some (t0, h)
theorem BX10_essential_21 (b0 : Nat) (t0 : Int32) (h : ZH) : Zr zi b0 YX10_essential 4 21 [] [.int t0] h (bX10_essential_21 t0 h) := by
  unfold bX10_essential_21
  exact z_ireturn dX10_essential_21 rfl
def fX10_essential (x0 : Nat) (x1 : Int32) (h : ZH) : Option (Int32 × ZH) :=
  if x0 < zn h ∧ zK h x0 = 10 then ((fX10_isSlot x1 h).bind fun q1 =>
  if q1.1 = 0 then (bX10_essential_21 (-2 : Int32) q1.2) else
  ((gR q1.2 10 x0 0).bind fun v3 =>
  (lR q1.2 17 v3 x1).bind fun v4 =>
  (fX1_core v4 q1.2).bind fun q5 =>
  bX10_essential_21 q5.1 q5.2)) else none
theorem kX10_essential {x0 : Nat} {x1 : Int32} {h : ZH} {x : Int32 × ZH} (e : fX10_essential x0 x1 h = some x) : x0 < zn h ∧ zK h x0 = 10 := by
  unfold fX10_essential at e
  exact zguard e
theorem mX10_essential (b0 : Nat) (x0 : Nat) (x1 : Int32) (h : ZH) : ZM zi b0 YX10_essential 4 [.ref (b0 + x0), .int x1] h (fX10_essential x0 x1 h) := by
  unfold fX10_essential
  refine ZM.of (by decide) rfl (Nat.le_of_ble_eq_true rfl) (fun _ => trivial) ?_
  refine z_sub (lv2 := [(0, .ref (b0 + x0)), (1, .int x1)]) [0, 1] rfl ?_
  refine z_guard (fun _ => ?_)
  refine z_iload_n 1 1 dX10_essential_0 rfl rfl ?_
  refine z_callSi 4 (mX10_isSlot b0 x1 h) zyX10_isSlot rfl w_294 wt_yX10_isSlot (Nat.le_of_ble_eq_true rfl) rfl (Nat.le_of_ble_eq_true rfl) dX10_essential_1 rfl (fun q1 => ?_)
  refine z_if_eq 19 7 dX10_essential_4 (by decide) rfl (fun c2 => ?_) (fun c2 => ?_)
  · refine z_bipush (-2 : Int32) 21 zkb_m2 dX10_essential_19 rfl ?_
    exact z_sub [] rfl (BX10_essential_21 b0 (-2 : Int32) q1.2 )
  · refine z_aload_n 8 0 dX10_essential_7 rfl rfl ?_
    refine z_getR 11 zC10 (Nat.le_of_ble_eq_true rfl) rfl w_235 dX10_essential_8 rfl (fun v3 _ => ?_)
    refine z_iload_n 12 1 dX10_essential_11 rfl rfl ?_
    refine z_aaload17 13 dX10_essential_12 rfl (fun v4 _ => ?_)
    refine z_callVi 16 (mX1_core b0 v4 q1.2) zyX1_core rfl w_420 (ci := 1) rfl (Nat.le_of_ble_eq_true rfl) (fun _ e9 => kX1_core e9) wm_yX1_core ws_yX1_core (Nat.le_of_ble_eq_true rfl) rfl (Nat.le_of_ble_eq_true rfl) dX10_essential_13 rfl (fun q5 => ?_)
    refine z_goto 21 dX10_essential_16 (by decide) ?_
    exact z_sub [] rfl (BX10_essential_21 b0 q5.1 q5.2 )
-- X10_isIrreducible
def bX10_isIrreducible_38 (t0 : Int32) (h : ZH) : Option (Int32 × ZH) :=
  some (t0, h)
theorem BX10_isIrreducible_38 (b0 : Nat) (t0 : Int32) (h : ZH) : Zr zi b0 YX10_isIrreducible 5 38 [] [.int t0] h (bX10_isIrreducible_38 t0 h) := by
  unfold bX10_isIrreducible_38
  exact z_ireturn dX10_isIrreducible_38 rfl
def fX10_isIrreducible (x0 : Nat) (x1 : Int32) (h : ZH) : Option (Int32 × ZH) :=
  if x0 < zn h ∧ zK h x0 = 10 then ((fX10_isSlot x1 h).bind fun q1 =>
  if q1.1 = 0 then (some ((-2 : Int32), q1.2)) else
  ((gR q1.2 10 x0 8).bind fun v3 =>
  (gR q1.2 10 x0 0).bind fun v4 =>
  (lR q1.2 17 v4 x1).bind fun v5 =>
  (fX1_copyCoreOf v3 v5 q1.2).bind fun h6 =>
  (gR h6 10 x0 8).bind fun v7 =>
  (fX1_isStronglyConnected v7 h6).bind fun q8 =>
  if q8.1 = 0 then (bX10_isIrreducible_38 (nI 0) q8.2) else
  (bX10_isIrreducible_38 (nI 1) q8.2))) else none
theorem kX10_isIrreducible {x0 : Nat} {x1 : Int32} {h : ZH} {x : Int32 × ZH} (e : fX10_isIrreducible x0 x1 h = some x) : x0 < zn h ∧ zK h x0 = 10 := by
  unfold fX10_isIrreducible at e
  exact zguard e
theorem mX10_isIrreducible (b0 : Nat) (x0 : Nat) (x1 : Int32) (h : ZH) : ZM zi b0 YX10_isIrreducible 5 [.ref (b0 + x0), .int x1] h (fX10_isIrreducible x0 x1 h) := by
  unfold fX10_isIrreducible
  refine ZM.of (by decide) rfl (Nat.le_of_ble_eq_true rfl) (fun _ => trivial) ?_
  refine z_sub (lv2 := [(0, .ref (b0 + x0)), (1, .int x1)]) [0, 1] rfl ?_
  refine z_guard (fun _ => ?_)
  refine z_iload_n 1 1 dX10_isIrreducible_0 rfl rfl ?_
  refine z_callSi 4 (mX10_isSlot b0 x1 h) zyX10_isSlot rfl w_294 wt_yX10_isSlot (Nat.le_of_ble_eq_true rfl) rfl (Nat.le_of_ble_eq_true rfl) dX10_isIrreducible_1 rfl (fun q1 => ?_)
  refine z_if_ne 10 7 dX10_isIrreducible_4 (by decide) rfl (fun c2 => ?_) (fun c2 => ?_)
  · refine z_aload_n 11 0 dX10_isIrreducible_10 rfl rfl ?_
    refine z_getR 14 zC10 (Nat.le_of_ble_eq_true rfl) rfl w_243 dX10_isIrreducible_11 rfl (fun v3 _ => ?_)
    refine z_aload_n 15 0 dX10_isIrreducible_14 rfl rfl ?_
    refine z_getR 18 zC10 (Nat.le_of_ble_eq_true rfl) rfl w_235 dX10_isIrreducible_15 rfl (fun v4 _ => ?_)
    refine z_iload_n 19 1 dX10_isIrreducible_18 rfl rfl ?_
    refine z_aaload17 20 dX10_isIrreducible_19 rfl (fun v5 _ => ?_)
    refine z_callVv 23 (mX1_copyCoreOf b0 v3 v5 q1.2) zyX1_copyCoreOf rfl w_440 (ci := 1) rfl (Nat.le_of_ble_eq_true rfl) (fun _ e9 => kX1_copyCoreOf e9) wm_yX1_copyCoreOf ws_yX1_copyCoreOf (Nat.le_of_ble_eq_true rfl) rfl (Nat.le_of_ble_eq_true rfl) dX10_isIrreducible_20 rfl (fun h6 => ?_)
    refine z_aload_n 24 0 dX10_isIrreducible_23 rfl rfl ?_
    refine z_getR 27 zC10 (Nat.le_of_ble_eq_true rfl) rfl w_243 dX10_isIrreducible_24 rfl (fun v7 _ => ?_)
    refine z_callVi 30 (mX1_isStronglyConnected b0 v7 h6) zyX1_isStronglyConnected rfl w_445 (ci := 1) rfl (Nat.le_of_ble_eq_true rfl) (fun _ e9 => kX1_isStronglyConnected e9) wm_yX1_isStronglyConnected ws_yX1_isStronglyConnected (Nat.le_of_ble_eq_true rfl) rfl (Nat.le_of_ble_eq_true rfl) dX10_isIrreducible_27 rfl (fun q8 => ?_)
    refine z_if_eq 37 33 dX10_isIrreducible_30 (by decide) rfl (fun c9 => ?_) (fun c9 => ?_)
    · refine z_iconst (nI 0) 38 zki_0 dX10_isIrreducible_37 rfl ?_
      exact z_sub [] rfl (BX10_isIrreducible_38 b0 (nI 0) q8.2 )
    · refine z_iconst (nI 1) 34 zki_1 dX10_isIrreducible_33 rfl ?_
      refine z_goto 38 dX10_isIrreducible_34 (by decide) ?_
      exact z_sub [] rfl (BX10_isIrreducible_38 b0 (nI 1) q8.2 )
  · refine z_bipush (-2 : Int32) 9 zkb_m2 dX10_isIrreducible_7 rfl ?_
    exact z_ireturn dX10_isIrreducible_9 rfl
-- X10_period
def fX10_period (x0 : Nat) (x1 : Int32) (h : ZH) : Option (Int32 × ZH) :=
  if x0 < zn h ∧ zK h x0 = 10 then ((fX10_isSlot x1 h).bind fun q1 =>
  if q1.1 = 0 then (some ((-2 : Int32), q1.2)) else
  ((gR q1.2 10 x0 8).bind fun v3 =>
  (gR q1.2 10 x0 0).bind fun v4 =>
  (lR q1.2 17 v4 x1).bind fun v5 =>
  (fX1_copyCoreOf v3 v5 q1.2).bind fun h6 =>
  (gR h6 10 x0 8).bind fun v7 =>
  (fX1_cycleDivisor v7 h6).bind fun q8 =>
  some (q8.1, q8.2))) else none
theorem kX10_period {x0 : Nat} {x1 : Int32} {h : ZH} {x : Int32 × ZH} (e : fX10_period x0 x1 h = some x) : x0 < zn h ∧ zK h x0 = 10 := by
  unfold fX10_period at e
  exact zguard e
theorem mX10_period (b0 : Nat) (x0 : Nat) (x1 : Int32) (h : ZH) : ZM zi b0 YX10_period 5 [.ref (b0 + x0), .int x1] h (fX10_period x0 x1 h) := by
  unfold fX10_period
  refine ZM.of (by decide) rfl (Nat.le_of_ble_eq_true rfl) (fun _ => trivial) ?_
  refine z_sub (lv2 := [(0, .ref (b0 + x0)), (1, .int x1)]) [0, 1] rfl ?_
  refine z_guard (fun _ => ?_)
  refine z_iload_n 1 1 dX10_period_0 rfl rfl ?_
  refine z_callSi 4 (mX10_isSlot b0 x1 h) zyX10_isSlot rfl w_294 wt_yX10_isSlot (Nat.le_of_ble_eq_true rfl) rfl (Nat.le_of_ble_eq_true rfl) dX10_period_1 rfl (fun q1 => ?_)
  refine z_if_ne 10 7 dX10_period_4 (by decide) rfl (fun c2 => ?_) (fun c2 => ?_)
  · refine z_aload_n 11 0 dX10_period_10 rfl rfl ?_
    refine z_getR 14 zC10 (Nat.le_of_ble_eq_true rfl) rfl w_243 dX10_period_11 rfl (fun v3 _ => ?_)
    refine z_aload_n 15 0 dX10_period_14 rfl rfl ?_
    refine z_getR 18 zC10 (Nat.le_of_ble_eq_true rfl) rfl w_235 dX10_period_15 rfl (fun v4 _ => ?_)
    refine z_iload_n 19 1 dX10_period_18 rfl rfl ?_
    refine z_aaload17 20 dX10_period_19 rfl (fun v5 _ => ?_)
    refine z_callVv 23 (mX1_copyCoreOf b0 v3 v5 q1.2) zyX1_copyCoreOf rfl w_440 (ci := 1) rfl (Nat.le_of_ble_eq_true rfl) (fun _ e9 => kX1_copyCoreOf e9) wm_yX1_copyCoreOf ws_yX1_copyCoreOf (Nat.le_of_ble_eq_true rfl) rfl (Nat.le_of_ble_eq_true rfl) dX10_period_20 rfl (fun h6 => ?_)
    refine z_aload_n 24 0 dX10_period_23 rfl rfl ?_
    refine z_getR 27 zC10 (Nat.le_of_ble_eq_true rfl) rfl w_243 dX10_period_24 rfl (fun v7 _ => ?_)
    refine z_callVi 30 (mX1_cycleDivisor b0 v7 h6) zyX1_cycleDivisor rfl w_453 (ci := 1) rfl (Nat.le_of_ble_eq_true rfl) (fun _ e9 => kX1_cycleDivisor e9) wm_yX1_cycleDivisor ws_yX1_cycleDivisor (Nat.le_of_ble_eq_true rfl) rfl (Nat.le_of_ble_eq_true rfl) dX10_period_27 rfl (fun q8 => ?_)
    exact z_ireturn dX10_period_30 rfl
  · refine z_bipush (-2 : Int32) 9 zkb_m2 dX10_period_7 rfl ?_
    exact z_ireturn dX10_period_9 rfl
-- X10_loadSubsets
def fX10_loadSubsets (x0 : Nat) (x1 : Int32) (h : ZH) : Option (ZH) :=
  if x0 < zn h ∧ zK h x0 = 10 then ((gR h 10 x0 8).bind fun v1 =>
  (gR h 10 x0 0).bind fun v2 =>
  (lR h 17 v2 x1).bind fun v3 =>
  (fX1_copyCoreOf v1 v3 h).bind fun h4 =>
  (gR h4 10 x0 10).bind fun v5 =>
  (gR h4 10 x0 8).bind fun v6 =>
  (fX6_build v5 v6 h4).bind fun h7 =>
  some h7) else none
theorem kX10_loadSubsets {x0 : Nat} {x1 : Int32} {h : ZH} {x : ZH} (e : fX10_loadSubsets x0 x1 h = some x) : x0 < zn h ∧ zK h x0 = 10 := by
  unfold fX10_loadSubsets at e
  exact zguard e
theorem mX10_loadSubsets (b0 : Nat) (x0 : Nat) (x1 : Int32) (h : ZH) : ZM zv b0 YX10_loadSubsets 5 [.ref (b0 + x0), .int x1] h (fX10_loadSubsets x0 x1 h) := by
  unfold fX10_loadSubsets
  refine ZM.of (by decide) rfl (Nat.le_of_ble_eq_true rfl) (fun _ => trivial) ?_
  refine z_sub (lv2 := [(0, .ref (b0 + x0)), (1, .int x1)]) [0, 1] rfl ?_
  refine z_guard (fun _ => ?_)
  refine z_aload_n 1 0 dX10_loadSubsets_0 rfl rfl ?_
  refine z_getR 4 zC10 (Nat.le_of_ble_eq_true rfl) rfl w_243 dX10_loadSubsets_1 rfl (fun v1 _ => ?_)
  refine z_aload_n 5 0 dX10_loadSubsets_4 rfl rfl ?_
  refine z_getR 8 zC10 (Nat.le_of_ble_eq_true rfl) rfl w_235 dX10_loadSubsets_5 rfl (fun v2 _ => ?_)
  refine z_iload_n 9 1 dX10_loadSubsets_8 rfl rfl ?_
  refine z_aaload17 10 dX10_loadSubsets_9 rfl (fun v3 _ => ?_)
  refine z_callVv 13 (mX1_copyCoreOf b0 v1 v3 h) zyX1_copyCoreOf rfl w_440 (ci := 1) rfl (Nat.le_of_ble_eq_true rfl) (fun _ e9 => kX1_copyCoreOf e9) wm_yX1_copyCoreOf ws_yX1_copyCoreOf (Nat.le_of_ble_eq_true rfl) rfl (Nat.le_of_ble_eq_true rfl) dX10_loadSubsets_10 rfl (fun h4 => ?_)
  refine z_aload_n 14 0 dX10_loadSubsets_13 rfl rfl ?_
  refine z_getR 17 zC10 (Nat.le_of_ble_eq_true rfl) rfl w_245 dX10_loadSubsets_14 rfl (fun v5 _ => ?_)
  refine z_aload_n 18 0 dX10_loadSubsets_17 rfl rfl ?_
  refine z_getR 21 zC10 (Nat.le_of_ble_eq_true rfl) rfl w_243 dX10_loadSubsets_18 rfl (fun v6 _ => ?_)
  refine z_callVv 24 (mX6_build b0 v5 v6 h4) zyX6_build rfl w_473 (ci := 6) rfl (Nat.le_of_ble_eq_true rfl) (fun _ e9 => kX6_build e9) wm_yX6_build ws_yX6_build (Nat.le_of_ble_eq_true rfl) rfl (Nat.le_of_ble_eq_true rfl) dX10_loadSubsets_21 rfl (fun h7 => ?_)
  exact z_return dX10_loadSubsets_24 rfl
-- X10_countWords
def fX10_countWords (x0 : Nat) (x1 : Int32) (x2 : Int32) (h : ZH) : Option (ZH) :=
  if x0 < zn h ∧ zK h x0 = 10 then ((fX10_loadSubsets x0 x1 h).bind fun h1 =>
  (gR h1 10 x0 12).bind fun v2 =>
  (gR h1 10 x0 10).bind fun v3 =>
  (fX9_fill v2 v3 x2 h1).bind fun h4 =>
  some h4) else none
theorem kX10_countWords {x0 : Nat} {x1 : Int32} {x2 : Int32} {h : ZH} {x : ZH} (e : fX10_countWords x0 x1 x2 h = some x) : x0 < zn h ∧ zK h x0 = 10 := by
  unfold fX10_countWords at e
  exact zguard e
theorem mX10_countWords (b0 : Nat) (x0 : Nat) (x1 : Int32) (x2 : Int32) (h : ZH) : ZM zv b0 YX10_countWords 6 [.ref (b0 + x0), .int x1, .int x2] h (fX10_countWords x0 x1 x2 h) := by
  unfold fX10_countWords
  refine ZM.of (by decide) rfl (Nat.le_of_ble_eq_true rfl) (fun _ => trivial) ?_
  refine z_sub (lv2 := [(0, .ref (b0 + x0)), (1, .int x1), (2, .int x2)]) [0, 1, 2] rfl ?_
  refine z_guard (fun _ => ?_)
  refine z_aload_n 1 0 dX10_countWords_0 rfl rfl ?_
  refine z_iload_n 2 1 dX10_countWords_1 rfl rfl ?_
  refine z_callVv 5 (mX10_loadSubsets b0 x0 x1 h) zyX10_loadSubsets rfl w_469 (ci := 10) rfl (Nat.le_of_ble_eq_true rfl) (fun _ e9 => kX10_loadSubsets e9) wm_yX10_loadSubsets ws_yX10_loadSubsets (Nat.le_of_ble_eq_true rfl) rfl (Nat.le_of_ble_eq_true rfl) dX10_countWords_2 rfl (fun h1 => ?_)
  refine z_aload_n 6 0 dX10_countWords_5 rfl rfl ?_
  refine z_getR 9 zC10 (Nat.le_of_ble_eq_true rfl) rfl w_247 dX10_countWords_6 rfl (fun v2 _ => ?_)
  refine z_aload_n 10 0 dX10_countWords_9 rfl rfl ?_
  refine z_getR 13 zC10 (Nat.le_of_ble_eq_true rfl) rfl w_245 dX10_countWords_10 rfl (fun v3 _ => ?_)
  refine z_iload_n 14 2 dX10_countWords_13 rfl rfl ?_
  refine z_callVv 17 (mX9_fill b0 v2 v3 x2 h1) zyX9_fill rfl w_487 (ci := 9) rfl (Nat.le_of_ble_eq_true rfl) (fun _ e9 => kX9_fill e9) wm_yX9_fill ws_yX9_fill (Nat.le_of_ble_eq_true rfl) rfl (Nat.le_of_ble_eq_true rfl) dX10_countWords_14 rfl (fun h4 => ?_)
  exact z_return dX10_countWords_17 rfl
-- X10_words
def bX10_words_17 (h : ZH) : Option (Int64 × ZH) :=
  some ((-2 : Int64), h)
theorem BX10_words_17 (b0 : Nat) (h : ZH) : Zr zj b0 YX10_words 7 17 [] [] h (bX10_words_17 h) := by
  unfold bX10_words_17
  refine z_ldc2 20 w_464 dX10_words_17 rfl ?_
  exact z_lreturn dX10_words_20 rfl
def fX10_words (x0 : Nat) (x1 : Int32) (x2 : Int32) (h : ZH) : Option (Int64 × ZH) :=
  if x0 < zn h ∧ zK h x0 = 10 then ((fX10_isSlot x1 h).bind fun q1 =>
  if q1.1 = 0 then (bX10_words_17 q1.2) else
  ((fX10_isWithin x2 (nI 0) (nI 30) q1.2).bind fun q3 =>
  if q3.1 = 0 then (bX10_words_17 q3.2) else
  ((fX10_countWords x0 x1 x2 q3.2).bind fun h5 =>
  (gR h5 10 x0 12).bind fun v6 =>
  (fX9_total v6 x2 h5).bind fun q7 =>
  some (q7.1, q7.2)))) else none
theorem kX10_words {x0 : Nat} {x1 : Int32} {x2 : Int32} {h : ZH} {x : Int64 × ZH} (e : fX10_words x0 x1 x2 h = some x) : x0 < zn h ∧ zK h x0 = 10 := by
  unfold fX10_words at e
  exact zguard e
theorem mX10_words (b0 : Nat) (x0 : Nat) (x1 : Int32) (x2 : Int32) (h : ZH) : ZM zj b0 YX10_words 7 [.ref (b0 + x0), .int x1, .int x2] h (fX10_words x0 x1 x2 h) := by
  unfold fX10_words
  refine ZM.of (by decide) rfl (Nat.le_of_ble_eq_true rfl) (fun _ => trivial) ?_
  refine z_sub (lv2 := [(0, .ref (b0 + x0)), (1, .int x1), (2, .int x2)]) [0, 1, 2] rfl ?_
  refine z_guard (fun _ => ?_)
  refine z_iload_n 1 1 dX10_words_0 rfl rfl ?_
  refine z_callSi 4 (mX10_isSlot b0 x1 h) zyX10_isSlot rfl w_294 wt_yX10_isSlot (Nat.le_of_ble_eq_true rfl) rfl (Nat.le_of_ble_eq_true rfl) dX10_words_1 rfl (fun q1 => ?_)
  refine z_if_eq 17 7 dX10_words_4 (by decide) rfl (fun c2 => ?_) (fun c2 => ?_)
  · exact z_sub [] rfl (BX10_words_17 b0 q1.2 )
  · refine z_iload_n 8 2 dX10_words_7 rfl rfl ?_
    refine z_iconst (nI 0) 9 zki_0 dX10_words_8 rfl ?_
    refine z_bipush (nI 30) 11 zkb_30 dX10_words_9 rfl ?_
    refine z_callSi 14 (mX10_isWithin b0 x2 (nI 0) (nI 30) q1.2) zyX10_isWithin rfl w_366 wt_yX10_isWithin (Nat.le_of_ble_eq_true rfl) rfl (Nat.le_of_ble_eq_true rfl) dX10_words_11 rfl (fun q3 => ?_)
    refine z_if_ne 21 17 dX10_words_14 (by decide) rfl (fun c4 => ?_) (fun c4 => ?_)
    · refine z_aload_n 22 0 dX10_words_21 rfl rfl ?_
      refine z_iload_n 23 1 dX10_words_22 rfl rfl ?_
      refine z_iload_n 24 2 dX10_words_23 rfl rfl ?_
      refine z_callVv 27 (mX10_countWords b0 x0 x1 x2 q3.2) zyX10_countWords rfl w_465 (ci := 10) rfl (Nat.le_of_ble_eq_true rfl) (fun _ e9 => kX10_countWords e9) wm_yX10_countWords ws_yX10_countWords (Nat.le_of_ble_eq_true rfl) rfl (Nat.le_of_ble_eq_true rfl) dX10_words_24 rfl (fun h5 => ?_)
      refine z_aload_n 28 0 dX10_words_27 rfl rfl ?_
      refine z_getR 31 zC10 (Nat.le_of_ble_eq_true rfl) rfl w_247 dX10_words_28 rfl (fun v6 _ => ?_)
      refine z_iload_n 32 2 dX10_words_31 rfl rfl ?_
      refine z_callVj 35 (mX9_total b0 v6 x2 h5) zyX9_total rfl w_507 (ci := 9) rfl (Nat.le_of_ble_eq_true rfl) (fun _ e9 => kX9_total e9) wm_yX9_total ws_yX9_total (Nat.le_of_ble_eq_true rfl) rfl (Nat.le_of_ble_eq_true rfl) dX10_words_32 rfl (fun q7 => ?_)
      exact z_lreturn dX10_words_35 rfl
    · exact z_sub [] rfl (BX10_words_17 b0 q3.2 )
-- X10_growth
def bX10_growth_104 (x8 : Int64) (t0 : Int64) (h : ZH) : Option (Int64 × ZH) :=
  if x8 = 0 then none else
  some ((t0 / x8), h)
theorem BX10_growth_104 (b0 : Nat) (x8 : Int64) (t0 : Int64) (h : ZH) : Zr zj b0 YX10_growth 7 104 [(8, .long x8)] [.long t0] h (bX10_growth_104 x8 t0 h) := by
  unfold bX10_growth_104
  refine z_lload 106 0 dX10_growth_104 rfl rfl ?_
  refine z_ldiv 107 dX10_growth_106 rfl (fun _ => ?_)
  exact z_lreturn dX10_growth_107 rfl
def bX10_growth_92 (t0 : Int64) (h : ZH) : Option (Int64 × ZH) :=
  some (t0, h)
theorem BX10_growth_92 (b0 : Nat) (t0 : Int64) (h : ZH) : Zr zj b0 YX10_growth 7 92 [] [.long t0] h (bX10_growth_92 t0 h) := by
  unfold bX10_growth_92
  exact z_lreturn dX10_growth_92 rfl
def bX10_growth_83 (x3 : Int32) (h : ZH) : Option (Int64 × ZH) :=
  if x3 = 0 then (bX10_growth_92 (lN 0) h) else
  (bX10_growth_92 (lN 1) h)
theorem BX10_growth_83 (b0 : Nat) (x3 : Int32) (h : ZH) : Zr zj b0 YX10_growth 7 83 [(3, .int x3)] [] h (bX10_growth_83 x3 h) := by
  unfold bX10_growth_83
  refine z_iload_n 84 0 dX10_growth_83 rfl rfl ?_
  refine z_if_ne 91 87 dX10_growth_84 (by decide) rfl (fun c1 => ?_) (fun c1 => ?_)
  · refine z_lconst (lN 1) 92 rfl dX10_growth_91 rfl ?_
    exact z_sub [] rfl (BX10_growth_92 b0 (lN 1) h )
  · refine z_lconst (lN 0) 88 rfl dX10_growth_87 rfl ?_
    refine z_goto 92 dX10_growth_88 (by decide) ?_
    exact z_sub [] rfl (BX10_growth_92 b0 (lN 0) h )
def bX10_growth_26 (h : ZH) : Option (Int64 × ZH) :=
  some ((-2 : Int64), h)
theorem BX10_growth_26 (b0 : Nat) (h : ZH) : Zr zj b0 YX10_growth 7 26 [] [] h (bX10_growth_26 h) := by
  unfold bX10_growth_26
  refine z_ldc2 29 w_464 dX10_growth_26 rfl ?_
  exact z_lreturn dX10_growth_29 rfl
def fX10_growth (x0 : Nat) (x1 : Int32) (x2 : Int32) (x3 : Int32) (h : ZH) : Option (Int64 × ZH) :=
  if x0 < zn h ∧ zK h x0 = 10 then ((fX10_isSlot x1 h).bind fun q1 =>
  if q1.1 = 0 then (bX10_growth_26 q1.2) else
  ((fX10_isWithin x2 (nI 0) (nI 29) q1.2).bind fun q3 =>
  if q3.1 = 0 then (bX10_growth_26 q3.2) else
  ((fX10_isWithin x3 (nI 0) (nI 1) q3.2).bind fun q5 =>
  if q5.1 = 0 then (bX10_growth_26 q5.2) else
  ((fX10_countWords x0 x1 (x2 + (nI 1)) q5.2).bind fun h7 =>
  (gR h7 10 x0 12).bind fun v8 =>
  (fX9_total v8 (x2 + (nI 1)) h7).bind fun q9 =>
  (gR q9.2 10 x0 12).bind fun v10 =>
  (fX9_total v10 x2 q9.2).bind fun q11 =>
  (fX10_commonDivisor q9.1 q11.1 q11.2).bind fun q12 =>
  if (lg_cmp q11.1 (lN 0)) = 0 then (bX10_growth_83 x3 q12.2) else
  (if (lg_cmp q12.1 (lN 0)) = 0 then (bX10_growth_83 x3 q12.2) else
  (if x3 = 0 then (bX10_growth_104 q12.1 q9.1 q12.2) else
  (bX10_growth_104 q12.1 q11.1 q12.2))))))) else none
theorem kX10_growth {x0 : Nat} {x1 : Int32} {x2 : Int32} {x3 : Int32} {h : ZH} {x : Int64 × ZH} (e : fX10_growth x0 x1 x2 x3 h = some x) : x0 < zn h ∧ zK h x0 = 10 := by
  unfold fX10_growth at e
  exact zguard e
theorem mX10_growth (b0 : Nat) (x0 : Nat) (x1 : Int32) (x2 : Int32) (x3 : Int32) (h : ZH) : ZM zj b0 YX10_growth 7 [.ref (b0 + x0), .int x1, .int x2, .int x3] h (fX10_growth x0 x1 x2 x3 h) := by
  unfold fX10_growth
  refine ZM.of (by decide) rfl (Nat.le_of_ble_eq_true rfl) (fun _ => trivial) ?_
  refine z_sub (lv2 := [(0, .ref (b0 + x0)), (1, .int x1), (2, .int x2), (3, .int x3)]) [0, 1, 2, 3] rfl ?_
  refine z_guard (fun _ => ?_)
  refine z_iload_n 1 1 dX10_growth_0 rfl rfl ?_
  refine z_callSi 4 (mX10_isSlot b0 x1 h) zyX10_isSlot rfl w_294 wt_yX10_isSlot (Nat.le_of_ble_eq_true rfl) rfl (Nat.le_of_ble_eq_true rfl) dX10_growth_1 rfl (fun q1 => ?_)
  refine z_if_eq 26 7 dX10_growth_4 (by decide) rfl (fun c2 => ?_) (fun c2 => ?_)
  · exact z_sub [] rfl (BX10_growth_26 b0 q1.2 )
  · refine z_iload_n 8 2 dX10_growth_7 rfl rfl ?_
    refine z_iconst (nI 0) 9 zki_0 dX10_growth_8 rfl ?_
    refine z_bipush (nI 29) 11 zkb_29 dX10_growth_9 rfl ?_
    refine z_callSi 14 (mX10_isWithin b0 x2 (nI 0) (nI 29) q1.2) zyX10_isWithin rfl w_366 wt_yX10_isWithin (Nat.le_of_ble_eq_true rfl) rfl (Nat.le_of_ble_eq_true rfl) dX10_growth_11 rfl (fun q3 => ?_)
    refine z_if_eq 26 17 dX10_growth_14 (by decide) rfl (fun c4 => ?_) (fun c4 => ?_)
    · exact z_sub [] rfl (BX10_growth_26 b0 q3.2 )
    · refine z_iload_n 18 3 dX10_growth_17 rfl rfl ?_
      refine z_iconst (nI 0) 19 zki_0 dX10_growth_18 rfl ?_
      refine z_iconst (nI 1) 20 zki_1 dX10_growth_19 rfl ?_
      refine z_callSi 23 (mX10_isWithin b0 x3 (nI 0) (nI 1) q3.2) zyX10_isWithin rfl w_366 wt_yX10_isWithin (Nat.le_of_ble_eq_true rfl) rfl (Nat.le_of_ble_eq_true rfl) dX10_growth_20 rfl (fun q5 => ?_)
      refine z_if_ne 30 26 dX10_growth_23 (by decide) rfl (fun c6 => ?_) (fun c6 => ?_)
      · refine z_aload_n 31 0 dX10_growth_30 rfl rfl ?_
        refine z_iload_n 32 1 dX10_growth_31 rfl rfl ?_
        refine z_iload_n 33 2 dX10_growth_32 rfl rfl ?_
        refine z_iconst (nI 1) 34 zki_1 dX10_growth_33 rfl ?_
        refine z_iadd 35 dX10_growth_34 rfl ?_
        refine z_callVv 38 (mX10_countWords b0 x0 x1 (x2 + (nI 1)) q5.2) zyX10_countWords rfl w_465 (ci := 10) rfl (Nat.le_of_ble_eq_true rfl) (fun _ e9 => kX10_countWords e9) wm_yX10_countWords ws_yX10_countWords (Nat.le_of_ble_eq_true rfl) rfl (Nat.le_of_ble_eq_true rfl) dX10_growth_35 rfl (fun h7 => ?_)
        refine z_aload_n 39 0 dX10_growth_38 rfl rfl ?_
        refine z_getR 42 zC10 (Nat.le_of_ble_eq_true rfl) rfl w_247 dX10_growth_39 rfl (fun v8 _ => ?_)
        refine z_iload_n 43 2 dX10_growth_42 rfl rfl ?_
        refine z_iconst (nI 1) 44 zki_1 dX10_growth_43 rfl ?_
        refine z_iadd 45 dX10_growth_44 rfl ?_
        refine z_callVj 48 (mX9_total b0 v8 (x2 + (nI 1)) h7) zyX9_total rfl w_507 (ci := 9) rfl (Nat.le_of_ble_eq_true rfl) (fun _ e9 => kX9_total e9) wm_yX9_total ws_yX9_total (Nat.le_of_ble_eq_true rfl) rfl (Nat.le_of_ble_eq_true rfl) dX10_growth_45 rfl (fun q9 => ?_)
        refine z_lstore (lv2 := [(4, .long q9.1), (0, .ref (b0 + x0)), (1, .int x1), (2, .int x2), (3, .int x3)]) 50 dX10_growth_48 rfl (Nat.le_of_ble_eq_true rfl) rfl ?_
        refine z_aload_n 51 1 dX10_growth_50 rfl rfl ?_
        refine z_getR 54 zC10 (Nat.le_of_ble_eq_true rfl) rfl w_247 dX10_growth_51 rfl (fun v10 _ => ?_)
        refine z_iload_n 55 3 dX10_growth_54 rfl rfl ?_
        refine z_callVj 58 (mX9_total b0 v10 x2 q9.2) zyX9_total rfl w_507 (ci := 9) rfl (Nat.le_of_ble_eq_true rfl) (fun _ e9 => kX9_total e9) wm_yX9_total ws_yX9_total (Nat.le_of_ble_eq_true rfl) rfl (Nat.le_of_ble_eq_true rfl) dX10_growth_55 rfl (fun q11 => ?_)
        refine z_lstore (lv2 := [(6, .long q11.1), (4, .long q9.1), (0, .ref (b0 + x0)), (1, .int x1), (2, .int x2), (3, .int x3)]) 60 dX10_growth_58 rfl (Nat.le_of_ble_eq_true rfl) rfl ?_
        refine z_lload 62 1 dX10_growth_60 rfl rfl ?_
        refine z_lload 64 0 dX10_growth_62 rfl rfl ?_
        refine z_callSj 67 (mX10_commonDivisor b0 q9.1 q11.1 q11.2) zyX10_commonDivisor rfl w_515 wt_yX10_commonDivisor (Nat.le_of_ble_eq_true rfl) rfl (Nat.le_of_ble_eq_true rfl) dX10_growth_64 rfl (fun q12 => ?_)
        refine z_lstore (lv2 := [(8, .long q12.1), (6, .long q11.1), (4, .long q9.1), (0, .ref (b0 + x0)), (1, .int x1), (2, .int x2), (3, .int x3)]) 69 dX10_growth_67 rfl (Nat.le_of_ble_eq_true rfl) rfl ?_
        refine z_lload 71 1 dX10_growth_69 rfl rfl ?_
        refine z_lconst (lN 0) 72 rfl dX10_growth_71 rfl ?_
        refine z_lcmp 73 dX10_growth_72 rfl ?_
        refine z_if_eq 83 76 dX10_growth_73 (by decide) rfl (fun c13 => ?_) (fun c13 => ?_)
        · exact z_sub [6] rfl (BX10_growth_83 b0 x3 q12.2 )
        · refine z_lload 78 0 dX10_growth_76 rfl rfl ?_
          refine z_lconst (lN 0) 79 rfl dX10_growth_78 rfl ?_
          refine z_lcmp 80 dX10_growth_79 rfl ?_
          refine z_if_ne 93 83 dX10_growth_80 (by decide) rfl (fun c14 => ?_) (fun c14 => ?_)
          · refine z_iload_n 94 6 dX10_growth_93 rfl rfl ?_
            refine z_if_ne 102 97 dX10_growth_94 (by decide) rfl (fun c15 => ?_) (fun c15 => ?_)
            · refine z_lload 104 1 dX10_growth_102 rfl rfl ?_
              exact z_sub [0] rfl (BX10_growth_104 b0 q12.1 q11.1 q12.2 )
            · refine z_lload 99 2 dX10_growth_97 rfl rfl ?_
              refine z_goto 104 dX10_growth_99 (by decide) ?_
              exact z_sub [0] rfl (BX10_growth_104 b0 q12.1 q9.1 q12.2 )
          · exact z_sub [6] rfl (BX10_growth_83 b0 x3 q12.2 )
      · exact z_sub [] rfl (BX10_growth_26 b0 q5.2 )
-- X10_endsOfInput
def kX10_endsOfInput_23 (x0 : Nat) (self23 : Int32 × Int32 × ZH → Option (Int32 × ZH)) (x2 : Int32) (x3 : Int32) (h : ZH) : Option (Int32 × ZH) :=
  (gR h 10 x0 4).bind fun v1 =>
  (fX7_length v1 h).bind fun q2 =>
  if q2.1 ≤ x3 then (some (x2, q2.2)) else
  ((gR q2.2 10 x0 8).bind fun v4 =>
  (gR q2.2 10 x0 4).bind fun v5 =>
  (fX7_at v5 x3 q2.2).bind fun q6 =>
  (fX1_follow v4 x2 (q6.1 - (nI 97)) q6.2).bind fun q7 =>
  self23 (q7.1, (x3 + (nI 1)), q7.2))
def lX10_endsOfInput_23 (x0 : Nat) : (Int32 × Int32 × ZH → Option (Int32 × ZH)) → Int32 × Int32 × ZH → Option (Int32 × ZH) := fun self s => kX10_endsOfInput_23 x0 self s.1 s.2.1 s.2.2
theorem KX10_endsOfInput_23 (b0 : Nat) (x0 : Nat) (self23 : Int32 × Int32 × ZH → Option (Int32 × ZH)) (hself23 : ∀ (y2 : Int32) (y3 : Int32) (hh : ZH), Zr zi b0 YX10_endsOfInput 5 23 [(0, .ref (b0 + x0)), (2, .int y2), (3, .int y3)] [] hh (self23 (y2, y3, hh))) (x2 : Int32) (x3 : Int32) (h : ZH) : Zr zi b0 YX10_endsOfInput 5 23 [(0, .ref (b0 + x0)), (2, .int x2), (3, .int x3)] [] h (kX10_endsOfInput_23 x0 self23 x2 x3 h) := by
  unfold kX10_endsOfInput_23
  refine z_iload_n 24 2 dX10_endsOfInput_23 rfl rfl ?_
  refine z_aload_n 25 0 dX10_endsOfInput_24 rfl rfl ?_
  refine z_getR 28 zC10 (Nat.le_of_ble_eq_true rfl) rfl w_239 dX10_endsOfInput_25 rfl (fun v1 _ => ?_)
  refine z_callVi 31 (mX7_length b0 v1 h) zyX7_length rfl w_373 (ci := 7) rfl (Nat.le_of_ble_eq_true rfl) (fun _ e9 => kX7_length e9) wm_yX7_length ws_yX7_length (Nat.le_of_ble_eq_true rfl) rfl (Nat.le_of_ble_eq_true rfl) dX10_endsOfInput_28 rfl (fun q2 => ?_)
  refine z_icmp_ge 60 34 dX10_endsOfInput_31 (by decide) rfl (fun c3 => ?_) (fun c3 => ?_)
  · refine z_iload_n 61 1 dX10_endsOfInput_60 rfl rfl ?_
    exact z_ireturn dX10_endsOfInput_61 rfl
  · refine z_aload_n 35 0 dX10_endsOfInput_34 rfl rfl ?_
    refine z_getR 38 zC10 (Nat.le_of_ble_eq_true rfl) rfl w_243 dX10_endsOfInput_35 rfl (fun v4 _ => ?_)
    refine z_iload_n 39 1 dX10_endsOfInput_38 rfl rfl ?_
    refine z_aload_n 40 0 dX10_endsOfInput_39 rfl rfl ?_
    refine z_getR 43 zC10 (Nat.le_of_ble_eq_true rfl) rfl w_239 dX10_endsOfInput_40 rfl (fun v5 _ => ?_)
    refine z_iload_n 44 2 dX10_endsOfInput_43 rfl rfl ?_
    refine z_callVi 47 (mX7_at b0 v5 x3 q2.2) zyX7_at rfl w_392 (ci := 7) rfl (Nat.le_of_ble_eq_true rfl) (fun _ e9 => kX7_at e9) wm_yX7_at ws_yX7_at (Nat.le_of_ble_eq_true rfl) rfl (Nat.le_of_ble_eq_true rfl) dX10_endsOfInput_44 rfl (fun q6 => ?_)
    refine z_bipush (nI 97) 49 zkb_97 dX10_endsOfInput_47 rfl ?_
    refine z_isub 50 dX10_endsOfInput_49 rfl ?_
    refine z_callVi 53 (mX1_follow b0 v4 x2 (q6.1 - (nI 97)) q6.2) zyX1_follow rfl w_528 (ci := 1) rfl (Nat.le_of_ble_eq_true rfl) (fun _ e9 => kX1_follow e9) wm_yX1_follow ws_yX1_follow (Nat.le_of_ble_eq_true rfl) rfl (Nat.le_of_ble_eq_true rfl) dX10_endsOfInput_50 rfl (fun q7 => ?_)
    refine z_istore_n (lv2 := [(2, .int q7.1), (0, .ref (b0 + x0)), (3, .int x3)]) 54 dX10_endsOfInput_53 rfl (Nat.le_of_ble_eq_true rfl) rfl ?_
    refine z_iinc (lv2 := [(3, .int (x3 + (nI 1))), (2, .int q7.1), (0, .ref (b0 + x0))]) (nI 1) 57 2 dX10_endsOfInput_54 rfl rfl zki_1 (Nat.le_of_ble_eq_true rfl) rfl ?_
    refine z_goto 23 dX10_endsOfInput_57 (by decide) ?_
    exact z_sub [2, 1, 0] rfl (hself23 q7.1 (x3 + (nI 1)) q7.2)
theorem BX10_endsOfInput_23 (b0 : Nat) (x0 : Nat) (n : Nat) (x2 : Int32) (x3 : Int32) (h : ZH) : Zr zi b0 YX10_endsOfInput 5 23 [(0, .ref (b0 + x0)), (2, .int x2), (3, .int x3)] [] h (zloop (lX10_endsOfInput_23 x0) n (x2, x3, h)) :=
  zloop_Zr (fun s => [(0, .ref (b0 + x0)), (2, .int s.1), (3, .int s.2.1)]) (fun _ => []) (fun s => s.2.2) (lX10_endsOfInput_23 x0) (fun self hs s => KX10_endsOfInput_23 b0 x0 self (fun y2 y3 hh => hs (y2, y3, hh)) s.1 s.2.1 s.2.2) n (x2, x3, h)
def fX10_endsOfInput (x0 : Nat) (x1 : Int32) (h : ZH) : Option (Int32 × ZH) :=
  if x0 < zn h ∧ zK h x0 = 10 then ((gR h 10 x0 8).bind fun v1 =>
  (gR h 10 x0 0).bind fun v2 =>
  (lR h 17 v2 x1).bind fun v3 =>
  (fX1_copyCoreOf v1 v3 h).bind fun h4 =>
  (gR h4 10 x0 8).bind fun v5 =>
  (fX1_core v5 h4).bind fun q6 =>
  zloop (lX10_endsOfInput_23 x0) zfu (q6.1, (nI 0), q6.2)) else none
theorem kX10_endsOfInput {x0 : Nat} {x1 : Int32} {h : ZH} {x : Int32 × ZH} (e : fX10_endsOfInput x0 x1 h = some x) : x0 < zn h ∧ zK h x0 = 10 := by
  unfold fX10_endsOfInput at e
  exact zguard e
theorem mX10_endsOfInput (b0 : Nat) (x0 : Nat) (x1 : Int32) (h : ZH) : ZM zi b0 YX10_endsOfInput 5 [.ref (b0 + x0), .int x1] h (fX10_endsOfInput x0 x1 h) := by
  unfold fX10_endsOfInput
  refine ZM.of (by decide) rfl (Nat.le_of_ble_eq_true rfl) (fun _ => trivial) ?_
  refine z_sub (lv2 := [(0, .ref (b0 + x0)), (1, .int x1)]) [0, 1] rfl ?_
  refine z_guard (fun _ => ?_)
  refine z_aload_n 1 0 dX10_endsOfInput_0 rfl rfl ?_
  refine z_getR 4 zC10 (Nat.le_of_ble_eq_true rfl) rfl w_243 dX10_endsOfInput_1 rfl (fun v1 _ => ?_)
  refine z_aload_n 5 0 dX10_endsOfInput_4 rfl rfl ?_
  refine z_getR 8 zC10 (Nat.le_of_ble_eq_true rfl) rfl w_235 dX10_endsOfInput_5 rfl (fun v2 _ => ?_)
  refine z_iload_n 9 1 dX10_endsOfInput_8 rfl rfl ?_
  refine z_aaload17 10 dX10_endsOfInput_9 rfl (fun v3 _ => ?_)
  refine z_callVv 13 (mX1_copyCoreOf b0 v1 v3 h) zyX1_copyCoreOf rfl w_440 (ci := 1) rfl (Nat.le_of_ble_eq_true rfl) (fun _ e9 => kX1_copyCoreOf e9) wm_yX1_copyCoreOf ws_yX1_copyCoreOf (Nat.le_of_ble_eq_true rfl) rfl (Nat.le_of_ble_eq_true rfl) dX10_endsOfInput_10 rfl (fun h4 => ?_)
  refine z_aload_n 14 0 dX10_endsOfInput_13 rfl rfl ?_
  refine z_getR 17 zC10 (Nat.le_of_ble_eq_true rfl) rfl w_243 dX10_endsOfInput_14 rfl (fun v5 _ => ?_)
  refine z_callVi 20 (mX1_core b0 v5 h4) zyX1_core rfl w_420 (ci := 1) rfl (Nat.le_of_ble_eq_true rfl) (fun _ e9 => kX1_core e9) wm_yX1_core ws_yX1_core (Nat.le_of_ble_eq_true rfl) rfl (Nat.le_of_ble_eq_true rfl) dX10_endsOfInput_17 rfl (fun q6 => ?_)
  refine z_istore_n (lv2 := [(2, .int q6.1), (0, .ref (b0 + x0)), (1, .int x1)]) 21 dX10_endsOfInput_20 rfl (Nat.le_of_ble_eq_true rfl) rfl ?_
  refine z_iconst (nI 0) 22 zki_0 dX10_endsOfInput_21 rfl ?_
  refine z_istore_n (lv2 := [(3, .int (nI 0)), (2, .int q6.1), (0, .ref (b0 + x0)), (1, .int x1)]) 23 dX10_endsOfInput_22 rfl (Nat.le_of_ble_eq_true rfl) rfl ?_
  exact z_sub [2, 1, 0] rfl (BX10_endsOfInput_23 b0 x0 zfu q6.1 (nI 0) q6.2)
-- X10_wordFault
def kX10_wordFault_2 (x0 : Nat) (self2 : Int32 × ZH → Option (Int32 × ZH)) (x1 : Int32) (h : ZH) : Option (Int32 × ZH) :=
  (gR h 10 x0 4).bind fun v1 =>
  (fX7_length v1 h).bind fun q2 =>
  if q2.1 ≤ x1 then (some ((-1 : Int32), q2.2)) else
  ((gR q2.2 10 x0 4).bind fun v4 =>
  (fX7_at v4 x1 q2.2).bind fun q5 =>
  (fX10_isLetter (q5.1 - (nI 97)) q5.2).bind fun q6 =>
  if q6.1 = 0 then (some (x1, q6.2)) else
  (self2 ((x1 + (nI 1)), q6.2)))
def lX10_wordFault_2 (x0 : Nat) : (Int32 × ZH → Option (Int32 × ZH)) → Int32 × ZH → Option (Int32 × ZH) := fun self s => kX10_wordFault_2 x0 self s.1 s.2
theorem KX10_wordFault_2 (b0 : Nat) (x0 : Nat) (self2 : Int32 × ZH → Option (Int32 × ZH)) (hself2 : ∀ (y1 : Int32) (hh : ZH), Zr zi b0 YX10_wordFault 2 2 [(0, .ref (b0 + x0)), (1, .int y1)] [] hh (self2 (y1, hh))) (x1 : Int32) (h : ZH) : Zr zi b0 YX10_wordFault 2 2 [(0, .ref (b0 + x0)), (1, .int x1)] [] h (kX10_wordFault_2 x0 self2 x1 h) := by
  unfold kX10_wordFault_2
  refine z_iload_n 3 1 dX10_wordFault_2 rfl rfl ?_
  refine z_aload_n 4 0 dX10_wordFault_3 rfl rfl ?_
  refine z_getR 7 zC10 (Nat.le_of_ble_eq_true rfl) rfl w_239 dX10_wordFault_4 rfl (fun v1 _ => ?_)
  refine z_callVi 10 (mX7_length b0 v1 h) zyX7_length rfl w_373 (ci := 7) rfl (Nat.le_of_ble_eq_true rfl) (fun _ e9 => kX7_length e9) wm_yX7_length ws_yX7_length (Nat.le_of_ble_eq_true rfl) rfl (Nat.le_of_ble_eq_true rfl) dX10_wordFault_7 rfl (fun q2 => ?_)
  refine z_icmp_ge 38 13 dX10_wordFault_10 (by decide) rfl (fun c3 => ?_) (fun c3 => ?_)
  · refine z_iconst (-1 : Int32) 39 zki_m1 dX10_wordFault_38 rfl ?_
    exact z_ireturn dX10_wordFault_39 rfl
  · refine z_aload_n 14 0 dX10_wordFault_13 rfl rfl ?_
    refine z_getR 17 zC10 (Nat.le_of_ble_eq_true rfl) rfl w_239 dX10_wordFault_14 rfl (fun v4 _ => ?_)
    refine z_iload_n 18 1 dX10_wordFault_17 rfl rfl ?_
    refine z_callVi 21 (mX7_at b0 v4 x1 q2.2) zyX7_at rfl w_392 (ci := 7) rfl (Nat.le_of_ble_eq_true rfl) (fun _ e9 => kX7_at e9) wm_yX7_at ws_yX7_at (Nat.le_of_ble_eq_true rfl) rfl (Nat.le_of_ble_eq_true rfl) dX10_wordFault_18 rfl (fun q5 => ?_)
    refine z_bipush (nI 97) 23 zkb_97 dX10_wordFault_21 rfl ?_
    refine z_isub 24 dX10_wordFault_23 rfl ?_
    refine z_callSi 27 (mX10_isLetter b0 (q5.1 - (nI 97)) q5.2) zyX10_isLetter rfl w_300 wt_yX10_isLetter (Nat.le_of_ble_eq_true rfl) rfl (Nat.le_of_ble_eq_true rfl) dX10_wordFault_24 rfl (fun q6 => ?_)
    refine z_if_ne 32 30 dX10_wordFault_27 (by decide) rfl (fun c7 => ?_) (fun c7 => ?_)
    · refine z_iinc (lv2 := [(1, .int (x1 + (nI 1))), (0, .ref (b0 + x0))]) (nI 1) 35 1 dX10_wordFault_32 rfl rfl zki_1 (Nat.le_of_ble_eq_true rfl) rfl ?_
      refine z_goto 2 dX10_wordFault_35 (by decide) ?_
      exact z_sub [1, 0] rfl (hself2 (x1 + (nI 1)) q6.2)
    · refine z_iload_n 31 1 dX10_wordFault_30 rfl rfl ?_
      exact z_ireturn dX10_wordFault_31 rfl
theorem BX10_wordFault_2 (b0 : Nat) (x0 : Nat) (n : Nat) (x1 : Int32) (h : ZH) : Zr zi b0 YX10_wordFault 2 2 [(0, .ref (b0 + x0)), (1, .int x1)] [] h (zloop (lX10_wordFault_2 x0) n (x1, h)) :=
  zloop_Zr (fun s => [(0, .ref (b0 + x0)), (1, .int s.1)]) (fun _ => []) (fun s => s.2) (lX10_wordFault_2 x0) (fun self hs s => KX10_wordFault_2 b0 x0 self (fun y1 hh => hs (y1, hh)) s.1 s.2) n (x1, h)
def fX10_wordFault (x0 : Nat) (h : ZH) : Option (Int32 × ZH) :=
  if x0 < zn h ∧ zK h x0 = 10 then (zloop (lX10_wordFault_2 x0) zfu ((nI 0), h)) else none
theorem kX10_wordFault {x0 : Nat} {h : ZH} {x : Int32 × ZH} (e : fX10_wordFault x0 h = some x) : x0 < zn h ∧ zK h x0 = 10 := by
  unfold fX10_wordFault at e
  exact zguard e
theorem mX10_wordFault (b0 : Nat) (x0 : Nat) (h : ZH) : ZM zi b0 YX10_wordFault 2 [.ref (b0 + x0)] h (fX10_wordFault x0 h) := by
  unfold fX10_wordFault
  refine ZM.of (by decide) rfl (Nat.le_of_ble_eq_true rfl) (fun _ => trivial) ?_
  refine z_sub (lv2 := [(0, .ref (b0 + x0))]) [0] rfl ?_
  refine z_guard (fun _ => ?_)
  refine z_iconst (nI 0) 1 zki_0 dX10_wordFault_0 rfl ?_
  refine z_istore_n (lv2 := [(1, .int (nI 0)), (0, .ref (b0 + x0))]) 2 dX10_wordFault_1 rfl (Nat.le_of_ble_eq_true rfl) rfl ?_
  exact z_sub [1, 0] rfl (BX10_wordFault_2 b0 x0 zfu (nI 0) h)
-- X10_allows
def bX10_allows_54 (t0 : Int32) (h : ZH) : Option (Int32 × ZH) :=
  some (t0, h)
theorem BX10_allows_54 (b0 : Nat) (t0 : Int32) (h : ZH) : Zr zi b0 YX10_allows 6 54 [] [.int t0] h (bX10_allows_54 t0 h) := by
  unfold bX10_allows_54
  exact z_ireturn dX10_allows_54 rfl
def bX10_allows_28 (x0 : Nat) (x2 : Int32) (t0 : Int32) (h : ZH) : Option (Int32 × ZH) :=
  (gR h 10 x0 4).bind fun v1 =>
  (fX7_clear v1 h).bind fun h2 =>
  if x2 < 0 then (if t0 = 0 then (bX10_allows_54 (nI 0) h2) else
  (bX10_allows_54 (nI 1) h2)) else
  (some (((-100 : Int32) - x2), h2))
theorem BX10_allows_28 (b0 : Nat) (x0 : Nat) (x2 : Int32) (t0 : Int32) (h : ZH) : Zr zi b0 YX10_allows 6 28 [(0, .ref (b0 + x0)), (2, .int x2)] [.int t0] h (bX10_allows_28 x0 x2 t0 h) := by
  unfold bX10_allows_28
  refine z_istore_n (lv2 := [(3, .int t0), (0, .ref (b0 + x0)), (2, .int x2)]) 29 dX10_allows_28 rfl (Nat.le_of_ble_eq_true rfl) rfl ?_
  refine z_aload_n 30 1 dX10_allows_29 rfl rfl ?_
  refine z_getR 33 zC10 (Nat.le_of_ble_eq_true rfl) rfl w_239 dX10_allows_30 rfl (fun v1 _ => ?_)
  refine z_callVv 36 (mX7_clear b0 v1 h) zyX7_clear rfl w_399 (ci := 7) rfl (Nat.le_of_ble_eq_true rfl) (fun _ e9 => kX7_clear e9) wm_yX7_clear ws_yX7_clear (Nat.le_of_ble_eq_true rfl) rfl (Nat.le_of_ble_eq_true rfl) dX10_allows_33 rfl (fun h2 => ?_)
  refine z_iload_n 37 2 dX10_allows_36 rfl rfl ?_
  refine z_if_lt 45 40 dX10_allows_37 (by decide) rfl (fun c3 => ?_) (fun c3 => ?_)
  · refine z_iload_n 46 0 dX10_allows_45 rfl rfl ?_
    refine z_if_eq 53 49 dX10_allows_46 (by decide) rfl (fun c4 => ?_) (fun c4 => ?_)
    · refine z_iconst (nI 0) 54 zki_0 dX10_allows_53 rfl ?_
      exact z_sub [] rfl (BX10_allows_54 b0 (nI 0) h2 )
    · refine z_iconst (nI 1) 50 zki_1 dX10_allows_49 rfl ?_
      refine z_goto 54 dX10_allows_50 (by decide) ?_
      exact z_sub [] rfl (BX10_allows_54 b0 (nI 1) h2 )
  · refine z_bipush (-100 : Int32) 42 zkb_m100 dX10_allows_40 rfl ?_
    refine z_iload_n 43 2 dX10_allows_42 rfl rfl ?_
    refine z_isub 44 dX10_allows_43 rfl ?_
    exact z_ireturn dX10_allows_44 rfl
def fX10_allows (x0 : Nat) (x1 : Int32) (h : ZH) : Option (Int32 × ZH) :=
  if x0 < zn h ∧ zK h x0 = 10 then ((fX10_isSlot x1 h).bind fun q1 =>
  if q1.1 = 0 then (some ((-2 : Int32), q1.2)) else
  ((fX10_wordFault x0 q1.2).bind fun q3 =>
  if q3.1 < 0 then ((fX10_endsOfInput x0 x1 q3.2).bind fun q5 =>
  bX10_allows_28 x0 q3.1 q5.1 q5.2) else
  (bX10_allows_28 x0 q3.1 (nI 0) q3.2))) else none
theorem kX10_allows {x0 : Nat} {x1 : Int32} {h : ZH} {x : Int32 × ZH} (e : fX10_allows x0 x1 h = some x) : x0 < zn h ∧ zK h x0 = 10 := by
  unfold fX10_allows at e
  exact zguard e
theorem mX10_allows (b0 : Nat) (x0 : Nat) (x1 : Int32) (h : ZH) : ZM zi b0 YX10_allows 6 [.ref (b0 + x0), .int x1] h (fX10_allows x0 x1 h) := by
  unfold fX10_allows
  refine ZM.of (by decide) rfl (Nat.le_of_ble_eq_true rfl) (fun _ => trivial) ?_
  refine z_sub (lv2 := [(0, .ref (b0 + x0)), (1, .int x1)]) [0, 1] rfl ?_
  refine z_guard (fun _ => ?_)
  refine z_iload_n 1 1 dX10_allows_0 rfl rfl ?_
  refine z_callSi 4 (mX10_isSlot b0 x1 h) zyX10_isSlot rfl w_294 wt_yX10_isSlot (Nat.le_of_ble_eq_true rfl) rfl (Nat.le_of_ble_eq_true rfl) dX10_allows_1 rfl (fun q1 => ?_)
  refine z_if_ne 10 7 dX10_allows_4 (by decide) rfl (fun c2 => ?_) (fun c2 => ?_)
  · refine z_aload_n 11 0 dX10_allows_10 rfl rfl ?_
    refine z_callVi 14 (mX10_wordFault b0 x0 q1.2) zyX10_wordFault rfl w_520 (ci := 10) rfl (Nat.le_of_ble_eq_true rfl) (fun _ e9 => kX10_wordFault e9) wm_yX10_wordFault ws_yX10_wordFault (Nat.le_of_ble_eq_true rfl) rfl (Nat.le_of_ble_eq_true rfl) dX10_allows_11 rfl (fun q3 => ?_)
    refine z_istore_n (lv2 := [(2, .int q3.1), (0, .ref (b0 + x0)), (1, .int x1)]) 15 dX10_allows_14 rfl (Nat.le_of_ble_eq_true rfl) rfl ?_
    refine z_iload_n 16 0 dX10_allows_15 rfl rfl ?_
    refine z_if_lt 23 19 dX10_allows_16 (by decide) rfl (fun c4 => ?_) (fun c4 => ?_)
    · refine z_aload_n 24 1 dX10_allows_23 rfl rfl ?_
      refine z_iload_n 25 2 dX10_allows_24 rfl rfl ?_
      refine z_callVi 28 (mX10_endsOfInput b0 x0 x1 q3.2) zyX10_endsOfInput rfl w_524 (ci := 10) rfl (Nat.le_of_ble_eq_true rfl) (fun _ e9 => kX10_endsOfInput e9) wm_yX10_endsOfInput ws_yX10_endsOfInput (Nat.le_of_ble_eq_true rfl) rfl (Nat.le_of_ble_eq_true rfl) dX10_allows_25 rfl (fun q5 => ?_)
      exact z_sub [1, 0] rfl (BX10_allows_28 b0 x0 q3.1 q5.1 q5.2 )
    · refine z_iconst (nI 0) 20 zki_0 dX10_allows_19 rfl ?_
      refine z_goto 28 dX10_allows_20 (by decide) ?_
      exact z_sub [1, 0] rfl (BX10_allows_28 b0 x0 q3.1 (nI 0) q3.2 )
  · refine z_bipush (-2 : Int32) 9 zkb_m2 dX10_allows_7 rfl ?_
    exact z_ireturn dX10_allows_9 rfl
-- X10_writeWord
def bX10_writeWord_45 (h : ZH) : Option (Int32 × ZH) :=
  some ((-1 : Int32), h)
theorem BX10_writeWord_45 (b0 : Nat) (h : ZH) : Zr zi b0 YX10_writeWord 7 45 [] [] h (bX10_writeWord_45 h) := by
  unfold bX10_writeWord_45
  refine z_iconst (-1 : Int32) 46 zki_m1 dX10_writeWord_45 rfl ?_
  exact z_ireturn dX10_writeWord_46 rfl
def bX10_writeWord_17 (h : ZH) : Option (Int32 × ZH) :=
  some ((-2 : Int32), h)
theorem BX10_writeWord_17 (b0 : Nat) (h : ZH) : Zr zi b0 YX10_writeWord 7 17 [] [] h (bX10_writeWord_17 h) := by
  unfold bX10_writeWord_17
  refine z_bipush (-2 : Int32) 19 zkb_m2 dX10_writeWord_17 rfl ?_
  exact z_ireturn dX10_writeWord_19 rfl
def fX10_writeWord (x0 : Nat) (x1 : Int32) (x2 : Int32) (x3 : Int64) (h : ZH) : Option (Int32 × ZH) :=
  if x0 < zn h ∧ zK h x0 = 10 then ((fX10_isSlot x1 h).bind fun q1 =>
  if q1.1 = 0 then (bX10_writeWord_17 q1.2) else
  ((fX10_isWithin x2 (nI 0) (nI 30) q1.2).bind fun q3 =>
  if q3.1 = 0 then (bX10_writeWord_17 q3.2) else
  ((fX10_countWords x0 x1 x2 q3.2).bind fun h5 =>
  if (lg_cmp x3 (lN 0)) < 0 then (bX10_writeWord_45 h5) else
  ((gR h5 10 x0 12).bind fun v7 =>
  (fX9_total v7 x2 h5).bind fun q8 =>
  if (lg_cmp x3 q8.1) < 0 then ((gR q8.2 10 x0 12).bind fun v10 =>
  (gR q8.2 10 x0 10).bind fun v11 =>
  (gR q8.2 10 x0 5).bind fun v12 =>
  (fX9_spell v10 v11 x2 x3 v12 q8.2).bind fun h13 =>
  some (x2, h13)) else
  (bX10_writeWord_45 q8.2))))) else none
theorem kX10_writeWord {x0 : Nat} {x1 : Int32} {x2 : Int32} {x3 : Int64} {h : ZH} {x : Int32 × ZH} (e : fX10_writeWord x0 x1 x2 x3 h = some x) : x0 < zn h ∧ zK h x0 = 10 := by
  unfold fX10_writeWord at e
  exact zguard e
theorem mX10_writeWord (b0 : Nat) (x0 : Nat) (x1 : Int32) (x2 : Int32) (x3 : Int64) (h : ZH) : ZM zi b0 YX10_writeWord 7 [.ref (b0 + x0), .int x1, .int x2, .long x3] h (fX10_writeWord x0 x1 x2 x3 h) := by
  unfold fX10_writeWord
  refine ZM.of (by decide) rfl (Nat.le_of_ble_eq_true rfl) (fun _ => trivial) ?_
  refine z_sub (lv2 := [(0, .ref (b0 + x0)), (1, .int x1), (2, .int x2), (3, .long x3)]) [0, 1, 2, 3] rfl ?_
  refine z_guard (fun _ => ?_)
  refine z_iload_n 1 1 dX10_writeWord_0 rfl rfl ?_
  refine z_callSi 4 (mX10_isSlot b0 x1 h) zyX10_isSlot rfl w_294 wt_yX10_isSlot (Nat.le_of_ble_eq_true rfl) rfl (Nat.le_of_ble_eq_true rfl) dX10_writeWord_1 rfl (fun q1 => ?_)
  refine z_if_eq 17 7 dX10_writeWord_4 (by decide) rfl (fun c2 => ?_) (fun c2 => ?_)
  · exact z_sub [] rfl (BX10_writeWord_17 b0 q1.2 )
  · refine z_iload_n 8 2 dX10_writeWord_7 rfl rfl ?_
    refine z_iconst (nI 0) 9 zki_0 dX10_writeWord_8 rfl ?_
    refine z_bipush (nI 30) 11 zkb_30 dX10_writeWord_9 rfl ?_
    refine z_callSi 14 (mX10_isWithin b0 x2 (nI 0) (nI 30) q1.2) zyX10_isWithin rfl w_366 wt_yX10_isWithin (Nat.le_of_ble_eq_true rfl) rfl (Nat.le_of_ble_eq_true rfl) dX10_writeWord_11 rfl (fun q3 => ?_)
    refine z_if_ne 20 17 dX10_writeWord_14 (by decide) rfl (fun c4 => ?_) (fun c4 => ?_)
    · refine z_aload_n 21 0 dX10_writeWord_20 rfl rfl ?_
      refine z_iload_n 22 1 dX10_writeWord_21 rfl rfl ?_
      refine z_iload_n 23 2 dX10_writeWord_22 rfl rfl ?_
      refine z_callVv 26 (mX10_countWords b0 x0 x1 x2 q3.2) zyX10_countWords rfl w_465 (ci := 10) rfl (Nat.le_of_ble_eq_true rfl) (fun _ e9 => kX10_countWords e9) wm_yX10_countWords ws_yX10_countWords (Nat.le_of_ble_eq_true rfl) rfl (Nat.le_of_ble_eq_true rfl) dX10_writeWord_23 rfl (fun h5 => ?_)
      refine z_lload_n 27 3 dX10_writeWord_26 rfl rfl ?_
      refine z_lconst (lN 0) 28 rfl dX10_writeWord_27 rfl ?_
      refine z_lcmp 29 dX10_writeWord_28 rfl ?_
      refine z_if_lt 45 32 dX10_writeWord_29 (by decide) rfl (fun c6 => ?_) (fun c6 => ?_)
      · exact z_sub [] rfl (BX10_writeWord_45 b0 h5 )
      · refine z_lload_n 33 3 dX10_writeWord_32 rfl rfl ?_
        refine z_aload_n 34 0 dX10_writeWord_33 rfl rfl ?_
        refine z_getR 37 zC10 (Nat.le_of_ble_eq_true rfl) rfl w_247 dX10_writeWord_34 rfl (fun v7 _ => ?_)
        refine z_iload_n 38 2 dX10_writeWord_37 rfl rfl ?_
        refine z_callVj 41 (mX9_total b0 v7 x2 h5) zyX9_total rfl w_507 (ci := 9) rfl (Nat.le_of_ble_eq_true rfl) (fun _ e9 => kX9_total e9) wm_yX9_total ws_yX9_total (Nat.le_of_ble_eq_true rfl) rfl (Nat.le_of_ble_eq_true rfl) dX10_writeWord_38 rfl (fun q8 => ?_)
        refine z_lcmp 42 dX10_writeWord_41 rfl ?_
        refine z_if_lt 47 45 dX10_writeWord_42 (by decide) rfl (fun c9 => ?_) (fun c9 => ?_)
        · refine z_aload_n 48 0 dX10_writeWord_47 rfl rfl ?_
          refine z_getR 51 zC10 (Nat.le_of_ble_eq_true rfl) rfl w_247 dX10_writeWord_48 rfl (fun v10 _ => ?_)
          refine z_aload_n 52 0 dX10_writeWord_51 rfl rfl ?_
          refine z_getR 55 zC10 (Nat.le_of_ble_eq_true rfl) rfl w_245 dX10_writeWord_52 rfl (fun v11 _ => ?_)
          refine z_iload_n 56 2 dX10_writeWord_55 rfl rfl ?_
          refine z_lload_n 57 3 dX10_writeWord_56 rfl rfl ?_
          refine z_aload_n 58 0 dX10_writeWord_57 rfl rfl ?_
          refine z_getR 61 zC10 (Nat.le_of_ble_eq_true rfl) rfl w_240 dX10_writeWord_58 rfl (fun v12 _ => ?_)
          refine z_callVv 64 (mX9_spell b0 v10 v11 x2 x3 v12 q8.2) zyX9_spell rfl w_533 (ci := 9) rfl (Nat.le_of_ble_eq_true rfl) (fun _ e9 => kX9_spell e9) wm_yX9_spell ws_yX9_spell (Nat.le_of_ble_eq_true rfl) rfl (Nat.le_of_ble_eq_true rfl) dX10_writeWord_61 rfl (fun h13 => ?_)
          refine z_iload_n 65 2 dX10_writeWord_64 rfl rfl ?_
          exact z_ireturn dX10_writeWord_65 rfl
        · exact z_sub [] rfl (BX10_writeWord_45 b0 q8.2 )
    · exact z_sub [] rfl (BX10_writeWord_17 b0 q3.2 )
-- X10_forbidden
def bX10_forbidden_17 (h : ZH) : Option (Int32 × ZH) :=
  some ((-2 : Int32), h)
theorem BX10_forbidden_17 (b0 : Nat) (h : ZH) : Zr zi b0 YX10_forbidden 23 17 [] [] h (bX10_forbidden_17 h) := by
  unfold bX10_forbidden_17
  refine z_bipush (-2 : Int32) 19 zkb_m2 dX10_forbidden_17 rfl ?_
  exact z_ireturn dX10_forbidden_19 rfl
def fX10_forbidden (x0 : Nat) (x1 : Int32) (x2 : Int32) (h : ZH) : Option (Int32 × ZH) :=
  if x0 < zn h ∧ zK h x0 = 10 then ((fX10_isSlot x1 h).bind fun q1 =>
  if q1.1 = 0 then (bX10_forbidden_17 q1.2) else
  ((fX10_isWithin x2 (nI 1) (nI 6) q1.2).bind fun q3 =>
  if q3.1 = 0 then (bX10_forbidden_17 q3.2) else
  ((fX10_loadSubsets x0 x1 q3.2).bind fun h5 =>
  (gR h5 10 x0 10).bind fun v6 =>
  (fX6_countForbidden v6 x2 h5).bind fun q7 =>
  some (q7.1, q7.2)))) else none
theorem kX10_forbidden {x0 : Nat} {x1 : Int32} {x2 : Int32} {h : ZH} {x : Int32 × ZH} (e : fX10_forbidden x0 x1 x2 h = some x) : x0 < zn h ∧ zK h x0 = 10 := by
  unfold fX10_forbidden at e
  exact zguard e
theorem mX10_forbidden (b0 : Nat) (x0 : Nat) (x1 : Int32) (x2 : Int32) (h : ZH) : ZM zi b0 YX10_forbidden 23 [.ref (b0 + x0), .int x1, .int x2] h (fX10_forbidden x0 x1 x2 h) := by
  unfold fX10_forbidden
  refine ZM.of (by decide) rfl (Nat.le_of_ble_eq_true rfl) (fun _ => trivial) ?_
  refine z_sub (lv2 := [(0, .ref (b0 + x0)), (1, .int x1), (2, .int x2)]) [0, 1, 2] rfl ?_
  refine z_guard (fun _ => ?_)
  refine z_iload_n 1 1 dX10_forbidden_0 rfl rfl ?_
  refine z_callSi 4 (mX10_isSlot b0 x1 h) zyX10_isSlot rfl w_294 wt_yX10_isSlot (Nat.le_of_ble_eq_true rfl) rfl (Nat.le_of_ble_eq_true rfl) dX10_forbidden_1 rfl (fun q1 => ?_)
  refine z_if_eq 17 7 dX10_forbidden_4 (by decide) rfl (fun c2 => ?_) (fun c2 => ?_)
  · exact z_sub [] rfl (BX10_forbidden_17 b0 q1.2 )
  · refine z_iload_n 8 2 dX10_forbidden_7 rfl rfl ?_
    refine z_iconst (nI 1) 9 zki_1 dX10_forbidden_8 rfl ?_
    refine z_bipush (nI 6) 11 zkb_6 dX10_forbidden_9 rfl ?_
    refine z_callSi 14 (mX10_isWithin b0 x2 (nI 1) (nI 6) q1.2) zyX10_isWithin rfl w_366 wt_yX10_isWithin (Nat.le_of_ble_eq_true rfl) rfl (Nat.le_of_ble_eq_true rfl) dX10_forbidden_11 rfl (fun q3 => ?_)
    refine z_if_ne 20 17 dX10_forbidden_14 (by decide) rfl (fun c4 => ?_) (fun c4 => ?_)
    · refine z_aload_n 21 0 dX10_forbidden_20 rfl rfl ?_
      refine z_iload_n 22 1 dX10_forbidden_21 rfl rfl ?_
      refine z_callVv 25 (mX10_loadSubsets b0 x0 x1 q3.2) zyX10_loadSubsets rfl w_469 (ci := 10) rfl (Nat.le_of_ble_eq_true rfl) (fun _ e9 => kX10_loadSubsets e9) wm_yX10_loadSubsets ws_yX10_loadSubsets (Nat.le_of_ble_eq_true rfl) rfl (Nat.le_of_ble_eq_true rfl) dX10_forbidden_22 rfl (fun h5 => ?_)
      refine z_aload_n 26 0 dX10_forbidden_25 rfl rfl ?_
      refine z_getR 29 zC10 (Nat.le_of_ble_eq_true rfl) rfl w_245 dX10_forbidden_26 rfl (fun v6 _ => ?_)
      refine z_iload_n 30 2 dX10_forbidden_29 rfl rfl ?_
      refine z_callVi 33 (mX6_countForbidden b0 v6 x2 h5) zyX6_countForbidden rfl w_547 (ci := 6) rfl (Nat.le_of_ble_eq_true rfl) (fun _ e9 => kX6_countForbidden e9) wm_yX6_countForbidden ws_yX6_countForbidden (Nat.le_of_ble_eq_true rfl) rfl (Nat.le_of_ble_eq_true rfl) dX10_forbidden_30 rfl (fun q7 => ?_)
      exact z_ireturn dX10_forbidden_33 rfl
    · exact z_sub [] rfl (BX10_forbidden_17 b0 q3.2 )
-- X10_writeForbidden
def bX10_writeForbidden_41 (h : ZH) : Option (Int32 × ZH) :=
  some ((-1 : Int32), h)
theorem BX10_writeForbidden_41 (b0 : Nat) (h : ZH) : Zr zi b0 YX10_writeForbidden 24 41 [] [] h (bX10_writeForbidden_41 h) := by
  unfold bX10_writeForbidden_41
  refine z_iconst (-1 : Int32) 42 zki_m1 dX10_writeForbidden_41 rfl ?_
  exact z_ireturn dX10_writeForbidden_42 rfl
def bX10_writeForbidden_17 (h : ZH) : Option (Int32 × ZH) :=
  some ((-2 : Int32), h)
theorem BX10_writeForbidden_17 (b0 : Nat) (h : ZH) : Zr zi b0 YX10_writeForbidden 24 17 [] [] h (bX10_writeForbidden_17 h) := by
  unfold bX10_writeForbidden_17
  refine z_bipush (-2 : Int32) 19 zkb_m2 dX10_writeForbidden_17 rfl ?_
  exact z_ireturn dX10_writeForbidden_19 rfl
def fX10_writeForbidden (x0 : Nat) (x1 : Int32) (x2 : Int32) (x3 : Int32) (h : ZH) : Option (Int32 × ZH) :=
  if x0 < zn h ∧ zK h x0 = 10 then ((fX10_isSlot x1 h).bind fun q1 =>
  if q1.1 = 0 then (bX10_writeForbidden_17 q1.2) else
  ((fX10_isWithin x2 (nI 1) (nI 6) q1.2).bind fun q3 =>
  if q3.1 = 0 then (bX10_writeForbidden_17 q3.2) else
  ((fX10_loadSubsets x0 x1 q3.2).bind fun h5 =>
  if x3 < 0 then (bX10_writeForbidden_41 h5) else
  ((gR h5 10 x0 10).bind fun v7 =>
  (fX6_countForbidden v7 x2 h5).bind fun q8 =>
  if x3 < q8.1 then ((gR q8.2 10 x0 10).bind fun v10 =>
  (gR q8.2 10 x0 5).bind fun v11 =>
  (fX6_spellForbidden v10 x2 x3 v11 q8.2).bind fun h12 =>
  some (x2, h12)) else
  (bX10_writeForbidden_41 q8.2))))) else none
theorem kX10_writeForbidden {x0 : Nat} {x1 : Int32} {x2 : Int32} {x3 : Int32} {h : ZH} {x : Int32 × ZH} (e : fX10_writeForbidden x0 x1 x2 x3 h = some x) : x0 < zn h ∧ zK h x0 = 10 := by
  unfold fX10_writeForbidden at e
  exact zguard e
theorem mX10_writeForbidden (b0 : Nat) (x0 : Nat) (x1 : Int32) (x2 : Int32) (x3 : Int32) (h : ZH) : ZM zi b0 YX10_writeForbidden 24 [.ref (b0 + x0), .int x1, .int x2, .int x3] h (fX10_writeForbidden x0 x1 x2 x3 h) := by
  unfold fX10_writeForbidden
  refine ZM.of (by decide) rfl (Nat.le_of_ble_eq_true rfl) (fun _ => trivial) ?_
  refine z_sub (lv2 := [(0, .ref (b0 + x0)), (1, .int x1), (2, .int x2), (3, .int x3)]) [0, 1, 2, 3] rfl ?_
  refine z_guard (fun _ => ?_)
  refine z_iload_n 1 1 dX10_writeForbidden_0 rfl rfl ?_
  refine z_callSi 4 (mX10_isSlot b0 x1 h) zyX10_isSlot rfl w_294 wt_yX10_isSlot (Nat.le_of_ble_eq_true rfl) rfl (Nat.le_of_ble_eq_true rfl) dX10_writeForbidden_1 rfl (fun q1 => ?_)
  refine z_if_eq 17 7 dX10_writeForbidden_4 (by decide) rfl (fun c2 => ?_) (fun c2 => ?_)
  · exact z_sub [] rfl (BX10_writeForbidden_17 b0 q1.2 )
  · refine z_iload_n 8 2 dX10_writeForbidden_7 rfl rfl ?_
    refine z_iconst (nI 1) 9 zki_1 dX10_writeForbidden_8 rfl ?_
    refine z_bipush (nI 6) 11 zkb_6 dX10_writeForbidden_9 rfl ?_
    refine z_callSi 14 (mX10_isWithin b0 x2 (nI 1) (nI 6) q1.2) zyX10_isWithin rfl w_366 wt_yX10_isWithin (Nat.le_of_ble_eq_true rfl) rfl (Nat.le_of_ble_eq_true rfl) dX10_writeForbidden_11 rfl (fun q3 => ?_)
    refine z_if_ne 20 17 dX10_writeForbidden_14 (by decide) rfl (fun c4 => ?_) (fun c4 => ?_)
    · refine z_aload_n 21 0 dX10_writeForbidden_20 rfl rfl ?_
      refine z_iload_n 22 1 dX10_writeForbidden_21 rfl rfl ?_
      refine z_callVv 25 (mX10_loadSubsets b0 x0 x1 q3.2) zyX10_loadSubsets rfl w_469 (ci := 10) rfl (Nat.le_of_ble_eq_true rfl) (fun _ e9 => kX10_loadSubsets e9) wm_yX10_loadSubsets ws_yX10_loadSubsets (Nat.le_of_ble_eq_true rfl) rfl (Nat.le_of_ble_eq_true rfl) dX10_writeForbidden_22 rfl (fun h5 => ?_)
      refine z_iload_n 26 3 dX10_writeForbidden_25 rfl rfl ?_
      refine z_if_lt 41 29 dX10_writeForbidden_26 (by decide) rfl (fun c6 => ?_) (fun c6 => ?_)
      · exact z_sub [] rfl (BX10_writeForbidden_41 b0 h5 )
      · refine z_iload_n 30 3 dX10_writeForbidden_29 rfl rfl ?_
        refine z_aload_n 31 0 dX10_writeForbidden_30 rfl rfl ?_
        refine z_getR 34 zC10 (Nat.le_of_ble_eq_true rfl) rfl w_245 dX10_writeForbidden_31 rfl (fun v7 _ => ?_)
        refine z_iload_n 35 2 dX10_writeForbidden_34 rfl rfl ?_
        refine z_callVi 38 (mX6_countForbidden b0 v7 x2 h5) zyX6_countForbidden rfl w_547 (ci := 6) rfl (Nat.le_of_ble_eq_true rfl) (fun _ e9 => kX6_countForbidden e9) wm_yX6_countForbidden ws_yX6_countForbidden (Nat.le_of_ble_eq_true rfl) rfl (Nat.le_of_ble_eq_true rfl) dX10_writeForbidden_35 rfl (fun q8 => ?_)
        refine z_icmp_lt 43 41 dX10_writeForbidden_38 (by decide) rfl (fun c9 => ?_) (fun c9 => ?_)
        · refine z_aload_n 44 0 dX10_writeForbidden_43 rfl rfl ?_
          refine z_getR 47 zC10 (Nat.le_of_ble_eq_true rfl) rfl w_245 dX10_writeForbidden_44 rfl (fun v10 _ => ?_)
          refine z_iload_n 48 2 dX10_writeForbidden_47 rfl rfl ?_
          refine z_iload_n 49 3 dX10_writeForbidden_48 rfl rfl ?_
          refine z_aload_n 50 0 dX10_writeForbidden_49 rfl rfl ?_
          refine z_getR 53 zC10 (Nat.le_of_ble_eq_true rfl) rfl w_240 dX10_writeForbidden_50 rfl (fun v11 _ => ?_)
          refine z_callVv 56 (mX6_spellForbidden b0 v10 x2 x3 v11 q8.2) zyX6_spellForbidden rfl w_569 (ci := 6) rfl (Nat.le_of_ble_eq_true rfl) (fun _ e9 => kX6_spellForbidden e9) wm_yX6_spellForbidden ws_yX6_spellForbidden (Nat.le_of_ble_eq_true rfl) rfl (Nat.le_of_ble_eq_true rfl) dX10_writeForbidden_53 rfl (fun h12 => ?_)
          refine z_iload_n 57 2 dX10_writeForbidden_56 rfl rfl ?_
          exact z_ireturn dX10_writeForbidden_57 rfl
        · exact z_sub [] rfl (BX10_writeForbidden_41 b0 q8.2 )
    · exact z_sub [] rfl (BX10_writeForbidden_17 b0 q3.2 )
-- X10_periodic
def bX10_periodic_58 (self30 : Int32 × Int32 × ZH → Option (Int32 × ZH)) (x0 : Nat) (x2 : Int32) (x3 : Int32) (x4 : Int32) (h : ZH) : Option (Int32 × ZH) :=
  self30 (x3, (x4 + (nI 1)), h)
theorem BX10_periodic_58 (b0 : Nat) (self30 : Int32 × Int32 × ZH → Option (Int32 × ZH)) (x0 : Nat) (x2 : Int32) (x3 : Int32) (x4 : Int32) (h : ZH) (hself30 : ∀ (y3 : Int32) (y4 : Int32) (hh : ZH), Zr zi b0 YX10_periodic 17 30 [(0, .ref (b0 + x0)), (2, .int x2), (3, .int y3), (4, .int y4)] [] hh (self30 (y3, y4, hh))) : Zr zi b0 YX10_periodic 17 58 [(0, .ref (b0 + x0)), (2, .int x2), (3, .int x3), (4, .int x4)] [] h (bX10_periodic_58 self30 x0 x2 x3 x4 h) := by
  unfold bX10_periodic_58
  refine z_iinc (lv2 := [(4, .int (x4 + (nI 1))), (0, .ref (b0 + x0)), (2, .int x2), (3, .int x3)]) (nI 1) 61 3 dX10_periodic_58 rfl rfl zki_1 (Nat.le_of_ble_eq_true rfl) rfl ?_
  refine z_goto 30 dX10_periodic_61 (by decide) ?_
  exact z_sub [1, 2, 3, 0] rfl (hself30 x3 (x4 + (nI 1)) h)
def kX10_periodic_30 (x0 : Nat) (x2 : Int32) (self30 : Int32 × Int32 × ZH → Option (Int32 × ZH)) (x3 : Int32) (x4 : Int32) (h : ZH) : Option (Int32 × ZH) :=
  if x2 < x4 then (some (x3, h)) else
  (if x4 = 0 then none else
  if (jrem x2 x4) = 0 then ((gR h 10 x0 10).bind fun v3 =>
  (fX6_countOrbits v3 x4 h).bind fun q4 =>
  zl (x3 + (x4 * q4.1)) fun v5 =>
  bX10_periodic_58 self30 x0 x2 v5 x4 q4.2) else
  (bX10_periodic_58 self30 x0 x2 x3 x4 h))
def lX10_periodic_30 (x0 : Nat) (x2 : Int32) : (Int32 × Int32 × ZH → Option (Int32 × ZH)) → Int32 × Int32 × ZH → Option (Int32 × ZH) := fun self s => kX10_periodic_30 x0 x2 self s.1 s.2.1 s.2.2
theorem KX10_periodic_30 (b0 : Nat) (x0 : Nat) (x2 : Int32) (self30 : Int32 × Int32 × ZH → Option (Int32 × ZH)) (hself30 : ∀ (y3 : Int32) (y4 : Int32) (hh : ZH), Zr zi b0 YX10_periodic 17 30 [(0, .ref (b0 + x0)), (2, .int x2), (3, .int y3), (4, .int y4)] [] hh (self30 (y3, y4, hh))) (x3 : Int32) (x4 : Int32) (h : ZH) : Zr zi b0 YX10_periodic 17 30 [(0, .ref (b0 + x0)), (2, .int x2), (3, .int x3), (4, .int x4)] [] h (kX10_periodic_30 x0 x2 self30 x3 x4 h) := by
  unfold kX10_periodic_30
  refine z_iload 32 3 dX10_periodic_30 rfl rfl ?_
  refine z_iload_n 33 1 dX10_periodic_32 rfl rfl ?_
  refine z_icmp_gt 64 36 dX10_periodic_33 (by decide) rfl (fun c1 => ?_) (fun c1 => ?_)
  · refine z_iload_n 65 2 dX10_periodic_64 rfl rfl ?_
    exact z_ireturn dX10_periodic_65 rfl
  · refine z_iload_n 37 1 dX10_periodic_36 rfl rfl ?_
    refine z_iload 39 3 dX10_periodic_37 rfl rfl ?_
    refine z_irem 40 dX10_periodic_39 rfl (fun _ => ?_)
    refine z_if_ne 58 43 dX10_periodic_40 (by decide) rfl (fun c2 => ?_) (fun c2 => ?_)
    · exact z_sub [0, 1, 2, 3] rfl (BX10_periodic_58 b0 self30 x0 x2 x3 x4 h hself30)
    · refine z_iload_n 44 2 dX10_periodic_43 rfl rfl ?_
      refine z_iload 46 3 dX10_periodic_44 rfl rfl ?_
      refine z_aload_n 47 0 dX10_periodic_46 rfl rfl ?_
      refine z_getR 50 zC10 (Nat.le_of_ble_eq_true rfl) rfl w_245 dX10_periodic_47 rfl (fun v3 _ => ?_)
      refine z_iload 52 3 dX10_periodic_50 rfl rfl ?_
      refine z_callVi 55 (mX6_countOrbits b0 v3 x4 h) zyX6_countOrbits rfl w_579 (ci := 6) rfl (Nat.le_of_ble_eq_true rfl) (fun _ e9 => kX6_countOrbits e9) wm_yX6_countOrbits ws_yX6_countOrbits (Nat.le_of_ble_eq_true rfl) rfl (Nat.le_of_ble_eq_true rfl) dX10_periodic_52 rfl (fun q4 => ?_)
      refine z_imul 56 dX10_periodic_55 rfl ?_
      refine z_iadd 57 dX10_periodic_56 rfl ?_
      refine z_letI (fun v5 _ => ?_)
      refine z_istore_n (lv2 := [(3, .int v5), (0, .ref (b0 + x0)), (2, .int x2), (4, .int x4)]) 58 dX10_periodic_57 rfl (Nat.le_of_ble_eq_true rfl) rfl ?_
      exact z_sub [1, 2, 0, 3] rfl (BX10_periodic_58 b0 self30 x0 x2 v5 x4 q4.2 hself30)
theorem BX10_periodic_30 (b0 : Nat) (x0 : Nat) (x2 : Int32) (n : Nat) (x3 : Int32) (x4 : Int32) (h : ZH) : Zr zi b0 YX10_periodic 17 30 [(0, .ref (b0 + x0)), (2, .int x2), (3, .int x3), (4, .int x4)] [] h (zloop (lX10_periodic_30 x0 x2) n (x3, x4, h)) :=
  zloop_Zr (fun s => [(0, .ref (b0 + x0)), (2, .int x2), (3, .int s.1), (4, .int s.2.1)]) (fun _ => []) (fun s => s.2.2) (lX10_periodic_30 x0 x2) (fun self hs s => KX10_periodic_30 b0 x0 x2 self (fun y3 y4 hh => hs (y3, y4, hh)) s.1 s.2.1 s.2.2) n (x3, x4, h)
def bX10_periodic_17 (h : ZH) : Option (Int32 × ZH) :=
  some ((-2 : Int32), h)
theorem BX10_periodic_17 (b0 : Nat) (h : ZH) : Zr zi b0 YX10_periodic 17 17 [] [] h (bX10_periodic_17 h) := by
  unfold bX10_periodic_17
  refine z_bipush (-2 : Int32) 19 zkb_m2 dX10_periodic_17 rfl ?_
  exact z_ireturn dX10_periodic_19 rfl
def fX10_periodic (x0 : Nat) (x1 : Int32) (x2 : Int32) (h : ZH) : Option (Int32 × ZH) :=
  if x0 < zn h ∧ zK h x0 = 10 then ((fX10_isSlot x1 h).bind fun q1 =>
  if q1.1 = 0 then (bX10_periodic_17 q1.2) else
  ((fX10_isWithin x2 (nI 1) (nI 7) q1.2).bind fun q3 =>
  if q3.1 = 0 then (bX10_periodic_17 q3.2) else
  ((fX10_loadSubsets x0 x1 q3.2).bind fun h5 =>
  zloop (lX10_periodic_30 x0 x2) zfu ((nI 0), (nI 1), h5)))) else none
theorem kX10_periodic {x0 : Nat} {x1 : Int32} {x2 : Int32} {h : ZH} {x : Int32 × ZH} (e : fX10_periodic x0 x1 x2 h = some x) : x0 < zn h ∧ zK h x0 = 10 := by
  unfold fX10_periodic at e
  exact zguard e
theorem mX10_periodic (b0 : Nat) (x0 : Nat) (x1 : Int32) (x2 : Int32) (h : ZH) : ZM zi b0 YX10_periodic 17 [.ref (b0 + x0), .int x1, .int x2] h (fX10_periodic x0 x1 x2 h) := by
  unfold fX10_periodic
  refine ZM.of (by decide) rfl (Nat.le_of_ble_eq_true rfl) (fun _ => trivial) ?_
  refine z_sub (lv2 := [(0, .ref (b0 + x0)), (1, .int x1), (2, .int x2)]) [0, 1, 2] rfl ?_
  refine z_guard (fun _ => ?_)
  refine z_iload_n 1 1 dX10_periodic_0 rfl rfl ?_
  refine z_callSi 4 (mX10_isSlot b0 x1 h) zyX10_isSlot rfl w_294 wt_yX10_isSlot (Nat.le_of_ble_eq_true rfl) rfl (Nat.le_of_ble_eq_true rfl) dX10_periodic_1 rfl (fun q1 => ?_)
  refine z_if_eq 17 7 dX10_periodic_4 (by decide) rfl (fun c2 => ?_) (fun c2 => ?_)
  · exact z_sub [] rfl (BX10_periodic_17 b0 q1.2 )
  · refine z_iload_n 8 2 dX10_periodic_7 rfl rfl ?_
    refine z_iconst (nI 1) 9 zki_1 dX10_periodic_8 rfl ?_
    refine z_bipush (nI 7) 11 zkb_7 dX10_periodic_9 rfl ?_
    refine z_callSi 14 (mX10_isWithin b0 x2 (nI 1) (nI 7) q1.2) zyX10_isWithin rfl w_366 wt_yX10_isWithin (Nat.le_of_ble_eq_true rfl) rfl (Nat.le_of_ble_eq_true rfl) dX10_periodic_11 rfl (fun q3 => ?_)
    refine z_if_ne 20 17 dX10_periodic_14 (by decide) rfl (fun c4 => ?_) (fun c4 => ?_)
    · refine z_aload_n 21 0 dX10_periodic_20 rfl rfl ?_
      refine z_iload_n 22 1 dX10_periodic_21 rfl rfl ?_
      refine z_callVv 25 (mX10_loadSubsets b0 x0 x1 q3.2) zyX10_loadSubsets rfl w_469 (ci := 10) rfl (Nat.le_of_ble_eq_true rfl) (fun _ e9 => kX10_loadSubsets e9) wm_yX10_loadSubsets ws_yX10_loadSubsets (Nat.le_of_ble_eq_true rfl) rfl (Nat.le_of_ble_eq_true rfl) dX10_periodic_22 rfl (fun h5 => ?_)
      refine z_iconst (nI 0) 26 zki_0 dX10_periodic_25 rfl ?_
      refine z_istore_n (lv2 := [(3, .int (nI 0)), (0, .ref (b0 + x0)), (1, .int x1), (2, .int x2)]) 27 dX10_periodic_26 rfl (Nat.le_of_ble_eq_true rfl) rfl ?_
      refine z_iconst (nI 1) 28 zki_1 dX10_periodic_27 rfl ?_
      refine z_istore (lv2 := [(4, .int (nI 1)), (3, .int (nI 0)), (0, .ref (b0 + x0)), (1, .int x1), (2, .int x2)]) 30 dX10_periodic_28 rfl (Nat.le_of_ble_eq_true rfl) rfl ?_
      exact z_sub [2, 4, 1, 0] rfl (BX10_periodic_30 b0 x0 x2 zfu (nI 0) (nI 1) h5)
    · exact z_sub [] rfl (BX10_periodic_17 b0 q3.2 )
-- X10_orbits
def bX10_orbits_17 (h : ZH) : Option (Int32 × ZH) :=
  some ((-2 : Int32), h)
theorem BX10_orbits_17 (b0 : Nat) (h : ZH) : Zr zi b0 YX10_orbits 17 17 [] [] h (bX10_orbits_17 h) := by
  unfold bX10_orbits_17
  refine z_bipush (-2 : Int32) 19 zkb_m2 dX10_orbits_17 rfl ?_
  exact z_ireturn dX10_orbits_19 rfl
def fX10_orbits (x0 : Nat) (x1 : Int32) (x2 : Int32) (h : ZH) : Option (Int32 × ZH) :=
  if x0 < zn h ∧ zK h x0 = 10 then ((fX10_isSlot x1 h).bind fun q1 =>
  if q1.1 = 0 then (bX10_orbits_17 q1.2) else
  ((fX10_isWithin x2 (nI 1) (nI 7) q1.2).bind fun q3 =>
  if q3.1 = 0 then (bX10_orbits_17 q3.2) else
  ((fX10_loadSubsets x0 x1 q3.2).bind fun h5 =>
  (gR h5 10 x0 10).bind fun v6 =>
  (fX6_countOrbits v6 x2 h5).bind fun q7 =>
  some (q7.1, q7.2)))) else none
theorem kX10_orbits {x0 : Nat} {x1 : Int32} {x2 : Int32} {h : ZH} {x : Int32 × ZH} (e : fX10_orbits x0 x1 x2 h = some x) : x0 < zn h ∧ zK h x0 = 10 := by
  unfold fX10_orbits at e
  exact zguard e
theorem mX10_orbits (b0 : Nat) (x0 : Nat) (x1 : Int32) (x2 : Int32) (h : ZH) : ZM zi b0 YX10_orbits 17 [.ref (b0 + x0), .int x1, .int x2] h (fX10_orbits x0 x1 x2 h) := by
  unfold fX10_orbits
  refine ZM.of (by decide) rfl (Nat.le_of_ble_eq_true rfl) (fun _ => trivial) ?_
  refine z_sub (lv2 := [(0, .ref (b0 + x0)), (1, .int x1), (2, .int x2)]) [0, 1, 2] rfl ?_
  refine z_guard (fun _ => ?_)
  refine z_iload_n 1 1 dX10_orbits_0 rfl rfl ?_
  refine z_callSi 4 (mX10_isSlot b0 x1 h) zyX10_isSlot rfl w_294 wt_yX10_isSlot (Nat.le_of_ble_eq_true rfl) rfl (Nat.le_of_ble_eq_true rfl) dX10_orbits_1 rfl (fun q1 => ?_)
  refine z_if_eq 17 7 dX10_orbits_4 (by decide) rfl (fun c2 => ?_) (fun c2 => ?_)
  · exact z_sub [] rfl (BX10_orbits_17 b0 q1.2 )
  · refine z_iload_n 8 2 dX10_orbits_7 rfl rfl ?_
    refine z_iconst (nI 1) 9 zki_1 dX10_orbits_8 rfl ?_
    refine z_bipush (nI 7) 11 zkb_7 dX10_orbits_9 rfl ?_
    refine z_callSi 14 (mX10_isWithin b0 x2 (nI 1) (nI 7) q1.2) zyX10_isWithin rfl w_366 wt_yX10_isWithin (Nat.le_of_ble_eq_true rfl) rfl (Nat.le_of_ble_eq_true rfl) dX10_orbits_11 rfl (fun q3 => ?_)
    refine z_if_ne 20 17 dX10_orbits_14 (by decide) rfl (fun c4 => ?_) (fun c4 => ?_)
    · refine z_aload_n 21 0 dX10_orbits_20 rfl rfl ?_
      refine z_iload_n 22 1 dX10_orbits_21 rfl rfl ?_
      refine z_callVv 25 (mX10_loadSubsets b0 x0 x1 q3.2) zyX10_loadSubsets rfl w_469 (ci := 10) rfl (Nat.le_of_ble_eq_true rfl) (fun _ e9 => kX10_loadSubsets e9) wm_yX10_loadSubsets ws_yX10_loadSubsets (Nat.le_of_ble_eq_true rfl) rfl (Nat.le_of_ble_eq_true rfl) dX10_orbits_22 rfl (fun h5 => ?_)
      refine z_aload_n 26 0 dX10_orbits_25 rfl rfl ?_
      refine z_getR 29 zC10 (Nat.le_of_ble_eq_true rfl) rfl w_245 dX10_orbits_26 rfl (fun v6 _ => ?_)
      refine z_iload_n 30 2 dX10_orbits_29 rfl rfl ?_
      refine z_callVi 33 (mX6_countOrbits b0 v6 x2 h5) zyX6_countOrbits rfl w_579 (ci := 6) rfl (Nat.le_of_ble_eq_true rfl) (fun _ e9 => kX6_countOrbits e9) wm_yX6_countOrbits ws_yX6_countOrbits (Nat.le_of_ble_eq_true rfl) rfl (Nat.le_of_ble_eq_true rfl) dX10_orbits_30 rfl (fun q7 => ?_)
      exact z_ireturn dX10_orbits_33 rfl
    · exact z_sub [] rfl (BX10_orbits_17 b0 q3.2 )
-- X10_characteristic
def fX10_characteristic (x0 : Nat) (x1 : Int32) (x2 : Int32) (h : ZH) : Option (Int64 × ZH) :=
  if x0 < zn h ∧ zK h x0 = 10 then ((fX10_isSlot x1 h).bind fun q1 =>
  if q1.1 = 0 then (some ((-9223372036854775808 : Int64), q1.2)) else
  ((gR q1.2 10 x0 8).bind fun v3 =>
  (gR q1.2 10 x0 0).bind fun v4 =>
  (lR q1.2 17 v4 x1).bind fun v5 =>
  (fX1_copyCoreOf v3 v5 q1.2).bind fun h6 =>
  (gR h6 10 x0 8).bind fun v7 =>
  (fX1_core v7 h6).bind fun q8 =>
  (fJ6_bitCount_0f7a4 q8.1 q8.2).bind fun q9 =>
  (fX10_isWithin x2 (nI 0) q9.1 q9.2).bind fun q10 =>
  if q10.1 = 0 then (some ((-9223372036854775808 : Int64), q10.2)) else
  ((gR q10.2 10 x0 16).bind fun v12 =>
  (gR q10.2 10 x0 8).bind fun v13 =>
  (fX5_compute v12 v13 q10.2).bind fun h14 =>
  (gR h14 10 x0 16).bind fun v15 =>
  (fX5_coefficient v15 ((x2 + (nI 8)) - q9.1) h14).bind fun q16 =>
  some (q16.1, q16.2)))) else none
theorem kX10_characteristic {x0 : Nat} {x1 : Int32} {x2 : Int32} {h : ZH} {x : Int64 × ZH} (e : fX10_characteristic x0 x1 x2 h = some x) : x0 < zn h ∧ zK h x0 = 10 := by
  unfold fX10_characteristic at e
  exact zguard e
theorem mX10_characteristic (b0 : Nat) (x0 : Nat) (x1 : Int32) (x2 : Int32) (h : ZH) : ZM zj b0 YX10_characteristic 5 [.ref (b0 + x0), .int x1, .int x2] h (fX10_characteristic x0 x1 x2 h) := by
  unfold fX10_characteristic
  refine ZM.of (by decide) rfl (Nat.le_of_ble_eq_true rfl) (fun _ => trivial) ?_
  refine z_sub (lv2 := [(0, .ref (b0 + x0)), (1, .int x1), (2, .int x2)]) [0, 1, 2] rfl ?_
  refine z_guard (fun _ => ?_)
  refine z_iload_n 1 1 dX10_characteristic_0 rfl rfl ?_
  refine z_callSi 4 (mX10_isSlot b0 x1 h) zyX10_isSlot rfl w_294 wt_yX10_isSlot (Nat.le_of_ble_eq_true rfl) rfl (Nat.le_of_ble_eq_true rfl) dX10_characteristic_1 rfl (fun q1 => ?_)
  refine z_if_ne 11 7 dX10_characteristic_4 (by decide) rfl (fun c2 => ?_) (fun c2 => ?_)
  · refine z_aload_n 12 0 dX10_characteristic_11 rfl rfl ?_
    refine z_getR 15 zC10 (Nat.le_of_ble_eq_true rfl) rfl w_243 dX10_characteristic_12 rfl (fun v3 _ => ?_)
    refine z_aload_n 16 0 dX10_characteristic_15 rfl rfl ?_
    refine z_getR 19 zC10 (Nat.le_of_ble_eq_true rfl) rfl w_235 dX10_characteristic_16 rfl (fun v4 _ => ?_)
    refine z_iload_n 20 1 dX10_characteristic_19 rfl rfl ?_
    refine z_aaload17 21 dX10_characteristic_20 rfl (fun v5 _ => ?_)
    refine z_callVv 24 (mX1_copyCoreOf b0 v3 v5 q1.2) zyX1_copyCoreOf rfl w_440 (ci := 1) rfl (Nat.le_of_ble_eq_true rfl) (fun _ e9 => kX1_copyCoreOf e9) wm_yX1_copyCoreOf ws_yX1_copyCoreOf (Nat.le_of_ble_eq_true rfl) rfl (Nat.le_of_ble_eq_true rfl) dX10_characteristic_21 rfl (fun h6 => ?_)
    refine z_aload_n 25 0 dX10_characteristic_24 rfl rfl ?_
    refine z_getR 28 zC10 (Nat.le_of_ble_eq_true rfl) rfl w_243 dX10_characteristic_25 rfl (fun v7 _ => ?_)
    refine z_callVi 31 (mX1_core b0 v7 h6) zyX1_core rfl w_420 (ci := 1) rfl (Nat.le_of_ble_eq_true rfl) (fun _ e9 => kX1_core e9) wm_yX1_core ws_yX1_core (Nat.le_of_ble_eq_true rfl) rfl (Nat.le_of_ble_eq_true rfl) dX10_characteristic_28 rfl (fun q8 => ?_)
    refine z_callSi 34 (mJ6_bitCount_0f7a4 b0 q8.1 q8.2) zyJ6_bitCount_0f7a4 rfl w_601 wt_yJ6_bitCount_0f7a4 (Nat.le_of_ble_eq_true rfl) rfl (Nat.le_of_ble_eq_true rfl) dX10_characteristic_31 rfl (fun q9 => ?_)
    refine z_istore_n (lv2 := [(3, .int q9.1), (0, .ref (b0 + x0)), (1, .int x1), (2, .int x2)]) 35 dX10_characteristic_34 rfl (Nat.le_of_ble_eq_true rfl) rfl ?_
    refine z_iload_n 36 3 dX10_characteristic_35 rfl rfl ?_
    refine z_iconst (nI 0) 37 zki_0 dX10_characteristic_36 rfl ?_
    refine z_iload_n 38 0 dX10_characteristic_37 rfl rfl ?_
    refine z_callSi 41 (mX10_isWithin b0 x2 (nI 0) q9.1 q9.2) zyX10_isWithin rfl w_366 wt_yX10_isWithin (Nat.le_of_ble_eq_true rfl) rfl (Nat.le_of_ble_eq_true rfl) dX10_characteristic_38 rfl (fun q10 => ?_)
    refine z_if_ne 48 44 dX10_characteristic_41 (by decide) rfl (fun c11 => ?_) (fun c11 => ?_)
    · refine z_aload_n 49 1 dX10_characteristic_48 rfl rfl ?_
      refine z_getR 52 zC10 (Nat.le_of_ble_eq_true rfl) rfl w_251 dX10_characteristic_49 rfl (fun v12 _ => ?_)
      refine z_aload_n 53 1 dX10_characteristic_52 rfl rfl ?_
      refine z_getR 56 zC10 (Nat.le_of_ble_eq_true rfl) rfl w_243 dX10_characteristic_53 rfl (fun v13 _ => ?_)
      refine z_callVv 59 (mX5_compute b0 v12 v13 q10.2) zyX5_compute rfl w_602 (ci := 5) rfl (Nat.le_of_ble_eq_true rfl) (fun _ e9 => kX5_compute e9) wm_yX5_compute ws_yX5_compute (Nat.le_of_ble_eq_true rfl) rfl (Nat.le_of_ble_eq_true rfl) dX10_characteristic_56 rfl (fun h14 => ?_)
      refine z_aload_n 60 1 dX10_characteristic_59 rfl rfl ?_
      refine z_getR 63 zC10 (Nat.le_of_ble_eq_true rfl) rfl w_251 dX10_characteristic_60 rfl (fun v15 _ => ?_)
      refine z_iload_n 64 3 dX10_characteristic_63 rfl rfl ?_
      refine z_bipush (nI 8) 66 zkb_8 dX10_characteristic_64 rfl ?_
      refine z_iadd 67 dX10_characteristic_66 rfl ?_
      refine z_iload_n 68 0 dX10_characteristic_67 rfl rfl ?_
      refine z_isub 69 dX10_characteristic_68 rfl ?_
      refine z_callVj 72 (mX5_coefficient b0 v15 ((x2 + (nI 8)) - q9.1) h14) zyX5_coefficient rfl w_623 (ci := 5) rfl (Nat.le_of_ble_eq_true rfl) (fun _ e9 => kX5_coefficient e9) wm_yX5_coefficient ws_yX5_coefficient (Nat.le_of_ble_eq_true rfl) rfl (Nat.le_of_ble_eq_true rfl) dX10_characteristic_69 rfl (fun q16 => ?_)
      exact z_lreturn dX10_characteristic_72 rfl
    · refine z_ldc2 47 w_600 dX10_characteristic_44 rfl ?_
      exact z_lreturn dX10_characteristic_47 rfl
  · refine z_ldc2 10 w_600 dX10_characteristic_7 rfl ?_
    exact z_lreturn dX10_characteristic_10 rfl
-- X10_buildCover
def bX10_buildCover_63 (t0 : Int32) (h : ZH) : Option (Int32 × ZH) :=
  some (t0, h)
theorem BX10_buildCover_63 (b0 : Nat) (t0 : Int32) (h : ZH) : Zr zi b0 YX10_buildCover 6 63 [] [.int t0] h (bX10_buildCover_63 t0 h) := by
  unfold bX10_buildCover_63
  exact z_ireturn dX10_buildCover_63 rfl
def fX10_buildCover (x0 : Nat) (x1 : Int32) (h : ZH) : Option (Int32 × ZH) :=
  if x0 < zn h ∧ zK h x0 = 10 then ((gR h 10 x0 8).bind fun v1 =>
  (gR h 10 x0 0).bind fun v2 =>
  (lR h 17 v2 x1).bind fun v3 =>
  (fX1_copyCoreOf v1 v3 h).bind fun h4 =>
  (gR h4 10 x0 8).bind fun v5 =>
  (fX1_isStronglyConnected v5 h4).bind fun q6 =>
  if q6.1 = 0 then (some ((-4 : Int32), q6.2)) else
  ((gR q6.2 10 x0 10).bind fun v8 =>
  (gR q6.2 10 x0 8).bind fun v9 =>
  (fX6_build v8 v9 q6.2).bind fun h10 =>
  (gR h10 10 x0 14).bind fun v11 =>
  (gR h10 10 x0 10).bind fun v12 =>
  (fX0_build v11 v12 h10).bind fun q13 =>
  if q13.1 = 0 then (bX10_buildCover_63 (-5 : Int32) q13.2) else
  ((gR q13.2 10 x0 14).bind fun v15 =>
  (fX0_size v15 q13.2).bind fun q16 =>
  bX10_buildCover_63 q16.1 q16.2))) else none
theorem kX10_buildCover {x0 : Nat} {x1 : Int32} {h : ZH} {x : Int32 × ZH} (e : fX10_buildCover x0 x1 h = some x) : x0 < zn h ∧ zK h x0 = 10 := by
  unfold fX10_buildCover at e
  exact zguard e
theorem mX10_buildCover (b0 : Nat) (x0 : Nat) (x1 : Int32) (h : ZH) : ZM zi b0 YX10_buildCover 6 [.ref (b0 + x0), .int x1] h (fX10_buildCover x0 x1 h) := by
  unfold fX10_buildCover
  refine ZM.of (by decide) rfl (Nat.le_of_ble_eq_true rfl) (fun _ => trivial) ?_
  refine z_sub (lv2 := [(0, .ref (b0 + x0)), (1, .int x1)]) [0, 1] rfl ?_
  refine z_guard (fun _ => ?_)
  refine z_aload_n 1 0 dX10_buildCover_0 rfl rfl ?_
  refine z_getR 4 zC10 (Nat.le_of_ble_eq_true rfl) rfl w_243 dX10_buildCover_1 rfl (fun v1 _ => ?_)
  refine z_aload_n 5 0 dX10_buildCover_4 rfl rfl ?_
  refine z_getR 8 zC10 (Nat.le_of_ble_eq_true rfl) rfl w_235 dX10_buildCover_5 rfl (fun v2 _ => ?_)
  refine z_iload_n 9 1 dX10_buildCover_8 rfl rfl ?_
  refine z_aaload17 10 dX10_buildCover_9 rfl (fun v3 _ => ?_)
  refine z_callVv 13 (mX1_copyCoreOf b0 v1 v3 h) zyX1_copyCoreOf rfl w_440 (ci := 1) rfl (Nat.le_of_ble_eq_true rfl) (fun _ e9 => kX1_copyCoreOf e9) wm_yX1_copyCoreOf ws_yX1_copyCoreOf (Nat.le_of_ble_eq_true rfl) rfl (Nat.le_of_ble_eq_true rfl) dX10_buildCover_10 rfl (fun h4 => ?_)
  refine z_aload_n 14 0 dX10_buildCover_13 rfl rfl ?_
  refine z_getR 17 zC10 (Nat.le_of_ble_eq_true rfl) rfl w_243 dX10_buildCover_14 rfl (fun v5 _ => ?_)
  refine z_callVi 20 (mX1_isStronglyConnected b0 v5 h4) zyX1_isStronglyConnected rfl w_445 (ci := 1) rfl (Nat.le_of_ble_eq_true rfl) (fun _ e9 => kX1_isStronglyConnected e9) wm_yX1_isStronglyConnected ws_yX1_isStronglyConnected (Nat.le_of_ble_eq_true rfl) rfl (Nat.le_of_ble_eq_true rfl) dX10_buildCover_17 rfl (fun q6 => ?_)
  refine z_if_ne 26 23 dX10_buildCover_20 (by decide) rfl (fun c7 => ?_) (fun c7 => ?_)
  · refine z_aload_n 27 0 dX10_buildCover_26 rfl rfl ?_
    refine z_getR 30 zC10 (Nat.le_of_ble_eq_true rfl) rfl w_245 dX10_buildCover_27 rfl (fun v8 _ => ?_)
    refine z_aload_n 31 0 dX10_buildCover_30 rfl rfl ?_
    refine z_getR 34 zC10 (Nat.le_of_ble_eq_true rfl) rfl w_243 dX10_buildCover_31 rfl (fun v9 _ => ?_)
    refine z_callVv 37 (mX6_build b0 v8 v9 q6.2) zyX6_build rfl w_473 (ci := 6) rfl (Nat.le_of_ble_eq_true rfl) (fun _ e9 => kX6_build e9) wm_yX6_build ws_yX6_build (Nat.le_of_ble_eq_true rfl) rfl (Nat.le_of_ble_eq_true rfl) dX10_buildCover_34 rfl (fun h10 => ?_)
    refine z_aload_n 38 0 dX10_buildCover_37 rfl rfl ?_
    refine z_getR 41 zC10 (Nat.le_of_ble_eq_true rfl) rfl w_249 dX10_buildCover_38 rfl (fun v11 _ => ?_)
    refine z_aload_n 42 0 dX10_buildCover_41 rfl rfl ?_
    refine z_getR 45 zC10 (Nat.le_of_ble_eq_true rfl) rfl w_245 dX10_buildCover_42 rfl (fun v12 _ => ?_)
    refine z_callVi 48 (mX0_build b0 v11 v12 h10) zyX0_build rfl w_635 (ci := 0) rfl (Nat.le_of_ble_eq_true rfl) (fun _ e9 => kX0_build e9) wm_yX0_build ws_yX0_build (Nat.le_of_ble_eq_true rfl) rfl (Nat.le_of_ble_eq_true rfl) dX10_buildCover_45 rfl (fun q13 => ?_)
    refine z_if_eq 61 51 dX10_buildCover_48 (by decide) rfl (fun c14 => ?_) (fun c14 => ?_)
    · refine z_bipush (-5 : Int32) 63 zkb_m5 dX10_buildCover_61 rfl ?_
      exact z_sub [] rfl (BX10_buildCover_63 b0 (-5 : Int32) q13.2 )
    · refine z_aload_n 52 0 dX10_buildCover_51 rfl rfl ?_
      refine z_getR 55 zC10 (Nat.le_of_ble_eq_true rfl) rfl w_249 dX10_buildCover_52 rfl (fun v15 _ => ?_)
      refine z_callVi 58 (mX0_size b0 v15 q13.2) zyX0_size rfl w_708 (ci := 0) rfl (Nat.le_of_ble_eq_true rfl) (fun _ e9 => kX0_size e9) wm_yX0_size ws_yX0_size (Nat.le_of_ble_eq_true rfl) rfl (Nat.le_of_ble_eq_true rfl) dX10_buildCover_55 rfl (fun q16 => ?_)
      refine z_goto 63 dX10_buildCover_58 (by decide) ?_
      exact z_sub [] rfl (BX10_buildCover_63 b0 q16.1 q16.2 )
  · refine z_bipush (-4 : Int32) 25 zkb_m4 dX10_buildCover_23 rfl ?_
    exact z_ireturn dX10_buildCover_25 rfl
-- X10_cover
def bX10_cover_46 (x3 : Int32) (h : ZH) : Option (Int32 × ZH) :=
  some (x3, h)
theorem BX10_cover_46 (b0 : Nat) (x3 : Int32) (h : ZH) : Zr zi b0 YX10_cover 7 46 [(3, .int x3)] [] h (bX10_cover_46 x3 h) := by
  unfold bX10_cover_46
  refine z_iload_n 47 0 dX10_cover_46 rfl rfl ?_
  exact z_ireturn dX10_cover_47 rfl
def bX10_cover_14 (h : ZH) : Option (Int32 × ZH) :=
  some ((-2 : Int32), h)
theorem BX10_cover_14 (b0 : Nat) (h : ZH) : Zr zi b0 YX10_cover 7 14 [] [] h (bX10_cover_14 h) := by
  unfold bX10_cover_14
  refine z_bipush (-2 : Int32) 16 zkb_m2 dX10_cover_14 rfl ?_
  exact z_ireturn dX10_cover_16 rfl
def fX10_cover (x0 : Nat) (x1 : Int32) (x2 : Int32) (h : ZH) : Option (Int32 × ZH) :=
  if x0 < zn h ∧ zK h x0 = 10 then ((fX10_isSlot x1 h).bind fun q1 =>
  if q1.1 = 0 then (bX10_cover_14 q1.2) else
  ((fX10_isSlot x2 q1.2).bind fun q3 =>
  if q3.1 = 0 then (bX10_cover_14 q3.2) else
  ((fX10_buildCover x0 x1 q3.2).bind fun q5 =>
  if q5.1 ≤ 0 then (bX10_cover_46 q5.1 q5.2) else
  ((gR q5.2 10 x0 7).bind fun v7 =>
  (gR q5.2 10 x0 14).bind fun v8 =>
  (fX0_shape v8 q5.2).bind fun q9 =>
  (fX1_copyOf v7 q9.1 q9.2).bind fun h10 =>
  (fX10_storeFresh x0 x2 h10).bind fun h11 =>
  bX10_cover_46 q5.1 h11)))) else none
theorem kX10_cover {x0 : Nat} {x1 : Int32} {x2 : Int32} {h : ZH} {x : Int32 × ZH} (e : fX10_cover x0 x1 x2 h = some x) : x0 < zn h ∧ zK h x0 = 10 := by
  unfold fX10_cover at e
  exact zguard e
theorem mX10_cover (b0 : Nat) (x0 : Nat) (x1 : Int32) (x2 : Int32) (h : ZH) : ZM zi b0 YX10_cover 7 [.ref (b0 + x0), .int x1, .int x2] h (fX10_cover x0 x1 x2 h) := by
  unfold fX10_cover
  refine ZM.of (by decide) rfl (Nat.le_of_ble_eq_true rfl) (fun _ => trivial) ?_
  refine z_sub (lv2 := [(0, .ref (b0 + x0)), (1, .int x1), (2, .int x2)]) [0, 1, 2] rfl ?_
  refine z_guard (fun _ => ?_)
  refine z_iload_n 1 1 dX10_cover_0 rfl rfl ?_
  refine z_callSi 4 (mX10_isSlot b0 x1 h) zyX10_isSlot rfl w_294 wt_yX10_isSlot (Nat.le_of_ble_eq_true rfl) rfl (Nat.le_of_ble_eq_true rfl) dX10_cover_1 rfl (fun q1 => ?_)
  refine z_if_eq 14 7 dX10_cover_4 (by decide) rfl (fun c2 => ?_) (fun c2 => ?_)
  · exact z_sub [] rfl (BX10_cover_14 b0 q1.2 )
  · refine z_iload_n 8 2 dX10_cover_7 rfl rfl ?_
    refine z_callSi 11 (mX10_isSlot b0 x2 q1.2) zyX10_isSlot rfl w_294 wt_yX10_isSlot (Nat.le_of_ble_eq_true rfl) rfl (Nat.le_of_ble_eq_true rfl) dX10_cover_8 rfl (fun q3 => ?_)
    refine z_if_ne 17 14 dX10_cover_11 (by decide) rfl (fun c4 => ?_) (fun c4 => ?_)
    · refine z_aload_n 18 0 dX10_cover_17 rfl rfl ?_
      refine z_iload_n 19 1 dX10_cover_18 rfl rfl ?_
      refine z_callVi 22 (mX10_buildCover b0 x0 x1 q3.2) zyX10_buildCover rfl w_631 (ci := 10) rfl (Nat.le_of_ble_eq_true rfl) (fun _ e9 => kX10_buildCover e9) wm_yX10_buildCover ws_yX10_buildCover (Nat.le_of_ble_eq_true rfl) rfl (Nat.le_of_ble_eq_true rfl) dX10_cover_19 rfl (fun q5 => ?_)
      refine z_istore_n (lv2 := [(3, .int q5.1), (0, .ref (b0 + x0)), (1, .int x1), (2, .int x2)]) 23 dX10_cover_22 rfl (Nat.le_of_ble_eq_true rfl) rfl ?_
      refine z_iload_n 24 0 dX10_cover_23 rfl rfl ?_
      refine z_if_le 46 27 dX10_cover_24 (by decide) rfl (fun c6 => ?_) (fun c6 => ?_)
      · exact z_sub [0] rfl (BX10_cover_46 b0 q5.1 q5.2 )
      · refine z_aload_n 28 1 dX10_cover_27 rfl rfl ?_
        refine z_getR 31 zC10 (Nat.le_of_ble_eq_true rfl) rfl w_242 dX10_cover_28 rfl (fun v7 _ => ?_)
        refine z_aload_n 32 1 dX10_cover_31 rfl rfl ?_
        refine z_getR 35 zC10 (Nat.le_of_ble_eq_true rfl) rfl w_249 dX10_cover_32 rfl (fun v8 _ => ?_)
        refine z_callVr 38 (mX0_shape b0 v8 q5.2) zyX0_shape rfl w_712 (ci := 0) rfl (Nat.le_of_ble_eq_true rfl) (fun _ e9 => kX0_shape e9) wm_yX0_shape ws_yX0_shape (Nat.le_of_ble_eq_true rfl) rfl (Nat.le_of_ble_eq_true rfl) dX10_cover_35 rfl (fun q9 => ?_)
        refine z_callVv 41 (mX1_copyOf b0 v7 q9.1 q9.2) zyX1_copyOf rfl w_407 (ci := 1) rfl (Nat.le_of_ble_eq_true rfl) (fun _ e9 => kX1_copyOf e9) wm_yX1_copyOf ws_yX1_copyOf (Nat.le_of_ble_eq_true rfl) rfl (Nat.le_of_ble_eq_true rfl) dX10_cover_38 rfl (fun h10 => ?_)
        refine z_aload_n 42 1 dX10_cover_41 rfl rfl ?_
        refine z_iload_n 43 3 dX10_cover_42 rfl rfl ?_
        refine z_callVv 46 (mX10_storeFresh b0 x0 x2 h10) zyX10_storeFresh rfl w_403 (ci := 10) rfl (Nat.le_of_ble_eq_true rfl) (fun _ e9 => kX10_storeFresh e9) wm_yX10_storeFresh ws_yX10_storeFresh (Nat.le_of_ble_eq_true rfl) rfl (Nat.le_of_ble_eq_true rfl) dX10_cover_43 rfl (fun h11 => ?_)
        exact z_sub [0] rfl (BX10_cover_46 b0 q5.1 h11 )
    · exact z_sub [] rfl (BX10_cover_14 b0 q3.2 )
-- X10_writeReset
def fX10_writeReset (x0 : Nat) (x1 : Int32) (h : ZH) : Option (Int32 × ZH) :=
  if x0 < zn h ∧ zK h x0 = 10 then ((fX10_isSlot x1 h).bind fun q1 =>
  if q1.1 = 0 then (some ((-2 : Int32), q1.2)) else
  ((fX10_buildCover x0 x1 q1.2).bind fun q3 =>
  if 0 ≤ q3.1 then ((gR q3.2 10 x0 14).bind fun v5 =>
  (gR q3.2 10 x0 5).bind fun v6 =>
  (fX0_spellReset v5 v6 q3.2).bind fun h7 =>
  (gR h7 10 x0 5).bind fun v8 =>
  (fX7_length v8 h7).bind fun q9 =>
  some (q9.1, q9.2)) else
  (some (q3.1, q3.2)))) else none
theorem kX10_writeReset {x0 : Nat} {x1 : Int32} {h : ZH} {x : Int32 × ZH} (e : fX10_writeReset x0 x1 h = some x) : x0 < zn h ∧ zK h x0 = 10 := by
  unfold fX10_writeReset at e
  exact zguard e
theorem mX10_writeReset (b0 : Nat) (x0 : Nat) (x1 : Int32) (h : ZH) : ZM zi b0 YX10_writeReset 7 [.ref (b0 + x0), .int x1] h (fX10_writeReset x0 x1 h) := by
  unfold fX10_writeReset
  refine ZM.of (by decide) rfl (Nat.le_of_ble_eq_true rfl) (fun _ => trivial) ?_
  refine z_sub (lv2 := [(0, .ref (b0 + x0)), (1, .int x1)]) [0, 1] rfl ?_
  refine z_guard (fun _ => ?_)
  refine z_iload_n 1 1 dX10_writeReset_0 rfl rfl ?_
  refine z_callSi 4 (mX10_isSlot b0 x1 h) zyX10_isSlot rfl w_294 wt_yX10_isSlot (Nat.le_of_ble_eq_true rfl) rfl (Nat.le_of_ble_eq_true rfl) dX10_writeReset_1 rfl (fun q1 => ?_)
  refine z_if_ne 10 7 dX10_writeReset_4 (by decide) rfl (fun c2 => ?_) (fun c2 => ?_)
  · refine z_aload_n 11 0 dX10_writeReset_10 rfl rfl ?_
    refine z_iload_n 12 1 dX10_writeReset_11 rfl rfl ?_
    refine z_callVi 15 (mX10_buildCover b0 x0 x1 q1.2) zyX10_buildCover rfl w_631 (ci := 10) rfl (Nat.le_of_ble_eq_true rfl) (fun _ e9 => kX10_buildCover e9) wm_yX10_buildCover ws_yX10_buildCover (Nat.le_of_ble_eq_true rfl) rfl (Nat.le_of_ble_eq_true rfl) dX10_writeReset_12 rfl (fun q3 => ?_)
    refine z_istore_n (lv2 := [(2, .int q3.1), (0, .ref (b0 + x0)), (1, .int x1)]) 16 dX10_writeReset_15 rfl (Nat.le_of_ble_eq_true rfl) rfl ?_
    refine z_iload_n 17 0 dX10_writeReset_16 rfl rfl ?_
    refine z_if_ge 22 20 dX10_writeReset_17 (by decide) rfl (fun c4 => ?_) (fun c4 => ?_)
    · refine z_aload_n 23 1 dX10_writeReset_22 rfl rfl ?_
      refine z_getR 26 zC10 (Nat.le_of_ble_eq_true rfl) rfl w_249 dX10_writeReset_23 rfl (fun v5 _ => ?_)
      refine z_aload_n 27 1 dX10_writeReset_26 rfl rfl ?_
      refine z_getR 30 zC10 (Nat.le_of_ble_eq_true rfl) rfl w_240 dX10_writeReset_27 rfl (fun v6 _ => ?_)
      refine z_callVv 33 (mX0_spellReset b0 v5 v6 q3.2) zyX0_spellReset rfl w_720 (ci := 0) rfl (Nat.le_of_ble_eq_true rfl) (fun _ e9 => kX0_spellReset e9) wm_yX0_spellReset ws_yX0_spellReset (Nat.le_of_ble_eq_true rfl) rfl (Nat.le_of_ble_eq_true rfl) dX10_writeReset_30 rfl (fun h7 => ?_)
      refine z_aload_n 34 1 dX10_writeReset_33 rfl rfl ?_
      refine z_getR 37 zC10 (Nat.le_of_ble_eq_true rfl) rfl w_240 dX10_writeReset_34 rfl (fun v8 _ => ?_)
      refine z_callVi 40 (mX7_length b0 v8 h7) zyX7_length rfl w_373 (ci := 7) rfl (Nat.le_of_ble_eq_true rfl) (fun _ e9 => kX7_length e9) wm_yX7_length ws_yX7_length (Nat.le_of_ble_eq_true rfl) rfl (Nat.le_of_ble_eq_true rfl) dX10_writeReset_37 rfl (fun q9 => ?_)
      exact z_ireturn dX10_writeReset_40 rfl
    · refine z_iload_n 21 0 dX10_writeReset_20 rfl rfl ?_
      exact z_ireturn dX10_writeReset_21 rfl
  · refine z_bipush (-2 : Int32) 9 zkb_m2 dX10_writeReset_7 rfl ?_
    exact z_ireturn dX10_writeReset_9 rfl
-- X10_memory
def bX10_memory_31 (t0 : Int32) (h : ZH) : Option (Int32 × ZH) :=
  some (t0, h)
theorem BX10_memory_31 (b0 : Nat) (t0 : Int32) (h : ZH) : Zr zi b0 YX10_memory 7 31 [] [.int t0] h (bX10_memory_31 t0 h) := by
  unfold bX10_memory_31
  exact z_ireturn dX10_memory_31 rfl
def fX10_memory (x0 : Nat) (x1 : Int32) (h : ZH) : Option (Int32 × ZH) :=
  if x0 < zn h ∧ zK h x0 = 10 then ((fX10_isSlot x1 h).bind fun q1 =>
  if q1.1 = 0 then (some ((-2 : Int32), q1.2)) else
  ((fX10_buildCover x0 x1 q1.2).bind fun q3 =>
  if 0 ≤ q3.1 then ((gR q3.2 10 x0 14).bind fun v5 =>
  (fX0_stepsToSynchronize v5 q3.2).bind fun q6 =>
  bX10_memory_31 q6.1 q6.2) else
  (bX10_memory_31 q3.1 q3.2))) else none
theorem kX10_memory {x0 : Nat} {x1 : Int32} {h : ZH} {x : Int32 × ZH} (e : fX10_memory x0 x1 h = some x) : x0 < zn h ∧ zK h x0 = 10 := by
  unfold fX10_memory at e
  exact zguard e
theorem mX10_memory (b0 : Nat) (x0 : Nat) (x1 : Int32) (h : ZH) : ZM zi b0 YX10_memory 7 [.ref (b0 + x0), .int x1] h (fX10_memory x0 x1 h) := by
  unfold fX10_memory
  refine ZM.of (by decide) rfl (Nat.le_of_ble_eq_true rfl) (fun _ => trivial) ?_
  refine z_sub (lv2 := [(0, .ref (b0 + x0)), (1, .int x1)]) [0, 1] rfl ?_
  refine z_guard (fun _ => ?_)
  refine z_iload_n 1 1 dX10_memory_0 rfl rfl ?_
  refine z_callSi 4 (mX10_isSlot b0 x1 h) zyX10_isSlot rfl w_294 wt_yX10_isSlot (Nat.le_of_ble_eq_true rfl) rfl (Nat.le_of_ble_eq_true rfl) dX10_memory_1 rfl (fun q1 => ?_)
  refine z_if_ne 10 7 dX10_memory_4 (by decide) rfl (fun c2 => ?_) (fun c2 => ?_)
  · refine z_aload_n 11 0 dX10_memory_10 rfl rfl ?_
    refine z_iload_n 12 1 dX10_memory_11 rfl rfl ?_
    refine z_callVi 15 (mX10_buildCover b0 x0 x1 q1.2) zyX10_buildCover rfl w_631 (ci := 10) rfl (Nat.le_of_ble_eq_true rfl) (fun _ e9 => kX10_buildCover e9) wm_yX10_buildCover ws_yX10_buildCover (Nat.le_of_ble_eq_true rfl) rfl (Nat.le_of_ble_eq_true rfl) dX10_memory_12 rfl (fun q3 => ?_)
    refine z_istore_n (lv2 := [(2, .int q3.1), (0, .ref (b0 + x0)), (1, .int x1)]) 16 dX10_memory_15 rfl (Nat.le_of_ble_eq_true rfl) rfl ?_
    refine z_iload_n 17 0 dX10_memory_16 rfl rfl ?_
    refine z_if_ge 24 20 dX10_memory_17 (by decide) rfl (fun c4 => ?_) (fun c4 => ?_)
    · refine z_aload_n 25 1 dX10_memory_24 rfl rfl ?_
      refine z_getR 28 zC10 (Nat.le_of_ble_eq_true rfl) rfl w_249 dX10_memory_25 rfl (fun v5 _ => ?_)
      refine z_callVi 31 (mX0_stepsToSynchronize b0 v5 q3.2) zyX0_stepsToSynchronize rfl w_736 (ci := 0) rfl (Nat.le_of_ble_eq_true rfl) (fun _ e9 => kX0_stepsToSynchronize e9) wm_yX0_stepsToSynchronize ws_yX0_stepsToSynchronize (Nat.le_of_ble_eq_true rfl) rfl (Nat.le_of_ble_eq_true rfl) dX10_memory_28 rfl (fun q6 => ?_)
      exact z_sub [] rfl (BX10_memory_31 b0 q6.1 q6.2 )
    · refine z_iload_n 21 0 dX10_memory_20 rfl rfl ?_
      refine z_goto 31 dX10_memory_21 (by decide) ?_
      exact z_sub [] rfl (BX10_memory_31 b0 q3.1 q3.2 )
  · refine z_bipush (-2 : Int32) 9 zkb_m2 dX10_memory_7 rfl ?_
    exact z_ireturn dX10_memory_9 rfl
