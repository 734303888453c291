-- X10_removeEdge
def fX10_removeEdge (x0 : Nat) (x1 : Int32) (x2 : Int32) (x3 : Int32) (x4 : Int32) (h : ZH) : Option (Int32 × ZH) :=
  if x0 < zn h ∧ zK h x0 = 10 then ((fX10_isEdgeOfSlot x1 x2 x3 x4 h).bind fun q1 =>
  if q1.1 = 0 then (some ((-2 : Int32), q1.2)) else
  ((gR q1.2 10 x0 0).bind fun v3 =>
  (lR q1.2 17 v3 x1).bind fun v4 =>
  (fX1_has v4 x2 x3 x4 q1.2).bind fun q5 =>
  if q5.1 = 0 then (some ((-1 : Int32), q5.2)) else
  ((gR q5.2 10 x0 3).bind fun v7 =>
  (gR q5.2 10 x0 0).bind fun v8 =>
  (lR q5.2 17 v8 x1).bind fun v9 =>
  (fX2_push v7 x1 v9 q5.2).bind fun h10 =>
  (gR h10 10 x0 0).bind fun v11 =>
  (lR h10 17 v11 x1).bind fun v12 =>
  (fX1_drop v12 x2 x3 x4 h10).bind fun h13 =>
  (gR h13 10 x0 0).bind fun v14 =>
  (lR h13 17 v14 x1).bind fun v15 =>
  (fX1_countEdges v15 h13).bind fun q16 =>
  some (q16.1, q16.2)))) else none
theorem kX10_removeEdge {x0 : Nat} {x1 : Int32} {x2 : Int32} {x3 : Int32} {x4 : Int32} {h : ZH} {x : Int32 × ZH} (e : fX10_removeEdge x0 x1 x2 x3 x4 h = some x) : x0 < zn h ∧ zK h x0 = 10 := by
  unfold fX10_removeEdge at e
  exact zguard e
theorem mX10_removeEdge (b0 : Nat) (x0 : Nat) (x1 : Int32) (x2 : Int32) (x3 : Int32) (x4 : Int32) (h : ZH) : ZM zi b0 YX10_removeEdge 4 [.ref (b0 + x0), .int x1, .int x2, .int x3, .int x4] h (fX10_removeEdge x0 x1 x2 x3 x4 h) := by
  unfold fX10_removeEdge
  refine ZM.of (by decide) rfl (Nat.le_of_ble_eq_true rfl) (fun _ => trivial) ?_
  refine z_sub (lv2 := [(0, .ref (b0 + x0)), (1, .int x1), (2, .int x2), (3, .int x3), (4, .int x4)]) [0, 1, 2, 3, 4] rfl ?_
  refine z_guard (fun _ => ?_)
  refine z_iload_n 1 1 dX10_removeEdge_0 rfl rfl ?_
  refine z_iload_n 2 2 dX10_removeEdge_1 rfl rfl ?_
  refine z_iload_n 3 3 dX10_removeEdge_2 rfl rfl ?_
  refine z_iload 5 4 dX10_removeEdge_3 rfl rfl ?_
  refine z_callSi 8 (mX10_isEdgeOfSlot b0 x1 x2 x3 x4 h) zyX10_isEdgeOfSlot rfl w_294 wt_yX10_isEdgeOfSlot (Nat.le_of_ble_eq_true rfl) rfl (Nat.le_of_ble_eq_true rfl) dX10_removeEdge_5 rfl (fun q1 => ?_)
  refine z_if_ne 14 11 dX10_removeEdge_8 (by decide) rfl (fun c2 => ?_) (fun c2 => ?_)
  · refine z_aload_n 15 0 dX10_removeEdge_14 rfl rfl ?_
    refine z_getR 18 zC10 (Nat.le_of_ble_eq_true rfl) rfl w_238 dX10_removeEdge_15 rfl (fun v3 _ => ?_)
    refine z_iload_n 19 1 dX10_removeEdge_18 rfl rfl ?_
    refine z_aaload17 20 dX10_removeEdge_19 rfl (fun v4 _ => ?_)
    refine z_iload_n 21 2 dX10_removeEdge_20 rfl rfl ?_
    refine z_iload_n 22 3 dX10_removeEdge_21 rfl rfl ?_
    refine z_iload 24 4 dX10_removeEdge_22 rfl rfl ?_
    refine z_callVi 27 (mX1_has b0 v4 x2 x3 x4 q1.2) zyX1_has rfl w_347 (ci := 1) rfl (Nat.le_of_ble_eq_true rfl) (fun _ e9 => kX1_has e9) wm_yX1_has ws_yX1_has (Nat.le_of_ble_eq_true rfl) rfl (Nat.le_of_ble_eq_true rfl) dX10_removeEdge_24 rfl (fun q5 => ?_)
    refine z_if_ne 32 30 dX10_removeEdge_27 (by decide) rfl (fun c6 => ?_) (fun c6 => ?_)
    · refine z_aload_n 33 0 dX10_removeEdge_32 rfl rfl ?_
      refine z_getR 36 zC10 (Nat.le_of_ble_eq_true rfl) rfl w_241 dX10_removeEdge_33 rfl (fun v7 _ => ?_)
      refine z_iload_n 37 1 dX10_removeEdge_36 rfl rfl ?_
      refine z_aload_n 38 0 dX10_removeEdge_37 rfl rfl ?_
      refine z_getR 41 zC10 (Nat.le_of_ble_eq_true rfl) rfl w_238 dX10_removeEdge_38 rfl (fun v8 _ => ?_)
      refine z_iload_n 42 1 dX10_removeEdge_41 rfl rfl ?_
      refine z_aaload17 43 dX10_removeEdge_42 rfl (fun v9 _ => ?_)
      refine z_callVv 46 (mX2_push b0 v7 x1 v9 q5.2) zyX2_push rfl w_306 (ci := 2) rfl (Nat.le_of_ble_eq_true rfl) (fun _ e9 => kX2_push e9) wm_yX2_push ws_yX2_push (Nat.le_of_ble_eq_true rfl) rfl (Nat.le_of_ble_eq_true rfl) dX10_removeEdge_43 rfl (fun h10 => ?_)
      refine z_aload_n 47 0 dX10_removeEdge_46 rfl rfl ?_
      refine z_getR 50 zC10 (Nat.le_of_ble_eq_true rfl) rfl w_238 dX10_removeEdge_47 rfl (fun v11 _ => ?_)
      refine z_iload_n 51 1 dX10_removeEdge_50 rfl rfl ?_
      refine z_aaload17 52 dX10_removeEdge_51 rfl (fun v12 _ => ?_)
      refine z_iload_n 53 2 dX10_removeEdge_52 rfl rfl ?_
      refine z_iload_n 54 3 dX10_removeEdge_53 rfl rfl ?_
      refine z_iload 56 4 dX10_removeEdge_54 rfl rfl ?_
      refine z_callVv 59 (mX1_drop b0 v12 x2 x3 x4 h10) zyX1_drop rfl w_355 (ci := 1) rfl (Nat.le_of_ble_eq_true rfl) (fun _ e9 => kX1_drop e9) wm_yX1_drop ws_yX1_drop (Nat.le_of_ble_eq_true rfl) rfl (Nat.le_of_ble_eq_true rfl) dX10_removeEdge_56 rfl (fun h13 => ?_)
      refine z_aload_n 60 0 dX10_removeEdge_59 rfl rfl ?_
      refine z_getR 63 zC10 (Nat.le_of_ble_eq_true rfl) rfl w_238 dX10_removeEdge_60 rfl (fun v14 _ => ?_)
      refine z_iload_n 64 1 dX10_removeEdge_63 rfl rfl ?_
      refine z_aaload17 65 dX10_removeEdge_64 rfl (fun v15 _ => ?_)
      refine z_callVi 68 (mX1_countEdges b0 v15 h13) zyX1_countEdges rfl w_333 (ci := 1) rfl (Nat.le_of_ble_eq_true rfl) (fun _ e9 => kX1_countEdges e9) wm_yX1_countEdges ws_yX1_countEdges (Nat.le_of_ble_eq_true rfl) rfl (Nat.le_of_ble_eq_true rfl) dX10_removeEdge_65 rfl (fun q16 => ?_)
      exact z_ireturn dX10_removeEdge_68 rfl
    · refine z_iconst (-1 : Int32) 31 zki_m1 dX10_removeEdge_30 rfl ?_
      exact z_ireturn dX10_removeEdge_31 rfl
  · refine z_bipush (-2 : Int32) 13 zkb_m2 dX10_removeEdge_11 rfl ?_
    exact z_ireturn dX10_removeEdge_13 rfl
-- X10_targets
def bX10_targets_21 (h : ZH) : Option (Int32 × ZH) :=
  some ((-2 : Int32), h)
theorem BX10_targets_21 (b0 : Nat) (h : ZH) : Zr zi b0 YX10_targets 2 21 [] [] h (bX10_targets_21 h) := by
  unfold bX10_targets_21
  refine z_bipush (-2 : Int32) 23 zkb_m2 dX10_targets_21 rfl ?_
  exact z_ireturn dX10_targets_23 rfl
def fX10_targets (x0 : Nat) (x1 : Int32) (x2 : Int32) (x3 : Int32) (h : ZH) : Option (Int32 × ZH) :=
  if x0 < zn h ∧ zK h x0 = 10 then ((fX10_isSlot x1 h).bind fun q1 =>
  if q1.1 = 0 then (bX10_targets_21 q1.2) else
  ((fX10_isVertex x2 q1.2).bind fun q3 =>
  if q3.1 = 0 then (bX10_targets_21 q3.2) else
  ((fX10_isLetter x3 q3.2).bind fun q5 =>
  if q5.1 = 0 then (bX10_targets_21 q5.2) else
  ((gR q5.2 10 x0 0).bind fun v7 =>
  (lR q5.2 17 v7 x1).bind fun v8 =>
  (fX1_row v8 x2 x3 q5.2).bind fun q9 =>
  some (q9.1, q9.2))))) else none
theorem kX10_targets {x0 : Nat} {x1 : Int32} {x2 : Int32} {x3 : Int32} {h : ZH} {x : Int32 × ZH} (e : fX10_targets x0 x1 x2 x3 h = some x) : x0 < zn h ∧ zK h x0 = 10 := by
  unfold fX10_targets at e
  exact zguard e
theorem mX10_targets (b0 : Nat) (x0 : Nat) (x1 : Int32) (x2 : Int32) (x3 : Int32) (h : ZH) : ZM zi b0 YX10_targets 2 [.ref (b0 + x0), .int x1, .int x2, .int x3] h (fX10_targets x0 x1 x2 x3 h) := by
  unfold fX10_targets
  refine ZM.of (by decide) rfl (Nat.le_of_ble_eq_true rfl) (fun _ => trivial) ?_
  refine z_sub (lv2 := [(0, .ref (b0 + x0)), (1, .int x1), (2, .int x2), (3, .int x3)]) [0, 1, 2, 3] rfl ?_
  refine z_guard (fun _ => ?_)
  refine z_iload_n 1 1 dX10_targets_0 rfl rfl ?_
  refine z_callSi 4 (mX10_isSlot b0 x1 h) zyX10_isSlot rfl w_297 wt_yX10_isSlot (Nat.le_of_ble_eq_true rfl) rfl (Nat.le_of_ble_eq_true rfl) dX10_targets_1 rfl (fun q1 => ?_)
  refine z_if_eq 21 7 dX10_targets_4 (by decide) rfl (fun c2 => ?_) (fun c2 => ?_)
  · exact z_sub [] rfl (BX10_targets_21 b0 q1.2 )
  · refine z_iload_n 8 2 dX10_targets_7 rfl rfl ?_
    refine z_callSi 11 (mX10_isVertex b0 x2 q1.2) zyX10_isVertex rfl w_300 wt_yX10_isVertex (Nat.le_of_ble_eq_true rfl) rfl (Nat.le_of_ble_eq_true rfl) dX10_targets_8 rfl (fun q3 => ?_)
    refine z_if_eq 21 14 dX10_targets_11 (by decide) rfl (fun c4 => ?_) (fun c4 => ?_)
    · exact z_sub [] rfl (BX10_targets_21 b0 q3.2 )
    · refine z_iload_n 15 3 dX10_targets_14 rfl rfl ?_
      refine z_callSi 18 (mX10_isLetter b0 x3 q3.2) zyX10_isLetter rfl w_303 wt_yX10_isLetter (Nat.le_of_ble_eq_true rfl) rfl (Nat.le_of_ble_eq_true rfl) dX10_targets_15 rfl (fun q5 => ?_)
      refine z_if_ne 24 21 dX10_targets_18 (by decide) rfl (fun c6 => ?_) (fun c6 => ?_)
      · refine z_aload_n 25 0 dX10_targets_24 rfl rfl ?_
        refine z_getR 28 zC10 (Nat.le_of_ble_eq_true rfl) rfl w_238 dX10_targets_25 rfl (fun v7 _ => ?_)
        refine z_iload_n 29 1 dX10_targets_28 rfl rfl ?_
        refine z_aaload17 30 dX10_targets_29 rfl (fun v8 _ => ?_)
        refine z_iload_n 31 2 dX10_targets_30 rfl rfl ?_
        refine z_iload_n 32 3 dX10_targets_31 rfl rfl ?_
        refine z_callVi 35 (mX1_row b0 v8 x2 x3 q5.2) zyX1_row rfl w_363 (ci := 1) rfl (Nat.le_of_ble_eq_true rfl) (fun _ e9 => kX1_row e9) wm_yX1_row ws_yX1_row (Nat.le_of_ble_eq_true rfl) rfl (Nat.le_of_ble_eq_true rfl) dX10_targets_32 rfl (fun q9 => ?_)
        exact z_ireturn dX10_targets_35 rfl
      · exact z_sub [] rfl (BX10_targets_21 b0 q5.2 )
-- X10_edges
def bX10_edges_21 (t0 : Int32) (h : ZH) : Option (Int32 × ZH) :=
  some (t0, h)
theorem BX10_edges_21 (b0 : Nat) (t0 : Int32) (h : ZH) : Zr zi b0 YX10_edges 3 21 [] [.int t0] h (bX10_edges_21 t0 h) := by
  unfold bX10_edges_21
  exact z_ireturn dX10_edges_21 rfl
def fX10_edges (x0 : Nat) (x1 : Int32) (h : ZH) : Option (Int32 × ZH) :=
  if x0 < zn h ∧ zK h x0 = 10 then ((fX10_isSlot x1 h).bind fun q1 =>
  if q1.1 = 0 then (bX10_edges_21 (-2 : Int32) q1.2) else
  ((gR q1.2 10 x0 0).bind fun v3 =>
  (lR q1.2 17 v3 x1).bind fun v4 =>
  (fX1_countEdges v4 q1.2).bind fun q5 =>
  bX10_edges_21 q5.1 q5.2)) else none
theorem kX10_edges {x0 : Nat} {x1 : Int32} {h : ZH} {x : Int32 × ZH} (e : fX10_edges x0 x1 h = some x) : x0 < zn h ∧ zK h x0 = 10 := by
  unfold fX10_edges at e
  exact zguard e
theorem mX10_edges (b0 : Nat) (x0 : Nat) (x1 : Int32) (h : ZH) : ZM zi b0 YX10_edges 3 [.ref (b0 + x0), .int x1] h (fX10_edges x0 x1 h) := by
  unfold fX10_edges
  refine ZM.of (by decide) rfl (Nat.le_of_ble_eq_true rfl) (fun _ => trivial) ?_
  refine z_sub (lv2 := [(0, .ref (b0 + x0)), (1, .int x1)]) [0, 1] rfl ?_
  refine z_guard (fun _ => ?_)
  refine z_iload_n 1 1 dX10_edges_0 rfl rfl ?_
  refine z_callSi 4 (mX10_isSlot b0 x1 h) zyX10_isSlot rfl w_297 wt_yX10_isSlot (Nat.le_of_ble_eq_true rfl) rfl (Nat.le_of_ble_eq_true rfl) dX10_edges_1 rfl (fun q1 => ?_)
  refine z_if_eq 19 7 dX10_edges_4 (by decide) rfl (fun c2 => ?_) (fun c2 => ?_)
  · refine z_bipush (-2 : Int32) 21 zkb_m2 dX10_edges_19 rfl ?_
    exact z_sub [] rfl (BX10_edges_21 b0 (-2 : Int32) q1.2 )
  · refine z_aload_n 8 0 dX10_edges_7 rfl rfl ?_
    refine z_getR 11 zC10 (Nat.le_of_ble_eq_true rfl) rfl w_238 dX10_edges_8 rfl (fun v3 _ => ?_)
    refine z_iload_n 12 1 dX10_edges_11 rfl rfl ?_
    refine z_aaload17 13 dX10_edges_12 rfl (fun v4 _ => ?_)
    refine z_callVi 16 (mX1_countEdges b0 v4 q1.2) zyX1_countEdges rfl w_333 (ci := 1) rfl (Nat.le_of_ble_eq_true rfl) (fun _ e9 => kX1_countEdges e9) wm_yX1_countEdges ws_yX1_countEdges (Nat.le_of_ble_eq_true rfl) rfl (Nat.le_of_ble_eq_true rfl) dX10_edges_13 rfl (fun q5 => ?_)
    refine z_goto 21 dX10_edges_16 (by decide) ?_
    exact z_sub [] rfl (BX10_edges_21 b0 q5.1 q5.2 )
-- X10_feed
def bX10_feed_36 (t0 : Int32) (h : ZH) : Option (Int32 × ZH) :=
  some (t0, h)
theorem BX10_feed_36 (b0 : Nat) (t0 : Int32) (h : ZH) : Zr zi b0 YX10_feed 2 36 [] [.int t0] h (bX10_feed_36 t0 h) := by
  unfold bX10_feed_36
  exact z_ireturn dX10_feed_36 rfl
def fX10_feed (x0 : Nat) (x1 : Int32) (h : ZH) : Option (Int32 × ZH) :=
  if x0 < zn h ∧ zK h x0 = 10 then ((fX10_isWithin x1 (nI 1) (nI 127) h).bind fun q1 =>
  if q1.1 = 0 then (some ((-2 : Int32), q1.2)) else
  ((gR q1.2 10 x0 4).bind fun v3 =>
  (fX7_add v3 x1 q1.2).bind fun q4 =>
  if q4.1 = 0 then (bX10_feed_36 (-3 : Int32) q4.2) else
  ((gR q4.2 10 x0 4).bind fun v6 =>
  (fX7_length v6 q4.2).bind fun q7 =>
  bX10_feed_36 q7.1 q7.2))) else none
theorem kX10_feed {x0 : Nat} {x1 : Int32} {h : ZH} {x : Int32 × ZH} (e : fX10_feed x0 x1 h = some x) : x0 < zn h ∧ zK h x0 = 10 := by
  unfold fX10_feed at e
  exact zguard e
theorem mX10_feed (b0 : Nat) (x0 : Nat) (x1 : Int32) (h : ZH) : ZM zi b0 YX10_feed 2 [.ref (b0 + x0), .int x1] h (fX10_feed x0 x1 h) := by
  unfold fX10_feed
  refine ZM.of (by decide) rfl (Nat.le_of_ble_eq_true rfl) (fun _ => trivial) ?_
  refine z_sub (lv2 := [(0, .ref (b0 + x0)), (1, .int x1)]) [0, 1] rfl ?_
  refine z_guard (fun _ => ?_)
  refine z_iload_n 1 1 dX10_feed_0 rfl rfl ?_
  refine z_iconst (nI 1) 2 zki_1 dX10_feed_1 rfl ?_
  refine z_bipush (nI 127) 4 zkb_127 dX10_feed_2 rfl ?_
  refine z_callSi 7 (mX10_isWithin b0 x1 (nI 1) (nI 127) h) zyX10_isWithin rfl w_372 wt_yX10_isWithin (Nat.le_of_ble_eq_true rfl) rfl (Nat.le_of_ble_eq_true rfl) dX10_feed_4 rfl (fun q1 => ?_)
  refine z_if_ne 13 10 dX10_feed_7 (by decide) rfl (fun c2 => ?_) (fun c2 => ?_)
  · refine z_aload_n 14 0 dX10_feed_13 rfl rfl ?_
    refine z_getR 17 zC10 (Nat.le_of_ble_eq_true rfl) rfl w_242 dX10_feed_14 rfl (fun v3 _ => ?_)
    refine z_iload_n 18 1 dX10_feed_17 rfl rfl ?_
    refine z_callVi 21 (mX7_add b0 v3 x1 q1.2) zyX7_add rfl w_373 (ci := 7) rfl (Nat.le_of_ble_eq_true rfl) (fun _ e9 => kX7_add e9) wm_yX7_add ws_yX7_add (Nat.le_of_ble_eq_true rfl) rfl (Nat.le_of_ble_eq_true rfl) dX10_feed_18 rfl (fun q4 => ?_)
    refine z_if_eq 34 24 dX10_feed_21 (by decide) rfl (fun c5 => ?_) (fun c5 => ?_)
    · refine z_bipush (-3 : Int32) 36 zkb_m3 dX10_feed_34 rfl ?_
      exact z_sub [] rfl (BX10_feed_36 b0 (-3 : Int32) q4.2 )
    · refine z_aload_n 25 0 dX10_feed_24 rfl rfl ?_
      refine z_getR 28 zC10 (Nat.le_of_ble_eq_true rfl) rfl w_242 dX10_feed_25 rfl (fun v6 _ => ?_)
      refine z_callVi 31 (mX7_length b0 v6 q4.2) zyX7_length rfl w_377 (ci := 7) rfl (Nat.le_of_ble_eq_true rfl) (fun _ e9 => kX7_length e9) wm_yX7_length ws_yX7_length (Nat.le_of_ble_eq_true rfl) rfl (Nat.le_of_ble_eq_true rfl) dX10_feed_28 rfl (fun q7 => ?_)
      refine z_goto 36 dX10_feed_31 (by decide) ?_
      exact z_sub [] rfl (BX10_feed_36 b0 q7.1 q7.2 )
  · refine z_bipush (-2 : Int32) 12 zkb_m2 dX10_feed_10 rfl ?_
    exact z_ireturn dX10_feed_12 rfl
-- X10_fitsInGraph
def bX10_fitsInGraph_47 (t0 : Int32) (h : ZH) : Option (Int32 × ZH) :=
  if t0 = 0 ∨ t0 = 1 then some (t0, h) else none
theorem BX10_fitsInGraph_47 (b0 : Nat) (t0 : Int32) (h : ZH) : Zr zi b0 YX10_fitsInGraph 2 47 [] [.int t0] h (bX10_fitsInGraph_47 t0 h) := by
  unfold bX10_fitsInGraph_47
  exact z_zreturn dX10_fitsInGraph_47 rfl
def fX10_fitsInGraph (x0 : Int32) (x1 : Int32) (h : ZH) : Option (Int32 × ZH) :=
  if (nI 4) = 0 then none else
  zl (jrem x0 (nI 4)) fun v1 =>
  if v1 = 1 then ((fX10_isLetter (x1 - (nI 97)) h).bind fun q3 =>
  if q3.1 = 0 ∨ q3.1 = 1 then some (q3.1, q3.2) else none) else
  if v1 = 3 then (if x1 = (nI 59) then (bX10_fitsInGraph_47 (nI 1) h) else
  (bX10_fitsInGraph_47 (nI 0) h)) else
  ((fX10_isVertex (x1 - (nI 48)) h).bind fun q6 =>
  if q6.1 = 0 ∨ q6.1 = 1 then some (q6.1, q6.2) else none)
theorem mX10_fitsInGraph (b0 : Nat) (x0 : Int32) (x1 : Int32) (h : ZH) : ZM zi b0 YX10_fitsInGraph 2 [.int x0, .int x1] h (fX10_fitsInGraph x0 x1 h) := by
  unfold fX10_fitsInGraph
  refine ZM.of (by decide) rfl (Nat.le_of_ble_eq_true rfl) (fun _ => trivial) ?_
  refine z_sub (lv2 := [(0, .int x0), (1, .int x1)]) [0, 1] rfl ?_
  refine z_iload_n 1 0 dX10_fitsInGraph_0 rfl rfl ?_
  refine z_iconst (nI 4) 2 zki_4 dX10_fitsInGraph_1 rfl ?_
  refine z_irem 3 dX10_fitsInGraph_2 rfl (fun _ => ?_)
  refine z_letI (fun v1 _ => ?_)
  refine z_ite (fun c2 => ?_) (fun c2 => ?_)
  · refine z_lookup (off := 25) 28 dX10_fitsInGraph_3 (by decide) (by rw [c2] <;> decide) (by decide) ?_
    refine z_iload_n 29 1 dX10_fitsInGraph_28 rfl rfl ?_
    refine z_bipush (nI 97) 31 zkb_97 dX10_fitsInGraph_29 rfl ?_
    refine z_isub 32 dX10_fitsInGraph_31 rfl ?_
    refine z_callSi 35 (mX10_isLetter b0 (x1 - (nI 97)) h) zyX10_isLetter rfl w_303 wt_yX10_isLetter (Nat.le_of_ble_eq_true rfl) rfl (Nat.le_of_ble_eq_true rfl) dX10_fitsInGraph_32 rfl (fun q3 => ?_)
    exact z_zreturn dX10_fitsInGraph_35 rfl
  refine z_ite (fun c4 => ?_) (fun c4 => ?_)
  · refine z_lookup (off := 33) 36 dX10_fitsInGraph_3 (by decide) (by rw [c4] <;> decide) (by decide) ?_
    refine z_iload_n 37 1 dX10_fitsInGraph_36 rfl rfl ?_
    refine z_bipush (nI 59) 39 zkb_59 dX10_fitsInGraph_37 rfl ?_
    refine z_icmp_ne 46 42 dX10_fitsInGraph_39 (by decide) rfl (fun c5 => ?_) (fun c5 => ?_)
    · refine z_iconst (nI 0) 47 zki_0 dX10_fitsInGraph_46 rfl ?_
      exact z_sub [] rfl (BX10_fitsInGraph_47 b0 (nI 0) h )
    · refine z_iconst (nI 1) 43 zki_1 dX10_fitsInGraph_42 rfl ?_
      refine z_goto 47 dX10_fitsInGraph_43 (by decide) ?_
      exact z_sub [] rfl (BX10_fitsInGraph_47 b0 (nI 1) h )
  refine z_lookup (off := 45) 48 dX10_fitsInGraph_3 (by decide) (sw_X10_fitsInGraph_3 (by assumption) (by assumption)) (by decide) ?_
  refine z_iload_n 49 1 dX10_fitsInGraph_48 rfl rfl ?_
  refine z_bipush (nI 48) 51 zkb_48 dX10_fitsInGraph_49 rfl ?_
  refine z_isub 52 dX10_fitsInGraph_51 rfl ?_
  refine z_callSi 55 (mX10_isVertex b0 (x1 - (nI 48)) h) zyX10_isVertex rfl w_300 wt_yX10_isVertex (Nat.le_of_ble_eq_true rfl) rfl (Nat.le_of_ble_eq_true rfl) dX10_fitsInGraph_52 rfl (fun q6 => ?_)
  exact z_zreturn dX10_fitsInGraph_55 rfl
-- X10_readGraph
def bX10_readGraph_137 (t0 : Int32) (h : ZH) : Option (Int32 × ZH) :=
  some (t0, h)
theorem BX10_readGraph_137 (b0 : Nat) (t0 : Int32) (h : ZH) : Zr zi b0 YX10_readGraph 4 137 [] [.int t0] h (bX10_readGraph_137 t0 h) := by
  unfold bX10_readGraph_137
  exact z_ireturn dX10_readGraph_137 rfl
def bX10_readGraph_119 (self22 : Int32 × Int32 × Int32 × ZH → Option (Int32 × ZH)) (x0 : Nat) (x1 : Int32) (x2 : Int32) (x3 : Int32) (x4 : Int32) (h : ZH) : Option (Int32 × ZH) :=
  self22 (x2, x3, (x4 + (nI 1)), h)
theorem BX10_readGraph_119 (b0 : Nat) (self22 : Int32 × Int32 × Int32 × ZH → Option (Int32 × ZH)) (x0 : Nat) (x1 : Int32) (x2 : Int32) (x3 : Int32) (x4 : Int32) (h : ZH) (hself22 : ∀ (y2 : Int32) (y3 : Int32) (y4 : Int32) (hh : ZH), Zr zi b0 YX10_readGraph 4 22 [(0, .ref (b0 + x0)), (1, .int x1), (2, .int y2), (3, .int y3), (4, .int y4)] [] hh (self22 (y2, y3, y4, hh))) : Zr zi b0 YX10_readGraph 4 119 [(0, .ref (b0 + x0)), (1, .int x1), (2, .int x2), (3, .int x3), (4, .int x4)] [] h (bX10_readGraph_119 self22 x0 x1 x2 x3 x4 h) := by
  unfold bX10_readGraph_119
  refine z_iinc (lv2 := [(4, .int (x4 + (nI 1))), (0, .ref (b0 + x0)), (1, .int x1), (2, .int x2), (3, .int x3)]) (nI 1) 122 4 dX10_readGraph_119 rfl rfl zki_1 (Nat.le_of_ble_eq_true rfl) rfl ?_
  refine z_goto 22 dX10_readGraph_122 (by decide) ?_
  exact z_sub [1, 2, 3, 4, 0] rfl (hself22 x2 x3 (x4 + (nI 1)) h)
def kX10_readGraph_22 (x0 : Nat) (x1 : Int32) (self22 : Int32 × Int32 × Int32 × ZH → Option (Int32 × ZH)) (x2 : Int32) (x3 : Int32) (x4 : Int32) (h : ZH) : Option (Int32 × ZH) :=
  if x1 ≤ x4 then (if (nI 4) = 0 then none else
  if (jrem x1 (nI 4)) = (nI 3) then (bX10_readGraph_137 (-1 : Int32) h) else
  (bX10_readGraph_137 x1 h)) else
  ((gR h 10 x0 4).bind fun v3 =>
  (fX7_at v3 x4 h).bind fun q4 =>
  (fX10_fitsInGraph x4 q4.1 q4.2).bind fun q5 =>
  if q5.1 = 0 then (some (x4, q5.2)) else
  (if (nI 4) = 0 then none else
  zl (jrem x4 (nI 4)) fun v7 =>
  if v7 = 0 then (zl (q4.1 - (nI 48)) fun v9 =>
  bX10_readGraph_119 self22 x0 x1 v9 x3 x4 q5.2) else
  if v7 = 1 then (zl (q4.1 - (nI 97)) fun v11 =>
  bX10_readGraph_119 self22 x0 x1 x2 v11 x4 q5.2) else
  if v7 = 2 then ((gR q5.2 10 x0 7).bind fun v13 =>
  (fX1_put v13 x2 x3 (q4.1 - (nI 48)) q5.2).bind fun h14 =>
  bX10_readGraph_119 self22 x0 x1 x2 x3 x4 h14) else
  (bX10_readGraph_119 self22 x0 x1 x2 x3 x4 q5.2)))
def lX10_readGraph_22 (x0 : Nat) (x1 : Int32) : (Int32 × Int32 × Int32 × ZH → Option (Int32 × ZH)) → Int32 × Int32 × Int32 × ZH → Option (Int32 × ZH) := fun self s => kX10_readGraph_22 x0 x1 self s.1 s.2.1 s.2.2.1 s.2.2.2
theorem KX10_readGraph_22 (b0 : Nat) (x0 : Nat) (x1 : Int32) (self22 : Int32 × Int32 × Int32 × ZH → Option (Int32 × ZH)) (hself22 : ∀ (y2 : Int32) (y3 : Int32) (y4 : Int32) (hh : ZH), Zr zi b0 YX10_readGraph 4 22 [(0, .ref (b0 + x0)), (1, .int x1), (2, .int y2), (3, .int y3), (4, .int y4)] [] hh (self22 (y2, y3, y4, hh))) (x2 : Int32) (x3 : Int32) (x4 : Int32) (h : ZH) : Zr zi b0 YX10_readGraph 4 22 [(0, .ref (b0 + x0)), (1, .int x1), (2, .int x2), (3, .int x3), (4, .int x4)] [] h (kX10_readGraph_22 x0 x1 self22 x2 x3 x4 h) := by
  unfold kX10_readGraph_22
  refine z_iload 24 4 dX10_readGraph_22 rfl rfl ?_
  refine z_iload_n 25 1 dX10_readGraph_24 rfl rfl ?_
  refine z_icmp_ge 125 28 dX10_readGraph_25 (by decide) rfl (fun c1 => ?_) (fun c1 => ?_)
  · refine z_iload_n 126 1 dX10_readGraph_125 rfl rfl ?_
    refine z_iconst (nI 4) 127 zki_4 dX10_readGraph_126 rfl ?_
    refine z_irem 128 dX10_readGraph_127 rfl (fun _ => ?_)
    refine z_iconst (nI 3) 129 zki_3 dX10_readGraph_128 rfl ?_
    refine z_icmp_ne 136 132 dX10_readGraph_129 (by decide) rfl (fun c2 => ?_) (fun c2 => ?_)
    · refine z_iload_n 137 1 dX10_readGraph_136 rfl rfl ?_
      exact z_sub [] rfl (BX10_readGraph_137 b0 x1 h )
    · refine z_iconst (-1 : Int32) 133 zki_m1 dX10_readGraph_132 rfl ?_
      refine z_goto 137 dX10_readGraph_133 (by decide) ?_
      exact z_sub [] rfl (BX10_readGraph_137 b0 (-1 : Int32) h )
  · refine z_aload_n 29 0 dX10_readGraph_28 rfl rfl ?_
    refine z_getR 32 zC10 (Nat.le_of_ble_eq_true rfl) rfl w_242 dX10_readGraph_29 rfl (fun v3 _ => ?_)
    refine z_iload 34 4 dX10_readGraph_32 rfl rfl ?_
    refine z_callVi 37 (mX7_at b0 v3 x4 h) zyX7_at rfl w_396 (ci := 7) rfl (Nat.le_of_ble_eq_true rfl) (fun _ e9 => kX7_at e9) wm_yX7_at ws_yX7_at (Nat.le_of_ble_eq_true rfl) rfl (Nat.le_of_ble_eq_true rfl) dX10_readGraph_34 rfl (fun q4 => ?_)
    refine z_istore (lv2 := [(5, .int q4.1), (0, .ref (b0 + x0)), (1, .int x1), (2, .int x2), (3, .int x3), (4, .int x4)]) 39 dX10_readGraph_37 rfl (Nat.le_of_ble_eq_true rfl) rfl ?_
    refine z_iload 41 5 dX10_readGraph_39 rfl rfl ?_
    refine z_iload 43 0 dX10_readGraph_41 rfl rfl ?_
    refine z_callSi 46 (mX10_fitsInGraph b0 x4 q4.1 q4.2) zyX10_fitsInGraph rfl w_400 wt_yX10_fitsInGraph (Nat.le_of_ble_eq_true rfl) rfl (Nat.le_of_ble_eq_true rfl) dX10_readGraph_43 rfl (fun q5 => ?_)
    refine z_if_ne 52 49 dX10_readGraph_46 (by decide) rfl (fun c6 => ?_) (fun c6 => ?_)
    · refine z_iload 54 5 dX10_readGraph_52 rfl rfl ?_
      refine z_iconst (nI 4) 55 zki_4 dX10_readGraph_54 rfl ?_
      refine z_irem 56 dX10_readGraph_55 rfl (fun _ => ?_)
      refine z_letI (fun v7 _ => ?_)
      refine z_ite (fun c8 => ?_) (fun c8 => ?_)
      · refine z_tabIn (off := 28) 84 dX10_readGraph_56 (by rw [c8] <;> decide) (by rw [c8] <;> decide) (by rw [c8] <;> decide) (by decide) ?_
        refine z_iload 86 0 dX10_readGraph_84 rfl rfl ?_
        refine z_bipush (nI 48) 88 zkb_48 dX10_readGraph_86 rfl ?_
        refine z_isub 89 dX10_readGraph_88 rfl ?_
        refine z_letI (fun v9 _ => ?_)
        refine z_istore_n (lv2 := [(2, .int v9), (5, .int q4.1), (0, .ref (b0 + x0)), (1, .int x1), (3, .int x3), (4, .int x4)]) 90 dX10_readGraph_89 rfl (Nat.le_of_ble_eq_true rfl) rfl ?_
        refine z_goto 119 dX10_readGraph_90 (by decide) ?_
        exact z_sub [2, 3, 0, 4, 5] rfl (BX10_readGraph_119 b0 self22 x0 x1 v9 x3 x4 q5.2 hself22)
      refine z_ite (fun c10 => ?_) (fun c10 => ?_)
      · refine z_tabIn (off := 37) 93 dX10_readGraph_56 (by rw [c10] <;> decide) (by rw [c10] <;> decide) (by rw [c10] <;> decide) (by decide) ?_
        refine z_iload 95 0 dX10_readGraph_93 rfl rfl ?_
        refine z_bipush (nI 97) 97 zkb_97 dX10_readGraph_95 rfl ?_
        refine z_isub 98 dX10_readGraph_97 rfl ?_
        refine z_letI (fun v11 _ => ?_)
        refine z_istore_n (lv2 := [(3, .int v11), (5, .int q4.1), (0, .ref (b0 + x0)), (1, .int x1), (2, .int x2), (4, .int x4)]) 99 dX10_readGraph_98 rfl (Nat.le_of_ble_eq_true rfl) rfl ?_
        refine z_goto 119 dX10_readGraph_99 (by decide) ?_
        exact z_sub [2, 3, 4, 0, 5] rfl (BX10_readGraph_119 b0 self22 x0 x1 x2 v11 x4 q5.2 hself22)
      refine z_ite (fun c12 => ?_) (fun c12 => ?_)
      · refine z_tabIn (off := 46) 102 dX10_readGraph_56 (by rw [c12] <;> decide) (by rw [c12] <;> decide) (by rw [c12] <;> decide) (by decide) ?_
        refine z_aload_n 103 1 dX10_readGraph_102 rfl rfl ?_
        refine z_getR 106 zC10 (Nat.le_of_ble_eq_true rfl) rfl w_245 dX10_readGraph_103 rfl (fun v13 _ => ?_)
        refine z_iload_n 107 3 dX10_readGraph_106 rfl rfl ?_
        refine z_iload_n 108 4 dX10_readGraph_107 rfl rfl ?_
        refine z_iload 110 0 dX10_readGraph_108 rfl rfl ?_
        refine z_bipush (nI 48) 112 zkb_48 dX10_readGraph_110 rfl ?_
        refine z_isub 113 dX10_readGraph_112 rfl ?_
        refine z_callVv 116 (mX1_put b0 v13 x2 x3 (q4.1 - (nI 48)) q5.2) zyX1_put rfl w_323 (ci := 1) rfl (Nat.le_of_ble_eq_true rfl) (fun _ e9 => kX1_put e9) wm_yX1_put ws_yX1_put (Nat.le_of_ble_eq_true rfl) rfl (Nat.le_of_ble_eq_true rfl) dX10_readGraph_113 rfl (fun h14 => ?_)
        refine z_goto 119 dX10_readGraph_116 (by decide) ?_
        exact z_sub [1, 2, 3, 4, 5] rfl (BX10_readGraph_119 b0 self22 x0 x1 x2 x3 x4 h14 hself22)
      refine z_tabOut 119 dX10_readGraph_56 (sw_X10_readGraph_56 c8 c10 c12) (by decide) ?_
      exact z_sub [1, 2, 3, 4, 5] rfl (BX10_readGraph_119 b0 self22 x0 x1 x2 x3 x4 q5.2 hself22)
    · refine z_iload 51 5 dX10_readGraph_49 rfl rfl ?_
      exact z_ireturn dX10_readGraph_51 rfl
theorem BX10_readGraph_22 (b0 : Nat) (x0 : Nat) (x1 : Int32) (n : Nat) (x2 : Int32) (x3 : Int32) (x4 : Int32) (h : ZH) : Zr zi b0 YX10_readGraph 4 22 [(0, .ref (b0 + x0)), (1, .int x1), (2, .int x2), (3, .int x3), (4, .int x4)] [] h (zloop (lX10_readGraph_22 x0 x1) n (x2, x3, x4, h)) :=
  zloop_Zr (fun s => [(0, .ref (b0 + x0)), (1, .int x1), (2, .int s.1), (3, .int s.2.1), (4, .int s.2.2.1)]) (fun _ => []) (fun s => s.2.2.2) (lX10_readGraph_22 x0 x1) (fun self hs s => KX10_readGraph_22 b0 x0 x1 self (fun y2 y3 y4 hh => hs (y2, y3, y4, hh)) s.1 s.2.1 s.2.2.1 s.2.2.2) n (x2, x3, x4, h)
def fX10_readGraph (x0 : Nat) (h : ZH) : Option (Int32 × ZH) :=
  if x0 < zn h ∧ zK h x0 = 10 then ((gR h 10 x0 7).bind fun v1 =>
  (fX1_clear v1 h).bind fun h2 =>
  (gR h2 10 x0 4).bind fun v3 =>
  (fX7_length v3 h2).bind fun q4 =>
  zloop (lX10_readGraph_22 x0 q4.1) zfu ((nI 0), (nI 0), (nI 0), q4.2)) else none
theorem kX10_readGraph {x0 : Nat} {h : ZH} {x : Int32 × ZH} (e : fX10_readGraph x0 h = some x) : x0 < zn h ∧ zK h x0 = 10 := by
  unfold fX10_readGraph at e
  exact zguard e
theorem mX10_readGraph (b0 : Nat) (x0 : Nat) (h : ZH) : ZM zi b0 YX10_readGraph 4 [.ref (b0 + x0)] h (fX10_readGraph x0 h) := by
  unfold fX10_readGraph
  refine ZM.of (by decide) rfl (Nat.le_of_ble_eq_true rfl) (fun _ => trivial) ?_
  refine z_sub (lv2 := [(0, .ref (b0 + x0))]) [0] rfl ?_
  refine z_guard (fun _ => ?_)
  refine z_aload_n 1 0 dX10_readGraph_0 rfl rfl ?_
  refine z_getR 4 zC10 (Nat.le_of_ble_eq_true rfl) rfl w_245 dX10_readGraph_1 rfl (fun v1 _ => ?_)
  refine z_callVv 7 (mX1_clear b0 v1 h) zyX1_clear rfl w_389 (ci := 1) rfl (Nat.le_of_ble_eq_true rfl) (fun _ e9 => kX1_clear e9) wm_yX1_clear ws_yX1_clear (Nat.le_of_ble_eq_true rfl) rfl (Nat.le_of_ble_eq_true rfl) dX10_readGraph_4 rfl (fun h2 => ?_)
  refine z_aload_n 8 0 dX10_readGraph_7 rfl rfl ?_
  refine z_getR 11 zC10 (Nat.le_of_ble_eq_true rfl) rfl w_242 dX10_readGraph_8 rfl (fun v3 _ => ?_)
  refine z_callVi 14 (mX7_length b0 v3 h2) zyX7_length rfl w_377 (ci := 7) rfl (Nat.le_of_ble_eq_true rfl) (fun _ e9 => kX7_length e9) wm_yX7_length ws_yX7_length (Nat.le_of_ble_eq_true rfl) rfl (Nat.le_of_ble_eq_true rfl) dX10_readGraph_11 rfl (fun q4 => ?_)
  refine z_istore_n (lv2 := [(1, .int q4.1), (0, .ref (b0 + x0))]) 15 dX10_readGraph_14 rfl (Nat.le_of_ble_eq_true rfl) rfl ?_
  refine z_iconst (nI 0) 16 zki_0 dX10_readGraph_15 rfl ?_
  refine z_istore_n (lv2 := [(2, .int (nI 0)), (1, .int q4.1), (0, .ref (b0 + x0))]) 17 dX10_readGraph_16 rfl (Nat.le_of_ble_eq_true rfl) rfl ?_
  refine z_iconst (nI 0) 18 zki_0 dX10_readGraph_17 rfl ?_
  refine z_istore_n (lv2 := [(3, .int (nI 0)), (2, .int (nI 0)), (1, .int q4.1), (0, .ref (b0 + x0))]) 19 dX10_readGraph_18 rfl (Nat.le_of_ble_eq_true rfl) rfl ?_
  refine z_iconst (nI 0) 20 zki_0 dX10_readGraph_19 rfl ?_
  refine z_istore (lv2 := [(4, .int (nI 0)), (3, .int (nI 0)), (2, .int (nI 0)), (1, .int q4.1), (0, .ref (b0 + x0))]) 22 dX10_readGraph_20 rfl (Nat.le_of_ble_eq_true rfl) rfl ?_
  exact z_sub [4, 3, 2, 1, 0] rfl (BX10_readGraph_22 b0 x0 q4.1 zfu (nI 0) (nI 0) (nI 0) q4.2)
-- X10_storeFresh
def bX10_storeFresh_34 (h : ZH) : Option (ZH) :=
  some h
theorem BX10_storeFresh_34 (b0 : Nat) (h : ZH) : Zr zv b0 YX10_storeFresh 4 34 [] [] h (bX10_storeFresh_34 h) := by
  unfold bX10_storeFresh_34
  exact z_return dX10_storeFresh_34 rfl
def fX10_storeFresh (x0 : Nat) (x1 : Int32) (h : ZH) : Option (ZH) :=
  if x0 < zn h ∧ zK h x0 = 10 then ((fX10_isSlot x1 h).bind fun q1 =>
  if q1.1 = 0 then (bX10_storeFresh_34 q1.2) else
  ((gR q1.2 10 x0 3).bind fun v3 =>
  (gR q1.2 10 x0 0).bind fun v4 =>
  (lR q1.2 17 v4 x1).bind fun v5 =>
  (fX2_push v3 x1 v5 q1.2).bind fun h6 =>
  (gR h6 10 x0 0).bind fun v7 =>
  (lR h6 17 v7 x1).bind fun v8 =>
  (gR h6 10 x0 7).bind fun v9 =>
  (fX1_copyOf v8 v9 h6).bind fun h10 =>
  bX10_storeFresh_34 h10)) else none
theorem kX10_storeFresh {x0 : Nat} {x1 : Int32} {h : ZH} {x : ZH} (e : fX10_storeFresh x0 x1 h = some x) : x0 < zn h ∧ zK h x0 = 10 := by
  unfold fX10_storeFresh at e
  exact zguard e
theorem mX10_storeFresh (b0 : Nat) (x0 : Nat) (x1 : Int32) (h : ZH) : ZM zv b0 YX10_storeFresh 4 [.ref (b0 + x0), .int x1] h (fX10_storeFresh x0 x1 h) := by
  unfold fX10_storeFresh
  refine ZM.of (by decide) rfl (Nat.le_of_ble_eq_true rfl) (fun _ => trivial) ?_
  refine z_sub (lv2 := [(0, .ref (b0 + x0)), (1, .int x1)]) [0, 1] rfl ?_
  refine z_guard (fun _ => ?_)
  refine z_iload_n 1 1 dX10_storeFresh_0 rfl rfl ?_
  refine z_callSi 4 (mX10_isSlot b0 x1 h) zyX10_isSlot rfl w_297 wt_yX10_isSlot (Nat.le_of_ble_eq_true rfl) rfl (Nat.le_of_ble_eq_true rfl) dX10_storeFresh_1 rfl (fun q1 => ?_)
  refine z_if_eq 34 7 dX10_storeFresh_4 (by decide) rfl (fun c2 => ?_) (fun c2 => ?_)
  · exact z_sub [] rfl (BX10_storeFresh_34 b0 q1.2 )
  · refine z_aload_n 8 0 dX10_storeFresh_7 rfl rfl ?_
    refine z_getR 11 zC10 (Nat.le_of_ble_eq_true rfl) rfl w_241 dX10_storeFresh_8 rfl (fun v3 _ => ?_)
    refine z_iload_n 12 1 dX10_storeFresh_11 rfl rfl ?_
    refine z_aload_n 13 0 dX10_storeFresh_12 rfl rfl ?_
    refine z_getR 16 zC10 (Nat.le_of_ble_eq_true rfl) rfl w_238 dX10_storeFresh_13 rfl (fun v4 _ => ?_)
    refine z_iload_n 17 1 dX10_storeFresh_16 rfl rfl ?_
    refine z_aaload17 18 dX10_storeFresh_17 rfl (fun v5 _ => ?_)
    refine z_callVv 21 (mX2_push b0 v3 x1 v5 q1.2) zyX2_push rfl w_306 (ci := 2) rfl (Nat.le_of_ble_eq_true rfl) (fun _ e9 => kX2_push e9) wm_yX2_push ws_yX2_push (Nat.le_of_ble_eq_true rfl) rfl (Nat.le_of_ble_eq_true rfl) dX10_storeFresh_18 rfl (fun h6 => ?_)
    refine z_aload_n 22 0 dX10_storeFresh_21 rfl rfl ?_
    refine z_getR 25 zC10 (Nat.le_of_ble_eq_true rfl) rfl w_238 dX10_storeFresh_22 rfl (fun v7 _ => ?_)
    refine z_iload_n 26 1 dX10_storeFresh_25 rfl rfl ?_
    refine z_aaload17 27 dX10_storeFresh_26 rfl (fun v8 _ => ?_)
    refine z_aload_n 28 0 dX10_storeFresh_27 rfl rfl ?_
    refine z_getR 31 zC10 (Nat.le_of_ble_eq_true rfl) rfl w_245 dX10_storeFresh_28 rfl (fun v9 _ => ?_)
    refine z_callVv 34 (mX1_copyOf b0 v8 v9 h6) zyX1_copyOf rfl w_411 (ci := 1) rfl (Nat.le_of_ble_eq_true rfl) (fun _ e9 => kX1_copyOf e9) wm_yX1_copyOf ws_yX1_copyOf (Nat.le_of_ble_eq_true rfl) rfl (Nat.le_of_ble_eq_true rfl) dX10_storeFresh_31 rfl (fun h10 => ?_)
    exact z_sub [] rfl (BX10_storeFresh_34 b0 h10 )
-- X10_parse
def fX10_parse (x0 : Nat) (x1 : Int32) (h : ZH) : Option (Int32 × ZH) :=
  if x0 < zn h ∧ zK h x0 = 10 then ((fX10_isSlot x1 h).bind fun q1 =>
  if q1.1 = 0 then (some ((-2 : Int32), q1.2)) else
  ((fX10_readGraph x0 q1.2).bind fun q3 =>
  (gR q3.2 10 x0 4).bind fun v4 =>
  (fX7_clear v4 q3.2).bind fun h5 =>
  if q3.1 < 0 then ((fX10_storeFresh x0 x1 h5).bind fun h7 =>
  (gR h7 10 x0 7).bind fun v8 =>
  (fX1_countEdges v8 h7).bind fun q9 =>
  some (q9.1, q9.2)) else
  (some (((-100 : Int32) - q3.1), h5)))) else none
theorem kX10_parse {x0 : Nat} {x1 : Int32} {h : ZH} {x : Int32 × ZH} (e : fX10_parse x0 x1 h = some x) : x0 < zn h ∧ zK h x0 = 10 := by
  unfold fX10_parse at e
  exact zguard e
theorem mX10_parse (b0 : Nat) (x0 : Nat) (x1 : Int32) (h : ZH) : ZM zi b0 YX10_parse 5 [.ref (b0 + x0), .int x1] h (fX10_parse x0 x1 h) := by
  unfold fX10_parse
  refine ZM.of (by decide) rfl (Nat.le_of_ble_eq_true rfl) (fun _ => trivial) ?_
  refine z_sub (lv2 := [(0, .ref (b0 + x0)), (1, .int x1)]) [0, 1] rfl ?_
  refine z_guard (fun _ => ?_)
  refine z_iload_n 1 1 dX10_parse_0 rfl rfl ?_
  refine z_callSi 4 (mX10_isSlot b0 x1 h) zyX10_isSlot rfl w_297 wt_yX10_isSlot (Nat.le_of_ble_eq_true rfl) rfl (Nat.le_of_ble_eq_true rfl) dX10_parse_1 rfl (fun q1 => ?_)
  refine z_if_ne 10 7 dX10_parse_4 (by decide) rfl (fun c2 => ?_) (fun c2 => ?_)
  · refine z_aload_n 11 0 dX10_parse_10 rfl rfl ?_
    refine z_callVi 14 (mX10_readGraph b0 x0 q1.2) zyX10_readGraph rfl w_385 (ci := 10) rfl (Nat.le_of_ble_eq_true rfl) (fun _ e9 => kX10_readGraph e9) wm_yX10_readGraph ws_yX10_readGraph (Nat.le_of_ble_eq_true rfl) rfl (Nat.le_of_ble_eq_true rfl) dX10_parse_11 rfl (fun q3 => ?_)
    refine z_istore_n (lv2 := [(2, .int q3.1), (0, .ref (b0 + x0)), (1, .int x1)]) 15 dX10_parse_14 rfl (Nat.le_of_ble_eq_true rfl) rfl ?_
    refine z_aload_n 16 1 dX10_parse_15 rfl rfl ?_
    refine z_getR 19 zC10 (Nat.le_of_ble_eq_true rfl) rfl w_242 dX10_parse_16 rfl (fun v4 _ => ?_)
    refine z_callVv 22 (mX7_clear b0 v4 q3.2) zyX7_clear rfl w_403 (ci := 7) rfl (Nat.le_of_ble_eq_true rfl) (fun _ e9 => kX7_clear e9) wm_yX7_clear ws_yX7_clear (Nat.le_of_ble_eq_true rfl) rfl (Nat.le_of_ble_eq_true rfl) dX10_parse_19 rfl (fun h5 => ?_)
    refine z_iload_n 23 0 dX10_parse_22 rfl rfl ?_
    refine z_if_lt 31 26 dX10_parse_23 (by decide) rfl (fun c6 => ?_) (fun c6 => ?_)
    · refine z_aload_n 32 1 dX10_parse_31 rfl rfl ?_
      refine z_iload_n 33 2 dX10_parse_32 rfl rfl ?_
      refine z_callVv 36 (mX10_storeFresh b0 x0 x1 h5) zyX10_storeFresh rfl w_407 (ci := 10) rfl (Nat.le_of_ble_eq_true rfl) (fun _ e9 => kX10_storeFresh e9) wm_yX10_storeFresh ws_yX10_storeFresh (Nat.le_of_ble_eq_true rfl) rfl (Nat.le_of_ble_eq_true rfl) dX10_parse_33 rfl (fun h7 => ?_)
      refine z_aload_n 37 1 dX10_parse_36 rfl rfl ?_
      refine z_getR 40 zC10 (Nat.le_of_ble_eq_true rfl) rfl w_245 dX10_parse_37 rfl (fun v8 _ => ?_)
      refine z_callVi 43 (mX1_countEdges b0 v8 h7) zyX1_countEdges rfl w_333 (ci := 1) rfl (Nat.le_of_ble_eq_true rfl) (fun _ e9 => kX1_countEdges e9) wm_yX1_countEdges ws_yX1_countEdges (Nat.le_of_ble_eq_true rfl) rfl (Nat.le_of_ble_eq_true rfl) dX10_parse_40 rfl (fun q9 => ?_)
      exact z_ireturn dX10_parse_43 rfl
    · refine z_bipush (-100 : Int32) 28 zkb_m100 dX10_parse_26 rfl ?_
      refine z_iload_n 29 0 dX10_parse_28 rfl rfl ?_
      refine z_isub 30 dX10_parse_29 rfl ?_
      exact z_ireturn dX10_parse_30 rfl
  · refine z_bipush (-2 : Int32) 9 zkb_m2 dX10_parse_7 rfl ?_
    exact z_ireturn dX10_parse_9 rfl
-- X10_nextDraw
def fX10_nextDraw (x0 : Int32) (h : ZH) : Option (Int32 × ZH) :=
  some (((x0 * (1103515245 : Int32)) + (nI 12345)), h)
theorem mX10_nextDraw (b0 : Nat) (x0 : Int32) (h : ZH) : ZM zi b0 YX10_nextDraw 1 [.int x0] h (fX10_nextDraw x0 h) := by
  unfold fX10_nextDraw
  refine ZM.of (by decide) rfl (Nat.le_of_ble_eq_true rfl) (fun _ => trivial) ?_
  refine z_sub (lv2 := [(0, .int x0)]) [0] rfl ?_
  refine z_iload_n 1 0 dX10_nextDraw_0 rfl rfl ?_
  refine z_ldcw 4 w_419 dX10_nextDraw_1 rfl ?_
  refine z_imul 5 dX10_nextDraw_4 rfl ?_
  refine z_sipush (nI 12345) 8 zks_12345 dX10_nextDraw_5 rfl ?_
  refine z_iadd 9 dX10_nextDraw_8 rfl ?_
  exact z_ireturn dX10_nextDraw_9 rfl
-- X10_random
def kX10_random_33 (x0 : Nat) (x1 : Int32) (x3 : Int32) (self33 : Int32 × Int32 × ZH → Option (Int32 × ZH)) (x4 : Int32) (x5 : Int32) (h : ZH) : Option (Int32 × ZH) :=
  if x3 ≤ x5 then ((fX10_storeFresh x0 x1 h).bind fun h2 =>
  (gR h2 10 x0 7).bind fun v3 =>
  (fX1_countEdges v3 h2).bind fun q4 =>
  some (q4.1, q4.2)) else
  ((fX10_nextDraw x4 h).bind fun q5 =>
  if (nI 8) = 0 then none else
  zl (jrem (jushr q5.1 (nI 16)) (nI 8)) fun v6 =>
  (fX10_nextDraw q5.1 q5.2).bind fun q7 =>
  if (nI 4) = 0 then none else
  zl (jrem (jushr q7.1 (nI 16)) (nI 4)) fun v8 =>
  (fX10_nextDraw q7.1 q7.2).bind fun q9 =>
  (gR q9.2 10 x0 7).bind fun v10 =>
  if (nI 8) = 0 then none else
  (fX1_put v10 v6 v8 (jrem (jushr q9.1 (nI 16)) (nI 8)) q9.2).bind fun h11 =>
  self33 (q9.1, (x5 + (nI 1)), h11))
def lX10_random_33 (x0 : Nat) (x1 : Int32) (x3 : Int32) : (Int32 × Int32 × ZH → Option (Int32 × ZH)) → Int32 × Int32 × ZH → Option (Int32 × ZH) := fun self s => kX10_random_33 x0 x1 x3 self s.1 s.2.1 s.2.2
theorem KX10_random_33 (b0 : Nat) (x0 : Nat) (x1 : Int32) (x3 : Int32) (self33 : Int32 × Int32 × ZH → Option (Int32 × ZH)) (hself33 : ∀ (y4 : Int32) (y5 : Int32) (hh : ZH), Zr zi b0 YX10_random 5 33 [(0, .ref (b0 + x0)), (1, .int x1), (3, .int x3), (4, .int y4), (5, .int y5)] [] hh (self33 (y4, y5, hh))) (x4 : Int32) (x5 : Int32) (h : ZH) : Zr zi b0 YX10_random 5 33 [(0, .ref (b0 + x0)), (1, .int x1), (3, .int x3), (4, .int x4), (5, .int x5)] [] h (kX10_random_33 x0 x1 x3 self33 x4 x5 h) := by
  unfold kX10_random_33
  refine z_iload 35 4 dX10_random_33 rfl rfl ?_
  refine z_iload_n 36 2 dX10_random_35 rfl rfl ?_
  refine z_icmp_ge 104 39 dX10_random_36 (by decide) rfl (fun c1 => ?_) (fun c1 => ?_)
  · refine z_aload_n 105 0 dX10_random_104 rfl rfl ?_
    refine z_iload_n 106 1 dX10_random_105 rfl rfl ?_
    refine z_callVv 109 (mX10_storeFresh b0 x0 x1 h) zyX10_storeFresh rfl w_407 (ci := 10) rfl (Nat.le_of_ble_eq_true rfl) (fun _ e9 => kX10_storeFresh e9) wm_yX10_storeFresh ws_yX10_storeFresh (Nat.le_of_ble_eq_true rfl) rfl (Nat.le_of_ble_eq_true rfl) dX10_random_106 rfl (fun h2 => ?_)
    refine z_aload_n 110 0 dX10_random_109 rfl rfl ?_
    refine z_getR 113 zC10 (Nat.le_of_ble_eq_true rfl) rfl w_245 dX10_random_110 rfl (fun v3 _ => ?_)
    refine z_callVi 116 (mX1_countEdges b0 v3 h2) zyX1_countEdges rfl w_333 (ci := 1) rfl (Nat.le_of_ble_eq_true rfl) (fun _ e9 => kX1_countEdges e9) wm_yX1_countEdges ws_yX1_countEdges (Nat.le_of_ble_eq_true rfl) rfl (Nat.le_of_ble_eq_true rfl) dX10_random_113 rfl (fun q4 => ?_)
    exact z_ireturn dX10_random_116 rfl
  · refine z_iload 41 3 dX10_random_39 rfl rfl ?_
    refine z_callSi 44 (mX10_nextDraw b0 x4 h) zyX10_nextDraw rfl w_416 wt_yX10_nextDraw (Nat.le_of_ble_eq_true rfl) rfl (Nat.le_of_ble_eq_true rfl) dX10_random_41 rfl (fun q5 => ?_)
    refine z_istore (lv2 := [(4, .int q5.1), (0, .ref (b0 + x0)), (1, .int x1), (3, .int x3), (5, .int x5)]) 46 dX10_random_44 rfl (Nat.le_of_ble_eq_true rfl) rfl ?_
    refine z_iload 48 0 dX10_random_46 rfl rfl ?_
    refine z_bipush (nI 16) 50 zkb_16 dX10_random_48 rfl ?_
    refine z_iushr 51 dX10_random_50 rfl ?_
    refine z_bipush (nI 8) 53 zkb_8 dX10_random_51 rfl ?_
    refine z_irem 54 dX10_random_53 rfl (fun _ => ?_)
    refine z_letI (fun v6 _ => ?_)
    refine z_istore (lv2 := [(6, .int v6), (4, .int q5.1), (0, .ref (b0 + x0)), (1, .int x1), (3, .int x3), (5, .int x5)]) 56 dX10_random_54 rfl (Nat.le_of_ble_eq_true rfl) rfl ?_
    refine z_iload 58 1 dX10_random_56 rfl rfl ?_
    refine z_callSi 61 (mX10_nextDraw b0 q5.1 q5.2) zyX10_nextDraw rfl w_416 wt_yX10_nextDraw (Nat.le_of_ble_eq_true rfl) rfl (Nat.le_of_ble_eq_true rfl) dX10_random_58 rfl (fun q7 => ?_)
    refine z_istore (lv2 := [(4, .int q7.1), (6, .int v6), (0, .ref (b0 + x0)), (1, .int x1), (3, .int x3), (5, .int x5)]) 63 dX10_random_61 rfl (Nat.le_of_ble_eq_true rfl) rfl ?_
    refine z_iload 65 0 dX10_random_63 rfl rfl ?_
    refine z_bipush (nI 16) 67 zkb_16 dX10_random_65 rfl ?_
    refine z_iushr 68 dX10_random_67 rfl ?_
    refine z_iconst (nI 4) 69 zki_4 dX10_random_68 rfl ?_
    refine z_irem 70 dX10_random_69 rfl (fun _ => ?_)
    refine z_letI (fun v8 _ => ?_)
    refine z_istore (lv2 := [(7, .int v8), (4, .int q7.1), (6, .int v6), (0, .ref (b0 + x0)), (1, .int x1), (3, .int x3), (5, .int x5)]) 72 dX10_random_70 rfl (Nat.le_of_ble_eq_true rfl) rfl ?_
    refine z_iload 74 1 dX10_random_72 rfl rfl ?_
    refine z_callSi 77 (mX10_nextDraw b0 q7.1 q7.2) zyX10_nextDraw rfl w_416 wt_yX10_nextDraw (Nat.le_of_ble_eq_true rfl) rfl (Nat.le_of_ble_eq_true rfl) dX10_random_74 rfl (fun q9 => ?_)
    refine z_istore (lv2 := [(4, .int q9.1), (7, .int v8), (6, .int v6), (0, .ref (b0 + x0)), (1, .int x1), (3, .int x3), (5, .int x5)]) 79 dX10_random_77 rfl (Nat.le_of_ble_eq_true rfl) rfl ?_
    refine z_aload_n 80 3 dX10_random_79 rfl rfl ?_
    refine z_getR 83 zC10 (Nat.le_of_ble_eq_true rfl) rfl w_245 dX10_random_80 rfl (fun v10 _ => ?_)
    refine z_iload 85 2 dX10_random_83 rfl rfl ?_
    refine z_iload 87 1 dX10_random_85 rfl rfl ?_
    refine z_iload 89 0 dX10_random_87 rfl rfl ?_
    refine z_bipush (nI 16) 91 zkb_16 dX10_random_89 rfl ?_
    refine z_iushr 92 dX10_random_91 rfl ?_
    refine z_bipush (nI 8) 94 zkb_8 dX10_random_92 rfl ?_
    refine z_irem 95 dX10_random_94 rfl (fun _ => ?_)
    refine z_callVv 98 (mX1_put b0 v10 v6 v8 (jrem (jushr q9.1 (nI 16)) (nI 8)) q9.2) zyX1_put rfl w_323 (ci := 1) rfl (Nat.le_of_ble_eq_true rfl) (fun _ e9 => kX1_put e9) wm_yX1_put ws_yX1_put (Nat.le_of_ble_eq_true rfl) rfl (Nat.le_of_ble_eq_true rfl) dX10_random_95 rfl (fun h11 => ?_)
    refine z_iinc (lv2 := [(5, .int (x5 + (nI 1))), (4, .int q9.1), (7, .int v8), (6, .int v6), (0, .ref (b0 + x0)), (1, .int x1), (3, .int x3)]) (nI 1) 101 6 dX10_random_98 rfl rfl zki_1 (Nat.le_of_ble_eq_true rfl) rfl ?_
    refine z_goto 33 dX10_random_101 (by decide) ?_
    exact z_sub [4, 5, 6, 1, 0] rfl (hself33 q9.1 (x5 + (nI 1)) h11)
theorem BX10_random_33 (b0 : Nat) (x0 : Nat) (x1 : Int32) (x3 : Int32) (n : Nat) (x4 : Int32) (x5 : Int32) (h : ZH) : Zr zi b0 YX10_random 5 33 [(0, .ref (b0 + x0)), (1, .int x1), (3, .int x3), (4, .int x4), (5, .int x5)] [] h (zloop (lX10_random_33 x0 x1 x3) n (x4, x5, h)) :=
  zloop_Zr (fun s => [(0, .ref (b0 + x0)), (1, .int x1), (3, .int x3), (4, .int s.1), (5, .int s.2.1)]) (fun _ => []) (fun s => s.2.2) (lX10_random_33 x0 x1 x3) (fun self hs s => KX10_random_33 b0 x0 x1 x3 self (fun y4 y5 hh => hs (y4, y5, hh)) s.1 s.2.1 s.2.2) n (x4, x5, h)
def bX10_random_17 (h : ZH) : Option (Int32 × ZH) :=
  some ((-2 : Int32), h)
theorem BX10_random_17 (b0 : Nat) (h : ZH) : Zr zi b0 YX10_random 5 17 [] [] h (bX10_random_17 h) := by
  unfold bX10_random_17
  refine z_bipush (-2 : Int32) 19 zkb_m2 dX10_random_17 rfl ?_
  exact z_ireturn dX10_random_19 rfl
def fX10_random (x0 : Nat) (x1 : Int32) (x2 : Int32) (x3 : Int32) (h : ZH) : Option (Int32 × ZH) :=
  if x0 < zn h ∧ zK h x0 = 10 then ((fX10_isSlot x1 h).bind fun q1 =>
  if q1.1 = 0 then (bX10_random_17 q1.2) else
  ((fX10_isWithin x3 (nI 0) (nI 24) q1.2).bind fun q3 =>
  if q3.1 = 0 then (bX10_random_17 q3.2) else
  ((gR q3.2 10 x0 7).bind fun v5 =>
  (fX1_clear v5 q3.2).bind fun h6 =>
  zloop (lX10_random_33 x0 x1 x3) zfu (x2, (nI 0), h6)))) else none
theorem kX10_random {x0 : Nat} {x1 : Int32} {x2 : Int32} {x3 : Int32} {h : ZH} {x : Int32 × ZH} (e : fX10_random x0 x1 x2 x3 h = some x) : x0 < zn h ∧ zK h x0 = 10 := by
  unfold fX10_random at e
  exact zguard e
theorem mX10_random (b0 : Nat) (x0 : Nat) (x1 : Int32) (x2 : Int32) (x3 : Int32) (h : ZH) : ZM zi b0 YX10_random 5 [.ref (b0 + x0), .int x1, .int x2, .int x3] h (fX10_random x0 x1 x2 x3 h) := by
  unfold fX10_random
  refine ZM.of (by decide) rfl (Nat.le_of_ble_eq_true rfl) (fun _ => trivial) ?_
  refine z_sub (lv2 := [(0, .ref (b0 + x0)), (1, .int x1), (2, .int x2), (3, .int x3)]) [0, 1, 2, 3] rfl ?_
  refine z_guard (fun _ => ?_)
  refine z_iload_n 1 1 dX10_random_0 rfl rfl ?_
  refine z_callSi 4 (mX10_isSlot b0 x1 h) zyX10_isSlot rfl w_297 wt_yX10_isSlot (Nat.le_of_ble_eq_true rfl) rfl (Nat.le_of_ble_eq_true rfl) dX10_random_1 rfl (fun q1 => ?_)
  refine z_if_eq 17 7 dX10_random_4 (by decide) rfl (fun c2 => ?_) (fun c2 => ?_)
  · exact z_sub [] rfl (BX10_random_17 b0 q1.2 )
  · refine z_iload_n 8 3 dX10_random_7 rfl rfl ?_
    refine z_iconst (nI 0) 9 zki_0 dX10_random_8 rfl ?_
    refine z_bipush (nI 24) 11 zkb_24 dX10_random_9 rfl ?_
    refine z_callSi 14 (mX10_isWithin b0 x3 (nI 0) (nI 24) q1.2) zyX10_isWithin rfl w_372 wt_yX10_isWithin (Nat.le_of_ble_eq_true rfl) rfl (Nat.le_of_ble_eq_true rfl) dX10_random_11 rfl (fun q3 => ?_)
    refine z_if_ne 20 17 dX10_random_14 (by decide) rfl (fun c4 => ?_) (fun c4 => ?_)
    · refine z_aload_n 21 0 dX10_random_20 rfl rfl ?_
      refine z_getR 24 zC10 (Nat.le_of_ble_eq_true rfl) rfl w_245 dX10_random_21 rfl (fun v5 _ => ?_)
      refine z_callVv 27 (mX1_clear b0 v5 q3.2) zyX1_clear rfl w_389 (ci := 1) rfl (Nat.le_of_ble_eq_true rfl) (fun _ e9 => kX1_clear e9) wm_yX1_clear ws_yX1_clear (Nat.le_of_ble_eq_true rfl) rfl (Nat.le_of_ble_eq_true rfl) dX10_random_24 rfl (fun h6 => ?_)
      refine z_iload_n 28 2 dX10_random_27 rfl rfl ?_
      refine z_istore (lv2 := [(4, .int x2), (0, .ref (b0 + x0)), (1, .int x1), (2, .int x2), (3, .int x3)]) 30 dX10_random_28 rfl (Nat.le_of_ble_eq_true rfl) rfl ?_
      refine z_iconst (nI 0) 31 zki_0 dX10_random_30 rfl ?_
      refine z_istore (lv2 := [(5, .int (nI 0)), (4, .int x2), (0, .ref (b0 + x0)), (1, .int x1), (2, .int x2), (3, .int x3)]) 33 dX10_random_31 rfl (Nat.le_of_ble_eq_true rfl) rfl ?_
      exact z_sub [2, 3, 5, 1, 0] rfl (BX10_random_33 b0 x0 x1 x3 zfu x2 (nI 0) h6)
    · exact z_sub [] rfl (BX10_random_17 b0 q3.2 )
-- X10_essential
def bX10_essential_21 (t0 : Int32) (h : ZH) : Option (Int32 × ZH) :=
  some (t0, h)
theorem BX10_essential_21 (b0 : Nat) (t0 : Int32) (h : ZH) : Zr zi b0 YX10_essential 4 21 [] [.int t0] h (bX10_essential_21 t0 h) := by
  unfold bX10_essential_21
  exact z_ireturn dX10_essential_21 rfl
def fX10_essential (x0 : Nat) (x1 : Int32) (h : ZH) : Option (Int32 × ZH) :=
  if x0 < zn h ∧ zK h x0 = 10 then ((fX10_isSlot x1 h).bind fun q1 =>
  if q1.1 = 0 then (bX10_essential_21 (-2 : Int32) q1.2) else
  ((gR q1.2 10 x0 0).bind fun v3 =>
  (lR q1.2 17 v3 x1).bind fun v4 =>
  (fX1_core v4 q1.2).bind fun q5 =>
  bX10_essential_21 q5.1 q5.2)) else none
theorem kX10_essential {x0 : Nat} {x1 : Int32} {h : ZH} {x : Int32 × ZH} (e : fX10_essential x0 x1 h = some x) : x0 < zn h ∧ zK h x0 = 10 := by
  unfold fX10_essential at e
  exact zguard e
theorem mX10_essential (b0 : Nat) (x0 : Nat) (x1 : Int32) (h : ZH) : ZM zi b0 YX10_essential 4 [.ref (b0 + x0), .int x1] h (fX10_essential x0 x1 h) := by
  unfold fX10_essential
  refine ZM.of (by decide) rfl (Nat.le_of_ble_eq_true rfl) (fun _ => trivial) ?_
  refine z_sub (lv2 := [(0, .ref (b0 + x0)), (1, .int x1)]) [0, 1] rfl ?_
  refine z_guard (fun _ => ?_)
  refine z_iload_n 1 1 dX10_essential_0 rfl rfl ?_
  refine z_callSi 4 (mX10_isSlot b0 x1 h) zyX10_isSlot rfl w_297 wt_yX10_isSlot (Nat.le_of_ble_eq_true rfl) rfl (Nat.le_of_ble_eq_true rfl) dX10_essential_1 rfl (fun q1 => ?_)
  refine z_if_eq 19 7 dX10_essential_4 (by decide) rfl (fun c2 => ?_) (fun c2 => ?_)
  · refine z_bipush (-2 : Int32) 21 zkb_m2 dX10_essential_19 rfl ?_
    exact z_sub [] rfl (BX10_essential_21 b0 (-2 : Int32) q1.2 )
  · refine z_aload_n 8 0 dX10_essential_7 rfl rfl ?_
    refine z_getR 11 zC10 (Nat.le_of_ble_eq_true rfl) rfl w_238 dX10_essential_8 rfl (fun v3 _ => ?_)
    refine z_iload_n 12 1 dX10_essential_11 rfl rfl ?_
    refine z_aaload17 13 dX10_essential_12 rfl (fun v4 _ => ?_)
    refine z_callVi 16 (mX1_core b0 v4 q1.2) zyX1_core rfl w_424 (ci := 1) rfl (Nat.le_of_ble_eq_true rfl) (fun _ e9 => kX1_core e9) wm_yX1_core ws_yX1_core (Nat.le_of_ble_eq_true rfl) rfl (Nat.le_of_ble_eq_true rfl) dX10_essential_13 rfl (fun q5 => ?_)
    refine z_goto 21 dX10_essential_16 (by decide) ?_
    exact z_sub [] rfl (BX10_essential_21 b0 q5.1 q5.2 )
-- X10_isIrreducible
def bX10_isIrreducible_38 (t0 : Int32) (h : ZH) : Option (Int32 × ZH) :=
  some (t0, h)
theorem BX10_isIrreducible_38 (b0 : Nat) (t0 : Int32) (h : ZH) : Zr zi b0 YX10_isIrreducible 5 38 [] [.int t0] h (bX10_isIrreducible_38 t0 h) := by
  unfold bX10_isIrreducible_38
  exact z_ireturn dX10_isIrreducible_38 rfl
def fX10_isIrreducible (x0 : Nat) (x1 : Int32) (h : ZH) : Option (Int32 × ZH) :=
  if x0 < zn h ∧ zK h x0 = 10 then ((fX10_isSlot x1 h).bind fun q1 =>
  if q1.1 = 0 then (some ((-2 : Int32), q1.2)) else
  ((gR q1.2 10 x0 8).bind fun v3 =>
  (gR q1.2 10 x0 0).bind fun v4 =>
  (lR q1.2 17 v4 x1).bind fun v5 =>
  (fX1_copyCoreOf v3 v5 q1.2).bind fun h6 =>
  (gR h6 10 x0 8).bind fun v7 =>
  (fX1_isStronglyConnected v7 h6).bind fun q8 =>
  if q8.1 = 0 then (bX10_isIrreducible_38 (nI 0) q8.2) else
  (bX10_isIrreducible_38 (nI 1) q8.2))) else none
theorem kX10_isIrreducible {x0 : Nat} {x1 : Int32} {h : ZH} {x : Int32 × ZH} (e : fX10_isIrreducible x0 x1 h = some x) : x0 < zn h ∧ zK h x0 = 10 := by
  unfold fX10_isIrreducible at e
  exact zguard e
theorem mX10_isIrreducible (b0 : Nat) (x0 : Nat) (x1 : Int32) (h : ZH) : ZM zi b0 YX10_isIrreducible 5 [.ref (b0 + x0), .int x1] h (fX10_isIrreducible x0 x1 h) := by
  unfold fX10_isIrreducible
  refine ZM.of (by decide) rfl (Nat.le_of_ble_eq_true rfl) (fun _ => trivial) ?_
  refine z_sub (lv2 := [(0, .ref (b0 + x0)), (1, .int x1)]) [0, 1] rfl ?_
  refine z_guard (fun _ => ?_)
  refine z_iload_n 1 1 dX10_isIrreducible_0 rfl rfl ?_
  refine z_callSi 4 (mX10_isSlot b0 x1 h) zyX10_isSlot rfl w_297 wt_yX10_isSlot (Nat.le_of_ble_eq_true rfl) rfl (Nat.le_of_ble_eq_true rfl) dX10_isIrreducible_1 rfl (fun q1 => ?_)
  refine z_if_ne 10 7 dX10_isIrreducible_4 (by decide) rfl (fun c2 => ?_) (fun c2 => ?_)
  · refine z_aload_n 11 0 dX10_isIrreducible_10 rfl rfl ?_
    refine z_getR 14 zC10 (Nat.le_of_ble_eq_true rfl) rfl w_246 dX10_isIrreducible_11 rfl (fun v3 _ => ?_)
    refine z_aload_n 15 0 dX10_isIrreducible_14 rfl rfl ?_
    refine z_getR 18 zC10 (Nat.le_of_ble_eq_true rfl) rfl w_238 dX10_isIrreducible_15 rfl (fun v4 _ => ?_)
    refine z_iload_n 19 1 dX10_isIrreducible_18 rfl rfl ?_
    refine z_aaload17 20 dX10_isIrreducible_19 rfl (fun v5 _ => ?_)
    refine z_callVv 23 (mX1_copyCoreOf b0 v3 v5 q1.2) zyX1_copyCoreOf rfl w_444 (ci := 1) rfl (Nat.le_of_ble_eq_true rfl) (fun _ e9 => kX1_copyCoreOf e9) wm_yX1_copyCoreOf ws_yX1_copyCoreOf (Nat.le_of_ble_eq_true rfl) rfl (Nat.le_of_ble_eq_true rfl) dX10_isIrreducible_20 rfl (fun h6 => ?_)
    refine z_aload_n 24 0 dX10_isIrreducible_23 rfl rfl ?_
    refine z_getR 27 zC10 (Nat.le_of_ble_eq_true rfl) rfl w_246 dX10_isIrreducible_24 rfl (fun v7 _ => ?_)
    refine z_callVi 30 (mX1_isStronglyConnected b0 v7 h6) zyX1_isStronglyConnected rfl w_449 (ci := 1) rfl (Nat.le_of_ble_eq_true rfl) (fun _ e9 => kX1_isStronglyConnected e9) wm_yX1_isStronglyConnected ws_yX1_isStronglyConnected (Nat.le_of_ble_eq_true rfl) rfl (Nat.le_of_ble_eq_true rfl) dX10_isIrreducible_27 rfl (fun q8 => ?_)
    refine z_if_eq 37 33 dX10_isIrreducible_30 (by decide) rfl (fun c9 => ?_) (fun c9 => ?_)
    · refine z_iconst (nI 0) 38 zki_0 dX10_isIrreducible_37 rfl ?_
      exact z_sub [] rfl (BX10_isIrreducible_38 b0 (nI 0) q8.2 )
    · refine z_iconst (nI 1) 34 zki_1 dX10_isIrreducible_33 rfl ?_
      refine z_goto 38 dX10_isIrreducible_34 (by decide) ?_
      exact z_sub [] rfl (BX10_isIrreducible_38 b0 (nI 1) q8.2 )
  · refine z_bipush (-2 : Int32) 9 zkb_m2 dX10_isIrreducible_7 rfl ?_
    exact z_ireturn dX10_isIrreducible_9 rfl
-- X10_period
def fX10_period (x0 : Nat) (x1 : Int32) (h : ZH) : Option (Int32 × ZH) :=
  if x0 < zn h ∧ zK h x0 = 10 then ((fX10_isSlot x1 h).bind fun q1 =>
  if q1.1 = 0 then (some ((-2 : Int32), q1.2)) else
  ((gR q1.2 10 x0 8).bind fun v3 =>
  (gR q1.2 10 x0 0).bind fun v4 =>
  (lR q1.2 17 v4 x1).bind fun v5 =>
  (fX1_copyCoreOf v3 v5 q1.2).bind fun h6 =>
  (gR h6 10 x0 8).bind fun v7 =>
  (fX1_cycleDivisor v7 h6).bind fun q8 =>
  some (q8.1, q8.2))) else none
theorem kX10_period {x0 : Nat} {x1 : Int32} {h : ZH} {x : Int32 × ZH} (e : fX10_period x0 x1 h = some x) : x0 < zn h ∧ zK h x0 = 10 := by
  unfold fX10_period at e
  exact zguard e
theorem mX10_period (b0 : Nat) (x0 : Nat) (x1 : Int32) (h : ZH) : ZM zi b0 YX10_period 5 [.ref (b0 + x0), .int x1] h (fX10_period x0 x1 h) := by
  unfold fX10_period
  refine ZM.of (by decide) rfl (Nat.le_of_ble_eq_true rfl) (fun _ => trivial) ?_
  refine z_sub (lv2 := [(0, .ref (b0 + x0)), (1, .int x1)]) [0, 1] rfl ?_
  refine z_guard (fun _ => ?_)
  refine z_iload_n 1 1 dX10_period_0 rfl rfl ?_
  refine z_callSi 4 (mX10_isSlot b0 x1 h) zyX10_isSlot rfl w_297 wt_yX10_isSlot (Nat.le_of_ble_eq_true rfl) rfl (Nat.le_of_ble_eq_true rfl) dX10_period_1 rfl (fun q1 => ?_)
  refine z_if_ne 10 7 dX10_period_4 (by decide) rfl (fun c2 => ?_) (fun c2 => ?_)
  · refine z_aload_n 11 0 dX10_period_10 rfl rfl ?_
    refine z_getR 14 zC10 (Nat.le_of_ble_eq_true rfl) rfl w_246 dX10_period_11 rfl (fun v3 _ => ?_)
    refine z_aload_n 15 0 dX10_period_14 rfl rfl ?_
    refine z_getR 18 zC10 (Nat.le_of_ble_eq_true rfl) rfl w_238 dX10_period_15 rfl (fun v4 _ => ?_)
    refine z_iload_n 19 1 dX10_period_18 rfl rfl ?_
    refine z_aaload17 20 dX10_period_19 rfl (fun v5 _ => ?_)
    refine z_callVv 23 (mX1_copyCoreOf b0 v3 v5 q1.2) zyX1_copyCoreOf rfl w_444 (ci := 1) rfl (Nat.le_of_ble_eq_true rfl) (fun _ e9 => kX1_copyCoreOf e9) wm_yX1_copyCoreOf ws_yX1_copyCoreOf (Nat.le_of_ble_eq_true rfl) rfl (Nat.le_of_ble_eq_true rfl) dX10_period_20 rfl (fun h6 => ?_)
    refine z_aload_n 24 0 dX10_period_23 rfl rfl ?_
    refine z_getR 27 zC10 (Nat.le_of_ble_eq_true rfl) rfl w_246 dX10_period_24 rfl (fun v7 _ => ?_)
    refine z_callVi 30 (mX1_cycleDivisor b0 v7 h6) zyX1_cycleDivisor rfl w_457 (ci := 1) rfl (Nat.le_of_ble_eq_true rfl) (fun _ e9 => kX1_cycleDivisor e9) wm_yX1_cycleDivisor ws_yX1_cycleDivisor (Nat.le_of_ble_eq_true rfl) rfl (Nat.le_of_ble_eq_true rfl) dX10_period_27 rfl (fun q8 => ?_)
    exact z_ireturn dX10_period_30 rfl
  · refine z_bipush (-2 : Int32) 9 zkb_m2 dX10_period_7 rfl ?_
    exact z_ireturn dX10_period_9 rfl
-- X10_loadSubsets
def fX10_loadSubsets (x0 : Nat) (x1 : Nat) (h : ZH) : Option (ZH) :=
  if x0 < zn h ∧ zK h x0 = 10 then ((gR h 10 x0 8).bind fun v1 =>
  (fX1_copyCoreOf v1 x1 h).bind fun h2 =>
  (gR h2 10 x0 10).bind fun v3 =>
  (gR h2 10 x0 8).bind fun v4 =>
  (fX6_build v3 v4 h2).bind fun h5 =>
  some h5) else none
theorem kX10_loadSubsets {x0 : Nat} {x1 : Nat} {h : ZH} {x : ZH} (e : fX10_loadSubsets x0 x1 h = some x) : x0 < zn h ∧ zK h x0 = 10 := by
  unfold fX10_loadSubsets at e
  exact zguard e
theorem mX10_loadSubsets (b0 : Nat) (x0 : Nat) (x1 : Nat) (h : ZH) : ZM zv b0 YX10_loadSubsets 5 [.ref (b0 + x0), .ref (b0 + x1)] h (fX10_loadSubsets x0 x1 h) := by
  unfold fX10_loadSubsets
  refine ZM.of (by decide) rfl (Nat.le_of_ble_eq_true rfl) (fun _ => trivial) ?_
  refine z_sub (lv2 := [(0, .ref (b0 + x0)), (1, .ref (b0 + x1))]) [0, 1] rfl ?_
  refine z_guard (fun _ => ?_)
  refine z_aload_n 1 0 dX10_loadSubsets_0 rfl rfl ?_
  refine z_getR 4 zC10 (Nat.le_of_ble_eq_true rfl) rfl w_246 dX10_loadSubsets_1 rfl (fun v1 _ => ?_)
  refine z_aload_n 5 1 dX10_loadSubsets_4 rfl rfl ?_
  refine z_callVv 8 (mX1_copyCoreOf b0 v1 x1 h) zyX1_copyCoreOf rfl w_444 (ci := 1) rfl (Nat.le_of_ble_eq_true rfl) (fun _ e9 => kX1_copyCoreOf e9) wm_yX1_copyCoreOf ws_yX1_copyCoreOf (Nat.le_of_ble_eq_true rfl) rfl (Nat.le_of_ble_eq_true rfl) dX10_loadSubsets_5 rfl (fun h2 => ?_)
  refine z_aload_n 9 0 dX10_loadSubsets_8 rfl rfl ?_
  refine z_getR 12 zC10 (Nat.le_of_ble_eq_true rfl) rfl w_248 dX10_loadSubsets_9 rfl (fun v3 _ => ?_)
  refine z_aload_n 13 0 dX10_loadSubsets_12 rfl rfl ?_
  refine z_getR 16 zC10 (Nat.le_of_ble_eq_true rfl) rfl w_246 dX10_loadSubsets_13 rfl (fun v4 _ => ?_)
  refine z_callVv 19 (mX6_build b0 v3 v4 h2) zyX6_build rfl w_477 (ci := 6) rfl (Nat.le_of_ble_eq_true rfl) (fun _ e9 => kX6_build e9) wm_yX6_build ws_yX6_build (Nat.le_of_ble_eq_true rfl) rfl (Nat.le_of_ble_eq_true rfl) dX10_loadSubsets_16 rfl (fun h5 => ?_)
  exact z_return dX10_loadSubsets_19 rfl
-- X10_countWords
def fX10_countWords (x0 : Nat) (x1 : Nat) (x2 : Int32) (h : ZH) : Option (ZH) :=
  if x0 < zn h ∧ zK h x0 = 10 then ((fX10_loadSubsets x0 x1 h).bind fun h1 =>
  (gR h1 10 x0 12).bind fun v2 =>
  (gR h1 10 x0 10).bind fun v3 =>
  (fX9_fill v2 v3 x2 h1).bind fun h4 =>
  some h4) else none
theorem kX10_countWords {x0 : Nat} {x1 : Nat} {x2 : Int32} {h : ZH} {x : ZH} (e : fX10_countWords x0 x1 x2 h = some x) : x0 < zn h ∧ zK h x0 = 10 := by
  unfold fX10_countWords at e
  exact zguard e
theorem mX10_countWords (b0 : Nat) (x0 : Nat) (x1 : Nat) (x2 : Int32) (h : ZH) : ZM zv b0 YX10_countWords 6 [.ref (b0 + x0), .ref (b0 + x1), .int x2] h (fX10_countWords x0 x1 x2 h) := by
  unfold fX10_countWords
  refine ZM.of (by decide) rfl (Nat.le_of_ble_eq_true rfl) (fun _ => trivial) ?_
  refine z_sub (lv2 := [(0, .ref (b0 + x0)), (1, .ref (b0 + x1)), (2, .int x2)]) [0, 1, 2] rfl ?_
  refine z_guard (fun _ => ?_)
  refine z_aload_n 1 0 dX10_countWords_0 rfl rfl ?_
  refine z_aload_n 2 1 dX10_countWords_1 rfl rfl ?_
  refine z_callVv 5 (mX10_loadSubsets b0 x0 x1 h) zyX10_loadSubsets rfl w_473 (ci := 10) rfl (Nat.le_of_ble_eq_true rfl) (fun _ e9 => kX10_loadSubsets e9) wm_yX10_loadSubsets ws_yX10_loadSubsets (Nat.le_of_ble_eq_true rfl) rfl (Nat.le_of_ble_eq_true rfl) dX10_countWords_2 rfl (fun h1 => ?_)
  refine z_aload_n 6 0 dX10_countWords_5 rfl rfl ?_
  refine z_getR 9 zC10 (Nat.le_of_ble_eq_true rfl) rfl w_250 dX10_countWords_6 rfl (fun v2 _ => ?_)
  refine z_aload_n 10 0 dX10_countWords_9 rfl rfl ?_
  refine z_getR 13 zC10 (Nat.le_of_ble_eq_true rfl) rfl w_248 dX10_countWords_10 rfl (fun v3 _ => ?_)
  refine z_iload_n 14 2 dX10_countWords_13 rfl rfl ?_
  refine z_callVv 17 (mX9_fill b0 v2 v3 x2 h1) zyX9_fill rfl w_491 (ci := 9) rfl (Nat.le_of_ble_eq_true rfl) (fun _ e9 => kX9_fill e9) wm_yX9_fill ws_yX9_fill (Nat.le_of_ble_eq_true rfl) rfl (Nat.le_of_ble_eq_true rfl) dX10_countWords_14 rfl (fun h4 => ?_)
  exact z_return dX10_countWords_17 rfl
-- X10_words
def bX10_words_17 (h : ZH) : Option (Int64 × ZH) :=
  some ((-2 : Int64), h)
theorem BX10_words_17 (b0 : Nat) (h : ZH) : Zr zj b0 YX10_words 7 17 [] [] h (bX10_words_17 h) := by
  unfold bX10_words_17
  refine z_ldc2 20 w_468 dX10_words_17 rfl ?_
  exact z_lreturn dX10_words_20 rfl
def fX10_words (x0 : Nat) (x1 : Int32) (x2 : Int32) (h : ZH) : Option (Int64 × ZH) :=
  if x0 < zn h ∧ zK h x0 = 10 then ((fX10_isSlot x1 h).bind fun q1 =>
  if q1.1 = 0 then (bX10_words_17 q1.2) else
  ((fX10_isWithin x2 (nI 0) (nI 30) q1.2).bind fun q3 =>
  if q3.1 = 0 then (bX10_words_17 q3.2) else
  ((gR q3.2 10 x0 0).bind fun v5 =>
  (lR q3.2 17 v5 x1).bind fun v6 =>
  (fX10_countWords x0 v6 x2 q3.2).bind fun h7 =>
  (gR h7 10 x0 12).bind fun v8 =>
  (fX9_total v8 x2 h7).bind fun q9 =>
  some (q9.1, q9.2)))) else none
theorem kX10_words {x0 : Nat} {x1 : Int32} {x2 : Int32} {h : ZH} {x : Int64 × ZH} (e : fX10_words x0 x1 x2 h = some x) : x0 < zn h ∧ zK h x0 = 10 := by
  unfold fX10_words at e
  exact zguard e
theorem mX10_words (b0 : Nat) (x0 : Nat) (x1 : Int32) (x2 : Int32) (h : ZH) : ZM zj b0 YX10_words 7 [.ref (b0 + x0), .int x1, .int x2] h (fX10_words x0 x1 x2 h) := by
  unfold fX10_words
  refine ZM.of (by decide) rfl (Nat.le_of_ble_eq_true rfl) (fun _ => trivial) ?_
  refine z_sub (lv2 := [(0, .ref (b0 + x0)), (1, .int x1), (2, .int x2)]) [0, 1, 2] rfl ?_
  refine z_guard (fun _ => ?_)
  refine z_iload_n 1 1 dX10_words_0 rfl rfl ?_
  refine z_callSi 4 (mX10_isSlot b0 x1 h) zyX10_isSlot rfl w_297 wt_yX10_isSlot (Nat.le_of_ble_eq_true rfl) rfl (Nat.le_of_ble_eq_true rfl) dX10_words_1 rfl (fun q1 => ?_)
  refine z_if_eq 17 7 dX10_words_4 (by decide) rfl (fun c2 => ?_) (fun c2 => ?_)
  · exact z_sub [] rfl (BX10_words_17 b0 q1.2 )
  · refine z_iload_n 8 2 dX10_words_7 rfl rfl ?_
    refine z_iconst (nI 0) 9 zki_0 dX10_words_8 rfl ?_
    refine z_bipush (nI 30) 11 zkb_30 dX10_words_9 rfl ?_
    refine z_callSi 14 (mX10_isWithin b0 x2 (nI 0) (nI 30) q1.2) zyX10_isWithin rfl w_372 wt_yX10_isWithin (Nat.le_of_ble_eq_true rfl) rfl (Nat.le_of_ble_eq_true rfl) dX10_words_11 rfl (fun q3 => ?_)
    refine z_if_ne 21 17 dX10_words_14 (by decide) rfl (fun c4 => ?_) (fun c4 => ?_)
    · refine z_aload_n 22 0 dX10_words_21 rfl rfl ?_
      refine z_aload_n 23 0 dX10_words_22 rfl rfl ?_
      refine z_getR 26 zC10 (Nat.le_of_ble_eq_true rfl) rfl w_238 dX10_words_23 rfl (fun v5 _ => ?_)
      refine z_iload_n 27 1 dX10_words_26 rfl rfl ?_
      refine z_aaload17 28 dX10_words_27 rfl (fun v6 _ => ?_)
      refine z_iload_n 29 2 dX10_words_28 rfl rfl ?_
      refine z_callVv 32 (mX10_countWords b0 x0 v6 x2 q3.2) zyX10_countWords rfl w_469 (ci := 10) rfl (Nat.le_of_ble_eq_true rfl) (fun _ e9 => kX10_countWords e9) wm_yX10_countWords ws_yX10_countWords (Nat.le_of_ble_eq_true rfl) rfl (Nat.le_of_ble_eq_true rfl) dX10_words_29 rfl (fun h7 => ?_)
      refine z_aload_n 33 0 dX10_words_32 rfl rfl ?_
      refine z_getR 36 zC10 (Nat.le_of_ble_eq_true rfl) rfl w_250 dX10_words_33 rfl (fun v8 _ => ?_)
      refine z_iload_n 37 2 dX10_words_36 rfl rfl ?_
      refine z_callVj 40 (mX9_total b0 v8 x2 h7) zyX9_total rfl w_511 (ci := 9) rfl (Nat.le_of_ble_eq_true rfl) (fun _ e9 => kX9_total e9) wm_yX9_total ws_yX9_total (Nat.le_of_ble_eq_true rfl) rfl (Nat.le_of_ble_eq_true rfl) dX10_words_37 rfl (fun q9 => ?_)
      exact z_lreturn dX10_words_40 rfl
    · exact z_sub [] rfl (BX10_words_17 b0 q3.2 )
-- X10_growth
def bX10_growth_109 (x8 : Int64) (t0 : Int64) (h : ZH) : Option (Int64 × ZH) :=
  if x8 = 0 then none else
  some ((t0 / x8), h)
theorem BX10_growth_109 (b0 : Nat) (x8 : Int64) (t0 : Int64) (h : ZH) : Zr zj b0 YX10_growth 7 109 [(8, .long x8)] [.long t0] h (bX10_growth_109 x8 t0 h) := by
  unfold bX10_growth_109
  refine z_lload 111 0 dX10_growth_109 rfl rfl ?_
  refine z_ldiv 112 dX10_growth_111 rfl (fun _ => ?_)
  exact z_lreturn dX10_growth_112 rfl
def bX10_growth_97 (t0 : Int64) (h : ZH) : Option (Int64 × ZH) :=
  some (t0, h)
theorem BX10_growth_97 (b0 : Nat) (t0 : Int64) (h : ZH) : Zr zj b0 YX10_growth 7 97 [] [.long t0] h (bX10_growth_97 t0 h) := by
  unfold bX10_growth_97
  exact z_lreturn dX10_growth_97 rfl
def bX10_growth_88 (x3 : Int32) (h : ZH) : Option (Int64 × ZH) :=
  if x3 = 0 then (bX10_growth_97 (lN 0) h) else
  (bX10_growth_97 (lN 1) h)
theorem BX10_growth_88 (b0 : Nat) (x3 : Int32) (h : ZH) : Zr zj b0 YX10_growth 7 88 [(3, .int x3)] [] h (bX10_growth_88 x3 h) := by
  unfold bX10_growth_88
  refine z_iload_n 89 0 dX10_growth_88 rfl rfl ?_
  refine z_if_ne 96 92 dX10_growth_89 (by decide) rfl (fun c1 => ?_) (fun c1 => ?_)
  · refine z_lconst (lN 1) 97 rfl dX10_growth_96 rfl ?_
    exact z_sub [] rfl (BX10_growth_97 b0 (lN 1) h )
  · refine z_lconst (lN 0) 93 rfl dX10_growth_92 rfl ?_
    refine z_goto 97 dX10_growth_93 (by decide) ?_
    exact z_sub [] rfl (BX10_growth_97 b0 (lN 0) h )
def bX10_growth_26 (h : ZH) : Option (Int64 × ZH) :=
  some ((-2 : Int64), h)
theorem BX10_growth_26 (b0 : Nat) (h : ZH) : Zr zj b0 YX10_growth 7 26 [] [] h (bX10_growth_26 h) := by
  unfold bX10_growth_26
  refine z_ldc2 29 w_468 dX10_growth_26 rfl ?_
  exact z_lreturn dX10_growth_29 rfl
def fX10_growth (x0 : Nat) (x1 : Int32) (x2 : Int32) (x3 : Int32) (h : ZH) : Option (Int64 × ZH) :=
  if x0 < zn h ∧ zK h x0 = 10 then ((fX10_isSlot x1 h).bind fun q1 =>
  if q1.1 = 0 then (bX10_growth_26 q1.2) else
  ((fX10_isWithin x2 (nI 0) (nI 29) q1.2).bind fun q3 =>
  if q3.1 = 0 then (bX10_growth_26 q3.2) else
  ((fX10_isWithin x3 (nI 0) (nI 1) q3.2).bind fun q5 =>
  if q5.1 = 0 then (bX10_growth_26 q5.2) else
  ((gR q5.2 10 x0 0).bind fun v7 =>
  (lR q5.2 17 v7 x1).bind fun v8 =>
  (fX10_countWords x0 v8 (x2 + (nI 1)) q5.2).bind fun h9 =>
  (gR h9 10 x0 12).bind fun v10 =>
  (fX9_total v10 (x2 + (nI 1)) h9).bind fun q11 =>
  (gR q11.2 10 x0 12).bind fun v12 =>
  (fX9_total v12 x2 q11.2).bind fun q13 =>
  (fX10_commonDivisor q11.1 q13.1 q13.2).bind fun q14 =>
  if (lg_cmp q13.1 (lN 0)) = 0 then (bX10_growth_88 x3 q14.2) else
  (if (lg_cmp q14.1 (lN 0)) = 0 then (bX10_growth_88 x3 q14.2) else
  (if x3 = 0 then (bX10_growth_109 q14.1 q11.1 q14.2) else
  (bX10_growth_109 q14.1 q13.1 q14.2))))))) else none
theorem kX10_growth {x0 : Nat} {x1 : Int32} {x2 : Int32} {x3 : Int32} {h : ZH} {x : Int64 × ZH} (e : fX10_growth x0 x1 x2 x3 h = some x) : x0 < zn h ∧ zK h x0 = 10 := by
  unfold fX10_growth at e
  exact zguard e
theorem mX10_growth (b0 : Nat) (x0 : Nat) (x1 : Int32) (x2 : Int32) (x3 : Int32) (h : ZH) : ZM zj b0 YX10_growth 7 [.ref (b0 + x0), .int x1, .int x2, .int x3] h (fX10_growth x0 x1 x2 x3 h) := by
  unfold fX10_growth
  refine ZM.of (by decide) rfl (Nat.le_of_ble_eq_true rfl) (fun _ => trivial) ?_
  refine z_sub (lv2 := [(0, .ref (b0 + x0)), (1, .int x1), (2, .int x2), (3, .int x3)]) [0, 1, 2, 3] rfl ?_
  refine z_guard (fun _ => ?_)
  refine z_iload_n 1 1 dX10_growth_0 rfl rfl ?_
  refine z_callSi 4 (mX10_isSlot b0 x1 h) zyX10_isSlot rfl w_297 wt_yX10_isSlot (Nat.le_of_ble_eq_true rfl) rfl (Nat.le_of_ble_eq_true rfl) dX10_growth_1 rfl (fun q1 => ?_)
  refine z_if_eq 26 7 dX10_growth_4 (by decide) rfl (fun c2 => ?_) (fun c2 => ?_)
  · exact z_sub [] rfl (BX10_growth_26 b0 q1.2 )
  · refine z_iload_n 8 2 dX10_growth_7 rfl rfl ?_
    refine z_iconst (nI 0) 9 zki_0 dX10_growth_8 rfl ?_
    refine z_bipush (nI 29) 11 zkb_29 dX10_growth_9 rfl ?_
    refine z_callSi 14 (mX10_isWithin b0 x2 (nI 0) (nI 29) q1.2) zyX10_isWithin rfl w_372 wt_yX10_isWithin (Nat.le_of_ble_eq_true rfl) rfl (Nat.le_of_ble_eq_true rfl) dX10_growth_11 rfl (fun q3 => ?_)
    refine z_if_eq 26 17 dX10_growth_14 (by decide) rfl (fun c4 => ?_) (fun c4 => ?_)
    · exact z_sub [] rfl (BX10_growth_26 b0 q3.2 )
    · refine z_iload_n 18 3 dX10_growth_17 rfl rfl ?_
      refine z_iconst (nI 0) 19 zki_0 dX10_growth_18 rfl ?_
      refine z_iconst (nI 1) 20 zki_1 dX10_growth_19 rfl ?_
      refine z_callSi 23 (mX10_isWithin b0 x3 (nI 0) (nI 1) q3.2) zyX10_isWithin rfl w_372 wt_yX10_isWithin (Nat.le_of_ble_eq_true rfl) rfl (Nat.le_of_ble_eq_true rfl) dX10_growth_20 rfl (fun q5 => ?_)
      refine z_if_ne 30 26 dX10_growth_23 (by decide) rfl (fun c6 => ?_) (fun c6 => ?_)
      · refine z_aload_n 31 0 dX10_growth_30 rfl rfl ?_
        refine z_aload_n 32 0 dX10_growth_31 rfl rfl ?_
        refine z_getR 35 zC10 (Nat.le_of_ble_eq_true rfl) rfl w_238 dX10_growth_32 rfl (fun v7 _ => ?_)
        refine z_iload_n 36 1 dX10_growth_35 rfl rfl ?_
        refine z_aaload17 37 dX10_growth_36 rfl (fun v8 _ => ?_)
        refine z_iload_n 38 2 dX10_growth_37 rfl rfl ?_
        refine z_iconst (nI 1) 39 zki_1 dX10_growth_38 rfl ?_
        refine z_iadd 40 dX10_growth_39 rfl ?_
        refine z_callVv 43 (mX10_countWords b0 x0 v8 (x2 + (nI 1)) q5.2) zyX10_countWords rfl w_469 (ci := 10) rfl (Nat.le_of_ble_eq_true rfl) (fun _ e9 => kX10_countWords e9) wm_yX10_countWords ws_yX10_countWords (Nat.le_of_ble_eq_true rfl) rfl (Nat.le_of_ble_eq_true rfl) dX10_growth_40 rfl (fun h9 => ?_)
        refine z_aload_n 44 0 dX10_growth_43 rfl rfl ?_
        refine z_getR 47 zC10 (Nat.le_of_ble_eq_true rfl) rfl w_250 dX10_growth_44 rfl (fun v10 _ => ?_)
        refine z_iload_n 48 2 dX10_growth_47 rfl rfl ?_
        refine z_iconst (nI 1) 49 zki_1 dX10_growth_48 rfl ?_
        refine z_iadd 50 dX10_growth_49 rfl ?_
        refine z_callVj 53 (mX9_total b0 v10 (x2 + (nI 1)) h9) zyX9_total rfl w_511 (ci := 9) rfl (Nat.le_of_ble_eq_true rfl) (fun _ e9 => kX9_total e9) wm_yX9_total ws_yX9_total (Nat.le_of_ble_eq_true rfl) rfl (Nat.le_of_ble_eq_true rfl) dX10_growth_50 rfl (fun q11 => ?_)
        refine z_lstore (lv2 := [(4, .long q11.1), (0, .ref (b0 + x0)), (1, .int x1), (2, .int x2), (3, .int x3)]) 55 dX10_growth_53 rfl (Nat.le_of_ble_eq_true rfl) rfl ?_
        refine z_aload_n 56 1 dX10_growth_55 rfl rfl ?_
        refine z_getR 59 zC10 (Nat.le_of_ble_eq_true rfl) rfl w_250 dX10_growth_56 rfl (fun v12 _ => ?_)
        refine z_iload_n 60 3 dX10_growth_59 rfl rfl ?_
        refine z_callVj 63 (mX9_total b0 v12 x2 q11.2) zyX9_total rfl w_511 (ci := 9) rfl (Nat.le_of_ble_eq_true rfl) (fun _ e9 => kX9_total e9) wm_yX9_total ws_yX9_total (Nat.le_of_ble_eq_true rfl) rfl (Nat.le_of_ble_eq_true rfl) dX10_growth_60 rfl (fun q13 => ?_)
        refine z_lstore (lv2 := [(6, .long q13.1), (4, .long q11.1), (0, .ref (b0 + x0)), (1, .int x1), (2, .int x2), (3, .int x3)]) 65 dX10_growth_63 rfl (Nat.le_of_ble_eq_true rfl) rfl ?_
        refine z_lload 67 1 dX10_growth_65 rfl rfl ?_
        refine z_lload 69 0 dX10_growth_67 rfl rfl ?_
        refine z_callSj 72 (mX10_commonDivisor b0 q11.1 q13.1 q13.2) zyX10_commonDivisor rfl w_519 wt_yX10_commonDivisor (Nat.le_of_ble_eq_true rfl) rfl (Nat.le_of_ble_eq_true rfl) dX10_growth_69 rfl (fun q14 => ?_)
        refine z_lstore (lv2 := [(8, .long q14.1), (6, .long q13.1), (4, .long q11.1), (0, .ref (b0 + x0)), (1, .int x1), (2, .int x2), (3, .int x3)]) 74 dX10_growth_72 rfl (Nat.le_of_ble_eq_true rfl) rfl ?_
        refine z_lload 76 1 dX10_growth_74 rfl rfl ?_
        refine z_lconst (lN 0) 77 rfl dX10_growth_76 rfl ?_
        refine z_lcmp 78 dX10_growth_77 rfl ?_
        refine z_if_eq 88 81 dX10_growth_78 (by decide) rfl (fun c15 => ?_) (fun c15 => ?_)
        · exact z_sub [6] rfl (BX10_growth_88 b0 x3 q14.2 )
        · refine z_lload 83 0 dX10_growth_81 rfl rfl ?_
          refine z_lconst (lN 0) 84 rfl dX10_growth_83 rfl ?_
          refine z_lcmp 85 dX10_growth_84 rfl ?_
          refine z_if_ne 98 88 dX10_growth_85 (by decide) rfl (fun c16 => ?_) (fun c16 => ?_)
          · refine z_iload_n 99 6 dX10_growth_98 rfl rfl ?_
            refine z_if_ne 107 102 dX10_growth_99 (by decide) rfl (fun c17 => ?_) (fun c17 => ?_)
            · refine z_lload 109 1 dX10_growth_107 rfl rfl ?_
              exact z_sub [0] rfl (BX10_growth_109 b0 q14.1 q13.1 q14.2 )
            · refine z_lload 104 2 dX10_growth_102 rfl rfl ?_
              refine z_goto 109 dX10_growth_104 (by decide) ?_
              exact z_sub [0] rfl (BX10_growth_109 b0 q14.1 q11.1 q14.2 )
          · exact z_sub [6] rfl (BX10_growth_88 b0 x3 q14.2 )
      · exact z_sub [] rfl (BX10_growth_26 b0 q5.2 )
-- X10_endsOfInput
def kX10_endsOfInput_18 (x0 : Nat) (self18 : Int32 × Int32 × ZH → Option (Int32 × ZH)) (x2 : Int32) (x3 : Int32) (h : ZH) : Option (Int32 × ZH) :=
  (gR h 10 x0 4).bind fun v1 =>
  (fX7_length v1 h).bind fun q2 =>
  if q2.1 ≤ x3 then (some (x2, q2.2)) else
  ((gR q2.2 10 x0 8).bind fun v4 =>
  (gR q2.2 10 x0 4).bind fun v5 =>
  (fX7_at v5 x3 q2.2).bind fun q6 =>
  (fX1_follow v4 x2 (q6.1 - (nI 97)) q6.2).bind fun q7 =>
  self18 (q7.1, (x3 + (nI 1)), q7.2))
def lX10_endsOfInput_18 (x0 : Nat) : (Int32 × Int32 × ZH → Option (Int32 × ZH)) → Int32 × Int32 × ZH → Option (Int32 × ZH) := fun self s => kX10_endsOfInput_18 x0 self s.1 s.2.1 s.2.2
theorem KX10_endsOfInput_18 (b0 : Nat) (x0 : Nat) (self18 : Int32 × Int32 × ZH → Option (Int32 × ZH)) (hself18 : ∀ (y2 : Int32) (y3 : Int32) (hh : ZH), Zr zi b0 YX10_endsOfInput 5 18 [(0, .ref (b0 + x0)), (2, .int y2), (3, .int y3)] [] hh (self18 (y2, y3, hh))) (x2 : Int32) (x3 : Int32) (h : ZH) : Zr zi b0 YX10_endsOfInput 5 18 [(0, .ref (b0 + x0)), (2, .int x2), (3, .int x3)] [] h (kX10_endsOfInput_18 x0 self18 x2 x3 h) := by
  unfold kX10_endsOfInput_18
  refine z_iload_n 19 2 dX10_endsOfInput_18 rfl rfl ?_
  refine z_aload_n 20 0 dX10_endsOfInput_19 rfl rfl ?_
  refine z_getR 23 zC10 (Nat.le_of_ble_eq_true rfl) rfl w_242 dX10_endsOfInput_20 rfl (fun v1 _ => ?_)
  refine z_callVi 26 (mX7_length b0 v1 h) zyX7_length rfl w_377 (ci := 7) rfl (Nat.le_of_ble_eq_true rfl) (fun _ e9 => kX7_length e9) wm_yX7_length ws_yX7_length (Nat.le_of_ble_eq_true rfl) rfl (Nat.le_of_ble_eq_true rfl) dX10_endsOfInput_23 rfl (fun q2 => ?_)
  refine z_icmp_ge 55 29 dX10_endsOfInput_26 (by decide) rfl (fun c3 => ?_) (fun c3 => ?_)
  · refine z_iload_n 56 1 dX10_endsOfInput_55 rfl rfl ?_
    exact z_ireturn dX10_endsOfInput_56 rfl
  · refine z_aload_n 30 0 dX10_endsOfInput_29 rfl rfl ?_
    refine z_getR 33 zC10 (Nat.le_of_ble_eq_true rfl) rfl w_246 dX10_endsOfInput_30 rfl (fun v4 _ => ?_)
    refine z_iload_n 34 1 dX10_endsOfInput_33 rfl rfl ?_
    refine z_aload_n 35 0 dX10_endsOfInput_34 rfl rfl ?_
    refine z_getR 38 zC10 (Nat.le_of_ble_eq_true rfl) rfl w_242 dX10_endsOfInput_35 rfl (fun v5 _ => ?_)
    refine z_iload_n 39 2 dX10_endsOfInput_38 rfl rfl ?_
    refine z_callVi 42 (mX7_at b0 v5 x3 q2.2) zyX7_at rfl w_396 (ci := 7) rfl (Nat.le_of_ble_eq_true rfl) (fun _ e9 => kX7_at e9) wm_yX7_at ws_yX7_at (Nat.le_of_ble_eq_true rfl) rfl (Nat.le_of_ble_eq_true rfl) dX10_endsOfInput_39 rfl (fun q6 => ?_)
    refine z_bipush (nI 97) 44 zkb_97 dX10_endsOfInput_42 rfl ?_
    refine z_isub 45 dX10_endsOfInput_44 rfl ?_
    refine z_callVi 48 (mX1_follow b0 v4 x2 (q6.1 - (nI 97)) q6.2) zyX1_follow rfl w_532 (ci := 1) rfl (Nat.le_of_ble_eq_true rfl) (fun _ e9 => kX1_follow e9) wm_yX1_follow ws_yX1_follow (Nat.le_of_ble_eq_true rfl) rfl (Nat.le_of_ble_eq_true rfl) dX10_endsOfInput_45 rfl (fun q7 => ?_)
    refine z_istore_n (lv2 := [(2, .int q7.1), (0, .ref (b0 + x0)), (3, .int x3)]) 49 dX10_endsOfInput_48 rfl (Nat.le_of_ble_eq_true rfl) rfl ?_
    refine z_iinc (lv2 := [(3, .int (x3 + (nI 1))), (2, .int q7.1), (0, .ref (b0 + x0))]) (nI 1) 52 2 dX10_endsOfInput_49 rfl rfl zki_1 (Nat.le_of_ble_eq_true rfl) rfl ?_
    refine z_goto 18 dX10_endsOfInput_52 (by decide) ?_
    exact z_sub [2, 1, 0] rfl (hself18 q7.1 (x3 + (nI 1)) q7.2)
theorem BX10_endsOfInput_18 (b0 : Nat) (x0 : Nat) (n : Nat) (x2 : Int32) (x3 : Int32) (h : ZH) : Zr zi b0 YX10_endsOfInput 5 18 [(0, .ref (b0 + x0)), (2, .int x2), (3, .int x3)] [] h (zloop (lX10_endsOfInput_18 x0) n (x2, x3, h)) :=
  zloop_Zr (fun s => [(0, .ref (b0 + x0)), (2, .int s.1), (3, .int s.2.1)]) (fun _ => []) (fun s => s.2.2) (lX10_endsOfInput_18 x0) (fun self hs s => KX10_endsOfInput_18 b0 x0 self (fun y2 y3 hh => hs (y2, y3, hh)) s.1 s.2.1 s.2.2) n (x2, x3, h)
def fX10_endsOfInput (x0 : Nat) (x1 : Nat) (h : ZH) : Option (Int32 × ZH) :=
  if x0 < zn h ∧ zK h x0 = 10 then ((gR h 10 x0 8).bind fun v1 =>
  (fX1_copyCoreOf v1 x1 h).bind fun h2 =>
  (gR h2 10 x0 8).bind fun v3 =>
  (fX1_core v3 h2).bind fun q4 =>
  zloop (lX10_endsOfInput_18 x0) zfu (q4.1, (nI 0), q4.2)) else none
theorem kX10_endsOfInput {x0 : Nat} {x1 : Nat} {h : ZH} {x : Int32 × ZH} (e : fX10_endsOfInput x0 x1 h = some x) : x0 < zn h ∧ zK h x0 = 10 := by
  unfold fX10_endsOfInput at e
  exact zguard e
theorem mX10_endsOfInput (b0 : Nat) (x0 : Nat) (x1 : Nat) (h : ZH) : ZM zi b0 YX10_endsOfInput 5 [.ref (b0 + x0), .ref (b0 + x1)] h (fX10_endsOfInput x0 x1 h) := by
  unfold fX10_endsOfInput
  refine ZM.of (by decide) rfl (Nat.le_of_ble_eq_true rfl) (fun _ => trivial) ?_
  refine z_sub (lv2 := [(0, .ref (b0 + x0)), (1, .ref (b0 + x1))]) [0, 1] rfl ?_
  refine z_guard (fun _ => ?_)
  refine z_aload_n 1 0 dX10_endsOfInput_0 rfl rfl ?_
  refine z_getR 4 zC10 (Nat.le_of_ble_eq_true rfl) rfl w_246 dX10_endsOfInput_1 rfl (fun v1 _ => ?_)
  refine z_aload_n 5 1 dX10_endsOfInput_4 rfl rfl ?_
  refine z_callVv 8 (mX1_copyCoreOf b0 v1 x1 h) zyX1_copyCoreOf rfl w_444 (ci := 1) rfl (Nat.le_of_ble_eq_true rfl) (fun _ e9 => kX1_copyCoreOf e9) wm_yX1_copyCoreOf ws_yX1_copyCoreOf (Nat.le_of_ble_eq_true rfl) rfl (Nat.le_of_ble_eq_true rfl) dX10_endsOfInput_5 rfl (fun h2 => ?_)
  refine z_aload_n 9 0 dX10_endsOfInput_8 rfl rfl ?_
  refine z_getR 12 zC10 (Nat.le_of_ble_eq_true rfl) rfl w_246 dX10_endsOfInput_9 rfl (fun v3 _ => ?_)
  refine z_callVi 15 (mX1_core b0 v3 h2) zyX1_core rfl w_424 (ci := 1) rfl (Nat.le_of_ble_eq_true rfl) (fun _ e9 => kX1_core e9) wm_yX1_core ws_yX1_core (Nat.le_of_ble_eq_true rfl) rfl (Nat.le_of_ble_eq_true rfl) dX10_endsOfInput_12 rfl (fun q4 => ?_)
  refine z_istore_n (lv2 := [(2, .int q4.1), (0, .ref (b0 + x0)), (1, .ref (b0 + x1))]) 16 dX10_endsOfInput_15 rfl (Nat.le_of_ble_eq_true rfl) rfl ?_
  refine z_iconst (nI 0) 17 zki_0 dX10_endsOfInput_16 rfl ?_
  refine z_istore_n (lv2 := [(3, .int (nI 0)), (2, .int q4.1), (0, .ref (b0 + x0)), (1, .ref (b0 + x1))]) 18 dX10_endsOfInput_17 rfl (Nat.le_of_ble_eq_true rfl) rfl ?_
  exact z_sub [2, 1, 0] rfl (BX10_endsOfInput_18 b0 x0 zfu q4.1 (nI 0) q4.2)
-- X10_wordFault
def kX10_wordFault_2 (x0 : Nat) (self2 : Int32 × ZH → Option (Int32 × ZH)) (x1 : Int32) (h : ZH) : Option (Int32 × ZH) :=
  (gR h 10 x0 4).bind fun v1 =>
  (fX7_length v1 h).bind fun q2 =>
  if q2.1 ≤ x1 then (some ((-1 : Int32), q2.2)) else
  ((gR q2.2 10 x0 4).bind fun v4 =>
  (fX7_at v4 x1 q2.2).bind fun q5 =>
  (fX10_isLetter (q5.1 - (nI 97)) q5.2).bind fun q6 =>
  if q6.1 = 0 then (some (x1, q6.2)) else
  (self2 ((x1 + (nI 1)), q6.2)))
def lX10_wordFault_2 (x0 : Nat) : (Int32 × ZH → Option (Int32 × ZH)) → Int32 × ZH → Option (Int32 × ZH) := fun self s => kX10_wordFault_2 x0 self s.1 s.2
theorem KX10_wordFault_2 (b0 : Nat) (x0 : Nat) (self2 : Int32 × ZH → Option (Int32 × ZH)) (hself2 : ∀ (y1 : Int32) (hh : ZH), Zr zi b0 YX10_wordFault 2 2 [(0, .ref (b0 + x0)), (1, .int y1)] [] hh (self2 (y1, hh))) (x1 : Int32) (h : ZH) : Zr zi b0 YX10_wordFault 2 2 [(0, .ref (b0 + x0)), (1, .int x1)] [] h (kX10_wordFault_2 x0 self2 x1 h) := by
  unfold kX10_wordFault_2
  refine z_iload_n 3 1 dX10_wordFault_2 rfl rfl ?_
  refine z_aload_n 4 0 dX10_wordFault_3 rfl rfl ?_
  refine z_getR 7 zC10 (Nat.le_of_ble_eq_true rfl) rfl w_242 dX10_wordFault_4 rfl (fun v1 _ => ?_)
  refine z_callVi 10 (mX7_length b0 v1 h) zyX7_length rfl w_377 (ci := 7) rfl (Nat.le_of_ble_eq_true rfl) (fun _ e9 => kX7_length e9) wm_yX7_length ws_yX7_length (Nat.le_of_ble_eq_true rfl) rfl (Nat.le_of_ble_eq_true rfl) dX10_wordFault_7 rfl (fun q2 => ?_)
  refine z_icmp_ge 38 13 dX10_wordFault_10 (by decide) rfl (fun c3 => ?_) (fun c3 => ?_)
  · refine z_iconst (-1 : Int32) 39 zki_m1 dX10_wordFault_38 rfl ?_
    exact z_ireturn dX10_wordFault_39 rfl
  · refine z_aload_n 14 0 dX10_wordFault_13 rfl rfl ?_
    refine z_getR 17 zC10 (Nat.le_of_ble_eq_true rfl) rfl w_242 dX10_wordFault_14 rfl (fun v4 _ => ?_)
    refine z_iload_n 18 1 dX10_wordFault_17 rfl rfl ?_
    refine z_callVi 21 (mX7_at b0 v4 x1 q2.2) zyX7_at rfl w_396 (ci := 7) rfl (Nat.le_of_ble_eq_true rfl) (fun _ e9 => kX7_at e9) wm_yX7_at ws_yX7_at (Nat.le_of_ble_eq_true rfl) rfl (Nat.le_of_ble_eq_true rfl) dX10_wordFault_18 rfl (fun q5 => ?_)
    refine z_bipush (nI 97) 23 zkb_97 dX10_wordFault_21 rfl ?_
    refine z_isub 24 dX10_wordFault_23 rfl ?_
    refine z_callSi 27 (mX10_isLetter b0 (q5.1 - (nI 97)) q5.2) zyX10_isLetter rfl w_303 wt_yX10_isLetter (Nat.le_of_ble_eq_true rfl) rfl (Nat.le_of_ble_eq_true rfl) dX10_wordFault_24 rfl (fun q6 => ?_)
    refine z_if_ne 32 30 dX10_wordFault_27 (by decide) rfl (fun c7 => ?_) (fun c7 => ?_)
    · refine z_iinc (lv2 := [(1, .int (x1 + (nI 1))), (0, .ref (b0 + x0))]) (nI 1) 35 1 dX10_wordFault_32 rfl rfl zki_1 (Nat.le_of_ble_eq_true rfl) rfl ?_
      refine z_goto 2 dX10_wordFault_35 (by decide) ?_
      exact z_sub [1, 0] rfl (hself2 (x1 + (nI 1)) q6.2)
    · refine z_iload_n 31 1 dX10_wordFault_30 rfl rfl ?_
      exact z_ireturn dX10_wordFault_31 rfl
theorem BX10_wordFault_2 (b0 : Nat) (x0 : Nat) (n : Nat) (x1 : Int32) (h : ZH) : Zr zi b0 YX10_wordFault 2 2 [(0, .ref (b0 + x0)), (1, .int x1)] [] h (zloop (lX10_wordFault_2 x0) n (x1, h)) :=
  zloop_Zr (fun s => [(0, .ref (b0 + x0)), (1, .int s.1)]) (fun _ => []) (fun s => s.2) (lX10_wordFault_2 x0) (fun self hs s => KX10_wordFault_2 b0 x0 self (fun y1 hh => hs (y1, hh)) s.1 s.2) n (x1, h)
def fX10_wordFault (x0 : Nat) (h : ZH) : Option (Int32 × ZH) :=
  if x0 < zn h ∧ zK h x0 = 10 then (zloop (lX10_wordFault_2 x0) zfu ((nI 0), h)) else none
theorem kX10_wordFault {x0 : Nat} {h : ZH} {x : Int32 × ZH} (e : fX10_wordFault x0 h = some x) : x0 < zn h ∧ zK h x0 = 10 := by
  unfold fX10_wordFault at e
  exact zguard e
theorem mX10_wordFault (b0 : Nat) (x0 : Nat) (h : ZH) : ZM zi b0 YX10_wordFault 2 [.ref (b0 + x0)] h (fX10_wordFault x0 h) := by
  unfold fX10_wordFault
  refine ZM.of (by decide) rfl (Nat.le_of_ble_eq_true rfl) (fun _ => trivial) ?_
  refine z_sub (lv2 := [(0, .ref (b0 + x0))]) [0] rfl ?_
  refine z_guard (fun _ => ?_)
  refine z_iconst (nI 0) 1 zki_0 dX10_wordFault_0 rfl ?_
  refine z_istore_n (lv2 := [(1, .int (nI 0)), (0, .ref (b0 + x0))]) 2 dX10_wordFault_1 rfl (Nat.le_of_ble_eq_true rfl) rfl ?_
  exact z_sub [1, 0] rfl (BX10_wordFault_2 b0 x0 zfu (nI 0) h)
-- X10_allows
def bX10_allows_59 (t0 : Int32) (h : ZH) : Option (Int32 × ZH) :=
  some (t0, h)
theorem BX10_allows_59 (b0 : Nat) (t0 : Int32) (h : ZH) : Zr zi b0 YX10_allows 6 59 [] [.int t0] h (bX10_allows_59 t0 h) := by
  unfold bX10_allows_59
  exact z_ireturn dX10_allows_59 rfl
def bX10_allows_33 (x0 : Nat) (x2 : Int32) (t0 : Int32) (h : ZH) : Option (Int32 × ZH) :=
  (gR h 10 x0 4).bind fun v1 =>
  (fX7_clear v1 h).bind fun h2 =>
  if x2 < 0 then (if t0 = 0 then (bX10_allows_59 (nI 0) h2) else
  (bX10_allows_59 (nI 1) h2)) else
  (some (((-100 : Int32) - x2), h2))
theorem BX10_allows_33 (b0 : Nat) (x0 : Nat) (x2 : Int32) (t0 : Int32) (h : ZH) : Zr zi b0 YX10_allows 6 33 [(0, .ref (b0 + x0)), (2, .int x2)] [.int t0] h (bX10_allows_33 x0 x2 t0 h) := by
  unfold bX10_allows_33
  refine z_istore_n (lv2 := [(3, .int t0), (0, .ref (b0 + x0)), (2, .int x2)]) 34 dX10_allows_33 rfl (Nat.le_of_ble_eq_true rfl) rfl ?_
  refine z_aload_n 35 1 dX10_allows_34 rfl rfl ?_
  refine z_getR 38 zC10 (Nat.le_of_ble_eq_true rfl) rfl w_242 dX10_allows_35 rfl (fun v1 _ => ?_)
  refine z_callVv 41 (mX7_clear b0 v1 h) zyX7_clear rfl w_403 (ci := 7) rfl (Nat.le_of_ble_eq_true rfl) (fun _ e9 => kX7_clear e9) wm_yX7_clear ws_yX7_clear (Nat.le_of_ble_eq_true rfl) rfl (Nat.le_of_ble_eq_true rfl) dX10_allows_38 rfl (fun h2 => ?_)
  refine z_iload_n 42 2 dX10_allows_41 rfl rfl ?_
  refine z_if_lt 50 45 dX10_allows_42 (by decide) rfl (fun c3 => ?_) (fun c3 => ?_)
  · refine z_iload_n 51 0 dX10_allows_50 rfl rfl ?_
    refine z_if_eq 58 54 dX10_allows_51 (by decide) rfl (fun c4 => ?_) (fun c4 => ?_)
    · refine z_iconst (nI 0) 59 zki_0 dX10_allows_58 rfl ?_
      exact z_sub [] rfl (BX10_allows_59 b0 (nI 0) h2 )
    · refine z_iconst (nI 1) 55 zki_1 dX10_allows_54 rfl ?_
      refine z_goto 59 dX10_allows_55 (by decide) ?_
      exact z_sub [] rfl (BX10_allows_59 b0 (nI 1) h2 )
  · refine z_bipush (-100 : Int32) 47 zkb_m100 dX10_allows_45 rfl ?_
    refine z_iload_n 48 2 dX10_allows_47 rfl rfl ?_
    refine z_isub 49 dX10_allows_48 rfl ?_
    exact z_ireturn dX10_allows_49 rfl
def fX10_allows (x0 : Nat) (x1 : Int32) (h : ZH) : Option (Int32 × ZH) :=
  if x0 < zn h ∧ zK h x0 = 10 then ((fX10_isSlot x1 h).bind fun q1 =>
  if q1.1 = 0 then (some ((-2 : Int32), q1.2)) else
  ((fX10_wordFault x0 q1.2).bind fun q3 =>
  if q3.1 < 0 then ((gR q3.2 10 x0 0).bind fun v5 =>
  (lR q3.2 17 v5 x1).bind fun v6 =>
  (fX10_endsOfInput x0 v6 q3.2).bind fun q7 =>
  bX10_allows_33 x0 q3.1 q7.1 q7.2) else
  (bX10_allows_33 x0 q3.1 (nI 0) q3.2))) else none
theorem kX10_allows {x0 : Nat} {x1 : Int32} {h : ZH} {x : Int32 × ZH} (e : fX10_allows x0 x1 h = some x) : x0 < zn h ∧ zK h x0 = 10 := by
  unfold fX10_allows at e
  exact zguard e
theorem mX10_allows (b0 : Nat) (x0 : Nat) (x1 : Int32) (h : ZH) : ZM zi b0 YX10_allows 6 [.ref (b0 + x0), .int x1] h (fX10_allows x0 x1 h) := by
  unfold fX10_allows
  refine ZM.of (by decide) rfl (Nat.le_of_ble_eq_true rfl) (fun _ => trivial) ?_
  refine z_sub (lv2 := [(0, .ref (b0 + x0)), (1, .int x1)]) [0, 1] rfl ?_
  refine z_guard (fun _ => ?_)
  refine z_iload_n 1 1 dX10_allows_0 rfl rfl ?_
  refine z_callSi 4 (mX10_isSlot b0 x1 h) zyX10_isSlot rfl w_297 wt_yX10_isSlot (Nat.le_of_ble_eq_true rfl) rfl (Nat.le_of_ble_eq_true rfl) dX10_allows_1 rfl (fun q1 => ?_)
  refine z_if_ne 10 7 dX10_allows_4 (by decide) rfl (fun c2 => ?_) (fun c2 => ?_)
  · refine z_aload_n 11 0 dX10_allows_10 rfl rfl ?_
    refine z_callVi 14 (mX10_wordFault b0 x0 q1.2) zyX10_wordFault rfl w_524 (ci := 10) rfl (Nat.le_of_ble_eq_true rfl) (fun _ e9 => kX10_wordFault e9) wm_yX10_wordFault ws_yX10_wordFault (Nat.le_of_ble_eq_true rfl) rfl (Nat.le_of_ble_eq_true rfl) dX10_allows_11 rfl (fun q3 => ?_)
    refine z_istore_n (lv2 := [(2, .int q3.1), (0, .ref (b0 + x0)), (1, .int x1)]) 15 dX10_allows_14 rfl (Nat.le_of_ble_eq_true rfl) rfl ?_
    refine z_iload_n 16 0 dX10_allows_15 rfl rfl ?_
    refine z_if_lt 23 19 dX10_allows_16 (by decide) rfl (fun c4 => ?_) (fun c4 => ?_)
    · refine z_aload_n 24 1 dX10_allows_23 rfl rfl ?_
      refine z_aload_n 25 1 dX10_allows_24 rfl rfl ?_
      refine z_getR 28 zC10 (Nat.le_of_ble_eq_true rfl) rfl w_238 dX10_allows_25 rfl (fun v5 _ => ?_)
      refine z_iload_n 29 2 dX10_allows_28 rfl rfl ?_
      refine z_aaload17 30 dX10_allows_29 rfl (fun v6 _ => ?_)
      refine z_callVi 33 (mX10_endsOfInput b0 x0 v6 q3.2) zyX10_endsOfInput rfl w_528 (ci := 10) rfl (Nat.le_of_ble_eq_true rfl) (fun _ e9 => kX10_endsOfInput e9) wm_yX10_endsOfInput ws_yX10_endsOfInput (Nat.le_of_ble_eq_true rfl) rfl (Nat.le_of_ble_eq_true rfl) dX10_allows_30 rfl (fun q7 => ?_)
      exact z_sub [1, 0] rfl (BX10_allows_33 b0 x0 q3.1 q7.1 q7.2 )
    · refine z_iconst (nI 0) 20 zki_0 dX10_allows_19 rfl ?_
      refine z_goto 33 dX10_allows_20 (by decide) ?_
      exact z_sub [1, 0] rfl (BX10_allows_33 b0 x0 q3.1 (nI 0) q3.2 )
  · refine z_bipush (-2 : Int32) 9 zkb_m2 dX10_allows_7 rfl ?_
    exact z_ireturn dX10_allows_9 rfl
-- X10_writeWord
def bX10_writeWord_50 (h : ZH) : Option (Int32 × ZH) :=
  some ((-1 : Int32), h)
theorem BX10_writeWord_50 (b0 : Nat) (h : ZH) : Zr zi b0 YX10_writeWord 7 50 [] [] h (bX10_writeWord_50 h) := by
  unfold bX10_writeWord_50
  refine z_iconst (-1 : Int32) 51 zki_m1 dX10_writeWord_50 rfl ?_
  exact z_ireturn dX10_writeWord_51 rfl
def bX10_writeWord_17 (h : ZH) : Option (Int32 × ZH) :=
  some ((-2 : Int32), h)
theorem BX10_writeWord_17 (b0 : Nat) (h : ZH) : Zr zi b0 YX10_writeWord 7 17 [] [] h (bX10_writeWord_17 h) := by
  unfold bX10_writeWord_17
  refine z_bipush (-2 : Int32) 19 zkb_m2 dX10_writeWord_17 rfl ?_
  exact z_ireturn dX10_writeWord_19 rfl
def fX10_writeWord (x0 : Nat) (x1 : Int32) (x2 : Int32) (x3 : Int64) (h : ZH) : Option (Int32 × ZH) :=
  if x0 < zn h ∧ zK h x0 = 10 then ((fX10_isSlot x1 h).bind fun q1 =>
  if q1.1 = 0 then (bX10_writeWord_17 q1.2) else
  ((fX10_isWithin x2 (nI 0) (nI 30) q1.2).bind fun q3 =>
  if q3.1 = 0 then (bX10_writeWord_17 q3.2) else
  ((gR q3.2 10 x0 0).bind fun v5 =>
  (lR q3.2 17 v5 x1).bind fun v6 =>
  (fX10_countWords x0 v6 x2 q3.2).bind fun h7 =>
  if (lg_cmp x3 (lN 0)) < 0 then (bX10_writeWord_50 h7) else
  ((gR h7 10 x0 12).bind fun v9 =>
  (fX9_total v9 x2 h7).bind fun q10 =>
  if (lg_cmp x3 q10.1) < 0 then ((gR q10.2 10 x0 12).bind fun v12 =>
  (gR q10.2 10 x0 10).bind fun v13 =>
  (gR q10.2 10 x0 5).bind fun v14 =>
  (fX9_spell v12 v13 x2 x3 v14 q10.2).bind fun h15 =>
  some (x2, h15)) else
  (bX10_writeWord_50 q10.2))))) else none
theorem kX10_writeWord {x0 : Nat} {x1 : Int32} {x2 : Int32} {x3 : Int64} {h : ZH} {x : Int32 × ZH} (e : fX10_writeWord x0 x1 x2 x3 h = some x) : x0 < zn h ∧ zK h x0 = 10 := by
  unfold fX10_writeWord at e
  exact zguard e
theorem mX10_writeWord (b0 : Nat) (x0 : Nat) (x1 : Int32) (x2 : Int32) (x3 : Int64) (h : ZH) : ZM zi b0 YX10_writeWord 7 [.ref (b0 + x0), .int x1, .int x2, .long x3] h (fX10_writeWord x0 x1 x2 x3 h) := by
  unfold fX10_writeWord
  refine ZM.of (by decide) rfl (Nat.le_of_ble_eq_true rfl) (fun _ => trivial) ?_
  refine z_sub (lv2 := [(0, .ref (b0 + x0)), (1, .int x1), (2, .int x2), (3, .long x3)]) [0, 1, 2, 3] rfl ?_
  refine z_guard (fun _ => ?_)
  refine z_iload_n 1 1 dX10_writeWord_0 rfl rfl ?_
  refine z_callSi 4 (mX10_isSlot b0 x1 h) zyX10_isSlot rfl w_297 wt_yX10_isSlot (Nat.le_of_ble_eq_true rfl) rfl (Nat.le_of_ble_eq_true rfl) dX10_writeWord_1 rfl (fun q1 => ?_)
  refine z_if_eq 17 7 dX10_writeWord_4 (by decide) rfl (fun c2 => ?_) (fun c2 => ?_)
  · exact z_sub [] rfl (BX10_writeWord_17 b0 q1.2 )
  · refine z_iload_n 8 2 dX10_writeWord_7 rfl rfl ?_
    refine z_iconst (nI 0) 9 zki_0 dX10_writeWord_8 rfl ?_
    refine z_bipush (nI 30) 11 zkb_30 dX10_writeWord_9 rfl ?_
    refine z_callSi 14 (mX10_isWithin b0 x2 (nI 0) (nI 30) q1.2) zyX10_isWithin rfl w_372 wt_yX10_isWithin (Nat.le_of_ble_eq_true rfl) rfl (Nat.le_of_ble_eq_true rfl) dX10_writeWord_11 rfl (fun q3 => ?_)
    refine z_if_ne 20 17 dX10_writeWord_14 (by decide) rfl (fun c4 => ?_) (fun c4 => ?_)
    · refine z_aload_n 21 0 dX10_writeWord_20 rfl rfl ?_
      refine z_aload_n 22 0 dX10_writeWord_21 rfl rfl ?_
      refine z_getR 25 zC10 (Nat.le_of_ble_eq_true rfl) rfl w_238 dX10_writeWord_22 rfl (fun v5 _ => ?_)
      refine z_iload_n 26 1 dX10_writeWord_25 rfl rfl ?_
      refine z_aaload17 27 dX10_writeWord_26 rfl (fun v6 _ => ?_)
      refine z_iload_n 28 2 dX10_writeWord_27 rfl rfl ?_
      refine z_callVv 31 (mX10_countWords b0 x0 v6 x2 q3.2) zyX10_countWords rfl w_469 (ci := 10) rfl (Nat.le_of_ble_eq_true rfl) (fun _ e9 => kX10_countWords e9) wm_yX10_countWords ws_yX10_countWords (Nat.le_of_ble_eq_true rfl) rfl (Nat.le_of_ble_eq_true rfl) dX10_writeWord_28 rfl (fun h7 => ?_)
      refine z_lload_n 32 3 dX10_writeWord_31 rfl rfl ?_
      refine z_lconst (lN 0) 33 rfl dX10_writeWord_32 rfl ?_
      refine z_lcmp 34 dX10_writeWord_33 rfl ?_
      refine z_if_lt 50 37 dX10_writeWord_34 (by decide) rfl (fun c8 => ?_) (fun c8 => ?_)
      · exact z_sub [] rfl (BX10_writeWord_50 b0 h7 )
      · refine z_lload_n 38 3 dX10_writeWord_37 rfl rfl ?_
        refine z_aload_n 39 0 dX10_writeWord_38 rfl rfl ?_
        refine z_getR 42 zC10 (Nat.le_of_ble_eq_true rfl) rfl w_250 dX10_writeWord_39 rfl (fun v9 _ => ?_)
        refine z_iload_n 43 2 dX10_writeWord_42 rfl rfl ?_
        refine z_callVj 46 (mX9_total b0 v9 x2 h7) zyX9_total rfl w_511 (ci := 9) rfl (Nat.le_of_ble_eq_true rfl) (fun _ e9 => kX9_total e9) wm_yX9_total ws_yX9_total (Nat.le_of_ble_eq_true rfl) rfl (Nat.le_of_ble_eq_true rfl) dX10_writeWord_43 rfl (fun q10 => ?_)
        refine z_lcmp 47 dX10_writeWord_46 rfl ?_
        refine z_if_lt 52 50 dX10_writeWord_47 (by decide) rfl (fun c11 => ?_) (fun c11 => ?_)
        · refine z_aload_n 53 0 dX10_writeWord_52 rfl rfl ?_
          refine z_getR 56 zC10 (Nat.le_of_ble_eq_true rfl) rfl w_250 dX10_writeWord_53 rfl (fun v12 _ => ?_)
          refine z_aload_n 57 0 dX10_writeWord_56 rfl rfl ?_
          refine z_getR 60 zC10 (Nat.le_of_ble_eq_true rfl) rfl w_248 dX10_writeWord_57 rfl (fun v13 _ => ?_)
          refine z_iload_n 61 2 dX10_writeWord_60 rfl rfl ?_
          refine z_lload_n 62 3 dX10_writeWord_61 rfl rfl ?_
          refine z_aload_n 63 0 dX10_writeWord_62 rfl rfl ?_
          refine z_getR 66 zC10 (Nat.le_of_ble_eq_true rfl) rfl w_243 dX10_writeWord_63 rfl (fun v14 _ => ?_)
          refine z_callVv 69 (mX9_spell b0 v12 v13 x2 x3 v14 q10.2) zyX9_spell rfl w_537 (ci := 9) rfl (Nat.le_of_ble_eq_true rfl) (fun _ e9 => kX9_spell e9) wm_yX9_spell ws_yX9_spell (Nat.le_of_ble_eq_true rfl) rfl (Nat.le_of_ble_eq_true rfl) dX10_writeWord_66 rfl (fun h15 => ?_)
          refine z_iload_n 70 2 dX10_writeWord_69 rfl rfl ?_
          exact z_ireturn dX10_writeWord_70 rfl
        · exact z_sub [] rfl (BX10_writeWord_50 b0 q10.2 )
    · exact z_sub [] rfl (BX10_writeWord_17 b0 q3.2 )
-- X10_forbidden
def bX10_forbidden_17 (h : ZH) : Option (Int32 × ZH) :=
  some ((-2 : Int32), h)
theorem BX10_forbidden_17 (b0 : Nat) (h : ZH) : Zr zi b0 YX10_forbidden 23 17 [] [] h (bX10_forbidden_17 h) := by
  unfold bX10_forbidden_17
  refine z_bipush (-2 : Int32) 19 zkb_m2 dX10_forbidden_17 rfl ?_
  exact z_ireturn dX10_forbidden_19 rfl
def fX10_forbidden (x0 : Nat) (x1 : Int32) (x2 : Int32) (h : ZH) : Option (Int32 × ZH) :=
  if x0 < zn h ∧ zK h x0 = 10 then ((fX10_isSlot x1 h).bind fun q1 =>
  if q1.1 = 0 then (bX10_forbidden_17 q1.2) else
  ((fX10_isWithin x2 (nI 1) (nI 6) q1.2).bind fun q3 =>
  if q3.1 = 0 then (bX10_forbidden_17 q3.2) else
  ((gR q3.2 10 x0 0).bind fun v5 =>
  (lR q3.2 17 v5 x1).bind fun v6 =>
  (fX10_loadSubsets x0 v6 q3.2).bind fun h7 =>
  (gR h7 10 x0 10).bind fun v8 =>
  (fX6_countForbidden v8 x2 h7).bind fun q9 =>
  some (q9.1, q9.2)))) else none
theorem kX10_forbidden {x0 : Nat} {x1 : Int32} {x2 : Int32} {h : ZH} {x : Int32 × ZH} (e : fX10_forbidden x0 x1 x2 h = some x) : x0 < zn h ∧ zK h x0 = 10 := by
  unfold fX10_forbidden at e
  exact zguard e
theorem mX10_forbidden (b0 : Nat) (x0 : Nat) (x1 : Int32) (x2 : Int32) (h : ZH) : ZM zi b0 YX10_forbidden 23 [.ref (b0 + x0), .int x1, .int x2] h (fX10_forbidden x0 x1 x2 h) := by
  unfold fX10_forbidden
  refine ZM.of (by decide) rfl (Nat.le_of_ble_eq_true rfl) (fun _ => trivial) ?_
  refine z_sub (lv2 := [(0, .ref (b0 + x0)), (1, .int x1), (2, .int x2)]) [0, 1, 2] rfl ?_
  refine z_guard (fun _ => ?_)
  refine z_iload_n 1 1 dX10_forbidden_0 rfl rfl ?_
  refine z_callSi 4 (mX10_isSlot b0 x1 h) zyX10_isSlot rfl w_297 wt_yX10_isSlot (Nat.le_of_ble_eq_true rfl) rfl (Nat.le_of_ble_eq_true rfl) dX10_forbidden_1 rfl (fun q1 => ?_)
  refine z_if_eq 17 7 dX10_forbidden_4 (by decide) rfl (fun c2 => ?_) (fun c2 => ?_)
  · exact z_sub [] rfl (BX10_forbidden_17 b0 q1.2 )
  · refine z_iload_n 8 2 dX10_forbidden_7 rfl rfl ?_
    refine z_iconst (nI 1) 9 zki_1 dX10_forbidden_8 rfl ?_
    refine z_bipush (nI 6) 11 zkb_6 dX10_forbidden_9 rfl ?_
    refine z_callSi 14 (mX10_isWithin b0 x2 (nI 1) (nI 6) q1.2) zyX10_isWithin rfl w_372 wt_yX10_isWithin (Nat.le_of_ble_eq_true rfl) rfl (Nat.le_of_ble_eq_true rfl) dX10_forbidden_11 rfl (fun q3 => ?_)
    refine z_if_ne 20 17 dX10_forbidden_14 (by decide) rfl (fun c4 => ?_) (fun c4 => ?_)
    · refine z_aload_n 21 0 dX10_forbidden_20 rfl rfl ?_
      refine z_aload_n 22 0 dX10_forbidden_21 rfl rfl ?_
      refine z_getR 25 zC10 (Nat.le_of_ble_eq_true rfl) rfl w_238 dX10_forbidden_22 rfl (fun v5 _ => ?_)
      refine z_iload_n 26 1 dX10_forbidden_25 rfl rfl ?_
      refine z_aaload17 27 dX10_forbidden_26 rfl (fun v6 _ => ?_)
      refine z_callVv 30 (mX10_loadSubsets b0 x0 v6 q3.2) zyX10_loadSubsets rfl w_473 (ci := 10) rfl (Nat.le_of_ble_eq_true rfl) (fun _ e9 => kX10_loadSubsets e9) wm_yX10_loadSubsets ws_yX10_loadSubsets (Nat.le_of_ble_eq_true rfl) rfl (Nat.le_of_ble_eq_true rfl) dX10_forbidden_27 rfl (fun h7 => ?_)
      refine z_aload_n 31 0 dX10_forbidden_30 rfl rfl ?_
      refine z_getR 34 zC10 (Nat.le_of_ble_eq_true rfl) rfl w_248 dX10_forbidden_31 rfl (fun v8 _ => ?_)
      refine z_iload_n 35 2 dX10_forbidden_34 rfl rfl ?_
      refine z_callVi 38 (mX6_countForbidden b0 v8 x2 h7) zyX6_countForbidden rfl w_551 (ci := 6) rfl (Nat.le_of_ble_eq_true rfl) (fun _ e9 => kX6_countForbidden e9) wm_yX6_countForbidden ws_yX6_countForbidden (Nat.le_of_ble_eq_true rfl) rfl (Nat.le_of_ble_eq_true rfl) dX10_forbidden_35 rfl (fun q9 => ?_)
      exact z_ireturn dX10_forbidden_38 rfl
    · exact z_sub [] rfl (BX10_forbidden_17 b0 q3.2 )
-- X10_writeForbidden
def bX10_writeForbidden_46 (h : ZH) : Option (Int32 × ZH) :=
  some ((-1 : Int32), h)
theorem BX10_writeForbidden_46 (b0 : Nat) (h : ZH) : Zr zi b0 YX10_writeForbidden 24 46 [] [] h (bX10_writeForbidden_46 h) := by
  unfold bX10_writeForbidden_46
  refine z_iconst (-1 : Int32) 47 zki_m1 dX10_writeForbidden_46 rfl ?_
  exact z_ireturn dX10_writeForbidden_47 rfl
def bX10_writeForbidden_17 (h : ZH) : Option (Int32 × ZH) :=
  some ((-2 : Int32), h)
theorem BX10_writeForbidden_17 (b0 : Nat) (h : ZH) : Zr zi b0 YX10_writeForbidden 24 17 [] [] h (bX10_writeForbidden_17 h) := by
  unfold bX10_writeForbidden_17
  refine z_bipush (-2 : Int32) 19 zkb_m2 dX10_writeForbidden_17 rfl ?_
  exact z_ireturn dX10_writeForbidden_19 rfl
def fX10_writeForbidden (x0 : Nat) (x1 : Int32) (x2 : Int32) (x3 : Int32) (h : ZH) : Option (Int32 × ZH) :=
  if x0 < zn h ∧ zK h x0 = 10 then ((fX10_isSlot x1 h).bind fun q1 =>
  if q1.1 = 0 then (bX10_writeForbidden_17 q1.2) else
  ((fX10_isWithin x2 (nI 1) (nI 6) q1.2).bind fun q3 =>
  if q3.1 = 0 then (bX10_writeForbidden_17 q3.2) else
  ((gR q3.2 10 x0 0).bind fun v5 =>
  (lR q3.2 17 v5 x1).bind fun v6 =>
  (fX10_loadSubsets x0 v6 q3.2).bind fun h7 =>
  if x3 < 0 then (bX10_writeForbidden_46 h7) else
  ((gR h7 10 x0 10).bind fun v9 =>
  (fX6_countForbidden v9 x2 h7).bind fun q10 =>
  if x3 < q10.1 then ((gR q10.2 10 x0 10).bind fun v12 =>
  (gR q10.2 10 x0 5).bind fun v13 =>
  (fX6_spellForbidden v12 x2 x3 v13 q10.2).bind fun h14 =>
  some (x2, h14)) else
  (bX10_writeForbidden_46 q10.2))))) else none
theorem kX10_writeForbidden {x0 : Nat} {x1 : Int32} {x2 : Int32} {x3 : Int32} {h : ZH} {x : Int32 × ZH} (e : fX10_writeForbidden x0 x1 x2 x3 h = some x) : x0 < zn h ∧ zK h x0 = 10 := by
  unfold fX10_writeForbidden at e
  exact zguard e
theorem mX10_writeForbidden (b0 : Nat) (x0 : Nat) (x1 : Int32) (x2 : Int32) (x3 : Int32) (h : ZH) : ZM zi b0 YX10_writeForbidden 24 [.ref (b0 + x0), .int x1, .int x2, .int x3] h (fX10_writeForbidden x0 x1 x2 x3 h) := by
  unfold fX10_writeForbidden
  refine ZM.of (by decide) rfl (Nat.le_of_ble_eq_true rfl) (fun _ => trivial) ?_
  refine z_sub (lv2 := [(0, .ref (b0 + x0)), (1, .int x1), (2, .int x2), (3, .int x3)]) [0, 1, 2, 3] rfl ?_
  refine z_guard (fun _ => ?_)
  refine z_iload_n 1 1 dX10_writeForbidden_0 rfl rfl ?_
  refine z_callSi 4 (mX10_isSlot b0 x1 h) zyX10_isSlot rfl w_297 wt_yX10_isSlot (Nat.le_of_ble_eq_true rfl) rfl (Nat.le_of_ble_eq_true rfl) dX10_writeForbidden_1 rfl (fun q1 => ?_)
  refine z_if_eq 17 7 dX10_writeForbidden_4 (by decide) rfl (fun c2 => ?_) (fun c2 => ?_)
  · exact z_sub [] rfl (BX10_writeForbidden_17 b0 q1.2 )
  · refine z_iload_n 8 2 dX10_writeForbidden_7 rfl rfl ?_
    refine z_iconst (nI 1) 9 zki_1 dX10_writeForbidden_8 rfl ?_
    refine z_bipush (nI 6) 11 zkb_6 dX10_writeForbidden_9 rfl ?_
    refine z_callSi 14 (mX10_isWithin b0 x2 (nI 1) (nI 6) q1.2) zyX10_isWithin rfl w_372 wt_yX10_isWithin (Nat.le_of_ble_eq_true rfl) rfl (Nat.le_of_ble_eq_true rfl) dX10_writeForbidden_11 rfl (fun q3 => ?_)
    refine z_if_ne 20 17 dX10_writeForbidden_14 (by decide) rfl (fun c4 => ?_) (fun c4 => ?_)
    · refine z_aload_n 21 0 dX10_writeForbidden_20 rfl rfl ?_
      refine z_aload_n 22 0 dX10_writeForbidden_21 rfl rfl ?_
      refine z_getR 25 zC10 (Nat.le_of_ble_eq_true rfl) rfl w_238 dX10_writeForbidden_22 rfl (fun v5 _ => ?_)
      refine z_iload_n 26 1 dX10_writeForbidden_25 rfl rfl ?_
      refine z_aaload17 27 dX10_writeForbidden_26 rfl (fun v6 _ => ?_)
      refine z_callVv 30 (mX10_loadSubsets b0 x0 v6 q3.2) zyX10_loadSubsets rfl w_473 (ci := 10) rfl (Nat.le_of_ble_eq_true rfl) (fun _ e9 => kX10_loadSubsets e9) wm_yX10_loadSubsets ws_yX10_loadSubsets (Nat.le_of_ble_eq_true rfl) rfl (Nat.le_of_ble_eq_true rfl) dX10_writeForbidden_27 rfl (fun h7 => ?_)
      refine z_iload_n 31 3 dX10_writeForbidden_30 rfl rfl ?_
      refine z_if_lt 46 34 dX10_writeForbidden_31 (by decide) rfl (fun c8 => ?_) (fun c8 => ?_)
      · exact z_sub [] rfl (BX10_writeForbidden_46 b0 h7 )
      · refine z_iload_n 35 3 dX10_writeForbidden_34 rfl rfl ?_
        refine z_aload_n 36 0 dX10_writeForbidden_35 rfl rfl ?_
        refine z_getR 39 zC10 (Nat.le_of_ble_eq_true rfl) rfl w_248 dX10_writeForbidden_36 rfl (fun v9 _ => ?_)
        refine z_iload_n 40 2 dX10_writeForbidden_39 rfl rfl ?_
        refine z_callVi 43 (mX6_countForbidden b0 v9 x2 h7) zyX6_countForbidden rfl w_551 (ci := 6) rfl (Nat.le_of_ble_eq_true rfl) (fun _ e9 => kX6_countForbidden e9) wm_yX6_countForbidden ws_yX6_countForbidden (Nat.le_of_ble_eq_true rfl) rfl (Nat.le_of_ble_eq_true rfl) dX10_writeForbidden_40 rfl (fun q10 => ?_)
        refine z_icmp_lt 48 46 dX10_writeForbidden_43 (by decide) rfl (fun c11 => ?_) (fun c11 => ?_)
        · refine z_aload_n 49 0 dX10_writeForbidden_48 rfl rfl ?_
          refine z_getR 52 zC10 (Nat.le_of_ble_eq_true rfl) rfl w_248 dX10_writeForbidden_49 rfl (fun v12 _ => ?_)
          refine z_iload_n 53 2 dX10_writeForbidden_52 rfl rfl ?_
          refine z_iload_n 54 3 dX10_writeForbidden_53 rfl rfl ?_
          refine z_aload_n 55 0 dX10_writeForbidden_54 rfl rfl ?_
          refine z_getR 58 zC10 (Nat.le_of_ble_eq_true rfl) rfl w_243 dX10_writeForbidden_55 rfl (fun v13 _ => ?_)
          refine z_callVv 61 (mX6_spellForbidden b0 v12 x2 x3 v13 q10.2) zyX6_spellForbidden rfl w_574 (ci := 6) rfl (Nat.le_of_ble_eq_true rfl) (fun _ e9 => kX6_spellForbidden e9) wm_yX6_spellForbidden ws_yX6_spellForbidden (Nat.le_of_ble_eq_true rfl) rfl (Nat.le_of_ble_eq_true rfl) dX10_writeForbidden_58 rfl (fun h14 => ?_)
          refine z_iload_n 62 2 dX10_writeForbidden_61 rfl rfl ?_
          exact z_ireturn dX10_writeForbidden_62 rfl
        · exact z_sub [] rfl (BX10_writeForbidden_46 b0 q10.2 )
    · exact z_sub [] rfl (BX10_writeForbidden_17 b0 q3.2 )
-- X10_periodic
def bX10_periodic_63 (self35 : Int32 × Int32 × ZH → Option (Int32 × ZH)) (x0 : Nat) (x2 : Int32) (x3 : Int32) (x4 : Int32) (h : ZH) : Option (Int32 × ZH) :=
  self35 (x3, (x4 + (nI 1)), h)
theorem BX10_periodic_63 (b0 : Nat) (self35 : Int32 × Int32 × ZH → Option (Int32 × ZH)) (x0 : Nat) (x2 : Int32) (x3 : Int32) (x4 : Int32) (h : ZH) (hself35 : ∀ (y3 : Int32) (y4 : Int32) (hh : ZH), Zr zi b0 YX10_periodic 17 35 [(0, .ref (b0 + x0)), (2, .int x2), (3, .int y3), (4, .int y4)] [] hh (self35 (y3, y4, hh))) : Zr zi b0 YX10_periodic 17 63 [(0, .ref (b0 + x0)), (2, .int x2), (3, .int x3), (4, .int x4)] [] h (bX10_periodic_63 self35 x0 x2 x3 x4 h) := by
  unfold bX10_periodic_63
  refine z_iinc (lv2 := [(4, .int (x4 + (nI 1))), (0, .ref (b0 + x0)), (2, .int x2), (3, .int x3)]) (nI 1) 66 3 dX10_periodic_63 rfl rfl zki_1 (Nat.le_of_ble_eq_true rfl) rfl ?_
  refine z_goto 35 dX10_periodic_66 (by decide) ?_
  exact z_sub [1, 2, 3, 0] rfl (hself35 x3 (x4 + (nI 1)) h)
def kX10_periodic_35 (x0 : Nat) (x2 : Int32) (self35 : Int32 × Int32 × ZH → Option (Int32 × ZH)) (x3 : Int32) (x4 : Int32) (h : ZH) : Option (Int32 × ZH) :=
  if x2 < x4 then (some (x3, h)) else
  (if x4 = 0 then none else
  if (jrem x2 x4) = 0 then ((gR h 10 x0 10).bind fun v3 =>
  (fX6_countOrbits v3 x4 h).bind fun q4 =>
  zl (x3 + (x4 * q4.1)) fun v5 =>
  bX10_periodic_63 self35 x0 x2 v5 x4 q4.2) else
  (bX10_periodic_63 self35 x0 x2 x3 x4 h))
def lX10_periodic_35 (x0 : Nat) (x2 : Int32) : (Int32 × Int32 × ZH → Option (Int32 × ZH)) → Int32 × Int32 × ZH → Option (Int32 × ZH) := fun self s => kX10_periodic_35 x0 x2 self s.1 s.2.1 s.2.2
theorem KX10_periodic_35 (b0 : Nat) (x0 : Nat) (x2 : Int32) (self35 : Int32 × Int32 × ZH → Option (Int32 × ZH)) (hself35 : ∀ (y3 : Int32) (y4 : Int32) (hh : ZH), Zr zi b0 YX10_periodic 17 35 [(0, .ref (b0 + x0)), (2, .int x2), (3, .int y3), (4, .int y4)] [] hh (self35 (y3, y4, hh))) (x3 : Int32) (x4 : Int32) (h : ZH) : Zr zi b0 YX10_periodic 17 35 [(0, .ref (b0 + x0)), (2, .int x2), (3, .int x3), (4, .int x4)] [] h (kX10_periodic_35 x0 x2 self35 x3 x4 h) := by
  unfold kX10_periodic_35
  refine z_iload 37 3 dX10_periodic_35 rfl rfl ?_
  refine z_iload_n 38 1 dX10_periodic_37 rfl rfl ?_
  refine z_icmp_gt 69 41 dX10_periodic_38 (by decide) rfl (fun c1 => ?_) (fun c1 => ?_)
  · refine z_iload_n 70 2 dX10_periodic_69 rfl rfl ?_
    exact z_ireturn dX10_periodic_70 rfl
  · refine z_iload_n 42 1 dX10_periodic_41 rfl rfl ?_
    refine z_iload 44 3 dX10_periodic_42 rfl rfl ?_
    refine z_irem 45 dX10_periodic_44 rfl (fun _ => ?_)
    refine z_if_ne 63 48 dX10_periodic_45 (by decide) rfl (fun c2 => ?_) (fun c2 => ?_)
    · exact z_sub [0, 1, 2, 3] rfl (BX10_periodic_63 b0 self35 x0 x2 x3 x4 h hself35)
    · refine z_iload_n 49 2 dX10_periodic_48 rfl rfl ?_
      refine z_iload 51 3 dX10_periodic_49 rfl rfl ?_
      refine z_aload_n 52 0 dX10_periodic_51 rfl rfl ?_
      refine z_getR 55 zC10 (Nat.le_of_ble_eq_true rfl) rfl w_248 dX10_periodic_52 rfl (fun v3 _ => ?_)
      refine z_iload 57 3 dX10_periodic_55 rfl rfl ?_
      refine z_callVi 60 (mX6_countOrbits b0 v3 x4 h) zyX6_countOrbits rfl w_584 (ci := 6) rfl (Nat.le_of_ble_eq_true rfl) (fun _ e9 => kX6_countOrbits e9) wm_yX6_countOrbits ws_yX6_countOrbits (Nat.le_of_ble_eq_true rfl) rfl (Nat.le_of_ble_eq_true rfl) dX10_periodic_57 rfl (fun q4 => ?_)
      refine z_imul 61 dX10_periodic_60 rfl ?_
      refine z_iadd 62 dX10_periodic_61 rfl ?_
      refine z_letI (fun v5 _ => ?_)
      refine z_istore_n (lv2 := [(3, .int v5), (0, .ref (b0 + x0)), (2, .int x2), (4, .int x4)]) 63 dX10_periodic_62 rfl (Nat.le_of_ble_eq_true rfl) rfl ?_
      exact z_sub [1, 2, 0, 3] rfl (BX10_periodic_63 b0 self35 x0 x2 v5 x4 q4.2 hself35)
theorem BX10_periodic_35 (b0 : Nat) (x0 : Nat) (x2 : Int32) (n : Nat) (x3 : Int32) (x4 : Int32) (h : ZH) : Zr zi b0 YX10_periodic 17 35 [(0, .ref (b0 + x0)), (2, .int x2), (3, .int x3), (4, .int x4)] [] h (zloop (lX10_periodic_35 x0 x2) n (x3, x4, h)) :=
  zloop_Zr (fun s => [(0, .ref (b0 + x0)), (2, .int x2), (3, .int s.1), (4, .int s.2.1)]) (fun _ => []) (fun s => s.2.2) (lX10_periodic_35 x0 x2) (fun self hs s => KX10_periodic_35 b0 x0 x2 self (fun y3 y4 hh => hs (y3, y4, hh)) s.1 s.2.1 s.2.2) n (x3, x4, h)
def bX10_periodic_17 (h : ZH) : Option (Int32 × ZH) :=
  some ((-2 : Int32), h)
theorem BX10_periodic_17 (b0 : Nat) (h : ZH) : Zr zi b0 YX10_periodic 17 17 [] [] h (bX10_periodic_17 h) := by
  unfold bX10_periodic_17
  refine z_bipush (-2 : Int32) 19 zkb_m2 dX10_periodic_17 rfl ?_
  exact z_ireturn dX10_periodic_19 rfl
def fX10_periodic (x0 : Nat) (x1 : Int32) (x2 : Int32) (h : ZH) : Option (Int32 × ZH) :=
  if x0 < zn h ∧ zK h x0 = 10 then ((fX10_isSlot x1 h).bind fun q1 =>
  if q1.1 = 0 then (bX10_periodic_17 q1.2) else
  ((fX10_isWithin x2 (nI 1) (nI 7) q1.2).bind fun q3 =>
  if q3.1 = 0 then (bX10_periodic_17 q3.2) else
  ((gR q3.2 10 x0 0).bind fun v5 =>
  (lR q3.2 17 v5 x1).bind fun v6 =>
  (fX10_loadSubsets x0 v6 q3.2).bind fun h7 =>
  zloop (lX10_periodic_35 x0 x2) zfu ((nI 0), (nI 1), h7)))) else none
theorem kX10_periodic {x0 : Nat} {x1 : Int32} {x2 : Int32} {h : ZH} {x : Int32 × ZH} (e : fX10_periodic x0 x1 x2 h = some x) : x0 < zn h ∧ zK h x0 = 10 := by
  unfold fX10_periodic at e
  exact zguard e
theorem mX10_periodic (b0 : Nat) (x0 : Nat) (x1 : Int32) (x2 : Int32) (h : ZH) : ZM zi b0 YX10_periodic 17 [.ref (b0 + x0), .int x1, .int x2] h (fX10_periodic x0 x1 x2 h) := by
  unfold fX10_periodic
  refine ZM.of (by decide) rfl (Nat.le_of_ble_eq_true rfl) (fun _ => trivial) ?_
  refine z_sub (lv2 := [(0, .ref (b0 + x0)), (1, .int x1), (2, .int x2)]) [0, 1, 2] rfl ?_
  refine z_guard (fun _ => ?_)
  refine z_iload_n 1 1 dX10_periodic_0 rfl rfl ?_
  refine z_callSi 4 (mX10_isSlot b0 x1 h) zyX10_isSlot rfl w_297 wt_yX10_isSlot (Nat.le_of_ble_eq_true rfl) rfl (Nat.le_of_ble_eq_true rfl) dX10_periodic_1 rfl (fun q1 => ?_)
  refine z_if_eq 17 7 dX10_periodic_4 (by decide) rfl (fun c2 => ?_) (fun c2 => ?_)
  · exact z_sub [] rfl (BX10_periodic_17 b0 q1.2 )
  · refine z_iload_n 8 2 dX10_periodic_7 rfl rfl ?_
    refine z_iconst (nI 1) 9 zki_1 dX10_periodic_8 rfl ?_
    refine z_bipush (nI 7) 11 zkb_7 dX10_periodic_9 rfl ?_
    refine z_callSi 14 (mX10_isWithin b0 x2 (nI 1) (nI 7) q1.2) zyX10_isWithin rfl w_372 wt_yX10_isWithin (Nat.le_of_ble_eq_true rfl) rfl (Nat.le_of_ble_eq_true rfl) dX10_periodic_11 rfl (fun q3 => ?_)
    refine z_if_ne 20 17 dX10_periodic_14 (by decide) rfl (fun c4 => ?_) (fun c4 => ?_)
    · refine z_aload_n 21 0 dX10_periodic_20 rfl rfl ?_
      refine z_aload_n 22 0 dX10_periodic_21 rfl rfl ?_
      refine z_getR 25 zC10 (Nat.le_of_ble_eq_true rfl) rfl w_238 dX10_periodic_22 rfl (fun v5 _ => ?_)
      refine z_iload_n 26 1 dX10_periodic_25 rfl rfl ?_
      refine z_aaload17 27 dX10_periodic_26 rfl (fun v6 _ => ?_)
      refine z_callVv 30 (mX10_loadSubsets b0 x0 v6 q3.2) zyX10_loadSubsets rfl w_473 (ci := 10) rfl (Nat.le_of_ble_eq_true rfl) (fun _ e9 => kX10_loadSubsets e9) wm_yX10_loadSubsets ws_yX10_loadSubsets (Nat.le_of_ble_eq_true rfl) rfl (Nat.le_of_ble_eq_true rfl) dX10_periodic_27 rfl (fun h7 => ?_)
      refine z_iconst (nI 0) 31 zki_0 dX10_periodic_30 rfl ?_
      refine z_istore_n (lv2 := [(3, .int (nI 0)), (0, .ref (b0 + x0)), (1, .int x1), (2, .int x2)]) 32 dX10_periodic_31 rfl (Nat.le_of_ble_eq_true rfl) rfl ?_
      refine z_iconst (nI 1) 33 zki_1 dX10_periodic_32 rfl ?_
      refine z_istore (lv2 := [(4, .int (nI 1)), (3, .int (nI 0)), (0, .ref (b0 + x0)), (1, .int x1), (2, .int x2)]) 35 dX10_periodic_33 rfl (Nat.le_of_ble_eq_true rfl) rfl ?_
      exact z_sub [2, 4, 1, 0] rfl (BX10_periodic_35 b0 x0 x2 zfu (nI 0) (nI 1) h7)
    · exact z_sub [] rfl (BX10_periodic_17 b0 q3.2 )
-- X10_orbits
def bX10_orbits_17 (h : ZH) : Option (Int32 × ZH) :=
  some ((-2 : Int32), h)
theorem BX10_orbits_17 (b0 : Nat) (h : ZH) : Zr zi b0 YX10_orbits 17 17 [] [] h (bX10_orbits_17 h) := by
  unfold bX10_orbits_17
  refine z_bipush (-2 : Int32) 19 zkb_m2 dX10_orbits_17 rfl ?_
  exact z_ireturn dX10_orbits_19 rfl
def fX10_orbits (x0 : Nat) (x1 : Int32) (x2 : Int32) (h : ZH) : Option (Int32 × ZH) :=
  if x0 < zn h ∧ zK h x0 = 10 then ((fX10_isSlot x1 h).bind fun q1 =>
  if q1.1 = 0 then (bX10_orbits_17 q1.2) else
  ((fX10_isWithin x2 (nI 1) (nI 7) q1.2).bind fun q3 =>
  if q3.1 = 0 then (bX10_orbits_17 q3.2) else
  ((gR q3.2 10 x0 0).bind fun v5 =>
  (lR q3.2 17 v5 x1).bind fun v6 =>
  (fX10_loadSubsets x0 v6 q3.2).bind fun h7 =>
  (gR h7 10 x0 10).bind fun v8 =>
  (fX6_countOrbits v8 x2 h7).bind fun q9 =>
  some (q9.1, q9.2)))) else none
theorem kX10_orbits {x0 : Nat} {x1 : Int32} {x2 : Int32} {h : ZH} {x : Int32 × ZH} (e : fX10_orbits x0 x1 x2 h = some x) : x0 < zn h ∧ zK h x0 = 10 := by
  unfold fX10_orbits at e
  exact zguard e
theorem mX10_orbits (b0 : Nat) (x0 : Nat) (x1 : Int32) (x2 : Int32) (h : ZH) : ZM zi b0 YX10_orbits 17 [.ref (b0 + x0), .int x1, .int x2] h (fX10_orbits x0 x1 x2 h) := by
  unfold fX10_orbits
  refine ZM.of (by decide) rfl (Nat.le_of_ble_eq_true rfl) (fun _ => trivial) ?_
  refine z_sub (lv2 := [(0, .ref (b0 + x0)), (1, .int x1), (2, .int x2)]) [0, 1, 2] rfl ?_
  refine z_guard (fun _ => ?_)
  refine z_iload_n 1 1 dX10_orbits_0 rfl rfl ?_
  refine z_callSi 4 (mX10_isSlot b0 x1 h) zyX10_isSlot rfl w_297 wt_yX10_isSlot (Nat.le_of_ble_eq_true rfl) rfl (Nat.le_of_ble_eq_true rfl) dX10_orbits_1 rfl (fun q1 => ?_)
  refine z_if_eq 17 7 dX10_orbits_4 (by decide) rfl (fun c2 => ?_) (fun c2 => ?_)
  · exact z_sub [] rfl (BX10_orbits_17 b0 q1.2 )
  · refine z_iload_n 8 2 dX10_orbits_7 rfl rfl ?_
    refine z_iconst (nI 1) 9 zki_1 dX10_orbits_8 rfl ?_
    refine z_bipush (nI 7) 11 zkb_7 dX10_orbits_9 rfl ?_
    refine z_callSi 14 (mX10_isWithin b0 x2 (nI 1) (nI 7) q1.2) zyX10_isWithin rfl w_372 wt_yX10_isWithin (Nat.le_of_ble_eq_true rfl) rfl (Nat.le_of_ble_eq_true rfl) dX10_orbits_11 rfl (fun q3 => ?_)
    refine z_if_ne 20 17 dX10_orbits_14 (by decide) rfl (fun c4 => ?_) (fun c4 => ?_)
    · refine z_aload_n 21 0 dX10_orbits_20 rfl rfl ?_
      refine z_aload_n 22 0 dX10_orbits_21 rfl rfl ?_
      refine z_getR 25 zC10 (Nat.le_of_ble_eq_true rfl) rfl w_238 dX10_orbits_22 rfl (fun v5 _ => ?_)
      refine z_iload_n 26 1 dX10_orbits_25 rfl rfl ?_
      refine z_aaload17 27 dX10_orbits_26 rfl (fun v6 _ => ?_)
      refine z_callVv 30 (mX10_loadSubsets b0 x0 v6 q3.2) zyX10_loadSubsets rfl w_473 (ci := 10) rfl (Nat.le_of_ble_eq_true rfl) (fun _ e9 => kX10_loadSubsets e9) wm_yX10_loadSubsets ws_yX10_loadSubsets (Nat.le_of_ble_eq_true rfl) rfl (Nat.le_of_ble_eq_true rfl) dX10_orbits_27 rfl (fun h7 => ?_)
      refine z_aload_n 31 0 dX10_orbits_30 rfl rfl ?_
      refine z_getR 34 zC10 (Nat.le_of_ble_eq_true rfl) rfl w_248 dX10_orbits_31 rfl (fun v8 _ => ?_)
      refine z_iload_n 35 2 dX10_orbits_34 rfl rfl ?_
      refine z_callVi 38 (mX6_countOrbits b0 v8 x2 h7) zyX6_countOrbits rfl w_584 (ci := 6) rfl (Nat.le_of_ble_eq_true rfl) (fun _ e9 => kX6_countOrbits e9) wm_yX6_countOrbits ws_yX6_countOrbits (Nat.le_of_ble_eq_true rfl) rfl (Nat.le_of_ble_eq_true rfl) dX10_orbits_35 rfl (fun q9 => ?_)
      exact z_ireturn dX10_orbits_38 rfl
    · exact z_sub [] rfl (BX10_orbits_17 b0 q3.2 )
-- X10_characteristic
def fX10_characteristic (x0 : Nat) (x1 : Int32) (x2 : Int32) (h : ZH) : Option (Int64 × ZH) :=
  if x0 < zn h ∧ zK h x0 = 10 then ((fX10_isSlot x1 h).bind fun q1 =>
  if q1.1 = 0 then (some ((-9223372036854775808 : Int64), q1.2)) else
  ((gR q1.2 10 x0 8).bind fun v3 =>
  (gR q1.2 10 x0 0).bind fun v4 =>
  (lR q1.2 17 v4 x1).bind fun v5 =>
  (fX1_copyCoreOf v3 v5 q1.2).bind fun h6 =>
  (gR h6 10 x0 8).bind fun v7 =>
  (fX1_core v7 h6).bind fun q8 =>
  (fJ6_bitCount_0f7a4 q8.1 q8.2).bind fun q9 =>
  (fX10_isWithin x2 (nI 0) q9.1 q9.2).bind fun q10 =>
  if q10.1 = 0 then (some ((-9223372036854775808 : Int64), q10.2)) else
  ((gR q10.2 10 x0 16).bind fun v12 =>
  (gR q10.2 10 x0 8).bind fun v13 =>
  (fX5_compute v12 v13 q10.2).bind fun h14 =>
  (gR h14 10 x0 16).bind fun v15 =>
  (fX5_coefficient v15 ((x2 + (nI 8)) - q9.1) h14).bind fun q16 =>
  some (q16.1, q16.2)))) else none
theorem kX10_characteristic {x0 : Nat} {x1 : Int32} {x2 : Int32} {h : ZH} {x : Int64 × ZH} (e : fX10_characteristic x0 x1 x2 h = some x) : x0 < zn h ∧ zK h x0 = 10 := by
  unfold fX10_characteristic at e
  exact zguard e
theorem mX10_characteristic (b0 : Nat) (x0 : Nat) (x1 : Int32) (x2 : Int32) (h : ZH) : ZM zj b0 YX10_characteristic 5 [.ref (b0 + x0), .int x1, .int x2] h (fX10_characteristic x0 x1 x2 h) := by
  unfold fX10_characteristic
  refine ZM.of (by decide) rfl (Nat.le_of_ble_eq_true rfl) (fun _ => trivial) ?_
  refine z_sub (lv2 := [(0, .ref (b0 + x0)), (1, .int x1), (2, .int x2)]) [0, 1, 2] rfl ?_
  refine z_guard (fun _ => ?_)
  refine z_iload_n 1 1 dX10_characteristic_0 rfl rfl ?_
  refine z_callSi 4 (mX10_isSlot b0 x1 h) zyX10_isSlot rfl w_297 wt_yX10_isSlot (Nat.le_of_ble_eq_true rfl) rfl (Nat.le_of_ble_eq_true rfl) dX10_characteristic_1 rfl (fun q1 => ?_)
  refine z_if_ne 11 7 dX10_characteristic_4 (by decide) rfl (fun c2 => ?_) (fun c2 => ?_)
  · refine z_aload_n 12 0 dX10_characteristic_11 rfl rfl ?_
    refine z_getR 15 zC10 (Nat.le_of_ble_eq_true rfl) rfl w_246 dX10_characteristic_12 rfl (fun v3 _ => ?_)
    refine z_aload_n 16 0 dX10_characteristic_15 rfl rfl ?_
    refine z_getR 19 zC10 (Nat.le_of_ble_eq_true rfl) rfl w_238 dX10_characteristic_16 rfl (fun v4 _ => ?_)
    refine z_iload_n 20 1 dX10_characteristic_19 rfl rfl ?_
    refine z_aaload17 21 dX10_characteristic_20 rfl (fun v5 _ => ?_)
    refine z_callVv 24 (mX1_copyCoreOf b0 v3 v5 q1.2) zyX1_copyCoreOf rfl w_444 (ci := 1) rfl (Nat.le_of_ble_eq_true rfl) (fun _ e9 => kX1_copyCoreOf e9) wm_yX1_copyCoreOf ws_yX1_copyCoreOf (Nat.le_of_ble_eq_true rfl) rfl (Nat.le_of_ble_eq_true rfl) dX10_characteristic_21 rfl (fun h6 => ?_)
    refine z_aload_n 25 0 dX10_characteristic_24 rfl rfl ?_
    refine z_getR 28 zC10 (Nat.le_of_ble_eq_true rfl) rfl w_246 dX10_characteristic_25 rfl (fun v7 _ => ?_)
    refine z_callVi 31 (mX1_core b0 v7 h6) zyX1_core rfl w_424 (ci := 1) rfl (Nat.le_of_ble_eq_true rfl) (fun _ e9 => kX1_core e9) wm_yX1_core ws_yX1_core (Nat.le_of_ble_eq_true rfl) rfl (Nat.le_of_ble_eq_true rfl) dX10_characteristic_28 rfl (fun q8 => ?_)
    refine z_callSi 34 (mJ6_bitCount_0f7a4 b0 q8.1 q8.2) zyJ6_bitCount_0f7a4 rfl w_605 wt_yJ6_bitCount_0f7a4 (Nat.le_of_ble_eq_true rfl) rfl (Nat.le_of_ble_eq_true rfl) dX10_characteristic_31 rfl (fun q9 => ?_)
    refine z_istore_n (lv2 := [(3, .int q9.1), (0, .ref (b0 + x0)), (1, .int x1), (2, .int x2)]) 35 dX10_characteristic_34 rfl (Nat.le_of_ble_eq_true rfl) rfl ?_
    refine z_iload_n 36 3 dX10_characteristic_35 rfl rfl ?_
    refine z_iconst (nI 0) 37 zki_0 dX10_characteristic_36 rfl ?_
    refine z_iload_n 38 0 dX10_characteristic_37 rfl rfl ?_
    refine z_callSi 41 (mX10_isWithin b0 x2 (nI 0) q9.1 q9.2) zyX10_isWithin rfl w_372 wt_yX10_isWithin (Nat.le_of_ble_eq_true rfl) rfl (Nat.le_of_ble_eq_true rfl) dX10_characteristic_38 rfl (fun q10 => ?_)
    refine z_if_ne 48 44 dX10_characteristic_41 (by decide) rfl (fun c11 => ?_) (fun c11 => ?_)
    · refine z_aload_n 49 1 dX10_characteristic_48 rfl rfl ?_
      refine z_getR 52 zC10 (Nat.le_of_ble_eq_true rfl) rfl w_254 dX10_characteristic_49 rfl (fun v12 _ => ?_)
      refine z_aload_n 53 1 dX10_characteristic_52 rfl rfl ?_
      refine z_getR 56 zC10 (Nat.le_of_ble_eq_true rfl) rfl w_246 dX10_characteristic_53 rfl (fun v13 _ => ?_)
      refine z_callVv 59 (mX5_compute b0 v12 v13 q10.2) zyX5_compute rfl w_606 (ci := 5) rfl (Nat.le_of_ble_eq_true rfl) (fun _ e9 => kX5_compute e9) wm_yX5_compute ws_yX5_compute (Nat.le_of_ble_eq_true rfl) rfl (Nat.le_of_ble_eq_true rfl) dX10_characteristic_56 rfl (fun h14 => ?_)
      refine z_aload_n 60 1 dX10_characteristic_59 rfl rfl ?_
      refine z_getR 63 zC10 (Nat.le_of_ble_eq_true rfl) rfl w_254 dX10_characteristic_60 rfl (fun v15 _ => ?_)
      refine z_iload_n 64 3 dX10_characteristic_63 rfl rfl ?_
      refine z_bipush (nI 8) 66 zkb_8 dX10_characteristic_64 rfl ?_
      refine z_iadd 67 dX10_characteristic_66 rfl ?_
      refine z_iload_n 68 0 dX10_characteristic_67 rfl rfl ?_
      refine z_isub 69 dX10_characteristic_68 rfl ?_
      refine z_callVj 72 (mX5_coefficient b0 v15 ((x2 + (nI 8)) - q9.1) h14) zyX5_coefficient rfl w_627 (ci := 5) rfl (Nat.le_of_ble_eq_true rfl) (fun _ e9 => kX5_coefficient e9) wm_yX5_coefficient ws_yX5_coefficient (Nat.le_of_ble_eq_true rfl) rfl (Nat.le_of_ble_eq_true rfl) dX10_characteristic_69 rfl (fun q16 => ?_)
      exact z_lreturn dX10_characteristic_72 rfl
    · refine z_ldc2 47 w_604 dX10_characteristic_44 rfl ?_
      exact z_lreturn dX10_characteristic_47 rfl
  · refine z_ldc2 10 w_604 dX10_characteristic_7 rfl ?_
    exact z_lreturn dX10_characteristic_10 rfl
-- X10_buildCover
def bX10_buildCover_58 (t0 : Int32) (h : ZH) : Option (Int32 × ZH) :=
  some (t0, h)
theorem BX10_buildCover_58 (b0 : Nat) (t0 : Int32) (h : ZH) : Zr zi b0 YX10_buildCover 6 58 [] [.int t0] h (bX10_buildCover_58 t0 h) := by
  unfold bX10_buildCover_58
  exact z_ireturn dX10_buildCover_58 rfl
def fX10_buildCover (x0 : Nat) (x1 : Nat) (h : ZH) : Option (Int32 × ZH) :=
  if x0 < zn h ∧ zK h x0 = 10 then ((gR h 10 x0 8).bind fun v1 =>
  (fX1_copyCoreOf v1 x1 h).bind fun h2 =>
  (gR h2 10 x0 8).bind fun v3 =>
  (fX1_isStronglyConnected v3 h2).bind fun q4 =>
  if q4.1 = 0 then (some ((-4 : Int32), q4.2)) else
  ((gR q4.2 10 x0 10).bind fun v6 =>
  (gR q4.2 10 x0 8).bind fun v7 =>
  (fX6_build v6 v7 q4.2).bind fun h8 =>
  (gR h8 10 x0 14).bind fun v9 =>
  (gR h8 10 x0 10).bind fun v10 =>
  (fX0_build v9 v10 h8).bind fun q11 =>
  if q11.1 = 0 then (bX10_buildCover_58 (-5 : Int32) q11.2) else
  ((gR q11.2 10 x0 14).bind fun v13 =>
  (fX0_size v13 q11.2).bind fun q14 =>
  bX10_buildCover_58 q14.1 q14.2))) else none
theorem kX10_buildCover {x0 : Nat} {x1 : Nat} {h : ZH} {x : Int32 × ZH} (e : fX10_buildCover x0 x1 h = some x) : x0 < zn h ∧ zK h x0 = 10 := by
  unfold fX10_buildCover at e
  exact zguard e
theorem mX10_buildCover (b0 : Nat) (x0 : Nat) (x1 : Nat) (h : ZH) : ZM zi b0 YX10_buildCover 6 [.ref (b0 + x0), .ref (b0 + x1)] h (fX10_buildCover x0 x1 h) := by
  unfold fX10_buildCover
  refine ZM.of (by decide) rfl (Nat.le_of_ble_eq_true rfl) (fun _ => trivial) ?_
  refine z_sub (lv2 := [(0, .ref (b0 + x0)), (1, .ref (b0 + x1))]) [0, 1] rfl ?_
  refine z_guard (fun _ => ?_)
  refine z_aload_n 1 0 dX10_buildCover_0 rfl rfl ?_
  refine z_getR 4 zC10 (Nat.le_of_ble_eq_true rfl) rfl w_246 dX10_buildCover_1 rfl (fun v1 _ => ?_)
  refine z_aload_n 5 1 dX10_buildCover_4 rfl rfl ?_
  refine z_callVv 8 (mX1_copyCoreOf b0 v1 x1 h) zyX1_copyCoreOf rfl w_444 (ci := 1) rfl (Nat.le_of_ble_eq_true rfl) (fun _ e9 => kX1_copyCoreOf e9) wm_yX1_copyCoreOf ws_yX1_copyCoreOf (Nat.le_of_ble_eq_true rfl) rfl (Nat.le_of_ble_eq_true rfl) dX10_buildCover_5 rfl (fun h2 => ?_)
  refine z_aload_n 9 0 dX10_buildCover_8 rfl rfl ?_
  refine z_getR 12 zC10 (Nat.le_of_ble_eq_true rfl) rfl w_246 dX10_buildCover_9 rfl (fun v3 _ => ?_)
  refine z_callVi 15 (mX1_isStronglyConnected b0 v3 h2) zyX1_isStronglyConnected rfl w_449 (ci := 1) rfl (Nat.le_of_ble_eq_true rfl) (fun _ e9 => kX1_isStronglyConnected e9) wm_yX1_isStronglyConnected ws_yX1_isStronglyConnected (Nat.le_of_ble_eq_true rfl) rfl (Nat.le_of_ble_eq_true rfl) dX10_buildCover_12 rfl (fun q4 => ?_)
  refine z_if_ne 21 18 dX10_buildCover_15 (by decide) rfl (fun c5 => ?_) (fun c5 => ?_)
  · refine z_aload_n 22 0 dX10_buildCover_21 rfl rfl ?_
    refine z_getR 25 zC10 (Nat.le_of_ble_eq_true rfl) rfl w_248 dX10_buildCover_22 rfl (fun v6 _ => ?_)
    refine z_aload_n 26 0 dX10_buildCover_25 rfl rfl ?_
    refine z_getR 29 zC10 (Nat.le_of_ble_eq_true rfl) rfl w_246 dX10_buildCover_26 rfl (fun v7 _ => ?_)
    refine z_callVv 32 (mX6_build b0 v6 v7 q4.2) zyX6_build rfl w_477 (ci := 6) rfl (Nat.le_of_ble_eq_true rfl) (fun _ e9 => kX6_build e9) wm_yX6_build ws_yX6_build (Nat.le_of_ble_eq_true rfl) rfl (Nat.le_of_ble_eq_true rfl) dX10_buildCover_29 rfl (fun h8 => ?_)
    refine z_aload_n 33 0 dX10_buildCover_32 rfl rfl ?_
    refine z_getR 36 zC10 (Nat.le_of_ble_eq_true rfl) rfl w_252 dX10_buildCover_33 rfl (fun v9 _ => ?_)
    refine z_aload_n 37 0 dX10_buildCover_36 rfl rfl ?_
    refine z_getR 40 zC10 (Nat.le_of_ble_eq_true rfl) rfl w_248 dX10_buildCover_37 rfl (fun v10 _ => ?_)
    refine z_callVi 43 (mX0_build b0 v9 v10 h8) zyX0_build rfl w_639 (ci := 0) rfl (Nat.le_of_ble_eq_true rfl) (fun _ e9 => kX0_build e9) wm_yX0_build ws_yX0_build (Nat.le_of_ble_eq_true rfl) rfl (Nat.le_of_ble_eq_true rfl) dX10_buildCover_40 rfl (fun q11 => ?_)
    refine z_if_eq 56 46 dX10_buildCover_43 (by decide) rfl (fun c12 => ?_) (fun c12 => ?_)
    · refine z_bipush (-5 : Int32) 58 zkb_m5 dX10_buildCover_56 rfl ?_
      exact z_sub [] rfl (BX10_buildCover_58 b0 (-5 : Int32) q11.2 )
    · refine z_aload_n 47 0 dX10_buildCover_46 rfl rfl ?_
      refine z_getR 50 zC10 (Nat.le_of_ble_eq_true rfl) rfl w_252 dX10_buildCover_47 rfl (fun v13 _ => ?_)
      refine z_callVi 53 (mX0_size b0 v13 q11.2) zyX0_size rfl w_719 (ci := 0) rfl (Nat.le_of_ble_eq_true rfl) (fun _ e9 => kX0_size e9) wm_yX0_size ws_yX0_size (Nat.le_of_ble_eq_true rfl) rfl (Nat.le_of_ble_eq_true rfl) dX10_buildCover_50 rfl (fun q14 => ?_)
      refine z_goto 58 dX10_buildCover_53 (by decide) ?_
      exact z_sub [] rfl (BX10_buildCover_58 b0 q14.1 q14.2 )
  · refine z_bipush (-4 : Int32) 20 zkb_m4 dX10_buildCover_18 rfl ?_
    exact z_ireturn dX10_buildCover_20 rfl
-- X10_cover
def bX10_cover_51 (x3 : Int32) (h : ZH) : Option (Int32 × ZH) :=
  some (x3, h)
theorem BX10_cover_51 (b0 : Nat) (x3 : Int32) (h : ZH) : Zr zi b0 YX10_cover 7 51 [(3, .int x3)] [] h (bX10_cover_51 x3 h) := by
  unfold bX10_cover_51
  refine z_iload_n 52 0 dX10_cover_51 rfl rfl ?_
  exact z_ireturn dX10_cover_52 rfl
def bX10_cover_14 (h : ZH) : Option (Int32 × ZH) :=
  some ((-2 : Int32), h)
theorem BX10_cover_14 (b0 : Nat) (h : ZH) : Zr zi b0 YX10_cover 7 14 [] [] h (bX10_cover_14 h) := by
  unfold bX10_cover_14
  refine z_bipush (-2 : Int32) 16 zkb_m2 dX10_cover_14 rfl ?_
  exact z_ireturn dX10_cover_16 rfl
def fX10_cover (x0 : Nat) (x1 : Int32) (x2 : Int32) (h : ZH) : Option (Int32 × ZH) :=
  if x0 < zn h ∧ zK h x0 = 10 then ((fX10_isSlot x1 h).bind fun q1 =>
  if q1.1 = 0 then (bX10_cover_14 q1.2) else
  ((fX10_isSlot x2 q1.2).bind fun q3 =>
  if q3.1 = 0 then (bX10_cover_14 q3.2) else
  ((gR q3.2 10 x0 0).bind fun v5 =>
  (lR q3.2 17 v5 x1).bind fun v6 =>
  (fX10_buildCover x0 v6 q3.2).bind fun q7 =>
  if q7.1 ≤ 0 then (bX10_cover_51 q7.1 q7.2) else
  ((gR q7.2 10 x0 7).bind fun v9 =>
  (gR q7.2 10 x0 14).bind fun v10 =>
  (fX0_shape v10 q7.2).bind fun q11 =>
  (fX1_copyOf v9 q11.1 q11.2).bind fun h12 =>
  (fX10_storeFresh x0 x2 h12).bind fun h13 =>
  bX10_cover_51 q7.1 h13)))) else none
theorem kX10_cover {x0 : Nat} {x1 : Int32} {x2 : Int32} {h : ZH} {x : Int32 × ZH} (e : fX10_cover x0 x1 x2 h = some x) : x0 < zn h ∧ zK h x0 = 10 := by
  unfold fX10_cover at e
  exact zguard e
theorem mX10_cover (b0 : Nat) (x0 : Nat) (x1 : Int32) (x2 : Int32) (h : ZH) : ZM zi b0 YX10_cover 7 [.ref (b0 + x0), .int x1, .int x2] h (fX10_cover x0 x1 x2 h) := by
  unfold fX10_cover
  refine ZM.of (by decide) rfl (Nat.le_of_ble_eq_true rfl) (fun _ => trivial) ?_
  refine z_sub (lv2 := [(0, .ref (b0 + x0)), (1, .int x1), (2, .int x2)]) [0, 1, 2] rfl ?_
  refine z_guard (fun _ => ?_)
  refine z_iload_n 1 1 dX10_cover_0 rfl rfl ?_
  refine z_callSi 4 (mX10_isSlot b0 x1 h) zyX10_isSlot rfl w_297 wt_yX10_isSlot (Nat.le_of_ble_eq_true rfl) rfl (Nat.le_of_ble_eq_true rfl) dX10_cover_1 rfl (fun q1 => ?_)
  refine z_if_eq 14 7 dX10_cover_4 (by decide) rfl (fun c2 => ?_) (fun c2 => ?_)
  · exact z_sub [] rfl (BX10_cover_14 b0 q1.2 )
  · refine z_iload_n 8 2 dX10_cover_7 rfl rfl ?_
    refine z_callSi 11 (mX10_isSlot b0 x2 q1.2) zyX10_isSlot rfl w_297 wt_yX10_isSlot (Nat.le_of_ble_eq_true rfl) rfl (Nat.le_of_ble_eq_true rfl) dX10_cover_8 rfl (fun q3 => ?_)
    refine z_if_ne 17 14 dX10_cover_11 (by decide) rfl (fun c4 => ?_) (fun c4 => ?_)
    · refine z_aload_n 18 0 dX10_cover_17 rfl rfl ?_
      refine z_aload_n 19 0 dX10_cover_18 rfl rfl ?_
      refine z_getR 22 zC10 (Nat.le_of_ble_eq_true rfl) rfl w_238 dX10_cover_19 rfl (fun v5 _ => ?_)
      refine z_iload_n 23 1 dX10_cover_22 rfl rfl ?_
      refine z_aaload17 24 dX10_cover_23 rfl (fun v6 _ => ?_)
      refine z_callVi 27 (mX10_buildCover b0 x0 v6 q3.2) zyX10_buildCover rfl w_635 (ci := 10) rfl (Nat.le_of_ble_eq_true rfl) (fun _ e9 => kX10_buildCover e9) wm_yX10_buildCover ws_yX10_buildCover (Nat.le_of_ble_eq_true rfl) rfl (Nat.le_of_ble_eq_true rfl) dX10_cover_24 rfl (fun q7 => ?_)
      refine z_istore_n (lv2 := [(3, .int q7.1), (0, .ref (b0 + x0)), (1, .int x1), (2, .int x2)]) 28 dX10_cover_27 rfl (Nat.le_of_ble_eq_true rfl) rfl ?_
      refine z_iload_n 29 0 dX10_cover_28 rfl rfl ?_
      refine z_if_le 51 32 dX10_cover_29 (by decide) rfl (fun c8 => ?_) (fun c8 => ?_)
      · exact z_sub [0] rfl (BX10_cover_51 b0 q7.1 q7.2 )
      · refine z_aload_n 33 1 dX10_cover_32 rfl rfl ?_
        refine z_getR 36 zC10 (Nat.le_of_ble_eq_true rfl) rfl w_245 dX10_cover_33 rfl (fun v9 _ => ?_)
        refine z_aload_n 37 1 dX10_cover_36 rfl rfl ?_
        refine z_getR 40 zC10 (Nat.le_of_ble_eq_true rfl) rfl w_252 dX10_cover_37 rfl (fun v10 _ => ?_)
        refine z_callVr 43 (mX0_shape b0 v10 q7.2) zyX0_shape rfl w_723 (ci := 0) rfl (Nat.le_of_ble_eq_true rfl) (fun _ e9 => kX0_shape e9) wm_yX0_shape ws_yX0_shape (Nat.le_of_ble_eq_true rfl) rfl (Nat.le_of_ble_eq_true rfl) dX10_cover_40 rfl (fun q11 => ?_)
        refine z_callVv 46 (mX1_copyOf b0 v9 q11.1 q11.2) zyX1_copyOf rfl w_411 (ci := 1) rfl (Nat.le_of_ble_eq_true rfl) (fun _ e9 => kX1_copyOf e9) wm_yX1_copyOf ws_yX1_copyOf (Nat.le_of_ble_eq_true rfl) rfl (Nat.le_of_ble_eq_true rfl) dX10_cover_43 rfl (fun h12 => ?_)
        refine z_aload_n 47 1 dX10_cover_46 rfl rfl ?_
        refine z_iload_n 48 3 dX10_cover_47 rfl rfl ?_
        refine z_callVv 51 (mX10_storeFresh b0 x0 x2 h12) zyX10_storeFresh rfl w_407 (ci := 10) rfl (Nat.le_of_ble_eq_true rfl) (fun _ e9 => kX10_storeFresh e9) wm_yX10_storeFresh ws_yX10_storeFresh (Nat.le_of_ble_eq_true rfl) rfl (Nat.le_of_ble_eq_true rfl) dX10_cover_48 rfl (fun h13 => ?_)
        exact z_sub [0] rfl (BX10_cover_51 b0 q7.1 h13 )
    · exact z_sub [] rfl (BX10_cover_14 b0 q3.2 )
-- X10_writeReset
def fX10_writeReset (x0 : Nat) (x1 : Int32) (h : ZH) : Option (Int32 × ZH) :=
  if x0 < zn h ∧ zK h x0 = 10 then ((fX10_isSlot x1 h).bind fun q1 =>
  if q1.1 = 0 then (some ((-2 : Int32), q1.2)) else
  ((gR q1.2 10 x0 0).bind fun v3 =>
  (lR q1.2 17 v3 x1).bind fun v4 =>
  (fX10_buildCover x0 v4 q1.2).bind fun q5 =>
  if 0 ≤ q5.1 then ((gR q5.2 10 x0 14).bind fun v7 =>
  (gR q5.2 10 x0 5).bind fun v8 =>
  (fX0_spellReset v7 v8 q5.2).bind fun h9 =>
  (gR h9 10 x0 5).bind fun v10 =>
  (fX7_length v10 h9).bind fun q11 =>
  some (q11.1, q11.2)) else
  (some (q5.1, q5.2)))) else none
theorem kX10_writeReset {x0 : Nat} {x1 : Int32} {h : ZH} {x : Int32 × ZH} (e : fX10_writeReset x0 x1 h = some x) : x0 < zn h ∧ zK h x0 = 10 := by
  unfold fX10_writeReset at e
  exact zguard e
theorem mX10_writeReset (b0 : Nat) (x0 : Nat) (x1 : Int32) (h : ZH) : ZM zi b0 YX10_writeReset 7 [.ref (b0 + x0), .int x1] h (fX10_writeReset x0 x1 h) := by
  unfold fX10_writeReset
  refine ZM.of (by decide) rfl (Nat.le_of_ble_eq_true rfl) (fun _ => trivial) ?_
  refine z_sub (lv2 := [(0, .ref (b0 + x0)), (1, .int x1)]) [0, 1] rfl ?_
  refine z_guard (fun _ => ?_)
  refine z_iload_n 1 1 dX10_writeReset_0 rfl rfl ?_
  refine z_callSi 4 (mX10_isSlot b0 x1 h) zyX10_isSlot rfl w_297 wt_yX10_isSlot (Nat.le_of_ble_eq_true rfl) rfl (Nat.le_of_ble_eq_true rfl) dX10_writeReset_1 rfl (fun q1 => ?_)
  refine z_if_ne 10 7 dX10_writeReset_4 (by decide) rfl (fun c2 => ?_) (fun c2 => ?_)
  · refine z_aload_n 11 0 dX10_writeReset_10 rfl rfl ?_
    refine z_aload_n 12 0 dX10_writeReset_11 rfl rfl ?_
    refine z_getR 15 zC10 (Nat.le_of_ble_eq_true rfl) rfl w_238 dX10_writeReset_12 rfl (fun v3 _ => ?_)
    refine z_iload_n 16 1 dX10_writeReset_15 rfl rfl ?_
    refine z_aaload17 17 dX10_writeReset_16 rfl (fun v4 _ => ?_)
    refine z_callVi 20 (mX10_buildCover b0 x0 v4 q1.2) zyX10_buildCover rfl w_635 (ci := 10) rfl (Nat.le_of_ble_eq_true rfl) (fun _ e9 => kX10_buildCover e9) wm_yX10_buildCover ws_yX10_buildCover (Nat.le_of_ble_eq_true rfl) rfl (Nat.le_of_ble_eq_true rfl) dX10_writeReset_17 rfl (fun q5 => ?_)
    refine z_istore_n (lv2 := [(2, .int q5.1), (0, .ref (b0 + x0)), (1, .int x1)]) 21 dX10_writeReset_20 rfl (Nat.le_of_ble_eq_true rfl) rfl ?_
    refine z_iload_n 22 0 dX10_writeReset_21 rfl rfl ?_
    refine z_if_ge 27 25 dX10_writeReset_22 (by decide) rfl (fun c6 => ?_) (fun c6 => ?_)
    · refine z_aload_n 28 1 dX10_writeReset_27 rfl rfl ?_
      refine z_getR 31 zC10 (Nat.le_of_ble_eq_true rfl) rfl w_252 dX10_writeReset_28 rfl (fun v7 _ => ?_)
      refine z_aload_n 32 1 dX10_writeReset_31 rfl rfl ?_
      refine z_getR 35 zC10 (Nat.le_of_ble_eq_true rfl) rfl w_243 dX10_writeReset_32 rfl (fun v8 _ => ?_)
      refine z_callVv 38 (mX0_spellReset b0 v7 v8 q5.2) zyX0_spellReset rfl w_731 (ci := 0) rfl (Nat.le_of_ble_eq_true rfl) (fun _ e9 => kX0_spellReset e9) wm_yX0_spellReset ws_yX0_spellReset (Nat.le_of_ble_eq_true rfl) rfl (Nat.le_of_ble_eq_true rfl) dX10_writeReset_35 rfl (fun h9 => ?_)
      refine z_aload_n 39 1 dX10_writeReset_38 rfl rfl ?_
      refine z_getR 42 zC10 (Nat.le_of_ble_eq_true rfl) rfl w_243 dX10_writeReset_39 rfl (fun v10 _ => ?_)
      refine z_callVi 45 (mX7_length b0 v10 h9) zyX7_length rfl w_377 (ci := 7) rfl (Nat.le_of_ble_eq_true rfl) (fun _ e9 => kX7_length e9) wm_yX7_length ws_yX7_length (Nat.le_of_ble_eq_true rfl) rfl (Nat.le_of_ble_eq_true rfl) dX10_writeReset_42 rfl (fun q11 => ?_)
      exact z_ireturn dX10_writeReset_45 rfl
    · refine z_iload_n 26 0 dX10_writeReset_25 rfl rfl ?_
      exact z_ireturn dX10_writeReset_26 rfl
  · refine z_bipush (-2 : Int32) 9 zkb_m2 dX10_writeReset_7 rfl ?_
    exact z_ireturn dX10_writeReset_9 rfl
-- X10_memory
def bX10_memory_36 (t0 : Int32) (h : ZH) : Option (Int32 × ZH) :=
  some (t0, h)
theorem BX10_memory_36 (b0 : Nat) (t0 : Int32) (h : ZH) : Zr zi b0 YX10_memory 7 36 [] [.int t0] h (bX10_memory_36 t0 h) := by
  unfold bX10_memory_36
  exact z_ireturn dX10_memory_36 rfl
def fX10_memory (x0 : Nat) (x1 : Int32) (h : ZH) : Option (Int32 × ZH) :=
  if x0 < zn h ∧ zK h x0 = 10 then ((fX10_isSlot x1 h).bind fun q1 =>
  if q1.1 = 0 then (some ((-2 : Int32), q1.2)) else
  ((gR q1.2 10 x0 0).bind fun v3 =>
  (lR q1.2 17 v3 x1).bind fun v4 =>
  (fX10_buildCover x0 v4 q1.2).bind fun q5 =>
  if 0 ≤ q5.1 then ((gR q5.2 10 x0 14).bind fun v7 =>
  (fX0_stepsToSynchronize v7 q5.2).bind fun q8 =>
  bX10_memory_36 q8.1 q8.2) else
  (bX10_memory_36 q5.1 q5.2))) else none
theorem kX10_memory {x0 : Nat} {x1 : Int32} {h : ZH} {x : Int32 × ZH} (e : fX10_memory x0 x1 h = some x) : x0 < zn h ∧ zK h x0 = 10 := by
  unfold fX10_memory at e
  exact zguard e
theorem mX10_memory (b0 : Nat) (x0 : Nat) (x1 : Int32) (h : ZH) : ZM zi b0 YX10_memory 7 [.ref (b0 + x0), .int x1] h (fX10_memory x0 x1 h) := by
  unfold fX10_memory
  refine ZM.of (by decide) rfl (Nat.le_of_ble_eq_true rfl) (fun _ => trivial) ?_
  refine z_sub (lv2 := [(0, .ref (b0 + x0)), (1, .int x1)]) [0, 1] rfl ?_
  refine z_guard (fun _ => ?_)
  refine z_iload_n 1 1 dX10_memory_0 rfl rfl ?_
  refine z_callSi 4 (mX10_isSlot b0 x1 h) zyX10_isSlot rfl w_297 wt_yX10_isSlot (Nat.le_of_ble_eq_true rfl) rfl (Nat.le_of_ble_eq_true rfl) dX10_memory_1 rfl (fun q1 => ?_)
  refine z_if_ne 10 7 dX10_memory_4 (by decide) rfl (fun c2 => ?_) (fun c2 => ?_)
  · refine z_aload_n 11 0 dX10_memory_10 rfl rfl ?_
    refine z_aload_n 12 0 dX10_memory_11 rfl rfl ?_
    refine z_getR 15 zC10 (Nat.le_of_ble_eq_true rfl) rfl w_238 dX10_memory_12 rfl (fun v3 _ => ?_)
    refine z_iload_n 16 1 dX10_memory_15 rfl rfl ?_
    refine z_aaload17 17 dX10_memory_16 rfl (fun v4 _ => ?_)
    refine z_callVi 20 (mX10_buildCover b0 x0 v4 q1.2) zyX10_buildCover rfl w_635 (ci := 10) rfl (Nat.le_of_ble_eq_true rfl) (fun _ e9 => kX10_buildCover e9) wm_yX10_buildCover ws_yX10_buildCover (Nat.le_of_ble_eq_true rfl) rfl (Nat.le_of_ble_eq_true rfl) dX10_memory_17 rfl (fun q5 => ?_)
    refine z_istore_n (lv2 := [(2, .int q5.1), (0, .ref (b0 + x0)), (1, .int x1)]) 21 dX10_memory_20 rfl (Nat.le_of_ble_eq_true rfl) rfl ?_
    refine z_iload_n 22 0 dX10_memory_21 rfl rfl ?_
    refine z_if_ge 29 25 dX10_memory_22 (by decide) rfl (fun c6 => ?_) (fun c6 => ?_)
    · refine z_aload_n 30 1 dX10_memory_29 rfl rfl ?_
      refine z_getR 33 zC10 (Nat.le_of_ble_eq_true rfl) rfl w_252 dX10_memory_30 rfl (fun v7 _ => ?_)
      refine z_callVi 36 (mX0_stepsToSynchronize b0 v7 q5.2) zyX0_stepsToSynchronize rfl w_748 (ci := 0) rfl (Nat.le_of_ble_eq_true rfl) (fun _ e9 => kX0_stepsToSynchronize e9) wm_yX0_stepsToSynchronize ws_yX0_stepsToSynchronize (Nat.le_of_ble_eq_true rfl) rfl (Nat.le_of_ble_eq_true rfl) dX10_memory_33 rfl (fun q8 => ?_)
      exact z_sub [] rfl (BX10_memory_36 b0 q8.1 q8.2 )
    · refine z_iload_n 26 0 dX10_memory_25 rfl rfl ?_
      refine z_goto 36 dX10_memory_26 (by decide) ?_
      exact z_sub [] rfl (BX10_memory_36 b0 q5.1 q5.2 )
  · refine z_bipush (-2 : Int32) 9 zkb_m2 dX10_memory_7 rfl ?_
    exact z_ireturn dX10_memory_9 rfl
