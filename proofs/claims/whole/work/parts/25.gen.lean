-- X10_isMixing
def bX10_isMixing_46 (t0 : Int32) (h : ZH) : Option (Int32 × ZH) :=
  some (t0, h)
theorem BX10_isMixing_46 (b0 : Nat) (t0 : Int32) (h : ZH) : Zr zi b0 YX10_isMixing 7 46 [] [.int t0] h (bX10_isMixing_46 t0 h) := by
  unfold bX10_isMixing_46
  exact z_ireturn dX10_isMixing_46 rfl
def fX10_isMixing (x0 : Nat) (x1 : Int32) (h : ZH) : Option (Int32 × ZH) :=
  if x0 < zn h ∧ zK h x0 = 10 then ((fX10_isSlot x1 h).bind fun q1 =>
  if q1.1 = 0 then (some ((-2 : Int32), q1.2)) else
  ((gR q1.2 10 x0 0).bind fun v3 =>
  (lR q1.2 17 v3 x1).bind fun v4 =>
  (fX10_buildCover x0 v4 q1.2).bind fun q5 =>
  if 0 ≤ q5.1 then ((gR q5.2 10 x0 14).bind fun v7 =>
  (fX0_shape v7 q5.2).bind fun q8 =>
  (fX1_cycleDivisor q8.1 q8.2).bind fun q9 =>
  if q9.1 = (nI 1) then (bX10_isMixing_46 (nI 1) q9.2) else
  (bX10_isMixing_46 (nI 0) q9.2)) else
  (some (q5.1, q5.2)))) else none
theorem kX10_isMixing {x0 : Nat} {x1 : Int32} {h : ZH} {x : Int32 × ZH} (e : fX10_isMixing x0 x1 h = some x) : x0 < zn h ∧ zK h x0 = 10 := by
  unfold fX10_isMixing at e
  exact zguard e
theorem mX10_isMixing (b0 : Nat) (x0 : Nat) (x1 : Int32) (h : ZH) : ZM zi b0 YX10_isMixing 7 [.ref (b0 + x0), .int x1] h (fX10_isMixing x0 x1 h) := by
  unfold fX10_isMixing
  refine ZM.of (by decide) rfl (Nat.le_of_ble_eq_true rfl) (fun _ => trivial) ?_
  refine z_sub (lv2 := [(0, .ref (b0 + x0)), (1, .int x1)]) [0, 1] rfl ?_
  refine z_guard (fun _ => ?_)
  refine z_iload_n 1 1 dX10_isMixing_0 rfl rfl ?_
  refine z_callSi 4 (mX10_isSlot b0 x1 h) zyX10_isSlot rfl w_297 wt_yX10_isSlot (Nat.le_of_ble_eq_true rfl) rfl (Nat.le_of_ble_eq_true rfl) dX10_isMixing_1 rfl (fun q1 => ?_)
  refine z_if_ne 10 7 dX10_isMixing_4 (by decide) rfl (fun c2 => ?_) (fun c2 => ?_)
  · refine z_aload_n 11 0 dX10_isMixing_10 rfl rfl ?_
    refine z_aload_n 12 0 dX10_isMixing_11 rfl rfl ?_
    refine z_getR 15 zC10 (Nat.le_of_ble_eq_true rfl) rfl w_238 dX10_isMixing_12 rfl (fun v3 _ => ?_)
    refine z_iload_n 16 1 dX10_isMixing_15 rfl rfl ?_
    refine z_aaload17 17 dX10_isMixing_16 rfl (fun v4 _ => ?_)
    refine z_callVi 20 (mX10_buildCover b0 x0 v4 q1.2) zyX10_buildCover rfl w_635 (ci := 10) rfl (Nat.le_of_ble_eq_true rfl) (fun _ e9 => kX10_buildCover e9) wm_yX10_buildCover ws_yX10_buildCover (Nat.le_of_ble_eq_true rfl) rfl (Nat.le_of_ble_eq_true rfl) dX10_isMixing_17 rfl (fun q5 => ?_)
    refine z_istore_n (lv2 := [(2, .int q5.1), (0, .ref (b0 + x0)), (1, .int x1)]) 21 dX10_isMixing_20 rfl (Nat.le_of_ble_eq_true rfl) rfl ?_
    refine z_iload_n 22 0 dX10_isMixing_21 rfl rfl ?_
    refine z_if_ge 27 25 dX10_isMixing_22 (by decide) rfl (fun c6 => ?_) (fun c6 => ?_)
    · refine z_aload_n 28 1 dX10_isMixing_27 rfl rfl ?_
      refine z_getR 31 zC10 (Nat.le_of_ble_eq_true rfl) rfl w_252 dX10_isMixing_28 rfl (fun v7 _ => ?_)
      refine z_callVr 34 (mX0_shape b0 v7 q5.2) zyX0_shape rfl w_723 (ci := 0) rfl (Nat.le_of_ble_eq_true rfl) (fun _ e9 => kX0_shape e9) wm_yX0_shape ws_yX0_shape (Nat.le_of_ble_eq_true rfl) rfl (Nat.le_of_ble_eq_true rfl) dX10_isMixing_31 rfl (fun q8 => ?_)
      refine z_callVi 37 (mX1_cycleDivisor b0 q8.1 q8.2) zyX1_cycleDivisor rfl w_457 (ci := 1) rfl (Nat.le_of_ble_eq_true rfl) (fun _ e9 => kX1_cycleDivisor e9) wm_yX1_cycleDivisor ws_yX1_cycleDivisor (Nat.le_of_ble_eq_true rfl) rfl (Nat.le_of_ble_eq_true rfl) dX10_isMixing_34 rfl (fun q9 => ?_)
      refine z_iconst (nI 1) 38 zki_1 dX10_isMixing_37 rfl ?_
      refine z_icmp_ne 45 41 dX10_isMixing_38 (by decide) rfl (fun c10 => ?_) (fun c10 => ?_)
      · refine z_iconst (nI 0) 46 zki_0 dX10_isMixing_45 rfl ?_
        exact z_sub [] rfl (BX10_isMixing_46 b0 (nI 0) q9.2 )
      · refine z_iconst (nI 1) 42 zki_1 dX10_isMixing_41 rfl ?_
        refine z_goto 46 dX10_isMixing_42 (by decide) ?_
        exact z_sub [] rfl (BX10_isMixing_46 b0 (nI 1) q9.2 )
    · refine z_iload_n 26 0 dX10_isMixing_25 rfl rfl ?_
      exact z_ireturn dX10_isMixing_26 rfl
  · refine z_bipush (-2 : Int32) 9 zkb_m2 dX10_isMixing_7 rfl ?_
    exact z_ireturn dX10_isMixing_9 rfl
-- X10_writeDifference
def bX10_writeDifference_14 (h : ZH) : Option (Int32 × ZH) :=
  some ((-2 : Int32), h)
theorem BX10_writeDifference_14 (b0 : Nat) (h : ZH) : Zr zi b0 YX10_writeDifference 6 14 [] [] h (bX10_writeDifference_14 h) := by
  unfold bX10_writeDifference_14
  refine z_bipush (-2 : Int32) 16 zkb_m2 dX10_writeDifference_14 rfl ?_
  exact z_ireturn dX10_writeDifference_16 rfl
def fX10_writeDifference (x0 : Nat) (x1 : Int32) (x2 : Int32) (h : ZH) : Option (Int32 × ZH) :=
  if x0 < zn h ∧ zK h x0 = 10 then ((fX10_isSlot x1 h).bind fun q1 =>
  if q1.1 = 0 then (bX10_writeDifference_14 q1.2) else
  ((fX10_isSlot x2 q1.2).bind fun q3 =>
  if q3.1 = 0 then (bX10_writeDifference_14 q3.2) else
  ((gR q3.2 10 x0 0).bind fun v5 =>
  (lR q3.2 17 v5 x1).bind fun v6 =>
  (fX10_loadSubsets x0 v6 q3.2).bind fun h7 =>
  (gR h7 10 x0 9).bind fun v8 =>
  (gR h7 10 x0 0).bind fun v9 =>
  (lR h7 17 v9 x2).bind fun v10 =>
  (fX1_copyCoreOf v8 v10 h7).bind fun h11 =>
  (gR h11 10 x0 11).bind fun v12 =>
  (gR h11 10 x0 9).bind fun v13 =>
  (fX6_build v12 v13 h11).bind fun h14 =>
  (gR h14 10 x0 13).bind fun v15 =>
  (gR h14 10 x0 10).bind fun v16 =>
  (gR h14 10 x0 11).bind fun v17 =>
  (fX4_findDifference v15 v16 v17 h14).bind fun q18 =>
  if q18.1 = 0 then (some ((-1 : Int32), q18.2)) else
  ((gR q18.2 10 x0 13).bind fun v20 =>
  (gR q18.2 10 x0 5).bind fun v21 =>
  (fX4_spellDifference v20 v21 q18.2).bind fun h22 =>
  (gR h22 10 x0 5).bind fun v23 =>
  (fX7_length v23 h22).bind fun q24 =>
  some (q24.1, q24.2))))) else none
theorem kX10_writeDifference {x0 : Nat} {x1 : Int32} {x2 : Int32} {h : ZH} {x : Int32 × ZH} (e : fX10_writeDifference x0 x1 x2 h = some x) : x0 < zn h ∧ zK h x0 = 10 := by
  unfold fX10_writeDifference at e
  exact zguard e
theorem mX10_writeDifference (b0 : Nat) (x0 : Nat) (x1 : Int32) (x2 : Int32) (h : ZH) : ZM zi b0 YX10_writeDifference 6 [.ref (b0 + x0), .int x1, .int x2] h (fX10_writeDifference x0 x1 x2 h) := by
  unfold fX10_writeDifference
  refine ZM.of (by decide) rfl (Nat.le_of_ble_eq_true rfl) (fun _ => trivial) ?_
  refine z_sub (lv2 := [(0, .ref (b0 + x0)), (1, .int x1), (2, .int x2)]) [0, 1, 2] rfl ?_
  refine z_guard (fun _ => ?_)
  refine z_iload_n 1 1 dX10_writeDifference_0 rfl rfl ?_
  refine z_callSi 4 (mX10_isSlot b0 x1 h) zyX10_isSlot rfl w_297 wt_yX10_isSlot (Nat.le_of_ble_eq_true rfl) rfl (Nat.le_of_ble_eq_true rfl) dX10_writeDifference_1 rfl (fun q1 => ?_)
  refine z_if_eq 14 7 dX10_writeDifference_4 (by decide) rfl (fun c2 => ?_) (fun c2 => ?_)
  · exact z_sub [] rfl (BX10_writeDifference_14 b0 q1.2 )
  · refine z_iload_n 8 2 dX10_writeDifference_7 rfl rfl ?_
    refine z_callSi 11 (mX10_isSlot b0 x2 q1.2) zyX10_isSlot rfl w_297 wt_yX10_isSlot (Nat.le_of_ble_eq_true rfl) rfl (Nat.le_of_ble_eq_true rfl) dX10_writeDifference_8 rfl (fun q3 => ?_)
    refine z_if_ne 17 14 dX10_writeDifference_11 (by decide) rfl (fun c4 => ?_) (fun c4 => ?_)
    · refine z_aload_n 18 0 dX10_writeDifference_17 rfl rfl ?_
      refine z_aload_n 19 0 dX10_writeDifference_18 rfl rfl ?_
      refine z_getR 22 zC10 (Nat.le_of_ble_eq_true rfl) rfl w_238 dX10_writeDifference_19 rfl (fun v5 _ => ?_)
      refine z_iload_n 23 1 dX10_writeDifference_22 rfl rfl ?_
      refine z_aaload17 24 dX10_writeDifference_23 rfl (fun v6 _ => ?_)
      refine z_callVv 27 (mX10_loadSubsets b0 x0 v6 q3.2) zyX10_loadSubsets rfl w_473 (ci := 10) rfl (Nat.le_of_ble_eq_true rfl) (fun _ e9 => kX10_loadSubsets e9) wm_yX10_loadSubsets ws_yX10_loadSubsets (Nat.le_of_ble_eq_true rfl) rfl (Nat.le_of_ble_eq_true rfl) dX10_writeDifference_24 rfl (fun h7 => ?_)
      refine z_aload_n 28 0 dX10_writeDifference_27 rfl rfl ?_
      refine z_getR 31 zC10 (Nat.le_of_ble_eq_true rfl) rfl w_247 dX10_writeDifference_28 rfl (fun v8 _ => ?_)
      refine z_aload_n 32 0 dX10_writeDifference_31 rfl rfl ?_
      refine z_getR 35 zC10 (Nat.le_of_ble_eq_true rfl) rfl w_238 dX10_writeDifference_32 rfl (fun v9 _ => ?_)
      refine z_iload_n 36 2 dX10_writeDifference_35 rfl rfl ?_
      refine z_aaload17 37 dX10_writeDifference_36 rfl (fun v10 _ => ?_)
      refine z_callVv 40 (mX1_copyCoreOf b0 v8 v10 h7) zyX1_copyCoreOf rfl w_444 (ci := 1) rfl (Nat.le_of_ble_eq_true rfl) (fun _ e9 => kX1_copyCoreOf e9) wm_yX1_copyCoreOf ws_yX1_copyCoreOf (Nat.le_of_ble_eq_true rfl) rfl (Nat.le_of_ble_eq_true rfl) dX10_writeDifference_37 rfl (fun h11 => ?_)
      refine z_aload_n 41 0 dX10_writeDifference_40 rfl rfl ?_
      refine z_getR 44 zC10 (Nat.le_of_ble_eq_true rfl) rfl w_249 dX10_writeDifference_41 rfl (fun v12 _ => ?_)
      refine z_aload_n 45 0 dX10_writeDifference_44 rfl rfl ?_
      refine z_getR 48 zC10 (Nat.le_of_ble_eq_true rfl) rfl w_247 dX10_writeDifference_45 rfl (fun v13 _ => ?_)
      refine z_callVv 51 (mX6_build b0 v12 v13 h11) zyX6_build rfl w_477 (ci := 6) rfl (Nat.le_of_ble_eq_true rfl) (fun _ e9 => kX6_build e9) wm_yX6_build ws_yX6_build (Nat.le_of_ble_eq_true rfl) rfl (Nat.le_of_ble_eq_true rfl) dX10_writeDifference_48 rfl (fun h14 => ?_)
      refine z_aload_n 52 0 dX10_writeDifference_51 rfl rfl ?_
      refine z_getR 55 zC10 (Nat.le_of_ble_eq_true rfl) rfl w_251 dX10_writeDifference_52 rfl (fun v15 _ => ?_)
      refine z_aload_n 56 0 dX10_writeDifference_55 rfl rfl ?_
      refine z_getR 59 zC10 (Nat.le_of_ble_eq_true rfl) rfl w_248 dX10_writeDifference_56 rfl (fun v16 _ => ?_)
      refine z_aload_n 60 0 dX10_writeDifference_59 rfl rfl ?_
      refine z_getR 63 zC10 (Nat.le_of_ble_eq_true rfl) rfl w_249 dX10_writeDifference_60 rfl (fun v17 _ => ?_)
      refine z_callVi 66 (mX4_findDifference b0 v15 v16 v17 h14) zyX4_findDifference rfl w_771 (ci := 4) rfl (Nat.le_of_ble_eq_true rfl) (fun _ e9 => kX4_findDifference e9) wm_yX4_findDifference ws_yX4_findDifference (Nat.le_of_ble_eq_true rfl) rfl (Nat.le_of_ble_eq_true rfl) dX10_writeDifference_63 rfl (fun q18 => ?_)
      refine z_if_ne 71 69 dX10_writeDifference_66 (by decide) rfl (fun c19 => ?_) (fun c19 => ?_)
      · refine z_aload_n 72 0 dX10_writeDifference_71 rfl rfl ?_
        refine z_getR 75 zC10 (Nat.le_of_ble_eq_true rfl) rfl w_251 dX10_writeDifference_72 rfl (fun v20 _ => ?_)
        refine z_aload_n 76 0 dX10_writeDifference_75 rfl rfl ?_
        refine z_getR 79 zC10 (Nat.le_of_ble_eq_true rfl) rfl w_243 dX10_writeDifference_76 rfl (fun v21 _ => ?_)
        refine z_callVv 82 (mX4_spellDifference b0 v20 v21 q18.2) zyX4_spellDifference rfl w_812 (ci := 4) rfl (Nat.le_of_ble_eq_true rfl) (fun _ e9 => kX4_spellDifference e9) wm_yX4_spellDifference ws_yX4_spellDifference (Nat.le_of_ble_eq_true rfl) rfl (Nat.le_of_ble_eq_true rfl) dX10_writeDifference_79 rfl (fun h22 => ?_)
        refine z_aload_n 83 0 dX10_writeDifference_82 rfl rfl ?_
        refine z_getR 86 zC10 (Nat.le_of_ble_eq_true rfl) rfl w_243 dX10_writeDifference_83 rfl (fun v23 _ => ?_)
        refine z_callVi 89 (mX7_length b0 v23 h22) zyX7_length rfl w_377 (ci := 7) rfl (Nat.le_of_ble_eq_true rfl) (fun _ e9 => kX7_length e9) wm_yX7_length ws_yX7_length (Nat.le_of_ble_eq_true rfl) rfl (Nat.le_of_ble_eq_true rfl) dX10_writeDifference_86 rfl (fun q24 => ?_)
        exact z_ireturn dX10_writeDifference_89 rfl
      · refine z_iconst (-1 : Int32) 70 zki_m1 dX10_writeDifference_69 rfl ?_
        exact z_ireturn dX10_writeDifference_70 rfl
    · exact z_sub [] rfl (BX10_writeDifference_14 b0 q3.2 )
-- X10_storeWide
def fX10_storeWide (x0 : Nat) (x1 : Int32) (h : ZH) : Option (Int32 × ZH) :=
  if x0 < zn h ∧ zK h x0 = 10 then ((gR h 10 x0 15).bind fun v1 =>
  (gR h 10 x0 7).bind fun v2 =>
  (fX8_compressCore v1 v2 h).bind fun q3 =>
  if q3.1 ≤ (nI 8) then ((fX10_storeFresh x0 x1 q3.2).bind fun h5 =>
  some (q3.1, h5)) else
  (some ((-3 : Int32), q3.2))) else none
theorem kX10_storeWide {x0 : Nat} {x1 : Int32} {h : ZH} {x : Int32 × ZH} (e : fX10_storeWide x0 x1 h = some x) : x0 < zn h ∧ zK h x0 = 10 := by
  unfold fX10_storeWide at e
  exact zguard e
theorem mX10_storeWide (b0 : Nat) (x0 : Nat) (x1 : Int32) (h : ZH) : ZM zi b0 YX10_storeWide 6 [.ref (b0 + x0), .int x1] h (fX10_storeWide x0 x1 h) := by
  unfold fX10_storeWide
  refine ZM.of (by decide) rfl (Nat.le_of_ble_eq_true rfl) (fun _ => trivial) ?_
  refine z_sub (lv2 := [(0, .ref (b0 + x0)), (1, .int x1)]) [0, 1] rfl ?_
  refine z_guard (fun _ => ?_)
  refine z_aload_n 1 0 dX10_storeWide_0 rfl rfl ?_
  refine z_getR 4 zC10 (Nat.le_of_ble_eq_true rfl) rfl w_253 dX10_storeWide_1 rfl (fun v1 _ => ?_)
  refine z_aload_n 5 0 dX10_storeWide_4 rfl rfl ?_
  refine z_getR 8 zC10 (Nat.le_of_ble_eq_true rfl) rfl w_245 dX10_storeWide_5 rfl (fun v2 _ => ?_)
  refine z_callVi 11 (mX8_compressCore b0 v1 v2 h) zyX8_compressCore rfl w_841 (ci := 8) rfl (Nat.le_of_ble_eq_true rfl) (fun _ e9 => kX8_compressCore e9) wm_yX8_compressCore ws_yX8_compressCore (Nat.le_of_ble_eq_true rfl) rfl (Nat.le_of_ble_eq_true rfl) dX10_storeWide_8 rfl (fun q3 => ?_)
  refine z_istore_n (lv2 := [(2, .int q3.1), (0, .ref (b0 + x0)), (1, .int x1)]) 12 dX10_storeWide_11 rfl (Nat.le_of_ble_eq_true rfl) rfl ?_
  refine z_iload_n 13 0 dX10_storeWide_12 rfl rfl ?_
  refine z_bipush (nI 8) 15 zkb_8 dX10_storeWide_13 rfl ?_
  refine z_icmp_le 21 18 dX10_storeWide_15 (by decide) rfl (fun c4 => ?_) (fun c4 => ?_)
  · refine z_aload_n 22 1 dX10_storeWide_21 rfl rfl ?_
    refine z_iload_n 23 2 dX10_storeWide_22 rfl rfl ?_
    refine z_callVv 26 (mX10_storeFresh b0 x0 x1 q3.2) zyX10_storeFresh rfl w_407 (ci := 10) rfl (Nat.le_of_ble_eq_true rfl) (fun _ e9 => kX10_storeFresh e9) wm_yX10_storeFresh ws_yX10_storeFresh (Nat.le_of_ble_eq_true rfl) rfl (Nat.le_of_ble_eq_true rfl) dX10_storeWide_23 rfl (fun h5 => ?_)
    refine z_iload_n 27 0 dX10_storeWide_26 rfl rfl ?_
    exact z_ireturn dX10_storeWide_27 rfl
  · refine z_bipush (-3 : Int32) 20 zkb_m3 dX10_storeWide_18 rfl ?_
    exact z_ireturn dX10_storeWide_20 rfl
-- X10_union
def kX10_union_70 (self60 : Int32 × ZH → Option (Int32 × ZH)) (x0 : Nat) (x3 : Int32) (x4 : Int32) (self70 : Int32 × ZH → Option (Int32 × ZH)) (x5 : Int32) (h : ZH) : Option (Int32 × ZH) :=
  if (nI 4) ≤ x5 then (self60 ((x4 + (nI 1)), h)) else
  ((gR h 10 x0 15).bind fun v2 =>
  (gR h 10 x0 8).bind fun v3 =>
  (fX1_row v3 x4 x5 h).bind fun q4 =>
  (fX8_link v2 x4 x5 (q4.1.toInt64) q4.2).bind fun h5 =>
  (gR h5 10 x0 15).bind fun v6 =>
  (gR h5 10 x0 9).bind fun v7 =>
  (fX1_row v7 x4 x5 h5).bind fun q8 =>
  (fX8_link v6 ((nI 8) + x4) x5 (jlshl (q8.1.toInt64) (nI 8)) q8.2).bind fun h9 =>
  self70 ((x5 + (nI 1)), h9))
def lX10_union_70 (self60 : Int32 × ZH → Option (Int32 × ZH)) (x0 : Nat) (x3 : Int32) (x4 : Int32) : (Int32 × ZH → Option (Int32 × ZH)) → Int32 × ZH → Option (Int32 × ZH) := fun self s => kX10_union_70 self60 x0 x3 x4 self s.1 s.2
theorem KX10_union_70 (b0 : Nat) (self60 : Int32 × ZH → Option (Int32 × ZH)) (x0 : Nat) (x3 : Int32) (x4 : Int32) (hself60 : ∀ (y4 : Int32) (hh : ZH), Zr zi b0 YX10_union 7 60 [(0, .ref (b0 + x0)), (3, .int x3), (4, .int y4)] [] hh (self60 (y4, hh))) (self70 : Int32 × ZH → Option (Int32 × ZH)) (hself70 : ∀ (y5 : Int32) (hh : ZH), Zr zi b0 YX10_union 7 70 [(0, .ref (b0 + x0)), (3, .int x3), (4, .int x4), (5, .int y5)] [] hh (self70 (y5, hh))) (x5 : Int32) (h : ZH) : Zr zi b0 YX10_union 7 70 [(0, .ref (b0 + x0)), (3, .int x3), (4, .int x4), (5, .int x5)] [] h (kX10_union_70 self60 x0 x3 x4 self70 x5 h) := by
  unfold kX10_union_70
  refine z_iload 72 3 dX10_union_70 rfl rfl ?_
  refine z_iconst (nI 4) 73 zki_4 dX10_union_72 rfl ?_
  refine z_icmp_ge 134 76 dX10_union_73 (by decide) rfl (fun c1 => ?_) (fun c1 => ?_)
  · refine z_iinc (lv2 := [(4, .int (x4 + (nI 1))), (0, .ref (b0 + x0)), (3, .int x3), (5, .int x5)]) (nI 1) 137 2 dX10_union_134 rfl rfl zki_1 (Nat.le_of_ble_eq_true rfl) rfl ?_
    refine z_goto 60 dX10_union_137 (by decide) ?_
    exact z_sub [1, 2, 0] rfl (hself60 (x4 + (nI 1)) h)
  · refine z_aload_n 77 0 dX10_union_76 rfl rfl ?_
    refine z_getR 80 zC10 (Nat.le_of_ble_eq_true rfl) rfl w_253 dX10_union_77 rfl (fun v2 _ => ?_)
    refine z_iload 82 2 dX10_union_80 rfl rfl ?_
    refine z_iload 84 3 dX10_union_82 rfl rfl ?_
    refine z_aload_n 85 0 dX10_union_84 rfl rfl ?_
    refine z_getR 88 zC10 (Nat.le_of_ble_eq_true rfl) rfl w_246 dX10_union_85 rfl (fun v3 _ => ?_)
    refine z_iload 90 2 dX10_union_88 rfl rfl ?_
    refine z_iload 92 3 dX10_union_90 rfl rfl ?_
    refine z_callVi 95 (mX1_row b0 v3 x4 x5 h) zyX1_row rfl w_363 (ci := 1) rfl (Nat.le_of_ble_eq_true rfl) (fun _ e9 => kX1_row e9) wm_yX1_row ws_yX1_row (Nat.le_of_ble_eq_true rfl) rfl (Nat.le_of_ble_eq_true rfl) dX10_union_92 rfl (fun q4 => ?_)
    refine z_i2l 96 dX10_union_95 rfl ?_
    refine z_callVv 99 (mX8_link b0 v2 x4 x5 (q4.1.toInt64) q4.2) zyX8_link rfl w_832 (ci := 8) rfl (Nat.le_of_ble_eq_true rfl) (fun _ e9 => kX8_link e9) wm_yX8_link ws_yX8_link (Nat.le_of_ble_eq_true rfl) rfl (Nat.le_of_ble_eq_true rfl) dX10_union_96 rfl (fun h5 => ?_)
    refine z_aload_n 100 0 dX10_union_99 rfl rfl ?_
    refine z_getR 103 zC10 (Nat.le_of_ble_eq_true rfl) rfl w_253 dX10_union_100 rfl (fun v6 _ => ?_)
    refine z_bipush (nI 8) 105 zkb_8 dX10_union_103 rfl ?_
    refine z_iload 107 2 dX10_union_105 rfl rfl ?_
    refine z_iadd 108 dX10_union_107 rfl ?_
    refine z_iload 110 3 dX10_union_108 rfl rfl ?_
    refine z_aload_n 111 0 dX10_union_110 rfl rfl ?_
    refine z_getR 114 zC10 (Nat.le_of_ble_eq_true rfl) rfl w_247 dX10_union_111 rfl (fun v7 _ => ?_)
    refine z_iload 116 2 dX10_union_114 rfl rfl ?_
    refine z_iload 118 3 dX10_union_116 rfl rfl ?_
    refine z_callVi 121 (mX1_row b0 v7 x4 x5 h5) zyX1_row rfl w_363 (ci := 1) rfl (Nat.le_of_ble_eq_true rfl) (fun _ e9 => kX1_row e9) wm_yX1_row ws_yX1_row (Nat.le_of_ble_eq_true rfl) rfl (Nat.le_of_ble_eq_true rfl) dX10_union_118 rfl (fun q8 => ?_)
    refine z_i2l 122 dX10_union_121 rfl ?_
    refine z_bipush (nI 8) 124 zkb_8 dX10_union_122 rfl ?_
    refine z_lshl 125 dX10_union_124 rfl ?_
    refine z_callVv 128 (mX8_link b0 v6 ((nI 8) + x4) x5 (jlshl (q8.1.toInt64) (nI 8)) q8.2) zyX8_link rfl w_832 (ci := 8) rfl (Nat.le_of_ble_eq_true rfl) (fun _ e9 => kX8_link e9) wm_yX8_link ws_yX8_link (Nat.le_of_ble_eq_true rfl) rfl (Nat.le_of_ble_eq_true rfl) dX10_union_125 rfl (fun h9 => ?_)
    refine z_iinc (lv2 := [(5, .int (x5 + (nI 1))), (0, .ref (b0 + x0)), (3, .int x3), (4, .int x4)]) (nI 1) 131 3 dX10_union_128 rfl rfl zki_1 (Nat.le_of_ble_eq_true rfl) rfl ?_
    refine z_goto 70 dX10_union_131 (by decide) ?_
    exact z_sub [1, 2, 3, 0] rfl (hself70 (x5 + (nI 1)) h9)
theorem BX10_union_70 (b0 : Nat) (self60 : Int32 × ZH → Option (Int32 × ZH)) (x0 : Nat) (x3 : Int32) (x4 : Int32) (hself60 : ∀ (y4 : Int32) (hh : ZH), Zr zi b0 YX10_union 7 60 [(0, .ref (b0 + x0)), (3, .int x3), (4, .int y4)] [] hh (self60 (y4, hh))) (n : Nat) (x5 : Int32) (h : ZH) : Zr zi b0 YX10_union 7 70 [(0, .ref (b0 + x0)), (3, .int x3), (4, .int x4), (5, .int x5)] [] h (zloop (lX10_union_70 self60 x0 x3 x4) n (x5, h)) :=
  zloop_Zr (fun s => [(0, .ref (b0 + x0)), (3, .int x3), (4, .int x4), (5, .int s.1)]) (fun _ => []) (fun s => s.2) (lX10_union_70 self60 x0 x3 x4) (fun self hs s => KX10_union_70 b0 self60 x0 x3 x4 hself60 self (fun y5 hh => hs (y5, hh)) s.1 s.2) n (x5, h)
def kX10_union_60 (x0 : Nat) (x3 : Int32) (self60 : Int32 × ZH → Option (Int32 × ZH)) (x4 : Int32) (h : ZH) : Option (Int32 × ZH) :=
  if (nI 8) ≤ x4 then ((fX10_storeWide x0 x3 h).bind fun q2 =>
  some (q2.1, q2.2)) else
  (zloop (lX10_union_70 self60 x0 x3 x4) zfu ((nI 0), h))
def lX10_union_60 (x0 : Nat) (x3 : Int32) : (Int32 × ZH → Option (Int32 × ZH)) → Int32 × ZH → Option (Int32 × ZH) := fun self s => kX10_union_60 x0 x3 self s.1 s.2
theorem KX10_union_60 (b0 : Nat) (x0 : Nat) (x3 : Int32) (self60 : Int32 × ZH → Option (Int32 × ZH)) (hself60 : ∀ (y4 : Int32) (hh : ZH), Zr zi b0 YX10_union 7 60 [(0, .ref (b0 + x0)), (3, .int x3), (4, .int y4)] [] hh (self60 (y4, hh))) (x4 : Int32) (h : ZH) : Zr zi b0 YX10_union 7 60 [(0, .ref (b0 + x0)), (3, .int x3), (4, .int x4)] [] h (kX10_union_60 x0 x3 self60 x4 h) := by
  unfold kX10_union_60
  refine z_iload 62 2 dX10_union_60 rfl rfl ?_
  refine z_bipush (nI 8) 64 zkb_8 dX10_union_62 rfl ?_
  refine z_icmp_ge 140 67 dX10_union_64 (by decide) rfl (fun c1 => ?_) (fun c1 => ?_)
  · refine z_aload_n 141 0 dX10_union_140 rfl rfl ?_
    refine z_iload_n 142 1 dX10_union_141 rfl rfl ?_
    refine z_callVi 145 (mX10_storeWide b0 x0 x3 h) zyX10_storeWide rfl w_837 (ci := 10) rfl (Nat.le_of_ble_eq_true rfl) (fun _ e9 => kX10_storeWide e9) wm_yX10_storeWide ws_yX10_storeWide (Nat.le_of_ble_eq_true rfl) rfl (Nat.le_of_ble_eq_true rfl) dX10_union_142 rfl (fun q2 => ?_)
    exact z_ireturn dX10_union_145 rfl
  · refine z_iconst (nI 0) 68 zki_0 dX10_union_67 rfl ?_
    refine z_istore (lv2 := [(5, .int (nI 0)), (0, .ref (b0 + x0)), (3, .int x3), (4, .int x4)]) 70 dX10_union_68 rfl (Nat.le_of_ble_eq_true rfl) rfl ?_
    exact z_sub [1, 2, 3, 0] rfl (BX10_union_70 b0 self60 x0 x3 x4 hself60 zfu (nI 0) h)
theorem BX10_union_60 (b0 : Nat) (x0 : Nat) (x3 : Int32) (n : Nat) (x4 : Int32) (h : ZH) : Zr zi b0 YX10_union 7 60 [(0, .ref (b0 + x0)), (3, .int x3), (4, .int x4)] [] h (zloop (lX10_union_60 x0 x3) n (x4, h)) :=
  zloop_Zr (fun s => [(0, .ref (b0 + x0)), (3, .int x3), (4, .int s.1)]) (fun _ => []) (fun s => s.2) (lX10_union_60 x0 x3) (fun self hs s => KX10_union_60 b0 x0 x3 self (fun y4 hh => hs (y4, hh)) s.1 s.2) n (x4, h)
def bX10_union_21 (h : ZH) : Option (Int32 × ZH) :=
  some ((-2 : Int32), h)
theorem BX10_union_21 (b0 : Nat) (h : ZH) : Zr zi b0 YX10_union 7 21 [] [] h (bX10_union_21 h) := by
  unfold bX10_union_21
  refine z_bipush (-2 : Int32) 23 zkb_m2 dX10_union_21 rfl ?_
  exact z_ireturn dX10_union_23 rfl
def fX10_union (x0 : Nat) (x1 : Int32) (x2 : Int32) (x3 : Int32) (h : ZH) : Option (Int32 × ZH) :=
  if x0 < zn h ∧ zK h x0 = 10 then ((fX10_isSlot x1 h).bind fun q1 =>
  if q1.1 = 0 then (bX10_union_21 q1.2) else
  ((fX10_isSlot x2 q1.2).bind fun q3 =>
  if q3.1 = 0 then (bX10_union_21 q3.2) else
  ((fX10_isSlot x3 q3.2).bind fun q5 =>
  if q5.1 = 0 then (bX10_union_21 q5.2) else
  ((gR q5.2 10 x0 8).bind fun v7 =>
  (gR q5.2 10 x0 0).bind fun v8 =>
  (lR q5.2 17 v8 x1).bind fun v9 =>
  (fX1_copyCoreOf v7 v9 q5.2).bind fun h10 =>
  (gR h10 10 x0 9).bind fun v11 =>
  (gR h10 10 x0 0).bind fun v12 =>
  (lR h10 17 v12 x2).bind fun v13 =>
  (fX1_copyCoreOf v11 v13 h10).bind fun h14 =>
  (gR h14 10 x0 15).bind fun v15 =>
  (fX8_clear v15 h14).bind fun h16 =>
  zloop (lX10_union_60 x0 x3) zfu ((nI 0), h16))))) else none
theorem kX10_union {x0 : Nat} {x1 : Int32} {x2 : Int32} {x3 : Int32} {h : ZH} {x : Int32 × ZH} (e : fX10_union x0 x1 x2 x3 h = some x) : x0 < zn h ∧ zK h x0 = 10 := by
  unfold fX10_union at e
  exact zguard e
theorem mX10_union (b0 : Nat) (x0 : Nat) (x1 : Int32) (x2 : Int32) (x3 : Int32) (h : ZH) : ZM zi b0 YX10_union 7 [.ref (b0 + x0), .int x1, .int x2, .int x3] h (fX10_union x0 x1 x2 x3 h) := by
  unfold fX10_union
  refine ZM.of (by decide) rfl (Nat.le_of_ble_eq_true rfl) (fun _ => trivial) ?_
  refine z_sub (lv2 := [(0, .ref (b0 + x0)), (1, .int x1), (2, .int x2), (3, .int x3)]) [0, 1, 2, 3] rfl ?_
  refine z_guard (fun _ => ?_)
  refine z_iload_n 1 1 dX10_union_0 rfl rfl ?_
  refine z_callSi 4 (mX10_isSlot b0 x1 h) zyX10_isSlot rfl w_297 wt_yX10_isSlot (Nat.le_of_ble_eq_true rfl) rfl (Nat.le_of_ble_eq_true rfl) dX10_union_1 rfl (fun q1 => ?_)
  refine z_if_eq 21 7 dX10_union_4 (by decide) rfl (fun c2 => ?_) (fun c2 => ?_)
  · exact z_sub [] rfl (BX10_union_21 b0 q1.2 )
  · refine z_iload_n 8 2 dX10_union_7 rfl rfl ?_
    refine z_callSi 11 (mX10_isSlot b0 x2 q1.2) zyX10_isSlot rfl w_297 wt_yX10_isSlot (Nat.le_of_ble_eq_true rfl) rfl (Nat.le_of_ble_eq_true rfl) dX10_union_8 rfl (fun q3 => ?_)
    refine z_if_eq 21 14 dX10_union_11 (by decide) rfl (fun c4 => ?_) (fun c4 => ?_)
    · exact z_sub [] rfl (BX10_union_21 b0 q3.2 )
    · refine z_iload_n 15 3 dX10_union_14 rfl rfl ?_
      refine z_callSi 18 (mX10_isSlot b0 x3 q3.2) zyX10_isSlot rfl w_297 wt_yX10_isSlot (Nat.le_of_ble_eq_true rfl) rfl (Nat.le_of_ble_eq_true rfl) dX10_union_15 rfl (fun q5 => ?_)
      refine z_if_ne 24 21 dX10_union_18 (by decide) rfl (fun c6 => ?_) (fun c6 => ?_)
      · refine z_aload_n 25 0 dX10_union_24 rfl rfl ?_
        refine z_getR 28 zC10 (Nat.le_of_ble_eq_true rfl) rfl w_246 dX10_union_25 rfl (fun v7 _ => ?_)
        refine z_aload_n 29 0 dX10_union_28 rfl rfl ?_
        refine z_getR 32 zC10 (Nat.le_of_ble_eq_true rfl) rfl w_238 dX10_union_29 rfl (fun v8 _ => ?_)
        refine z_iload_n 33 1 dX10_union_32 rfl rfl ?_
        refine z_aaload17 34 dX10_union_33 rfl (fun v9 _ => ?_)
        refine z_callVv 37 (mX1_copyCoreOf b0 v7 v9 q5.2) zyX1_copyCoreOf rfl w_444 (ci := 1) rfl (Nat.le_of_ble_eq_true rfl) (fun _ e9 => kX1_copyCoreOf e9) wm_yX1_copyCoreOf ws_yX1_copyCoreOf (Nat.le_of_ble_eq_true rfl) rfl (Nat.le_of_ble_eq_true rfl) dX10_union_34 rfl (fun h10 => ?_)
        refine z_aload_n 38 0 dX10_union_37 rfl rfl ?_
        refine z_getR 41 zC10 (Nat.le_of_ble_eq_true rfl) rfl w_247 dX10_union_38 rfl (fun v11 _ => ?_)
        refine z_aload_n 42 0 dX10_union_41 rfl rfl ?_
        refine z_getR 45 zC10 (Nat.le_of_ble_eq_true rfl) rfl w_238 dX10_union_42 rfl (fun v12 _ => ?_)
        refine z_iload_n 46 2 dX10_union_45 rfl rfl ?_
        refine z_aaload17 47 dX10_union_46 rfl (fun v13 _ => ?_)
        refine z_callVv 50 (mX1_copyCoreOf b0 v11 v13 h10) zyX1_copyCoreOf rfl w_444 (ci := 1) rfl (Nat.le_of_ble_eq_true rfl) (fun _ e9 => kX1_copyCoreOf e9) wm_yX1_copyCoreOf ws_yX1_copyCoreOf (Nat.le_of_ble_eq_true rfl) rfl (Nat.le_of_ble_eq_true rfl) dX10_union_47 rfl (fun h14 => ?_)
        refine z_aload_n 51 0 dX10_union_50 rfl rfl ?_
        refine z_getR 54 zC10 (Nat.le_of_ble_eq_true rfl) rfl w_253 dX10_union_51 rfl (fun v15 _ => ?_)
        refine z_callVv 57 (mX8_clear b0 v15 h14) zyX8_clear rfl w_827 (ci := 8) rfl (Nat.le_of_ble_eq_true rfl) (fun _ e9 => kX8_clear e9) wm_yX8_clear ws_yX8_clear (Nat.le_of_ble_eq_true rfl) rfl (Nat.le_of_ble_eq_true rfl) dX10_union_54 rfl (fun h16 => ?_)
        refine z_iconst (nI 0) 58 zki_0 dX10_union_57 rfl ?_
        refine z_istore (lv2 := [(4, .int (nI 0)), (0, .ref (b0 + x0)), (1, .int x1), (2, .int x2), (3, .int x3)]) 60 dX10_union_58 rfl (Nat.le_of_ble_eq_true rfl) rfl ?_
        exact z_sub [1, 4, 0] rfl (BX10_union_60 b0 x0 x3 zfu (nI 0) h16)
      · exact z_sub [] rfl (BX10_union_21 b0 q5.2 )
-- X10_product
def bX10_product_32 (self5 : Int64 × Int32 × ZH → Option (Int64 × ZH)) (x0 : Int32) (x1 : Int32) (x2 : Int64) (x4 : Int32) (h : ZH) : Option (Int64 × ZH) :=
  self5 (x2, (x4 + (nI 1)), h)
theorem BX10_product_32 (b0 : Nat) (self5 : Int64 × Int32 × ZH → Option (Int64 × ZH)) (x0 : Int32) (x1 : Int32) (x2 : Int64) (x4 : Int32) (h : ZH) (hself5 : ∀ (y2 : Int64) (y4 : Int32) (hh : ZH), Zr zj b0 YX10_product 1 5 [(0, .int x0), (1, .int x1), (2, .long y2), (4, .int y4)] [] hh (self5 (y2, y4, hh))) : Zr zj b0 YX10_product 1 32 [(0, .int x0), (1, .int x1), (2, .long x2), (4, .int x4)] [] h (bX10_product_32 self5 x0 x1 x2 x4 h) := by
  unfold bX10_product_32
  refine z_iinc (lv2 := [(4, .int (x4 + (nI 1))), (0, .int x0), (1, .int x1), (2, .long x2)]) (nI 1) 35 3 dX10_product_32 rfl rfl zki_1 (Nat.le_of_ble_eq_true rfl) rfl ?_
  refine z_goto 5 dX10_product_35 (by decide) ?_
  exact z_sub [1, 2, 3, 0] rfl (hself5 x2 (x4 + (nI 1)) h)
def kX10_product_5 (x0 : Int32) (x1 : Int32) (self5 : Int64 × Int32 × ZH → Option (Int64 × ZH)) (x2 : Int64) (x4 : Int32) (h : ZH) : Option (Int64 × ZH) :=
  if (nI 8) ≤ x4 then (some (x2, h)) else
  (if ((jshr x0 x4) &&& (nI 1)) = 0 then (bX10_product_32 self5 x0 x1 x2 x4 h) else
  (zl (x2 ||| (jlshl (x1.toInt64) ((nI 8) * x4))) fun v3 =>
  bX10_product_32 self5 x0 x1 v3 x4 h))
def lX10_product_5 (x0 : Int32) (x1 : Int32) : (Int64 × Int32 × ZH → Option (Int64 × ZH)) → Int64 × Int32 × ZH → Option (Int64 × ZH) := fun self s => kX10_product_5 x0 x1 self s.1 s.2.1 s.2.2
theorem KX10_product_5 (b0 : Nat) (x0 : Int32) (x1 : Int32) (self5 : Int64 × Int32 × ZH → Option (Int64 × ZH)) (hself5 : ∀ (y2 : Int64) (y4 : Int32) (hh : ZH), Zr zj b0 YX10_product 1 5 [(0, .int x0), (1, .int x1), (2, .long y2), (4, .int y4)] [] hh (self5 (y2, y4, hh))) (x2 : Int64) (x4 : Int32) (h : ZH) : Zr zj b0 YX10_product 1 5 [(0, .int x0), (1, .int x1), (2, .long x2), (4, .int x4)] [] h (kX10_product_5 x0 x1 self5 x2 x4 h) := by
  unfold kX10_product_5
  refine z_iload 7 3 dX10_product_5 rfl rfl ?_
  refine z_bipush (nI 8) 9 zkb_8 dX10_product_7 rfl ?_
  refine z_icmp_ge 38 12 dX10_product_9 (by decide) rfl (fun c1 => ?_) (fun c1 => ?_)
  · refine z_lload_n 39 2 dX10_product_38 rfl rfl ?_
    exact z_lreturn dX10_product_39 rfl
  · refine z_iload_n 13 0 dX10_product_12 rfl rfl ?_
    refine z_iload 15 3 dX10_product_13 rfl rfl ?_
    refine z_ishr 16 dX10_product_15 rfl ?_
    refine z_iconst (nI 1) 17 zki_1 dX10_product_16 rfl ?_
    refine z_iand 18 dX10_product_17 rfl ?_
    refine z_if_eq 32 21 dX10_product_18 (by decide) rfl (fun c2 => ?_) (fun c2 => ?_)
    · exact z_sub [0, 1, 2, 3] rfl (BX10_product_32 b0 self5 x0 x1 x2 x4 h hself5)
    · refine z_lload_n 22 2 dX10_product_21 rfl rfl ?_
      refine z_iload_n 23 1 dX10_product_22 rfl rfl ?_
      refine z_i2l 24 dX10_product_23 rfl ?_
      refine z_bipush (nI 8) 26 zkb_8 dX10_product_24 rfl ?_
      refine z_iload 28 3 dX10_product_26 rfl rfl ?_
      refine z_imul 29 dX10_product_28 rfl ?_
      refine z_lshl 30 dX10_product_29 rfl ?_
      refine z_lor 31 dX10_product_30 rfl ?_
      refine z_letJ (fun v3 _ => ?_)
      refine z_lstore_n (lv2 := [(2, .long v3), (0, .int x0), (1, .int x1), (4, .int x4)]) 32 dX10_product_31 rfl (Nat.le_of_ble_eq_true rfl) rfl ?_
      exact z_sub [1, 2, 0, 3] rfl (BX10_product_32 b0 self5 x0 x1 v3 x4 h hself5)
theorem BX10_product_5 (b0 : Nat) (x0 : Int32) (x1 : Int32) (n : Nat) (x2 : Int64) (x4 : Int32) (h : ZH) : Zr zj b0 YX10_product 1 5 [(0, .int x0), (1, .int x1), (2, .long x2), (4, .int x4)] [] h (zloop (lX10_product_5 x0 x1) n (x2, x4, h)) :=
  zloop_Zr (fun s => [(0, .int x0), (1, .int x1), (2, .long s.1), (4, .int s.2.1)]) (fun _ => []) (fun s => s.2.2) (lX10_product_5 x0 x1) (fun self hs s => KX10_product_5 b0 x0 x1 self (fun y2 y4 hh => hs (y2, y4, hh)) s.1 s.2.1 s.2.2) n (x2, x4, h)
def fX10_product (x0 : Int32) (x1 : Int32) (h : ZH) : Option (Int64 × ZH) :=
  zloop (lX10_product_5 x0 x1) zfu ((lN 0), (nI 0), h)
theorem mX10_product (b0 : Nat) (x0 : Int32) (x1 : Int32) (h : ZH) : ZM zj b0 YX10_product 1 [.int x0, .int x1] h (fX10_product x0 x1 h) := by
  unfold fX10_product
  refine ZM.of (by decide) rfl (Nat.le_of_ble_eq_true rfl) (fun _ => trivial) ?_
  refine z_sub (lv2 := [(0, .int x0), (1, .int x1)]) [0, 1] rfl ?_
  refine z_lconst (lN 0) 1 rfl dX10_product_0 rfl ?_
  refine z_lstore_n (lv2 := [(2, .long (lN 0)), (0, .int x0), (1, .int x1)]) 2 dX10_product_1 rfl (Nat.le_of_ble_eq_true rfl) rfl ?_
  refine z_iconst (nI 0) 3 zki_0 dX10_product_2 rfl ?_
  refine z_istore (lv2 := [(4, .int (nI 0)), (2, .long (lN 0)), (0, .int x0), (1, .int x1)]) 5 dX10_product_3 rfl (Nat.le_of_ble_eq_true rfl) rfl ?_
  exact z_sub [2, 3, 1, 0] rfl (BX10_product_5 b0 x0 x1 zfu (lN 0) (nI 0) h)
-- X10_intersect
def kX10_intersect_54 (self34 : Int32 × ZH → Option (Int32 × ZH)) (self44 : Int32 × ZH → Option (Int32 × ZH)) (x0 : Nat) (x1 : Int32) (x2 : Int32) (x3 : Int32) (x4 : Int32) (x5 : Int32) (self54 : Int32 × ZH → Option (Int32 × ZH)) (x6 : Int32) (h : ZH) : Option (Int32 × ZH) :=
  if (nI 4) ≤ x6 then (self44 ((x5 + (nI 1)), h)) else
  ((gR h 10 x0 0).bind fun v2 =>
  (lR h 17 v2 x2).bind fun v3 =>
  (fX1_row v3 x5 x6 h).bind fun q4 =>
  (gR q4.2 10 x0 15).bind fun v5 =>
  (gR q4.2 10 x0 0).bind fun v6 =>
  (lR q4.2 17 v6 x1).bind fun v7 =>
  (fX1_row v7 x4 x6 q4.2).bind fun q8 =>
  (fX10_product q8.1 q4.1 q8.2).bind fun q9 =>
  (fX8_link v5 (((nI 8) * x4) + x5) x6 q9.1 q9.2).bind fun h10 =>
  self54 ((x6 + (nI 1)), h10))
def lX10_intersect_54 (self34 : Int32 × ZH → Option (Int32 × ZH)) (self44 : Int32 × ZH → Option (Int32 × ZH)) (x0 : Nat) (x1 : Int32) (x2 : Int32) (x3 : Int32) (x4 : Int32) (x5 : Int32) : (Int32 × ZH → Option (Int32 × ZH)) → Int32 × ZH → Option (Int32 × ZH) := fun self s => kX10_intersect_54 self34 self44 x0 x1 x2 x3 x4 x5 self s.1 s.2
theorem KX10_intersect_54 (b0 : Nat) (self34 : Int32 × ZH → Option (Int32 × ZH)) (self44 : Int32 × ZH → Option (Int32 × ZH)) (x0 : Nat) (x1 : Int32) (x2 : Int32) (x3 : Int32) (x4 : Int32) (x5 : Int32) (hself34 : ∀ (y4 : Int32) (hh : ZH), Zr zi b0 YX10_intersect 7 34 [(0, .ref (b0 + x0)), (1, .int x1), (2, .int x2), (3, .int x3), (4, .int y4)] [] hh (self34 (y4, hh))) (hself44 : ∀ (y5 : Int32) (hh : ZH), Zr zi b0 YX10_intersect 7 44 [(0, .ref (b0 + x0)), (1, .int x1), (2, .int x2), (3, .int x3), (4, .int x4), (5, .int y5)] [] hh (self44 (y5, hh))) (self54 : Int32 × ZH → Option (Int32 × ZH)) (hself54 : ∀ (y6 : Int32) (hh : ZH), Zr zi b0 YX10_intersect 7 54 [(0, .ref (b0 + x0)), (1, .int x1), (2, .int x2), (3, .int x3), (4, .int x4), (5, .int x5), (6, .int y6)] [] hh (self54 (y6, hh))) (x6 : Int32) (h : ZH) : Zr zi b0 YX10_intersect 7 54 [(0, .ref (b0 + x0)), (1, .int x1), (2, .int x2), (3, .int x3), (4, .int x4), (5, .int x5), (6, .int x6)] [] h (kX10_intersect_54 self34 self44 x0 x1 x2 x3 x4 x5 self54 x6 h) := by
  unfold kX10_intersect_54
  refine z_iload 56 6 dX10_intersect_54 rfl rfl ?_
  refine z_iconst (nI 4) 57 zki_4 dX10_intersect_56 rfl ?_
  refine z_icmp_ge 116 60 dX10_intersect_57 (by decide) rfl (fun c1 => ?_) (fun c1 => ?_)
  · refine z_iinc (lv2 := [(5, .int (x5 + (nI 1))), (0, .ref (b0 + x0)), (1, .int x1), (2, .int x2), (3, .int x3), (4, .int x4), (6, .int x6)]) (nI 1) 119 5 dX10_intersect_116 rfl rfl zki_1 (Nat.le_of_ble_eq_true rfl) rfl ?_
    refine z_goto 44 dX10_intersect_119 (by decide) ?_
    exact z_sub [1, 2, 3, 4, 5, 0] rfl (hself44 (x5 + (nI 1)) h)
  · refine z_aload_n 61 0 dX10_intersect_60 rfl rfl ?_
    refine z_getR 64 zC10 (Nat.le_of_ble_eq_true rfl) rfl w_238 dX10_intersect_61 rfl (fun v2 _ => ?_)
    refine z_iload_n 65 2 dX10_intersect_64 rfl rfl ?_
    refine z_aaload17 66 dX10_intersect_65 rfl (fun v3 _ => ?_)
    refine z_iload 68 5 dX10_intersect_66 rfl rfl ?_
    refine z_iload 70 6 dX10_intersect_68 rfl rfl ?_
    refine z_callVi 73 (mX1_row b0 v3 x5 x6 h) zyX1_row rfl w_363 (ci := 1) rfl (Nat.le_of_ble_eq_true rfl) (fun _ e9 => kX1_row e9) wm_yX1_row ws_yX1_row (Nat.le_of_ble_eq_true rfl) rfl (Nat.le_of_ble_eq_true rfl) dX10_intersect_70 rfl (fun q4 => ?_)
    refine z_istore (lv2 := [(7, .int q4.1), (0, .ref (b0 + x0)), (1, .int x1), (2, .int x2), (3, .int x3), (4, .int x4), (5, .int x5), (6, .int x6)]) 75 dX10_intersect_73 rfl (Nat.le_of_ble_eq_true rfl) rfl ?_
    refine z_aload_n 76 1 dX10_intersect_75 rfl rfl ?_
    refine z_getR 79 zC10 (Nat.le_of_ble_eq_true rfl) rfl w_253 dX10_intersect_76 rfl (fun v5 _ => ?_)
    refine z_bipush (nI 8) 81 zkb_8 dX10_intersect_79 rfl ?_
    refine z_iload 83 5 dX10_intersect_81 rfl rfl ?_
    refine z_imul 84 dX10_intersect_83 rfl ?_
    refine z_iload 86 6 dX10_intersect_84 rfl rfl ?_
    refine z_iadd 87 dX10_intersect_86 rfl ?_
    refine z_iload 89 7 dX10_intersect_87 rfl rfl ?_
    refine z_aload_n 90 1 dX10_intersect_89 rfl rfl ?_
    refine z_getR 93 zC10 (Nat.le_of_ble_eq_true rfl) rfl w_238 dX10_intersect_90 rfl (fun v6 _ => ?_)
    refine z_iload_n 94 2 dX10_intersect_93 rfl rfl ?_
    refine z_aaload17 95 dX10_intersect_94 rfl (fun v7 _ => ?_)
    refine z_iload 97 5 dX10_intersect_95 rfl rfl ?_
    refine z_iload 99 7 dX10_intersect_97 rfl rfl ?_
    refine z_callVi 102 (mX1_row b0 v7 x4 x6 q4.2) zyX1_row rfl w_363 (ci := 1) rfl (Nat.le_of_ble_eq_true rfl) (fun _ e9 => kX1_row e9) wm_yX1_row ws_yX1_row (Nat.le_of_ble_eq_true rfl) rfl (Nat.le_of_ble_eq_true rfl) dX10_intersect_99 rfl (fun q8 => ?_)
    refine z_iload 104 0 dX10_intersect_102 rfl rfl ?_
    refine z_callSj 107 (mX10_product b0 q8.1 q4.1 q8.2) zyX10_product rfl w_878 wt_yX10_product (Nat.le_of_ble_eq_true rfl) rfl (Nat.le_of_ble_eq_true rfl) dX10_intersect_104 rfl (fun q9 => ?_)
    refine z_callVv 110 (mX8_link b0 v5 (((nI 8) * x4) + x5) x6 q9.1 q9.2) zyX8_link rfl w_832 (ci := 8) rfl (Nat.le_of_ble_eq_true rfl) (fun _ e9 => kX8_link e9) wm_yX8_link ws_yX8_link (Nat.le_of_ble_eq_true rfl) rfl (Nat.le_of_ble_eq_true rfl) dX10_intersect_107 rfl (fun h10 => ?_)
    refine z_iinc (lv2 := [(6, .int (x6 + (nI 1))), (7, .int q4.1), (0, .ref (b0 + x0)), (1, .int x1), (2, .int x2), (3, .int x3), (4, .int x4), (5, .int x5)]) (nI 1) 113 7 dX10_intersect_110 rfl rfl zki_1 (Nat.le_of_ble_eq_true rfl) rfl ?_
    refine z_goto 54 dX10_intersect_113 (by decide) ?_
    exact z_sub [2, 3, 4, 5, 6, 7, 0] rfl (hself54 (x6 + (nI 1)) h10)
theorem BX10_intersect_54 (b0 : Nat) (self34 : Int32 × ZH → Option (Int32 × ZH)) (self44 : Int32 × ZH → Option (Int32 × ZH)) (x0 : Nat) (x1 : Int32) (x2 : Int32) (x3 : Int32) (x4 : Int32) (x5 : Int32) (hself34 : ∀ (y4 : Int32) (hh : ZH), Zr zi b0 YX10_intersect 7 34 [(0, .ref (b0 + x0)), (1, .int x1), (2, .int x2), (3, .int x3), (4, .int y4)] [] hh (self34 (y4, hh))) (hself44 : ∀ (y5 : Int32) (hh : ZH), Zr zi b0 YX10_intersect 7 44 [(0, .ref (b0 + x0)), (1, .int x1), (2, .int x2), (3, .int x3), (4, .int x4), (5, .int y5)] [] hh (self44 (y5, hh))) (n : Nat) (x6 : Int32) (h : ZH) : Zr zi b0 YX10_intersect 7 54 [(0, .ref (b0 + x0)), (1, .int x1), (2, .int x2), (3, .int x3), (4, .int x4), (5, .int x5), (6, .int x6)] [] h (zloop (lX10_intersect_54 self34 self44 x0 x1 x2 x3 x4 x5) n (x6, h)) :=
  zloop_Zr (fun s => [(0, .ref (b0 + x0)), (1, .int x1), (2, .int x2), (3, .int x3), (4, .int x4), (5, .int x5), (6, .int s.1)]) (fun _ => []) (fun s => s.2) (lX10_intersect_54 self34 self44 x0 x1 x2 x3 x4 x5) (fun self hs s => KX10_intersect_54 b0 self34 self44 x0 x1 x2 x3 x4 x5 hself34 hself44 self (fun y6 hh => hs (y6, hh)) s.1 s.2) n (x6, h)
def kX10_intersect_44 (self34 : Int32 × ZH → Option (Int32 × ZH)) (x0 : Nat) (x1 : Int32) (x2 : Int32) (x3 : Int32) (x4 : Int32) (self44 : Int32 × ZH → Option (Int32 × ZH)) (x5 : Int32) (h : ZH) : Option (Int32 × ZH) :=
  if (nI 8) ≤ x5 then (self34 ((x4 + (nI 1)), h)) else
  (zloop (lX10_intersect_54 self34 self44 x0 x1 x2 x3 x4 x5) zfu ((nI 0), h))
def lX10_intersect_44 (self34 : Int32 × ZH → Option (Int32 × ZH)) (x0 : Nat) (x1 : Int32) (x2 : Int32) (x3 : Int32) (x4 : Int32) : (Int32 × ZH → Option (Int32 × ZH)) → Int32 × ZH → Option (Int32 × ZH) := fun self s => kX10_intersect_44 self34 x0 x1 x2 x3 x4 self s.1 s.2
theorem KX10_intersect_44 (b0 : Nat) (self34 : Int32 × ZH → Option (Int32 × ZH)) (x0 : Nat) (x1 : Int32) (x2 : Int32) (x3 : Int32) (x4 : Int32) (hself34 : ∀ (y4 : Int32) (hh : ZH), Zr zi b0 YX10_intersect 7 34 [(0, .ref (b0 + x0)), (1, .int x1), (2, .int x2), (3, .int x3), (4, .int y4)] [] hh (self34 (y4, hh))) (self44 : Int32 × ZH → Option (Int32 × ZH)) (hself44 : ∀ (y5 : Int32) (hh : ZH), Zr zi b0 YX10_intersect 7 44 [(0, .ref (b0 + x0)), (1, .int x1), (2, .int x2), (3, .int x3), (4, .int x4), (5, .int y5)] [] hh (self44 (y5, hh))) (x5 : Int32) (h : ZH) : Zr zi b0 YX10_intersect 7 44 [(0, .ref (b0 + x0)), (1, .int x1), (2, .int x2), (3, .int x3), (4, .int x4), (5, .int x5)] [] h (kX10_intersect_44 self34 x0 x1 x2 x3 x4 self44 x5 h) := by
  unfold kX10_intersect_44
  refine z_iload 46 5 dX10_intersect_44 rfl rfl ?_
  refine z_bipush (nI 8) 48 zkb_8 dX10_intersect_46 rfl ?_
  refine z_icmp_ge 122 51 dX10_intersect_48 (by decide) rfl (fun c1 => ?_) (fun c1 => ?_)
  · refine z_iinc (lv2 := [(4, .int (x4 + (nI 1))), (0, .ref (b0 + x0)), (1, .int x1), (2, .int x2), (3, .int x3), (5, .int x5)]) (nI 1) 125 4 dX10_intersect_122 rfl rfl zki_1 (Nat.le_of_ble_eq_true rfl) rfl ?_
    refine z_goto 34 dX10_intersect_125 (by decide) ?_
    exact z_sub [1, 2, 3, 4, 0] rfl (hself34 (x4 + (nI 1)) h)
  · refine z_iconst (nI 0) 52 zki_0 dX10_intersect_51 rfl ?_
    refine z_istore (lv2 := [(6, .int (nI 0)), (0, .ref (b0 + x0)), (1, .int x1), (2, .int x2), (3, .int x3), (4, .int x4), (5, .int x5)]) 54 dX10_intersect_52 rfl (Nat.le_of_ble_eq_true rfl) rfl ?_
    exact z_sub [1, 2, 3, 4, 5, 6, 0] rfl (BX10_intersect_54 b0 self34 self44 x0 x1 x2 x3 x4 x5 hself34 hself44 zfu (nI 0) h)
theorem BX10_intersect_44 (b0 : Nat) (self34 : Int32 × ZH → Option (Int32 × ZH)) (x0 : Nat) (x1 : Int32) (x2 : Int32) (x3 : Int32) (x4 : Int32) (hself34 : ∀ (y4 : Int32) (hh : ZH), Zr zi b0 YX10_intersect 7 34 [(0, .ref (b0 + x0)), (1, .int x1), (2, .int x2), (3, .int x3), (4, .int y4)] [] hh (self34 (y4, hh))) (n : Nat) (x5 : Int32) (h : ZH) : Zr zi b0 YX10_intersect 7 44 [(0, .ref (b0 + x0)), (1, .int x1), (2, .int x2), (3, .int x3), (4, .int x4), (5, .int x5)] [] h (zloop (lX10_intersect_44 self34 x0 x1 x2 x3 x4) n (x5, h)) :=
  zloop_Zr (fun s => [(0, .ref (b0 + x0)), (1, .int x1), (2, .int x2), (3, .int x3), (4, .int x4), (5, .int s.1)]) (fun _ => []) (fun s => s.2) (lX10_intersect_44 self34 x0 x1 x2 x3 x4) (fun self hs s => KX10_intersect_44 b0 self34 x0 x1 x2 x3 x4 hself34 self (fun y5 hh => hs (y5, hh)) s.1 s.2) n (x5, h)
def kX10_intersect_34 (x0 : Nat) (x1 : Int32) (x2 : Int32) (x3 : Int32) (self34 : Int32 × ZH → Option (Int32 × ZH)) (x4 : Int32) (h : ZH) : Option (Int32 × ZH) :=
  if (nI 8) ≤ x4 then ((fX10_storeWide x0 x3 h).bind fun q2 =>
  some (q2.1, q2.2)) else
  (zloop (lX10_intersect_44 self34 x0 x1 x2 x3 x4) zfu ((nI 0), h))
def lX10_intersect_34 (x0 : Nat) (x1 : Int32) (x2 : Int32) (x3 : Int32) : (Int32 × ZH → Option (Int32 × ZH)) → Int32 × ZH → Option (Int32 × ZH) := fun self s => kX10_intersect_34 x0 x1 x2 x3 self s.1 s.2
theorem KX10_intersect_34 (b0 : Nat) (x0 : Nat) (x1 : Int32) (x2 : Int32) (x3 : Int32) (self34 : Int32 × ZH → Option (Int32 × ZH)) (hself34 : ∀ (y4 : Int32) (hh : ZH), Zr zi b0 YX10_intersect 7 34 [(0, .ref (b0 + x0)), (1, .int x1), (2, .int x2), (3, .int x3), (4, .int y4)] [] hh (self34 (y4, hh))) (x4 : Int32) (h : ZH) : Zr zi b0 YX10_intersect 7 34 [(0, .ref (b0 + x0)), (1, .int x1), (2, .int x2), (3, .int x3), (4, .int x4)] [] h (kX10_intersect_34 x0 x1 x2 x3 self34 x4 h) := by
  unfold kX10_intersect_34
  refine z_iload 36 4 dX10_intersect_34 rfl rfl ?_
  refine z_bipush (nI 8) 38 zkb_8 dX10_intersect_36 rfl ?_
  refine z_icmp_ge 128 41 dX10_intersect_38 (by decide) rfl (fun c1 => ?_) (fun c1 => ?_)
  · refine z_aload_n 129 0 dX10_intersect_128 rfl rfl ?_
    refine z_iload_n 130 3 dX10_intersect_129 rfl rfl ?_
    refine z_callVi 133 (mX10_storeWide b0 x0 x3 h) zyX10_storeWide rfl w_837 (ci := 10) rfl (Nat.le_of_ble_eq_true rfl) (fun _ e9 => kX10_storeWide e9) wm_yX10_storeWide ws_yX10_storeWide (Nat.le_of_ble_eq_true rfl) rfl (Nat.le_of_ble_eq_true rfl) dX10_intersect_130 rfl (fun q2 => ?_)
    exact z_ireturn dX10_intersect_133 rfl
  · refine z_iconst (nI 0) 42 zki_0 dX10_intersect_41 rfl ?_
    refine z_istore (lv2 := [(5, .int (nI 0)), (0, .ref (b0 + x0)), (1, .int x1), (2, .int x2), (3, .int x3), (4, .int x4)]) 44 dX10_intersect_42 rfl (Nat.le_of_ble_eq_true rfl) rfl ?_
    exact z_sub [1, 2, 3, 4, 5, 0] rfl (BX10_intersect_44 b0 self34 x0 x1 x2 x3 x4 hself34 zfu (nI 0) h)
theorem BX10_intersect_34 (b0 : Nat) (x0 : Nat) (x1 : Int32) (x2 : Int32) (x3 : Int32) (n : Nat) (x4 : Int32) (h : ZH) : Zr zi b0 YX10_intersect 7 34 [(0, .ref (b0 + x0)), (1, .int x1), (2, .int x2), (3, .int x3), (4, .int x4)] [] h (zloop (lX10_intersect_34 x0 x1 x2 x3) n (x4, h)) :=
  zloop_Zr (fun s => [(0, .ref (b0 + x0)), (1, .int x1), (2, .int x2), (3, .int x3), (4, .int s.1)]) (fun _ => []) (fun s => s.2) (lX10_intersect_34 x0 x1 x2 x3) (fun self hs s => KX10_intersect_34 b0 x0 x1 x2 x3 self (fun y4 hh => hs (y4, hh)) s.1 s.2) n (x4, h)
def bX10_intersect_21 (h : ZH) : Option (Int32 × ZH) :=
  some ((-2 : Int32), h)
theorem BX10_intersect_21 (b0 : Nat) (h : ZH) : Zr zi b0 YX10_intersect 7 21 [] [] h (bX10_intersect_21 h) := by
  unfold bX10_intersect_21
  refine z_bipush (-2 : Int32) 23 zkb_m2 dX10_intersect_21 rfl ?_
  exact z_ireturn dX10_intersect_23 rfl
def fX10_intersect (x0 : Nat) (x1 : Int32) (x2 : Int32) (x3 : Int32) (h : ZH) : Option (Int32 × ZH) :=
  if x0 < zn h ∧ zK h x0 = 10 then ((fX10_isSlot x1 h).bind fun q1 =>
  if q1.1 = 0 then (bX10_intersect_21 q1.2) else
  ((fX10_isSlot x2 q1.2).bind fun q3 =>
  if q3.1 = 0 then (bX10_intersect_21 q3.2) else
  ((fX10_isSlot x3 q3.2).bind fun q5 =>
  if q5.1 = 0 then (bX10_intersect_21 q5.2) else
  ((gR q5.2 10 x0 15).bind fun v7 =>
  (fX8_clear v7 q5.2).bind fun h8 =>
  zloop (lX10_intersect_34 x0 x1 x2 x3) zfu ((nI 0), h8))))) else none
theorem kX10_intersect {x0 : Nat} {x1 : Int32} {x2 : Int32} {x3 : Int32} {h : ZH} {x : Int32 × ZH} (e : fX10_intersect x0 x1 x2 x3 h = some x) : x0 < zn h ∧ zK h x0 = 10 := by
  unfold fX10_intersect at e
  exact zguard e
theorem mX10_intersect (b0 : Nat) (x0 : Nat) (x1 : Int32) (x2 : Int32) (x3 : Int32) (h : ZH) : ZM zi b0 YX10_intersect 7 [.ref (b0 + x0), .int x1, .int x2, .int x3] h (fX10_intersect x0 x1 x2 x3 h) := by
  unfold fX10_intersect
  refine ZM.of (by decide) rfl (Nat.le_of_ble_eq_true rfl) (fun _ => trivial) ?_
  refine z_sub (lv2 := [(0, .ref (b0 + x0)), (1, .int x1), (2, .int x2), (3, .int x3)]) [0, 1, 2, 3] rfl ?_
  refine z_guard (fun _ => ?_)
  refine z_iload_n 1 1 dX10_intersect_0 rfl rfl ?_
  refine z_callSi 4 (mX10_isSlot b0 x1 h) zyX10_isSlot rfl w_297 wt_yX10_isSlot (Nat.le_of_ble_eq_true rfl) rfl (Nat.le_of_ble_eq_true rfl) dX10_intersect_1 rfl (fun q1 => ?_)
  refine z_if_eq 21 7 dX10_intersect_4 (by decide) rfl (fun c2 => ?_) (fun c2 => ?_)
  · exact z_sub [] rfl (BX10_intersect_21 b0 q1.2 )
  · refine z_iload_n 8 2 dX10_intersect_7 rfl rfl ?_
    refine z_callSi 11 (mX10_isSlot b0 x2 q1.2) zyX10_isSlot rfl w_297 wt_yX10_isSlot (Nat.le_of_ble_eq_true rfl) rfl (Nat.le_of_ble_eq_true rfl) dX10_intersect_8 rfl (fun q3 => ?_)
    refine z_if_eq 21 14 dX10_intersect_11 (by decide) rfl (fun c4 => ?_) (fun c4 => ?_)
    · exact z_sub [] rfl (BX10_intersect_21 b0 q3.2 )
    · refine z_iload_n 15 3 dX10_intersect_14 rfl rfl ?_
      refine z_callSi 18 (mX10_isSlot b0 x3 q3.2) zyX10_isSlot rfl w_297 wt_yX10_isSlot (Nat.le_of_ble_eq_true rfl) rfl (Nat.le_of_ble_eq_true rfl) dX10_intersect_15 rfl (fun q5 => ?_)
      refine z_if_ne 24 21 dX10_intersect_18 (by decide) rfl (fun c6 => ?_) (fun c6 => ?_)
      · refine z_aload_n 25 0 dX10_intersect_24 rfl rfl ?_
        refine z_getR 28 zC10 (Nat.le_of_ble_eq_true rfl) rfl w_253 dX10_intersect_25 rfl (fun v7 _ => ?_)
        refine z_callVv 31 (mX8_clear b0 v7 q5.2) zyX8_clear rfl w_827 (ci := 8) rfl (Nat.le_of_ble_eq_true rfl) (fun _ e9 => kX8_clear e9) wm_yX8_clear ws_yX8_clear (Nat.le_of_ble_eq_true rfl) rfl (Nat.le_of_ble_eq_true rfl) dX10_intersect_28 rfl (fun h8 => ?_)
        refine z_iconst (nI 0) 32 zki_0 dX10_intersect_31 rfl ?_
        refine z_istore (lv2 := [(4, .int (nI 0)), (0, .ref (b0 + x0)), (1, .int x1), (2, .int x2), (3, .int x3)]) 34 dX10_intersect_32 rfl (Nat.le_of_ble_eq_true rfl) rfl ?_
        exact z_sub [1, 2, 3, 4, 0] rfl (BX10_intersect_34 b0 x0 x1 x2 x3 zfu (nI 0) h8)
      · exact z_sub [] rfl (BX10_intersect_21 b0 q5.2 )
-- X10_reverse
def bX10_reverse_80 (self26 : Int32 × ZH → Option (Int32 × ZH)) (self35 : Int32 × ZH → Option (Int32 × ZH)) (self44 : Int32 × ZH → Option (Int32 × ZH)) (x0 : Nat) (x1 : Int32) (x2 : Int32) (x3 : Int32) (x4 : Int32) (x5 : Int32) (h : ZH) : Option (Int32 × ZH) :=
  self44 ((x5 + (nI 1)), h)
theorem BX10_reverse_80 (b0 : Nat) (self26 : Int32 × ZH → Option (Int32 × ZH)) (self35 : Int32 × ZH → Option (Int32 × ZH)) (self44 : Int32 × ZH → Option (Int32 × ZH)) (x0 : Nat) (x1 : Int32) (x2 : Int32) (x3 : Int32) (x4 : Int32) (x5 : Int32) (h : ZH) (hself26 : ∀ (y3 : Int32) (hh : ZH), Zr zi b0 YX10_reverse 5 26 [(0, .ref (b0 + x0)), (1, .int x1), (2, .int x2), (3, .int y3)] [] hh (self26 (y3, hh))) (hself35 : ∀ (y4 : Int32) (hh : ZH), Zr zi b0 YX10_reverse 5 35 [(0, .ref (b0 + x0)), (1, .int x1), (2, .int x2), (3, .int x3), (4, .int y4)] [] hh (self35 (y4, hh))) (hself44 : ∀ (y5 : Int32) (hh : ZH), Zr zi b0 YX10_reverse 5 44 [(0, .ref (b0 + x0)), (1, .int x1), (2, .int x2), (3, .int x3), (4, .int x4), (5, .int y5)] [] hh (self44 (y5, hh))) : Zr zi b0 YX10_reverse 5 80 [(0, .ref (b0 + x0)), (1, .int x1), (2, .int x2), (3, .int x3), (4, .int x4), (5, .int x5)] [] h (bX10_reverse_80 self26 self35 self44 x0 x1 x2 x3 x4 x5 h) := by
  unfold bX10_reverse_80
  refine z_iinc (lv2 := [(5, .int (x5 + (nI 1))), (0, .ref (b0 + x0)), (1, .int x1), (2, .int x2), (3, .int x3), (4, .int x4)]) (nI 1) 83 5 dX10_reverse_80 rfl rfl zki_1 (Nat.le_of_ble_eq_true rfl) rfl ?_
  refine z_goto 44 dX10_reverse_83 (by decide) ?_
  exact z_sub [1, 2, 3, 4, 5, 0] rfl (hself44 (x5 + (nI 1)) h)
def kX10_reverse_44 (self26 : Int32 × ZH → Option (Int32 × ZH)) (self35 : Int32 × ZH → Option (Int32 × ZH)) (x0 : Nat) (x1 : Int32) (x2 : Int32) (x3 : Int32) (x4 : Int32) (self44 : Int32 × ZH → Option (Int32 × ZH)) (x5 : Int32) (h : ZH) : Option (Int32 × ZH) :=
  if (nI 8) ≤ x5 then (self35 ((x4 + (nI 1)), h)) else
  ((gR h 10 x0 0).bind fun v2 =>
  (lR h 17 v2 x1).bind fun v3 =>
  (fX1_has v3 x3 x4 x5 h).bind fun q4 =>
  if q4.1 = 0 then (bX10_reverse_80 self26 self35 self44 x0 x1 x2 x3 x4 x5 q4.2) else
  ((gR q4.2 10 x0 7).bind fun v6 =>
  (fX1_put v6 x5 x4 x3 q4.2).bind fun h7 =>
  bX10_reverse_80 self26 self35 self44 x0 x1 x2 x3 x4 x5 h7))
def lX10_reverse_44 (self26 : Int32 × ZH → Option (Int32 × ZH)) (self35 : Int32 × ZH → Option (Int32 × ZH)) (x0 : Nat) (x1 : Int32) (x2 : Int32) (x3 : Int32) (x4 : Int32) : (Int32 × ZH → Option (Int32 × ZH)) → Int32 × ZH → Option (Int32 × ZH) := fun self s => kX10_reverse_44 self26 self35 x0 x1 x2 x3 x4 self s.1 s.2
theorem KX10_reverse_44 (b0 : Nat) (self26 : Int32 × ZH → Option (Int32 × ZH)) (self35 : Int32 × ZH → Option (Int32 × ZH)) (x0 : Nat) (x1 : Int32) (x2 : Int32) (x3 : Int32) (x4 : Int32) (hself26 : ∀ (y3 : Int32) (hh : ZH), Zr zi b0 YX10_reverse 5 26 [(0, .ref (b0 + x0)), (1, .int x1), (2, .int x2), (3, .int y3)] [] hh (self26 (y3, hh))) (hself35 : ∀ (y4 : Int32) (hh : ZH), Zr zi b0 YX10_reverse 5 35 [(0, .ref (b0 + x0)), (1, .int x1), (2, .int x2), (3, .int x3), (4, .int y4)] [] hh (self35 (y4, hh))) (self44 : Int32 × ZH → Option (Int32 × ZH)) (hself44 : ∀ (y5 : Int32) (hh : ZH), Zr zi b0 YX10_reverse 5 44 [(0, .ref (b0 + x0)), (1, .int x1), (2, .int x2), (3, .int x3), (4, .int x4), (5, .int y5)] [] hh (self44 (y5, hh))) (x5 : Int32) (h : ZH) : Zr zi b0 YX10_reverse 5 44 [(0, .ref (b0 + x0)), (1, .int x1), (2, .int x2), (3, .int x3), (4, .int x4), (5, .int x5)] [] h (kX10_reverse_44 self26 self35 x0 x1 x2 x3 x4 self44 x5 h) := by
  unfold kX10_reverse_44
  refine z_iload 46 5 dX10_reverse_44 rfl rfl ?_
  refine z_bipush (nI 8) 48 zkb_8 dX10_reverse_46 rfl ?_
  refine z_icmp_ge 86 51 dX10_reverse_48 (by decide) rfl (fun c1 => ?_) (fun c1 => ?_)
  · refine z_iinc (lv2 := [(4, .int (x4 + (nI 1))), (0, .ref (b0 + x0)), (1, .int x1), (2, .int x2), (3, .int x3), (5, .int x5)]) (nI 1) 89 4 dX10_reverse_86 rfl rfl zki_1 (Nat.le_of_ble_eq_true rfl) rfl ?_
    refine z_goto 35 dX10_reverse_89 (by decide) ?_
    exact z_sub [1, 2, 3, 4, 0] rfl (hself35 (x4 + (nI 1)) h)
  · refine z_aload_n 52 0 dX10_reverse_51 rfl rfl ?_
    refine z_getR 55 zC10 (Nat.le_of_ble_eq_true rfl) rfl w_238 dX10_reverse_52 rfl (fun v2 _ => ?_)
    refine z_iload_n 56 1 dX10_reverse_55 rfl rfl ?_
    refine z_aaload17 57 dX10_reverse_56 rfl (fun v3 _ => ?_)
    refine z_iload_n 58 3 dX10_reverse_57 rfl rfl ?_
    refine z_iload 60 4 dX10_reverse_58 rfl rfl ?_
    refine z_iload 62 5 dX10_reverse_60 rfl rfl ?_
    refine z_callVi 65 (mX1_has b0 v3 x3 x4 x5 h) zyX1_has rfl w_347 (ci := 1) rfl (Nat.le_of_ble_eq_true rfl) (fun _ e9 => kX1_has e9) wm_yX1_has ws_yX1_has (Nat.le_of_ble_eq_true rfl) rfl (Nat.le_of_ble_eq_true rfl) dX10_reverse_62 rfl (fun q4 => ?_)
    refine z_if_eq 80 68 dX10_reverse_65 (by decide) rfl (fun c5 => ?_) (fun c5 => ?_)
    · exact z_sub [0, 1, 2, 3, 4, 5] rfl (BX10_reverse_80 b0 self26 self35 self44 x0 x1 x2 x3 x4 x5 q4.2 hself26 hself35 hself44)
    · refine z_aload_n 69 0 dX10_reverse_68 rfl rfl ?_
      refine z_getR 72 zC10 (Nat.le_of_ble_eq_true rfl) rfl w_245 dX10_reverse_69 rfl (fun v6 _ => ?_)
      refine z_iload 74 5 dX10_reverse_72 rfl rfl ?_
      refine z_iload 76 4 dX10_reverse_74 rfl rfl ?_
      refine z_iload_n 77 3 dX10_reverse_76 rfl rfl ?_
      refine z_callVv 80 (mX1_put b0 v6 x5 x4 x3 q4.2) zyX1_put rfl w_323 (ci := 1) rfl (Nat.le_of_ble_eq_true rfl) (fun _ e9 => kX1_put e9) wm_yX1_put ws_yX1_put (Nat.le_of_ble_eq_true rfl) rfl (Nat.le_of_ble_eq_true rfl) dX10_reverse_77 rfl (fun h7 => ?_)
      exact z_sub [0, 1, 2, 3, 4, 5] rfl (BX10_reverse_80 b0 self26 self35 self44 x0 x1 x2 x3 x4 x5 h7 hself26 hself35 hself44)
theorem BX10_reverse_44 (b0 : Nat) (self26 : Int32 × ZH → Option (Int32 × ZH)) (self35 : Int32 × ZH → Option (Int32 × ZH)) (x0 : Nat) (x1 : Int32) (x2 : Int32) (x3 : Int32) (x4 : Int32) (hself26 : ∀ (y3 : Int32) (hh : ZH), Zr zi b0 YX10_reverse 5 26 [(0, .ref (b0 + x0)), (1, .int x1), (2, .int x2), (3, .int y3)] [] hh (self26 (y3, hh))) (hself35 : ∀ (y4 : Int32) (hh : ZH), Zr zi b0 YX10_reverse 5 35 [(0, .ref (b0 + x0)), (1, .int x1), (2, .int x2), (3, .int x3), (4, .int y4)] [] hh (self35 (y4, hh))) (n : Nat) (x5 : Int32) (h : ZH) : Zr zi b0 YX10_reverse 5 44 [(0, .ref (b0 + x0)), (1, .int x1), (2, .int x2), (3, .int x3), (4, .int x4), (5, .int x5)] [] h (zloop (lX10_reverse_44 self26 self35 x0 x1 x2 x3 x4) n (x5, h)) :=
  zloop_Zr (fun s => [(0, .ref (b0 + x0)), (1, .int x1), (2, .int x2), (3, .int x3), (4, .int x4), (5, .int s.1)]) (fun _ => []) (fun s => s.2) (lX10_reverse_44 self26 self35 x0 x1 x2 x3 x4) (fun self hs s => KX10_reverse_44 b0 self26 self35 x0 x1 x2 x3 x4 hself26 hself35 self (fun y5 hh => hs (y5, hh)) s.1 s.2) n (x5, h)
def kX10_reverse_35 (self26 : Int32 × ZH → Option (Int32 × ZH)) (x0 : Nat) (x1 : Int32) (x2 : Int32) (x3 : Int32) (self35 : Int32 × ZH → Option (Int32 × ZH)) (x4 : Int32) (h : ZH) : Option (Int32 × ZH) :=
  if (nI 4) ≤ x4 then (self26 ((x3 + (nI 1)), h)) else
  (zloop (lX10_reverse_44 self26 self35 x0 x1 x2 x3 x4) zfu ((nI 0), h))
def lX10_reverse_35 (self26 : Int32 × ZH → Option (Int32 × ZH)) (x0 : Nat) (x1 : Int32) (x2 : Int32) (x3 : Int32) : (Int32 × ZH → Option (Int32 × ZH)) → Int32 × ZH → Option (Int32 × ZH) := fun self s => kX10_reverse_35 self26 x0 x1 x2 x3 self s.1 s.2
theorem KX10_reverse_35 (b0 : Nat) (self26 : Int32 × ZH → Option (Int32 × ZH)) (x0 : Nat) (x1 : Int32) (x2 : Int32) (x3 : Int32) (hself26 : ∀ (y3 : Int32) (hh : ZH), Zr zi b0 YX10_reverse 5 26 [(0, .ref (b0 + x0)), (1, .int x1), (2, .int x2), (3, .int y3)] [] hh (self26 (y3, hh))) (self35 : Int32 × ZH → Option (Int32 × ZH)) (hself35 : ∀ (y4 : Int32) (hh : ZH), Zr zi b0 YX10_reverse 5 35 [(0, .ref (b0 + x0)), (1, .int x1), (2, .int x2), (3, .int x3), (4, .int y4)] [] hh (self35 (y4, hh))) (x4 : Int32) (h : ZH) : Zr zi b0 YX10_reverse 5 35 [(0, .ref (b0 + x0)), (1, .int x1), (2, .int x2), (3, .int x3), (4, .int x4)] [] h (kX10_reverse_35 self26 x0 x1 x2 x3 self35 x4 h) := by
  unfold kX10_reverse_35
  refine z_iload 37 4 dX10_reverse_35 rfl rfl ?_
  refine z_iconst (nI 4) 38 zki_4 dX10_reverse_37 rfl ?_
  refine z_icmp_ge 92 41 dX10_reverse_38 (by decide) rfl (fun c1 => ?_) (fun c1 => ?_)
  · refine z_iinc (lv2 := [(3, .int (x3 + (nI 1))), (0, .ref (b0 + x0)), (1, .int x1), (2, .int x2), (4, .int x4)]) (nI 1) 95 3 dX10_reverse_92 rfl rfl zki_1 (Nat.le_of_ble_eq_true rfl) rfl ?_
    refine z_goto 26 dX10_reverse_95 (by decide) ?_
    exact z_sub [1, 2, 3, 0] rfl (hself26 (x3 + (nI 1)) h)
  · refine z_iconst (nI 0) 42 zki_0 dX10_reverse_41 rfl ?_
    refine z_istore (lv2 := [(5, .int (nI 0)), (0, .ref (b0 + x0)), (1, .int x1), (2, .int x2), (3, .int x3), (4, .int x4)]) 44 dX10_reverse_42 rfl (Nat.le_of_ble_eq_true rfl) rfl ?_
    exact z_sub [1, 2, 3, 4, 5, 0] rfl (BX10_reverse_44 b0 self26 self35 x0 x1 x2 x3 x4 hself26 hself35 zfu (nI 0) h)
theorem BX10_reverse_35 (b0 : Nat) (self26 : Int32 × ZH → Option (Int32 × ZH)) (x0 : Nat) (x1 : Int32) (x2 : Int32) (x3 : Int32) (hself26 : ∀ (y3 : Int32) (hh : ZH), Zr zi b0 YX10_reverse 5 26 [(0, .ref (b0 + x0)), (1, .int x1), (2, .int x2), (3, .int y3)] [] hh (self26 (y3, hh))) (n : Nat) (x4 : Int32) (h : ZH) : Zr zi b0 YX10_reverse 5 35 [(0, .ref (b0 + x0)), (1, .int x1), (2, .int x2), (3, .int x3), (4, .int x4)] [] h (zloop (lX10_reverse_35 self26 x0 x1 x2 x3) n (x4, h)) :=
  zloop_Zr (fun s => [(0, .ref (b0 + x0)), (1, .int x1), (2, .int x2), (3, .int x3), (4, .int s.1)]) (fun _ => []) (fun s => s.2) (lX10_reverse_35 self26 x0 x1 x2 x3) (fun self hs s => KX10_reverse_35 b0 self26 x0 x1 x2 x3 hself26 self (fun y4 hh => hs (y4, hh)) s.1 s.2) n (x4, h)
def kX10_reverse_26 (x0 : Nat) (x1 : Int32) (x2 : Int32) (self26 : Int32 × ZH → Option (Int32 × ZH)) (x3 : Int32) (h : ZH) : Option (Int32 × ZH) :=
  if (nI 8) ≤ x3 then ((fX10_storeFresh x0 x2 h).bind fun h2 =>
  (gR h2 10 x0 7).bind fun v3 =>
  (fX1_countEdges v3 h2).bind fun q4 =>
  some (q4.1, q4.2)) else
  (zloop (lX10_reverse_35 self26 x0 x1 x2 x3) zfu ((nI 0), h))
def lX10_reverse_26 (x0 : Nat) (x1 : Int32) (x2 : Int32) : (Int32 × ZH → Option (Int32 × ZH)) → Int32 × ZH → Option (Int32 × ZH) := fun self s => kX10_reverse_26 x0 x1 x2 self s.1 s.2
theorem KX10_reverse_26 (b0 : Nat) (x0 : Nat) (x1 : Int32) (x2 : Int32) (self26 : Int32 × ZH → Option (Int32 × ZH)) (hself26 : ∀ (y3 : Int32) (hh : ZH), Zr zi b0 YX10_reverse 5 26 [(0, .ref (b0 + x0)), (1, .int x1), (2, .int x2), (3, .int y3)] [] hh (self26 (y3, hh))) (x3 : Int32) (h : ZH) : Zr zi b0 YX10_reverse 5 26 [(0, .ref (b0 + x0)), (1, .int x1), (2, .int x2), (3, .int x3)] [] h (kX10_reverse_26 x0 x1 x2 self26 x3 h) := by
  unfold kX10_reverse_26
  refine z_iload_n 27 3 dX10_reverse_26 rfl rfl ?_
  refine z_bipush (nI 8) 29 zkb_8 dX10_reverse_27 rfl ?_
  refine z_icmp_ge 98 32 dX10_reverse_29 (by decide) rfl (fun c1 => ?_) (fun c1 => ?_)
  · refine z_aload_n 99 0 dX10_reverse_98 rfl rfl ?_
    refine z_iload_n 100 2 dX10_reverse_99 rfl rfl ?_
    refine z_callVv 103 (mX10_storeFresh b0 x0 x2 h) zyX10_storeFresh rfl w_407 (ci := 10) rfl (Nat.le_of_ble_eq_true rfl) (fun _ e9 => kX10_storeFresh e9) wm_yX10_storeFresh ws_yX10_storeFresh (Nat.le_of_ble_eq_true rfl) rfl (Nat.le_of_ble_eq_true rfl) dX10_reverse_100 rfl (fun h2 => ?_)
    refine z_aload_n 104 0 dX10_reverse_103 rfl rfl ?_
    refine z_getR 107 zC10 (Nat.le_of_ble_eq_true rfl) rfl w_245 dX10_reverse_104 rfl (fun v3 _ => ?_)
    refine z_callVi 110 (mX1_countEdges b0 v3 h2) zyX1_countEdges rfl w_333 (ci := 1) rfl (Nat.le_of_ble_eq_true rfl) (fun _ e9 => kX1_countEdges e9) wm_yX1_countEdges ws_yX1_countEdges (Nat.le_of_ble_eq_true rfl) rfl (Nat.le_of_ble_eq_true rfl) dX10_reverse_107 rfl (fun q4 => ?_)
    exact z_ireturn dX10_reverse_110 rfl
  · refine z_iconst (nI 0) 33 zki_0 dX10_reverse_32 rfl ?_
    refine z_istore (lv2 := [(4, .int (nI 0)), (0, .ref (b0 + x0)), (1, .int x1), (2, .int x2), (3, .int x3)]) 35 dX10_reverse_33 rfl (Nat.le_of_ble_eq_true rfl) rfl ?_
    exact z_sub [1, 2, 3, 4, 0] rfl (BX10_reverse_35 b0 self26 x0 x1 x2 x3 hself26 zfu (nI 0) h)
theorem BX10_reverse_26 (b0 : Nat) (x0 : Nat) (x1 : Int32) (x2 : Int32) (n : Nat) (x3 : Int32) (h : ZH) : Zr zi b0 YX10_reverse 5 26 [(0, .ref (b0 + x0)), (1, .int x1), (2, .int x2), (3, .int x3)] [] h (zloop (lX10_reverse_26 x0 x1 x2) n (x3, h)) :=
  zloop_Zr (fun s => [(0, .ref (b0 + x0)), (1, .int x1), (2, .int x2), (3, .int s.1)]) (fun _ => []) (fun s => s.2) (lX10_reverse_26 x0 x1 x2) (fun self hs s => KX10_reverse_26 b0 x0 x1 x2 self (fun y3 hh => hs (y3, hh)) s.1 s.2) n (x3, h)
def bX10_reverse_14 (h : ZH) : Option (Int32 × ZH) :=
  some ((-2 : Int32), h)
theorem BX10_reverse_14 (b0 : Nat) (h : ZH) : Zr zi b0 YX10_reverse 5 14 [] [] h (bX10_reverse_14 h) := by
  unfold bX10_reverse_14
  refine z_bipush (-2 : Int32) 16 zkb_m2 dX10_reverse_14 rfl ?_
  exact z_ireturn dX10_reverse_16 rfl
def fX10_reverse (x0 : Nat) (x1 : Int32) (x2 : Int32) (h : ZH) : Option (Int32 × ZH) :=
  if x0 < zn h ∧ zK h x0 = 10 then ((fX10_isSlot x1 h).bind fun q1 =>
  if q1.1 = 0 then (bX10_reverse_14 q1.2) else
  ((fX10_isSlot x2 q1.2).bind fun q3 =>
  if q3.1 = 0 then (bX10_reverse_14 q3.2) else
  ((gR q3.2 10 x0 7).bind fun v5 =>
  (fX1_clear v5 q3.2).bind fun h6 =>
  zloop (lX10_reverse_26 x0 x1 x2) zfu ((nI 0), h6)))) else none
theorem kX10_reverse {x0 : Nat} {x1 : Int32} {x2 : Int32} {h : ZH} {x : Int32 × ZH} (e : fX10_reverse x0 x1 x2 h = some x) : x0 < zn h ∧ zK h x0 = 10 := by
  unfold fX10_reverse at e
  exact zguard e
theorem mX10_reverse (b0 : Nat) (x0 : Nat) (x1 : Int32) (x2 : Int32) (h : ZH) : ZM zi b0 YX10_reverse 5 [.ref (b0 + x0), .int x1, .int x2] h (fX10_reverse x0 x1 x2 h) := by
  unfold fX10_reverse
  refine ZM.of (by decide) rfl (Nat.le_of_ble_eq_true rfl) (fun _ => trivial) ?_
  refine z_sub (lv2 := [(0, .ref (b0 + x0)), (1, .int x1), (2, .int x2)]) [0, 1, 2] rfl ?_
  refine z_guard (fun _ => ?_)
  refine z_iload_n 1 1 dX10_reverse_0 rfl rfl ?_
  refine z_callSi 4 (mX10_isSlot b0 x1 h) zyX10_isSlot rfl w_297 wt_yX10_isSlot (Nat.le_of_ble_eq_true rfl) rfl (Nat.le_of_ble_eq_true rfl) dX10_reverse_1 rfl (fun q1 => ?_)
  refine z_if_eq 14 7 dX10_reverse_4 (by decide) rfl (fun c2 => ?_) (fun c2 => ?_)
  · exact z_sub [] rfl (BX10_reverse_14 b0 q1.2 )
  · refine z_iload_n 8 2 dX10_reverse_7 rfl rfl ?_
    refine z_callSi 11 (mX10_isSlot b0 x2 q1.2) zyX10_isSlot rfl w_297 wt_yX10_isSlot (Nat.le_of_ble_eq_true rfl) rfl (Nat.le_of_ble_eq_true rfl) dX10_reverse_8 rfl (fun q3 => ?_)
    refine z_if_ne 17 14 dX10_reverse_11 (by decide) rfl (fun c4 => ?_) (fun c4 => ?_)
    · refine z_aload_n 18 0 dX10_reverse_17 rfl rfl ?_
      refine z_getR 21 zC10 (Nat.le_of_ble_eq_true rfl) rfl w_245 dX10_reverse_18 rfl (fun v5 _ => ?_)
      refine z_callVv 24 (mX1_clear b0 v5 q3.2) zyX1_clear rfl w_389 (ci := 1) rfl (Nat.le_of_ble_eq_true rfl) (fun _ e9 => kX1_clear e9) wm_yX1_clear ws_yX1_clear (Nat.le_of_ble_eq_true rfl) rfl (Nat.le_of_ble_eq_true rfl) dX10_reverse_21 rfl (fun h6 => ?_)
      refine z_iconst (nI 0) 25 zki_0 dX10_reverse_24 rfl ?_
      refine z_istore_n (lv2 := [(3, .int (nI 0)), (0, .ref (b0 + x0)), (1, .int x1), (2, .int x2)]) 26 dX10_reverse_25 rfl (Nat.le_of_ble_eq_true rfl) rfl ?_
      exact z_sub [1, 2, 3, 0] rfl (BX10_reverse_26 b0 x0 x1 x2 zfu (nI 0) h6)
    · exact z_sub [] rfl (BX10_reverse_14 b0 q3.2 )
-- X10_relabel
def bX10_relabel_76 (self42 : Int32 × ZH → Option (Int32 × ZH)) (self52 : Int32 × ZH → Option (Int32 × ZH)) (x0 : Nat) (x1 : Int32) (x2 : Int32) (x3 : Int32) (x4 : Int32) (x5 : Int32) (x6 : Int32) (t0 : Int32) (t1 : Int32) (t2 : Nat) (h : ZH) : Option (Int32 × ZH) :=
  (gR h 10 x0 0).bind fun v1 =>
  (lR h 17 v1 x1).bind fun v2 =>
  (fX1_row v2 x5 x6 h).bind fun q3 =>
  (fX1_link t2 t1 t0 q3.1 q3.2).bind fun h4 =>
  self52 ((x6 + (nI 1)), h4)
theorem BX10_relabel_76 (b0 : Nat) (self42 : Int32 × ZH → Option (Int32 × ZH)) (self52 : Int32 × ZH → Option (Int32 × ZH)) (x0 : Nat) (x1 : Int32) (x2 : Int32) (x3 : Int32) (x4 : Int32) (x5 : Int32) (x6 : Int32) (t0 : Int32) (t1 : Int32) (t2 : Nat) (h : ZH) (hself42 : ∀ (y5 : Int32) (hh : ZH), Zr zi b0 YX10_relabel 5 42 [(0, .ref (b0 + x0)), (1, .int x1), (2, .int x2), (3, .int x3), (4, .int x4), (5, .int y5)] [] hh (self42 (y5, hh))) (hself52 : ∀ (y6 : Int32) (hh : ZH), Zr zi b0 YX10_relabel 5 52 [(0, .ref (b0 + x0)), (1, .int x1), (2, .int x2), (3, .int x3), (4, .int x4), (5, .int x5), (6, .int y6)] [] hh (self52 (y6, hh))) : Zr zi b0 YX10_relabel 5 76 [(0, .ref (b0 + x0)), (1, .int x1), (2, .int x2), (3, .int x3), (4, .int x4), (5, .int x5), (6, .int x6)] [.int t0, .int t1, .ref (b0 + t2)] h (bX10_relabel_76 self42 self52 x0 x1 x2 x3 x4 x5 x6 t0 t1 t2 h) := by
  unfold bX10_relabel_76
  refine z_aload_n 77 0 dX10_relabel_76 rfl rfl ?_
  refine z_getR 80 zC10 (Nat.le_of_ble_eq_true rfl) rfl w_238 dX10_relabel_77 rfl (fun v1 _ => ?_)
  refine z_iload_n 81 1 dX10_relabel_80 rfl rfl ?_
  refine z_aaload17 82 dX10_relabel_81 rfl (fun v2 _ => ?_)
  refine z_iload 84 5 dX10_relabel_82 rfl rfl ?_
  refine z_iload 86 6 dX10_relabel_84 rfl rfl ?_
  refine z_callVi 89 (mX1_row b0 v2 x5 x6 h) zyX1_row rfl w_363 (ci := 1) rfl (Nat.le_of_ble_eq_true rfl) (fun _ e9 => kX1_row e9) wm_yX1_row ws_yX1_row (Nat.le_of_ble_eq_true rfl) rfl (Nat.le_of_ble_eq_true rfl) dX10_relabel_86 rfl (fun q3 => ?_)
  refine z_callVv 92 (mX1_link b0 t2 t1 t0 q3.1 q3.2) zyX1_link rfl w_889 (ci := 1) rfl (Nat.le_of_ble_eq_true rfl) (fun _ e9 => kX1_link e9) wm_yX1_link ws_yX1_link (Nat.le_of_ble_eq_true rfl) rfl (Nat.le_of_ble_eq_true rfl) dX10_relabel_89 rfl (fun h4 => ?_)
  refine z_iinc (lv2 := [(6, .int (x6 + (nI 1))), (0, .ref (b0 + x0)), (1, .int x1), (2, .int x2), (3, .int x3), (4, .int x4), (5, .int x5)]) (nI 1) 95 6 dX10_relabel_92 rfl rfl zki_1 (Nat.le_of_ble_eq_true rfl) rfl ?_
  refine z_goto 52 dX10_relabel_95 (by decide) ?_
  exact z_sub [1, 2, 3, 4, 5, 6, 0] rfl (hself52 (x6 + (nI 1)) h4)
def kX10_relabel_52 (self42 : Int32 × ZH → Option (Int32 × ZH)) (x0 : Nat) (x1 : Int32) (x2 : Int32) (x3 : Int32) (x4 : Int32) (x5 : Int32) (self52 : Int32 × ZH → Option (Int32 × ZH)) (x6 : Int32) (h : ZH) : Option (Int32 × ZH) :=
  if (nI 4) ≤ x6 then (self42 ((x5 + (nI 1)), h)) else
  ((gR h 10 x0 7).bind fun v2 =>
  if x6 = x2 then (bX10_relabel_76 self42 self52 x0 x1 x2 x3 x4 x5 x6 x3 x5 v2 h) else
  (bX10_relabel_76 self42 self52 x0 x1 x2 x3 x4 x5 x6 x6 x5 v2 h))
def lX10_relabel_52 (self42 : Int32 × ZH → Option (Int32 × ZH)) (x0 : Nat) (x1 : Int32) (x2 : Int32) (x3 : Int32) (x4 : Int32) (x5 : Int32) : (Int32 × ZH → Option (Int32 × ZH)) → Int32 × ZH → Option (Int32 × ZH) := fun self s => kX10_relabel_52 self42 x0 x1 x2 x3 x4 x5 self s.1 s.2
theorem KX10_relabel_52 (b0 : Nat) (self42 : Int32 × ZH → Option (Int32 × ZH)) (x0 : Nat) (x1 : Int32) (x2 : Int32) (x3 : Int32) (x4 : Int32) (x5 : Int32) (hself42 : ∀ (y5 : Int32) (hh : ZH), Zr zi b0 YX10_relabel 5 42 [(0, .ref (b0 + x0)), (1, .int x1), (2, .int x2), (3, .int x3), (4, .int x4), (5, .int y5)] [] hh (self42 (y5, hh))) (self52 : Int32 × ZH → Option (Int32 × ZH)) (hself52 : ∀ (y6 : Int32) (hh : ZH), Zr zi b0 YX10_relabel 5 52 [(0, .ref (b0 + x0)), (1, .int x1), (2, .int x2), (3, .int x3), (4, .int x4), (5, .int x5), (6, .int y6)] [] hh (self52 (y6, hh))) (x6 : Int32) (h : ZH) : Zr zi b0 YX10_relabel 5 52 [(0, .ref (b0 + x0)), (1, .int x1), (2, .int x2), (3, .int x3), (4, .int x4), (5, .int x5), (6, .int x6)] [] h (kX10_relabel_52 self42 x0 x1 x2 x3 x4 x5 self52 x6 h) := by
  unfold kX10_relabel_52
  refine z_iload 54 6 dX10_relabel_52 rfl rfl ?_
  refine z_iconst (nI 4) 55 zki_4 dX10_relabel_54 rfl ?_
  refine z_icmp_ge 98 58 dX10_relabel_55 (by decide) rfl (fun c1 => ?_) (fun c1 => ?_)
  · refine z_iinc (lv2 := [(5, .int (x5 + (nI 1))), (0, .ref (b0 + x0)), (1, .int x1), (2, .int x2), (3, .int x3), (4, .int x4), (6, .int x6)]) (nI 1) 101 5 dX10_relabel_98 rfl rfl zki_1 (Nat.le_of_ble_eq_true rfl) rfl ?_
    refine z_goto 42 dX10_relabel_101 (by decide) ?_
    exact z_sub [1, 2, 3, 4, 5, 0] rfl (hself42 (x5 + (nI 1)) h)
  · refine z_aload_n 59 0 dX10_relabel_58 rfl rfl ?_
    refine z_getR 62 zC10 (Nat.le_of_ble_eq_true rfl) rfl w_245 dX10_relabel_59 rfl (fun v2 _ => ?_)
    refine z_iload 64 5 dX10_relabel_62 rfl rfl ?_
    refine z_iload 66 6 dX10_relabel_64 rfl rfl ?_
    refine z_iload_n 67 2 dX10_relabel_66 rfl rfl ?_
    refine z_icmp_ne 74 70 dX10_relabel_67 (by decide) rfl (fun c3 => ?_) (fun c3 => ?_)
    · refine z_iload 76 6 dX10_relabel_74 rfl rfl ?_
      exact z_sub [0, 1, 2, 3, 4, 5, 6] rfl (BX10_relabel_76 b0 self42 self52 x0 x1 x2 x3 x4 x5 x6 x6 x5 v2 h hself42 hself52)
    · refine z_iload_n 71 3 dX10_relabel_70 rfl rfl ?_
      refine z_goto 76 dX10_relabel_71 (by decide) ?_
      exact z_sub [0, 1, 2, 3, 4, 5, 6] rfl (BX10_relabel_76 b0 self42 self52 x0 x1 x2 x3 x4 x5 x6 x3 x5 v2 h hself42 hself52)
theorem BX10_relabel_52 (b0 : Nat) (self42 : Int32 × ZH → Option (Int32 × ZH)) (x0 : Nat) (x1 : Int32) (x2 : Int32) (x3 : Int32) (x4 : Int32) (x5 : Int32) (hself42 : ∀ (y5 : Int32) (hh : ZH), Zr zi b0 YX10_relabel 5 42 [(0, .ref (b0 + x0)), (1, .int x1), (2, .int x2), (3, .int x3), (4, .int x4), (5, .int y5)] [] hh (self42 (y5, hh))) (n : Nat) (x6 : Int32) (h : ZH) : Zr zi b0 YX10_relabel 5 52 [(0, .ref (b0 + x0)), (1, .int x1), (2, .int x2), (3, .int x3), (4, .int x4), (5, .int x5), (6, .int x6)] [] h (zloop (lX10_relabel_52 self42 x0 x1 x2 x3 x4 x5) n (x6, h)) :=
  zloop_Zr (fun s => [(0, .ref (b0 + x0)), (1, .int x1), (2, .int x2), (3, .int x3), (4, .int x4), (5, .int x5), (6, .int s.1)]) (fun _ => []) (fun s => s.2) (lX10_relabel_52 self42 x0 x1 x2 x3 x4 x5) (fun self hs s => KX10_relabel_52 b0 self42 x0 x1 x2 x3 x4 x5 hself42 self (fun y6 hh => hs (y6, hh)) s.1 s.2) n (x6, h)
def kX10_relabel_42 (x0 : Nat) (x1 : Int32) (x2 : Int32) (x3 : Int32) (x4 : Int32) (self42 : Int32 × ZH → Option (Int32 × ZH)) (x5 : Int32) (h : ZH) : Option (Int32 × ZH) :=
  if (nI 8) ≤ x5 then ((fX10_storeFresh x0 x4 h).bind fun h2 =>
  (gR h2 10 x0 7).bind fun v3 =>
  (fX1_countEdges v3 h2).bind fun q4 =>
  some (q4.1, q4.2)) else
  (zloop (lX10_relabel_52 self42 x0 x1 x2 x3 x4 x5) zfu ((nI 0), h))
def lX10_relabel_42 (x0 : Nat) (x1 : Int32) (x2 : Int32) (x3 : Int32) (x4 : Int32) : (Int32 × ZH → Option (Int32 × ZH)) → Int32 × ZH → Option (Int32 × ZH) := fun self s => kX10_relabel_42 x0 x1 x2 x3 x4 self s.1 s.2
theorem KX10_relabel_42 (b0 : Nat) (x0 : Nat) (x1 : Int32) (x2 : Int32) (x3 : Int32) (x4 : Int32) (self42 : Int32 × ZH → Option (Int32 × ZH)) (hself42 : ∀ (y5 : Int32) (hh : ZH), Zr zi b0 YX10_relabel 5 42 [(0, .ref (b0 + x0)), (1, .int x1), (2, .int x2), (3, .int x3), (4, .int x4), (5, .int y5)] [] hh (self42 (y5, hh))) (x5 : Int32) (h : ZH) : Zr zi b0 YX10_relabel 5 42 [(0, .ref (b0 + x0)), (1, .int x1), (2, .int x2), (3, .int x3), (4, .int x4), (5, .int x5)] [] h (kX10_relabel_42 x0 x1 x2 x3 x4 self42 x5 h) := by
  unfold kX10_relabel_42
  refine z_iload 44 5 dX10_relabel_42 rfl rfl ?_
  refine z_bipush (nI 8) 46 zkb_8 dX10_relabel_44 rfl ?_
  refine z_icmp_ge 104 49 dX10_relabel_46 (by decide) rfl (fun c1 => ?_) (fun c1 => ?_)
  · refine z_aload_n 105 0 dX10_relabel_104 rfl rfl ?_
    refine z_iload 107 4 dX10_relabel_105 rfl rfl ?_
    refine z_callVv 110 (mX10_storeFresh b0 x0 x4 h) zyX10_storeFresh rfl w_407 (ci := 10) rfl (Nat.le_of_ble_eq_true rfl) (fun _ e9 => kX10_storeFresh e9) wm_yX10_storeFresh ws_yX10_storeFresh (Nat.le_of_ble_eq_true rfl) rfl (Nat.le_of_ble_eq_true rfl) dX10_relabel_107 rfl (fun h2 => ?_)
    refine z_aload_n 111 0 dX10_relabel_110 rfl rfl ?_
    refine z_getR 114 zC10 (Nat.le_of_ble_eq_true rfl) rfl w_245 dX10_relabel_111 rfl (fun v3 _ => ?_)
    refine z_callVi 117 (mX1_countEdges b0 v3 h2) zyX1_countEdges rfl w_333 (ci := 1) rfl (Nat.le_of_ble_eq_true rfl) (fun _ e9 => kX1_countEdges e9) wm_yX1_countEdges ws_yX1_countEdges (Nat.le_of_ble_eq_true rfl) rfl (Nat.le_of_ble_eq_true rfl) dX10_relabel_114 rfl (fun q4 => ?_)
    exact z_ireturn dX10_relabel_117 rfl
  · refine z_iconst (nI 0) 50 zki_0 dX10_relabel_49 rfl ?_
    refine z_istore (lv2 := [(6, .int (nI 0)), (0, .ref (b0 + x0)), (1, .int x1), (2, .int x2), (3, .int x3), (4, .int x4), (5, .int x5)]) 52 dX10_relabel_50 rfl (Nat.le_of_ble_eq_true rfl) rfl ?_
    exact z_sub [1, 2, 3, 4, 5, 6, 0] rfl (BX10_relabel_52 b0 self42 x0 x1 x2 x3 x4 x5 hself42 zfu (nI 0) h)
theorem BX10_relabel_42 (b0 : Nat) (x0 : Nat) (x1 : Int32) (x2 : Int32) (x3 : Int32) (x4 : Int32) (n : Nat) (x5 : Int32) (h : ZH) : Zr zi b0 YX10_relabel 5 42 [(0, .ref (b0 + x0)), (1, .int x1), (2, .int x2), (3, .int x3), (4, .int x4), (5, .int x5)] [] h (zloop (lX10_relabel_42 x0 x1 x2 x3 x4) n (x5, h)) :=
  zloop_Zr (fun s => [(0, .ref (b0 + x0)), (1, .int x1), (2, .int x2), (3, .int x3), (4, .int x4), (5, .int s.1)]) (fun _ => []) (fun s => s.2) (lX10_relabel_42 x0 x1 x2 x3 x4) (fun self hs s => KX10_relabel_42 b0 x0 x1 x2 x3 x4 self (fun y5 hh => hs (y5, hh)) s.1 s.2) n (x5, h)
def bX10_relabel_29 (h : ZH) : Option (Int32 × ZH) :=
  some ((-2 : Int32), h)
theorem BX10_relabel_29 (b0 : Nat) (h : ZH) : Zr zi b0 YX10_relabel 5 29 [] [] h (bX10_relabel_29 h) := by
  unfold bX10_relabel_29
  refine z_bipush (-2 : Int32) 31 zkb_m2 dX10_relabel_29 rfl ?_
  exact z_ireturn dX10_relabel_31 rfl
def fX10_relabel (x0 : Nat) (x1 : Int32) (x2 : Int32) (x3 : Int32) (x4 : Int32) (h : ZH) : Option (Int32 × ZH) :=
  if x0 < zn h ∧ zK h x0 = 10 then ((fX10_isSlot x1 h).bind fun q1 =>
  if q1.1 = 0 then (bX10_relabel_29 q1.2) else
  ((fX10_isLetter x2 q1.2).bind fun q3 =>
  if q3.1 = 0 then (bX10_relabel_29 q3.2) else
  ((fX10_isLetter x3 q3.2).bind fun q5 =>
  if q5.1 = 0 then (bX10_relabel_29 q5.2) else
  ((fX10_isSlot x4 q5.2).bind fun q7 =>
  if q7.1 = 0 then (bX10_relabel_29 q7.2) else
  ((gR q7.2 10 x0 7).bind fun v9 =>
  (fX1_clear v9 q7.2).bind fun h10 =>
  zloop (lX10_relabel_42 x0 x1 x2 x3 x4) zfu ((nI 0), h10)))))) else none
theorem kX10_relabel {x0 : Nat} {x1 : Int32} {x2 : Int32} {x3 : Int32} {x4 : Int32} {h : ZH} {x : Int32 × ZH} (e : fX10_relabel x0 x1 x2 x3 x4 h = some x) : x0 < zn h ∧ zK h x0 = 10 := by
  unfold fX10_relabel at e
  exact zguard e
theorem mX10_relabel (b0 : Nat) (x0 : Nat) (x1 : Int32) (x2 : Int32) (x3 : Int32) (x4 : Int32) (h : ZH) : ZM zi b0 YX10_relabel 5 [.ref (b0 + x0), .int x1, .int x2, .int x3, .int x4] h (fX10_relabel x0 x1 x2 x3 x4 h) := by
  unfold fX10_relabel
  refine ZM.of (by decide) rfl (Nat.le_of_ble_eq_true rfl) (fun _ => trivial) ?_
  refine z_sub (lv2 := [(0, .ref (b0 + x0)), (1, .int x1), (2, .int x2), (3, .int x3), (4, .int x4)]) [0, 1, 2, 3, 4] rfl ?_
  refine z_guard (fun _ => ?_)
  refine z_iload_n 1 1 dX10_relabel_0 rfl rfl ?_
  refine z_callSi 4 (mX10_isSlot b0 x1 h) zyX10_isSlot rfl w_297 wt_yX10_isSlot (Nat.le_of_ble_eq_true rfl) rfl (Nat.le_of_ble_eq_true rfl) dX10_relabel_1 rfl (fun q1 => ?_)
  refine z_if_eq 29 7 dX10_relabel_4 (by decide) rfl (fun c2 => ?_) (fun c2 => ?_)
  · exact z_sub [] rfl (BX10_relabel_29 b0 q1.2 )
  · refine z_iload_n 8 2 dX10_relabel_7 rfl rfl ?_
    refine z_callSi 11 (mX10_isLetter b0 x2 q1.2) zyX10_isLetter rfl w_303 wt_yX10_isLetter (Nat.le_of_ble_eq_true rfl) rfl (Nat.le_of_ble_eq_true rfl) dX10_relabel_8 rfl (fun q3 => ?_)
    refine z_if_eq 29 14 dX10_relabel_11 (by decide) rfl (fun c4 => ?_) (fun c4 => ?_)
    · exact z_sub [] rfl (BX10_relabel_29 b0 q3.2 )
    · refine z_iload_n 15 3 dX10_relabel_14 rfl rfl ?_
      refine z_callSi 18 (mX10_isLetter b0 x3 q3.2) zyX10_isLetter rfl w_303 wt_yX10_isLetter (Nat.le_of_ble_eq_true rfl) rfl (Nat.le_of_ble_eq_true rfl) dX10_relabel_15 rfl (fun q5 => ?_)
      refine z_if_eq 29 21 dX10_relabel_18 (by decide) rfl (fun c6 => ?_) (fun c6 => ?_)
      · exact z_sub [] rfl (BX10_relabel_29 b0 q5.2 )
      · refine z_iload 23 4 dX10_relabel_21 rfl rfl ?_
        refine z_callSi 26 (mX10_isSlot b0 x4 q5.2) zyX10_isSlot rfl w_297 wt_yX10_isSlot (Nat.le_of_ble_eq_true rfl) rfl (Nat.le_of_ble_eq_true rfl) dX10_relabel_23 rfl (fun q7 => ?_)
        refine z_if_ne 32 29 dX10_relabel_26 (by decide) rfl (fun c8 => ?_) (fun c8 => ?_)
        · refine z_aload_n 33 0 dX10_relabel_32 rfl rfl ?_
          refine z_getR 36 zC10 (Nat.le_of_ble_eq_true rfl) rfl w_245 dX10_relabel_33 rfl (fun v9 _ => ?_)
          refine z_callVv 39 (mX1_clear b0 v9 q7.2) zyX1_clear rfl w_389 (ci := 1) rfl (Nat.le_of_ble_eq_true rfl) (fun _ e9 => kX1_clear e9) wm_yX1_clear ws_yX1_clear (Nat.le_of_ble_eq_true rfl) rfl (Nat.le_of_ble_eq_true rfl) dX10_relabel_36 rfl (fun h10 => ?_)
          refine z_iconst (nI 0) 40 zki_0 dX10_relabel_39 rfl ?_
          refine z_istore (lv2 := [(5, .int (nI 0)), (0, .ref (b0 + x0)), (1, .int x1), (2, .int x2), (3, .int x3), (4, .int x4)]) 42 dX10_relabel_40 rfl (Nat.le_of_ble_eq_true rfl) rfl ?_
          exact z_sub [1, 2, 3, 4, 5, 0] rfl (BX10_relabel_42 b0 x0 x1 x2 x3 x4 zfu (nI 0) h10)
        · exact z_sub [] rfl (BX10_relabel_29 b0 q7.2 )
-- X10_repeatsPrefix
def kX10_repeatsPrefix_2 (x0 : Nat) (x1 : Int32) (x2 : Int32) (self2 : Int32 × ZH → Option (Int32 × ZH)) (x3 : Int32) (h : ZH) : Option (Int32 × ZH) :=
  if x2 ≤ x3 then (if (nI 1) = 0 ∨ (nI 1) = 1 then some ((nI 1), h) else none) else
  ((gR h 10 x0 4).bind fun v2 =>
  (fX7_at v2 ((x1 - x2) + x3) h).bind fun q3 =>
  (gR q3.2 10 x0 4).bind fun v4 =>
  (fX7_at v4 x3 q3.2).bind fun q5 =>
  if q3.1 = q5.1 then (self2 ((x3 + (nI 1)), q5.2)) else
  (if (nI 0) = 0 ∨ (nI 0) = 1 then some ((nI 0), q5.2) else none))
def lX10_repeatsPrefix_2 (x0 : Nat) (x1 : Int32) (x2 : Int32) : (Int32 × ZH → Option (Int32 × ZH)) → Int32 × ZH → Option (Int32 × ZH) := fun self s => kX10_repeatsPrefix_2 x0 x1 x2 self s.1 s.2
theorem KX10_repeatsPrefix_2 (b0 : Nat) (x0 : Nat) (x1 : Int32) (x2 : Int32) (self2 : Int32 × ZH → Option (Int32 × ZH)) (hself2 : ∀ (y3 : Int32) (hh : ZH), Zr zi b0 YX10_repeatsPrefix 2 2 [(0, .ref (b0 + x0)), (1, .int x1), (2, .int x2), (3, .int y3)] [] hh (self2 (y3, hh))) (x3 : Int32) (h : ZH) : Zr zi b0 YX10_repeatsPrefix 2 2 [(0, .ref (b0 + x0)), (1, .int x1), (2, .int x2), (3, .int x3)] [] h (kX10_repeatsPrefix_2 x0 x1 x2 self2 x3 h) := by
  unfold kX10_repeatsPrefix_2
  refine z_iload_n 3 3 dX10_repeatsPrefix_2 rfl rfl ?_
  refine z_iload_n 4 2 dX10_repeatsPrefix_3 rfl rfl ?_
  refine z_icmp_ge 38 7 dX10_repeatsPrefix_4 (by decide) rfl (fun c1 => ?_) (fun c1 => ?_)
  · refine z_iconst (nI 1) 39 zki_1 dX10_repeatsPrefix_38 rfl ?_
    exact z_zreturn dX10_repeatsPrefix_39 rfl
  · refine z_aload_n 8 0 dX10_repeatsPrefix_7 rfl rfl ?_
    refine z_getR 11 zC10 (Nat.le_of_ble_eq_true rfl) rfl w_242 dX10_repeatsPrefix_8 rfl (fun v2 _ => ?_)
    refine z_iload_n 12 1 dX10_repeatsPrefix_11 rfl rfl ?_
    refine z_iload_n 13 2 dX10_repeatsPrefix_12 rfl rfl ?_
    refine z_isub 14 dX10_repeatsPrefix_13 rfl ?_
    refine z_iload_n 15 3 dX10_repeatsPrefix_14 rfl rfl ?_
    refine z_iadd 16 dX10_repeatsPrefix_15 rfl ?_
    refine z_callVi 19 (mX7_at b0 v2 ((x1 - x2) + x3) h) zyX7_at rfl w_396 (ci := 7) rfl (Nat.le_of_ble_eq_true rfl) (fun _ e9 => kX7_at e9) wm_yX7_at ws_yX7_at (Nat.le_of_ble_eq_true rfl) rfl (Nat.le_of_ble_eq_true rfl) dX10_repeatsPrefix_16 rfl (fun q3 => ?_)
    refine z_aload_n 20 0 dX10_repeatsPrefix_19 rfl rfl ?_
    refine z_getR 23 zC10 (Nat.le_of_ble_eq_true rfl) rfl w_242 dX10_repeatsPrefix_20 rfl (fun v4 _ => ?_)
    refine z_iload_n 24 3 dX10_repeatsPrefix_23 rfl rfl ?_
    refine z_callVi 27 (mX7_at b0 v4 x3 q3.2) zyX7_at rfl w_396 (ci := 7) rfl (Nat.le_of_ble_eq_true rfl) (fun _ e9 => kX7_at e9) wm_yX7_at ws_yX7_at (Nat.le_of_ble_eq_true rfl) rfl (Nat.le_of_ble_eq_true rfl) dX10_repeatsPrefix_24 rfl (fun q5 => ?_)
    refine z_icmp_eq 32 30 dX10_repeatsPrefix_27 (by decide) rfl (fun c6 => ?_) (fun c6 => ?_)
    · refine z_iinc (lv2 := [(3, .int (x3 + (nI 1))), (0, .ref (b0 + x0)), (1, .int x1), (2, .int x2)]) (nI 1) 35 3 dX10_repeatsPrefix_32 rfl rfl zki_1 (Nat.le_of_ble_eq_true rfl) rfl ?_
      refine z_goto 2 dX10_repeatsPrefix_35 (by decide) ?_
      exact z_sub [1, 2, 3, 0] rfl (hself2 (x3 + (nI 1)) q5.2)
    · refine z_iconst (nI 0) 31 zki_0 dX10_repeatsPrefix_30 rfl ?_
      exact z_zreturn dX10_repeatsPrefix_31 rfl
theorem BX10_repeatsPrefix_2 (b0 : Nat) (x0 : Nat) (x1 : Int32) (x2 : Int32) (n : Nat) (x3 : Int32) (h : ZH) : Zr zi b0 YX10_repeatsPrefix 2 2 [(0, .ref (b0 + x0)), (1, .int x1), (2, .int x2), (3, .int x3)] [] h (zloop (lX10_repeatsPrefix_2 x0 x1 x2) n (x3, h)) :=
  zloop_Zr (fun s => [(0, .ref (b0 + x0)), (1, .int x1), (2, .int x2), (3, .int s.1)]) (fun _ => []) (fun s => s.2) (lX10_repeatsPrefix_2 x0 x1 x2) (fun self hs s => KX10_repeatsPrefix_2 b0 x0 x1 x2 self (fun y3 hh => hs (y3, hh)) s.1 s.2) n (x3, h)
def fX10_repeatsPrefix (x0 : Nat) (x1 : Int32) (x2 : Int32) (h : ZH) : Option (Int32 × ZH) :=
  if x0 < zn h ∧ zK h x0 = 10 then (zloop (lX10_repeatsPrefix_2 x0 x1 x2) zfu ((nI 0), h)) else none
theorem kX10_repeatsPrefix {x0 : Nat} {x1 : Int32} {x2 : Int32} {h : ZH} {x : Int32 × ZH} (e : fX10_repeatsPrefix x0 x1 x2 h = some x) : x0 < zn h ∧ zK h x0 = 10 := by
  unfold fX10_repeatsPrefix at e
  exact zguard e
theorem mX10_repeatsPrefix (b0 : Nat) (x0 : Nat) (x1 : Int32) (x2 : Int32) (h : ZH) : ZM zi b0 YX10_repeatsPrefix 2 [.ref (b0 + x0), .int x1, .int x2] h (fX10_repeatsPrefix x0 x1 x2 h) := by
  unfold fX10_repeatsPrefix
  refine ZM.of (by decide) rfl (Nat.le_of_ble_eq_true rfl) (fun _ => trivial) ?_
  refine z_sub (lv2 := [(0, .ref (b0 + x0)), (1, .int x1), (2, .int x2)]) [0, 1, 2] rfl ?_
  refine z_guard (fun _ => ?_)
  refine z_iconst (nI 0) 1 zki_0 dX10_repeatsPrefix_0 rfl ?_
  refine z_istore_n (lv2 := [(3, .int (nI 0)), (0, .ref (b0 + x0)), (1, .int x1), (2, .int x2)]) 2 dX10_repeatsPrefix_1 rfl (Nat.le_of_ble_eq_true rfl) rfl ?_
  exact z_sub [1, 2, 3, 0] rfl (BX10_repeatsPrefix_2 b0 x0 x1 x2 zfu (nI 0) h)
-- X10_overlap
def bX10_overlap_38 (self4 : Int32 × ZH → Option (Int32 × ZH)) (x0 : Nat) (x1 : Int32) (x2 : Int32) (x3 : Int32) (h : ZH) : Option (Int32 × ZH) :=
  self4 ((x3 + (-1 : Int32)), h)
theorem BX10_overlap_38 (b0 : Nat) (self4 : Int32 × ZH → Option (Int32 × ZH)) (x0 : Nat) (x1 : Int32) (x2 : Int32) (x3 : Int32) (h : ZH) (hself4 : ∀ (y3 : Int32) (hh : ZH), Zr zi b0 YX10_overlap 3 4 [(0, .ref (b0 + x0)), (1, .int x1), (2, .int x2), (3, .int y3)] [] hh (self4 (y3, hh))) : Zr zi b0 YX10_overlap 3 38 [(0, .ref (b0 + x0)), (1, .int x1), (2, .int x2), (3, .int x3)] [] h (bX10_overlap_38 self4 x0 x1 x2 x3 h) := by
  unfold bX10_overlap_38
  refine z_iinc (lv2 := [(3, .int (x3 + (-1 : Int32))), (0, .ref (b0 + x0)), (1, .int x1), (2, .int x2)]) (-1 : Int32) 41 3 dX10_overlap_38 rfl rfl zki_m1 (Nat.le_of_ble_eq_true rfl) rfl ?_
  refine z_goto 4 dX10_overlap_41 (by decide) ?_
  exact z_sub [1, 2, 3, 0] rfl (hself4 (x3 + (-1 : Int32)) h)
def kX10_overlap_4 (x0 : Nat) (x1 : Int32) (x2 : Int32) (self4 : Int32 × ZH → Option (Int32 × ZH)) (x3 : Int32) (h : ZH) : Option (Int32 × ZH) :=
  if x3 ≤ 0 then (some ((nI 0), h)) else
  ((gR h 10 x0 4).bind fun v2 =>
  (fX7_at v2 (x3 - (nI 1)) h).bind fun q3 =>
  if (q3.1 - (nI 97)) = x2 then ((fX10_repeatsPrefix x0 x1 (x3 - (nI 1)) q3.2).bind fun q5 =>
  if q5.1 = 0 then (bX10_overlap_38 self4 x0 x1 x2 x3 q5.2) else
  (some (x3, q5.2))) else
  (bX10_overlap_38 self4 x0 x1 x2 x3 q3.2))
def lX10_overlap_4 (x0 : Nat) (x1 : Int32) (x2 : Int32) : (Int32 × ZH → Option (Int32 × ZH)) → Int32 × ZH → Option (Int32 × ZH) := fun self s => kX10_overlap_4 x0 x1 x2 self s.1 s.2
theorem KX10_overlap_4 (b0 : Nat) (x0 : Nat) (x1 : Int32) (x2 : Int32) (self4 : Int32 × ZH → Option (Int32 × ZH)) (hself4 : ∀ (y3 : Int32) (hh : ZH), Zr zi b0 YX10_overlap 3 4 [(0, .ref (b0 + x0)), (1, .int x1), (2, .int x2), (3, .int y3)] [] hh (self4 (y3, hh))) (x3 : Int32) (h : ZH) : Zr zi b0 YX10_overlap 3 4 [(0, .ref (b0 + x0)), (1, .int x1), (2, .int x2), (3, .int x3)] [] h (kX10_overlap_4 x0 x1 x2 self4 x3 h) := by
  unfold kX10_overlap_4
  refine z_iload_n 5 3 dX10_overlap_4 rfl rfl ?_
  refine z_if_le 44 8 dX10_overlap_5 (by decide) rfl (fun c1 => ?_) (fun c1 => ?_)
  · refine z_iconst (nI 0) 45 zki_0 dX10_overlap_44 rfl ?_
    exact z_ireturn dX10_overlap_45 rfl
  · refine z_aload_n 9 0 dX10_overlap_8 rfl rfl ?_
    refine z_getR 12 zC10 (Nat.le_of_ble_eq_true rfl) rfl w_242 dX10_overlap_9 rfl (fun v2 _ => ?_)
    refine z_iload_n 13 3 dX10_overlap_12 rfl rfl ?_
    refine z_iconst (nI 1) 14 zki_1 dX10_overlap_13 rfl ?_
    refine z_isub 15 dX10_overlap_14 rfl ?_
    refine z_callVi 18 (mX7_at b0 v2 (x3 - (nI 1)) h) zyX7_at rfl w_396 (ci := 7) rfl (Nat.le_of_ble_eq_true rfl) (fun _ e9 => kX7_at e9) wm_yX7_at ws_yX7_at (Nat.le_of_ble_eq_true rfl) rfl (Nat.le_of_ble_eq_true rfl) dX10_overlap_15 rfl (fun q3 => ?_)
    refine z_bipush (nI 97) 20 zkb_97 dX10_overlap_18 rfl ?_
    refine z_isub 21 dX10_overlap_20 rfl ?_
    refine z_iload_n 22 2 dX10_overlap_21 rfl rfl ?_
    refine z_icmp_ne 38 25 dX10_overlap_22 (by decide) rfl (fun c4 => ?_) (fun c4 => ?_)
    · exact z_sub [0, 1, 2, 3] rfl (BX10_overlap_38 b0 self4 x0 x1 x2 x3 q3.2 hself4)
    · refine z_aload_n 26 0 dX10_overlap_25 rfl rfl ?_
      refine z_iload_n 27 1 dX10_overlap_26 rfl rfl ?_
      refine z_iload_n 28 3 dX10_overlap_27 rfl rfl ?_
      refine z_iconst (nI 1) 29 zki_1 dX10_overlap_28 rfl ?_
      refine z_isub 30 dX10_overlap_29 rfl ?_
      refine z_callVi 33 (mX10_repeatsPrefix b0 x0 x1 (x3 - (nI 1)) q3.2) zyX10_repeatsPrefix rfl w_902 (ci := 10) rfl (Nat.le_of_ble_eq_true rfl) (fun _ e9 => kX10_repeatsPrefix e9) wm_yX10_repeatsPrefix ws_yX10_repeatsPrefix (Nat.le_of_ble_eq_true rfl) rfl (Nat.le_of_ble_eq_true rfl) dX10_overlap_30 rfl (fun q5 => ?_)
      refine z_if_eq 38 36 dX10_overlap_33 (by decide) rfl (fun c6 => ?_) (fun c6 => ?_)
      · exact z_sub [0, 1, 2, 3] rfl (BX10_overlap_38 b0 self4 x0 x1 x2 x3 q5.2 hself4)
      · refine z_iload_n 37 3 dX10_overlap_36 rfl rfl ?_
        exact z_ireturn dX10_overlap_37 rfl
theorem BX10_overlap_4 (b0 : Nat) (x0 : Nat) (x1 : Int32) (x2 : Int32) (n : Nat) (x3 : Int32) (h : ZH) : Zr zi b0 YX10_overlap 3 4 [(0, .ref (b0 + x0)), (1, .int x1), (2, .int x2), (3, .int x3)] [] h (zloop (lX10_overlap_4 x0 x1 x2) n (x3, h)) :=
  zloop_Zr (fun s => [(0, .ref (b0 + x0)), (1, .int x1), (2, .int x2), (3, .int s.1)]) (fun _ => []) (fun s => s.2) (lX10_overlap_4 x0 x1 x2) (fun self hs s => KX10_overlap_4 b0 x0 x1 x2 self (fun y3 hh => hs (y3, hh)) s.1 s.2) n (x3, h)
def fX10_overlap (x0 : Nat) (x1 : Int32) (x2 : Int32) (h : ZH) : Option (Int32 × ZH) :=
  if x0 < zn h ∧ zK h x0 = 10 then (zl (x1 + (nI 1)) fun v1 =>
  zloop (lX10_overlap_4 x0 x1 x2) zfu (v1, h)) else none
theorem kX10_overlap {x0 : Nat} {x1 : Int32} {x2 : Int32} {h : ZH} {x : Int32 × ZH} (e : fX10_overlap x0 x1 x2 h = some x) : x0 < zn h ∧ zK h x0 = 10 := by
  unfold fX10_overlap at e
  exact zguard e
theorem mX10_overlap (b0 : Nat) (x0 : Nat) (x1 : Int32) (x2 : Int32) (h : ZH) : ZM zi b0 YX10_overlap 3 [.ref (b0 + x0), .int x1, .int x2] h (fX10_overlap x0 x1 x2 h) := by
  unfold fX10_overlap
  refine ZM.of (by decide) rfl (Nat.le_of_ble_eq_true rfl) (fun _ => trivial) ?_
  refine z_sub (lv2 := [(0, .ref (b0 + x0)), (1, .int x1), (2, .int x2)]) [0, 1, 2] rfl ?_
  refine z_guard (fun _ => ?_)
  refine z_iload_n 1 1 dX10_overlap_0 rfl rfl ?_
  refine z_iconst (nI 1) 2 zki_1 dX10_overlap_1 rfl ?_
  refine z_iadd 3 dX10_overlap_2 rfl ?_
  refine z_letI (fun v1 _ => ?_)
  refine z_istore_n (lv2 := [(3, .int v1), (0, .ref (b0 + x0)), (1, .int x1), (2, .int x2)]) 4 dX10_overlap_3 rfl (Nat.le_of_ble_eq_true rfl) rfl ?_
  exact z_sub [1, 2, 3, 0] rfl (BX10_overlap_4 b0 x0 x1 x2 zfu v1 h)
-- X10_trackInput
def bX10_trackInput_111 (h : ZH) : Option (ZH) :=
  some h
theorem BX10_trackInput_111 (b0 : Nat) (h : ZH) : Zr zv b0 YX10_trackInput 4 111 [] [] h (bX10_trackInput_111 h) := by
  unfold bX10_trackInput_111
  exact z_return dX10_trackInput_111 rfl
def bX10_trackInput_99 (self17 : Int32 × ZH → Option (ZH)) (self31 : Int32 × ZH → Option (ZH)) (x0 : Nat) (x1 : Nat) (x2 : Int32) (x3 : Int32) (x4 : Int32) (h : ZH) : Option (ZH) :=
  self31 ((x4 + (nI 1)), h)
theorem BX10_trackInput_99 (b0 : Nat) (self17 : Int32 × ZH → Option (ZH)) (self31 : Int32 × ZH → Option (ZH)) (x0 : Nat) (x1 : Nat) (x2 : Int32) (x3 : Int32) (x4 : Int32) (h : ZH) (hself17 : ∀ (y3 : Int32) (hh : ZH), Zr zv b0 YX10_trackInput 4 17 [(0, .ref (b0 + x0)), (1, .ref (b0 + x1)), (2, .int x2), (3, .int y3)] [] hh (self17 (y3, hh))) (hself31 : ∀ (y4 : Int32) (hh : ZH), Zr zv b0 YX10_trackInput 4 31 [(0, .ref (b0 + x0)), (1, .ref (b0 + x1)), (2, .int x2), (3, .int x3), (4, .int y4)] [] hh (self31 (y4, hh))) : Zr zv b0 YX10_trackInput 4 99 [(0, .ref (b0 + x0)), (1, .ref (b0 + x1)), (2, .int x2), (3, .int x3), (4, .int x4)] [] h (bX10_trackInput_99 self17 self31 x0 x1 x2 x3 x4 h) := by
  unfold bX10_trackInput_99
  refine z_iinc (lv2 := [(4, .int (x4 + (nI 1))), (0, .ref (b0 + x0)), (1, .ref (b0 + x1)), (2, .int x2), (3, .int x3)]) (nI 1) 102 4 dX10_trackInput_99 rfl rfl zki_1 (Nat.le_of_ble_eq_true rfl) rfl ?_
  refine z_goto 31 dX10_trackInput_102 (by decide) ?_
  exact z_sub [1, 2, 3, 4, 0] rfl (hself31 (x4 + (nI 1)) h)
def kX10_trackInput_55 (self17 : Int32 × ZH → Option (ZH)) (self31 : Int32 × ZH → Option (ZH)) (x0 : Nat) (x1 : Nat) (x2 : Int32) (x3 : Int32) (x4 : Int32) (x5 : Int32) (self55 : Int32 × ZH → Option (ZH)) (x6 : Int32) (h : ZH) : Option (ZH) :=
  if (nI 8) ≤ x6 then (bX10_trackInput_99 self17 self31 x0 x1 x2 x3 x4 h) else
  ((gR h 10 x0 15).bind fun v2 =>
  (fX1_row x1 x6 x4 h).bind fun q3 =>
  (fX10_product q3.1 (jshl (nI 1) x5) q3.2).bind fun q4 =>
  (fX8_link v2 (((nI 8) * x6) + x3) x4 q4.1 q4.2).bind fun h5 =>
  self55 ((x6 + (nI 1)), h5))
def lX10_trackInput_55 (self17 : Int32 × ZH → Option (ZH)) (self31 : Int32 × ZH → Option (ZH)) (x0 : Nat) (x1 : Nat) (x2 : Int32) (x3 : Int32) (x4 : Int32) (x5 : Int32) : (Int32 × ZH → Option (ZH)) → Int32 × ZH → Option (ZH) := fun self s => kX10_trackInput_55 self17 self31 x0 x1 x2 x3 x4 x5 self s.1 s.2
theorem KX10_trackInput_55 (b0 : Nat) (self17 : Int32 × ZH → Option (ZH)) (self31 : Int32 × ZH → Option (ZH)) (x0 : Nat) (x1 : Nat) (x2 : Int32) (x3 : Int32) (x4 : Int32) (x5 : Int32) (hself17 : ∀ (y3 : Int32) (hh : ZH), Zr zv b0 YX10_trackInput 4 17 [(0, .ref (b0 + x0)), (1, .ref (b0 + x1)), (2, .int x2), (3, .int y3)] [] hh (self17 (y3, hh))) (hself31 : ∀ (y4 : Int32) (hh : ZH), Zr zv b0 YX10_trackInput 4 31 [(0, .ref (b0 + x0)), (1, .ref (b0 + x1)), (2, .int x2), (3, .int x3), (4, .int y4)] [] hh (self31 (y4, hh))) (self55 : Int32 × ZH → Option (ZH)) (hself55 : ∀ (y6 : Int32) (hh : ZH), Zr zv b0 YX10_trackInput 4 55 [(0, .ref (b0 + x0)), (1, .ref (b0 + x1)), (2, .int x2), (3, .int x3), (4, .int x4), (5, .int x5), (6, .int y6)] [] hh (self55 (y6, hh))) (x6 : Int32) (h : ZH) : Zr zv b0 YX10_trackInput 4 55 [(0, .ref (b0 + x0)), (1, .ref (b0 + x1)), (2, .int x2), (3, .int x3), (4, .int x4), (5, .int x5), (6, .int x6)] [] h (kX10_trackInput_55 self17 self31 x0 x1 x2 x3 x4 x5 self55 x6 h) := by
  unfold kX10_trackInput_55
  refine z_iload 57 6 dX10_trackInput_55 rfl rfl ?_
  refine z_bipush (nI 8) 59 zkb_8 dX10_trackInput_57 rfl ?_
  refine z_icmp_ge 99 62 dX10_trackInput_59 (by decide) rfl (fun c1 => ?_) (fun c1 => ?_)
  · exact z_sub [0, 1, 2, 3, 4] rfl (BX10_trackInput_99 b0 self17 self31 x0 x1 x2 x3 x4 h hself17 hself31)
  · refine z_aload_n 63 0 dX10_trackInput_62 rfl rfl ?_
    refine z_getR 66 zC10 (Nat.le_of_ble_eq_true rfl) rfl w_253 dX10_trackInput_63 rfl (fun v2 _ => ?_)
    refine z_bipush (nI 8) 68 zkb_8 dX10_trackInput_66 rfl ?_
    refine z_iload 70 6 dX10_trackInput_68 rfl rfl ?_
    refine z_imul 71 dX10_trackInput_70 rfl ?_
    refine z_iload_n 72 3 dX10_trackInput_71 rfl rfl ?_
    refine z_iadd 73 dX10_trackInput_72 rfl ?_
    refine z_iload 75 4 dX10_trackInput_73 rfl rfl ?_
    refine z_aload_n 76 1 dX10_trackInput_75 rfl rfl ?_
    refine z_iload 78 6 dX10_trackInput_76 rfl rfl ?_
    refine z_iload 80 4 dX10_trackInput_78 rfl rfl ?_
    refine z_callVi 83 (mX1_row b0 x1 x6 x4 h) zyX1_row rfl w_363 (ci := 1) rfl (Nat.le_of_ble_eq_true rfl) (fun _ e9 => kX1_row e9) wm_yX1_row ws_yX1_row (Nat.le_of_ble_eq_true rfl) rfl (Nat.le_of_ble_eq_true rfl) dX10_trackInput_80 rfl (fun q3 => ?_)
    refine z_iconst (nI 1) 84 zki_1 dX10_trackInput_83 rfl ?_
    refine z_iload 86 5 dX10_trackInput_84 rfl rfl ?_
    refine z_ishl 87 dX10_trackInput_86 rfl ?_
    refine z_callSj 90 (mX10_product b0 q3.1 (jshl (nI 1) x5) q3.2) zyX10_product rfl w_878 wt_yX10_product (Nat.le_of_ble_eq_true rfl) rfl (Nat.le_of_ble_eq_true rfl) dX10_trackInput_87 rfl (fun q4 => ?_)
    refine z_callVv 93 (mX8_link b0 v2 (((nI 8) * x6) + x3) x4 q4.1 q4.2) zyX8_link rfl w_832 (ci := 8) rfl (Nat.le_of_ble_eq_true rfl) (fun _ e9 => kX8_link e9) wm_yX8_link ws_yX8_link (Nat.le_of_ble_eq_true rfl) rfl (Nat.le_of_ble_eq_true rfl) dX10_trackInput_90 rfl (fun h5 => ?_)
    refine z_iinc (lv2 := [(6, .int (x6 + (nI 1))), (0, .ref (b0 + x0)), (1, .ref (b0 + x1)), (2, .int x2), (3, .int x3), (4, .int x4), (5, .int x5)]) (nI 1) 96 6 dX10_trackInput_93 rfl rfl zki_1 (Nat.le_of_ble_eq_true rfl) rfl ?_
    refine z_goto 55 dX10_trackInput_96 (by decide) ?_
    exact z_sub [1, 2, 3, 4, 5, 6, 0] rfl (hself55 (x6 + (nI 1)) h5)
theorem BX10_trackInput_55 (b0 : Nat) (self17 : Int32 × ZH → Option (ZH)) (self31 : Int32 × ZH → Option (ZH)) (x0 : Nat) (x1 : Nat) (x2 : Int32) (x3 : Int32) (x4 : Int32) (x5 : Int32) (hself17 : ∀ (y3 : Int32) (hh : ZH), Zr zv b0 YX10_trackInput 4 17 [(0, .ref (b0 + x0)), (1, .ref (b0 + x1)), (2, .int x2), (3, .int y3)] [] hh (self17 (y3, hh))) (hself31 : ∀ (y4 : Int32) (hh : ZH), Zr zv b0 YX10_trackInput 4 31 [(0, .ref (b0 + x0)), (1, .ref (b0 + x1)), (2, .int x2), (3, .int x3), (4, .int y4)] [] hh (self31 (y4, hh))) (n : Nat) (x6 : Int32) (h : ZH) : Zr zv b0 YX10_trackInput 4 55 [(0, .ref (b0 + x0)), (1, .ref (b0 + x1)), (2, .int x2), (3, .int x3), (4, .int x4), (5, .int x5), (6, .int x6)] [] h (zloop (lX10_trackInput_55 self17 self31 x0 x1 x2 x3 x4 x5) n (x6, h)) :=
  zloop_Zr (fun s => [(0, .ref (b0 + x0)), (1, .ref (b0 + x1)), (2, .int x2), (3, .int x3), (4, .int x4), (5, .int x5), (6, .int s.1)]) (fun _ => []) (fun s => s.2) (lX10_trackInput_55 self17 self31 x0 x1 x2 x3 x4 x5) (fun self hs s => KX10_trackInput_55 b0 self17 self31 x0 x1 x2 x3 x4 x5 hself17 hself31 self (fun y6 hh => hs (y6, hh)) s.1 s.2) n (x6, h)
def kX10_trackInput_31 (self17 : Int32 × ZH → Option (ZH)) (x0 : Nat) (x1 : Nat) (x2 : Int32) (x3 : Int32) (self31 : Int32 × ZH → Option (ZH)) (x4 : Int32) (h : ZH) : Option (ZH) :=
  if (nI 4) ≤ x4 then (self17 ((x3 + (nI 1)), h)) else
  ((fX10_overlap x0 x3 x4 h).bind fun q2 =>
  if x2 ≤ q2.1 then (bX10_trackInput_99 self17 self31 x0 x1 x2 x3 x4 q2.2) else
  (zloop (lX10_trackInput_55 self17 self31 x0 x1 x2 x3 x4 q2.1) zfu ((nI 0), q2.2)))
def lX10_trackInput_31 (self17 : Int32 × ZH → Option (ZH)) (x0 : Nat) (x1 : Nat) (x2 : Int32) (x3 : Int32) : (Int32 × ZH → Option (ZH)) → Int32 × ZH → Option (ZH) := fun self s => kX10_trackInput_31 self17 x0 x1 x2 x3 self s.1 s.2
theorem KX10_trackInput_31 (b0 : Nat) (self17 : Int32 × ZH → Option (ZH)) (x0 : Nat) (x1 : Nat) (x2 : Int32) (x3 : Int32) (hself17 : ∀ (y3 : Int32) (hh : ZH), Zr zv b0 YX10_trackInput 4 17 [(0, .ref (b0 + x0)), (1, .ref (b0 + x1)), (2, .int x2), (3, .int y3)] [] hh (self17 (y3, hh))) (self31 : Int32 × ZH → Option (ZH)) (hself31 : ∀ (y4 : Int32) (hh : ZH), Zr zv b0 YX10_trackInput 4 31 [(0, .ref (b0 + x0)), (1, .ref (b0 + x1)), (2, .int x2), (3, .int x3), (4, .int y4)] [] hh (self31 (y4, hh))) (x4 : Int32) (h : ZH) : Zr zv b0 YX10_trackInput 4 31 [(0, .ref (b0 + x0)), (1, .ref (b0 + x1)), (2, .int x2), (3, .int x3), (4, .int x4)] [] h (kX10_trackInput_31 self17 x0 x1 x2 x3 self31 x4 h) := by
  unfold kX10_trackInput_31
  refine z_iload 33 4 dX10_trackInput_31 rfl rfl ?_
  refine z_iconst (nI 4) 34 zki_4 dX10_trackInput_33 rfl ?_
  refine z_icmp_ge 105 37 dX10_trackInput_34 (by decide) rfl (fun c1 => ?_) (fun c1 => ?_)
  · refine z_iinc (lv2 := [(3, .int (x3 + (nI 1))), (0, .ref (b0 + x0)), (1, .ref (b0 + x1)), (2, .int x2), (4, .int x4)]) (nI 1) 108 3 dX10_trackInput_105 rfl rfl zki_1 (Nat.le_of_ble_eq_true rfl) rfl ?_
    refine z_goto 17 dX10_trackInput_108 (by decide) ?_
    exact z_sub [1, 2, 3, 0] rfl (hself17 (x3 + (nI 1)) h)
  · refine z_aload_n 38 0 dX10_trackInput_37 rfl rfl ?_
    refine z_iload_n 39 3 dX10_trackInput_38 rfl rfl ?_
    refine z_iload 41 4 dX10_trackInput_39 rfl rfl ?_
    refine z_callVi 44 (mX10_overlap b0 x0 x3 x4 h) zyX10_overlap rfl w_898 (ci := 10) rfl (Nat.le_of_ble_eq_true rfl) (fun _ e9 => kX10_overlap e9) wm_yX10_overlap ws_yX10_overlap (Nat.le_of_ble_eq_true rfl) rfl (Nat.le_of_ble_eq_true rfl) dX10_trackInput_41 rfl (fun q2 => ?_)
    refine z_istore (lv2 := [(5, .int q2.1), (0, .ref (b0 + x0)), (1, .ref (b0 + x1)), (2, .int x2), (3, .int x3), (4, .int x4)]) 46 dX10_trackInput_44 rfl (Nat.le_of_ble_eq_true rfl) rfl ?_
    refine z_iload 48 0 dX10_trackInput_46 rfl rfl ?_
    refine z_iload_n 49 3 dX10_trackInput_48 rfl rfl ?_
    refine z_icmp_ge 99 52 dX10_trackInput_49 (by decide) rfl (fun c3 => ?_) (fun c3 => ?_)
    · exact z_sub [1, 2, 3, 4, 5] rfl (BX10_trackInput_99 b0 self17 self31 x0 x1 x2 x3 x4 q2.2 hself17 hself31)
    · refine z_iconst (nI 0) 53 zki_0 dX10_trackInput_52 rfl ?_
      refine z_istore (lv2 := [(6, .int (nI 0)), (5, .int q2.1), (0, .ref (b0 + x0)), (1, .ref (b0 + x1)), (2, .int x2), (3, .int x3), (4, .int x4)]) 55 dX10_trackInput_53 rfl (Nat.le_of_ble_eq_true rfl) rfl ?_
      exact z_sub [2, 3, 4, 5, 6, 1, 0] rfl (BX10_trackInput_55 b0 self17 self31 x0 x1 x2 x3 x4 q2.1 hself17 hself31 zfu (nI 0) q2.2)
theorem BX10_trackInput_31 (b0 : Nat) (self17 : Int32 × ZH → Option (ZH)) (x0 : Nat) (x1 : Nat) (x2 : Int32) (x3 : Int32) (hself17 : ∀ (y3 : Int32) (hh : ZH), Zr zv b0 YX10_trackInput 4 17 [(0, .ref (b0 + x0)), (1, .ref (b0 + x1)), (2, .int x2), (3, .int y3)] [] hh (self17 (y3, hh))) (n : Nat) (x4 : Int32) (h : ZH) : Zr zv b0 YX10_trackInput 4 31 [(0, .ref (b0 + x0)), (1, .ref (b0 + x1)), (2, .int x2), (3, .int x3), (4, .int x4)] [] h (zloop (lX10_trackInput_31 self17 x0 x1 x2 x3) n (x4, h)) :=
  zloop_Zr (fun s => [(0, .ref (b0 + x0)), (1, .ref (b0 + x1)), (2, .int x2), (3, .int x3), (4, .int s.1)]) (fun _ => []) (fun s => s.2) (lX10_trackInput_31 self17 x0 x1 x2 x3) (fun self hs s => KX10_trackInput_31 b0 self17 x0 x1 x2 x3 hself17 self (fun y4 hh => hs (y4, hh)) s.1 s.2) n (x4, h)
def kX10_trackInput_17 (x0 : Nat) (x1 : Nat) (x2 : Int32) (self17 : Int32 × ZH → Option (ZH)) (x3 : Int32) (h : ZH) : Option (ZH) :=
  if x2 ≤ x3 then (bX10_trackInput_111 h) else
  (if (nI 6) ≤ x3 then (bX10_trackInput_111 h) else
  (zloop (lX10_trackInput_31 self17 x0 x1 x2 x3) zfu ((nI 0), h)))
def lX10_trackInput_17 (x0 : Nat) (x1 : Nat) (x2 : Int32) : (Int32 × ZH → Option (ZH)) → Int32 × ZH → Option (ZH) := fun self s => kX10_trackInput_17 x0 x1 x2 self s.1 s.2
theorem KX10_trackInput_17 (b0 : Nat) (x0 : Nat) (x1 : Nat) (x2 : Int32) (self17 : Int32 × ZH → Option (ZH)) (hself17 : ∀ (y3 : Int32) (hh : ZH), Zr zv b0 YX10_trackInput 4 17 [(0, .ref (b0 + x0)), (1, .ref (b0 + x1)), (2, .int x2), (3, .int y3)] [] hh (self17 (y3, hh))) (x3 : Int32) (h : ZH) : Zr zv b0 YX10_trackInput 4 17 [(0, .ref (b0 + x0)), (1, .ref (b0 + x1)), (2, .int x2), (3, .int x3)] [] h (kX10_trackInput_17 x0 x1 x2 self17 x3 h) := by
  unfold kX10_trackInput_17
  refine z_iload_n 18 3 dX10_trackInput_17 rfl rfl ?_
  refine z_iload_n 19 2 dX10_trackInput_18 rfl rfl ?_
  refine z_icmp_ge 111 22 dX10_trackInput_19 (by decide) rfl (fun c1 => ?_) (fun c1 => ?_)
  · exact z_sub [] rfl (BX10_trackInput_111 b0 h )
  · refine z_iload_n 23 3 dX10_trackInput_22 rfl rfl ?_
    refine z_bipush (nI 6) 25 zkb_6 dX10_trackInput_23 rfl ?_
    refine z_icmp_ge 111 28 dX10_trackInput_25 (by decide) rfl (fun c2 => ?_) (fun c2 => ?_)
    · exact z_sub [] rfl (BX10_trackInput_111 b0 h )
    · refine z_iconst (nI 0) 29 zki_0 dX10_trackInput_28 rfl ?_
      refine z_istore (lv2 := [(4, .int (nI 0)), (0, .ref (b0 + x0)), (1, .ref (b0 + x1)), (2, .int x2), (3, .int x3)]) 31 dX10_trackInput_29 rfl (Nat.le_of_ble_eq_true rfl) rfl ?_
      exact z_sub [1, 2, 3, 4, 0] rfl (BX10_trackInput_31 b0 self17 x0 x1 x2 x3 hself17 zfu (nI 0) h)
theorem BX10_trackInput_17 (b0 : Nat) (x0 : Nat) (x1 : Nat) (x2 : Int32) (n : Nat) (x3 : Int32) (h : ZH) : Zr zv b0 YX10_trackInput 4 17 [(0, .ref (b0 + x0)), (1, .ref (b0 + x1)), (2, .int x2), (3, .int x3)] [] h (zloop (lX10_trackInput_17 x0 x1 x2) n (x3, h)) :=
  zloop_Zr (fun s => [(0, .ref (b0 + x0)), (1, .ref (b0 + x1)), (2, .int x2), (3, .int s.1)]) (fun _ => []) (fun s => s.2) (lX10_trackInput_17 x0 x1 x2) (fun self hs s => KX10_trackInput_17 b0 x0 x1 x2 self (fun y3 hh => hs (y3, hh)) s.1 s.2) n (x3, h)
def fX10_trackInput (x0 : Nat) (x1 : Nat) (h : ZH) : Option (ZH) :=
  if x0 < zn h ∧ zK h x0 = 10 then ((gR h 10 x0 15).bind fun v1 =>
  (fX8_clear v1 h).bind fun h2 =>
  (gR h2 10 x0 4).bind fun v3 =>
  (fX7_length v3 h2).bind fun q4 =>
  zloop (lX10_trackInput_17 x0 x1 q4.1) zfu ((nI 0), q4.2)) else none
theorem kX10_trackInput {x0 : Nat} {x1 : Nat} {h : ZH} {x : ZH} (e : fX10_trackInput x0 x1 h = some x) : x0 < zn h ∧ zK h x0 = 10 := by
  unfold fX10_trackInput at e
  exact zguard e
theorem mX10_trackInput (b0 : Nat) (x0 : Nat) (x1 : Nat) (h : ZH) : ZM zv b0 YX10_trackInput 4 [.ref (b0 + x0), .ref (b0 + x1)] h (fX10_trackInput x0 x1 h) := by
  unfold fX10_trackInput
  refine ZM.of (by decide) rfl (Nat.le_of_ble_eq_true rfl) (fun _ => trivial) ?_
  refine z_sub (lv2 := [(0, .ref (b0 + x0)), (1, .ref (b0 + x1))]) [0, 1] rfl ?_
  refine z_guard (fun _ => ?_)
  refine z_aload_n 1 0 dX10_trackInput_0 rfl rfl ?_
  refine z_getR 4 zC10 (Nat.le_of_ble_eq_true rfl) rfl w_253 dX10_trackInput_1 rfl (fun v1 _ => ?_)
  refine z_callVv 7 (mX8_clear b0 v1 h) zyX8_clear rfl w_827 (ci := 8) rfl (Nat.le_of_ble_eq_true rfl) (fun _ e9 => kX8_clear e9) wm_yX8_clear ws_yX8_clear (Nat.le_of_ble_eq_true rfl) rfl (Nat.le_of_ble_eq_true rfl) dX10_trackInput_4 rfl (fun h2 => ?_)
  refine z_aload_n 8 0 dX10_trackInput_7 rfl rfl ?_
  refine z_getR 11 zC10 (Nat.le_of_ble_eq_true rfl) rfl w_242 dX10_trackInput_8 rfl (fun v3 _ => ?_)
  refine z_callVi 14 (mX7_length b0 v3 h2) zyX7_length rfl w_377 (ci := 7) rfl (Nat.le_of_ble_eq_true rfl) (fun _ e9 => kX7_length e9) wm_yX7_length ws_yX7_length (Nat.le_of_ble_eq_true rfl) rfl (Nat.le_of_ble_eq_true rfl) dX10_trackInput_11 rfl (fun q4 => ?_)
  refine z_istore_n (lv2 := [(2, .int q4.1), (0, .ref (b0 + x0)), (1, .ref (b0 + x1))]) 15 dX10_trackInput_14 rfl (Nat.le_of_ble_eq_true rfl) rfl ?_
  refine z_iconst (nI 0) 16 zki_0 dX10_trackInput_15 rfl ?_
  refine z_istore_n (lv2 := [(3, .int (nI 0)), (2, .int q4.1), (0, .ref (b0 + x0)), (1, .ref (b0 + x1))]) 17 dX10_trackInput_16 rfl (Nat.le_of_ble_eq_true rfl) rfl ?_
  exact z_sub [2, 3, 1, 0] rfl (BX10_trackInput_17 b0 x0 x1 q4.1 zfu (nI 0) q4.2)
-- X10_forbid
def bX10_forbid_99 (t0 : Int32) (h : ZH) : Option (Int32 × ZH) :=
  some (t0, h)
theorem BX10_forbid_99 (b0 : Nat) (t0 : Int32) (h : ZH) : Zr zi b0 YX10_forbid 7 99 [] [.int t0] h (bX10_forbid_99 t0 h) := by
  unfold bX10_forbid_99
  exact z_ireturn dX10_forbid_99 rfl
def bX10_forbid_68 (x0 : Nat) (x2 : Int32) (x3 : Int32) (x5 : Int32) (h : ZH) : Option (Int32 × ZH) :=
  (gR h 10 x0 4).bind fun v1 =>
  (fX7_clear v1 h).bind fun h2 =>
  if x3 < 0 then (if x5 = 0 then (bX10_forbid_99 (-2 : Int32) h2) else
  ((fX10_storeWide x0 x2 h2).bind fun q5 =>
  bX10_forbid_99 q5.1 q5.2)) else
  (some (((-100 : Int32) - x3), h2))
theorem BX10_forbid_68 (b0 : Nat) (x0 : Nat) (x2 : Int32) (x3 : Int32) (x5 : Int32) (h : ZH) : Zr zi b0 YX10_forbid 7 68 [(0, .ref (b0 + x0)), (2, .int x2), (3, .int x3), (5, .int x5)] [] h (bX10_forbid_68 x0 x2 x3 x5 h) := by
  unfold bX10_forbid_68
  refine z_aload_n 69 0 dX10_forbid_68 rfl rfl ?_
  refine z_getR 72 zC10 (Nat.le_of_ble_eq_true rfl) rfl w_242 dX10_forbid_69 rfl (fun v1 _ => ?_)
  refine z_callVv 75 (mX7_clear b0 v1 h) zyX7_clear rfl w_403 (ci := 7) rfl (Nat.le_of_ble_eq_true rfl) (fun _ e9 => kX7_clear e9) wm_yX7_clear ws_yX7_clear (Nat.le_of_ble_eq_true rfl) rfl (Nat.le_of_ble_eq_true rfl) dX10_forbid_72 rfl (fun h2 => ?_)
  refine z_iload_n 76 2 dX10_forbid_75 rfl rfl ?_
  refine z_if_lt 84 79 dX10_forbid_76 (by decide) rfl (fun c3 => ?_) (fun c3 => ?_)
  · refine z_iload 86 3 dX10_forbid_84 rfl rfl ?_
    refine z_if_eq 97 89 dX10_forbid_86 (by decide) rfl (fun c4 => ?_) (fun c4 => ?_)
    · refine z_bipush (-2 : Int32) 99 zkb_m2 dX10_forbid_97 rfl ?_
      exact z_sub [] rfl (BX10_forbid_99 b0 (-2 : Int32) h2 )
    · refine z_aload_n 90 0 dX10_forbid_89 rfl rfl ?_
      refine z_iload_n 91 1 dX10_forbid_90 rfl rfl ?_
      refine z_callVi 94 (mX10_storeWide b0 x0 x2 h2) zyX10_storeWide rfl w_837 (ci := 10) rfl (Nat.le_of_ble_eq_true rfl) (fun _ e9 => kX10_storeWide e9) wm_yX10_storeWide ws_yX10_storeWide (Nat.le_of_ble_eq_true rfl) rfl (Nat.le_of_ble_eq_true rfl) dX10_forbid_91 rfl (fun q5 => ?_)
      refine z_goto 99 dX10_forbid_94 (by decide) ?_
      exact z_sub [] rfl (BX10_forbid_99 b0 q5.1 q5.2 )
  · refine z_bipush (-100 : Int32) 81 zkb_m100 dX10_forbid_79 rfl ?_
    refine z_iload_n 82 2 dX10_forbid_81 rfl rfl ?_
    refine z_isub 83 dX10_forbid_82 rfl ?_
    exact z_ireturn dX10_forbid_83 rfl
def bX10_forbid_51 (x0 : Nat) (x1 : Int32) (x2 : Int32) (x3 : Int32) (t0 : Int32) (h : ZH) : Option (Int32 × ZH) :=
  if t0 = 0 then (bX10_forbid_68 x0 x2 x3 t0 h) else
  ((gR h 10 x0 0).bind fun v2 =>
  (lR h 17 v2 x1).bind fun v3 =>
  (fX10_trackInput x0 v3 h).bind fun h4 =>
  bX10_forbid_68 x0 x2 x3 t0 h4)
theorem BX10_forbid_51 (b0 : Nat) (x0 : Nat) (x1 : Int32) (x2 : Int32) (x3 : Int32) (t0 : Int32) (h : ZH) : Zr zi b0 YX10_forbid 7 51 [(0, .ref (b0 + x0)), (1, .int x1), (2, .int x2), (3, .int x3)] [.int t0] h (bX10_forbid_51 x0 x1 x2 x3 t0 h) := by
  unfold bX10_forbid_51
  refine z_istore (lv2 := [(5, .int t0), (0, .ref (b0 + x0)), (1, .int x1), (2, .int x2), (3, .int x3)]) 53 dX10_forbid_51 rfl (Nat.le_of_ble_eq_true rfl) rfl ?_
  refine z_iload 55 0 dX10_forbid_53 rfl rfl ?_
  refine z_if_eq 68 58 dX10_forbid_55 (by decide) rfl (fun c1 => ?_) (fun c1 => ?_)
  · exact z_sub [1, 3, 4, 0] rfl (BX10_forbid_68 b0 x0 x2 x3 t0 h )
  · refine z_aload_n 59 1 dX10_forbid_58 rfl rfl ?_
    refine z_aload_n 60 1 dX10_forbid_59 rfl rfl ?_
    refine z_getR 63 zC10 (Nat.le_of_ble_eq_true rfl) rfl w_238 dX10_forbid_60 rfl (fun v2 _ => ?_)
    refine z_iload_n 64 2 dX10_forbid_63 rfl rfl ?_
    refine z_aaload17 65 dX10_forbid_64 rfl (fun v3 _ => ?_)
    refine z_callVv 68 (mX10_trackInput b0 x0 v3 h) zyX10_trackInput rfl w_894 (ci := 10) rfl (Nat.le_of_ble_eq_true rfl) (fun _ e9 => kX10_trackInput e9) wm_yX10_trackInput ws_yX10_trackInput (Nat.le_of_ble_eq_true rfl) rfl (Nat.le_of_ble_eq_true rfl) dX10_forbid_65 rfl (fun h4 => ?_)
    exact z_sub [1, 3, 4, 0] rfl (BX10_forbid_68 b0 x0 x2 x3 t0 h4 )
def bX10_forbid_50 (x0 : Nat) (x1 : Int32) (x2 : Int32) (x3 : Int32) (h : ZH) : Option (Int32 × ZH) :=
  bX10_forbid_51 x0 x1 x2 x3 (nI 0) h
theorem BX10_forbid_50 (b0 : Nat) (x0 : Nat) (x1 : Int32) (x2 : Int32) (x3 : Int32) (h : ZH) : Zr zi b0 YX10_forbid 7 50 [(0, .ref (b0 + x0)), (1, .int x1), (2, .int x2), (3, .int x3)] [] h (bX10_forbid_50 x0 x1 x2 x3 h) := by
  unfold bX10_forbid_50
  refine z_iconst (nI 0) 51 zki_0 dX10_forbid_50 rfl ?_
  exact z_sub [0, 1, 2, 3] rfl (BX10_forbid_51 b0 x0 x1 x2 x3 (nI 0) h )
def bX10_forbid_14 (h : ZH) : Option (Int32 × ZH) :=
  some ((-2 : Int32), h)
theorem BX10_forbid_14 (b0 : Nat) (h : ZH) : Zr zi b0 YX10_forbid 7 14 [] [] h (bX10_forbid_14 h) := by
  unfold bX10_forbid_14
  refine z_bipush (-2 : Int32) 16 zkb_m2 dX10_forbid_14 rfl ?_
  exact z_ireturn dX10_forbid_16 rfl
def fX10_forbid (x0 : Nat) (x1 : Int32) (x2 : Int32) (h : ZH) : Option (Int32 × ZH) :=
  if x0 < zn h ∧ zK h x0 = 10 then ((fX10_isSlot x1 h).bind fun q1 =>
  if q1.1 = 0 then (bX10_forbid_14 q1.2) else
  ((fX10_isSlot x2 q1.2).bind fun q3 =>
  if q3.1 = 0 then (bX10_forbid_14 q3.2) else
  ((fX10_wordFault x0 q3.2).bind fun q5 =>
  (gR q5.2 10 x0 4).bind fun v6 =>
  (fX7_length v6 q5.2).bind fun q7 =>
  if 0 ≤ q5.1 then (bX10_forbid_50 x0 x1 x2 q5.1 q7.2) else
  ((fX10_isWithin q7.1 (nI 1) (nI 6) q7.2).bind fun q9 =>
  if q9.1 = 0 then (bX10_forbid_50 x0 x1 x2 q5.1 q9.2) else
  (bX10_forbid_51 x0 x1 x2 q5.1 (nI 1) q9.2))))) else none
theorem kX10_forbid {x0 : Nat} {x1 : Int32} {x2 : Int32} {h : ZH} {x : Int32 × ZH} (e : fX10_forbid x0 x1 x2 h = some x) : x0 < zn h ∧ zK h x0 = 10 := by
  unfold fX10_forbid at e
  exact zguard e
theorem mX10_forbid (b0 : Nat) (x0 : Nat) (x1 : Int32) (x2 : Int32) (h : ZH) : ZM zi b0 YX10_forbid 7 [.ref (b0 + x0), .int x1, .int x2] h (fX10_forbid x0 x1 x2 h) := by
  unfold fX10_forbid
  refine ZM.of (by decide) rfl (Nat.le_of_ble_eq_true rfl) (fun _ => trivial) ?_
  refine z_sub (lv2 := [(0, .ref (b0 + x0)), (1, .int x1), (2, .int x2)]) [0, 1, 2] rfl ?_
  refine z_guard (fun _ => ?_)
  refine z_iload_n 1 1 dX10_forbid_0 rfl rfl ?_
  refine z_callSi 4 (mX10_isSlot b0 x1 h) zyX10_isSlot rfl w_297 wt_yX10_isSlot (Nat.le_of_ble_eq_true rfl) rfl (Nat.le_of_ble_eq_true rfl) dX10_forbid_1 rfl (fun q1 => ?_)
  refine z_if_eq 14 7 dX10_forbid_4 (by decide) rfl (fun c2 => ?_) (fun c2 => ?_)
  · exact z_sub [] rfl (BX10_forbid_14 b0 q1.2 )
  · refine z_iload_n 8 2 dX10_forbid_7 rfl rfl ?_
    refine z_callSi 11 (mX10_isSlot b0 x2 q1.2) zyX10_isSlot rfl w_297 wt_yX10_isSlot (Nat.le_of_ble_eq_true rfl) rfl (Nat.le_of_ble_eq_true rfl) dX10_forbid_8 rfl (fun q3 => ?_)
    refine z_if_ne 17 14 dX10_forbid_11 (by decide) rfl (fun c4 => ?_) (fun c4 => ?_)
    · refine z_aload_n 18 0 dX10_forbid_17 rfl rfl ?_
      refine z_callVi 21 (mX10_wordFault b0 x0 q3.2) zyX10_wordFault rfl w_524 (ci := 10) rfl (Nat.le_of_ble_eq_true rfl) (fun _ e9 => kX10_wordFault e9) wm_yX10_wordFault ws_yX10_wordFault (Nat.le_of_ble_eq_true rfl) rfl (Nat.le_of_ble_eq_true rfl) dX10_forbid_18 rfl (fun q5 => ?_)
      refine z_istore_n (lv2 := [(3, .int q5.1), (0, .ref (b0 + x0)), (1, .int x1), (2, .int x2)]) 22 dX10_forbid_21 rfl (Nat.le_of_ble_eq_true rfl) rfl ?_
      refine z_aload_n 23 1 dX10_forbid_22 rfl rfl ?_
      refine z_getR 26 zC10 (Nat.le_of_ble_eq_true rfl) rfl w_242 dX10_forbid_23 rfl (fun v6 _ => ?_)
      refine z_callVi 29 (mX7_length b0 v6 q5.2) zyX7_length rfl w_377 (ci := 7) rfl (Nat.le_of_ble_eq_true rfl) (fun _ e9 => kX7_length e9) wm_yX7_length ws_yX7_length (Nat.le_of_ble_eq_true rfl) rfl (Nat.le_of_ble_eq_true rfl) dX10_forbid_26 rfl (fun q7 => ?_)
      refine z_istore (lv2 := [(4, .int q7.1), (3, .int q5.1), (0, .ref (b0 + x0)), (1, .int x1), (2, .int x2)]) 31 dX10_forbid_29 rfl (Nat.le_of_ble_eq_true rfl) rfl ?_
      refine z_iload_n 32 1 dX10_forbid_31 rfl rfl ?_
      refine z_if_ge 50 35 dX10_forbid_32 (by decide) rfl (fun c8 => ?_) (fun c8 => ?_)
      · exact z_sub [2, 3, 4, 1] rfl (BX10_forbid_50 b0 x0 x1 x2 q5.1 q7.2 )
      · refine z_iload 37 0 dX10_forbid_35 rfl rfl ?_
        refine z_iconst (nI 1) 38 zki_1 dX10_forbid_37 rfl ?_
        refine z_bipush (nI 6) 40 zkb_6 dX10_forbid_38 rfl ?_
        refine z_callSi 43 (mX10_isWithin b0 q7.1 (nI 1) (nI 6) q7.2) zyX10_isWithin rfl w_372 wt_yX10_isWithin (Nat.le_of_ble_eq_true rfl) rfl (Nat.le_of_ble_eq_true rfl) dX10_forbid_40 rfl (fun q9 => ?_)
        refine z_if_eq 50 46 dX10_forbid_43 (by decide) rfl (fun c10 => ?_) (fun c10 => ?_)
        · exact z_sub [2, 3, 4, 1] rfl (BX10_forbid_50 b0 x0 x1 x2 q5.1 q9.2 )
        · refine z_iconst (nI 1) 47 zki_1 dX10_forbid_46 rfl ?_
          refine z_goto 51 dX10_forbid_47 (by decide) ?_
          exact z_sub [2, 3, 4, 1] rfl (BX10_forbid_51 b0 x0 x1 x2 q5.1 (nI 1) q9.2 )
    · exact z_sub [] rfl (BX10_forbid_14 b0 q3.2 )
-- X10_writeEdge
def bX10_writeEdge_20 (x0 : Nat) (x1 : Int32) (x2 : Int32) (x3 : Int32) (h : ZH) : Option (ZH) :=
  (gR h 10 x0 5).bind fun v1 =>
  (fX7_add v1 ((nI 48) + x1) h).bind fun q2 =>
  (gR q2.2 10 x0 5).bind fun v3 =>
  (fX7_addLetter v3 x2 q2.2).bind fun h4 =>
  (gR h4 10 x0 5).bind fun v5 =>
  (fX7_add v5 ((nI 48) + x3) h4).bind fun q6 =>
  some q6.2
theorem BX10_writeEdge_20 (b0 : Nat) (x0 : Nat) (x1 : Int32) (x2 : Int32) (x3 : Int32) (h : ZH) : Zr zv b0 YX10_writeEdge 3 20 [(0, .ref (b0 + x0)), (1, .int x1), (2, .int x2), (3, .int x3)] [] h (bX10_writeEdge_20 x0 x1 x2 x3 h) := by
  unfold bX10_writeEdge_20
  refine z_aload_n 21 0 dX10_writeEdge_20 rfl rfl ?_
  refine z_getR 24 zC10 (Nat.le_of_ble_eq_true rfl) rfl w_243 dX10_writeEdge_21 rfl (fun v1 _ => ?_)
  refine z_bipush (nI 48) 26 zkb_48 dX10_writeEdge_24 rfl ?_
  refine z_iload_n 27 1 dX10_writeEdge_26 rfl rfl ?_
  refine z_iadd 28 dX10_writeEdge_27 rfl ?_
  refine z_callVi 31 (mX7_add b0 v1 ((nI 48) + x1) h) zyX7_add rfl w_373 (ci := 7) rfl (Nat.le_of_ble_eq_true rfl) (fun _ e9 => kX7_add e9) wm_yX7_add ws_yX7_add (Nat.le_of_ble_eq_true rfl) rfl (Nat.le_of_ble_eq_true rfl) dX10_writeEdge_28 rfl (fun q2 => ?_)
  refine z_pop 32 rfl dX10_writeEdge_31 rfl ?_
  refine z_aload_n 33 0 dX10_writeEdge_32 rfl rfl ?_
  refine z_getR 36 zC10 (Nat.le_of_ble_eq_true rfl) rfl w_243 dX10_writeEdge_33 rfl (fun v3 _ => ?_)
  refine z_iload_n 37 2 dX10_writeEdge_36 rfl rfl ?_
  refine z_callVv 40 (mX7_addLetter b0 v3 x2 q2.2) zyX7_addLetter rfl w_914 (ci := 7) rfl (Nat.le_of_ble_eq_true rfl) (fun _ e9 => kX7_addLetter e9) wm_yX7_addLetter ws_yX7_addLetter (Nat.le_of_ble_eq_true rfl) rfl (Nat.le_of_ble_eq_true rfl) dX10_writeEdge_37 rfl (fun h4 => ?_)
  refine z_aload_n 41 0 dX10_writeEdge_40 rfl rfl ?_
  refine z_getR 44 zC10 (Nat.le_of_ble_eq_true rfl) rfl w_243 dX10_writeEdge_41 rfl (fun v5 _ => ?_)
  refine z_bipush (nI 48) 46 zkb_48 dX10_writeEdge_44 rfl ?_
  refine z_iload_n 47 3 dX10_writeEdge_46 rfl rfl ?_
  refine z_iadd 48 dX10_writeEdge_47 rfl ?_
  refine z_callVi 51 (mX7_add b0 v5 ((nI 48) + x3) h4) zyX7_add rfl w_373 (ci := 7) rfl (Nat.le_of_ble_eq_true rfl) (fun _ e9 => kX7_add e9) wm_yX7_add ws_yX7_add (Nat.le_of_ble_eq_true rfl) rfl (Nat.le_of_ble_eq_true rfl) dX10_writeEdge_48 rfl (fun q6 => ?_)
  refine z_pop 52 rfl dX10_writeEdge_51 rfl ?_
  exact z_return dX10_writeEdge_52 rfl
def fX10_writeEdge (x0 : Nat) (x1 : Int32) (x2 : Int32) (x3 : Int32) (h : ZH) : Option (ZH) :=
  if x0 < zn h ∧ zK h x0 = 10 then ((gR h 10 x0 5).bind fun v1 =>
  (fX7_length v1 h).bind fun q2 =>
  if q2.1 ≤ 0 then (bX10_writeEdge_20 x0 x1 x2 x3 q2.2) else
  ((gR q2.2 10 x0 5).bind fun v4 =>
  (fX7_add v4 (nI 59) q2.2).bind fun q5 =>
  bX10_writeEdge_20 x0 x1 x2 x3 q5.2)) else none
theorem kX10_writeEdge {x0 : Nat} {x1 : Int32} {x2 : Int32} {x3 : Int32} {h : ZH} {x : ZH} (e : fX10_writeEdge x0 x1 x2 x3 h = some x) : x0 < zn h ∧ zK h x0 = 10 := by
  unfold fX10_writeEdge at e
  exact zguard e
theorem mX10_writeEdge (b0 : Nat) (x0 : Nat) (x1 : Int32) (x2 : Int32) (x3 : Int32) (h : ZH) : ZM zv b0 YX10_writeEdge 3 [.ref (b0 + x0), .int x1, .int x2, .int x3] h (fX10_writeEdge x0 x1 x2 x3 h) := by
  unfold fX10_writeEdge
  refine ZM.of (by decide) rfl (Nat.le_of_ble_eq_true rfl) (fun _ => trivial) ?_
  refine z_sub (lv2 := [(0, .ref (b0 + x0)), (1, .int x1), (2, .int x2), (3, .int x3)]) [0, 1, 2, 3] rfl ?_
  refine z_guard (fun _ => ?_)
  refine z_aload_n 1 0 dX10_writeEdge_0 rfl rfl ?_
  refine z_getR 4 zC10 (Nat.le_of_ble_eq_true rfl) rfl w_243 dX10_writeEdge_1 rfl (fun v1 _ => ?_)
  refine z_callVi 7 (mX7_length b0 v1 h) zyX7_length rfl w_377 (ci := 7) rfl (Nat.le_of_ble_eq_true rfl) (fun _ e9 => kX7_length e9) wm_yX7_length ws_yX7_length (Nat.le_of_ble_eq_true rfl) rfl (Nat.le_of_ble_eq_true rfl) dX10_writeEdge_4 rfl (fun q2 => ?_)
  refine z_if_le 20 10 dX10_writeEdge_7 (by decide) rfl (fun c3 => ?_) (fun c3 => ?_)
  · exact z_sub [0, 1, 2, 3] rfl (BX10_writeEdge_20 b0 x0 x1 x2 x3 q2.2 )
  · refine z_aload_n 11 0 dX10_writeEdge_10 rfl rfl ?_
    refine z_getR 14 zC10 (Nat.le_of_ble_eq_true rfl) rfl w_243 dX10_writeEdge_11 rfl (fun v4 _ => ?_)
    refine z_bipush (nI 59) 16 zkb_59 dX10_writeEdge_14 rfl ?_
    refine z_callVi 19 (mX7_add b0 v4 (nI 59) q2.2) zyX7_add rfl w_373 (ci := 7) rfl (Nat.le_of_ble_eq_true rfl) (fun _ e9 => kX7_add e9) wm_yX7_add ws_yX7_add (Nat.le_of_ble_eq_true rfl) rfl (Nat.le_of_ble_eq_true rfl) dX10_writeEdge_16 rfl (fun q5 => ?_)
    refine z_pop 20 rfl dX10_writeEdge_19 rfl ?_
    exact z_sub [0, 1, 2, 3] rfl (BX10_writeEdge_20 b0 x0 x1 x2 x3 q5.2 )
-- X10_writeGraph
def bX10_writeGraph_66 (self19 : Int32 × ZH → Option (Int32 × ZH)) (self27 : Int32 × ZH → Option (Int32 × ZH)) (self35 : Int32 × ZH → Option (Int32 × ZH)) (x0 : Nat) (x1 : Int32) (x2 : Int32) (x3 : Int32) (x4 : Int32) (h : ZH) : Option (Int32 × ZH) :=
  self35 ((x4 + (nI 1)), h)
theorem BX10_writeGraph_66 (b0 : Nat) (self19 : Int32 × ZH → Option (Int32 × ZH)) (self27 : Int32 × ZH → Option (Int32 × ZH)) (self35 : Int32 × ZH → Option (Int32 × ZH)) (x0 : Nat) (x1 : Int32) (x2 : Int32) (x3 : Int32) (x4 : Int32) (h : ZH) (hself19 : ∀ (y2 : Int32) (hh : ZH), Zr zi b0 YX10_writeGraph 4 19 [(0, .ref (b0 + x0)), (1, .int x1), (2, .int y2)] [] hh (self19 (y2, hh))) (hself27 : ∀ (y3 : Int32) (hh : ZH), Zr zi b0 YX10_writeGraph 4 27 [(0, .ref (b0 + x0)), (1, .int x1), (2, .int x2), (3, .int y3)] [] hh (self27 (y3, hh))) (hself35 : ∀ (y4 : Int32) (hh : ZH), Zr zi b0 YX10_writeGraph 4 35 [(0, .ref (b0 + x0)), (1, .int x1), (2, .int x2), (3, .int x3), (4, .int y4)] [] hh (self35 (y4, hh))) : Zr zi b0 YX10_writeGraph 4 66 [(0, .ref (b0 + x0)), (1, .int x1), (2, .int x2), (3, .int x3), (4, .int x4)] [] h (bX10_writeGraph_66 self19 self27 self35 x0 x1 x2 x3 x4 h) := by
  unfold bX10_writeGraph_66
  refine z_iinc (lv2 := [(4, .int (x4 + (nI 1))), (0, .ref (b0 + x0)), (1, .int x1), (2, .int x2), (3, .int x3)]) (nI 1) 69 4 dX10_writeGraph_66 rfl rfl zki_1 (Nat.le_of_ble_eq_true rfl) rfl ?_
  refine z_goto 35 dX10_writeGraph_69 (by decide) ?_
  exact z_sub [1, 2, 3, 4, 0] rfl (hself35 (x4 + (nI 1)) h)
def kX10_writeGraph_35 (self19 : Int32 × ZH → Option (Int32 × ZH)) (self27 : Int32 × ZH → Option (Int32 × ZH)) (x0 : Nat) (x1 : Int32) (x2 : Int32) (x3 : Int32) (self35 : Int32 × ZH → Option (Int32 × ZH)) (x4 : Int32) (h : ZH) : Option (Int32 × ZH) :=
  if (nI 8) ≤ x4 then (self27 ((x3 + (nI 1)), h)) else
  ((gR h 10 x0 0).bind fun v2 =>
  (lR h 17 v2 x1).bind fun v3 =>
  (fX1_has v3 x2 x3 x4 h).bind fun q4 =>
  if q4.1 = 0 then (bX10_writeGraph_66 self19 self27 self35 x0 x1 x2 x3 x4 q4.2) else
  ((fX10_writeEdge x0 x2 x3 x4 q4.2).bind fun h6 =>
  bX10_writeGraph_66 self19 self27 self35 x0 x1 x2 x3 x4 h6))
def lX10_writeGraph_35 (self19 : Int32 × ZH → Option (Int32 × ZH)) (self27 : Int32 × ZH → Option (Int32 × ZH)) (x0 : Nat) (x1 : Int32) (x2 : Int32) (x3 : Int32) : (Int32 × ZH → Option (Int32 × ZH)) → Int32 × ZH → Option (Int32 × ZH) := fun self s => kX10_writeGraph_35 self19 self27 x0 x1 x2 x3 self s.1 s.2
theorem KX10_writeGraph_35 (b0 : Nat) (self19 : Int32 × ZH → Option (Int32 × ZH)) (self27 : Int32 × ZH → Option (Int32 × ZH)) (x0 : Nat) (x1 : Int32) (x2 : Int32) (x3 : Int32) (hself19 : ∀ (y2 : Int32) (hh : ZH), Zr zi b0 YX10_writeGraph 4 19 [(0, .ref (b0 + x0)), (1, .int x1), (2, .int y2)] [] hh (self19 (y2, hh))) (hself27 : ∀ (y3 : Int32) (hh : ZH), Zr zi b0 YX10_writeGraph 4 27 [(0, .ref (b0 + x0)), (1, .int x1), (2, .int x2), (3, .int y3)] [] hh (self27 (y3, hh))) (self35 : Int32 × ZH → Option (Int32 × ZH)) (hself35 : ∀ (y4 : Int32) (hh : ZH), Zr zi b0 YX10_writeGraph 4 35 [(0, .ref (b0 + x0)), (1, .int x1), (2, .int x2), (3, .int x3), (4, .int y4)] [] hh (self35 (y4, hh))) (x4 : Int32) (h : ZH) : Zr zi b0 YX10_writeGraph 4 35 [(0, .ref (b0 + x0)), (1, .int x1), (2, .int x2), (3, .int x3), (4, .int x4)] [] h (kX10_writeGraph_35 self19 self27 x0 x1 x2 x3 self35 x4 h) := by
  unfold kX10_writeGraph_35
  refine z_iload 37 4 dX10_writeGraph_35 rfl rfl ?_
  refine z_bipush (nI 8) 39 zkb_8 dX10_writeGraph_37 rfl ?_
  refine z_icmp_ge 72 42 dX10_writeGraph_39 (by decide) rfl (fun c1 => ?_) (fun c1 => ?_)
  · refine z_iinc (lv2 := [(3, .int (x3 + (nI 1))), (0, .ref (b0 + x0)), (1, .int x1), (2, .int x2), (4, .int x4)]) (nI 1) 75 3 dX10_writeGraph_72 rfl rfl zki_1 (Nat.le_of_ble_eq_true rfl) rfl ?_
    refine z_goto 27 dX10_writeGraph_75 (by decide) ?_
    exact z_sub [1, 2, 3, 0] rfl (hself27 (x3 + (nI 1)) h)
  · refine z_aload_n 43 0 dX10_writeGraph_42 rfl rfl ?_
    refine z_getR 46 zC10 (Nat.le_of_ble_eq_true rfl) rfl w_238 dX10_writeGraph_43 rfl (fun v2 _ => ?_)
    refine z_iload_n 47 1 dX10_writeGraph_46 rfl rfl ?_
    refine z_aaload17 48 dX10_writeGraph_47 rfl (fun v3 _ => ?_)
    refine z_iload_n 49 2 dX10_writeGraph_48 rfl rfl ?_
    refine z_iload_n 50 3 dX10_writeGraph_49 rfl rfl ?_
    refine z_iload 52 4 dX10_writeGraph_50 rfl rfl ?_
    refine z_callVi 55 (mX1_has b0 v3 x2 x3 x4 h) zyX1_has rfl w_347 (ci := 1) rfl (Nat.le_of_ble_eq_true rfl) (fun _ e9 => kX1_has e9) wm_yX1_has ws_yX1_has (Nat.le_of_ble_eq_true rfl) rfl (Nat.le_of_ble_eq_true rfl) dX10_writeGraph_52 rfl (fun q4 => ?_)
    refine z_if_eq 66 58 dX10_writeGraph_55 (by decide) rfl (fun c5 => ?_) (fun c5 => ?_)
    · exact z_sub [0, 1, 2, 3, 4] rfl (BX10_writeGraph_66 b0 self19 self27 self35 x0 x1 x2 x3 x4 q4.2 hself19 hself27 hself35)
    · refine z_aload_n 59 0 dX10_writeGraph_58 rfl rfl ?_
      refine z_iload_n 60 2 dX10_writeGraph_59 rfl rfl ?_
      refine z_iload_n 61 3 dX10_writeGraph_60 rfl rfl ?_
      refine z_iload 63 4 dX10_writeGraph_61 rfl rfl ?_
      refine z_callVv 66 (mX10_writeEdge b0 x0 x2 x3 x4 q4.2) zyX10_writeEdge rfl w_910 (ci := 10) rfl (Nat.le_of_ble_eq_true rfl) (fun _ e9 => kX10_writeEdge e9) wm_yX10_writeEdge ws_yX10_writeEdge (Nat.le_of_ble_eq_true rfl) rfl (Nat.le_of_ble_eq_true rfl) dX10_writeGraph_63 rfl (fun h6 => ?_)
      exact z_sub [0, 1, 2, 3, 4] rfl (BX10_writeGraph_66 b0 self19 self27 self35 x0 x1 x2 x3 x4 h6 hself19 hself27 hself35)
theorem BX10_writeGraph_35 (b0 : Nat) (self19 : Int32 × ZH → Option (Int32 × ZH)) (self27 : Int32 × ZH → Option (Int32 × ZH)) (x0 : Nat) (x1 : Int32) (x2 : Int32) (x3 : Int32) (hself19 : ∀ (y2 : Int32) (hh : ZH), Zr zi b0 YX10_writeGraph 4 19 [(0, .ref (b0 + x0)), (1, .int x1), (2, .int y2)] [] hh (self19 (y2, hh))) (hself27 : ∀ (y3 : Int32) (hh : ZH), Zr zi b0 YX10_writeGraph 4 27 [(0, .ref (b0 + x0)), (1, .int x1), (2, .int x2), (3, .int y3)] [] hh (self27 (y3, hh))) (n : Nat) (x4 : Int32) (h : ZH) : Zr zi b0 YX10_writeGraph 4 35 [(0, .ref (b0 + x0)), (1, .int x1), (2, .int x2), (3, .int x3), (4, .int x4)] [] h (zloop (lX10_writeGraph_35 self19 self27 x0 x1 x2 x3) n (x4, h)) :=
  zloop_Zr (fun s => [(0, .ref (b0 + x0)), (1, .int x1), (2, .int x2), (3, .int x3), (4, .int s.1)]) (fun _ => []) (fun s => s.2) (lX10_writeGraph_35 self19 self27 x0 x1 x2 x3) (fun self hs s => KX10_writeGraph_35 b0 self19 self27 x0 x1 x2 x3 hself19 hself27 self (fun y4 hh => hs (y4, hh)) s.1 s.2) n (x4, h)
def kX10_writeGraph_27 (self19 : Int32 × ZH → Option (Int32 × ZH)) (x0 : Nat) (x1 : Int32) (x2 : Int32) (self27 : Int32 × ZH → Option (Int32 × ZH)) (x3 : Int32) (h : ZH) : Option (Int32 × ZH) :=
  if (nI 4) ≤ x3 then (self19 ((x2 + (nI 1)), h)) else
  (zloop (lX10_writeGraph_35 self19 self27 x0 x1 x2 x3) zfu ((nI 0), h))
def lX10_writeGraph_27 (self19 : Int32 × ZH → Option (Int32 × ZH)) (x0 : Nat) (x1 : Int32) (x2 : Int32) : (Int32 × ZH → Option (Int32 × ZH)) → Int32 × ZH → Option (Int32 × ZH) := fun self s => kX10_writeGraph_27 self19 x0 x1 x2 self s.1 s.2
theorem KX10_writeGraph_27 (b0 : Nat) (self19 : Int32 × ZH → Option (Int32 × ZH)) (x0 : Nat) (x1 : Int32) (x2 : Int32) (hself19 : ∀ (y2 : Int32) (hh : ZH), Zr zi b0 YX10_writeGraph 4 19 [(0, .ref (b0 + x0)), (1, .int x1), (2, .int y2)] [] hh (self19 (y2, hh))) (self27 : Int32 × ZH → Option (Int32 × ZH)) (hself27 : ∀ (y3 : Int32) (hh : ZH), Zr zi b0 YX10_writeGraph 4 27 [(0, .ref (b0 + x0)), (1, .int x1), (2, .int x2), (3, .int y3)] [] hh (self27 (y3, hh))) (x3 : Int32) (h : ZH) : Zr zi b0 YX10_writeGraph 4 27 [(0, .ref (b0 + x0)), (1, .int x1), (2, .int x2), (3, .int x3)] [] h (kX10_writeGraph_27 self19 x0 x1 x2 self27 x3 h) := by
  unfold kX10_writeGraph_27
  refine z_iload_n 28 3 dX10_writeGraph_27 rfl rfl ?_
  refine z_iconst (nI 4) 29 zki_4 dX10_writeGraph_28 rfl ?_
  refine z_icmp_ge 78 32 dX10_writeGraph_29 (by decide) rfl (fun c1 => ?_) (fun c1 => ?_)
  · refine z_iinc (lv2 := [(2, .int (x2 + (nI 1))), (0, .ref (b0 + x0)), (1, .int x1), (3, .int x3)]) (nI 1) 81 2 dX10_writeGraph_78 rfl rfl zki_1 (Nat.le_of_ble_eq_true rfl) rfl ?_
    refine z_goto 19 dX10_writeGraph_81 (by decide) ?_
    exact z_sub [1, 2, 0] rfl (hself19 (x2 + (nI 1)) h)
  · refine z_iconst (nI 0) 33 zki_0 dX10_writeGraph_32 rfl ?_
    refine z_istore (lv2 := [(4, .int (nI 0)), (0, .ref (b0 + x0)), (1, .int x1), (2, .int x2), (3, .int x3)]) 35 dX10_writeGraph_33 rfl (Nat.le_of_ble_eq_true rfl) rfl ?_
    exact z_sub [1, 2, 3, 4, 0] rfl (BX10_writeGraph_35 b0 self19 self27 x0 x1 x2 x3 hself19 hself27 zfu (nI 0) h)
theorem BX10_writeGraph_27 (b0 : Nat) (self19 : Int32 × ZH → Option (Int32 × ZH)) (x0 : Nat) (x1 : Int32) (x2 : Int32) (hself19 : ∀ (y2 : Int32) (hh : ZH), Zr zi b0 YX10_writeGraph 4 19 [(0, .ref (b0 + x0)), (1, .int x1), (2, .int y2)] [] hh (self19 (y2, hh))) (n : Nat) (x3 : Int32) (h : ZH) : Zr zi b0 YX10_writeGraph 4 27 [(0, .ref (b0 + x0)), (1, .int x1), (2, .int x2), (3, .int x3)] [] h (zloop (lX10_writeGraph_27 self19 x0 x1 x2) n (x3, h)) :=
  zloop_Zr (fun s => [(0, .ref (b0 + x0)), (1, .int x1), (2, .int x2), (3, .int s.1)]) (fun _ => []) (fun s => s.2) (lX10_writeGraph_27 self19 x0 x1 x2) (fun self hs s => KX10_writeGraph_27 b0 self19 x0 x1 x2 hself19 self (fun y3 hh => hs (y3, hh)) s.1 s.2) n (x3, h)
def kX10_writeGraph_19 (x0 : Nat) (x1 : Int32) (self19 : Int32 × ZH → Option (Int32 × ZH)) (x2 : Int32) (h : ZH) : Option (Int32 × ZH) :=
  if (nI 8) ≤ x2 then ((gR h 10 x0 5).bind fun v2 =>
  (fX7_length v2 h).bind fun q3 =>
  some (q3.1, q3.2)) else
  (zloop (lX10_writeGraph_27 self19 x0 x1 x2) zfu ((nI 0), h))
def lX10_writeGraph_19 (x0 : Nat) (x1 : Int32) : (Int32 × ZH → Option (Int32 × ZH)) → Int32 × ZH → Option (Int32 × ZH) := fun self s => kX10_writeGraph_19 x0 x1 self s.1 s.2
theorem KX10_writeGraph_19 (b0 : Nat) (x0 : Nat) (x1 : Int32) (self19 : Int32 × ZH → Option (Int32 × ZH)) (hself19 : ∀ (y2 : Int32) (hh : ZH), Zr zi b0 YX10_writeGraph 4 19 [(0, .ref (b0 + x0)), (1, .int x1), (2, .int y2)] [] hh (self19 (y2, hh))) (x2 : Int32) (h : ZH) : Zr zi b0 YX10_writeGraph 4 19 [(0, .ref (b0 + x0)), (1, .int x1), (2, .int x2)] [] h (kX10_writeGraph_19 x0 x1 self19 x2 h) := by
  unfold kX10_writeGraph_19
  refine z_iload_n 20 2 dX10_writeGraph_19 rfl rfl ?_
  refine z_bipush (nI 8) 22 zkb_8 dX10_writeGraph_20 rfl ?_
  refine z_icmp_ge 84 25 dX10_writeGraph_22 (by decide) rfl (fun c1 => ?_) (fun c1 => ?_)
  · refine z_aload_n 85 0 dX10_writeGraph_84 rfl rfl ?_
    refine z_getR 88 zC10 (Nat.le_of_ble_eq_true rfl) rfl w_243 dX10_writeGraph_85 rfl (fun v2 _ => ?_)
    refine z_callVi 91 (mX7_length b0 v2 h) zyX7_length rfl w_377 (ci := 7) rfl (Nat.le_of_ble_eq_true rfl) (fun _ e9 => kX7_length e9) wm_yX7_length ws_yX7_length (Nat.le_of_ble_eq_true rfl) rfl (Nat.le_of_ble_eq_true rfl) dX10_writeGraph_88 rfl (fun q3 => ?_)
    exact z_ireturn dX10_writeGraph_91 rfl
  · refine z_iconst (nI 0) 26 zki_0 dX10_writeGraph_25 rfl ?_
    refine z_istore_n (lv2 := [(3, .int (nI 0)), (0, .ref (b0 + x0)), (1, .int x1), (2, .int x2)]) 27 dX10_writeGraph_26 rfl (Nat.le_of_ble_eq_true rfl) rfl ?_
    exact z_sub [1, 2, 3, 0] rfl (BX10_writeGraph_27 b0 self19 x0 x1 x2 hself19 zfu (nI 0) h)
theorem BX10_writeGraph_19 (b0 : Nat) (x0 : Nat) (x1 : Int32) (n : Nat) (x2 : Int32) (h : ZH) : Zr zi b0 YX10_writeGraph 4 19 [(0, .ref (b0 + x0)), (1, .int x1), (2, .int x2)] [] h (zloop (lX10_writeGraph_19 x0 x1) n (x2, h)) :=
  zloop_Zr (fun s => [(0, .ref (b0 + x0)), (1, .int x1), (2, .int s.1)]) (fun _ => []) (fun s => s.2) (lX10_writeGraph_19 x0 x1) (fun self hs s => KX10_writeGraph_19 b0 x0 x1 self (fun y2 hh => hs (y2, hh)) s.1 s.2) n (x2, h)
def fX10_writeGraph (x0 : Nat) (x1 : Int32) (h : ZH) : Option (Int32 × ZH) :=
  if x0 < zn h ∧ zK h x0 = 10 then ((fX10_isSlot x1 h).bind fun q1 =>
  if q1.1 = 0 then (some ((-2 : Int32), q1.2)) else
  ((gR q1.2 10 x0 5).bind fun v3 =>
  (fX7_clear v3 q1.2).bind fun h4 =>
  zloop (lX10_writeGraph_19 x0 x1) zfu ((nI 0), h4))) else none
theorem kX10_writeGraph {x0 : Nat} {x1 : Int32} {h : ZH} {x : Int32 × ZH} (e : fX10_writeGraph x0 x1 h = some x) : x0 < zn h ∧ zK h x0 = 10 := by
  unfold fX10_writeGraph at e
  exact zguard e
theorem mX10_writeGraph (b0 : Nat) (x0 : Nat) (x1 : Int32) (h : ZH) : ZM zi b0 YX10_writeGraph 4 [.ref (b0 + x0), .int x1] h (fX10_writeGraph x0 x1 h) := by
  unfold fX10_writeGraph
  refine ZM.of (by decide) rfl (Nat.le_of_ble_eq_true rfl) (fun _ => trivial) ?_
  refine z_sub (lv2 := [(0, .ref (b0 + x0)), (1, .int x1)]) [0, 1] rfl ?_
  refine z_guard (fun _ => ?_)
  refine z_iload_n 1 1 dX10_writeGraph_0 rfl rfl ?_
  refine z_callSi 4 (mX10_isSlot b0 x1 h) zyX10_isSlot rfl w_297 wt_yX10_isSlot (Nat.le_of_ble_eq_true rfl) rfl (Nat.le_of_ble_eq_true rfl) dX10_writeGraph_1 rfl (fun q1 => ?_)
  refine z_if_ne 10 7 dX10_writeGraph_4 (by decide) rfl (fun c2 => ?_) (fun c2 => ?_)
  · refine z_aload_n 11 0 dX10_writeGraph_10 rfl rfl ?_
    refine z_getR 14 zC10 (Nat.le_of_ble_eq_true rfl) rfl w_243 dX10_writeGraph_11 rfl (fun v3 _ => ?_)
    refine z_callVv 17 (mX7_clear b0 v3 q1.2) zyX7_clear rfl w_403 (ci := 7) rfl (Nat.le_of_ble_eq_true rfl) (fun _ e9 => kX7_clear e9) wm_yX7_clear ws_yX7_clear (Nat.le_of_ble_eq_true rfl) rfl (Nat.le_of_ble_eq_true rfl) dX10_writeGraph_14 rfl (fun h4 => ?_)
    refine z_iconst (nI 0) 18 zki_0 dX10_writeGraph_17 rfl ?_
    refine z_istore_n (lv2 := [(2, .int (nI 0)), (0, .ref (b0 + x0)), (1, .int x1)]) 19 dX10_writeGraph_18 rfl (Nat.le_of_ble_eq_true rfl) rfl ?_
    exact z_sub [1, 2, 0] rfl (BX10_writeGraph_19 b0 x0 x1 zfu (nI 0) h4)
  · refine z_bipush (-2 : Int32) 9 zkb_m2 dX10_writeGraph_7 rfl ?_
    exact z_ireturn dX10_writeGraph_9 rfl
-- X10_output
def bX10_output_29 (t0 : Int32) (h : ZH) : Option (Int32 × ZH) :=
  some (t0, h)
theorem BX10_output_29 (b0 : Nat) (t0 : Int32) (h : ZH) : Zr zi b0 YX10_output 2 29 [] [.int t0] h (bX10_output_29 t0 h) := by
  unfold bX10_output_29
  exact z_ireturn dX10_output_29 rfl
def fX10_output (x0 : Nat) (x1 : Int32) (h : ZH) : Option (Int32 × ZH) :=
  if x0 < zn h ∧ zK h x0 = 10 then ((gR h 10 x0 5).bind fun v1 =>
  (fX7_length v1 h).bind fun q2 =>
  (fX10_isWithin x1 (nI 0) (q2.1 - (nI 1)) q2.2).bind fun q3 =>
  if q3.1 = 0 then (bX10_output_29 (-1 : Int32) q3.2) else
  ((gR q3.2 10 x0 5).bind fun v5 =>
  (fX7_at v5 x1 q3.2).bind fun q6 =>
  bX10_output_29 q6.1 q6.2)) else none
theorem kX10_output {x0 : Nat} {x1 : Int32} {h : ZH} {x : Int32 × ZH} (e : fX10_output x0 x1 h = some x) : x0 < zn h ∧ zK h x0 = 10 := by
  unfold fX10_output at e
  exact zguard e
theorem mX10_output (b0 : Nat) (x0 : Nat) (x1 : Int32) (h : ZH) : ZM zi b0 YX10_output 2 [.ref (b0 + x0), .int x1] h (fX10_output x0 x1 h) := by
  unfold fX10_output
  refine ZM.of (by decide) rfl (Nat.le_of_ble_eq_true rfl) (fun _ => trivial) ?_
  refine z_sub (lv2 := [(0, .ref (b0 + x0)), (1, .int x1)]) [0, 1] rfl ?_
  refine z_guard (fun _ => ?_)
  refine z_iload_n 1 1 dX10_output_0 rfl rfl ?_
  refine z_iconst (nI 0) 2 zki_0 dX10_output_1 rfl ?_
  refine z_aload_n 3 0 dX10_output_2 rfl rfl ?_
  refine z_getR 6 zC10 (Nat.le_of_ble_eq_true rfl) rfl w_243 dX10_output_3 rfl (fun v1 _ => ?_)
  refine z_callVi 9 (mX7_length b0 v1 h) zyX7_length rfl w_377 (ci := 7) rfl (Nat.le_of_ble_eq_true rfl) (fun _ e9 => kX7_length e9) wm_yX7_length ws_yX7_length (Nat.le_of_ble_eq_true rfl) rfl (Nat.le_of_ble_eq_true rfl) dX10_output_6 rfl (fun q2 => ?_)
  refine z_iconst (nI 1) 10 zki_1 dX10_output_9 rfl ?_
  refine z_isub 11 dX10_output_10 rfl ?_
  refine z_callSi 14 (mX10_isWithin b0 x1 (nI 0) (q2.1 - (nI 1)) q2.2) zyX10_isWithin rfl w_372 wt_yX10_isWithin (Nat.le_of_ble_eq_true rfl) rfl (Nat.le_of_ble_eq_true rfl) dX10_output_11 rfl (fun q3 => ?_)
  refine z_if_eq 28 17 dX10_output_14 (by decide) rfl (fun c4 => ?_) (fun c4 => ?_)
  · refine z_iconst (-1 : Int32) 29 zki_m1 dX10_output_28 rfl ?_
    exact z_sub [] rfl (BX10_output_29 b0 (-1 : Int32) q3.2 )
  · refine z_aload_n 18 0 dX10_output_17 rfl rfl ?_
    refine z_getR 21 zC10 (Nat.le_of_ble_eq_true rfl) rfl w_243 dX10_output_18 rfl (fun v5 _ => ?_)
    refine z_iload_n 22 1 dX10_output_21 rfl rfl ?_
    refine z_callVi 25 (mX7_at b0 v5 x1 q3.2) zyX7_at rfl w_396 (ci := 7) rfl (Nat.le_of_ble_eq_true rfl) (fun _ e9 => kX7_at e9) wm_yX7_at ws_yX7_at (Nat.le_of_ble_eq_true rfl) rfl (Nat.le_of_ble_eq_true rfl) dX10_output_22 rfl (fun q6 => ?_)
    refine z_goto 29 dX10_output_25 (by decide) ?_
    exact z_sub [] rfl (BX10_output_29 b0 q6.1 q6.2 )
-- X10_undo
def bX10_undo_23 (t0 : Int32) (h : ZH) : Option (Int32 × ZH) :=
  some (t0, h)
theorem BX10_undo_23 (b0 : Nat) (t0 : Int32) (h : ZH) : Zr zi b0 YX10_undo 4 23 [] [.int t0] h (bX10_undo_23 t0 h) := by
  unfold bX10_undo_23
  exact z_ireturn dX10_undo_23 rfl
def fX10_undo (x0 : Nat) (h : ZH) : Option (Int32 × ZH) :=
  if x0 < zn h ∧ zK h x0 = 10 then ((gR h 10 x0 3).bind fun v1 =>
  (gR h 10 x0 0).bind fun v2 =>
  (fX2_pop v1 v2 h).bind fun q3 =>
  if q3.1 = (-1 : Int32) then (bX10_undo_23 (-6 : Int32) q3.2) else
  (bX10_undo_23 q3.1 q3.2)) else none
theorem kX10_undo {x0 : Nat} {h : ZH} {x : Int32 × ZH} (e : fX10_undo x0 h = some x) : x0 < zn h ∧ zK h x0 = 10 := by
  unfold fX10_undo at e
  exact zguard e
theorem mX10_undo (b0 : Nat) (x0 : Nat) (h : ZH) : ZM zi b0 YX10_undo 4 [.ref (b0 + x0)] h (fX10_undo x0 h) := by
  unfold fX10_undo
  refine ZM.of (by decide) rfl (Nat.le_of_ble_eq_true rfl) (fun _ => trivial) ?_
  refine z_sub (lv2 := [(0, .ref (b0 + x0))]) [0] rfl ?_
  refine z_guard (fun _ => ?_)
  refine z_aload_n 1 0 dX10_undo_0 rfl rfl ?_
  refine z_getR 4 zC10 (Nat.le_of_ble_eq_true rfl) rfl w_241 dX10_undo_1 rfl (fun v1 _ => ?_)
  refine z_aload_n 5 0 dX10_undo_4 rfl rfl ?_
  refine z_getR 8 zC10 (Nat.le_of_ble_eq_true rfl) rfl w_238 dX10_undo_5 rfl (fun v2 _ => ?_)
  refine z_callVi 11 (mX2_pop b0 v1 v2 h) zyX2_pop rfl w_923 (ci := 2) rfl (Nat.le_of_ble_eq_true rfl) (fun _ e9 => kX2_pop e9) wm_yX2_pop ws_yX2_pop (Nat.le_of_ble_eq_true rfl) rfl (Nat.le_of_ble_eq_true rfl) dX10_undo_8 rfl (fun q3 => ?_)
  refine z_istore_n (lv2 := [(1, .int q3.1), (0, .ref (b0 + x0))]) 12 dX10_undo_11 rfl (Nat.le_of_ble_eq_true rfl) rfl ?_
  refine z_iload_n 13 0 dX10_undo_12 rfl rfl ?_
  refine z_iconst (-1 : Int32) 14 zki_m1 dX10_undo_13 rfl ?_
  refine z_icmp_ne 22 17 dX10_undo_14 (by decide) rfl (fun c4 => ?_) (fun c4 => ?_)
  · refine z_iload_n 23 0 dX10_undo_22 rfl rfl ?_
    exact z_sub [] rfl (BX10_undo_23 b0 q3.1 q3.2 )
  · refine z_bipush (-6 : Int32) 19 zkb_m6 dX10_undo_17 rfl ?_
    refine z_goto 23 dX10_undo_19 (by decide) ?_
    exact z_sub [] rfl (BX10_undo_23 b0 (-6 : Int32) q3.2 )
-- X10_countAllEdges
def kX10_countAllEdges_4 (x0 : Nat) (self4 : Int32 × Int32 × ZH → Option (Int32 × ZH)) (x1 : Int32) (x2 : Int32) (h : ZH) : Option (Int32 × ZH) :=
  if (nI 6) ≤ x2 then (some (x1, h)) else
  ((gR h 10 x0 0).bind fun v2 =>
  (lR h 17 v2 x2).bind fun v3 =>
  (fX1_countEdges v3 h).bind fun q4 =>
  zl (x1 + q4.1) fun v5 =>
  self4 (v5, (x2 + (nI 1)), q4.2))
def lX10_countAllEdges_4 (x0 : Nat) : (Int32 × Int32 × ZH → Option (Int32 × ZH)) → Int32 × Int32 × ZH → Option (Int32 × ZH) := fun self s => kX10_countAllEdges_4 x0 self s.1 s.2.1 s.2.2
theorem KX10_countAllEdges_4 (b0 : Nat) (x0 : Nat) (self4 : Int32 × Int32 × ZH → Option (Int32 × ZH)) (hself4 : ∀ (y1 : Int32) (y2 : Int32) (hh : ZH), Zr zi b0 YX10_countAllEdges 3 4 [(0, .ref (b0 + x0)), (1, .int y1), (2, .int y2)] [] hh (self4 (y1, y2, hh))) (x1 : Int32) (x2 : Int32) (h : ZH) : Zr zi b0 YX10_countAllEdges 3 4 [(0, .ref (b0 + x0)), (1, .int x1), (2, .int x2)] [] h (kX10_countAllEdges_4 x0 self4 x1 x2 h) := by
  unfold kX10_countAllEdges_4
  refine z_iload_n 5 2 dX10_countAllEdges_4 rfl rfl ?_
  refine z_bipush (nI 6) 7 zkb_6 dX10_countAllEdges_5 rfl ?_
  refine z_icmp_ge 28 10 dX10_countAllEdges_7 (by decide) rfl (fun c1 => ?_) (fun c1 => ?_)
  · refine z_iload_n 29 1 dX10_countAllEdges_28 rfl rfl ?_
    exact z_ireturn dX10_countAllEdges_29 rfl
  · refine z_iload_n 11 1 dX10_countAllEdges_10 rfl rfl ?_
    refine z_aload_n 12 0 dX10_countAllEdges_11 rfl rfl ?_
    refine z_getR 15 zC10 (Nat.le_of_ble_eq_true rfl) rfl w_238 dX10_countAllEdges_12 rfl (fun v2 _ => ?_)
    refine z_iload_n 16 2 dX10_countAllEdges_15 rfl rfl ?_
    refine z_aaload17 17 dX10_countAllEdges_16 rfl (fun v3 _ => ?_)
    refine z_callVi 20 (mX1_countEdges b0 v3 h) zyX1_countEdges rfl w_333 (ci := 1) rfl (Nat.le_of_ble_eq_true rfl) (fun _ e9 => kX1_countEdges e9) wm_yX1_countEdges ws_yX1_countEdges (Nat.le_of_ble_eq_true rfl) rfl (Nat.le_of_ble_eq_true rfl) dX10_countAllEdges_17 rfl (fun q4 => ?_)
    refine z_iadd 21 dX10_countAllEdges_20 rfl ?_
    refine z_letI (fun v5 _ => ?_)
    refine z_istore_n (lv2 := [(1, .int v5), (0, .ref (b0 + x0)), (2, .int x2)]) 22 dX10_countAllEdges_21 rfl (Nat.le_of_ble_eq_true rfl) rfl ?_
    refine z_iinc (lv2 := [(2, .int (x2 + (nI 1))), (1, .int v5), (0, .ref (b0 + x0))]) (nI 1) 25 2 dX10_countAllEdges_22 rfl rfl zki_1 (Nat.le_of_ble_eq_true rfl) rfl ?_
    refine z_goto 4 dX10_countAllEdges_25 (by decide) ?_
    exact z_sub [2, 1, 0] rfl (hself4 v5 (x2 + (nI 1)) q4.2)
theorem BX10_countAllEdges_4 (b0 : Nat) (x0 : Nat) (n : Nat) (x1 : Int32) (x2 : Int32) (h : ZH) : Zr zi b0 YX10_countAllEdges 3 4 [(0, .ref (b0 + x0)), (1, .int x1), (2, .int x2)] [] h (zloop (lX10_countAllEdges_4 x0) n (x1, x2, h)) :=
  zloop_Zr (fun s => [(0, .ref (b0 + x0)), (1, .int s.1), (2, .int s.2.1)]) (fun _ => []) (fun s => s.2.2) (lX10_countAllEdges_4 x0) (fun self hs s => KX10_countAllEdges_4 b0 x0 self (fun y1 y2 hh => hs (y1, y2, hh)) s.1 s.2.1 s.2.2) n (x1, x2, h)
def fX10_countAllEdges (x0 : Nat) (h : ZH) : Option (Int32 × ZH) :=
  if x0 < zn h ∧ zK h x0 = 10 then (zloop (lX10_countAllEdges_4 x0) zfu ((nI 0), (nI 0), h)) else none
theorem kX10_countAllEdges {x0 : Nat} {h : ZH} {x : Int32 × ZH} (e : fX10_countAllEdges x0 h = some x) : x0 < zn h ∧ zK h x0 = 10 := by
  unfold fX10_countAllEdges at e
  exact zguard e
theorem mX10_countAllEdges (b0 : Nat) (x0 : Nat) (h : ZH) : ZM zi b0 YX10_countAllEdges 3 [.ref (b0 + x0)] h (fX10_countAllEdges x0 h) := by
  unfold fX10_countAllEdges
  refine ZM.of (by decide) rfl (Nat.le_of_ble_eq_true rfl) (fun _ => trivial) ?_
  refine z_sub (lv2 := [(0, .ref (b0 + x0))]) [0] rfl ?_
  refine z_guard (fun _ => ?_)
  refine z_iconst (nI 0) 1 zki_0 dX10_countAllEdges_0 rfl ?_
  refine z_istore_n (lv2 := [(1, .int (nI 0)), (0, .ref (b0 + x0))]) 2 dX10_countAllEdges_1 rfl (Nat.le_of_ble_eq_true rfl) rfl ?_
  refine z_iconst (nI 0) 3 zki_0 dX10_countAllEdges_2 rfl ?_
  refine z_istore_n (lv2 := [(2, .int (nI 0)), (1, .int (nI 0)), (0, .ref (b0 + x0))]) 4 dX10_countAllEdges_3 rfl (Nat.le_of_ble_eq_true rfl) rfl ?_
  exact z_sub [2, 1, 0] rfl (BX10_countAllEdges_4 b0 x0 zfu (nI 0) (nI 0) h)
-- X10_save
def kX10_save_2 (x0 : Nat) (self2 : Int32 × ZH → Option (Int32 × ZH)) (x1 : Int32) (h : ZH) : Option (Int32 × ZH) :=
  if (nI 6) ≤ x1 then ((pZ h 10 x0 2 (nI 1)).bind fun h2 =>
  (fX10_countAllEdges x0 h2).bind fun q3 =>
  some (q3.1, q3.2)) else
  ((gR h 10 x0 1).bind fun v4 =>
  (lR h 17 v4 x1).bind fun v5 =>
  (gR h 10 x0 0).bind fun v6 =>
  (lR h 17 v6 x1).bind fun v7 =>
  (fX1_copyOf v5 v7 h).bind fun h8 =>
  self2 ((x1 + (nI 1)), h8))
def lX10_save_2 (x0 : Nat) : (Int32 × ZH → Option (Int32 × ZH)) → Int32 × ZH → Option (Int32 × ZH) := fun self s => kX10_save_2 x0 self s.1 s.2
theorem KX10_save_2 (b0 : Nat) (x0 : Nat) (self2 : Int32 × ZH → Option (Int32 × ZH)) (hself2 : ∀ (y1 : Int32) (hh : ZH), Zr zi b0 YX10_save 4 2 [(0, .ref (b0 + x0)), (1, .int y1)] [] hh (self2 (y1, hh))) (x1 : Int32) (h : ZH) : Zr zi b0 YX10_save 4 2 [(0, .ref (b0 + x0)), (1, .int x1)] [] h (kX10_save_2 x0 self2 x1 h) := by
  unfold kX10_save_2
  refine z_iload_n 3 1 dX10_save_2 rfl rfl ?_
  refine z_bipush (nI 6) 5 zkb_6 dX10_save_3 rfl ?_
  refine z_icmp_ge 29 8 dX10_save_5 (by decide) rfl (fun c1 => ?_) (fun c1 => ?_)
  · refine z_aload_n 30 0 dX10_save_29 rfl rfl ?_
    refine z_iconst (nI 1) 31 zki_1 dX10_save_30 rfl ?_
    refine z_putZ 34 zC10 (Nat.le_of_ble_eq_true rfl) rfl rfl rfl w_240 dX10_save_31 rfl (fun h2 _ => ?_)
    refine z_aload_n 35 0 dX10_save_34 rfl rfl ?_
    refine z_callVi 38 (mX10_countAllEdges b0 x0 h2) zyX10_countAllEdges rfl w_931 (ci := 10) rfl (Nat.le_of_ble_eq_true rfl) (fun _ e9 => kX10_countAllEdges e9) wm_yX10_countAllEdges ws_yX10_countAllEdges (Nat.le_of_ble_eq_true rfl) rfl (Nat.le_of_ble_eq_true rfl) dX10_save_35 rfl (fun q3 => ?_)
    exact z_ireturn dX10_save_38 rfl
  · refine z_aload_n 9 0 dX10_save_8 rfl rfl ?_
    refine z_getR 12 zC10 (Nat.le_of_ble_eq_true rfl) rfl w_239 dX10_save_9 rfl (fun v4 _ => ?_)
    refine z_iload_n 13 1 dX10_save_12 rfl rfl ?_
    refine z_aaload17 14 dX10_save_13 rfl (fun v5 _ => ?_)
    refine z_aload_n 15 0 dX10_save_14 rfl rfl ?_
    refine z_getR 18 zC10 (Nat.le_of_ble_eq_true rfl) rfl w_238 dX10_save_15 rfl (fun v6 _ => ?_)
    refine z_iload_n 19 1 dX10_save_18 rfl rfl ?_
    refine z_aaload17 20 dX10_save_19 rfl (fun v7 _ => ?_)
    refine z_callVv 23 (mX1_copyOf b0 v5 v7 h) zyX1_copyOf rfl w_411 (ci := 1) rfl (Nat.le_of_ble_eq_true rfl) (fun _ e9 => kX1_copyOf e9) wm_yX1_copyOf ws_yX1_copyOf (Nat.le_of_ble_eq_true rfl) rfl (Nat.le_of_ble_eq_true rfl) dX10_save_20 rfl (fun h8 => ?_)
    refine z_iinc (lv2 := [(1, .int (x1 + (nI 1))), (0, .ref (b0 + x0))]) (nI 1) 26 1 dX10_save_23 rfl rfl zki_1 (Nat.le_of_ble_eq_true rfl) rfl ?_
    refine z_goto 2 dX10_save_26 (by decide) ?_
    exact z_sub [1, 0] rfl (hself2 (x1 + (nI 1)) h8)
theorem BX10_save_2 (b0 : Nat) (x0 : Nat) (n : Nat) (x1 : Int32) (h : ZH) : Zr zi b0 YX10_save 4 2 [(0, .ref (b0 + x0)), (1, .int x1)] [] h (zloop (lX10_save_2 x0) n (x1, h)) :=
  zloop_Zr (fun s => [(0, .ref (b0 + x0)), (1, .int s.1)]) (fun _ => []) (fun s => s.2) (lX10_save_2 x0) (fun self hs s => KX10_save_2 b0 x0 self (fun y1 hh => hs (y1, hh)) s.1 s.2) n (x1, h)
def fX10_save (x0 : Nat) (h : ZH) : Option (Int32 × ZH) :=
  if x0 < zn h ∧ zK h x0 = 10 then (zloop (lX10_save_2 x0) zfu ((nI 0), h)) else none
theorem kX10_save {x0 : Nat} {h : ZH} {x : Int32 × ZH} (e : fX10_save x0 h = some x) : x0 < zn h ∧ zK h x0 = 10 := by
  unfold fX10_save at e
  exact zguard e
theorem mX10_save (b0 : Nat) (x0 : Nat) (h : ZH) : ZM zi b0 YX10_save 4 [.ref (b0 + x0)] h (fX10_save x0 h) := by
  unfold fX10_save
  refine ZM.of (by decide) rfl (Nat.le_of_ble_eq_true rfl) (fun _ => trivial) ?_
  refine z_sub (lv2 := [(0, .ref (b0 + x0))]) [0] rfl ?_
  refine z_guard (fun _ => ?_)
  refine z_iconst (nI 0) 1 zki_0 dX10_save_0 rfl ?_
  refine z_istore_n (lv2 := [(1, .int (nI 0)), (0, .ref (b0 + x0))]) 2 dX10_save_1 rfl (Nat.le_of_ble_eq_true rfl) rfl ?_
  exact z_sub [1, 0] rfl (BX10_save_2 b0 x0 zfu (nI 0) h)
-- X10_restore
def kX10_restore_12 (x0 : Nat) (self12 : Int32 × ZH → Option (Int32 × ZH)) (x1 : Int32) (h : ZH) : Option (Int32 × ZH) :=
  if (nI 6) ≤ x1 then ((gR h 10 x0 3).bind fun v2 =>
  (fX2_clear v2 h).bind fun h3 =>
  (fX10_countAllEdges x0 h3).bind fun q4 =>
  some (q4.1, q4.2)) else
  ((gR h 10 x0 0).bind fun v5 =>
  (lR h 17 v5 x1).bind fun v6 =>
  (gR h 10 x0 1).bind fun v7 =>
  (lR h 17 v7 x1).bind fun v8 =>
  (fX1_copyOf v6 v8 h).bind fun h9 =>
  self12 ((x1 + (nI 1)), h9))
def lX10_restore_12 (x0 : Nat) : (Int32 × ZH → Option (Int32 × ZH)) → Int32 × ZH → Option (Int32 × ZH) := fun self s => kX10_restore_12 x0 self s.1 s.2
theorem KX10_restore_12 (b0 : Nat) (x0 : Nat) (self12 : Int32 × ZH → Option (Int32 × ZH)) (hself12 : ∀ (y1 : Int32) (hh : ZH), Zr zi b0 YX10_restore 4 12 [(0, .ref (b0 + x0)), (1, .int y1)] [] hh (self12 (y1, hh))) (x1 : Int32) (h : ZH) : Zr zi b0 YX10_restore 4 12 [(0, .ref (b0 + x0)), (1, .int x1)] [] h (kX10_restore_12 x0 self12 x1 h) := by
  unfold kX10_restore_12
  refine z_iload_n 13 1 dX10_restore_12 rfl rfl ?_
  refine z_bipush (nI 6) 15 zkb_6 dX10_restore_13 rfl ?_
  refine z_icmp_ge 39 18 dX10_restore_15 (by decide) rfl (fun c1 => ?_) (fun c1 => ?_)
  · refine z_aload_n 40 0 dX10_restore_39 rfl rfl ?_
    refine z_getR 43 zC10 (Nat.le_of_ble_eq_true rfl) rfl w_241 dX10_restore_40 rfl (fun v2 _ => ?_)
    refine z_callVv 46 (mX2_clear b0 v2 h) zyX2_clear rfl w_939 (ci := 2) rfl (Nat.le_of_ble_eq_true rfl) (fun _ e9 => kX2_clear e9) wm_yX2_clear ws_yX2_clear (Nat.le_of_ble_eq_true rfl) rfl (Nat.le_of_ble_eq_true rfl) dX10_restore_43 rfl (fun h3 => ?_)
    refine z_aload_n 47 0 dX10_restore_46 rfl rfl ?_
    refine z_callVi 50 (mX10_countAllEdges b0 x0 h3) zyX10_countAllEdges rfl w_931 (ci := 10) rfl (Nat.le_of_ble_eq_true rfl) (fun _ e9 => kX10_countAllEdges e9) wm_yX10_countAllEdges ws_yX10_countAllEdges (Nat.le_of_ble_eq_true rfl) rfl (Nat.le_of_ble_eq_true rfl) dX10_restore_47 rfl (fun q4 => ?_)
    exact z_ireturn dX10_restore_50 rfl
  · refine z_aload_n 19 0 dX10_restore_18 rfl rfl ?_
    refine z_getR 22 zC10 (Nat.le_of_ble_eq_true rfl) rfl w_238 dX10_restore_19 rfl (fun v5 _ => ?_)
    refine z_iload_n 23 1 dX10_restore_22 rfl rfl ?_
    refine z_aaload17 24 dX10_restore_23 rfl (fun v6 _ => ?_)
    refine z_aload_n 25 0 dX10_restore_24 rfl rfl ?_
    refine z_getR 28 zC10 (Nat.le_of_ble_eq_true rfl) rfl w_239 dX10_restore_25 rfl (fun v7 _ => ?_)
    refine z_iload_n 29 1 dX10_restore_28 rfl rfl ?_
    refine z_aaload17 30 dX10_restore_29 rfl (fun v8 _ => ?_)
    refine z_callVv 33 (mX1_copyOf b0 v6 v8 h) zyX1_copyOf rfl w_411 (ci := 1) rfl (Nat.le_of_ble_eq_true rfl) (fun _ e9 => kX1_copyOf e9) wm_yX1_copyOf ws_yX1_copyOf (Nat.le_of_ble_eq_true rfl) rfl (Nat.le_of_ble_eq_true rfl) dX10_restore_30 rfl (fun h9 => ?_)
    refine z_iinc (lv2 := [(1, .int (x1 + (nI 1))), (0, .ref (b0 + x0))]) (nI 1) 36 1 dX10_restore_33 rfl rfl zki_1 (Nat.le_of_ble_eq_true rfl) rfl ?_
    refine z_goto 12 dX10_restore_36 (by decide) ?_
    exact z_sub [1, 0] rfl (hself12 (x1 + (nI 1)) h9)
theorem BX10_restore_12 (b0 : Nat) (x0 : Nat) (n : Nat) (x1 : Int32) (h : ZH) : Zr zi b0 YX10_restore 4 12 [(0, .ref (b0 + x0)), (1, .int x1)] [] h (zloop (lX10_restore_12 x0) n (x1, h)) :=
  zloop_Zr (fun s => [(0, .ref (b0 + x0)), (1, .int s.1)]) (fun _ => []) (fun s => s.2) (lX10_restore_12 x0) (fun self hs s => KX10_restore_12 b0 x0 self (fun y1 hh => hs (y1, hh)) s.1 s.2) n (x1, h)
def fX10_restore (x0 : Nat) (h : ZH) : Option (Int32 × ZH) :=
  if x0 < zn h ∧ zK h x0 = 10 then ((gI h 10 x0 2).bind fun v1 =>
  if v1 = 0 then (some ((-6 : Int32), h)) else
  (zloop (lX10_restore_12 x0) zfu ((nI 0), h))) else none
theorem kX10_restore {x0 : Nat} {h : ZH} {x : Int32 × ZH} (e : fX10_restore x0 h = some x) : x0 < zn h ∧ zK h x0 = 10 := by
  unfold fX10_restore at e
  exact zguard e
theorem mX10_restore (b0 : Nat) (x0 : Nat) (h : ZH) : ZM zi b0 YX10_restore 4 [.ref (b0 + x0)] h (fX10_restore x0 h) := by
  unfold fX10_restore
  refine ZM.of (by decide) rfl (Nat.le_of_ble_eq_true rfl) (fun _ => trivial) ?_
  refine z_sub (lv2 := [(0, .ref (b0 + x0))]) [0] rfl ?_
  refine z_guard (fun _ => ?_)
  refine z_aload_n 1 0 dX10_restore_0 rfl rfl ?_
  refine z_getI 4 zC10 (Nat.le_of_ble_eq_true rfl) rfl w_240 dX10_restore_1 rfl (fun v1 _ => ?_)
  refine z_if_ne 10 7 dX10_restore_4 (by decide) rfl (fun c2 => ?_) (fun c2 => ?_)
  · refine z_iconst (nI 0) 11 zki_0 dX10_restore_10 rfl ?_
    refine z_istore_n (lv2 := [(1, .int (nI 0)), (0, .ref (b0 + x0))]) 12 dX10_restore_11 rfl (Nat.le_of_ble_eq_true rfl) rfl ?_
    exact z_sub [1, 0] rfl (BX10_restore_12 b0 x0 zfu (nI 0) h)
  · refine z_bipush (-6 : Int32) 9 zkb_m6 dX10_restore_7 rfl ?_
    exact z_ireturn dX10_restore_9 rfl
-- X10_isArray
def bX10_isArray_14 (t0 : Int32) (h : ZH) : Option (Int32 × ZH) :=
  if t0 = 0 ∨ t0 = 1 then some (t0, h) else none
theorem BX10_isArray_14 (b0 : Nat) (t0 : Int32) (h : ZH) : Zr zi b0 YX10_isArray 1 14 [] [.int t0] h (bX10_isArray_14 t0 h) := by
  unfold bX10_isArray_14
  exact z_zreturn dX10_isArray_14 rfl
def bX10_isArray_13 (h : ZH) : Option (Int32 × ZH) :=
  bX10_isArray_14 (nI 0) h
theorem BX10_isArray_13 (b0 : Nat) (h : ZH) : Zr zi b0 YX10_isArray 1 13 [] [] h (bX10_isArray_13 h) := by
  unfold bX10_isArray_13
  refine z_iconst (nI 0) 14 zki_0 dX10_isArray_13 rfl ?_
  exact z_sub [] rfl (BX10_isArray_14 b0 (nI 0) h )
def fX10_isArray (x0 : Int32) (h : ZH) : Option (Int32 × ZH) :=
  if x0 < 0 then (bX10_isArray_13 h) else
  (if (nI 4) ≤ x0 then (bX10_isArray_13 h) else
  (bX10_isArray_14 (nI 1) h))
theorem mX10_isArray (b0 : Nat) (x0 : Int32) (h : ZH) : ZM zi b0 YX10_isArray 1 [.int x0] h (fX10_isArray x0 h) := by
  unfold fX10_isArray
  refine ZM.of (by decide) rfl (Nat.le_of_ble_eq_true rfl) (fun _ => trivial) ?_
  refine z_sub (lv2 := [(0, .int x0)]) [0] rfl ?_
  refine z_iload_n 1 0 dX10_isArray_0 rfl rfl ?_
  refine z_if_lt 13 4 dX10_isArray_1 (by decide) rfl (fun c1 => ?_) (fun c1 => ?_)
  · exact z_sub [] rfl (BX10_isArray_13 b0 h )
  · refine z_iload_n 5 0 dX10_isArray_4 rfl rfl ?_
    refine z_iconst (nI 4) 6 zki_4 dX10_isArray_5 rfl ?_
    refine z_icmp_ge 13 9 dX10_isArray_6 (by decide) rfl (fun c2 => ?_) (fun c2 => ?_)
    · exact z_sub [] rfl (BX10_isArray_13 b0 h )
    · refine z_iconst (nI 1) 10 zki_1 dX10_isArray_9 rfl ?_
      refine z_goto 14 dX10_isArray_10 (by decide) ?_
      exact z_sub [] rfl (BX10_isArray_14 b0 (nI 1) h )
-- X10_createArray
def bX10_createArray_22 (h : ZH) : Option (Int32 × ZH) :=
  some ((-2 : Int32), h)
theorem BX10_createArray_22 (b0 : Nat) (h : ZH) : Zr zi b0 YX10_createArray 3 22 [] [] h (bX10_createArray_22 h) := by
  unfold bX10_createArray_22
  refine z_bipush (-2 : Int32) 24 zkb_m2 dX10_createArray_22 rfl ?_
  exact z_ireturn dX10_createArray_24 rfl
def fX10_createArray (x0 : Nat) (x1 : Int32) (x2 : Int32) (x3 : Int32) (h : ZH) : Option (Int32 × ZH) :=
  if x0 < zn h ∧ zK h x0 = 10 then ((fX10_isArray x1 h).bind fun q1 =>
  if q1.1 = 0 then (bX10_createArray_22 q1.2) else
  ((fX10_isWithin x2 (nI 0) (nI 2) q1.2).bind fun q3 =>
  if q3.1 = 0 then (bX10_createArray_22 q3.2) else
  (if x3 ≤ (nI 30) then (if 0 ≤ x3 then ((gR q3.2 10 x0 6).bind fun v7 =>
  (lR q3.2 18 v7 x1).bind fun v8 =>
  (fX3_create v8 x2 x3 q3.2).bind fun h9 =>
  some ((nI 1), h9)) else
  (some ((-14 : Int32), q3.2))) else
  (bX10_createArray_22 q3.2)))) else none
theorem kX10_createArray {x0 : Nat} {x1 : Int32} {x2 : Int32} {x3 : Int32} {h : ZH} {x : Int32 × ZH} (e : fX10_createArray x0 x1 x2 x3 h = some x) : x0 < zn h ∧ zK h x0 = 10 := by
  unfold fX10_createArray at e
  exact zguard e
theorem mX10_createArray (b0 : Nat) (x0 : Nat) (x1 : Int32) (x2 : Int32) (x3 : Int32) (h : ZH) : ZM zi b0 YX10_createArray 3 [.ref (b0 + x0), .int x1, .int x2, .int x3] h (fX10_createArray x0 x1 x2 x3 h) := by
  unfold fX10_createArray
  refine ZM.of (by decide) rfl (Nat.le_of_ble_eq_true rfl) (fun _ => trivial) ?_
  refine z_sub (lv2 := [(0, .ref (b0 + x0)), (1, .int x1), (2, .int x2), (3, .int x3)]) [0, 1, 2, 3] rfl ?_
  refine z_guard (fun _ => ?_)
  refine z_iload_n 1 1 dX10_createArray_0 rfl rfl ?_
  refine z_callSi 4 (mX10_isArray b0 x1 h) zyX10_isArray rfl w_947 wt_yX10_isArray (Nat.le_of_ble_eq_true rfl) rfl (Nat.le_of_ble_eq_true rfl) dX10_createArray_1 rfl (fun q1 => ?_)
  refine z_if_eq 22 7 dX10_createArray_4 (by decide) rfl (fun c2 => ?_) (fun c2 => ?_)
  · exact z_sub [] rfl (BX10_createArray_22 b0 q1.2 )
  · refine z_iload_n 8 2 dX10_createArray_7 rfl rfl ?_
    refine z_iconst (nI 0) 9 zki_0 dX10_createArray_8 rfl ?_
    refine z_iconst (nI 2) 10 zki_2 dX10_createArray_9 rfl ?_
    refine z_callSi 13 (mX10_isWithin b0 x2 (nI 0) (nI 2) q1.2) zyX10_isWithin rfl w_372 wt_yX10_isWithin (Nat.le_of_ble_eq_true rfl) rfl (Nat.le_of_ble_eq_true rfl) dX10_createArray_10 rfl (fun q3 => ?_)
    refine z_if_eq 22 16 dX10_createArray_13 (by decide) rfl (fun c4 => ?_) (fun c4 => ?_)
    · exact z_sub [] rfl (BX10_createArray_22 b0 q3.2 )
    · refine z_iload_n 17 3 dX10_createArray_16 rfl rfl ?_
      refine z_bipush (nI 30) 19 zkb_30 dX10_createArray_17 rfl ?_
      refine z_icmp_le 25 22 dX10_createArray_19 (by decide) rfl (fun c5 => ?_) (fun c5 => ?_)
      · refine z_iload_n 26 3 dX10_createArray_25 rfl rfl ?_
        refine z_if_ge 32 29 dX10_createArray_26 (by decide) rfl (fun c6 => ?_) (fun c6 => ?_)
        · refine z_aload_n 33 0 dX10_createArray_32 rfl rfl ?_
          refine z_getR 36 zC10 (Nat.le_of_ble_eq_true rfl) rfl w_244 dX10_createArray_33 rfl (fun v7 _ => ?_)
          refine z_iload_n 37 1 dX10_createArray_36 rfl rfl ?_
          refine z_aaload18 38 dX10_createArray_37 rfl (fun v8 _ => ?_)
          refine z_iload_n 39 2 dX10_createArray_38 rfl rfl ?_
          refine z_iload_n 40 3 dX10_createArray_39 rfl rfl ?_
          refine z_callVv 43 (mX3_create b0 v8 x2 x3 q3.2) zyX3_create rfl w_950 (ci := 3) rfl (Nat.le_of_ble_eq_true rfl) (fun _ e9 => kX3_create e9) wm_yX3_create ws_yX3_create (Nat.le_of_ble_eq_true rfl) rfl (Nat.le_of_ble_eq_true rfl) dX10_createArray_40 rfl (fun h9 => ?_)
          refine z_iconst (nI 1) 44 zki_1 dX10_createArray_43 rfl ?_
          exact z_ireturn dX10_createArray_44 rfl
        · refine z_bipush (-14 : Int32) 31 zkb_m14 dX10_createArray_29 rfl ?_
          exact z_ireturn dX10_createArray_31 rfl
      · exact z_sub [] rfl (BX10_createArray_22 b0 q3.2 )
-- X10_setElement
def bX10_setElement_20 (h : ZH) : Option (Int32 × ZH) :=
  some ((-2 : Int32), h)
theorem BX10_setElement_20 (b0 : Nat) (h : ZH) : Zr zi b0 YX10_setElement 3 20 [] [] h (bX10_setElement_20 h) := by
  unfold bX10_setElement_20
  refine z_bipush (-2 : Int32) 22 zkb_m2 dX10_setElement_20 rfl ?_
  exact z_ireturn dX10_setElement_22 rfl
def fX10_setElement (x0 : Nat) (x1 : Int32) (x2 : Int32) (x3 : Int32) (h : ZH) : Option (Int32 × ZH) :=
  if x0 < zn h ∧ zK h x0 = 10 then ((fX10_isArray x1 h).bind fun q1 =>
  if q1.1 = 0 then (bX10_setElement_20 q1.2) else
  ((fX10_isWithin x3 (-9999 : Int32) (nI 9999) q1.2).bind fun q3 =>
  if q3.1 = 0 then (bX10_setElement_20 q3.2) else
  ((gR q3.2 10 x0 6).bind fun v5 =>
  (lR q3.2 18 v5 x1).bind fun v6 =>
  (fX3_exists v6 q3.2).bind fun q7 =>
  if q7.1 = 0 then (some ((-11 : Int32), q7.2)) else
  ((fX3_hasIndex v6 x2 q7.2).bind fun q9 =>
  if q9.1 = 0 then (some ((-13 : Int32), q9.2)) else
  ((fX3_set v6 x2 x3 q9.2).bind fun h11 =>
  some ((nI 1), h11)))))) else none
theorem kX10_setElement {x0 : Nat} {x1 : Int32} {x2 : Int32} {x3 : Int32} {h : ZH} {x : Int32 × ZH} (e : fX10_setElement x0 x1 x2 x3 h = some x) : x0 < zn h ∧ zK h x0 = 10 := by
  unfold fX10_setElement at e
  exact zguard e
theorem mX10_setElement (b0 : Nat) (x0 : Nat) (x1 : Int32) (x2 : Int32) (x3 : Int32) (h : ZH) : ZM zi b0 YX10_setElement 3 [.ref (b0 + x0), .int x1, .int x2, .int x3] h (fX10_setElement x0 x1 x2 x3 h) := by
  unfold fX10_setElement
  refine ZM.of (by decide) rfl (Nat.le_of_ble_eq_true rfl) (fun _ => trivial) ?_
  refine z_sub (lv2 := [(0, .ref (b0 + x0)), (1, .int x1), (2, .int x2), (3, .int x3)]) [0, 1, 2, 3] rfl ?_
  refine z_guard (fun _ => ?_)
  refine z_iload_n 1 1 dX10_setElement_0 rfl rfl ?_
  refine z_callSi 4 (mX10_isArray b0 x1 h) zyX10_isArray rfl w_947 wt_yX10_isArray (Nat.le_of_ble_eq_true rfl) rfl (Nat.le_of_ble_eq_true rfl) dX10_setElement_1 rfl (fun q1 => ?_)
  refine z_if_eq 20 7 dX10_setElement_4 (by decide) rfl (fun c2 => ?_) (fun c2 => ?_)
  · exact z_sub [] rfl (BX10_setElement_20 b0 q1.2 )
  · refine z_iload_n 8 3 dX10_setElement_7 rfl rfl ?_
    refine z_sipush (-9999 : Int32) 11 zks_m9999 dX10_setElement_8 rfl ?_
    refine z_sipush (nI 9999) 14 zks_9999 dX10_setElement_11 rfl ?_
    refine z_callSi 17 (mX10_isWithin b0 x3 (-9999 : Int32) (nI 9999) q1.2) zyX10_isWithin rfl w_372 wt_yX10_isWithin (Nat.le_of_ble_eq_true rfl) rfl (Nat.le_of_ble_eq_true rfl) dX10_setElement_14 rfl (fun q3 => ?_)
    refine z_if_ne 23 20 dX10_setElement_17 (by decide) rfl (fun c4 => ?_) (fun c4 => ?_)
    · refine z_aload_n 24 0 dX10_setElement_23 rfl rfl ?_
      refine z_getR 27 zC10 (Nat.le_of_ble_eq_true rfl) rfl w_244 dX10_setElement_24 rfl (fun v5 _ => ?_)
      refine z_iload_n 28 1 dX10_setElement_27 rfl rfl ?_
      refine z_aaload18 29 dX10_setElement_28 rfl (fun v6 _ => ?_)
      refine z_astore (lv2 := [(4, .ref (b0 + v6)), (0, .ref (b0 + x0)), (1, .int x1), (2, .int x2), (3, .int x3)]) 31 dX10_setElement_29 rfl (Nat.le_of_ble_eq_true rfl) rfl ?_
      refine z_aload 33 0 dX10_setElement_31 rfl rfl ?_
      refine z_callVi 36 (mX3_exists b0 v6 q3.2) zyX3_exists rfl w_960 (ci := 3) rfl (Nat.le_of_ble_eq_true rfl) (fun _ e9 => kX3_exists e9) wm_yX3_exists ws_yX3_exists (Nat.le_of_ble_eq_true rfl) rfl (Nat.le_of_ble_eq_true rfl) dX10_setElement_33 rfl (fun q7 => ?_)
      refine z_if_ne 42 39 dX10_setElement_36 (by decide) rfl (fun c8 => ?_) (fun c8 => ?_)
      · refine z_aload 44 0 dX10_setElement_42 rfl rfl ?_
        refine z_iload_n 45 3 dX10_setElement_44 rfl rfl ?_
        refine z_callVi 48 (mX3_hasIndex b0 v6 x2 q7.2) zyX3_hasIndex rfl w_964 (ci := 3) rfl (Nat.le_of_ble_eq_true rfl) (fun _ e9 => kX3_hasIndex e9) wm_yX3_hasIndex ws_yX3_hasIndex (Nat.le_of_ble_eq_true rfl) rfl (Nat.le_of_ble_eq_true rfl) dX10_setElement_45 rfl (fun q9 => ?_)
        refine z_if_ne 54 51 dX10_setElement_48 (by decide) rfl (fun c10 => ?_) (fun c10 => ?_)
        · refine z_aload 56 0 dX10_setElement_54 rfl rfl ?_
          refine z_iload_n 57 3 dX10_setElement_56 rfl rfl ?_
          refine z_iload_n 58 4 dX10_setElement_57 rfl rfl ?_
          refine z_callVv 61 (mX3_set b0 v6 x2 x3 q9.2) zyX3_set rfl w_968 (ci := 3) rfl (Nat.le_of_ble_eq_true rfl) (fun _ e9 => kX3_set e9) wm_yX3_set ws_yX3_set (Nat.le_of_ble_eq_true rfl) rfl (Nat.le_of_ble_eq_true rfl) dX10_setElement_58 rfl (fun h11 => ?_)
          refine z_iconst (nI 1) 62 zki_1 dX10_setElement_61 rfl ?_
          exact z_ireturn dX10_setElement_62 rfl
        · refine z_bipush (-13 : Int32) 53 zkb_m13 dX10_setElement_51 rfl ?_
          exact z_ireturn dX10_setElement_53 rfl
      · refine z_bipush (-11 : Int32) 41 zkb_m11 dX10_setElement_39 rfl ?_
        exact z_ireturn dX10_setElement_41 rfl
    · exact z_sub [] rfl (BX10_setElement_20 b0 q3.2 )
-- X10_setNaN
def fX10_setNaN (x0 : Nat) (x1 : Int32) (x2 : Int32) (h : ZH) : Option (Int32 × ZH) :=
  if x0 < zn h ∧ zK h x0 = 10 then ((fX10_isArray x1 h).bind fun q1 =>
  if q1.1 = 0 then (some ((-2 : Int32), q1.2)) else
  ((gR q1.2 10 x0 6).bind fun v3 =>
  (lR q1.2 18 v3 x1).bind fun v4 =>
  (fX3_exists v4 q1.2).bind fun q5 =>
  if q5.1 = 0 then (some ((-11 : Int32), q5.2)) else
  ((fX3_isFloat v4 q5.2).bind fun q7 =>
  if q7.1 = 0 then (some ((-12 : Int32), q7.2)) else
  ((fX3_hasIndex v4 x2 q7.2).bind fun q9 =>
  if q9.1 = 0 then (some ((-13 : Int32), q9.2)) else
  ((fX3_makeNaN v4 x2 q9.2).bind fun h11 =>
  some ((nI 1), h11)))))) else none
theorem kX10_setNaN {x0 : Nat} {x1 : Int32} {x2 : Int32} {h : ZH} {x : Int32 × ZH} (e : fX10_setNaN x0 x1 x2 h = some x) : x0 < zn h ∧ zK h x0 = 10 := by
  unfold fX10_setNaN at e
  exact zguard e
theorem mX10_setNaN (b0 : Nat) (x0 : Nat) (x1 : Int32) (x2 : Int32) (h : ZH) : ZM zi b0 YX10_setNaN 3 [.ref (b0 + x0), .int x1, .int x2] h (fX10_setNaN x0 x1 x2 h) := by
  unfold fX10_setNaN
  refine ZM.of (by decide) rfl (Nat.le_of_ble_eq_true rfl) (fun _ => trivial) ?_
  refine z_sub (lv2 := [(0, .ref (b0 + x0)), (1, .int x1), (2, .int x2)]) [0, 1, 2] rfl ?_
  refine z_guard (fun _ => ?_)
  refine z_iload_n 1 1 dX10_setNaN_0 rfl rfl ?_
  refine z_callSi 4 (mX10_isArray b0 x1 h) zyX10_isArray rfl w_947 wt_yX10_isArray (Nat.le_of_ble_eq_true rfl) rfl (Nat.le_of_ble_eq_true rfl) dX10_setNaN_1 rfl (fun q1 => ?_)
  refine z_if_ne 10 7 dX10_setNaN_4 (by decide) rfl (fun c2 => ?_) (fun c2 => ?_)
  · refine z_aload_n 11 0 dX10_setNaN_10 rfl rfl ?_
    refine z_getR 14 zC10 (Nat.le_of_ble_eq_true rfl) rfl w_244 dX10_setNaN_11 rfl (fun v3 _ => ?_)
    refine z_iload_n 15 1 dX10_setNaN_14 rfl rfl ?_
    refine z_aaload18 16 dX10_setNaN_15 rfl (fun v4 _ => ?_)
    refine z_astore_n (lv2 := [(3, .ref (b0 + v4)), (0, .ref (b0 + x0)), (1, .int x1), (2, .int x2)]) 17 dX10_setNaN_16 rfl (Nat.le_of_ble_eq_true rfl) rfl ?_
    refine z_aload_n 18 0 dX10_setNaN_17 rfl rfl ?_
    refine z_callVi 21 (mX3_exists b0 v4 q1.2) zyX3_exists rfl w_960 (ci := 3) rfl (Nat.le_of_ble_eq_true rfl) (fun _ e9 => kX3_exists e9) wm_yX3_exists ws_yX3_exists (Nat.le_of_ble_eq_true rfl) rfl (Nat.le_of_ble_eq_true rfl) dX10_setNaN_18 rfl (fun q5 => ?_)
    refine z_if_ne 27 24 dX10_setNaN_21 (by decide) rfl (fun c6 => ?_) (fun c6 => ?_)
    · refine z_aload_n 28 0 dX10_setNaN_27 rfl rfl ?_
      refine z_callVi 31 (mX3_isFloat b0 v4 q5.2) zyX3_isFloat rfl w_982 (ci := 3) rfl (Nat.le_of_ble_eq_true rfl) (fun _ e9 => kX3_isFloat e9) wm_yX3_isFloat ws_yX3_isFloat (Nat.le_of_ble_eq_true rfl) rfl (Nat.le_of_ble_eq_true rfl) dX10_setNaN_28 rfl (fun q7 => ?_)
      refine z_if_ne 37 34 dX10_setNaN_31 (by decide) rfl (fun c8 => ?_) (fun c8 => ?_)
      · refine z_aload_n 38 0 dX10_setNaN_37 rfl rfl ?_
        refine z_iload_n 39 3 dX10_setNaN_38 rfl rfl ?_
        refine z_callVi 42 (mX3_hasIndex b0 v4 x2 q7.2) zyX3_hasIndex rfl w_964 (ci := 3) rfl (Nat.le_of_ble_eq_true rfl) (fun _ e9 => kX3_hasIndex e9) wm_yX3_hasIndex ws_yX3_hasIndex (Nat.le_of_ble_eq_true rfl) rfl (Nat.le_of_ble_eq_true rfl) dX10_setNaN_39 rfl (fun q9 => ?_)
        refine z_if_ne 48 45 dX10_setNaN_42 (by decide) rfl (fun c10 => ?_) (fun c10 => ?_)
        · refine z_aload_n 49 0 dX10_setNaN_48 rfl rfl ?_
          refine z_iload_n 50 3 dX10_setNaN_49 rfl rfl ?_
          refine z_callVv 53 (mX3_makeNaN b0 v4 x2 q9.2) zyX3_makeNaN rfl w_986 (ci := 3) rfl (Nat.le_of_ble_eq_true rfl) (fun _ e9 => kX3_makeNaN e9) wm_yX3_makeNaN ws_yX3_makeNaN (Nat.le_of_ble_eq_true rfl) rfl (Nat.le_of_ble_eq_true rfl) dX10_setNaN_50 rfl (fun h11 => ?_)
          refine z_iconst (nI 1) 54 zki_1 dX10_setNaN_53 rfl ?_
          exact z_ireturn dX10_setNaN_54 rfl
        · refine z_bipush (-13 : Int32) 47 zkb_m13 dX10_setNaN_45 rfl ?_
          exact z_ireturn dX10_setNaN_47 rfl
      · refine z_bipush (-12 : Int32) 36 zkb_m12 dX10_setNaN_34 rfl ?_
        exact z_ireturn dX10_setNaN_36 rfl
    · refine z_bipush (-11 : Int32) 26 zkb_m11 dX10_setNaN_24 rfl ?_
      exact z_ireturn dX10_setNaN_26 rfl
  · refine z_bipush (-2 : Int32) 9 zkb_m2 dX10_setNaN_7 rfl ?_
    exact z_ireturn dX10_setNaN_9 rfl
-- X10_compareElements
def bX10_compareElements_47 (h : ZH) : Option (Int32 × ZH) :=
  some ((-13 : Int32), h)
theorem BX10_compareElements_47 (b0 : Nat) (h : ZH) : Zr zi b0 YX10_compareElements 3 47 [] [] h (bX10_compareElements_47 h) := by
  unfold bX10_compareElements_47
  refine z_bipush (-13 : Int32) 49 zkb_m13 dX10_compareElements_47 rfl ?_
  exact z_ireturn dX10_compareElements_49 rfl
def fX10_compareElements (x0 : Nat) (x1 : Int32) (x2 : Int32) (x3 : Int32) (h : ZH) : Option (Int32 × ZH) :=
  if x0 < zn h ∧ zK h x0 = 10 then ((fX10_isArray x1 h).bind fun q1 =>
  if q1.1 = 0 then (some ((-2 : Int32), q1.2)) else
  ((gR q1.2 10 x0 6).bind fun v3 =>
  (lR q1.2 18 v3 x1).bind fun v4 =>
  (fX3_exists v4 q1.2).bind fun q5 =>
  if q5.1 = 0 then (some ((-11 : Int32), q5.2)) else
  ((fX3_hasIndex v4 x2 q5.2).bind fun q7 =>
  if q7.1 = 0 then (bX10_compareElements_47 q7.2) else
  ((fX3_hasIndex v4 x3 q7.2).bind fun q9 =>
  if q9.1 = 0 then (bX10_compareElements_47 q9.2) else
  ((fX3_order v4 x2 x3 q9.2).bind fun q11 =>
  some (q11.1, q11.2)))))) else none
theorem kX10_compareElements {x0 : Nat} {x1 : Int32} {x2 : Int32} {x3 : Int32} {h : ZH} {x : Int32 × ZH} (e : fX10_compareElements x0 x1 x2 x3 h = some x) : x0 < zn h ∧ zK h x0 = 10 := by
  unfold fX10_compareElements at e
  exact zguard e
theorem mX10_compareElements (b0 : Nat) (x0 : Nat) (x1 : Int32) (x2 : Int32) (x3 : Int32) (h : ZH) : ZM zi b0 YX10_compareElements 3 [.ref (b0 + x0), .int x1, .int x2, .int x3] h (fX10_compareElements x0 x1 x2 x3 h) := by
  unfold fX10_compareElements
  refine ZM.of (by decide) rfl (Nat.le_of_ble_eq_true rfl) (fun _ => trivial) ?_
  refine z_sub (lv2 := [(0, .ref (b0 + x0)), (1, .int x1), (2, .int x2), (3, .int x3)]) [0, 1, 2, 3] rfl ?_
  refine z_guard (fun _ => ?_)
  refine z_iload_n 1 1 dX10_compareElements_0 rfl rfl ?_
  refine z_callSi 4 (mX10_isArray b0 x1 h) zyX10_isArray rfl w_947 wt_yX10_isArray (Nat.le_of_ble_eq_true rfl) rfl (Nat.le_of_ble_eq_true rfl) dX10_compareElements_1 rfl (fun q1 => ?_)
  refine z_if_ne 10 7 dX10_compareElements_4 (by decide) rfl (fun c2 => ?_) (fun c2 => ?_)
  · refine z_aload_n 11 0 dX10_compareElements_10 rfl rfl ?_
    refine z_getR 14 zC10 (Nat.le_of_ble_eq_true rfl) rfl w_244 dX10_compareElements_11 rfl (fun v3 _ => ?_)
    refine z_iload_n 15 1 dX10_compareElements_14 rfl rfl ?_
    refine z_aaload18 16 dX10_compareElements_15 rfl (fun v4 _ => ?_)
    refine z_astore (lv2 := [(4, .ref (b0 + v4)), (0, .ref (b0 + x0)), (1, .int x1), (2, .int x2), (3, .int x3)]) 18 dX10_compareElements_16 rfl (Nat.le_of_ble_eq_true rfl) rfl ?_
    refine z_aload 20 0 dX10_compareElements_18 rfl rfl ?_
    refine z_callVi 23 (mX3_exists b0 v4 q1.2) zyX3_exists rfl w_960 (ci := 3) rfl (Nat.le_of_ble_eq_true rfl) (fun _ e9 => kX3_exists e9) wm_yX3_exists ws_yX3_exists (Nat.le_of_ble_eq_true rfl) rfl (Nat.le_of_ble_eq_true rfl) dX10_compareElements_20 rfl (fun q5 => ?_)
    refine z_if_ne 29 26 dX10_compareElements_23 (by decide) rfl (fun c6 => ?_) (fun c6 => ?_)
    · refine z_aload 31 0 dX10_compareElements_29 rfl rfl ?_
      refine z_iload_n 32 3 dX10_compareElements_31 rfl rfl ?_
      refine z_callVi 35 (mX3_hasIndex b0 v4 x2 q5.2) zyX3_hasIndex rfl w_964 (ci := 3) rfl (Nat.le_of_ble_eq_true rfl) (fun _ e9 => kX3_hasIndex e9) wm_yX3_hasIndex ws_yX3_hasIndex (Nat.le_of_ble_eq_true rfl) rfl (Nat.le_of_ble_eq_true rfl) dX10_compareElements_32 rfl (fun q7 => ?_)
      refine z_if_eq 47 38 dX10_compareElements_35 (by decide) rfl (fun c8 => ?_) (fun c8 => ?_)
      · exact z_sub [] rfl (BX10_compareElements_47 b0 q7.2 )
      · refine z_aload 40 0 dX10_compareElements_38 rfl rfl ?_
        refine z_iload_n 41 4 dX10_compareElements_40 rfl rfl ?_
        refine z_callVi 44 (mX3_hasIndex b0 v4 x3 q7.2) zyX3_hasIndex rfl w_964 (ci := 3) rfl (Nat.le_of_ble_eq_true rfl) (fun _ e9 => kX3_hasIndex e9) wm_yX3_hasIndex ws_yX3_hasIndex (Nat.le_of_ble_eq_true rfl) rfl (Nat.le_of_ble_eq_true rfl) dX10_compareElements_41 rfl (fun q9 => ?_)
        refine z_if_ne 50 47 dX10_compareElements_44 (by decide) rfl (fun c10 => ?_) (fun c10 => ?_)
        · refine z_aload 52 0 dX10_compareElements_50 rfl rfl ?_
          refine z_iload_n 53 3 dX10_compareElements_52 rfl rfl ?_
          refine z_iload_n 54 4 dX10_compareElements_53 rfl rfl ?_
          refine z_callVi 57 (mX3_order b0 v4 x2 x3 q9.2) zyX3_order rfl w_994 (ci := 3) rfl (Nat.le_of_ble_eq_true rfl) (fun _ e9 => kX3_order e9) wm_yX3_order ws_yX3_order (Nat.le_of_ble_eq_true rfl) rfl (Nat.le_of_ble_eq_true rfl) dX10_compareElements_54 rfl (fun q11 => ?_)
          exact z_ireturn dX10_compareElements_57 rfl
        · exact z_sub [] rfl (BX10_compareElements_47 b0 q9.2 )
    · refine z_bipush (-11 : Int32) 28 zkb_m11 dX10_compareElements_26 rfl ?_
      exact z_ireturn dX10_compareElements_28 rfl
  · refine z_bipush (-2 : Int32) 9 zkb_m2 dX10_compareElements_7 rfl ?_
    exact z_ireturn dX10_compareElements_9 rfl
-- X10_checkCounts
def kX10_checkCounts_53 (x0 : Nat) (x3 : Nat) (self53 : Int32 × ZH → Option (Int32 × ZH)) (x4 : Int32) (h : ZH) : Option (Int32 × ZH) :=
  (fX3_length x3 h).bind fun q1 =>
  if q1.1 ≤ x4 then (some ((-1 : Int32), q1.2)) else
  ((gR q1.2 10 x0 12).bind fun v3 =>
  (fX9_total v3 x4 q1.2).bind fun q4 =>
  (fX3_holds x3 x4 q4.1 q4.2).bind fun q5 =>
  if q5.1 = 0 then (some (x4, q5.2)) else
  (self53 ((x4 + (nI 1)), q5.2)))
def lX10_checkCounts_53 (x0 : Nat) (x3 : Nat) : (Int32 × ZH → Option (Int32 × ZH)) → Int32 × ZH → Option (Int32 × ZH) := fun self s => kX10_checkCounts_53 x0 x3 self s.1 s.2
theorem KX10_checkCounts_53 (b0 : Nat) (x0 : Nat) (x3 : Nat) (self53 : Int32 × ZH → Option (Int32 × ZH)) (hself53 : ∀ (y4 : Int32) (hh : ZH), Zr zi b0 YX10_checkCounts 7 53 [(0, .ref (b0 + x0)), (3, .ref (b0 + x3)), (4, .int y4)] [] hh (self53 (y4, hh))) (x4 : Int32) (h : ZH) : Zr zi b0 YX10_checkCounts 7 53 [(0, .ref (b0 + x0)), (3, .ref (b0 + x3)), (4, .int x4)] [] h (kX10_checkCounts_53 x0 x3 self53 x4 h) := by
  unfold kX10_checkCounts_53
  refine z_iload 55 2 dX10_checkCounts_53 rfl rfl ?_
  refine z_aload_n 56 1 dX10_checkCounts_55 rfl rfl ?_
  refine z_callVi 59 (mX3_length b0 x3 h) zyX3_length rfl w_1002 (ci := 3) rfl (Nat.le_of_ble_eq_true rfl) (fun _ e9 => kX3_length e9) wm_yX3_length ws_yX3_length (Nat.le_of_ble_eq_true rfl) rfl (Nat.le_of_ble_eq_true rfl) dX10_checkCounts_56 rfl (fun q1 => ?_)
  refine z_icmp_ge 89 62 dX10_checkCounts_59 (by decide) rfl (fun c2 => ?_) (fun c2 => ?_)
  · refine z_iconst (-1 : Int32) 90 zki_m1 dX10_checkCounts_89 rfl ?_
    exact z_ireturn dX10_checkCounts_90 rfl
  · refine z_aload_n 63 1 dX10_checkCounts_62 rfl rfl ?_
    refine z_iload 65 2 dX10_checkCounts_63 rfl rfl ?_
    refine z_aload_n 66 0 dX10_checkCounts_65 rfl rfl ?_
    refine z_getR 69 zC10 (Nat.le_of_ble_eq_true rfl) rfl w_250 dX10_checkCounts_66 rfl (fun v3 _ => ?_)
    refine z_iload 71 2 dX10_checkCounts_69 rfl rfl ?_
    refine z_callVj 74 (mX9_total b0 v3 x4 q1.2) zyX9_total rfl w_511 (ci := 9) rfl (Nat.le_of_ble_eq_true rfl) (fun _ e9 => kX9_total e9) wm_yX9_total ws_yX9_total (Nat.le_of_ble_eq_true rfl) rfl (Nat.le_of_ble_eq_true rfl) dX10_checkCounts_71 rfl (fun q4 => ?_)
    refine z_callVi 77 (mX3_holds b0 x3 x4 q4.1 q4.2) zyX3_holds rfl w_1006 (ci := 3) rfl (Nat.le_of_ble_eq_true rfl) (fun _ e9 => kX3_holds e9) wm_yX3_holds ws_yX3_holds (Nat.le_of_ble_eq_true rfl) rfl (Nat.le_of_ble_eq_true rfl) dX10_checkCounts_74 rfl (fun q5 => ?_)
    refine z_if_ne 83 80 dX10_checkCounts_77 (by decide) rfl (fun c6 => ?_) (fun c6 => ?_)
    · refine z_iinc (lv2 := [(4, .int (x4 + (nI 1))), (0, .ref (b0 + x0)), (3, .ref (b0 + x3))]) (nI 1) 86 2 dX10_checkCounts_83 rfl rfl zki_1 (Nat.le_of_ble_eq_true rfl) rfl ?_
      refine z_goto 53 dX10_checkCounts_86 (by decide) ?_
      exact z_sub [1, 2, 0] rfl (hself53 (x4 + (nI 1)) q5.2)
    · refine z_iload 82 2 dX10_checkCounts_80 rfl rfl ?_
      exact z_ireturn dX10_checkCounts_82 rfl
theorem BX10_checkCounts_53 (b0 : Nat) (x0 : Nat) (x3 : Nat) (n : Nat) (x4 : Int32) (h : ZH) : Zr zi b0 YX10_checkCounts 7 53 [(0, .ref (b0 + x0)), (3, .ref (b0 + x3)), (4, .int x4)] [] h (zloop (lX10_checkCounts_53 x0 x3) n (x4, h)) :=
  zloop_Zr (fun s => [(0, .ref (b0 + x0)), (3, .ref (b0 + x3)), (4, .int s.1)]) (fun _ => []) (fun s => s.2) (lX10_checkCounts_53 x0 x3) (fun self hs s => KX10_checkCounts_53 b0 x0 x3 self (fun y4 hh => hs (y4, hh)) s.1 s.2) n (x4, h)
def bX10_checkCounts_14 (h : ZH) : Option (Int32 × ZH) :=
  some ((-2 : Int32), h)
theorem BX10_checkCounts_14 (b0 : Nat) (h : ZH) : Zr zi b0 YX10_checkCounts 7 14 [] [] h (bX10_checkCounts_14 h) := by
  unfold bX10_checkCounts_14
  refine z_bipush (-2 : Int32) 16 zkb_m2 dX10_checkCounts_14 rfl ?_
  exact z_ireturn dX10_checkCounts_16 rfl
def fX10_checkCounts (x0 : Nat) (x1 : Int32) (x2 : Int32) (h : ZH) : Option (Int32 × ZH) :=
  if x0 < zn h ∧ zK h x0 = 10 then ((fX10_isArray x1 h).bind fun q1 =>
  if q1.1 = 0 then (bX10_checkCounts_14 q1.2) else
  ((fX10_isSlot x2 q1.2).bind fun q3 =>
  if q3.1 = 0 then (bX10_checkCounts_14 q3.2) else
  ((gR q3.2 10 x0 6).bind fun v5 =>
  (lR q3.2 18 v5 x1).bind fun v6 =>
  (fX3_exists v6 q3.2).bind fun q7 =>
  if q7.1 = 0 then (some ((-11 : Int32), q7.2)) else
  ((gR q7.2 10 x0 0).bind fun v9 =>
  (lR q7.2 17 v9 x2).bind fun v10 =>
  (fX3_length v6 q7.2).bind fun q11 =>
  (fX10_countWords x0 v10 (q11.1 - (nI 1)) q11.2).bind fun h12 =>
  zloop (lX10_checkCounts_53 x0 v6) zfu ((nI 0), h12))))) else none
theorem kX10_checkCounts {x0 : Nat} {x1 : Int32} {x2 : Int32} {h : ZH} {x : Int32 × ZH} (e : fX10_checkCounts x0 x1 x2 h = some x) : x0 < zn h ∧ zK h x0 = 10 := by
  unfold fX10_checkCounts at e
  exact zguard e
theorem mX10_checkCounts (b0 : Nat) (x0 : Nat) (x1 : Int32) (x2 : Int32) (h : ZH) : ZM zi b0 YX10_checkCounts 7 [.ref (b0 + x0), .int x1, .int x2] h (fX10_checkCounts x0 x1 x2 h) := by
  unfold fX10_checkCounts
  refine ZM.of (by decide) rfl (Nat.le_of_ble_eq_true rfl) (fun _ => trivial) ?_
  refine z_sub (lv2 := [(0, .ref (b0 + x0)), (1, .int x1), (2, .int x2)]) [0, 1, 2] rfl ?_
  refine z_guard (fun _ => ?_)
  refine z_iload_n 1 1 dX10_checkCounts_0 rfl rfl ?_
  refine z_callSi 4 (mX10_isArray b0 x1 h) zyX10_isArray rfl w_947 wt_yX10_isArray (Nat.le_of_ble_eq_true rfl) rfl (Nat.le_of_ble_eq_true rfl) dX10_checkCounts_1 rfl (fun q1 => ?_)
  refine z_if_eq 14 7 dX10_checkCounts_4 (by decide) rfl (fun c2 => ?_) (fun c2 => ?_)
  · exact z_sub [] rfl (BX10_checkCounts_14 b0 q1.2 )
  · refine z_iload_n 8 2 dX10_checkCounts_7 rfl rfl ?_
    refine z_callSi 11 (mX10_isSlot b0 x2 q1.2) zyX10_isSlot rfl w_297 wt_yX10_isSlot (Nat.le_of_ble_eq_true rfl) rfl (Nat.le_of_ble_eq_true rfl) dX10_checkCounts_8 rfl (fun q3 => ?_)
    refine z_if_ne 17 14 dX10_checkCounts_11 (by decide) rfl (fun c4 => ?_) (fun c4 => ?_)
    · refine z_aload_n 18 0 dX10_checkCounts_17 rfl rfl ?_
      refine z_getR 21 zC10 (Nat.le_of_ble_eq_true rfl) rfl w_244 dX10_checkCounts_18 rfl (fun v5 _ => ?_)
      refine z_iload_n 22 1 dX10_checkCounts_21 rfl rfl ?_
      refine z_aaload18 23 dX10_checkCounts_22 rfl (fun v6 _ => ?_)
      refine z_astore_n (lv2 := [(3, .ref (b0 + v6)), (0, .ref (b0 + x0)), (1, .int x1), (2, .int x2)]) 24 dX10_checkCounts_23 rfl (Nat.le_of_ble_eq_true rfl) rfl ?_
      refine z_aload_n 25 0 dX10_checkCounts_24 rfl rfl ?_
      refine z_callVi 28 (mX3_exists b0 v6 q3.2) zyX3_exists rfl w_960 (ci := 3) rfl (Nat.le_of_ble_eq_true rfl) (fun _ e9 => kX3_exists e9) wm_yX3_exists ws_yX3_exists (Nat.le_of_ble_eq_true rfl) rfl (Nat.le_of_ble_eq_true rfl) dX10_checkCounts_25 rfl (fun q7 => ?_)
      refine z_if_ne 34 31 dX10_checkCounts_28 (by decide) rfl (fun c8 => ?_) (fun c8 => ?_)
      · refine z_aload_n 35 1 dX10_checkCounts_34 rfl rfl ?_
        refine z_aload_n 36 1 dX10_checkCounts_35 rfl rfl ?_
        refine z_getR 39 zC10 (Nat.le_of_ble_eq_true rfl) rfl w_238 dX10_checkCounts_36 rfl (fun v9 _ => ?_)
        refine z_iload_n 40 3 dX10_checkCounts_39 rfl rfl ?_
        refine z_aaload17 41 dX10_checkCounts_40 rfl (fun v10 _ => ?_)
        refine z_aload_n 42 0 dX10_checkCounts_41 rfl rfl ?_
        refine z_callVi 45 (mX3_length b0 v6 q7.2) zyX3_length rfl w_1002 (ci := 3) rfl (Nat.le_of_ble_eq_true rfl) (fun _ e9 => kX3_length e9) wm_yX3_length ws_yX3_length (Nat.le_of_ble_eq_true rfl) rfl (Nat.le_of_ble_eq_true rfl) dX10_checkCounts_42 rfl (fun q11 => ?_)
        refine z_iconst (nI 1) 46 zki_1 dX10_checkCounts_45 rfl ?_
        refine z_isub 47 dX10_checkCounts_46 rfl ?_
        refine z_callVv 50 (mX10_countWords b0 x0 v10 (q11.1 - (nI 1)) q11.2) zyX10_countWords rfl w_469 (ci := 10) rfl (Nat.le_of_ble_eq_true rfl) (fun _ e9 => kX10_countWords e9) wm_yX10_countWords ws_yX10_countWords (Nat.le_of_ble_eq_true rfl) rfl (Nat.le_of_ble_eq_true rfl) dX10_checkCounts_47 rfl (fun h12 => ?_)
        refine z_iconst (nI 0) 51 zki_0 dX10_checkCounts_50 rfl ?_
        refine z_istore (lv2 := [(4, .int (nI 0)), (3, .ref (b0 + v6)), (0, .ref (b0 + x0)), (1, .int x1), (2, .int x2)]) 53 dX10_checkCounts_51 rfl (Nat.le_of_ble_eq_true rfl) rfl ?_
        exact z_sub [2, 1, 0] rfl (BX10_checkCounts_53 b0 x0 v6 zfu (nI 0) h12)
      · refine z_bipush (-11 : Int32) 33 zkb_m11 dX10_checkCounts_31 rfl ?_
        exact z_ireturn dX10_checkCounts_33 rfl
    · exact z_sub [] rfl (BX10_checkCounts_14 b0 q3.2 )
-- X11_init
def fX11_init (x0 : Nat) (h : ZH) : Option (ZH) :=
  if x0 < zn h ∧ zK h x0 = 11 then ((zala h 14 (nI 192)).bind fun q1 =>
  (pR q1.2 11 x0 0 q1.1).bind fun h2 =>
  (zala h2 14 (nI 32)).bind fun q3 =>
  (pR q3.2 11 x0 1 q3.1).bind fun h4 =>
  (zala h4 14 (nI 320)).bind fun q5 =>
  (pR q5.2 11 x0 2 q5.1).bind fun h6 =>
  (zala h6 14 (nI 10)).bind fun q7 =>
  (pR q7.2 11 x0 3 q7.1).bind fun h8 =>
  (zala h8 14 (nI 192)).bind fun q9 =>
  (pR q9.2 11 x0 5 q9.1).bind fun h10 =>
  (zala h10 14 (nI 120)).bind fun q11 =>
  (pR q11.2 11 x0 7 q11.1).bind fun h12 =>
  (zala h12 14 (nI 1100)).bind fun q13 =>
  (pR q13.2 11 x0 9 q13.1).bind fun h14 =>
  (zala h14 14 (nI 1100)).bind fun q15 =>
  (pR q15.2 11 x0 11 q15.1).bind fun h16 =>
  (zala h16 14 (nI 1024)).bind fun q17 =>
  (pR q17.2 11 x0 13 q17.1).bind fun h18 =>
  (zala h18 15 (nI 7936)).bind fun q19 =>
  (pR q19.2 11 x0 15 q19.1).bind fun h20 =>
  (zala h20 14 (nI 64)).bind fun q21 =>
  (pR q21.2 11 x0 16 q21.1).bind fun h22 =>
  (zala h22 15 (nI 64)).bind fun q23 =>
  (pR q23.2 11 x0 18 q23.1).bind fun h24 =>
  (zala h24 15 (nI 64)).bind fun q25 =>
  (pR q25.2 11 x0 19 q25.1).bind fun h26 =>
  (zala h26 15 (nI 64)).bind fun q27 =>
  (pR q27.2 11 x0 20 q27.1).bind fun h28 =>
  (zala h28 15 (nI 9)).bind fun q29 =>
  (pR q29.2 11 x0 21 q29.1).bind fun h30 =>
  (zala h30 14 (nI 256)).bind fun q31 =>
  (pR q31.2 11 x0 22 q31.1).bind fun h32 =>
  (zala h32 14 (nI 256)).bind fun q33 =>
  (pR q33.2 11 x0 24 q33.1).bind fun h34 =>
  (zala h34 14 (nI 256)).bind fun q35 =>
  (pR q35.2 11 x0 25 q35.1).bind fun h36 =>
  (zala h36 16 (nI 256)).bind fun q37 =>
  (pR q37.2 11 x0 26 q37.1).bind fun h38 =>
  (zala h38 14 (nI 256)).bind fun q39 =>
  (pR q39.2 11 x0 27 q39.1).bind fun h40 =>
  (zala h40 14 (nI 8)).bind fun q41 =>
  (pR q41.2 11 x0 29 q41.1).bind fun h42 =>
  (zala h42 14 (nI 32)).bind fun q43 =>
  (pR q43.2 11 x0 31 q43.1).bind fun h44 =>
  (zala h44 14 (nI 256)).bind fun q45 =>
  (pR q45.2 11 x0 32 q45.1).bind fun h46 =>
  (zala h46 14 (nI 256)).bind fun q47 =>
  (pR q47.2 11 x0 33 q47.1).bind fun h48 =>
  (zala h48 14 (nI 8)).bind fun q49 =>
  (pR q49.2 11 x0 34 q49.1).bind fun h50 =>
  (zala h50 14 (nI 32)).bind fun q51 =>
  (pR q51.2 11 x0 35 q51.1).bind fun h52 =>
  (zala h52 14 (nI 1024)).bind fun q53 =>
  (pR q53.2 11 x0 36 q53.1).bind fun h54 =>
  (zala h54 14 (65536 : Int32)).bind fun q55 =>
  (pR q55.2 11 x0 37 q55.1).bind fun h56 =>
  (zala h56 14 (65536 : Int32)).bind fun q57 =>
  (pR q57.2 11 x0 38 q57.1).bind fun h58 =>
  (zala h58 15 (nI 256)).bind fun q59 =>
  (pR q59.2 11 x0 39 q59.1).bind fun h60 =>
  (zala h60 14 (nI 4)).bind fun q61 =>
  (sI q61.2 14 q61.1 (nI 0) (-1 : Int32)).bind fun h62 =>
  (sI h62 14 q61.1 (nI 1) (-1 : Int32)).bind fun h63 =>
  (sI h63 14 q61.1 (nI 2) (-1 : Int32)).bind fun h64 =>
  (sI h64 14 q61.1 (nI 3) (-1 : Int32)).bind fun h65 =>
  (pR h65 11 x0 40 q61.1).bind fun h66 =>
  (zala h66 14 (nI 4)).bind fun q67 =>
  (pR q67.2 11 x0 41 q67.1).bind fun h68 =>
  (zala h68 14 (nI 120)).bind fun q69 =>
  (pR q69.2 11 x0 42 q69.1).bind fun h70 =>
  (zala h70 13 (nI 120)).bind fun q71 =>
  (pR q71.2 11 x0 43 q71.1).bind fun h72 =>
  some h72) else none
theorem kX11_init {x0 : Nat} {h : ZH} {x : ZH} (e : fX11_init x0 h = some x) : x0 < zn h ∧ zK h x0 = 11 := by
  unfold fX11_init at e
  exact zguard e
theorem mX11_init (b0 : Nat) (x0 : Nat) (h : ZH) : ZM zv b0 YX11_init 2 [.ref (b0 + x0)] h (fX11_init x0 h) := by
  unfold fX11_init
  refine ZM.of (by decide) rfl (Nat.le_of_ble_eq_true rfl) (fun _ => trivial) ?_
  refine z_sub (lv2 := [(0, .ref (b0 + x0))]) [0] rfl ?_
  refine z_guard (fun _ => ?_)
  refine z_aload_n 1 0 dX11_init_0 rfl rfl ?_
  refine z_objInit 4 w_1015 wm_Lib_objectInit wc_Lib_objectInit (Nat.le_of_ble_eq_true rfl) (Nat.le_of_ble_eq_true rfl) dX11_init_1 rfl ?_
  refine z_aload_n 5 0 dX11_init_4 rfl rfl ?_
  refine z_sipush (nI 192) 8 zks_192 dX11_init_5 rfl ?_
  refine z_newA_int 10 wa_int dX11_init_8 rfl (fun q1 => ?_)
  refine z_putF 13 zC11 (Nat.le_of_ble_eq_true rfl) rfl rfl rfl rfl rfl (Or.inl ⟨_, rfl⟩) w_1017 dX11_init_10 rfl (fun h2 _ => ?_)
  refine z_aload_n 14 0 dX11_init_13 rfl rfl ?_
  refine z_bipush (nI 32) 16 zkb_32 dX11_init_14 rfl ?_
  refine z_newA_int 18 wa_int dX11_init_16 rfl (fun q3 => ?_)
  refine z_putF 21 zC11 (Nat.le_of_ble_eq_true rfl) rfl rfl rfl rfl rfl (Or.inl ⟨_, rfl⟩) w_1018 dX11_init_18 rfl (fun h4 _ => ?_)
  refine z_aload_n 22 0 dX11_init_21 rfl rfl ?_
  refine z_sipush (nI 320) 25 zks_320 dX11_init_22 rfl ?_
  refine z_newA_int 27 wa_int dX11_init_25 rfl (fun q5 => ?_)
  refine z_putF 30 zC11 (Nat.le_of_ble_eq_true rfl) rfl rfl rfl rfl rfl (Or.inl ⟨_, rfl⟩) w_1019 dX11_init_27 rfl (fun h6 _ => ?_)
  refine z_aload_n 31 0 dX11_init_30 rfl rfl ?_
  refine z_bipush (nI 10) 33 zkb_10 dX11_init_31 rfl ?_
  refine z_newA_int 35 wa_int dX11_init_33 rfl (fun q7 => ?_)
  refine z_putF 38 zC11 (Nat.le_of_ble_eq_true rfl) rfl rfl rfl rfl rfl (Or.inl ⟨_, rfl⟩) w_1020 dX11_init_35 rfl (fun h8 _ => ?_)
  refine z_aload_n 39 0 dX11_init_38 rfl rfl ?_
  refine z_sipush (nI 192) 42 zks_192 dX11_init_39 rfl ?_
  refine z_newA_int 44 wa_int dX11_init_42 rfl (fun q9 => ?_)
  refine z_putF 47 zC11 (Nat.le_of_ble_eq_true rfl) rfl rfl rfl rfl rfl (Or.inl ⟨_, rfl⟩) w_1022 dX11_init_44 rfl (fun h10 _ => ?_)
  refine z_aload_n 48 0 dX11_init_47 rfl rfl ?_
  refine z_bipush (nI 120) 50 zkb_120 dX11_init_48 rfl ?_
  refine z_newA_int 52 wa_int dX11_init_50 rfl (fun q11 => ?_)
  refine z_putF 55 zC11 (Nat.le_of_ble_eq_true rfl) rfl rfl rfl rfl rfl (Or.inl ⟨_, rfl⟩) w_1024 dX11_init_52 rfl (fun h12 _ => ?_)
  refine z_aload_n 56 0 dX11_init_55 rfl rfl ?_
  refine z_sipush (nI 1100) 59 zks_1100 dX11_init_56 rfl ?_
  refine z_newA_int 61 wa_int dX11_init_59 rfl (fun q13 => ?_)
  refine z_putF 64 zC11 (Nat.le_of_ble_eq_true rfl) rfl rfl rfl rfl rfl (Or.inl ⟨_, rfl⟩) w_1026 dX11_init_61 rfl (fun h14 _ => ?_)
  refine z_aload_n 65 0 dX11_init_64 rfl rfl ?_
  refine z_sipush (nI 1100) 68 zks_1100 dX11_init_65 rfl ?_
  refine z_newA_int 70 wa_int dX11_init_68 rfl (fun q15 => ?_)
  refine z_putF 73 zC11 (Nat.le_of_ble_eq_true rfl) rfl rfl rfl rfl rfl (Or.inl ⟨_, rfl⟩) w_1028 dX11_init_70 rfl (fun h16 _ => ?_)
  refine z_aload_n 74 0 dX11_init_73 rfl rfl ?_
  refine z_sipush (nI 1024) 77 zks_1024 dX11_init_74 rfl ?_
  refine z_newA_int 79 wa_int dX11_init_77 rfl (fun q17 => ?_)
  refine z_putF 82 zC11 (Nat.le_of_ble_eq_true rfl) rfl rfl rfl rfl rfl (Or.inl ⟨_, rfl⟩) w_1030 dX11_init_79 rfl (fun h18 _ => ?_)
  refine z_aload_n 83 0 dX11_init_82 rfl rfl ?_
  refine z_sipush (nI 7936) 86 zks_7936 dX11_init_83 rfl ?_
  refine z_newA_long 88 wa_long dX11_init_86 rfl (fun q19 => ?_)
  refine z_putF 91 zC11 (Nat.le_of_ble_eq_true rfl) rfl rfl rfl rfl rfl (Or.inl ⟨_, rfl⟩) w_1032 dX11_init_88 rfl (fun h20 _ => ?_)
  refine z_aload_n 92 0 dX11_init_91 rfl rfl ?_
  refine z_bipush (nI 64) 94 zkb_64 dX11_init_92 rfl ?_
  refine z_newA_int 96 wa_int dX11_init_94 rfl (fun q21 => ?_)
  refine z_putF 99 zC11 (Nat.le_of_ble_eq_true rfl) rfl rfl rfl rfl rfl (Or.inl ⟨_, rfl⟩) w_1033 dX11_init_96 rfl (fun h22 _ => ?_)
  refine z_aload_n 100 0 dX11_init_99 rfl rfl ?_
  refine z_bipush (nI 64) 102 zkb_64 dX11_init_100 rfl ?_
  refine z_newA_long 104 wa_long dX11_init_102 rfl (fun q23 => ?_)
  refine z_putF 107 zC11 (Nat.le_of_ble_eq_true rfl) rfl rfl rfl rfl rfl (Or.inl ⟨_, rfl⟩) w_1035 dX11_init_104 rfl (fun h24 _ => ?_)
  refine z_aload_n 108 0 dX11_init_107 rfl rfl ?_
  refine z_bipush (nI 64) 110 zkb_64 dX11_init_108 rfl ?_
  refine z_newA_long 112 wa_long dX11_init_110 rfl (fun q25 => ?_)
  refine z_putF 115 zC11 (Nat.le_of_ble_eq_true rfl) rfl rfl rfl rfl rfl (Or.inl ⟨_, rfl⟩) w_1036 dX11_init_112 rfl (fun h26 _ => ?_)
  refine z_aload_n 116 0 dX11_init_115 rfl rfl ?_
  refine z_bipush (nI 64) 118 zkb_64 dX11_init_116 rfl ?_
  refine z_newA_long 120 wa_long dX11_init_118 rfl (fun q27 => ?_)
  refine z_putF 123 zC11 (Nat.le_of_ble_eq_true rfl) rfl rfl rfl rfl rfl (Or.inl ⟨_, rfl⟩) w_1037 dX11_init_120 rfl (fun h28 _ => ?_)
  refine z_aload_n 124 0 dX11_init_123 rfl rfl ?_
  refine z_bipush (nI 9) 126 zkb_9 dX11_init_124 rfl ?_
  refine z_newA_long 128 wa_long dX11_init_126 rfl (fun q29 => ?_)
  refine z_putF 131 zC11 (Nat.le_of_ble_eq_true rfl) rfl rfl rfl rfl rfl (Or.inl ⟨_, rfl⟩) w_1038 dX11_init_128 rfl (fun h30 _ => ?_)
  refine z_aload_n 132 0 dX11_init_131 rfl rfl ?_
  refine z_sipush (nI 256) 135 zks_256 dX11_init_132 rfl ?_
  refine z_newA_int 137 wa_int dX11_init_135 rfl (fun q31 => ?_)
  refine z_putF 140 zC11 (Nat.le_of_ble_eq_true rfl) rfl rfl rfl rfl rfl (Or.inl ⟨_, rfl⟩) w_1039 dX11_init_137 rfl (fun h32 _ => ?_)
  refine z_aload_n 141 0 dX11_init_140 rfl rfl ?_
  refine z_sipush (nI 256) 144 zks_256 dX11_init_141 rfl ?_
  refine z_newA_int 146 wa_int dX11_init_144 rfl (fun q33 => ?_)
  refine z_putF 149 zC11 (Nat.le_of_ble_eq_true rfl) rfl rfl rfl rfl rfl (Or.inl ⟨_, rfl⟩) w_1041 dX11_init_146 rfl (fun h34 _ => ?_)
  refine z_aload_n 150 0 dX11_init_149 rfl rfl ?_
  refine z_sipush (nI 256) 153 zks_256 dX11_init_150 rfl ?_
  refine z_newA_int 155 wa_int dX11_init_153 rfl (fun q35 => ?_)
  refine z_putF 158 zC11 (Nat.le_of_ble_eq_true rfl) rfl rfl rfl rfl rfl (Or.inl ⟨_, rfl⟩) w_1042 dX11_init_155 rfl (fun h36 _ => ?_)
  refine z_aload_n 159 0 dX11_init_158 rfl rfl ?_
  refine z_sipush (nI 256) 162 zks_256 dX11_init_159 rfl ?_
  refine z_newA_boolean 164 wa_boolean dX11_init_162 rfl (fun q37 => ?_)
  refine z_putF 167 zC11 (Nat.le_of_ble_eq_true rfl) rfl rfl rfl rfl rfl (Or.inl ⟨_, rfl⟩) w_1043 dX11_init_164 rfl (fun h38 _ => ?_)
  refine z_aload_n 168 0 dX11_init_167 rfl rfl ?_
  refine z_sipush (nI 256) 171 zks_256 dX11_init_168 rfl ?_
  refine z_newA_int 173 wa_int dX11_init_171 rfl (fun q39 => ?_)
  refine z_putF 176 zC11 (Nat.le_of_ble_eq_true rfl) rfl rfl rfl rfl rfl (Or.inl ⟨_, rfl⟩) w_1044 dX11_init_173 rfl (fun h40 _ => ?_)
  refine z_aload_n 177 0 dX11_init_176 rfl rfl ?_
  refine z_bipush (nI 8) 179 zkb_8 dX11_init_177 rfl ?_
  refine z_newA_int 181 wa_int dX11_init_179 rfl (fun q41 => ?_)
  refine z_putF 184 zC11 (Nat.le_of_ble_eq_true rfl) rfl rfl rfl rfl rfl (Or.inl ⟨_, rfl⟩) w_1046 dX11_init_181 rfl (fun h42 _ => ?_)
  refine z_aload_n 185 0 dX11_init_184 rfl rfl ?_
  refine z_bipush (nI 32) 187 zkb_32 dX11_init_185 rfl ?_
  refine z_newA_int 189 wa_int dX11_init_187 rfl (fun q43 => ?_)
  refine z_putF 192 zC11 (Nat.le_of_ble_eq_true rfl) rfl rfl rfl rfl rfl (Or.inl ⟨_, rfl⟩) w_1048 dX11_init_189 rfl (fun h44 _ => ?_)
  refine z_aload_n 193 0 dX11_init_192 rfl rfl ?_
  refine z_sipush (nI 256) 196 zks_256 dX11_init_193 rfl ?_
  refine z_newA_int 198 wa_int dX11_init_196 rfl (fun q45 => ?_)
  refine z_putF 201 zC11 (Nat.le_of_ble_eq_true rfl) rfl rfl rfl rfl rfl (Or.inl ⟨_, rfl⟩) w_1049 dX11_init_198 rfl (fun h46 _ => ?_)
  refine z_aload_n 202 0 dX11_init_201 rfl rfl ?_
  refine z_sipush (nI 256) 205 zks_256 dX11_init_202 rfl ?_
  refine z_newA_int 207 wa_int dX11_init_205 rfl (fun q47 => ?_)
  refine z_putF 210 zC11 (Nat.le_of_ble_eq_true rfl) rfl rfl rfl rfl rfl (Or.inl ⟨_, rfl⟩) w_1050 dX11_init_207 rfl (fun h48 _ => ?_)
  refine z_aload_n 211 0 dX11_init_210 rfl rfl ?_
  refine z_bipush (nI 8) 213 zkb_8 dX11_init_211 rfl ?_
  refine z_newA_int 215 wa_int dX11_init_213 rfl (fun q49 => ?_)
  refine z_putF 218 zC11 (Nat.le_of_ble_eq_true rfl) rfl rfl rfl rfl rfl (Or.inl ⟨_, rfl⟩) w_1051 dX11_init_215 rfl (fun h50 _ => ?_)
  refine z_aload_n 219 0 dX11_init_218 rfl rfl ?_
  refine z_bipush (nI 32) 221 zkb_32 dX11_init_219 rfl ?_
  refine z_newA_int 223 wa_int dX11_init_221 rfl (fun q51 => ?_)
  refine z_putF 226 zC11 (Nat.le_of_ble_eq_true rfl) rfl rfl rfl rfl rfl (Or.inl ⟨_, rfl⟩) w_1052 dX11_init_223 rfl (fun h52 _ => ?_)
  refine z_aload_n 227 0 dX11_init_226 rfl rfl ?_
  refine z_sipush (nI 1024) 230 zks_1024 dX11_init_227 rfl ?_
  refine z_newA_int 232 wa_int dX11_init_230 rfl (fun q53 => ?_)
  refine z_putF 235 zC11 (Nat.le_of_ble_eq_true rfl) rfl rfl rfl rfl rfl (Or.inl ⟨_, rfl⟩) w_1053 dX11_init_232 rfl (fun h54 _ => ?_)
  refine z_aload_n 236 0 dX11_init_235 rfl rfl ?_
  refine z_ldc 238 w_1016 dX11_init_236 rfl ?_
  refine z_newA_int 240 wa_int dX11_init_238 rfl (fun q55 => ?_)
  refine z_putF 243 zC11 (Nat.le_of_ble_eq_true rfl) rfl rfl rfl rfl rfl (Or.inl ⟨_, rfl⟩) w_1054 dX11_init_240 rfl (fun h56 _ => ?_)
  refine z_aload_n 244 0 dX11_init_243 rfl rfl ?_
  refine z_ldc 246 w_1016 dX11_init_244 rfl ?_
  refine z_newA_int 248 wa_int dX11_init_246 rfl (fun q57 => ?_)
  refine z_putF 251 zC11 (Nat.le_of_ble_eq_true rfl) rfl rfl rfl rfl rfl (Or.inl ⟨_, rfl⟩) w_1055 dX11_init_248 rfl (fun h58 _ => ?_)
  refine z_aload_n 252 0 dX11_init_251 rfl rfl ?_
  refine z_sipush (nI 256) 255 zks_256 dX11_init_252 rfl ?_
  refine z_newA_long 257 wa_long dX11_init_255 rfl (fun q59 => ?_)
  refine z_putF 260 zC11 (Nat.le_of_ble_eq_true rfl) rfl rfl rfl rfl rfl (Or.inl ⟨_, rfl⟩) w_1056 dX11_init_257 rfl (fun h60 _ => ?_)
  refine z_aload_n 261 0 dX11_init_260 rfl rfl ?_
  refine z_iconst (nI 4) 262 zki_4 dX11_init_261 rfl ?_
  refine z_newA_int 264 wa_int dX11_init_262 rfl (fun q61 => ?_)
  refine z_dup 265 rfl dX11_init_264 rfl ?_
  refine z_iconst (nI 0) 266 zki_0 dX11_init_265 rfl ?_
  refine z_iconst (-1 : Int32) 267 zki_m1 dX11_init_266 rfl ?_
  refine z_iastore 268 dX11_init_267 rfl (fun h62 _ => ?_)
  refine z_dup 269 rfl dX11_init_268 rfl ?_
  refine z_iconst (nI 1) 270 zki_1 dX11_init_269 rfl ?_
  refine z_iconst (-1 : Int32) 271 zki_m1 dX11_init_270 rfl ?_
  refine z_iastore 272 dX11_init_271 rfl (fun h63 _ => ?_)
  refine z_dup 273 rfl dX11_init_272 rfl ?_
  refine z_iconst (nI 2) 274 zki_2 dX11_init_273 rfl ?_
  refine z_iconst (-1 : Int32) 275 zki_m1 dX11_init_274 rfl ?_
  refine z_iastore 276 dX11_init_275 rfl (fun h64 _ => ?_)
  refine z_dup 277 rfl dX11_init_276 rfl ?_
  refine z_iconst (nI 3) 278 zki_3 dX11_init_277 rfl ?_
  refine z_iconst (-1 : Int32) 279 zki_m1 dX11_init_278 rfl ?_
  refine z_iastore 280 dX11_init_279 rfl (fun h65 _ => ?_)
  refine z_putF 283 zC11 (Nat.le_of_ble_eq_true rfl) rfl rfl rfl rfl rfl (Or.inl ⟨_, rfl⟩) w_1057 dX11_init_280 rfl (fun h66 _ => ?_)
  refine z_aload_n 284 0 dX11_init_283 rfl rfl ?_
  refine z_iconst (nI 4) 285 zki_4 dX11_init_284 rfl ?_
  refine z_newA_int 287 wa_int dX11_init_285 rfl (fun q67 => ?_)
  refine z_putF 290 zC11 (Nat.le_of_ble_eq_true rfl) rfl rfl rfl rfl rfl (Or.inl ⟨_, rfl⟩) w_1058 dX11_init_287 rfl (fun h68 _ => ?_)
  refine z_aload_n 291 0 dX11_init_290 rfl rfl ?_
  refine z_bipush (nI 120) 293 zkb_120 dX11_init_291 rfl ?_
  refine z_newA_int 295 wa_int dX11_init_293 rfl (fun q69 => ?_)
  refine z_putF 298 zC11 (Nat.le_of_ble_eq_true rfl) rfl rfl rfl rfl rfl (Or.inl ⟨_, rfl⟩) w_1059 dX11_init_295 rfl (fun h70 _ => ?_)
  refine z_aload_n 299 0 dX11_init_298 rfl rfl ?_
  refine z_bipush (nI 120) 301 zkb_120 dX11_init_299 rfl ?_
  refine z_newA_float 303 wa_float dX11_init_301 rfl (fun q71 => ?_)
  refine z_putF 306 zC11 (Nat.le_of_ble_eq_true rfl) rfl rfl rfl rfl rfl (Or.inl ⟨_, rfl⟩) w_1060 dX11_init_303 rfl (fun h72 _ => ?_)
  exact z_return dX11_init_306 rfl
-- X11_isIn
def bX11_isIn_15 (t0 : Int32) (h : ZH) : Option (Int32 × ZH) :=
  if t0 = 0 ∨ t0 = 1 then some (t0, h) else none
theorem BX11_isIn_15 (b0 : Nat) (t0 : Int32) (h : ZH) : Zr zi b0 YX11_isIn 1 15 [] [.int t0] h (bX11_isIn_15 t0 h) := by
  unfold bX11_isIn_15
  exact z_zreturn dX11_isIn_15 rfl
def bX11_isIn_14 (h : ZH) : Option (Int32 × ZH) :=
  bX11_isIn_15 (nI 0) h
theorem BX11_isIn_14 (b0 : Nat) (h : ZH) : Zr zi b0 YX11_isIn 1 14 [] [] h (bX11_isIn_14 h) := by
  unfold bX11_isIn_14
  refine z_iconst (nI 0) 15 zki_0 dX11_isIn_14 rfl ?_
  exact z_sub [] rfl (BX11_isIn_15 b0 (nI 0) h )
def fX11_isIn (x0 : Int32) (x1 : Int32) (x2 : Int32) (h : ZH) : Option (Int32 × ZH) :=
  if x0 < x1 then (bX11_isIn_14 h) else
  (if x2 < x0 then (bX11_isIn_14 h) else
  (bX11_isIn_15 (nI 1) h))
theorem mX11_isIn (b0 : Nat) (x0 : Int32) (x1 : Int32) (x2 : Int32) (h : ZH) : ZM zi b0 YX11_isIn 1 [.int x0, .int x1, .int x2] h (fX11_isIn x0 x1 x2 h) := by
  unfold fX11_isIn
  refine ZM.of (by decide) rfl (Nat.le_of_ble_eq_true rfl) (fun _ => trivial) ?_
  refine z_sub (lv2 := [(0, .int x0), (1, .int x1), (2, .int x2)]) [0, 1, 2] rfl ?_
  refine z_iload_n 1 0 dX11_isIn_0 rfl rfl ?_
  refine z_iload_n 2 1 dX11_isIn_1 rfl rfl ?_
  refine z_icmp_lt 14 5 dX11_isIn_2 (by decide) rfl (fun c1 => ?_) (fun c1 => ?_)
  · exact z_sub [] rfl (BX11_isIn_14 b0 h )
  · refine z_iload_n 6 0 dX11_isIn_5 rfl rfl ?_
    refine z_iload_n 7 2 dX11_isIn_6 rfl rfl ?_
    refine z_icmp_gt 14 10 dX11_isIn_7 (by decide) rfl (fun c2 => ?_) (fun c2 => ?_)
    · exact z_sub [] rfl (BX11_isIn_14 b0 h )
    · refine z_iconst (nI 1) 11 zki_1 dX11_isIn_10 rfl ?_
      refine z_goto 15 dX11_isIn_11 (by decide) ?_
      exact z_sub [] rfl (BX11_isIn_15 b0 (nI 1) h )
-- X11_isSlot
def fX11_isSlot (x0 : Int32) (h : ZH) : Option (Int32 × ZH) :=
  (fX11_isIn x0 (nI 0) (nI 5) h).bind fun q1 =>
  if q1.1 = 0 ∨ q1.1 = 1 then some (q1.1, q1.2) else none
theorem mX11_isSlot (b0 : Nat) (x0 : Int32) (h : ZH) : ZM zi b0 YX11_isSlot 2 [.int x0] h (fX11_isSlot x0 h) := by
  unfold fX11_isSlot
  refine ZM.of (by decide) rfl (Nat.le_of_ble_eq_true rfl) (fun _ => trivial) ?_
  refine z_sub (lv2 := [(0, .int x0)]) [0] rfl ?_
  refine z_iload_n 1 0 dX11_isSlot_0 rfl rfl ?_
  refine z_iconst (nI 0) 2 zki_0 dX11_isSlot_1 rfl ?_
  refine z_iconst (nI 5) 3 zki_5 dX11_isSlot_2 rfl ?_
  refine z_callSi 6 (mX11_isIn b0 x0 (nI 0) (nI 5) h) zyX11_isIn rfl w_1157 wt_yX11_isIn (Nat.le_of_ble_eq_true rfl) rfl (Nat.le_of_ble_eq_true rfl) dX11_isSlot_3 rfl (fun q1 => ?_)
  exact z_zreturn dX11_isSlot_6 rfl
-- X11_isVertex
def fX11_isVertex (x0 : Int32) (h : ZH) : Option (Int32 × ZH) :=
  (fX11_isIn x0 (nI 0) (nI 7) h).bind fun q1 =>
  if q1.1 = 0 ∨ q1.1 = 1 then some (q1.1, q1.2) else none
theorem mX11_isVertex (b0 : Nat) (x0 : Int32) (h : ZH) : ZM zi b0 YX11_isVertex 2 [.int x0] h (fX11_isVertex x0 h) := by
  unfold fX11_isVertex
  refine ZM.of (by decide) rfl (Nat.le_of_ble_eq_true rfl) (fun _ => trivial) ?_
  refine z_sub (lv2 := [(0, .int x0)]) [0] rfl ?_
  refine z_iload_n 1 0 dX11_isVertex_0 rfl rfl ?_
  refine z_iconst (nI 0) 2 zki_0 dX11_isVertex_1 rfl ?_
  refine z_bipush (nI 7) 4 zkb_7 dX11_isVertex_2 rfl ?_
  refine z_callSi 7 (mX11_isIn b0 x0 (nI 0) (nI 7) h) zyX11_isIn rfl w_1157 wt_yX11_isIn (Nat.le_of_ble_eq_true rfl) rfl (Nat.le_of_ble_eq_true rfl) dX11_isVertex_4 rfl (fun q1 => ?_)
  exact z_zreturn dX11_isVertex_7 rfl
-- X11_isLetter
def fX11_isLetter (x0 : Int32) (h : ZH) : Option (Int32 × ZH) :=
  (fX11_isIn x0 (nI 0) (nI 3) h).bind fun q1 =>
  if q1.1 = 0 ∨ q1.1 = 1 then some (q1.1, q1.2) else none
theorem mX11_isLetter (b0 : Nat) (x0 : Int32) (h : ZH) : ZM zi b0 YX11_isLetter 2 [.int x0] h (fX11_isLetter x0 h) := by
  unfold fX11_isLetter
  refine ZM.of (by decide) rfl (Nat.le_of_ble_eq_true rfl) (fun _ => trivial) ?_
  refine z_sub (lv2 := [(0, .int x0)]) [0] rfl ?_
  refine z_iload_n 1 0 dX11_isLetter_0 rfl rfl ?_
  refine z_iconst (nI 0) 2 zki_0 dX11_isLetter_1 rfl ?_
  refine z_iconst (nI 3) 3 zki_3 dX11_isLetter_2 rfl ?_
  refine z_callSi 6 (mX11_isIn b0 x0 (nI 0) (nI 3) h) zyX11_isIn rfl w_1157 wt_yX11_isIn (Nat.le_of_ble_eq_true rfl) rfl (Nat.le_of_ble_eq_true rfl) dX11_isLetter_3 rfl (fun q1 => ?_)
  exact z_zreturn dX11_isLetter_6 rfl
