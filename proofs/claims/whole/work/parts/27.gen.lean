-- X11_words
def bX11_words_17 (h : ZH) : Option (Int64 × ZH) :=
  some ((-2 : Int64), h)
theorem BX11_words_17 (b0 : Nat) (h : ZH) : Zr zj b0 YX11_words 5 17 [] [] h (bX11_words_17 h) := by
  unfold bX11_words_17
  refine z_ldc2 20 w_1262 dX11_words_17 rfl ?_
  exact z_lreturn dX11_words_20 rfl
def fX11_words (x0 : Nat) (x1 : Int32) (x2 : Int32) (h : ZH) : Option (Int64 × ZH) :=
  if x0 < zn h ∧ zK h x0 = 11 then ((fX11_isSlot x1 h).bind fun q1 =>
  if q1.1 = 0 then (bX11_words_17 q1.2) else
  ((fX11_isIn x2 (nI 0) (nI 30) q1.2).bind fun q3 =>
  if q3.1 = 0 then (bX11_words_17 q3.2) else
  ((fX11_prepare x0 x1 q3.2).bind fun h5 =>
  (fX11_countTo x0 x2 h5).bind fun h6 =>
  (gR h6 11 x0 15).bind fun v7 =>
  (gI h6 11 x0 14).bind fun v8 =>
  (lJ h6 v7 (((nI 256) * x2) + v8)).bind fun v9 =>
  some (v9, h6)))) else none
theorem kX11_words {x0 : Nat} {x1 : Int32} {x2 : Int32} {h : ZH} {x : Int64 × ZH} (e : fX11_words x0 x1 x2 h = some x) : x0 < zn h ∧ zK h x0 = 11 := by
  unfold fX11_words at e
  exact zguard e
theorem mX11_words (b0 : Nat) (x0 : Nat) (x1 : Int32) (x2 : Int32) (h : ZH) : ZM zj b0 YX11_words 5 [.ref (b0 + x0), .int x1, .int x2] h (fX11_words x0 x1 x2 h) := by
  unfold fX11_words
  refine ZM.of (by decide) rfl (Nat.le_of_ble_eq_true rfl) (fun _ => trivial) ?_
  refine z_sub (lv2 := [(0, .ref (b0 + x0)), (1, .int x1), (2, .int x2)]) [0, 1, 2] rfl ?_
  refine z_guard (fun _ => ?_)
  refine z_iload_n 1 1 dX11_words_0 rfl rfl ?_
  refine z_callSi 4 (mX11_isSlot b0 x1 h) zyX11_isSlot rfl w_1154 wt_yX11_isSlot (Nat.le_of_ble_eq_true rfl) rfl (Nat.le_of_ble_eq_true rfl) dX11_words_1 rfl (fun q1 => ?_)
  refine z_if_eq 17 7 dX11_words_4 (by decide) rfl (fun c2 => ?_) (fun c2 => ?_)
  · exact z_sub [] rfl (BX11_words_17 b0 q1.2 )
  · refine z_iload_n 8 2 dX11_words_7 rfl rfl ?_
    refine z_iconst (nI 0) 9 zki_0 dX11_words_8 rfl ?_
    refine z_bipush (nI 30) 11 zkb_30 dX11_words_9 rfl ?_
    refine z_callSi 14 (mX11_isIn b0 x2 (nI 0) (nI 30) q1.2) zyX11_isIn rfl w_1157 wt_yX11_isIn (Nat.le_of_ble_eq_true rfl) rfl (Nat.le_of_ble_eq_true rfl) dX11_words_11 rfl (fun q3 => ?_)
    refine z_if_ne 21 17 dX11_words_14 (by decide) rfl (fun c4 => ?_) (fun c4 => ?_)
    · refine z_aload_n 22 0 dX11_words_21 rfl rfl ?_
      refine z_iload_n 23 1 dX11_words_22 rfl rfl ?_
      refine z_callVv 26 (mX11_prepare b0 x0 x1 q3.2) zyX11_prepare rfl w_1263 (ci := 11) rfl (Nat.le_of_ble_eq_true rfl) (fun _ e9 => kX11_prepare e9) wm_yX11_prepare ws_yX11_prepare (Nat.le_of_ble_eq_true rfl) rfl (Nat.le_of_ble_eq_true rfl) dX11_words_23 rfl (fun h5 => ?_)
      refine z_aload_n 27 0 dX11_words_26 rfl rfl ?_
      refine z_iload_n 28 2 dX11_words_27 rfl rfl ?_
      refine z_callVv 31 (mX11_countTo b0 x0 x2 h5) zyX11_countTo rfl w_1271 (ci := 11) rfl (Nat.le_of_ble_eq_true rfl) (fun _ e9 => kX11_countTo e9) wm_yX11_countTo ws_yX11_countTo (Nat.le_of_ble_eq_true rfl) rfl (Nat.le_of_ble_eq_true rfl) dX11_words_28 rfl (fun h6 => ?_)
      refine z_aload_n 32 0 dX11_words_31 rfl rfl ?_
      refine z_getR 35 zC11 (Nat.le_of_ble_eq_true rfl) rfl w_1032 dX11_words_32 rfl (fun v7 _ => ?_)
      refine z_sipush (nI 256) 38 zks_256 dX11_words_35 rfl ?_
      refine z_iload_n 39 2 dX11_words_38 rfl rfl ?_
      refine z_imul 40 dX11_words_39 rfl ?_
      refine z_aload_n 41 0 dX11_words_40 rfl rfl ?_
      refine z_getI 44 zC11 (Nat.le_of_ble_eq_true rfl) rfl w_1031 dX11_words_41 rfl (fun v8 _ => ?_)
      refine z_iadd 45 dX11_words_44 rfl ?_
      refine z_laload 46 dX11_words_45 rfl (fun v9 _ => ?_)
      exact z_lreturn dX11_words_46 rfl
    · exact z_sub [] rfl (BX11_words_17 b0 q3.2 )
-- X11_growth
def bX11_growth_99 (x4 : Int64) (x6 : Int64) (t0 : Int64) (h : ZH) : Option (Int64 × ZH) :=
  (fX11_gcd x4 x6 h).bind fun q1 =>
  if q1.1 = 0 then none else
  some ((t0 / q1.1), q1.2)
theorem BX11_growth_99 (b0 : Nat) (x4 : Int64) (x6 : Int64) (t0 : Int64) (h : ZH) : Zr zj b0 YX11_growth 5 99 [(4, .long x4), (6, .long x6)] [.long t0] h (bX11_growth_99 x4 x6 t0 h) := by
  unfold bX11_growth_99
  refine z_lload 101 0 dX11_growth_99 rfl rfl ?_
  refine z_lload 103 1 dX11_growth_101 rfl rfl ?_
  refine z_callSj 106 (mX11_gcd b0 x4 x6 h) zyX11_gcd rfl w_1255 wt_yX11_gcd (Nat.le_of_ble_eq_true rfl) rfl (Nat.le_of_ble_eq_true rfl) dX11_growth_103 rfl (fun q1 => ?_)
  refine z_ldiv 107 dX11_growth_106 rfl (fun _ => ?_)
  exact z_lreturn dX11_growth_107 rfl
def bX11_growth_26 (h : ZH) : Option (Int64 × ZH) :=
  some ((-2 : Int64), h)
theorem BX11_growth_26 (b0 : Nat) (h : ZH) : Zr zj b0 YX11_growth 5 26 [] [] h (bX11_growth_26 h) := by
  unfold bX11_growth_26
  refine z_ldc2 29 w_1262 dX11_growth_26 rfl ?_
  exact z_lreturn dX11_growth_29 rfl
def fX11_growth (x0 : Nat) (x1 : Int32) (x2 : Int32) (x3 : Int32) (h : ZH) : Option (Int64 × ZH) :=
  if x0 < zn h ∧ zK h x0 = 11 then ((fX11_isSlot x1 h).bind fun q1 =>
  if q1.1 = 0 then (bX11_growth_26 q1.2) else
  ((fX11_isIn x2 (nI 0) (nI 29) q1.2).bind fun q3 =>
  if q3.1 = 0 then (bX11_growth_26 q3.2) else
  ((fX11_isIn x3 (nI 0) (nI 1) q3.2).bind fun q5 =>
  if q5.1 = 0 then (bX11_growth_26 q5.2) else
  ((fX11_prepare x0 x1 q5.2).bind fun h7 =>
  (fX11_countTo x0 (x2 + (nI 1)) h7).bind fun h8 =>
  (gR h8 11 x0 15).bind fun v9 =>
  (gI h8 11 x0 14).bind fun v10 =>
  (lJ h8 v9 (((nI 256) * (x2 + (nI 1))) + v10)).bind fun v11 =>
  (gR h8 11 x0 15).bind fun v12 =>
  (gI h8 11 x0 14).bind fun v13 =>
  (lJ h8 v12 (((nI 256) * x2) + v13)).bind fun v14 =>
  if (lg_cmp v14 (lN 0)) = 0 then (some ((x3.toInt64), h8)) else
  (if x3 = 0 then (bX11_growth_99 v11 v14 v11 h8) else
  (bX11_growth_99 v11 v14 v14 h8)))))) else none
theorem kX11_growth {x0 : Nat} {x1 : Int32} {x2 : Int32} {x3 : Int32} {h : ZH} {x : Int64 × ZH} (e : fX11_growth x0 x1 x2 x3 h = some x) : x0 < zn h ∧ zK h x0 = 11 := by
  unfold fX11_growth at e
  exact zguard e
theorem mX11_growth (b0 : Nat) (x0 : Nat) (x1 : Int32) (x2 : Int32) (x3 : Int32) (h : ZH) : ZM zj b0 YX11_growth 5 [.ref (b0 + x0), .int x1, .int x2, .int x3] h (fX11_growth x0 x1 x2 x3 h) := by
  unfold fX11_growth
  refine ZM.of (by decide) rfl (Nat.le_of_ble_eq_true rfl) (fun _ => trivial) ?_
  refine z_sub (lv2 := [(0, .ref (b0 + x0)), (1, .int x1), (2, .int x2), (3, .int x3)]) [0, 1, 2, 3] rfl ?_
  refine z_guard (fun _ => ?_)
  refine z_iload_n 1 1 dX11_growth_0 rfl rfl ?_
  refine z_callSi 4 (mX11_isSlot b0 x1 h) zyX11_isSlot rfl w_1154 wt_yX11_isSlot (Nat.le_of_ble_eq_true rfl) rfl (Nat.le_of_ble_eq_true rfl) dX11_growth_1 rfl (fun q1 => ?_)
  refine z_if_eq 26 7 dX11_growth_4 (by decide) rfl (fun c2 => ?_) (fun c2 => ?_)
  · exact z_sub [] rfl (BX11_growth_26 b0 q1.2 )
  · refine z_iload_n 8 2 dX11_growth_7 rfl rfl ?_
    refine z_iconst (nI 0) 9 zki_0 dX11_growth_8 rfl ?_
    refine z_bipush (nI 29) 11 zkb_29 dX11_growth_9 rfl ?_
    refine z_callSi 14 (mX11_isIn b0 x2 (nI 0) (nI 29) q1.2) zyX11_isIn rfl w_1157 wt_yX11_isIn (Nat.le_of_ble_eq_true rfl) rfl (Nat.le_of_ble_eq_true rfl) dX11_growth_11 rfl (fun q3 => ?_)
    refine z_if_eq 26 17 dX11_growth_14 (by decide) rfl (fun c4 => ?_) (fun c4 => ?_)
    · exact z_sub [] rfl (BX11_growth_26 b0 q3.2 )
    · refine z_iload_n 18 3 dX11_growth_17 rfl rfl ?_
      refine z_iconst (nI 0) 19 zki_0 dX11_growth_18 rfl ?_
      refine z_iconst (nI 1) 20 zki_1 dX11_growth_19 rfl ?_
      refine z_callSi 23 (mX11_isIn b0 x3 (nI 0) (nI 1) q3.2) zyX11_isIn rfl w_1157 wt_yX11_isIn (Nat.le_of_ble_eq_true rfl) rfl (Nat.le_of_ble_eq_true rfl) dX11_growth_20 rfl (fun q5 => ?_)
      refine z_if_ne 30 26 dX11_growth_23 (by decide) rfl (fun c6 => ?_) (fun c6 => ?_)
      · refine z_aload_n 31 0 dX11_growth_30 rfl rfl ?_
        refine z_iload_n 32 1 dX11_growth_31 rfl rfl ?_
        refine z_callVv 35 (mX11_prepare b0 x0 x1 q5.2) zyX11_prepare rfl w_1263 (ci := 11) rfl (Nat.le_of_ble_eq_true rfl) (fun _ e9 => kX11_prepare e9) wm_yX11_prepare ws_yX11_prepare (Nat.le_of_ble_eq_true rfl) rfl (Nat.le_of_ble_eq_true rfl) dX11_growth_32 rfl (fun h7 => ?_)
        refine z_aload_n 36 0 dX11_growth_35 rfl rfl ?_
        refine z_iload_n 37 2 dX11_growth_36 rfl rfl ?_
        refine z_iconst (nI 1) 38 zki_1 dX11_growth_37 rfl ?_
        refine z_iadd 39 dX11_growth_38 rfl ?_
        refine z_callVv 42 (mX11_countTo b0 x0 (x2 + (nI 1)) h7) zyX11_countTo rfl w_1271 (ci := 11) rfl (Nat.le_of_ble_eq_true rfl) (fun _ e9 => kX11_countTo e9) wm_yX11_countTo ws_yX11_countTo (Nat.le_of_ble_eq_true rfl) rfl (Nat.le_of_ble_eq_true rfl) dX11_growth_39 rfl (fun h8 => ?_)
        refine z_aload_n 43 0 dX11_growth_42 rfl rfl ?_
        refine z_getR 46 zC11 (Nat.le_of_ble_eq_true rfl) rfl w_1032 dX11_growth_43 rfl (fun v9 _ => ?_)
        refine z_sipush (nI 256) 49 zks_256 dX11_growth_46 rfl ?_
        refine z_iload_n 50 2 dX11_growth_49 rfl rfl ?_
        refine z_iconst (nI 1) 51 zki_1 dX11_growth_50 rfl ?_
        refine z_iadd 52 dX11_growth_51 rfl ?_
        refine z_imul 53 dX11_growth_52 rfl ?_
        refine z_aload_n 54 0 dX11_growth_53 rfl rfl ?_
        refine z_getI 57 zC11 (Nat.le_of_ble_eq_true rfl) rfl w_1031 dX11_growth_54 rfl (fun v10 _ => ?_)
        refine z_iadd 58 dX11_growth_57 rfl ?_
        refine z_laload 59 dX11_growth_58 rfl (fun v11 _ => ?_)
        refine z_lstore (lv2 := [(4, .long v11), (0, .ref (b0 + x0)), (1, .int x1), (2, .int x2), (3, .int x3)]) 61 dX11_growth_59 rfl (Nat.le_of_ble_eq_true rfl) rfl ?_
        refine z_aload_n 62 1 dX11_growth_61 rfl rfl ?_
        refine z_getR 65 zC11 (Nat.le_of_ble_eq_true rfl) rfl w_1032 dX11_growth_62 rfl (fun v12 _ => ?_)
        refine z_sipush (nI 256) 68 zks_256 dX11_growth_65 rfl ?_
        refine z_iload_n 69 3 dX11_growth_68 rfl rfl ?_
        refine z_imul 70 dX11_growth_69 rfl ?_
        refine z_aload_n 71 1 dX11_growth_70 rfl rfl ?_
        refine z_getI 74 zC11 (Nat.le_of_ble_eq_true rfl) rfl w_1031 dX11_growth_71 rfl (fun v13 _ => ?_)
        refine z_iadd 75 dX11_growth_74 rfl ?_
        refine z_laload 76 dX11_growth_75 rfl (fun v14 _ => ?_)
        refine z_lstore (lv2 := [(6, .long v14), (4, .long v11), (0, .ref (b0 + x0)), (1, .int x1), (2, .int x2), (3, .int x3)]) 78 dX11_growth_76 rfl (Nat.le_of_ble_eq_true rfl) rfl ?_
        refine z_lload 80 0 dX11_growth_78 rfl rfl ?_
        refine z_lconst (lN 0) 81 rfl dX11_growth_80 rfl ?_
        refine z_lcmp 82 dX11_growth_81 rfl ?_
        refine z_if_ne 88 85 dX11_growth_82 (by decide) rfl (fun c15 => ?_) (fun c15 => ?_)
        · refine z_iload_n 89 5 dX11_growth_88 rfl rfl ?_
          refine z_if_ne 97 92 dX11_growth_89 (by decide) rfl (fun c16 => ?_) (fun c16 => ?_)
          · refine z_lload 99 0 dX11_growth_97 rfl rfl ?_
            exact z_sub [1, 0] rfl (BX11_growth_99 b0 v11 v14 v14 h8 )
          · refine z_lload 94 1 dX11_growth_92 rfl rfl ?_
            refine z_goto 99 dX11_growth_94 (by decide) ?_
            exact z_sub [1, 0] rfl (BX11_growth_99 b0 v11 v14 v11 h8 )
        · refine z_iload_n 86 5 dX11_growth_85 rfl rfl ?_
          refine z_i2l 87 dX11_growth_86 rfl ?_
          exact z_lreturn dX11_growth_87 rfl
      · exact z_sub [] rfl (BX11_growth_26 b0 q5.2 )
-- X11_behind
def kX11_behind_6 (x0 : Nat) (x3 : Int32) (self6 : Int32 × Int32 × ZH → Option (Int32 × ZH)) (x4 : Int32) (x5 : Int32) (h : ZH) : Option (Int32 × ZH) :=
  if x3 ≤ x5 then (some (x4, h)) else
  ((gR h 11 x0 13).bind fun v2 =>
  (gR h 11 x0 11).bind fun v3 =>
  (lI h 14 v3 x5).bind fun v4 =>
  (lI h 14 v2 (((nI 4) * x4) + v4)).bind fun v5 =>
  self6 (v5, (x5 + (nI 1)), h))
def lX11_behind_6 (x0 : Nat) (x3 : Int32) : (Int32 × Int32 × ZH → Option (Int32 × ZH)) → Int32 × Int32 × ZH → Option (Int32 × ZH) := fun self s => kX11_behind_6 x0 x3 self s.1 s.2.1 s.2.2
theorem KX11_behind_6 (b0 : Nat) (x0 : Nat) (x3 : Int32) (self6 : Int32 × Int32 × ZH → Option (Int32 × ZH)) (hself6 : ∀ (y4 : Int32) (y5 : Int32) (hh : ZH), Zr zi b0 YX11_behind 1 6 [(0, .ref (b0 + x0)), (3, .int x3), (4, .int y4), (5, .int y5)] [] hh (self6 (y4, y5, hh))) (x4 : Int32) (x5 : Int32) (h : ZH) : Zr zi b0 YX11_behind 1 6 [(0, .ref (b0 + x0)), (3, .int x3), (4, .int x4), (5, .int x5)] [] h (kX11_behind_6 x0 x3 self6 x4 x5 h) := by
  unfold kX11_behind_6
  refine z_iload 8 3 dX11_behind_6 rfl rfl ?_
  refine z_iload_n 9 1 dX11_behind_8 rfl rfl ?_
  refine z_icmp_ge 37 12 dX11_behind_9 (by decide) rfl (fun c1 => ?_) (fun c1 => ?_)
  · refine z_iload 39 2 dX11_behind_37 rfl rfl ?_
    exact z_ireturn dX11_behind_39 rfl
  · refine z_aload_n 13 0 dX11_behind_12 rfl rfl ?_
    refine z_getR 16 zC11 (Nat.le_of_ble_eq_true rfl) rfl w_1030 dX11_behind_13 rfl (fun v2 _ => ?_)
    refine z_iconst (nI 4) 17 zki_4 dX11_behind_16 rfl ?_
    refine z_iload 19 2 dX11_behind_17 rfl rfl ?_
    refine z_imul 20 dX11_behind_19 rfl ?_
    refine z_aload_n 21 0 dX11_behind_20 rfl rfl ?_
    refine z_getR 24 zC11 (Nat.le_of_ble_eq_true rfl) rfl w_1028 dX11_behind_21 rfl (fun v3 _ => ?_)
    refine z_iload 26 3 dX11_behind_24 rfl rfl ?_
    refine z_iaload 27 dX11_behind_26 rfl (fun v4 _ => ?_)
    refine z_iadd 28 dX11_behind_27 rfl ?_
    refine z_iaload 29 dX11_behind_28 rfl (fun v5 _ => ?_)
    refine z_istore (lv2 := [(4, .int v5), (0, .ref (b0 + x0)), (3, .int x3), (5, .int x5)]) 31 dX11_behind_29 rfl (Nat.le_of_ble_eq_true rfl) rfl ?_
    refine z_iinc (lv2 := [(5, .int (x5 + (nI 1))), (4, .int v5), (0, .ref (b0 + x0)), (3, .int x3)]) (nI 1) 34 3 dX11_behind_31 rfl rfl zki_1 (Nat.le_of_ble_eq_true rfl) rfl ?_
    refine z_goto 6 dX11_behind_34 (by decide) ?_
    exact z_sub [2, 3, 1, 0] rfl (hself6 v5 (x5 + (nI 1)) h)
theorem BX11_behind_6 (b0 : Nat) (x0 : Nat) (x3 : Int32) (n : Nat) (x4 : Int32) (x5 : Int32) (h : ZH) : Zr zi b0 YX11_behind 1 6 [(0, .ref (b0 + x0)), (3, .int x3), (4, .int x4), (5, .int x5)] [] h (zloop (lX11_behind_6 x0 x3) n (x4, x5, h)) :=
  zloop_Zr (fun s => [(0, .ref (b0 + x0)), (3, .int x3), (4, .int s.1), (5, .int s.2.1)]) (fun _ => []) (fun s => s.2.2) (lX11_behind_6 x0 x3) (fun self hs s => KX11_behind_6 b0 x0 x3 self (fun y4 y5 hh => hs (y4, y5, hh)) s.1 s.2.1 s.2.2) n (x4, x5, h)
def fX11_behind (x0 : Nat) (x1 : Int32) (x2 : Int32) (x3 : Int32) (h : ZH) : Option (Int32 × ZH) :=
  if x0 < zn h ∧ zK h x0 = 11 then (zloop (lX11_behind_6 x0 x3) zfu (x1, x2, h)) else none
theorem kX11_behind {x0 : Nat} {x1 : Int32} {x2 : Int32} {x3 : Int32} {h : ZH} {x : Int32 × ZH} (e : fX11_behind x0 x1 x2 x3 h = some x) : x0 < zn h ∧ zK h x0 = 11 := by
  unfold fX11_behind at e
  exact zguard e
theorem mX11_behind (b0 : Nat) (x0 : Nat) (x1 : Int32) (x2 : Int32) (x3 : Int32) (h : ZH) : ZM zi b0 YX11_behind 1 [.ref (b0 + x0), .int x1, .int x2, .int x3] h (fX11_behind x0 x1 x2 x3 h) := by
  unfold fX11_behind
  refine ZM.of (by decide) rfl (Nat.le_of_ble_eq_true rfl) (fun _ => trivial) ?_
  refine z_sub (lv2 := [(0, .ref (b0 + x0)), (1, .int x1), (2, .int x2), (3, .int x3)]) [0, 1, 2, 3] rfl ?_
  refine z_guard (fun _ => ?_)
  refine z_iload_n 1 1 dX11_behind_0 rfl rfl ?_
  refine z_istore (lv2 := [(4, .int x1), (0, .ref (b0 + x0)), (1, .int x1), (2, .int x2), (3, .int x3)]) 3 dX11_behind_1 rfl (Nat.le_of_ble_eq_true rfl) rfl ?_
  refine z_iload_n 4 3 dX11_behind_3 rfl rfl ?_
  refine z_istore (lv2 := [(5, .int x2), (4, .int x1), (0, .ref (b0 + x0)), (1, .int x1), (2, .int x2), (3, .int x3)]) 6 dX11_behind_4 rfl (Nat.le_of_ble_eq_true rfl) rfl ?_
  exact z_sub [2, 5, 1, 0] rfl (BX11_behind_6 b0 x0 x3 zfu x1 x2 h)
-- X11_allows
def bX11_allows_51 (t0 : Int32) (h : ZH) : Option (Int32 × ZH) :=
  some (t0, h)
theorem BX11_allows_51 (b0 : Nat) (t0 : Int32) (h : ZH) : Zr zi b0 YX11_allows 5 51 [] [.int t0] h (bX11_allows_51 t0 h) := by
  unfold bX11_allows_51
  exact z_ireturn dX11_allows_51 rfl
def fX11_allows (x0 : Nat) (x1 : Int32) (h : ZH) : Option (Int32 × ZH) :=
  if x0 < zn h ∧ zK h x0 = 11 then ((fX11_isSlot x1 h).bind fun q1 =>
  if q1.1 = 0 then (some ((-2 : Int32), q1.2)) else
  ((fX11_readWord x0 q1.2).bind fun q3 =>
  if q3.1 = (-1 : Int32) then ((fX11_prepare x0 x1 q3.2).bind fun h5 =>
  (gI h5 11 x0 14).bind fun v6 =>
  (gI h5 11 x0 12).bind fun v7 =>
  (fX11_behind x0 v6 (nI 0) v7 h5).bind fun q8 =>
  if q8.1 = 0 then (bX11_allows_51 (nI 0) q8.2) else
  (bX11_allows_51 (nI 1) q8.2)) else
  (some (((-100 : Int32) - q3.1), q3.2)))) else none
theorem kX11_allows {x0 : Nat} {x1 : Int32} {h : ZH} {x : Int32 × ZH} (e : fX11_allows x0 x1 h = some x) : x0 < zn h ∧ zK h x0 = 11 := by
  unfold fX11_allows at e
  exact zguard e
theorem mX11_allows (b0 : Nat) (x0 : Nat) (x1 : Int32) (h : ZH) : ZM zi b0 YX11_allows 5 [.ref (b0 + x0), .int x1] h (fX11_allows x0 x1 h) := by
  unfold fX11_allows
  refine ZM.of (by decide) rfl (Nat.le_of_ble_eq_true rfl) (fun _ => trivial) ?_
  refine z_sub (lv2 := [(0, .ref (b0 + x0)), (1, .int x1)]) [0, 1] rfl ?_
  refine z_guard (fun _ => ?_)
  refine z_iload_n 1 1 dX11_allows_0 rfl rfl ?_
  refine z_callSi 4 (mX11_isSlot b0 x1 h) zyX11_isSlot rfl w_1154 wt_yX11_isSlot (Nat.le_of_ble_eq_true rfl) rfl (Nat.le_of_ble_eq_true rfl) dX11_allows_1 rfl (fun q1 => ?_)
  refine z_if_ne 10 7 dX11_allows_4 (by decide) rfl (fun c2 => ?_) (fun c2 => ?_)
  · refine z_aload_n 11 0 dX11_allows_10 rfl rfl ?_
    refine z_callVi 14 (mX11_readWord b0 x0 q1.2) zyX11_readWord rfl w_1283 (ci := 11) rfl (Nat.le_of_ble_eq_true rfl) (fun _ e9 => kX11_readWord e9) wm_yX11_readWord ws_yX11_readWord (Nat.le_of_ble_eq_true rfl) rfl (Nat.le_of_ble_eq_true rfl) dX11_allows_11 rfl (fun q3 => ?_)
    refine z_istore_n (lv2 := [(2, .int q3.1), (0, .ref (b0 + x0)), (1, .int x1)]) 15 dX11_allows_14 rfl (Nat.le_of_ble_eq_true rfl) rfl ?_
    refine z_iload_n 16 0 dX11_allows_15 rfl rfl ?_
    refine z_iconst (-1 : Int32) 17 zki_m1 dX11_allows_16 rfl ?_
    refine z_icmp_eq 25 20 dX11_allows_17 (by decide) rfl (fun c4 => ?_) (fun c4 => ?_)
    · refine z_aload_n 26 1 dX11_allows_25 rfl rfl ?_
      refine z_iload_n 27 2 dX11_allows_26 rfl rfl ?_
      refine z_callVv 30 (mX11_prepare b0 x0 x1 q3.2) zyX11_prepare rfl w_1263 (ci := 11) rfl (Nat.le_of_ble_eq_true rfl) (fun _ e9 => kX11_prepare e9) wm_yX11_prepare ws_yX11_prepare (Nat.le_of_ble_eq_true rfl) rfl (Nat.le_of_ble_eq_true rfl) dX11_allows_27 rfl (fun h5 => ?_)
      refine z_aload_n 31 1 dX11_allows_30 rfl rfl ?_
      refine z_aload_n 32 1 dX11_allows_31 rfl rfl ?_
      refine z_getI 35 zC11 (Nat.le_of_ble_eq_true rfl) rfl w_1031 dX11_allows_32 rfl (fun v6 _ => ?_)
      refine z_iconst (nI 0) 36 zki_0 dX11_allows_35 rfl ?_
      refine z_aload_n 37 1 dX11_allows_36 rfl rfl ?_
      refine z_getI 40 zC11 (Nat.le_of_ble_eq_true rfl) rfl w_1029 dX11_allows_37 rfl (fun v7 _ => ?_)
      refine z_callVi 43 (mX11_behind b0 x0 v6 (nI 0) v7 h5) zyX11_behind rfl w_1287 (ci := 11) rfl (Nat.le_of_ble_eq_true rfl) (fun _ e9 => kX11_behind e9) wm_yX11_behind ws_yX11_behind (Nat.le_of_ble_eq_true rfl) rfl (Nat.le_of_ble_eq_true rfl) dX11_allows_40 rfl (fun q8 => ?_)
      refine z_if_eq 50 46 dX11_allows_43 (by decide) rfl (fun c9 => ?_) (fun c9 => ?_)
      · refine z_iconst (nI 0) 51 zki_0 dX11_allows_50 rfl ?_
        exact z_sub [] rfl (BX11_allows_51 b0 (nI 0) q8.2 )
      · refine z_iconst (nI 1) 47 zki_1 dX11_allows_46 rfl ?_
        refine z_goto 51 dX11_allows_47 (by decide) ?_
        exact z_sub [] rfl (BX11_allows_51 b0 (nI 1) q8.2 )
    · refine z_bipush (-100 : Int32) 22 zkb_m100 dX11_allows_20 rfl ?_
      refine z_iload_n 23 0 dX11_allows_22 rfl rfl ?_
      refine z_isub 24 dX11_allows_23 rfl ?_
      exact z_ireturn dX11_allows_24 rfl
  · refine z_bipush (-2 : Int32) 9 zkb_m2 dX11_allows_7 rfl ?_
    exact z_ireturn dX11_allows_9 rfl
-- X11_writeWord
def kX11_writeWord_106 (self70 : Int32 × Int64 × Int32 × ZH → Option (Int32 × ZH)) (x0 : Nat) (x2 : Int32) (x5 : Int32) (x8 : Int32) (self106 : Int64 × Int32 × Int64 × ZH → Option (Int32 × ZH)) (x6 : Int64) (x9 : Int32) (x10 : Int64) (h : ZH) : Option (Int32 × ZH) :=
  if (lg_cmp x6 x10) < 0 then ((gR h 11 x0 11).bind fun v2 =>
  (sI h 14 v2 x8 x9).bind fun h3 =>
  (gR h3 11 x0 13).bind fun v4 =>
  (lI h3 14 v4 (((nI 4) * x5) + x9)).bind fun v5 =>
  self70 (v5, x6, (x8 + (nI 1)), h3)) else
  (zl (x6 - x10) fun v6 =>
  (gR h 11 x0 15).bind fun v7 =>
  (gR h 11 x0 13).bind fun v8 =>
  (lI h 14 v8 (((nI 4) * x5) + (x9 + (nI 1)))).bind fun v9 =>
  (lJ h v7 (((nI 256) * ((x2 - (nI 1)) - x8)) + v9)).bind fun v10 =>
  self106 (v6, (x9 + (nI 1)), v10, h))
def lX11_writeWord_106 (self70 : Int32 × Int64 × Int32 × ZH → Option (Int32 × ZH)) (x0 : Nat) (x2 : Int32) (x5 : Int32) (x8 : Int32) : (Int64 × Int32 × Int64 × ZH → Option (Int32 × ZH)) → Int64 × Int32 × Int64 × ZH → Option (Int32 × ZH) := fun self s => kX11_writeWord_106 self70 x0 x2 x5 x8 self s.1 s.2.1 s.2.2.1 s.2.2.2
theorem KX11_writeWord_106 (b0 : Nat) (self70 : Int32 × Int64 × Int32 × ZH → Option (Int32 × ZH)) (x0 : Nat) (x2 : Int32) (x5 : Int32) (x8 : Int32) (hself70 : ∀ (y5 : Int32) (y6 : Int64) (y8 : Int32) (hh : ZH), Zr zi b0 YX11_writeWord 5 70 [(0, .ref (b0 + x0)), (2, .int x2), (5, .int y5), (6, .long y6), (8, .int y8)] [] hh (self70 (y5, y6, y8, hh))) (self106 : Int64 × Int32 × Int64 × ZH → Option (Int32 × ZH)) (hself106 : ∀ (y6 : Int64) (y9 : Int32) (y10 : Int64) (hh : ZH), Zr zi b0 YX11_writeWord 5 106 [(0, .ref (b0 + x0)), (2, .int x2), (5, .int x5), (8, .int x8), (6, .long y6), (9, .int y9), (10, .long y10)] [] hh (self106 (y6, y9, y10, hh))) (x6 : Int64) (x9 : Int32) (x10 : Int64) (h : ZH) : Zr zi b0 YX11_writeWord 5 106 [(0, .ref (b0 + x0)), (2, .int x2), (5, .int x5), (8, .int x8), (6, .long x6), (9, .int x9), (10, .long x10)] [] h (kX11_writeWord_106 self70 x0 x2 x5 x8 self106 x6 x9 x10 h) := by
  unfold kX11_writeWord_106
  refine z_lload 108 4 dX11_writeWord_106 rfl rfl ?_
  refine z_lload 110 6 dX11_writeWord_108 rfl rfl ?_
  refine z_lcmp 111 dX11_writeWord_110 rfl ?_
  refine z_if_lt 157 114 dX11_writeWord_111 (by decide) rfl (fun c1 => ?_) (fun c1 => ?_)
  · refine z_aload_n 158 0 dX11_writeWord_157 rfl rfl ?_
    refine z_getR 161 zC11 (Nat.le_of_ble_eq_true rfl) rfl w_1028 dX11_writeWord_158 rfl (fun v2 _ => ?_)
    refine z_iload 163 3 dX11_writeWord_161 rfl rfl ?_
    refine z_iload 165 5 dX11_writeWord_163 rfl rfl ?_
    refine z_iastore 166 dX11_writeWord_165 rfl (fun h3 _ => ?_)
    refine z_aload_n 167 0 dX11_writeWord_166 rfl rfl ?_
    refine z_getR 170 zC11 (Nat.le_of_ble_eq_true rfl) rfl w_1030 dX11_writeWord_167 rfl (fun v4 _ => ?_)
    refine z_iconst (nI 4) 171 zki_4 dX11_writeWord_170 rfl ?_
    refine z_iload 173 2 dX11_writeWord_171 rfl rfl ?_
    refine z_imul 174 dX11_writeWord_173 rfl ?_
    refine z_iload 176 5 dX11_writeWord_174 rfl rfl ?_
    refine z_iadd 177 dX11_writeWord_176 rfl ?_
    refine z_iaload 178 dX11_writeWord_177 rfl (fun v5 _ => ?_)
    refine z_istore (lv2 := [(5, .int v5), (0, .ref (b0 + x0)), (2, .int x2), (8, .int x8), (6, .long x6), (9, .int x9), (10, .long x10)]) 180 dX11_writeWord_178 rfl (Nat.le_of_ble_eq_true rfl) rfl ?_
    refine z_iinc (lv2 := [(8, .int (x8 + (nI 1))), (5, .int v5), (0, .ref (b0 + x0)), (2, .int x2), (6, .long x6), (9, .int x9), (10, .long x10)]) (nI 1) 183 3 dX11_writeWord_180 rfl rfl zki_1 (Nat.le_of_ble_eq_true rfl) rfl ?_
    refine z_goto 70 dX11_writeWord_183 (by decide) ?_
    exact z_sub [2, 3, 1, 4, 0] rfl (hself70 v5 x6 (x8 + (nI 1)) h3)
  · refine z_lload 116 4 dX11_writeWord_114 rfl rfl ?_
    refine z_lload 118 6 dX11_writeWord_116 rfl rfl ?_
    refine z_lsub 119 dX11_writeWord_118 rfl ?_
    refine z_letJ (fun v6 _ => ?_)
    refine z_lstore (lv2 := [(6, .long v6), (0, .ref (b0 + x0)), (2, .int x2), (5, .int x5), (8, .int x8), (9, .int x9), (10, .long x10)]) 121 dX11_writeWord_119 rfl (Nat.le_of_ble_eq_true rfl) rfl ?_
    refine z_iinc (lv2 := [(9, .int (x9 + (nI 1))), (6, .long v6), (0, .ref (b0 + x0)), (2, .int x2), (5, .int x5), (8, .int x8), (10, .long x10)]) (nI 1) 124 5 dX11_writeWord_121 rfl rfl zki_1 (Nat.le_of_ble_eq_true rfl) rfl ?_
    refine z_aload_n 125 2 dX11_writeWord_124 rfl rfl ?_
    refine z_getR 128 zC11 (Nat.le_of_ble_eq_true rfl) rfl w_1032 dX11_writeWord_125 rfl (fun v7 _ => ?_)
    refine z_sipush (nI 256) 131 zks_256 dX11_writeWord_128 rfl ?_
    refine z_iload_n 132 3 dX11_writeWord_131 rfl rfl ?_
    refine z_iconst (nI 1) 133 zki_1 dX11_writeWord_132 rfl ?_
    refine z_isub 134 dX11_writeWord_133 rfl ?_
    refine z_iload 136 5 dX11_writeWord_134 rfl rfl ?_
    refine z_isub 137 dX11_writeWord_136 rfl ?_
    refine z_imul 138 dX11_writeWord_137 rfl ?_
    refine z_aload_n 139 2 dX11_writeWord_138 rfl rfl ?_
    refine z_getR 142 zC11 (Nat.le_of_ble_eq_true rfl) rfl w_1030 dX11_writeWord_139 rfl (fun v8 _ => ?_)
    refine z_iconst (nI 4) 143 zki_4 dX11_writeWord_142 rfl ?_
    refine z_iload 145 4 dX11_writeWord_143 rfl rfl ?_
    refine z_imul 146 dX11_writeWord_145 rfl ?_
    refine z_iload 148 0 dX11_writeWord_146 rfl rfl ?_
    refine z_iadd 149 dX11_writeWord_148 rfl ?_
    refine z_iaload 150 dX11_writeWord_149 rfl (fun v9 _ => ?_)
    refine z_iadd 151 dX11_writeWord_150 rfl ?_
    refine z_laload 152 dX11_writeWord_151 rfl (fun v10 _ => ?_)
    refine z_lstore (lv2 := [(10, .long v10), (9, .int (x9 + (nI 1))), (6, .long v6), (0, .ref (b0 + x0)), (2, .int x2), (5, .int x5), (8, .int x8)]) 154 dX11_writeWord_152 rfl (Nat.le_of_ble_eq_true rfl) rfl ?_
    refine z_goto 106 dX11_writeWord_154 (by decide) ?_
    exact z_sub [3, 4, 5, 6, 2, 1, 0] rfl (hself106 v6 (x9 + (nI 1)) v10 h)
theorem BX11_writeWord_106 (b0 : Nat) (self70 : Int32 × Int64 × Int32 × ZH → Option (Int32 × ZH)) (x0 : Nat) (x2 : Int32) (x5 : Int32) (x8 : Int32) (hself70 : ∀ (y5 : Int32) (y6 : Int64) (y8 : Int32) (hh : ZH), Zr zi b0 YX11_writeWord 5 70 [(0, .ref (b0 + x0)), (2, .int x2), (5, .int y5), (6, .long y6), (8, .int y8)] [] hh (self70 (y5, y6, y8, hh))) (n : Nat) (x6 : Int64) (x9 : Int32) (x10 : Int64) (h : ZH) : Zr zi b0 YX11_writeWord 5 106 [(0, .ref (b0 + x0)), (2, .int x2), (5, .int x5), (8, .int x8), (6, .long x6), (9, .int x9), (10, .long x10)] [] h (zloop (lX11_writeWord_106 self70 x0 x2 x5 x8) n (x6, x9, x10, h)) :=
  zloop_Zr (fun s => [(0, .ref (b0 + x0)), (2, .int x2), (5, .int x5), (8, .int x8), (6, .long s.1), (9, .int s.2.1), (10, .long s.2.2.1)]) (fun _ => []) (fun s => s.2.2.2) (lX11_writeWord_106 self70 x0 x2 x5 x8) (fun self hs s => KX11_writeWord_106 b0 self70 x0 x2 x5 x8 hself70 self (fun y6 y9 y10 hh => hs (y6, y9, y10, hh)) s.1 s.2.1 s.2.2.1 s.2.2.2) n (x6, x9, x10, h)
def kX11_writeWord_70 (x0 : Nat) (x2 : Int32) (self70 : Int32 × Int64 × Int32 × ZH → Option (Int32 × ZH)) (x5 : Int32) (x6 : Int64) (x8 : Int32) (h : ZH) : Option (Int32 × ZH) :=
  if x2 ≤ x8 then ((pI h 11 x0 12 x2).bind fun h2 =>
  (fX11_writeOut x0 h2).bind fun q3 =>
  some (q3.1, q3.2)) else
  ((gR h 11 x0 15).bind fun v4 =>
  (gR h 11 x0 13).bind fun v5 =>
  (lI h 14 v5 ((nI 4) * x5)).bind fun v6 =>
  (lJ h v4 (((nI 256) * ((x2 - (nI 1)) - x8)) + v6)).bind fun v7 =>
  zloop (lX11_writeWord_106 self70 x0 x2 x5 x8) zfu (x6, (nI 0), v7, h))
def lX11_writeWord_70 (x0 : Nat) (x2 : Int32) : (Int32 × Int64 × Int32 × ZH → Option (Int32 × ZH)) → Int32 × Int64 × Int32 × ZH → Option (Int32 × ZH) := fun self s => kX11_writeWord_70 x0 x2 self s.1 s.2.1 s.2.2.1 s.2.2.2
theorem KX11_writeWord_70 (b0 : Nat) (x0 : Nat) (x2 : Int32) (self70 : Int32 × Int64 × Int32 × ZH → Option (Int32 × ZH)) (hself70 : ∀ (y5 : Int32) (y6 : Int64) (y8 : Int32) (hh : ZH), Zr zi b0 YX11_writeWord 5 70 [(0, .ref (b0 + x0)), (2, .int x2), (5, .int y5), (6, .long y6), (8, .int y8)] [] hh (self70 (y5, y6, y8, hh))) (x5 : Int32) (x6 : Int64) (x8 : Int32) (h : ZH) : Zr zi b0 YX11_writeWord 5 70 [(0, .ref (b0 + x0)), (2, .int x2), (5, .int x5), (6, .long x6), (8, .int x8)] [] h (kX11_writeWord_70 x0 x2 self70 x5 x6 x8 h) := by
  unfold kX11_writeWord_70
  refine z_iload 72 4 dX11_writeWord_70 rfl rfl ?_
  refine z_iload_n 73 1 dX11_writeWord_72 rfl rfl ?_
  refine z_icmp_ge 186 76 dX11_writeWord_73 (by decide) rfl (fun c1 => ?_) (fun c1 => ?_)
  · refine z_aload_n 187 0 dX11_writeWord_186 rfl rfl ?_
    refine z_iload_n 188 1 dX11_writeWord_187 rfl rfl ?_
    refine z_putI 191 zC11 (Nat.le_of_ble_eq_true rfl) rfl rfl rfl w_1029 dX11_writeWord_188 rfl (fun h2 _ => ?_)
    refine z_aload_n 192 0 dX11_writeWord_191 rfl rfl ?_
    refine z_callVi 195 (mX11_writeOut b0 x0 h2) zyX11_writeOut rfl w_1295 (ci := 11) rfl (Nat.le_of_ble_eq_true rfl) (fun _ e9 => kX11_writeOut e9) wm_yX11_writeOut ws_yX11_writeOut (Nat.le_of_ble_eq_true rfl) rfl (Nat.le_of_ble_eq_true rfl) dX11_writeWord_192 rfl (fun q3 => ?_)
    exact z_ireturn dX11_writeWord_195 rfl
  · refine z_iconst (nI 0) 77 zki_0 dX11_writeWord_76 rfl ?_
    refine z_istore (lv2 := [(9, .int (nI 0)), (0, .ref (b0 + x0)), (2, .int x2), (5, .int x5), (6, .long x6), (8, .int x8)]) 79 dX11_writeWord_77 rfl (Nat.le_of_ble_eq_true rfl) rfl ?_
    refine z_aload_n 80 1 dX11_writeWord_79 rfl rfl ?_
    refine z_getR 83 zC11 (Nat.le_of_ble_eq_true rfl) rfl w_1032 dX11_writeWord_80 rfl (fun v4 _ => ?_)
    refine z_sipush (nI 256) 86 zks_256 dX11_writeWord_83 rfl ?_
    refine z_iload_n 87 2 dX11_writeWord_86 rfl rfl ?_
    refine z_iconst (nI 1) 88 zki_1 dX11_writeWord_87 rfl ?_
    refine z_isub 89 dX11_writeWord_88 rfl ?_
    refine z_iload 91 5 dX11_writeWord_89 rfl rfl ?_
    refine z_isub 92 dX11_writeWord_91 rfl ?_
    refine z_imul 93 dX11_writeWord_92 rfl ?_
    refine z_aload_n 94 1 dX11_writeWord_93 rfl rfl ?_
    refine z_getR 97 zC11 (Nat.le_of_ble_eq_true rfl) rfl w_1030 dX11_writeWord_94 rfl (fun v5 _ => ?_)
    refine z_iconst (nI 4) 98 zki_4 dX11_writeWord_97 rfl ?_
    refine z_iload 100 3 dX11_writeWord_98 rfl rfl ?_
    refine z_imul 101 dX11_writeWord_100 rfl ?_
    refine z_iaload 102 dX11_writeWord_101 rfl (fun v6 _ => ?_)
    refine z_iadd 103 dX11_writeWord_102 rfl ?_
    refine z_laload 104 dX11_writeWord_103 rfl (fun v7 _ => ?_)
    refine z_lstore (lv2 := [(10, .long v7), (9, .int (nI 0)), (0, .ref (b0 + x0)), (2, .int x2), (5, .int x5), (6, .long x6), (8, .int x8)]) 106 dX11_writeWord_104 rfl (Nat.le_of_ble_eq_true rfl) rfl ?_
    exact z_sub [2, 3, 4, 6, 5, 1, 0] rfl (BX11_writeWord_106 b0 self70 x0 x2 x5 x8 hself70 zfu x6 (nI 0) v7 h)
theorem BX11_writeWord_70 (b0 : Nat) (x0 : Nat) (x2 : Int32) (n : Nat) (x5 : Int32) (x6 : Int64) (x8 : Int32) (h : ZH) : Zr zi b0 YX11_writeWord 5 70 [(0, .ref (b0 + x0)), (2, .int x2), (5, .int x5), (6, .long x6), (8, .int x8)] [] h (zloop (lX11_writeWord_70 x0 x2) n (x5, x6, x8, h)) :=
  zloop_Zr (fun s => [(0, .ref (b0 + x0)), (2, .int x2), (5, .int s.1), (6, .long s.2.1), (8, .int s.2.2.1)]) (fun _ => []) (fun s => s.2.2.2) (lX11_writeWord_70 x0 x2) (fun self hs s => KX11_writeWord_70 b0 x0 x2 self (fun y5 y6 y8 hh => hs (y5, y6, y8, hh)) s.1 s.2.1 s.2.2.1 s.2.2.2) n (x5, x6, x8, h)
def bX11_writeWord_56 (h : ZH) : Option (Int32 × ZH) :=
  some ((-1 : Int32), h)
theorem BX11_writeWord_56 (b0 : Nat) (h : ZH) : Zr zi b0 YX11_writeWord 5 56 [] [] h (bX11_writeWord_56 h) := by
  unfold bX11_writeWord_56
  refine z_iconst (-1 : Int32) 57 zki_m1 dX11_writeWord_56 rfl ?_
  exact z_ireturn dX11_writeWord_57 rfl
def bX11_writeWord_17 (h : ZH) : Option (Int32 × ZH) :=
  some ((-2 : Int32), h)
theorem BX11_writeWord_17 (b0 : Nat) (h : ZH) : Zr zi b0 YX11_writeWord 5 17 [] [] h (bX11_writeWord_17 h) := by
  unfold bX11_writeWord_17
  refine z_bipush (-2 : Int32) 19 zkb_m2 dX11_writeWord_17 rfl ?_
  exact z_ireturn dX11_writeWord_19 rfl
def fX11_writeWord (x0 : Nat) (x1 : Int32) (x2 : Int32) (x3 : Int64) (h : ZH) : Option (Int32 × ZH) :=
  if x0 < zn h ∧ zK h x0 = 11 then ((fX11_isSlot x1 h).bind fun q1 =>
  if q1.1 = 0 then (bX11_writeWord_17 q1.2) else
  ((fX11_isIn x2 (nI 0) (nI 30) q1.2).bind fun q3 =>
  if q3.1 = 0 then (bX11_writeWord_17 q3.2) else
  ((fX11_prepare x0 x1 q3.2).bind fun h5 =>
  (fX11_countTo x0 x2 h5).bind fun h6 =>
  if (lg_cmp x3 (lN 0)) < 0 then (bX11_writeWord_56 h6) else
  ((gR h6 11 x0 15).bind fun v8 =>
  (gI h6 11 x0 14).bind fun v9 =>
  (lJ h6 v8 (((nI 256) * x2) + v9)).bind fun v10 =>
  if (lg_cmp x3 v10) < 0 then ((gI h6 11 x0 14).bind fun v12 =>
  zloop (lX11_writeWord_70 x0 x2) zfu (v12, x3, (nI 0), h6)) else
  (bX11_writeWord_56 h6))))) else none
theorem kX11_writeWord {x0 : Nat} {x1 : Int32} {x2 : Int32} {x3 : Int64} {h : ZH} {x : Int32 × ZH} (e : fX11_writeWord x0 x1 x2 x3 h = some x) : x0 < zn h ∧ zK h x0 = 11 := by
  unfold fX11_writeWord at e
  exact zguard e
theorem mX11_writeWord (b0 : Nat) (x0 : Nat) (x1 : Int32) (x2 : Int32) (x3 : Int64) (h : ZH) : ZM zi b0 YX11_writeWord 5 [.ref (b0 + x0), .int x1, .int x2, .long x3] h (fX11_writeWord x0 x1 x2 x3 h) := by
  unfold fX11_writeWord
  refine ZM.of (by decide) rfl (Nat.le_of_ble_eq_true rfl) (fun _ => trivial) ?_
  refine z_sub (lv2 := [(0, .ref (b0 + x0)), (1, .int x1), (2, .int x2), (3, .long x3)]) [0, 1, 2, 3] rfl ?_
  refine z_guard (fun _ => ?_)
  refine z_iload_n 1 1 dX11_writeWord_0 rfl rfl ?_
  refine z_callSi 4 (mX11_isSlot b0 x1 h) zyX11_isSlot rfl w_1154 wt_yX11_isSlot (Nat.le_of_ble_eq_true rfl) rfl (Nat.le_of_ble_eq_true rfl) dX11_writeWord_1 rfl (fun q1 => ?_)
  refine z_if_eq 17 7 dX11_writeWord_4 (by decide) rfl (fun c2 => ?_) (fun c2 => ?_)
  · exact z_sub [] rfl (BX11_writeWord_17 b0 q1.2 )
  · refine z_iload_n 8 2 dX11_writeWord_7 rfl rfl ?_
    refine z_iconst (nI 0) 9 zki_0 dX11_writeWord_8 rfl ?_
    refine z_bipush (nI 30) 11 zkb_30 dX11_writeWord_9 rfl ?_
    refine z_callSi 14 (mX11_isIn b0 x2 (nI 0) (nI 30) q1.2) zyX11_isIn rfl w_1157 wt_yX11_isIn (Nat.le_of_ble_eq_true rfl) rfl (Nat.le_of_ble_eq_true rfl) dX11_writeWord_11 rfl (fun q3 => ?_)
    refine z_if_ne 20 17 dX11_writeWord_14 (by decide) rfl (fun c4 => ?_) (fun c4 => ?_)
    · refine z_aload_n 21 0 dX11_writeWord_20 rfl rfl ?_
      refine z_iload_n 22 1 dX11_writeWord_21 rfl rfl ?_
      refine z_callVv 25 (mX11_prepare b0 x0 x1 q3.2) zyX11_prepare rfl w_1263 (ci := 11) rfl (Nat.le_of_ble_eq_true rfl) (fun _ e9 => kX11_prepare e9) wm_yX11_prepare ws_yX11_prepare (Nat.le_of_ble_eq_true rfl) rfl (Nat.le_of_ble_eq_true rfl) dX11_writeWord_22 rfl (fun h5 => ?_)
      refine z_aload_n 26 0 dX11_writeWord_25 rfl rfl ?_
      refine z_iload_n 27 2 dX11_writeWord_26 rfl rfl ?_
      refine z_callVv 30 (mX11_countTo b0 x0 x2 h5) zyX11_countTo rfl w_1271 (ci := 11) rfl (Nat.le_of_ble_eq_true rfl) (fun _ e9 => kX11_countTo e9) wm_yX11_countTo ws_yX11_countTo (Nat.le_of_ble_eq_true rfl) rfl (Nat.le_of_ble_eq_true rfl) dX11_writeWord_27 rfl (fun h6 => ?_)
      refine z_lload_n 31 3 dX11_writeWord_30 rfl rfl ?_
      refine z_lconst (lN 0) 32 rfl dX11_writeWord_31 rfl ?_
      refine z_lcmp 33 dX11_writeWord_32 rfl ?_
      refine z_if_lt 56 36 dX11_writeWord_33 (by decide) rfl (fun c7 => ?_) (fun c7 => ?_)
      · exact z_sub [] rfl (BX11_writeWord_56 b0 h6 )
      · refine z_lload_n 37 3 dX11_writeWord_36 rfl rfl ?_
        refine z_aload_n 38 0 dX11_writeWord_37 rfl rfl ?_
        refine z_getR 41 zC11 (Nat.le_of_ble_eq_true rfl) rfl w_1032 dX11_writeWord_38 rfl (fun v8 _ => ?_)
        refine z_sipush (nI 256) 44 zks_256 dX11_writeWord_41 rfl ?_
        refine z_iload_n 45 2 dX11_writeWord_44 rfl rfl ?_
        refine z_imul 46 dX11_writeWord_45 rfl ?_
        refine z_aload_n 47 0 dX11_writeWord_46 rfl rfl ?_
        refine z_getI 50 zC11 (Nat.le_of_ble_eq_true rfl) rfl w_1031 dX11_writeWord_47 rfl (fun v9 _ => ?_)
        refine z_iadd 51 dX11_writeWord_50 rfl ?_
        refine z_laload 52 dX11_writeWord_51 rfl (fun v10 _ => ?_)
        refine z_lcmp 53 dX11_writeWord_52 rfl ?_
        refine z_if_lt 58 56 dX11_writeWord_53 (by decide) rfl (fun c11 => ?_) (fun c11 => ?_)
        · refine z_aload_n 59 0 dX11_writeWord_58 rfl rfl ?_
          refine z_getI 62 zC11 (Nat.le_of_ble_eq_true rfl) rfl w_1031 dX11_writeWord_59 rfl (fun v12 _ => ?_)
          refine z_istore (lv2 := [(5, .int v12), (0, .ref (b0 + x0)), (1, .int x1), (2, .int x2), (3, .long x3)]) 64 dX11_writeWord_62 rfl (Nat.le_of_ble_eq_true rfl) rfl ?_
          refine z_lload_n 65 4 dX11_writeWord_64 rfl rfl ?_
          refine z_lstore (lv2 := [(6, .long x3), (5, .int v12), (0, .ref (b0 + x0)), (1, .int x1), (2, .int x2), (3, .long x3)]) 67 dX11_writeWord_65 rfl (Nat.le_of_ble_eq_true rfl) rfl ?_
          refine z_iconst (nI 0) 68 zki_0 dX11_writeWord_67 rfl ?_
          refine z_istore (lv2 := [(8, .int (nI 0)), (6, .long x3), (5, .int v12), (0, .ref (b0 + x0)), (1, .int x1), (2, .int x2), (3, .long x3)]) 70 dX11_writeWord_68 rfl (Nat.le_of_ble_eq_true rfl) rfl ?_
          exact z_sub [3, 5, 2, 1, 0] rfl (BX11_writeWord_70 b0 x0 x2 zfu v12 x3 (nI 0) h6)
        · exact z_sub [] rfl (BX11_writeWord_56 b0 h6 )
    · exact z_sub [] rfl (BX11_writeWord_17 b0 q3.2 )
-- X11_spell
def kX11_spell_7 (x0 : Nat) (x1 : Int32) (x2 : Int32) (self7 : Int32 × ZH → Option (ZH)) (x3 : Int32) (h : ZH) : Option (ZH) :=
  if x1 ≤ x3 then (some h) else
  ((gR h 11 x0 11).bind fun v2 =>
  (sI h 14 v2 x3 ((jshr x2 ((nI 2) * ((x1 - (nI 1)) - x3))) &&& (nI 3))).bind fun h3 =>
  self7 ((x3 + (nI 1)), h3))
def lX11_spell_7 (x0 : Nat) (x1 : Int32) (x2 : Int32) : (Int32 × ZH → Option (ZH)) → Int32 × ZH → Option (ZH) := fun self s => kX11_spell_7 x0 x1 x2 self s.1 s.2
theorem KX11_spell_7 (b0 : Nat) (x0 : Nat) (x1 : Int32) (x2 : Int32) (self7 : Int32 × ZH → Option (ZH)) (hself7 : ∀ (y3 : Int32) (hh : ZH), Zr zv b0 YX11_spell 1 7 [(0, .ref (b0 + x0)), (1, .int x1), (2, .int x2), (3, .int y3)] [] hh (self7 (y3, hh))) (x3 : Int32) (h : ZH) : Zr zv b0 YX11_spell 1 7 [(0, .ref (b0 + x0)), (1, .int x1), (2, .int x2), (3, .int x3)] [] h (kX11_spell_7 x0 x1 x2 self7 x3 h) := by
  unfold kX11_spell_7
  refine z_iload_n 8 3 dX11_spell_7 rfl rfl ?_
  refine z_iload_n 9 1 dX11_spell_8 rfl rfl ?_
  refine z_icmp_ge 35 12 dX11_spell_9 (by decide) rfl (fun c1 => ?_) (fun c1 => ?_)
  · exact z_return dX11_spell_35 rfl
  · refine z_aload_n 13 0 dX11_spell_12 rfl rfl ?_
    refine z_getR 16 zC11 (Nat.le_of_ble_eq_true rfl) rfl w_1028 dX11_spell_13 rfl (fun v2 _ => ?_)
    refine z_iload_n 17 3 dX11_spell_16 rfl rfl ?_
    refine z_iload_n 18 2 dX11_spell_17 rfl rfl ?_
    refine z_iconst (nI 2) 19 zki_2 dX11_spell_18 rfl ?_
    refine z_iload_n 20 1 dX11_spell_19 rfl rfl ?_
    refine z_iconst (nI 1) 21 zki_1 dX11_spell_20 rfl ?_
    refine z_isub 22 dX11_spell_21 rfl ?_
    refine z_iload_n 23 3 dX11_spell_22 rfl rfl ?_
    refine z_isub 24 dX11_spell_23 rfl ?_
    refine z_imul 25 dX11_spell_24 rfl ?_
    refine z_ishr 26 dX11_spell_25 rfl ?_
    refine z_iconst (nI 3) 27 zki_3 dX11_spell_26 rfl ?_
    refine z_iand 28 dX11_spell_27 rfl ?_
    refine z_iastore 29 dX11_spell_28 rfl (fun h3 _ => ?_)
    refine z_iinc (lv2 := [(3, .int (x3 + (nI 1))), (0, .ref (b0 + x0)), (1, .int x1), (2, .int x2)]) (nI 1) 32 3 dX11_spell_29 rfl rfl zki_1 (Nat.le_of_ble_eq_true rfl) rfl ?_
    refine z_goto 7 dX11_spell_32 (by decide) ?_
    exact z_sub [1, 2, 3, 0] rfl (hself7 (x3 + (nI 1)) h3)
theorem BX11_spell_7 (b0 : Nat) (x0 : Nat) (x1 : Int32) (x2 : Int32) (n : Nat) (x3 : Int32) (h : ZH) : Zr zv b0 YX11_spell 1 7 [(0, .ref (b0 + x0)), (1, .int x1), (2, .int x2), (3, .int x3)] [] h (zloop (lX11_spell_7 x0 x1 x2) n (x3, h)) :=
  zloop_Zr (fun s => [(0, .ref (b0 + x0)), (1, .int x1), (2, .int x2), (3, .int s.1)]) (fun _ => []) (fun s => s.2) (lX11_spell_7 x0 x1 x2) (fun self hs s => KX11_spell_7 b0 x0 x1 x2 self (fun y3 hh => hs (y3, hh)) s.1 s.2) n (x3, h)
def fX11_spell (x0 : Nat) (x1 : Int32) (x2 : Int32) (h : ZH) : Option (ZH) :=
  if x0 < zn h ∧ zK h x0 = 11 then ((pI h 11 x0 12 x1).bind fun h1 =>
  zloop (lX11_spell_7 x0 x1 x2) zfu ((nI 0), h1)) else none
theorem kX11_spell {x0 : Nat} {x1 : Int32} {x2 : Int32} {h : ZH} {x : ZH} (e : fX11_spell x0 x1 x2 h = some x) : x0 < zn h ∧ zK h x0 = 11 := by
  unfold fX11_spell at e
  exact zguard e
theorem mX11_spell (b0 : Nat) (x0 : Nat) (x1 : Int32) (x2 : Int32) (h : ZH) : ZM zv b0 YX11_spell 1 [.ref (b0 + x0), .int x1, .int x2] h (fX11_spell x0 x1 x2 h) := by
  unfold fX11_spell
  refine ZM.of (by decide) rfl (Nat.le_of_ble_eq_true rfl) (fun _ => trivial) ?_
  refine z_sub (lv2 := [(0, .ref (b0 + x0)), (1, .int x1), (2, .int x2)]) [0, 1, 2] rfl ?_
  refine z_guard (fun _ => ?_)
  refine z_aload_n 1 0 dX11_spell_0 rfl rfl ?_
  refine z_iload_n 2 1 dX11_spell_1 rfl rfl ?_
  refine z_putI 5 zC11 (Nat.le_of_ble_eq_true rfl) rfl rfl rfl w_1029 dX11_spell_2 rfl (fun h1 _ => ?_)
  refine z_iconst (nI 0) 6 zki_0 dX11_spell_5 rfl ?_
  refine z_istore_n (lv2 := [(3, .int (nI 0)), (0, .ref (b0 + x0)), (1, .int x1), (2, .int x2)]) 7 dX11_spell_6 rfl (Nat.le_of_ble_eq_true rfl) rfl ?_
  exact z_sub [1, 2, 3, 0] rfl (BX11_spell_7 b0 x0 x1 x2 zfu (nI 0) h1)
-- X11_isForbidden
def bX11_isForbidden_55 (t0 : Int32) (h : ZH) : Option (Int32 × ZH) :=
  if t0 = 0 ∨ t0 = 1 then some (t0, h) else none
theorem BX11_isForbidden_55 (b0 : Nat) (t0 : Int32) (h : ZH) : Zr zi b0 YX11_isForbidden 2 55 [] [.int t0] h (bX11_isForbidden_55 t0 h) := by
  unfold bX11_isForbidden_55
  exact z_zreturn dX11_isForbidden_55 rfl
def bX11_isForbidden_54 (h : ZH) : Option (Int32 × ZH) :=
  bX11_isForbidden_55 (nI 0) h
theorem BX11_isForbidden_54 (b0 : Nat) (h : ZH) : Zr zi b0 YX11_isForbidden 2 54 [] [] h (bX11_isForbidden_54 h) := by
  unfold bX11_isForbidden_54
  refine z_iconst (nI 0) 55 zki_0 dX11_isForbidden_54 rfl ?_
  exact z_sub [] rfl (BX11_isForbidden_55 b0 (nI 0) h )
def fX11_isForbidden (x0 : Nat) (h : ZH) : Option (Int32 × ZH) :=
  if x0 < zn h ∧ zK h x0 = 11 then ((gI h 11 x0 14).bind fun v1 =>
  (gI h 11 x0 12).bind fun v2 =>
  (fX11_behind x0 v1 (nI 0) v2 h).bind fun q3 =>
  if q3.1 = 0 then ((gI q3.2 11 x0 14).bind fun v5 =>
  (gI q3.2 11 x0 12).bind fun v6 =>
  (fX11_behind x0 v5 (nI 1) v6 q3.2).bind fun q7 =>
  if q7.1 = 0 then (bX11_isForbidden_54 q7.2) else
  ((gI q7.2 11 x0 14).bind fun v9 =>
  (gI q7.2 11 x0 12).bind fun v10 =>
  (fX11_behind x0 v9 (nI 0) (v10 - (nI 1)) q7.2).bind fun q11 =>
  if q11.1 = 0 then (bX11_isForbidden_54 q11.2) else
  (bX11_isForbidden_55 (nI 1) q11.2))) else
  (bX11_isForbidden_54 q3.2)) else none
theorem kX11_isForbidden {x0 : Nat} {h : ZH} {x : Int32 × ZH} (e : fX11_isForbidden x0 h = some x) : x0 < zn h ∧ zK h x0 = 11 := by
  unfold fX11_isForbidden at e
  exact zguard e
theorem mX11_isForbidden (b0 : Nat) (x0 : Nat) (h : ZH) : ZM zi b0 YX11_isForbidden 2 [.ref (b0 + x0)] h (fX11_isForbidden x0 h) := by
  unfold fX11_isForbidden
  refine ZM.of (by decide) rfl (Nat.le_of_ble_eq_true rfl) (fun _ => trivial) ?_
  refine z_sub (lv2 := [(0, .ref (b0 + x0))]) [0] rfl ?_
  refine z_guard (fun _ => ?_)
  refine z_aload_n 1 0 dX11_isForbidden_0 rfl rfl ?_
  refine z_aload_n 2 0 dX11_isForbidden_1 rfl rfl ?_
  refine z_getI 5 zC11 (Nat.le_of_ble_eq_true rfl) rfl w_1031 dX11_isForbidden_2 rfl (fun v1 _ => ?_)
  refine z_iconst (nI 0) 6 zki_0 dX11_isForbidden_5 rfl ?_
  refine z_aload_n 7 0 dX11_isForbidden_6 rfl rfl ?_
  refine z_getI 10 zC11 (Nat.le_of_ble_eq_true rfl) rfl w_1029 dX11_isForbidden_7 rfl (fun v2 _ => ?_)
  refine z_callVi 13 (mX11_behind b0 x0 v1 (nI 0) v2 h) zyX11_behind rfl w_1287 (ci := 11) rfl (Nat.le_of_ble_eq_true rfl) (fun _ e9 => kX11_behind e9) wm_yX11_behind ws_yX11_behind (Nat.le_of_ble_eq_true rfl) rfl (Nat.le_of_ble_eq_true rfl) dX11_isForbidden_10 rfl (fun q3 => ?_)
  refine z_if_ne 54 16 dX11_isForbidden_13 (by decide) rfl (fun c4 => ?_) (fun c4 => ?_)
  · exact z_sub [] rfl (BX11_isForbidden_54 b0 q3.2 )
  · refine z_aload_n 17 0 dX11_isForbidden_16 rfl rfl ?_
    refine z_aload_n 18 0 dX11_isForbidden_17 rfl rfl ?_
    refine z_getI 21 zC11 (Nat.le_of_ble_eq_true rfl) rfl w_1031 dX11_isForbidden_18 rfl (fun v5 _ => ?_)
    refine z_iconst (nI 1) 22 zki_1 dX11_isForbidden_21 rfl ?_
    refine z_aload_n 23 0 dX11_isForbidden_22 rfl rfl ?_
    refine z_getI 26 zC11 (Nat.le_of_ble_eq_true rfl) rfl w_1029 dX11_isForbidden_23 rfl (fun v6 _ => ?_)
    refine z_callVi 29 (mX11_behind b0 x0 v5 (nI 1) v6 q3.2) zyX11_behind rfl w_1287 (ci := 11) rfl (Nat.le_of_ble_eq_true rfl) (fun _ e9 => kX11_behind e9) wm_yX11_behind ws_yX11_behind (Nat.le_of_ble_eq_true rfl) rfl (Nat.le_of_ble_eq_true rfl) dX11_isForbidden_26 rfl (fun q7 => ?_)
    refine z_if_eq 54 32 dX11_isForbidden_29 (by decide) rfl (fun c8 => ?_) (fun c8 => ?_)
    · exact z_sub [] rfl (BX11_isForbidden_54 b0 q7.2 )
    · refine z_aload_n 33 0 dX11_isForbidden_32 rfl rfl ?_
      refine z_aload_n 34 0 dX11_isForbidden_33 rfl rfl ?_
      refine z_getI 37 zC11 (Nat.le_of_ble_eq_true rfl) rfl w_1031 dX11_isForbidden_34 rfl (fun v9 _ => ?_)
      refine z_iconst (nI 0) 38 zki_0 dX11_isForbidden_37 rfl ?_
      refine z_aload_n 39 0 dX11_isForbidden_38 rfl rfl ?_
      refine z_getI 42 zC11 (Nat.le_of_ble_eq_true rfl) rfl w_1029 dX11_isForbidden_39 rfl (fun v10 _ => ?_)
      refine z_iconst (nI 1) 43 zki_1 dX11_isForbidden_42 rfl ?_
      refine z_isub 44 dX11_isForbidden_43 rfl ?_
      refine z_callVi 47 (mX11_behind b0 x0 v9 (nI 0) (v10 - (nI 1)) q7.2) zyX11_behind rfl w_1287 (ci := 11) rfl (Nat.le_of_ble_eq_true rfl) (fun _ e9 => kX11_behind e9) wm_yX11_behind ws_yX11_behind (Nat.le_of_ble_eq_true rfl) rfl (Nat.le_of_ble_eq_true rfl) dX11_isForbidden_44 rfl (fun q11 => ?_)
      refine z_if_eq 54 50 dX11_isForbidden_47 (by decide) rfl (fun c12 => ?_) (fun c12 => ?_)
      · exact z_sub [] rfl (BX11_isForbidden_54 b0 q11.2 )
      · refine z_iconst (nI 1) 51 zki_1 dX11_isForbidden_50 rfl ?_
        refine z_goto 55 dX11_isForbidden_51 (by decide) ?_
        exact z_sub [] rfl (BX11_isForbidden_55 b0 (nI 1) q11.2 )
-- X11_forbidden
def bX11_forbidden_60 (self30 : Int32 × Int32 × ZH → Option (Int32 × ZH)) (x0 : Nat) (x2 : Int32) (x4 : Int32) (t0 : Int32) (t1 : Int32) (h : ZH) : Option (Int32 × ZH) :=
  zl (t1 + t0) fun v1 =>
  self30 (v1, (x4 + (nI 1)), h)
theorem BX11_forbidden_60 (b0 : Nat) (self30 : Int32 × Int32 × ZH → Option (Int32 × ZH)) (x0 : Nat) (x2 : Int32) (x4 : Int32) (t0 : Int32) (t1 : Int32) (h : ZH) (hself30 : ∀ (y3 : Int32) (y4 : Int32) (hh : ZH), Zr zi b0 YX11_forbidden 5 30 [(0, .ref (b0 + x0)), (2, .int x2), (3, .int y3), (4, .int y4)] [] hh (self30 (y3, y4, hh))) : Zr zi b0 YX11_forbidden 5 60 [(0, .ref (b0 + x0)), (2, .int x2), (4, .int x4)] [.int t0, .int t1] h (bX11_forbidden_60 self30 x0 x2 x4 t0 t1 h) := by
  unfold bX11_forbidden_60
  refine z_iadd 61 dX11_forbidden_60 rfl ?_
  refine z_letI (fun v1 _ => ?_)
  refine z_istore_n (lv2 := [(3, .int v1), (0, .ref (b0 + x0)), (2, .int x2), (4, .int x4)]) 62 dX11_forbidden_61 rfl (Nat.le_of_ble_eq_true rfl) rfl ?_
  refine z_iinc (lv2 := [(4, .int (x4 + (nI 1))), (3, .int v1), (0, .ref (b0 + x0)), (2, .int x2)]) (nI 1) 65 3 dX11_forbidden_62 rfl rfl zki_1 (Nat.le_of_ble_eq_true rfl) rfl ?_
  refine z_goto 30 dX11_forbidden_65 (by decide) ?_
  exact z_sub [2, 3, 1, 0] rfl (hself30 v1 (x4 + (nI 1)) h)
def kX11_forbidden_30 (x0 : Nat) (x2 : Int32) (self30 : Int32 × Int32 × ZH → Option (Int32 × ZH)) (x3 : Int32) (x4 : Int32) (h : ZH) : Option (Int32 × ZH) :=
  if (jshl (nI 1) ((nI 2) * x2)) ≤ x4 then (some (x3, h)) else
  ((fX11_spell x0 x2 x4 h).bind fun h2 =>
  (fX11_isForbidden x0 h2).bind fun q3 =>
  if q3.1 = 0 then (bX11_forbidden_60 self30 x0 x2 x4 (nI 0) x3 q3.2) else
  (bX11_forbidden_60 self30 x0 x2 x4 (nI 1) x3 q3.2))
def lX11_forbidden_30 (x0 : Nat) (x2 : Int32) : (Int32 × Int32 × ZH → Option (Int32 × ZH)) → Int32 × Int32 × ZH → Option (Int32 × ZH) := fun self s => kX11_forbidden_30 x0 x2 self s.1 s.2.1 s.2.2
theorem KX11_forbidden_30 (b0 : Nat) (x0 : Nat) (x2 : Int32) (self30 : Int32 × Int32 × ZH → Option (Int32 × ZH)) (hself30 : ∀ (y3 : Int32) (y4 : Int32) (hh : ZH), Zr zi b0 YX11_forbidden 5 30 [(0, .ref (b0 + x0)), (2, .int x2), (3, .int y3), (4, .int y4)] [] hh (self30 (y3, y4, hh))) (x3 : Int32) (x4 : Int32) (h : ZH) : Zr zi b0 YX11_forbidden 5 30 [(0, .ref (b0 + x0)), (2, .int x2), (3, .int x3), (4, .int x4)] [] h (kX11_forbidden_30 x0 x2 self30 x3 x4 h) := by
  unfold kX11_forbidden_30
  refine z_iload 32 3 dX11_forbidden_30 rfl rfl ?_
  refine z_iconst (nI 1) 33 zki_1 dX11_forbidden_32 rfl ?_
  refine z_iconst (nI 2) 34 zki_2 dX11_forbidden_33 rfl ?_
  refine z_iload_n 35 1 dX11_forbidden_34 rfl rfl ?_
  refine z_imul 36 dX11_forbidden_35 rfl ?_
  refine z_ishl 37 dX11_forbidden_36 rfl ?_
  refine z_icmp_ge 68 40 dX11_forbidden_37 (by decide) rfl (fun c1 => ?_) (fun c1 => ?_)
  · refine z_iload_n 69 2 dX11_forbidden_68 rfl rfl ?_
    exact z_ireturn dX11_forbidden_69 rfl
  · refine z_aload_n 41 0 dX11_forbidden_40 rfl rfl ?_
    refine z_iload_n 42 1 dX11_forbidden_41 rfl rfl ?_
    refine z_iload 44 3 dX11_forbidden_42 rfl rfl ?_
    refine z_callVv 47 (mX11_spell b0 x0 x2 x4 h) zyX11_spell rfl w_1303 (ci := 11) rfl (Nat.le_of_ble_eq_true rfl) (fun _ e9 => kX11_spell e9) wm_yX11_spell ws_yX11_spell (Nat.le_of_ble_eq_true rfl) rfl (Nat.le_of_ble_eq_true rfl) dX11_forbidden_44 rfl (fun h2 => ?_)
    refine z_iload_n 48 2 dX11_forbidden_47 rfl rfl ?_
    refine z_aload_n 49 0 dX11_forbidden_48 rfl rfl ?_
    refine z_callVi 52 (mX11_isForbidden b0 x0 h2) zyX11_isForbidden rfl w_1307 (ci := 11) rfl (Nat.le_of_ble_eq_true rfl) (fun _ e9 => kX11_isForbidden e9) wm_yX11_isForbidden ws_yX11_isForbidden (Nat.le_of_ble_eq_true rfl) rfl (Nat.le_of_ble_eq_true rfl) dX11_forbidden_49 rfl (fun q3 => ?_)
    refine z_if_eq 59 55 dX11_forbidden_52 (by decide) rfl (fun c4 => ?_) (fun c4 => ?_)
    · refine z_iconst (nI 0) 60 zki_0 dX11_forbidden_59 rfl ?_
      exact z_sub [0, 1, 3] rfl (BX11_forbidden_60 b0 self30 x0 x2 x4 (nI 0) x3 q3.2 hself30)
    · refine z_iconst (nI 1) 56 zki_1 dX11_forbidden_55 rfl ?_
      refine z_goto 60 dX11_forbidden_56 (by decide) ?_
      exact z_sub [0, 1, 3] rfl (BX11_forbidden_60 b0 self30 x0 x2 x4 (nI 1) x3 q3.2 hself30)
theorem BX11_forbidden_30 (b0 : Nat) (x0 : Nat) (x2 : Int32) (n : Nat) (x3 : Int32) (x4 : Int32) (h : ZH) : Zr zi b0 YX11_forbidden 5 30 [(0, .ref (b0 + x0)), (2, .int x2), (3, .int x3), (4, .int x4)] [] h (zloop (lX11_forbidden_30 x0 x2) n (x3, x4, h)) :=
  zloop_Zr (fun s => [(0, .ref (b0 + x0)), (2, .int x2), (3, .int s.1), (4, .int s.2.1)]) (fun _ => []) (fun s => s.2.2) (lX11_forbidden_30 x0 x2) (fun self hs s => KX11_forbidden_30 b0 x0 x2 self (fun y3 y4 hh => hs (y3, y4, hh)) s.1 s.2.1 s.2.2) n (x3, x4, h)
def bX11_forbidden_17 (h : ZH) : Option (Int32 × ZH) :=
  some ((-2 : Int32), h)
theorem BX11_forbidden_17 (b0 : Nat) (h : ZH) : Zr zi b0 YX11_forbidden 5 17 [] [] h (bX11_forbidden_17 h) := by
  unfold bX11_forbidden_17
  refine z_bipush (-2 : Int32) 19 zkb_m2 dX11_forbidden_17 rfl ?_
  exact z_ireturn dX11_forbidden_19 rfl
def fX11_forbidden (x0 : Nat) (x1 : Int32) (x2 : Int32) (h : ZH) : Option (Int32 × ZH) :=
  if x0 < zn h ∧ zK h x0 = 11 then ((fX11_isSlot x1 h).bind fun q1 =>
  if q1.1 = 0 then (bX11_forbidden_17 q1.2) else
  ((fX11_isIn x2 (nI 1) (nI 6) q1.2).bind fun q3 =>
  if q3.1 = 0 then (bX11_forbidden_17 q3.2) else
  ((fX11_prepare x0 x1 q3.2).bind fun h5 =>
  zloop (lX11_forbidden_30 x0 x2) zfu ((nI 0), (nI 0), h5)))) else none
theorem kX11_forbidden {x0 : Nat} {x1 : Int32} {x2 : Int32} {h : ZH} {x : Int32 × ZH} (e : fX11_forbidden x0 x1 x2 h = some x) : x0 < zn h ∧ zK h x0 = 11 := by
  unfold fX11_forbidden at e
  exact zguard e
theorem mX11_forbidden (b0 : Nat) (x0 : Nat) (x1 : Int32) (x2 : Int32) (h : ZH) : ZM zi b0 YX11_forbidden 5 [.ref (b0 + x0), .int x1, .int x2] h (fX11_forbidden x0 x1 x2 h) := by
  unfold fX11_forbidden
  refine ZM.of (by decide) rfl (Nat.le_of_ble_eq_true rfl) (fun _ => trivial) ?_
  refine z_sub (lv2 := [(0, .ref (b0 + x0)), (1, .int x1), (2, .int x2)]) [0, 1, 2] rfl ?_
  refine z_guard (fun _ => ?_)
  refine z_iload_n 1 1 dX11_forbidden_0 rfl rfl ?_
  refine z_callSi 4 (mX11_isSlot b0 x1 h) zyX11_isSlot rfl w_1154 wt_yX11_isSlot (Nat.le_of_ble_eq_true rfl) rfl (Nat.le_of_ble_eq_true rfl) dX11_forbidden_1 rfl (fun q1 => ?_)
  refine z_if_eq 17 7 dX11_forbidden_4 (by decide) rfl (fun c2 => ?_) (fun c2 => ?_)
  · exact z_sub [] rfl (BX11_forbidden_17 b0 q1.2 )
  · refine z_iload_n 8 2 dX11_forbidden_7 rfl rfl ?_
    refine z_iconst (nI 1) 9 zki_1 dX11_forbidden_8 rfl ?_
    refine z_bipush (nI 6) 11 zkb_6 dX11_forbidden_9 rfl ?_
    refine z_callSi 14 (mX11_isIn b0 x2 (nI 1) (nI 6) q1.2) zyX11_isIn rfl w_1157 wt_yX11_isIn (Nat.le_of_ble_eq_true rfl) rfl (Nat.le_of_ble_eq_true rfl) dX11_forbidden_11 rfl (fun q3 => ?_)
    refine z_if_ne 20 17 dX11_forbidden_14 (by decide) rfl (fun c4 => ?_) (fun c4 => ?_)
    · refine z_aload_n 21 0 dX11_forbidden_20 rfl rfl ?_
      refine z_iload_n 22 1 dX11_forbidden_21 rfl rfl ?_
      refine z_callVv 25 (mX11_prepare b0 x0 x1 q3.2) zyX11_prepare rfl w_1263 (ci := 11) rfl (Nat.le_of_ble_eq_true rfl) (fun _ e9 => kX11_prepare e9) wm_yX11_prepare ws_yX11_prepare (Nat.le_of_ble_eq_true rfl) rfl (Nat.le_of_ble_eq_true rfl) dX11_forbidden_22 rfl (fun h5 => ?_)
      refine z_iconst (nI 0) 26 zki_0 dX11_forbidden_25 rfl ?_
      refine z_istore_n (lv2 := [(3, .int (nI 0)), (0, .ref (b0 + x0)), (1, .int x1), (2, .int x2)]) 27 dX11_forbidden_26 rfl (Nat.le_of_ble_eq_true rfl) rfl ?_
      refine z_iconst (nI 0) 28 zki_0 dX11_forbidden_27 rfl ?_
      refine z_istore (lv2 := [(4, .int (nI 0)), (3, .int (nI 0)), (0, .ref (b0 + x0)), (1, .int x1), (2, .int x2)]) 30 dX11_forbidden_28 rfl (Nat.le_of_ble_eq_true rfl) rfl ?_
      exact z_sub [2, 4, 1, 0] rfl (BX11_forbidden_30 b0 x0 x2 zfu (nI 0) (nI 0) h5)
    · exact z_sub [] rfl (BX11_forbidden_17 b0 q3.2 )
-- X11_writeForbidden
def bX11_writeForbidden_79 (h : ZH) : Option (Int32 × ZH) :=
  some ((-1 : Int32), h)
theorem BX11_writeForbidden_79 (b0 : Nat) (h : ZH) : Zr zi b0 YX11_writeForbidden 5 79 [] [] h (bX11_writeForbidden_79 h) := by
  unfold bX11_writeForbidden_79
  refine z_iconst (-1 : Int32) 80 zki_m1 dX11_writeForbidden_79 rfl ?_
  exact z_ireturn dX11_writeForbidden_80 rfl
def bX11_writeForbidden_73 (self31 : Int32 × Int32 × ZH → Option (Int32 × ZH)) (x0 : Nat) (x2 : Int32) (x4 : Int32) (x5 : Int32) (h : ZH) : Option (Int32 × ZH) :=
  self31 (x4, (x5 + (nI 1)), h)
theorem BX11_writeForbidden_73 (b0 : Nat) (self31 : Int32 × Int32 × ZH → Option (Int32 × ZH)) (x0 : Nat) (x2 : Int32) (x4 : Int32) (x5 : Int32) (h : ZH) (hself31 : ∀ (y4 : Int32) (y5 : Int32) (hh : ZH), Zr zi b0 YX11_writeForbidden 5 31 [(0, .ref (b0 + x0)), (2, .int x2), (4, .int y4), (5, .int y5)] [] hh (self31 (y4, y5, hh))) : Zr zi b0 YX11_writeForbidden 5 73 [(0, .ref (b0 + x0)), (2, .int x2), (4, .int x4), (5, .int x5)] [] h (bX11_writeForbidden_73 self31 x0 x2 x4 x5 h) := by
  unfold bX11_writeForbidden_73
  refine z_iinc (lv2 := [(5, .int (x5 + (nI 1))), (0, .ref (b0 + x0)), (2, .int x2), (4, .int x4)]) (nI 1) 76 3 dX11_writeForbidden_73 rfl rfl zki_1 (Nat.le_of_ble_eq_true rfl) rfl ?_
  refine z_goto 31 dX11_writeForbidden_76 (by decide) ?_
  exact z_sub [1, 2, 3, 0] rfl (hself31 x4 (x5 + (nI 1)) h)
def kX11_writeForbidden_31 (x0 : Nat) (x2 : Int32) (self31 : Int32 × Int32 × ZH → Option (Int32 × ZH)) (x4 : Int32) (x5 : Int32) (h : ZH) : Option (Int32 × ZH) :=
  if (jshl (nI 1) ((nI 2) * x2)) ≤ x5 then (bX11_writeForbidden_79 h) else
  (if x4 < 0 then (bX11_writeForbidden_79 h) else
  ((fX11_spell x0 x2 x5 h).bind fun h3 =>
  (fX11_isForbidden x0 h3).bind fun q4 =>
  if q4.1 = 0 then (bX11_writeForbidden_73 self31 x0 x2 x4 x5 q4.2) else
  (if x4 = 0 then ((fX11_writeOut x0 q4.2).bind fun q7 =>
  some (q7.1, q7.2)) else
  (bX11_writeForbidden_73 self31 x0 x2 (x4 + (-1 : Int32)) x5 q4.2))))
def lX11_writeForbidden_31 (x0 : Nat) (x2 : Int32) : (Int32 × Int32 × ZH → Option (Int32 × ZH)) → Int32 × Int32 × ZH → Option (Int32 × ZH) := fun self s => kX11_writeForbidden_31 x0 x2 self s.1 s.2.1 s.2.2
theorem KX11_writeForbidden_31 (b0 : Nat) (x0 : Nat) (x2 : Int32) (self31 : Int32 × Int32 × ZH → Option (Int32 × ZH)) (hself31 : ∀ (y4 : Int32) (y5 : Int32) (hh : ZH), Zr zi b0 YX11_writeForbidden 5 31 [(0, .ref (b0 + x0)), (2, .int x2), (4, .int y4), (5, .int y5)] [] hh (self31 (y4, y5, hh))) (x4 : Int32) (x5 : Int32) (h : ZH) : Zr zi b0 YX11_writeForbidden 5 31 [(0, .ref (b0 + x0)), (2, .int x2), (4, .int x4), (5, .int x5)] [] h (kX11_writeForbidden_31 x0 x2 self31 x4 x5 h) := by
  unfold kX11_writeForbidden_31
  refine z_iload 33 3 dX11_writeForbidden_31 rfl rfl ?_
  refine z_iconst (nI 1) 34 zki_1 dX11_writeForbidden_33 rfl ?_
  refine z_iconst (nI 2) 35 zki_2 dX11_writeForbidden_34 rfl ?_
  refine z_iload_n 36 1 dX11_writeForbidden_35 rfl rfl ?_
  refine z_imul 37 dX11_writeForbidden_36 rfl ?_
  refine z_ishl 38 dX11_writeForbidden_37 rfl ?_
  refine z_icmp_ge 79 41 dX11_writeForbidden_38 (by decide) rfl (fun c1 => ?_) (fun c1 => ?_)
  · exact z_sub [] rfl (BX11_writeForbidden_79 b0 h )
  · refine z_iload 43 2 dX11_writeForbidden_41 rfl rfl ?_
    refine z_if_lt 79 46 dX11_writeForbidden_43 (by decide) rfl (fun c2 => ?_) (fun c2 => ?_)
    · exact z_sub [] rfl (BX11_writeForbidden_79 b0 h )
    · refine z_aload_n 47 0 dX11_writeForbidden_46 rfl rfl ?_
      refine z_iload_n 48 1 dX11_writeForbidden_47 rfl rfl ?_
      refine z_iload 50 3 dX11_writeForbidden_48 rfl rfl ?_
      refine z_callVv 53 (mX11_spell b0 x0 x2 x5 h) zyX11_spell rfl w_1303 (ci := 11) rfl (Nat.le_of_ble_eq_true rfl) (fun _ e9 => kX11_spell e9) wm_yX11_spell ws_yX11_spell (Nat.le_of_ble_eq_true rfl) rfl (Nat.le_of_ble_eq_true rfl) dX11_writeForbidden_50 rfl (fun h3 => ?_)
      refine z_aload_n 54 0 dX11_writeForbidden_53 rfl rfl ?_
      refine z_callVi 57 (mX11_isForbidden b0 x0 h3) zyX11_isForbidden rfl w_1307 (ci := 11) rfl (Nat.le_of_ble_eq_true rfl) (fun _ e9 => kX11_isForbidden e9) wm_yX11_isForbidden ws_yX11_isForbidden (Nat.le_of_ble_eq_true rfl) rfl (Nat.le_of_ble_eq_true rfl) dX11_writeForbidden_54 rfl (fun q4 => ?_)
      refine z_if_eq 73 60 dX11_writeForbidden_57 (by decide) rfl (fun c5 => ?_) (fun c5 => ?_)
      · exact z_sub [0, 1, 2, 3] rfl (BX11_writeForbidden_73 b0 self31 x0 x2 x4 x5 q4.2 hself31)
      · refine z_iload 62 2 dX11_writeForbidden_60 rfl rfl ?_
        refine z_if_ne 70 65 dX11_writeForbidden_62 (by decide) rfl (fun c6 => ?_) (fun c6 => ?_)
        · refine z_iinc (lv2 := [(4, .int (x4 + (-1 : Int32))), (0, .ref (b0 + x0)), (2, .int x2), (5, .int x5)]) (-1 : Int32) 73 2 dX11_writeForbidden_70 rfl rfl zki_m1 (Nat.le_of_ble_eq_true rfl) rfl ?_
          exact z_sub [1, 2, 0, 3] rfl (BX11_writeForbidden_73 b0 self31 x0 x2 (x4 + (-1 : Int32)) x5 q4.2 hself31)
        · refine z_aload_n 66 0 dX11_writeForbidden_65 rfl rfl ?_
          refine z_callVi 69 (mX11_writeOut b0 x0 q4.2) zyX11_writeOut rfl w_1295 (ci := 11) rfl (Nat.le_of_ble_eq_true rfl) (fun _ e9 => kX11_writeOut e9) wm_yX11_writeOut ws_yX11_writeOut (Nat.le_of_ble_eq_true rfl) rfl (Nat.le_of_ble_eq_true rfl) dX11_writeForbidden_66 rfl (fun q7 => ?_)
          exact z_ireturn dX11_writeForbidden_69 rfl
theorem BX11_writeForbidden_31 (b0 : Nat) (x0 : Nat) (x2 : Int32) (n : Nat) (x4 : Int32) (x5 : Int32) (h : ZH) : Zr zi b0 YX11_writeForbidden 5 31 [(0, .ref (b0 + x0)), (2, .int x2), (4, .int x4), (5, .int x5)] [] h (zloop (lX11_writeForbidden_31 x0 x2) n (x4, x5, h)) :=
  zloop_Zr (fun s => [(0, .ref (b0 + x0)), (2, .int x2), (4, .int s.1), (5, .int s.2.1)]) (fun _ => []) (fun s => s.2.2) (lX11_writeForbidden_31 x0 x2) (fun self hs s => KX11_writeForbidden_31 b0 x0 x2 self (fun y4 y5 hh => hs (y4, y5, hh)) s.1 s.2.1 s.2.2) n (x4, x5, h)
def bX11_writeForbidden_17 (h : ZH) : Option (Int32 × ZH) :=
  some ((-2 : Int32), h)
theorem BX11_writeForbidden_17 (b0 : Nat) (h : ZH) : Zr zi b0 YX11_writeForbidden 5 17 [] [] h (bX11_writeForbidden_17 h) := by
  unfold bX11_writeForbidden_17
  refine z_bipush (-2 : Int32) 19 zkb_m2 dX11_writeForbidden_17 rfl ?_
  exact z_ireturn dX11_writeForbidden_19 rfl
def fX11_writeForbidden (x0 : Nat) (x1 : Int32) (x2 : Int32) (x3 : Int32) (h : ZH) : Option (Int32 × ZH) :=
  if x0 < zn h ∧ zK h x0 = 11 then ((fX11_isSlot x1 h).bind fun q1 =>
  if q1.1 = 0 then (bX11_writeForbidden_17 q1.2) else
  ((fX11_isIn x2 (nI 1) (nI 6) q1.2).bind fun q3 =>
  if q3.1 = 0 then (bX11_writeForbidden_17 q3.2) else
  ((fX11_prepare x0 x1 q3.2).bind fun h5 =>
  zloop (lX11_writeForbidden_31 x0 x2) zfu (x3, (nI 0), h5)))) else none
theorem kX11_writeForbidden {x0 : Nat} {x1 : Int32} {x2 : Int32} {x3 : Int32} {h : ZH} {x : Int32 × ZH} (e : fX11_writeForbidden x0 x1 x2 x3 h = some x) : x0 < zn h ∧ zK h x0 = 11 := by
  unfold fX11_writeForbidden at e
  exact zguard e
theorem mX11_writeForbidden (b0 : Nat) (x0 : Nat) (x1 : Int32) (x2 : Int32) (x3 : Int32) (h : ZH) : ZM zi b0 YX11_writeForbidden 5 [.ref (b0 + x0), .int x1, .int x2, .int x3] h (fX11_writeForbidden x0 x1 x2 x3 h) := by
  unfold fX11_writeForbidden
  refine ZM.of (by decide) rfl (Nat.le_of_ble_eq_true rfl) (fun _ => trivial) ?_
  refine z_sub (lv2 := [(0, .ref (b0 + x0)), (1, .int x1), (2, .int x2), (3, .int x3)]) [0, 1, 2, 3] rfl ?_
  refine z_guard (fun _ => ?_)
  refine z_iload_n 1 1 dX11_writeForbidden_0 rfl rfl ?_
  refine z_callSi 4 (mX11_isSlot b0 x1 h) zyX11_isSlot rfl w_1154 wt_yX11_isSlot (Nat.le_of_ble_eq_true rfl) rfl (Nat.le_of_ble_eq_true rfl) dX11_writeForbidden_1 rfl (fun q1 => ?_)
  refine z_if_eq 17 7 dX11_writeForbidden_4 (by decide) rfl (fun c2 => ?_) (fun c2 => ?_)
  · exact z_sub [] rfl (BX11_writeForbidden_17 b0 q1.2 )
  · refine z_iload_n 8 2 dX11_writeForbidden_7 rfl rfl ?_
    refine z_iconst (nI 1) 9 zki_1 dX11_writeForbidden_8 rfl ?_
    refine z_bipush (nI 6) 11 zkb_6 dX11_writeForbidden_9 rfl ?_
    refine z_callSi 14 (mX11_isIn b0 x2 (nI 1) (nI 6) q1.2) zyX11_isIn rfl w_1157 wt_yX11_isIn (Nat.le_of_ble_eq_true rfl) rfl (Nat.le_of_ble_eq_true rfl) dX11_writeForbidden_11 rfl (fun q3 => ?_)
    refine z_if_ne 20 17 dX11_writeForbidden_14 (by decide) rfl (fun c4 => ?_) (fun c4 => ?_)
    · refine z_aload_n 21 0 dX11_writeForbidden_20 rfl rfl ?_
      refine z_iload_n 22 1 dX11_writeForbidden_21 rfl rfl ?_
      refine z_callVv 25 (mX11_prepare b0 x0 x1 q3.2) zyX11_prepare rfl w_1263 (ci := 11) rfl (Nat.le_of_ble_eq_true rfl) (fun _ e9 => kX11_prepare e9) wm_yX11_prepare ws_yX11_prepare (Nat.le_of_ble_eq_true rfl) rfl (Nat.le_of_ble_eq_true rfl) dX11_writeForbidden_22 rfl (fun h5 => ?_)
      refine z_iload_n 26 3 dX11_writeForbidden_25 rfl rfl ?_
      refine z_istore (lv2 := [(4, .int x3), (0, .ref (b0 + x0)), (1, .int x1), (2, .int x2), (3, .int x3)]) 28 dX11_writeForbidden_26 rfl (Nat.le_of_ble_eq_true rfl) rfl ?_
      refine z_iconst (nI 0) 29 zki_0 dX11_writeForbidden_28 rfl ?_
      refine z_istore (lv2 := [(5, .int (nI 0)), (4, .int x3), (0, .ref (b0 + x0)), (1, .int x1), (2, .int x2), (3, .int x3)]) 31 dX11_writeForbidden_29 rfl (Nat.le_of_ble_eq_true rfl) rfl ?_
      exact z_sub [2, 4, 1, 0] rfl (BX11_writeForbidden_31 b0 x0 x2 zfu x3 (nI 0) h5)
    · exact z_sub [] rfl (BX11_writeForbidden_17 b0 q3.2 )
-- X11_isPeriodic
def bX11_isPeriodic_46 (t0 : Int32) (h : ZH) : Option (Int32 × ZH) :=
  if t0 = 0 ∨ t0 = 1 then some (t0, h) else none
theorem BX11_isPeriodic_46 (b0 : Nat) (t0 : Int32) (h : ZH) : Zr zi b0 YX11_isPeriodic 2 46 [] [.int t0] h (bX11_isPeriodic_46 t0 h) := by
  unfold bX11_isPeriodic_46
  exact z_zreturn dX11_isPeriodic_46 rfl
def kX11_isPeriodic_16 (x0 : Nat) (self16 : Int32 × Int32 × ZH → Option (Int32 × ZH)) (x1 : Int32) (x2 : Int32) (h : ZH) : Option (Int32 × ZH) :=
  if x2 = x1 then (if x1 = 0 then (bX11_isPeriodic_46 (nI 0) h) else
  (bX11_isPeriodic_46 (nI 1) h)) else
  ((gI h 11 x0 12).bind fun v3 =>
  (fX11_behind x0 x2 (nI 0) v3 h).bind fun q4 =>
  self16 (x2, q4.1, q4.2))
def lX11_isPeriodic_16 (x0 : Nat) : (Int32 × Int32 × ZH → Option (Int32 × ZH)) → Int32 × Int32 × ZH → Option (Int32 × ZH) := fun self s => kX11_isPeriodic_16 x0 self s.1 s.2.1 s.2.2
theorem KX11_isPeriodic_16 (b0 : Nat) (x0 : Nat) (self16 : Int32 × Int32 × ZH → Option (Int32 × ZH)) (hself16 : ∀ (y1 : Int32) (y2 : Int32) (hh : ZH), Zr zi b0 YX11_isPeriodic 2 16 [(0, .ref (b0 + x0)), (1, .int y1), (2, .int y2)] [] hh (self16 (y1, y2, hh))) (x1 : Int32) (x2 : Int32) (h : ZH) : Zr zi b0 YX11_isPeriodic 2 16 [(0, .ref (b0 + x0)), (1, .int x1), (2, .int x2)] [] h (kX11_isPeriodic_16 x0 self16 x1 x2 h) := by
  unfold kX11_isPeriodic_16
  refine z_iload_n 17 2 dX11_isPeriodic_16 rfl rfl ?_
  refine z_iload_n 18 1 dX11_isPeriodic_17 rfl rfl ?_
  refine z_icmp_eq 37 21 dX11_isPeriodic_18 (by decide) rfl (fun c1 => ?_) (fun c1 => ?_)
  · refine z_iload_n 38 1 dX11_isPeriodic_37 rfl rfl ?_
    refine z_if_eq 45 41 dX11_isPeriodic_38 (by decide) rfl (fun c2 => ?_) (fun c2 => ?_)
    · refine z_iconst (nI 0) 46 zki_0 dX11_isPeriodic_45 rfl ?_
      exact z_sub [] rfl (BX11_isPeriodic_46 b0 (nI 0) h )
    · refine z_iconst (nI 1) 42 zki_1 dX11_isPeriodic_41 rfl ?_
      refine z_goto 46 dX11_isPeriodic_42 (by decide) ?_
      exact z_sub [] rfl (BX11_isPeriodic_46 b0 (nI 1) h )
  · refine z_iload_n 22 2 dX11_isPeriodic_21 rfl rfl ?_
    refine z_istore_n (lv2 := [(1, .int x2), (0, .ref (b0 + x0)), (2, .int x2)]) 23 dX11_isPeriodic_22 rfl (Nat.le_of_ble_eq_true rfl) rfl ?_
    refine z_aload_n 24 1 dX11_isPeriodic_23 rfl rfl ?_
    refine z_iload_n 25 0 dX11_isPeriodic_24 rfl rfl ?_
    refine z_iconst (nI 0) 26 zki_0 dX11_isPeriodic_25 rfl ?_
    refine z_aload_n 27 1 dX11_isPeriodic_26 rfl rfl ?_
    refine z_getI 30 zC11 (Nat.le_of_ble_eq_true rfl) rfl w_1029 dX11_isPeriodic_27 rfl (fun v3 _ => ?_)
    refine z_callVi 33 (mX11_behind b0 x0 x2 (nI 0) v3 h) zyX11_behind rfl w_1287 (ci := 11) rfl (Nat.le_of_ble_eq_true rfl) (fun _ e9 => kX11_behind e9) wm_yX11_behind ws_yX11_behind (Nat.le_of_ble_eq_true rfl) rfl (Nat.le_of_ble_eq_true rfl) dX11_isPeriodic_30 rfl (fun q4 => ?_)
    refine z_istore_n (lv2 := [(2, .int q4.1), (1, .int x2), (0, .ref (b0 + x0))]) 34 dX11_isPeriodic_33 rfl (Nat.le_of_ble_eq_true rfl) rfl ?_
    refine z_goto 16 dX11_isPeriodic_34 (by decide) ?_
    exact z_sub [2, 1, 0] rfl (hself16 x2 q4.1 q4.2)
theorem BX11_isPeriodic_16 (b0 : Nat) (x0 : Nat) (n : Nat) (x1 : Int32) (x2 : Int32) (h : ZH) : Zr zi b0 YX11_isPeriodic 2 16 [(0, .ref (b0 + x0)), (1, .int x1), (2, .int x2)] [] h (zloop (lX11_isPeriodic_16 x0) n (x1, x2, h)) :=
  zloop_Zr (fun s => [(0, .ref (b0 + x0)), (1, .int s.1), (2, .int s.2.1)]) (fun _ => []) (fun s => s.2.2) (lX11_isPeriodic_16 x0) (fun self hs s => KX11_isPeriodic_16 b0 x0 self (fun y1 y2 hh => hs (y1, y2, hh)) s.1 s.2.1 s.2.2) n (x1, x2, h)
def fX11_isPeriodic (x0 : Nat) (h : ZH) : Option (Int32 × ZH) :=
  if x0 < zn h ∧ zK h x0 = 11 then ((gI h 11 x0 14).bind fun v1 =>
  (gI h 11 x0 12).bind fun v2 =>
  (fX11_behind x0 v1 (nI 0) v2 h).bind fun q3 =>
  zloop (lX11_isPeriodic_16 x0) zfu (v1, q3.1, q3.2)) else none
theorem kX11_isPeriodic {x0 : Nat} {h : ZH} {x : Int32 × ZH} (e : fX11_isPeriodic x0 h = some x) : x0 < zn h ∧ zK h x0 = 11 := by
  unfold fX11_isPeriodic at e
  exact zguard e
theorem mX11_isPeriodic (b0 : Nat) (x0 : Nat) (h : ZH) : ZM zi b0 YX11_isPeriodic 2 [.ref (b0 + x0)] h (fX11_isPeriodic x0 h) := by
  unfold fX11_isPeriodic
  refine ZM.of (by decide) rfl (Nat.le_of_ble_eq_true rfl) (fun _ => trivial) ?_
  refine z_sub (lv2 := [(0, .ref (b0 + x0))]) [0] rfl ?_
  refine z_guard (fun _ => ?_)
  refine z_aload_n 1 0 dX11_isPeriodic_0 rfl rfl ?_
  refine z_getI 4 zC11 (Nat.le_of_ble_eq_true rfl) rfl w_1031 dX11_isPeriodic_1 rfl (fun v1 _ => ?_)
  refine z_istore_n (lv2 := [(1, .int v1), (0, .ref (b0 + x0))]) 5 dX11_isPeriodic_4 rfl (Nat.le_of_ble_eq_true rfl) rfl ?_
  refine z_aload_n 6 1 dX11_isPeriodic_5 rfl rfl ?_
  refine z_iload_n 7 0 dX11_isPeriodic_6 rfl rfl ?_
  refine z_iconst (nI 0) 8 zki_0 dX11_isPeriodic_7 rfl ?_
  refine z_aload_n 9 1 dX11_isPeriodic_8 rfl rfl ?_
  refine z_getI 12 zC11 (Nat.le_of_ble_eq_true rfl) rfl w_1029 dX11_isPeriodic_9 rfl (fun v2 _ => ?_)
  refine z_callVi 15 (mX11_behind b0 x0 v1 (nI 0) v2 h) zyX11_behind rfl w_1287 (ci := 11) rfl (Nat.le_of_ble_eq_true rfl) (fun _ e9 => kX11_behind e9) wm_yX11_behind ws_yX11_behind (Nat.le_of_ble_eq_true rfl) rfl (Nat.le_of_ble_eq_true rfl) dX11_isPeriodic_12 rfl (fun q3 => ?_)
  refine z_istore_n (lv2 := [(2, .int q3.1), (1, .int v1), (0, .ref (b0 + x0))]) 16 dX11_isPeriodic_15 rfl (Nat.le_of_ble_eq_true rfl) rfl ?_
  exact z_sub [2, 1, 0] rfl (BX11_isPeriodic_16 b0 x0 zfu v1 q3.1 q3.2)
-- X11_isPrimitive
def bX11_isPrimitive_61 (self2 : Int32 × ZH → Option (Int32 × ZH)) (self27 : Int32 × Int32 × ZH → Option (Int32 × ZH)) (x0 : Nat) (x1 : Int32) (x3 : Int32) (t0 : Int32) (h : ZH) : Option (Int32 × ZH) :=
  self27 (t0, (x3 + (nI 1)), h)
theorem BX11_isPrimitive_61 (b0 : Nat) (self2 : Int32 × ZH → Option (Int32 × ZH)) (self27 : Int32 × Int32 × ZH → Option (Int32 × ZH)) (x0 : Nat) (x1 : Int32) (x3 : Int32) (t0 : Int32) (h : ZH) (hself2 : ∀ (y1 : Int32) (hh : ZH), Zr zi b0 YX11_isPrimitive 1 2 [(0, .ref (b0 + x0)), (1, .int y1)] [] hh (self2 (y1, hh))) (hself27 : ∀ (y2 : Int32) (y3 : Int32) (hh : ZH), Zr zi b0 YX11_isPrimitive 1 27 [(0, .ref (b0 + x0)), (1, .int x1), (2, .int y2), (3, .int y3)] [] hh (self27 (y2, y3, hh))) : Zr zi b0 YX11_isPrimitive 1 61 [(0, .ref (b0 + x0)), (1, .int x1), (3, .int x3)] [.int t0] h (bX11_isPrimitive_61 self2 self27 x0 x1 x3 t0 h) := by
  unfold bX11_isPrimitive_61
  refine z_istore_n (lv2 := [(2, .int t0), (0, .ref (b0 + x0)), (1, .int x1), (3, .int x3)]) 62 dX11_isPrimitive_61 rfl (Nat.le_of_ble_eq_true rfl) rfl ?_
  refine z_iinc (lv2 := [(3, .int (x3 + (nI 1))), (2, .int t0), (0, .ref (b0 + x0)), (1, .int x1)]) (nI 1) 65 3 dX11_isPrimitive_62 rfl rfl zki_1 (Nat.le_of_ble_eq_true rfl) rfl ?_
  refine z_goto 27 dX11_isPrimitive_65 (by decide) ?_
  exact z_sub [2, 3, 1, 0] rfl (hself27 t0 (x3 + (nI 1)) h)
def bX11_isPrimitive_60 (self2 : Int32 × ZH → Option (Int32 × ZH)) (self27 : Int32 × Int32 × ZH → Option (Int32 × ZH)) (x0 : Nat) (x1 : Int32) (x3 : Int32) (h : ZH) : Option (Int32 × ZH) :=
  bX11_isPrimitive_61 self2 self27 x0 x1 x3 (nI 0) h
theorem BX11_isPrimitive_60 (b0 : Nat) (self2 : Int32 × ZH → Option (Int32 × ZH)) (self27 : Int32 × Int32 × ZH → Option (Int32 × ZH)) (x0 : Nat) (x1 : Int32) (x3 : Int32) (h : ZH) (hself2 : ∀ (y1 : Int32) (hh : ZH), Zr zi b0 YX11_isPrimitive 1 2 [(0, .ref (b0 + x0)), (1, .int y1)] [] hh (self2 (y1, hh))) (hself27 : ∀ (y2 : Int32) (y3 : Int32) (hh : ZH), Zr zi b0 YX11_isPrimitive 1 27 [(0, .ref (b0 + x0)), (1, .int x1), (2, .int y2), (3, .int y3)] [] hh (self27 (y2, y3, hh))) : Zr zi b0 YX11_isPrimitive 1 60 [(0, .ref (b0 + x0)), (1, .int x1), (3, .int x3)] [] h (bX11_isPrimitive_60 self2 self27 x0 x1 x3 h) := by
  unfold bX11_isPrimitive_60
  refine z_iconst (nI 0) 61 zki_0 dX11_isPrimitive_60 rfl ?_
  exact z_sub [0, 1, 2] rfl (BX11_isPrimitive_61 b0 self2 self27 x0 x1 x3 (nI 0) h hself2 hself27)
def kX11_isPrimitive_27 (self2 : Int32 × ZH → Option (Int32 × ZH)) (x0 : Nat) (x1 : Int32) (self27 : Int32 × Int32 × ZH → Option (Int32 × ZH)) (x2 : Int32) (x3 : Int32) (h : ZH) : Option (Int32 × ZH) :=
  (gI h 11 x0 12).bind fun v1 =>
  if v1 ≤ x3 then (if x2 = 0 then (self2 ((x1 + (nI 1)), h)) else
  (if (nI 0) = 0 ∨ (nI 0) = 1 then some ((nI 0), h) else none)) else
  (if x2 = 0 then (bX11_isPrimitive_60 self2 self27 x0 x1 x3 h) else
  ((gR h 11 x0 11).bind fun v5 =>
  (lI h 14 v5 x3).bind fun v6 =>
  (gR h 11 x0 11).bind fun v7 =>
  (lI h 14 v7 (x3 - x1)).bind fun v8 =>
  if v6 = v8 then (bX11_isPrimitive_61 self2 self27 x0 x1 x3 (nI 1) h) else
  (bX11_isPrimitive_60 self2 self27 x0 x1 x3 h)))
def lX11_isPrimitive_27 (self2 : Int32 × ZH → Option (Int32 × ZH)) (x0 : Nat) (x1 : Int32) : (Int32 × Int32 × ZH → Option (Int32 × ZH)) → Int32 × Int32 × ZH → Option (Int32 × ZH) := fun self s => kX11_isPrimitive_27 self2 x0 x1 self s.1 s.2.1 s.2.2
theorem KX11_isPrimitive_27 (b0 : Nat) (self2 : Int32 × ZH → Option (Int32 × ZH)) (x0 : Nat) (x1 : Int32) (hself2 : ∀ (y1 : Int32) (hh : ZH), Zr zi b0 YX11_isPrimitive 1 2 [(0, .ref (b0 + x0)), (1, .int y1)] [] hh (self2 (y1, hh))) (self27 : Int32 × Int32 × ZH → Option (Int32 × ZH)) (hself27 : ∀ (y2 : Int32) (y3 : Int32) (hh : ZH), Zr zi b0 YX11_isPrimitive 1 27 [(0, .ref (b0 + x0)), (1, .int x1), (2, .int y2), (3, .int y3)] [] hh (self27 (y2, y3, hh))) (x2 : Int32) (x3 : Int32) (h : ZH) : Zr zi b0 YX11_isPrimitive 1 27 [(0, .ref (b0 + x0)), (1, .int x1), (2, .int x2), (3, .int x3)] [] h (kX11_isPrimitive_27 self2 x0 x1 self27 x2 x3 h) := by
  unfold kX11_isPrimitive_27
  refine z_iload_n 28 3 dX11_isPrimitive_27 rfl rfl ?_
  refine z_aload_n 29 0 dX11_isPrimitive_28 rfl rfl ?_
  refine z_getI 32 zC11 (Nat.le_of_ble_eq_true rfl) rfl w_1029 dX11_isPrimitive_29 rfl (fun v1 _ => ?_)
  refine z_icmp_ge 68 35 dX11_isPrimitive_32 (by decide) rfl (fun c2 => ?_) (fun c2 => ?_)
  · refine z_iload_n 69 2 dX11_isPrimitive_68 rfl rfl ?_
    refine z_if_eq 74 72 dX11_isPrimitive_69 (by decide) rfl (fun c3 => ?_) (fun c3 => ?_)
    · refine z_iinc (lv2 := [(1, .int (x1 + (nI 1))), (0, .ref (b0 + x0)), (2, .int x2), (3, .int x3)]) (nI 1) 77 1 dX11_isPrimitive_74 rfl rfl zki_1 (Nat.le_of_ble_eq_true rfl) rfl ?_
      refine z_goto 2 dX11_isPrimitive_77 (by decide) ?_
      exact z_sub [1, 0] rfl (hself2 (x1 + (nI 1)) h)
    · refine z_iconst (nI 0) 73 zki_0 dX11_isPrimitive_72 rfl ?_
      exact z_zreturn dX11_isPrimitive_73 rfl
  · refine z_iload_n 36 2 dX11_isPrimitive_35 rfl rfl ?_
    refine z_if_eq 60 39 dX11_isPrimitive_36 (by decide) rfl (fun c4 => ?_) (fun c4 => ?_)
    · exact z_sub [0, 1, 3] rfl (BX11_isPrimitive_60 b0 self2 self27 x0 x1 x3 h hself2 hself27)
    · refine z_aload_n 40 0 dX11_isPrimitive_39 rfl rfl ?_
      refine z_getR 43 zC11 (Nat.le_of_ble_eq_true rfl) rfl w_1028 dX11_isPrimitive_40 rfl (fun v5 _ => ?_)
      refine z_iload_n 44 3 dX11_isPrimitive_43 rfl rfl ?_
      refine z_iaload 45 dX11_isPrimitive_44 rfl (fun v6 _ => ?_)
      refine z_aload_n 46 0 dX11_isPrimitive_45 rfl rfl ?_
      refine z_getR 49 zC11 (Nat.le_of_ble_eq_true rfl) rfl w_1028 dX11_isPrimitive_46 rfl (fun v7 _ => ?_)
      refine z_iload_n 50 3 dX11_isPrimitive_49 rfl rfl ?_
      refine z_iload_n 51 1 dX11_isPrimitive_50 rfl rfl ?_
      refine z_isub 52 dX11_isPrimitive_51 rfl ?_
      refine z_iaload 53 dX11_isPrimitive_52 rfl (fun v8 _ => ?_)
      refine z_icmp_ne 60 56 dX11_isPrimitive_53 (by decide) rfl (fun c9 => ?_) (fun c9 => ?_)
      · exact z_sub [0, 1, 3] rfl (BX11_isPrimitive_60 b0 self2 self27 x0 x1 x3 h hself2 hself27)
      · refine z_iconst (nI 1) 57 zki_1 dX11_isPrimitive_56 rfl ?_
        refine z_goto 61 dX11_isPrimitive_57 (by decide) ?_
        exact z_sub [0, 1, 3] rfl (BX11_isPrimitive_61 b0 self2 self27 x0 x1 x3 (nI 1) h hself2 hself27)
theorem BX11_isPrimitive_27 (b0 : Nat) (self2 : Int32 × ZH → Option (Int32 × ZH)) (x0 : Nat) (x1 : Int32) (hself2 : ∀ (y1 : Int32) (hh : ZH), Zr zi b0 YX11_isPrimitive 1 2 [(0, .ref (b0 + x0)), (1, .int y1)] [] hh (self2 (y1, hh))) (n : Nat) (x2 : Int32) (x3 : Int32) (h : ZH) : Zr zi b0 YX11_isPrimitive 1 27 [(0, .ref (b0 + x0)), (1, .int x1), (2, .int x2), (3, .int x3)] [] h (zloop (lX11_isPrimitive_27 self2 x0 x1) n (x2, x3, h)) :=
  zloop_Zr (fun s => [(0, .ref (b0 + x0)), (1, .int x1), (2, .int s.1), (3, .int s.2.1)]) (fun _ => []) (fun s => s.2.2) (lX11_isPrimitive_27 self2 x0 x1) (fun self hs s => KX11_isPrimitive_27 b0 self2 x0 x1 hself2 self (fun y2 y3 hh => hs (y2, y3, hh)) s.1 s.2.1 s.2.2) n (x2, x3, h)
def bX11_isPrimitive_24 (self2 : Int32 × ZH → Option (Int32 × ZH)) (x0 : Nat) (x1 : Int32) (t0 : Int32) (h : ZH) : Option (Int32 × ZH) :=
  zloop (lX11_isPrimitive_27 self2 x0 x1) zfu (t0, x1, h)
theorem BX11_isPrimitive_24 (b0 : Nat) (self2 : Int32 × ZH → Option (Int32 × ZH)) (x0 : Nat) (x1 : Int32) (t0 : Int32) (h : ZH) (hself2 : ∀ (y1 : Int32) (hh : ZH), Zr zi b0 YX11_isPrimitive 1 2 [(0, .ref (b0 + x0)), (1, .int y1)] [] hh (self2 (y1, hh))) : Zr zi b0 YX11_isPrimitive 1 24 [(0, .ref (b0 + x0)), (1, .int x1)] [.int t0] h (bX11_isPrimitive_24 self2 x0 x1 t0 h) := by
  unfold bX11_isPrimitive_24
  refine z_istore_n (lv2 := [(2, .int t0), (0, .ref (b0 + x0)), (1, .int x1)]) 25 dX11_isPrimitive_24 rfl (Nat.le_of_ble_eq_true rfl) rfl ?_
  refine z_iload_n 26 2 dX11_isPrimitive_25 rfl rfl ?_
  refine z_istore_n (lv2 := [(3, .int x1), (2, .int t0), (0, .ref (b0 + x0)), (1, .int x1)]) 27 dX11_isPrimitive_26 rfl (Nat.le_of_ble_eq_true rfl) rfl ?_
  exact z_sub [2, 3, 1, 0] rfl (BX11_isPrimitive_27 b0 self2 x0 x1 hself2 zfu t0 x1 h)
def kX11_isPrimitive_2 (x0 : Nat) (self2 : Int32 × ZH → Option (Int32 × ZH)) (x1 : Int32) (h : ZH) : Option (Int32 × ZH) :=
  (gI h 11 x0 12).bind fun v1 =>
  if v1 ≤ x1 then (if (nI 1) = 0 ∨ (nI 1) = 1 then some ((nI 1), h) else none) else
  ((gI h 11 x0 12).bind fun v3 =>
  if x1 = 0 then none else
  if (jrem v3 x1) = 0 then (bX11_isPrimitive_24 self2 x0 x1 (nI 1) h) else
  (bX11_isPrimitive_24 self2 x0 x1 (nI 0) h))
def lX11_isPrimitive_2 (x0 : Nat) : (Int32 × ZH → Option (Int32 × ZH)) → Int32 × ZH → Option (Int32 × ZH) := fun self s => kX11_isPrimitive_2 x0 self s.1 s.2
theorem KX11_isPrimitive_2 (b0 : Nat) (x0 : Nat) (self2 : Int32 × ZH → Option (Int32 × ZH)) (hself2 : ∀ (y1 : Int32) (hh : ZH), Zr zi b0 YX11_isPrimitive 1 2 [(0, .ref (b0 + x0)), (1, .int y1)] [] hh (self2 (y1, hh))) (x1 : Int32) (h : ZH) : Zr zi b0 YX11_isPrimitive 1 2 [(0, .ref (b0 + x0)), (1, .int x1)] [] h (kX11_isPrimitive_2 x0 self2 x1 h) := by
  unfold kX11_isPrimitive_2
  refine z_iload_n 3 1 dX11_isPrimitive_2 rfl rfl ?_
  refine z_aload_n 4 0 dX11_isPrimitive_3 rfl rfl ?_
  refine z_getI 7 zC11 (Nat.le_of_ble_eq_true rfl) rfl w_1029 dX11_isPrimitive_4 rfl (fun v1 _ => ?_)
  refine z_icmp_ge 80 10 dX11_isPrimitive_7 (by decide) rfl (fun c2 => ?_) (fun c2 => ?_)
  · refine z_iconst (nI 1) 81 zki_1 dX11_isPrimitive_80 rfl ?_
    exact z_zreturn dX11_isPrimitive_81 rfl
  · refine z_aload_n 11 0 dX11_isPrimitive_10 rfl rfl ?_
    refine z_getI 14 zC11 (Nat.le_of_ble_eq_true rfl) rfl w_1029 dX11_isPrimitive_11 rfl (fun v3 _ => ?_)
    refine z_iload_n 15 1 dX11_isPrimitive_14 rfl rfl ?_
    refine z_irem 16 dX11_isPrimitive_15 rfl (fun _ => ?_)
    refine z_if_ne 23 19 dX11_isPrimitive_16 (by decide) rfl (fun c4 => ?_) (fun c4 => ?_)
    · refine z_iconst (nI 0) 24 zki_0 dX11_isPrimitive_23 rfl ?_
      exact z_sub [0, 1] rfl (BX11_isPrimitive_24 b0 self2 x0 x1 (nI 0) h hself2)
    · refine z_iconst (nI 1) 20 zki_1 dX11_isPrimitive_19 rfl ?_
      refine z_goto 24 dX11_isPrimitive_20 (by decide) ?_
      exact z_sub [0, 1] rfl (BX11_isPrimitive_24 b0 self2 x0 x1 (nI 1) h hself2)
theorem BX11_isPrimitive_2 (b0 : Nat) (x0 : Nat) (n : Nat) (x1 : Int32) (h : ZH) : Zr zi b0 YX11_isPrimitive 1 2 [(0, .ref (b0 + x0)), (1, .int x1)] [] h (zloop (lX11_isPrimitive_2 x0) n (x1, h)) :=
  zloop_Zr (fun s => [(0, .ref (b0 + x0)), (1, .int s.1)]) (fun _ => []) (fun s => s.2) (lX11_isPrimitive_2 x0) (fun self hs s => KX11_isPrimitive_2 b0 x0 self (fun y1 hh => hs (y1, hh)) s.1 s.2) n (x1, h)
def fX11_isPrimitive (x0 : Nat) (h : ZH) : Option (Int32 × ZH) :=
  if x0 < zn h ∧ zK h x0 = 11 then (zloop (lX11_isPrimitive_2 x0) zfu ((nI 1), h)) else none
theorem kX11_isPrimitive {x0 : Nat} {h : ZH} {x : Int32 × ZH} (e : fX11_isPrimitive x0 h = some x) : x0 < zn h ∧ zK h x0 = 11 := by
  unfold fX11_isPrimitive at e
  exact zguard e
theorem mX11_isPrimitive (b0 : Nat) (x0 : Nat) (h : ZH) : ZM zi b0 YX11_isPrimitive 1 [.ref (b0 + x0)] h (fX11_isPrimitive x0 h) := by
  unfold fX11_isPrimitive
  refine ZM.of (by decide) rfl (Nat.le_of_ble_eq_true rfl) (fun _ => trivial) ?_
  refine z_sub (lv2 := [(0, .ref (b0 + x0))]) [0] rfl ?_
  refine z_guard (fun _ => ?_)
  refine z_iconst (nI 1) 1 zki_1 dX11_isPrimitive_0 rfl ?_
  refine z_istore_n (lv2 := [(1, .int (nI 1)), (0, .ref (b0 + x0))]) 2 dX11_isPrimitive_1 rfl (Nat.le_of_ble_eq_true rfl) rfl ?_
  exact z_sub [1, 0] rfl (BX11_isPrimitive_2 b0 x0 zfu (nI 1) h)
-- X11_countPeriodic
def bX11_countPeriodic_53 (self11 : Int32 × Int32 × ZH → Option (Int32 × ZH)) (x0 : Nat) (x2 : Int32) (x3 : Int32) (x5 : Int32) (t0 : Int32) (t1 : Int32) (h : ZH) : Option (Int32 × ZH) :=
  zl (t1 + t0) fun v1 =>
  self11 (v1, (x5 + (nI 1)), h)
theorem BX11_countPeriodic_53 (b0 : Nat) (self11 : Int32 × Int32 × ZH → Option (Int32 × ZH)) (x0 : Nat) (x2 : Int32) (x3 : Int32) (x5 : Int32) (t0 : Int32) (t1 : Int32) (h : ZH) (hself11 : ∀ (y4 : Int32) (y5 : Int32) (hh : ZH), Zr zi b0 YX11_countPeriodic 5 11 [(0, .ref (b0 + x0)), (2, .int x2), (3, .int x3), (4, .int y4), (5, .int y5)] [] hh (self11 (y4, y5, hh))) : Zr zi b0 YX11_countPeriodic 5 53 [(0, .ref (b0 + x0)), (2, .int x2), (3, .int x3), (5, .int x5)] [.int t0, .int t1] h (bX11_countPeriodic_53 self11 x0 x2 x3 x5 t0 t1 h) := by
  unfold bX11_countPeriodic_53
  refine z_iadd 54 dX11_countPeriodic_53 rfl ?_
  refine z_letI (fun v1 _ => ?_)
  refine z_istore (lv2 := [(4, .int v1), (0, .ref (b0 + x0)), (2, .int x2), (3, .int x3), (5, .int x5)]) 56 dX11_countPeriodic_54 rfl (Nat.le_of_ble_eq_true rfl) rfl ?_
  refine z_iinc (lv2 := [(5, .int (x5 + (nI 1))), (4, .int v1), (0, .ref (b0 + x0)), (2, .int x2), (3, .int x3)]) (nI 1) 59 4 dX11_countPeriodic_56 rfl rfl zki_1 (Nat.le_of_ble_eq_true rfl) rfl ?_
  refine z_goto 11 dX11_countPeriodic_59 (by decide) ?_
  exact z_sub [2, 3, 4, 1, 0] rfl (hself11 v1 (x5 + (nI 1)) h)
def bX11_countPeriodic_52 (self11 : Int32 × Int32 × ZH → Option (Int32 × ZH)) (x0 : Nat) (x2 : Int32) (x3 : Int32) (x5 : Int32) (t0 : Int32) (h : ZH) : Option (Int32 × ZH) :=
  bX11_countPeriodic_53 self11 x0 x2 x3 x5 (nI 0) t0 h
theorem BX11_countPeriodic_52 (b0 : Nat) (self11 : Int32 × Int32 × ZH → Option (Int32 × ZH)) (x0 : Nat) (x2 : Int32) (x3 : Int32) (x5 : Int32) (t0 : Int32) (h : ZH) (hself11 : ∀ (y4 : Int32) (y5 : Int32) (hh : ZH), Zr zi b0 YX11_countPeriodic 5 11 [(0, .ref (b0 + x0)), (2, .int x2), (3, .int x3), (4, .int y4), (5, .int y5)] [] hh (self11 (y4, y5, hh))) : Zr zi b0 YX11_countPeriodic 5 52 [(0, .ref (b0 + x0)), (2, .int x2), (3, .int x3), (5, .int x5)] [.int t0] h (bX11_countPeriodic_52 self11 x0 x2 x3 x5 t0 h) := by
  unfold bX11_countPeriodic_52
  refine z_iconst (nI 0) 53 zki_0 dX11_countPeriodic_52 rfl ?_
  exact z_sub [0, 1, 2, 3] rfl (BX11_countPeriodic_53 b0 self11 x0 x2 x3 x5 (nI 0) t0 h hself11)
def bX11_countPeriodic_41 (self11 : Int32 × Int32 × ZH → Option (Int32 × ZH)) (x0 : Nat) (x2 : Int32) (x3 : Int32) (x5 : Int32) (t0 : Int32) (h : ZH) : Option (Int32 × ZH) :=
  (fX11_isPeriodic x0 h).bind fun q1 =>
  if q1.1 = 0 then (bX11_countPeriodic_52 self11 x0 x2 x3 x5 t0 q1.2) else
  (bX11_countPeriodic_53 self11 x0 x2 x3 x5 (nI 1) t0 q1.2)
theorem BX11_countPeriodic_41 (b0 : Nat) (self11 : Int32 × Int32 × ZH → Option (Int32 × ZH)) (x0 : Nat) (x2 : Int32) (x3 : Int32) (x5 : Int32) (t0 : Int32) (h : ZH) (hself11 : ∀ (y4 : Int32) (y5 : Int32) (hh : ZH), Zr zi b0 YX11_countPeriodic 5 11 [(0, .ref (b0 + x0)), (2, .int x2), (3, .int x3), (4, .int y4), (5, .int y5)] [] hh (self11 (y4, y5, hh))) : Zr zi b0 YX11_countPeriodic 5 41 [(0, .ref (b0 + x0)), (2, .int x2), (3, .int x3), (5, .int x5)] [.int t0] h (bX11_countPeriodic_41 self11 x0 x2 x3 x5 t0 h) := by
  unfold bX11_countPeriodic_41
  refine z_aload_n 42 0 dX11_countPeriodic_41 rfl rfl ?_
  refine z_callVi 45 (mX11_isPeriodic b0 x0 h) zyX11_isPeriodic rfl w_1327 (ci := 11) rfl (Nat.le_of_ble_eq_true rfl) (fun _ e9 => kX11_isPeriodic e9) wm_yX11_isPeriodic ws_yX11_isPeriodic (Nat.le_of_ble_eq_true rfl) rfl (Nat.le_of_ble_eq_true rfl) dX11_countPeriodic_42 rfl (fun q1 => ?_)
  refine z_if_eq 52 48 dX11_countPeriodic_45 (by decide) rfl (fun c2 => ?_) (fun c2 => ?_)
  · exact z_sub [0, 1, 2, 3] rfl (BX11_countPeriodic_52 b0 self11 x0 x2 x3 x5 t0 q1.2 hself11)
  · refine z_iconst (nI 1) 49 zki_1 dX11_countPeriodic_48 rfl ?_
    refine z_goto 53 dX11_countPeriodic_49 (by decide) ?_
    exact z_sub [0, 1, 2, 3] rfl (BX11_countPeriodic_53 b0 self11 x0 x2 x3 x5 (nI 1) t0 q1.2 hself11)
def kX11_countPeriodic_11 (x0 : Nat) (x2 : Int32) (x3 : Int32) (self11 : Int32 × Int32 × ZH → Option (Int32 × ZH)) (x4 : Int32) (x5 : Int32) (h : ZH) : Option (Int32 × ZH) :=
  if (jshl (nI 1) ((nI 2) * x2)) ≤ x5 then (some (x4, h)) else
  ((fX11_spell x0 x2 x5 h).bind fun h2 =>
  if x3 = 0 then (bX11_countPeriodic_41 self11 x0 x2 x3 x5 x4 h2) else
  ((fX11_isPrimitive x0 h2).bind fun q4 =>
  if q4.1 = 0 then (bX11_countPeriodic_52 self11 x0 x2 x3 x5 x4 q4.2) else
  (bX11_countPeriodic_41 self11 x0 x2 x3 x5 x4 q4.2)))
def lX11_countPeriodic_11 (x0 : Nat) (x2 : Int32) (x3 : Int32) : (Int32 × Int32 × ZH → Option (Int32 × ZH)) → Int32 × Int32 × ZH → Option (Int32 × ZH) := fun self s => kX11_countPeriodic_11 x0 x2 x3 self s.1 s.2.1 s.2.2
theorem KX11_countPeriodic_11 (b0 : Nat) (x0 : Nat) (x2 : Int32) (x3 : Int32) (self11 : Int32 × Int32 × ZH → Option (Int32 × ZH)) (hself11 : ∀ (y4 : Int32) (y5 : Int32) (hh : ZH), Zr zi b0 YX11_countPeriodic 5 11 [(0, .ref (b0 + x0)), (2, .int x2), (3, .int x3), (4, .int y4), (5, .int y5)] [] hh (self11 (y4, y5, hh))) (x4 : Int32) (x5 : Int32) (h : ZH) : Zr zi b0 YX11_countPeriodic 5 11 [(0, .ref (b0 + x0)), (2, .int x2), (3, .int x3), (4, .int x4), (5, .int x5)] [] h (kX11_countPeriodic_11 x0 x2 x3 self11 x4 x5 h) := by
  unfold kX11_countPeriodic_11
  refine z_iload 13 4 dX11_countPeriodic_11 rfl rfl ?_
  refine z_iconst (nI 1) 14 zki_1 dX11_countPeriodic_13 rfl ?_
  refine z_iconst (nI 2) 15 zki_2 dX11_countPeriodic_14 rfl ?_
  refine z_iload_n 16 1 dX11_countPeriodic_15 rfl rfl ?_
  refine z_imul 17 dX11_countPeriodic_16 rfl ?_
  refine z_ishl 18 dX11_countPeriodic_17 rfl ?_
  refine z_icmp_ge 62 21 dX11_countPeriodic_18 (by decide) rfl (fun c1 => ?_) (fun c1 => ?_)
  · refine z_iload 64 3 dX11_countPeriodic_62 rfl rfl ?_
    exact z_ireturn dX11_countPeriodic_64 rfl
  · refine z_aload_n 22 0 dX11_countPeriodic_21 rfl rfl ?_
    refine z_iload_n 23 1 dX11_countPeriodic_22 rfl rfl ?_
    refine z_iload 25 4 dX11_countPeriodic_23 rfl rfl ?_
    refine z_callVv 28 (mX11_spell b0 x0 x2 x5 h) zyX11_spell rfl w_1303 (ci := 11) rfl (Nat.le_of_ble_eq_true rfl) (fun _ e9 => kX11_spell e9) wm_yX11_spell ws_yX11_spell (Nat.le_of_ble_eq_true rfl) rfl (Nat.le_of_ble_eq_true rfl) dX11_countPeriodic_25 rfl (fun h2 => ?_)
    refine z_iload 30 3 dX11_countPeriodic_28 rfl rfl ?_
    refine z_iload_n 31 2 dX11_countPeriodic_30 rfl rfl ?_
    refine z_if_eq 41 34 dX11_countPeriodic_31 (by decide) rfl (fun c3 => ?_) (fun c3 => ?_)
    · exact z_sub [0, 1, 2, 4] rfl (BX11_countPeriodic_41 b0 self11 x0 x2 x3 x5 x4 h2 hself11)
    · refine z_aload_n 35 0 dX11_countPeriodic_34 rfl rfl ?_
      refine z_callVi 38 (mX11_isPrimitive b0 x0 h2) zyX11_isPrimitive rfl w_1323 (ci := 11) rfl (Nat.le_of_ble_eq_true rfl) (fun _ e9 => kX11_isPrimitive e9) wm_yX11_isPrimitive ws_yX11_isPrimitive (Nat.le_of_ble_eq_true rfl) rfl (Nat.le_of_ble_eq_true rfl) dX11_countPeriodic_35 rfl (fun q4 => ?_)
      refine z_if_eq 52 41 dX11_countPeriodic_38 (by decide) rfl (fun c5 => ?_) (fun c5 => ?_)
      · exact z_sub [0, 1, 2, 4] rfl (BX11_countPeriodic_52 b0 self11 x0 x2 x3 x5 x4 q4.2 hself11)
      · exact z_sub [0, 1, 2, 4] rfl (BX11_countPeriodic_41 b0 self11 x0 x2 x3 x5 x4 q4.2 hself11)
theorem BX11_countPeriodic_11 (b0 : Nat) (x0 : Nat) (x2 : Int32) (x3 : Int32) (n : Nat) (x4 : Int32) (x5 : Int32) (h : ZH) : Zr zi b0 YX11_countPeriodic 5 11 [(0, .ref (b0 + x0)), (2, .int x2), (3, .int x3), (4, .int x4), (5, .int x5)] [] h (zloop (lX11_countPeriodic_11 x0 x2 x3) n (x4, x5, h)) :=
  zloop_Zr (fun s => [(0, .ref (b0 + x0)), (2, .int x2), (3, .int x3), (4, .int s.1), (5, .int s.2.1)]) (fun _ => []) (fun s => s.2.2) (lX11_countPeriodic_11 x0 x2 x3) (fun self hs s => KX11_countPeriodic_11 b0 x0 x2 x3 self (fun y4 y5 hh => hs (y4, y5, hh)) s.1 s.2.1 s.2.2) n (x4, x5, h)
def fX11_countPeriodic (x0 : Nat) (x1 : Int32) (x2 : Int32) (x3 : Int32) (h : ZH) : Option (Int32 × ZH) :=
  if x0 < zn h ∧ zK h x0 = 11 then ((fX11_prepare x0 x1 h).bind fun h1 =>
  zloop (lX11_countPeriodic_11 x0 x2 x3) zfu ((nI 0), (nI 0), h1)) else none
theorem kX11_countPeriodic {x0 : Nat} {x1 : Int32} {x2 : Int32} {x3 : Int32} {h : ZH} {x : Int32 × ZH} (e : fX11_countPeriodic x0 x1 x2 x3 h = some x) : x0 < zn h ∧ zK h x0 = 11 := by
  unfold fX11_countPeriodic at e
  exact zguard e
theorem mX11_countPeriodic (b0 : Nat) (x0 : Nat) (x1 : Int32) (x2 : Int32) (x3 : Int32) (h : ZH) : ZM zi b0 YX11_countPeriodic 5 [.ref (b0 + x0), .int x1, .int x2, .int x3] h (fX11_countPeriodic x0 x1 x2 x3 h) := by
  unfold fX11_countPeriodic
  refine ZM.of (by decide) rfl (Nat.le_of_ble_eq_true rfl) (fun _ => trivial) ?_
  refine z_sub (lv2 := [(0, .ref (b0 + x0)), (1, .int x1), (2, .int x2), (3, .int x3)]) [0, 1, 2, 3] rfl ?_
  refine z_guard (fun _ => ?_)
  refine z_aload_n 1 0 dX11_countPeriodic_0 rfl rfl ?_
  refine z_iload_n 2 1 dX11_countPeriodic_1 rfl rfl ?_
  refine z_callVv 5 (mX11_prepare b0 x0 x1 h) zyX11_prepare rfl w_1263 (ci := 11) rfl (Nat.le_of_ble_eq_true rfl) (fun _ e9 => kX11_prepare e9) wm_yX11_prepare ws_yX11_prepare (Nat.le_of_ble_eq_true rfl) rfl (Nat.le_of_ble_eq_true rfl) dX11_countPeriodic_2 rfl (fun h1 => ?_)
  refine z_iconst (nI 0) 6 zki_0 dX11_countPeriodic_5 rfl ?_
  refine z_istore (lv2 := [(4, .int (nI 0)), (0, .ref (b0 + x0)), (1, .int x1), (2, .int x2), (3, .int x3)]) 8 dX11_countPeriodic_6 rfl (Nat.le_of_ble_eq_true rfl) rfl ?_
  refine z_iconst (nI 0) 9 zki_0 dX11_countPeriodic_8 rfl ?_
  refine z_istore (lv2 := [(5, .int (nI 0)), (4, .int (nI 0)), (0, .ref (b0 + x0)), (1, .int x1), (2, .int x2), (3, .int x3)]) 11 dX11_countPeriodic_9 rfl (Nat.le_of_ble_eq_true rfl) rfl ?_
  exact z_sub [2, 4, 5, 1, 0] rfl (BX11_countPeriodic_11 b0 x0 x2 x3 zfu (nI 0) (nI 0) h1)
-- X11_periodic
def bX11_periodic_29 (t0 : Int32) (h : ZH) : Option (Int32 × ZH) :=
  some (t0, h)
theorem BX11_periodic_29 (b0 : Nat) (t0 : Int32) (h : ZH) : Zr zi b0 YX11_periodic 6 29 [] [.int t0] h (bX11_periodic_29 t0 h) := by
  unfold bX11_periodic_29
  exact z_ireturn dX11_periodic_29 rfl
def bX11_periodic_27 (h : ZH) : Option (Int32 × ZH) :=
  bX11_periodic_29 (-2 : Int32) h
theorem BX11_periodic_27 (b0 : Nat) (h : ZH) : Zr zi b0 YX11_periodic 6 27 [] [] h (bX11_periodic_27 h) := by
  unfold bX11_periodic_27
  refine z_bipush (-2 : Int32) 29 zkb_m2 dX11_periodic_27 rfl ?_
  exact z_sub [] rfl (BX11_periodic_29 b0 (-2 : Int32) h )
def fX11_periodic (x0 : Nat) (x1 : Int32) (x2 : Int32) (h : ZH) : Option (Int32 × ZH) :=
  if x0 < zn h ∧ zK h x0 = 11 then ((fX11_isSlot x1 h).bind fun q1 =>
  if q1.1 = 0 then (bX11_periodic_27 q1.2) else
  ((fX11_isIn x2 (nI 1) (nI 7) q1.2).bind fun q3 =>
  if q3.1 = 0 then (bX11_periodic_27 q3.2) else
  ((fX11_countPeriodic x0 x1 x2 (nI 0) q3.2).bind fun q5 =>
  bX11_periodic_29 q5.1 q5.2))) else none
theorem kX11_periodic {x0 : Nat} {x1 : Int32} {x2 : Int32} {h : ZH} {x : Int32 × ZH} (e : fX11_periodic x0 x1 x2 h = some x) : x0 < zn h ∧ zK h x0 = 11 := by
  unfold fX11_periodic at e
  exact zguard e
theorem mX11_periodic (b0 : Nat) (x0 : Nat) (x1 : Int32) (x2 : Int32) (h : ZH) : ZM zi b0 YX11_periodic 6 [.ref (b0 + x0), .int x1, .int x2] h (fX11_periodic x0 x1 x2 h) := by
  unfold fX11_periodic
  refine ZM.of (by decide) rfl (Nat.le_of_ble_eq_true rfl) (fun _ => trivial) ?_
  refine z_sub (lv2 := [(0, .ref (b0 + x0)), (1, .int x1), (2, .int x2)]) [0, 1, 2] rfl ?_
  refine z_guard (fun _ => ?_)
  refine z_iload_n 1 1 dX11_periodic_0 rfl rfl ?_
  refine z_callSi 4 (mX11_isSlot b0 x1 h) zyX11_isSlot rfl w_1154 wt_yX11_isSlot (Nat.le_of_ble_eq_true rfl) rfl (Nat.le_of_ble_eq_true rfl) dX11_periodic_1 rfl (fun q1 => ?_)
  refine z_if_eq 27 7 dX11_periodic_4 (by decide) rfl (fun c2 => ?_) (fun c2 => ?_)
  · exact z_sub [] rfl (BX11_periodic_27 b0 q1.2 )
  · refine z_iload_n 8 2 dX11_periodic_7 rfl rfl ?_
    refine z_iconst (nI 1) 9 zki_1 dX11_periodic_8 rfl ?_
    refine z_bipush (nI 7) 11 zkb_7 dX11_periodic_9 rfl ?_
    refine z_callSi 14 (mX11_isIn b0 x2 (nI 1) (nI 7) q1.2) zyX11_isIn rfl w_1157 wt_yX11_isIn (Nat.le_of_ble_eq_true rfl) rfl (Nat.le_of_ble_eq_true rfl) dX11_periodic_11 rfl (fun q3 => ?_)
    refine z_if_eq 27 17 dX11_periodic_14 (by decide) rfl (fun c4 => ?_) (fun c4 => ?_)
    · exact z_sub [] rfl (BX11_periodic_27 b0 q3.2 )
    · refine z_aload_n 18 0 dX11_periodic_17 rfl rfl ?_
      refine z_iload_n 19 1 dX11_periodic_18 rfl rfl ?_
      refine z_iload_n 20 2 dX11_periodic_19 rfl rfl ?_
      refine z_iconst (nI 0) 21 zki_0 dX11_periodic_20 rfl ?_
      refine z_callVi 24 (mX11_countPeriodic b0 x0 x1 x2 (nI 0) q3.2) zyX11_countPeriodic rfl w_1319 (ci := 11) rfl (Nat.le_of_ble_eq_true rfl) (fun _ e9 => kX11_countPeriodic e9) wm_yX11_countPeriodic ws_yX11_countPeriodic (Nat.le_of_ble_eq_true rfl) rfl (Nat.le_of_ble_eq_true rfl) dX11_periodic_21 rfl (fun q5 => ?_)
      refine z_goto 29 dX11_periodic_24 (by decide) ?_
      exact z_sub [] rfl (BX11_periodic_29 b0 q5.1 q5.2 )
-- X11_orbits
def bX11_orbits_31 (t0 : Int32) (h : ZH) : Option (Int32 × ZH) :=
  some (t0, h)
theorem BX11_orbits_31 (b0 : Nat) (t0 : Int32) (h : ZH) : Zr zi b0 YX11_orbits 6 31 [] [.int t0] h (bX11_orbits_31 t0 h) := by
  unfold bX11_orbits_31
  exact z_ireturn dX11_orbits_31 rfl
def bX11_orbits_29 (h : ZH) : Option (Int32 × ZH) :=
  bX11_orbits_31 (-2 : Int32) h
theorem BX11_orbits_29 (b0 : Nat) (h : ZH) : Zr zi b0 YX11_orbits 6 29 [] [] h (bX11_orbits_29 h) := by
  unfold bX11_orbits_29
  refine z_bipush (-2 : Int32) 31 zkb_m2 dX11_orbits_29 rfl ?_
  exact z_sub [] rfl (BX11_orbits_31 b0 (-2 : Int32) h )
def fX11_orbits (x0 : Nat) (x1 : Int32) (x2 : Int32) (h : ZH) : Option (Int32 × ZH) :=
  if x0 < zn h ∧ zK h x0 = 11 then ((fX11_isSlot x1 h).bind fun q1 =>
  if q1.1 = 0 then (bX11_orbits_29 q1.2) else
  ((fX11_isIn x2 (nI 1) (nI 7) q1.2).bind fun q3 =>
  if q3.1 = 0 then (bX11_orbits_29 q3.2) else
  ((fX11_countPeriodic x0 x1 x2 (nI 1) q3.2).bind fun q5 =>
  if x2 = 0 then none else
  bX11_orbits_31 (q5.1 / x2) q5.2))) else none
theorem kX11_orbits {x0 : Nat} {x1 : Int32} {x2 : Int32} {h : ZH} {x : Int32 × ZH} (e : fX11_orbits x0 x1 x2 h = some x) : x0 < zn h ∧ zK h x0 = 11 := by
  unfold fX11_orbits at e
  exact zguard e
theorem mX11_orbits (b0 : Nat) (x0 : Nat) (x1 : Int32) (x2 : Int32) (h : ZH) : ZM zi b0 YX11_orbits 6 [.ref (b0 + x0), .int x1, .int x2] h (fX11_orbits x0 x1 x2 h) := by
  unfold fX11_orbits
  refine ZM.of (by decide) rfl (Nat.le_of_ble_eq_true rfl) (fun _ => trivial) ?_
  refine z_sub (lv2 := [(0, .ref (b0 + x0)), (1, .int x1), (2, .int x2)]) [0, 1, 2] rfl ?_
  refine z_guard (fun _ => ?_)
  refine z_iload_n 1 1 dX11_orbits_0 rfl rfl ?_
  refine z_callSi 4 (mX11_isSlot b0 x1 h) zyX11_isSlot rfl w_1154 wt_yX11_isSlot (Nat.le_of_ble_eq_true rfl) rfl (Nat.le_of_ble_eq_true rfl) dX11_orbits_1 rfl (fun q1 => ?_)
  refine z_if_eq 29 7 dX11_orbits_4 (by decide) rfl (fun c2 => ?_) (fun c2 => ?_)
  · exact z_sub [] rfl (BX11_orbits_29 b0 q1.2 )
  · refine z_iload_n 8 2 dX11_orbits_7 rfl rfl ?_
    refine z_iconst (nI 1) 9 zki_1 dX11_orbits_8 rfl ?_
    refine z_bipush (nI 7) 11 zkb_7 dX11_orbits_9 rfl ?_
    refine z_callSi 14 (mX11_isIn b0 x2 (nI 1) (nI 7) q1.2) zyX11_isIn rfl w_1157 wt_yX11_isIn (Nat.le_of_ble_eq_true rfl) rfl (Nat.le_of_ble_eq_true rfl) dX11_orbits_11 rfl (fun q3 => ?_)
    refine z_if_eq 29 17 dX11_orbits_14 (by decide) rfl (fun c4 => ?_) (fun c4 => ?_)
    · exact z_sub [] rfl (BX11_orbits_29 b0 q3.2 )
    · refine z_aload_n 18 0 dX11_orbits_17 rfl rfl ?_
      refine z_iload_n 19 1 dX11_orbits_18 rfl rfl ?_
      refine z_iload_n 20 2 dX11_orbits_19 rfl rfl ?_
      refine z_iconst (nI 1) 21 zki_1 dX11_orbits_20 rfl ?_
      refine z_callVi 24 (mX11_countPeriodic b0 x0 x1 x2 (nI 1) q3.2) zyX11_countPeriodic rfl w_1319 (ci := 11) rfl (Nat.le_of_ble_eq_true rfl) (fun _ e9 => kX11_countPeriodic e9) wm_yX11_countPeriodic ws_yX11_countPeriodic (Nat.le_of_ble_eq_true rfl) rfl (Nat.le_of_ble_eq_true rfl) dX11_orbits_21 rfl (fun q5 => ?_)
      refine z_iload_n 25 2 dX11_orbits_24 rfl rfl ?_
      refine z_idiv 26 dX11_orbits_25 rfl (fun _ => ?_)
      refine z_goto 31 dX11_orbits_26 (by decide) ?_
      exact z_sub [] rfl (BX11_orbits_31 b0 (q5.1 / x2) q5.2 )
-- X11_place
def bX11_place_43 (self7 : Int32 × ZH → Option (ZH)) (x0 : Nat) (x1 : Int64) (x3 : Int32) (h : ZH) : Option (ZH) :=
  self7 ((x3 + (nI 1)), h)
theorem BX11_place_43 (b0 : Nat) (self7 : Int32 × ZH → Option (ZH)) (x0 : Nat) (x1 : Int64) (x3 : Int32) (h : ZH) (hself7 : ∀ (y3 : Int32) (hh : ZH), Zr zv b0 YX11_place 1 7 [(0, .ref (b0 + x0)), (1, .long x1), (3, .int y3)] [] hh (self7 (y3, hh))) : Zr zv b0 YX11_place 1 43 [(0, .ref (b0 + x0)), (1, .long x1), (3, .int x3)] [] h (bX11_place_43 self7 x0 x1 x3 h) := by
  unfold bX11_place_43
  refine z_iinc (lv2 := [(3, .int (x3 + (nI 1))), (0, .ref (b0 + x0)), (1, .long x1)]) (nI 1) 46 2 dX11_place_43 rfl rfl zki_1 (Nat.le_of_ble_eq_true rfl) rfl ?_
  refine z_goto 7 dX11_place_46 (by decide) ?_
  exact z_sub [1, 2, 0] rfl (hself7 (x3 + (nI 1)) h)
def kX11_place_7 (x0 : Nat) (x1 : Int64) (self7 : Int32 × ZH → Option (ZH)) (x3 : Int32) (h : ZH) : Option (ZH) :=
  if (nI 64) ≤ x3 then (some h) else
  (if (lg_cmp ((jlshr x1 x3) &&& (lN 1)) (lN 1)) = 0 then ((gR h 11 x0 16).bind fun v3 =>
  (gI h 11 x0 17).bind fun v4 =>
  (sI h 14 v3 v4 x3).bind fun h5 =>
  (gI h5 11 x0 17).bind fun v6 =>
  (pI h5 11 x0 17 (v6 + (nI 1))).bind fun h7 =>
  bX11_place_43 self7 x0 x1 x3 h7) else
  (bX11_place_43 self7 x0 x1 x3 h))
def lX11_place_7 (x0 : Nat) (x1 : Int64) : (Int32 × ZH → Option (ZH)) → Int32 × ZH → Option (ZH) := fun self s => kX11_place_7 x0 x1 self s.1 s.2
theorem KX11_place_7 (b0 : Nat) (x0 : Nat) (x1 : Int64) (self7 : Int32 × ZH → Option (ZH)) (hself7 : ∀ (y3 : Int32) (hh : ZH), Zr zv b0 YX11_place 1 7 [(0, .ref (b0 + x0)), (1, .long x1), (3, .int y3)] [] hh (self7 (y3, hh))) (x3 : Int32) (h : ZH) : Zr zv b0 YX11_place 1 7 [(0, .ref (b0 + x0)), (1, .long x1), (3, .int x3)] [] h (kX11_place_7 x0 x1 self7 x3 h) := by
  unfold kX11_place_7
  refine z_iload_n 8 2 dX11_place_7 rfl rfl ?_
  refine z_bipush (nI 64) 10 zkb_64 dX11_place_8 rfl ?_
  refine z_icmp_ge 49 13 dX11_place_10 (by decide) rfl (fun c1 => ?_) (fun c1 => ?_)
  · exact z_return dX11_place_49 rfl
  · refine z_lload_n 14 1 dX11_place_13 rfl rfl ?_
    refine z_iload_n 15 2 dX11_place_14 rfl rfl ?_
    refine z_lshr 16 dX11_place_15 rfl ?_
    refine z_lconst (lN 1) 17 rfl dX11_place_16 rfl ?_
    refine z_land 18 dX11_place_17 rfl ?_
    refine z_lconst (lN 1) 19 rfl dX11_place_18 rfl ?_
    refine z_lcmp 20 dX11_place_19 rfl ?_
    refine z_if_ne 43 23 dX11_place_20 (by decide) rfl (fun c2 => ?_) (fun c2 => ?_)
    · exact z_sub [0, 1, 2] rfl (BX11_place_43 b0 self7 x0 x1 x3 h hself7)
    · refine z_aload_n 24 0 dX11_place_23 rfl rfl ?_
      refine z_getR 27 zC11 (Nat.le_of_ble_eq_true rfl) rfl w_1033 dX11_place_24 rfl (fun v3 _ => ?_)
      refine z_aload_n 28 0 dX11_place_27 rfl rfl ?_
      refine z_getI 31 zC11 (Nat.le_of_ble_eq_true rfl) rfl w_1034 dX11_place_28 rfl (fun v4 _ => ?_)
      refine z_iload_n 32 2 dX11_place_31 rfl rfl ?_
      refine z_iastore 33 dX11_place_32 rfl (fun h5 _ => ?_)
      refine z_aload_n 34 0 dX11_place_33 rfl rfl ?_
      refine z_dup 35 rfl dX11_place_34 rfl ?_
      refine z_getI 38 zC11 (Nat.le_of_ble_eq_true rfl) rfl w_1034 dX11_place_35 rfl (fun v6 _ => ?_)
      refine z_iconst (nI 1) 39 zki_1 dX11_place_38 rfl ?_
      refine z_iadd 40 dX11_place_39 rfl ?_
      refine z_putI 43 zC11 (Nat.le_of_ble_eq_true rfl) rfl rfl rfl w_1034 dX11_place_40 rfl (fun h7 _ => ?_)
      exact z_sub [0, 1, 2] rfl (BX11_place_43 b0 self7 x0 x1 x3 h7 hself7)
theorem BX11_place_7 (b0 : Nat) (x0 : Nat) (x1 : Int64) (n : Nat) (x3 : Int32) (h : ZH) : Zr zv b0 YX11_place 1 7 [(0, .ref (b0 + x0)), (1, .long x1), (3, .int x3)] [] h (zloop (lX11_place_7 x0 x1) n (x3, h)) :=
  zloop_Zr (fun s => [(0, .ref (b0 + x0)), (1, .long x1), (3, .int s.1)]) (fun _ => []) (fun s => s.2) (lX11_place_7 x0 x1) (fun self hs s => KX11_place_7 b0 x0 x1 self (fun y3 hh => hs (y3, hh)) s.1 s.2) n (x3, h)
def fX11_place (x0 : Nat) (x1 : Int64) (h : ZH) : Option (ZH) :=
  if x0 < zn h ∧ zK h x0 = 11 then ((pI h 11 x0 17 (nI 0)).bind fun h1 =>
  zloop (lX11_place_7 x0 x1) zfu ((nI 0), h1)) else none
theorem kX11_place {x0 : Nat} {x1 : Int64} {h : ZH} {x : ZH} (e : fX11_place x0 x1 h = some x) : x0 < zn h ∧ zK h x0 = 11 := by
  unfold fX11_place at e
  exact zguard e
theorem mX11_place (b0 : Nat) (x0 : Nat) (x1 : Int64) (h : ZH) : ZM zv b0 YX11_place 1 [.ref (b0 + x0), .long x1] h (fX11_place x0 x1 h) := by
  unfold fX11_place
  refine ZM.of (by decide) rfl (Nat.le_of_ble_eq_true rfl) (fun _ => trivial) ?_
  refine z_sub (lv2 := [(0, .ref (b0 + x0)), (1, .long x1)]) [0, 1] rfl ?_
  refine z_guard (fun _ => ?_)
  refine z_aload_n 1 0 dX11_place_0 rfl rfl ?_
  refine z_iconst (nI 0) 2 zki_0 dX11_place_1 rfl ?_
  refine z_putI 5 zC11 (Nat.le_of_ble_eq_true rfl) rfl rfl rfl w_1034 dX11_place_2 rfl (fun h1 _ => ?_)
  refine z_iconst (nI 0) 6 zki_0 dX11_place_5 rfl ?_
  refine z_istore_n (lv2 := [(3, .int (nI 0)), (0, .ref (b0 + x0)), (1, .long x1)]) 7 dX11_place_6 rfl (Nat.le_of_ble_eq_true rfl) rfl ?_
  exact z_sub [1, 2, 0] rfl (BX11_place_7 b0 x0 x1 zfu (nI 0) h1)
-- X11_fillMatrix
def kX11_fillMatrix_36 (self12 : Int32 × ZH → Option (ZH)) (self22 : Int32 × ZH → Option (ZH)) (x0 : Nat) (x1 : Int32) (x2 : Int32) (x3 : Int32) (self36 : Int32 × Int32 × ZH → Option (ZH)) (x4 : Int32) (x5 : Int32) (h : ZH) : Option (ZH) :=
  if (nI 4) ≤ x5 then ((gR h 11 x0 18).bind fun v2 =>
  (sJ h v2 (((nI 8) * x2) + x3) (x4.toInt64)).bind fun h3 =>
  (gR h3 11 x0 19).bind fun v4 =>
  (sJ h3 v4 (((nI 8) * x2) + x3) (lN 0)).bind fun h5 =>
  self22 ((x3 + (nI 1)), h5)) else
  ((gR h 11 x0 16).bind fun v6 =>
  (lI h 14 v6 x2).bind fun v7 =>
  (fX11_to x0 x1 v7 x5 h).bind fun q8 =>
  (gR q8.2 11 x0 16).bind fun v9 =>
  (lI q8.2 14 v9 x3).bind fun v10 =>
  zl (x4 + ((jshr q8.1 v10) &&& (nI 1))) fun v11 =>
  self36 (v11, (x5 + (nI 1)), q8.2))
def lX11_fillMatrix_36 (self12 : Int32 × ZH → Option (ZH)) (self22 : Int32 × ZH → Option (ZH)) (x0 : Nat) (x1 : Int32) (x2 : Int32) (x3 : Int32) : (Int32 × Int32 × ZH → Option (ZH)) → Int32 × Int32 × ZH → Option (ZH) := fun self s => kX11_fillMatrix_36 self12 self22 x0 x1 x2 x3 self s.1 s.2.1 s.2.2
theorem KX11_fillMatrix_36 (b0 : Nat) (self12 : Int32 × ZH → Option (ZH)) (self22 : Int32 × ZH → Option (ZH)) (x0 : Nat) (x1 : Int32) (x2 : Int32) (x3 : Int32) (hself12 : ∀ (y2 : Int32) (hh : ZH), Zr zv b0 YX11_fillMatrix 4 12 [(0, .ref (b0 + x0)), (1, .int x1), (2, .int y2)] [] hh (self12 (y2, hh))) (hself22 : ∀ (y3 : Int32) (hh : ZH), Zr zv b0 YX11_fillMatrix 4 22 [(0, .ref (b0 + x0)), (1, .int x1), (2, .int x2), (3, .int y3)] [] hh (self22 (y3, hh))) (self36 : Int32 × Int32 × ZH → Option (ZH)) (hself36 : ∀ (y4 : Int32) (y5 : Int32) (hh : ZH), Zr zv b0 YX11_fillMatrix 4 36 [(0, .ref (b0 + x0)), (1, .int x1), (2, .int x2), (3, .int x3), (4, .int y4), (5, .int y5)] [] hh (self36 (y4, y5, hh))) (x4 : Int32) (x5 : Int32) (h : ZH) : Zr zv b0 YX11_fillMatrix 4 36 [(0, .ref (b0 + x0)), (1, .int x1), (2, .int x2), (3, .int x3), (4, .int x4), (5, .int x5)] [] h (kX11_fillMatrix_36 self12 self22 x0 x1 x2 x3 self36 x4 x5 h) := by
  unfold kX11_fillMatrix_36
  refine z_iload 38 5 dX11_fillMatrix_36 rfl rfl ?_
  refine z_iconst (nI 4) 39 zki_4 dX11_fillMatrix_38 rfl ?_
  refine z_icmp_ge 75 42 dX11_fillMatrix_39 (by decide) rfl (fun c1 => ?_) (fun c1 => ?_)
  · refine z_aload_n 76 0 dX11_fillMatrix_75 rfl rfl ?_
    refine z_getR 79 zC11 (Nat.le_of_ble_eq_true rfl) rfl w_1035 dX11_fillMatrix_76 rfl (fun v2 _ => ?_)
    refine z_bipush (nI 8) 81 zkb_8 dX11_fillMatrix_79 rfl ?_
    refine z_iload_n 82 2 dX11_fillMatrix_81 rfl rfl ?_
    refine z_imul 83 dX11_fillMatrix_82 rfl ?_
    refine z_iload_n 84 3 dX11_fillMatrix_83 rfl rfl ?_
    refine z_iadd 85 dX11_fillMatrix_84 rfl ?_
    refine z_iload 87 4 dX11_fillMatrix_85 rfl rfl ?_
    refine z_i2l 88 dX11_fillMatrix_87 rfl ?_
    refine z_lastore 89 dX11_fillMatrix_88 rfl (fun h3 _ => ?_)
    refine z_aload_n 90 0 dX11_fillMatrix_89 rfl rfl ?_
    refine z_getR 93 zC11 (Nat.le_of_ble_eq_true rfl) rfl w_1036 dX11_fillMatrix_90 rfl (fun v4 _ => ?_)
    refine z_bipush (nI 8) 95 zkb_8 dX11_fillMatrix_93 rfl ?_
    refine z_iload_n 96 2 dX11_fillMatrix_95 rfl rfl ?_
    refine z_imul 97 dX11_fillMatrix_96 rfl ?_
    refine z_iload_n 98 3 dX11_fillMatrix_97 rfl rfl ?_
    refine z_iadd 99 dX11_fillMatrix_98 rfl ?_
    refine z_lconst (lN 0) 100 rfl dX11_fillMatrix_99 rfl ?_
    refine z_lastore 101 dX11_fillMatrix_100 rfl (fun h5 _ => ?_)
    refine z_iinc (lv2 := [(3, .int (x3 + (nI 1))), (0, .ref (b0 + x0)), (1, .int x1), (2, .int x2), (4, .int x4), (5, .int x5)]) (nI 1) 104 3 dX11_fillMatrix_101 rfl rfl zki_1 (Nat.le_of_ble_eq_true rfl) rfl ?_
    refine z_goto 22 dX11_fillMatrix_104 (by decide) ?_
    exact z_sub [1, 2, 3, 0] rfl (hself22 (x3 + (nI 1)) h5)
  · refine z_iload 44 4 dX11_fillMatrix_42 rfl rfl ?_
    refine z_aload_n 45 0 dX11_fillMatrix_44 rfl rfl ?_
    refine z_iload_n 46 1 dX11_fillMatrix_45 rfl rfl ?_
    refine z_aload_n 47 0 dX11_fillMatrix_46 rfl rfl ?_
    refine z_getR 50 zC11 (Nat.le_of_ble_eq_true rfl) rfl w_1033 dX11_fillMatrix_47 rfl (fun v6 _ => ?_)
    refine z_iload_n 51 2 dX11_fillMatrix_50 rfl rfl ?_
    refine z_iaload 52 dX11_fillMatrix_51 rfl (fun v7 _ => ?_)
    refine z_iload 54 5 dX11_fillMatrix_52 rfl rfl ?_
    refine z_callVi 57 (mX11_to b0 x0 x1 v7 x5 h) zyX11_to rfl w_1183 (ci := 11) rfl (Nat.le_of_ble_eq_true rfl) (fun _ e9 => kX11_to e9) wm_yX11_to ws_yX11_to (Nat.le_of_ble_eq_true rfl) rfl (Nat.le_of_ble_eq_true rfl) dX11_fillMatrix_54 rfl (fun q8 => ?_)
    refine z_aload_n 58 0 dX11_fillMatrix_57 rfl rfl ?_
    refine z_getR 61 zC11 (Nat.le_of_ble_eq_true rfl) rfl w_1033 dX11_fillMatrix_58 rfl (fun v9 _ => ?_)
    refine z_iload_n 62 3 dX11_fillMatrix_61 rfl rfl ?_
    refine z_iaload 63 dX11_fillMatrix_62 rfl (fun v10 _ => ?_)
    refine z_ishr 64 dX11_fillMatrix_63 rfl ?_
    refine z_iconst (nI 1) 65 zki_1 dX11_fillMatrix_64 rfl ?_
    refine z_iand 66 dX11_fillMatrix_65 rfl ?_
    refine z_iadd 67 dX11_fillMatrix_66 rfl ?_
    refine z_letI (fun v11 _ => ?_)
    refine z_istore (lv2 := [(4, .int v11), (0, .ref (b0 + x0)), (1, .int x1), (2, .int x2), (3, .int x3), (5, .int x5)]) 69 dX11_fillMatrix_67 rfl (Nat.le_of_ble_eq_true rfl) rfl ?_
    refine z_iinc (lv2 := [(5, .int (x5 + (nI 1))), (4, .int v11), (0, .ref (b0 + x0)), (1, .int x1), (2, .int x2), (3, .int x3)]) (nI 1) 72 5 dX11_fillMatrix_69 rfl rfl zki_1 (Nat.le_of_ble_eq_true rfl) rfl ?_
    refine z_goto 36 dX11_fillMatrix_72 (by decide) ?_
    exact z_sub [2, 3, 4, 5, 1, 0] rfl (hself36 v11 (x5 + (nI 1)) q8.2)
theorem BX11_fillMatrix_36 (b0 : Nat) (self12 : Int32 × ZH → Option (ZH)) (self22 : Int32 × ZH → Option (ZH)) (x0 : Nat) (x1 : Int32) (x2 : Int32) (x3 : Int32) (hself12 : ∀ (y2 : Int32) (hh : ZH), Zr zv b0 YX11_fillMatrix 4 12 [(0, .ref (b0 + x0)), (1, .int x1), (2, .int y2)] [] hh (self12 (y2, hh))) (hself22 : ∀ (y3 : Int32) (hh : ZH), Zr zv b0 YX11_fillMatrix 4 22 [(0, .ref (b0 + x0)), (1, .int x1), (2, .int x2), (3, .int y3)] [] hh (self22 (y3, hh))) (n : Nat) (x4 : Int32) (x5 : Int32) (h : ZH) : Zr zv b0 YX11_fillMatrix 4 36 [(0, .ref (b0 + x0)), (1, .int x1), (2, .int x2), (3, .int x3), (4, .int x4), (5, .int x5)] [] h (zloop (lX11_fillMatrix_36 self12 self22 x0 x1 x2 x3) n (x4, x5, h)) :=
  zloop_Zr (fun s => [(0, .ref (b0 + x0)), (1, .int x1), (2, .int x2), (3, .int x3), (4, .int s.1), (5, .int s.2.1)]) (fun _ => []) (fun s => s.2.2) (lX11_fillMatrix_36 self12 self22 x0 x1 x2 x3) (fun self hs s => KX11_fillMatrix_36 b0 self12 self22 x0 x1 x2 x3 hself12 hself22 self (fun y4 y5 hh => hs (y4, y5, hh)) s.1 s.2.1 s.2.2) n (x4, x5, h)
def kX11_fillMatrix_22 (self12 : Int32 × ZH → Option (ZH)) (x0 : Nat) (x1 : Int32) (x2 : Int32) (self22 : Int32 × ZH → Option (ZH)) (x3 : Int32) (h : ZH) : Option (ZH) :=
  (gI h 11 x0 17).bind fun v1 =>
  if v1 ≤ x3 then (self12 ((x2 + (nI 1)), h)) else
  (zloop (lX11_fillMatrix_36 self12 self22 x0 x1 x2 x3) zfu ((nI 0), (nI 0), h))
def lX11_fillMatrix_22 (self12 : Int32 × ZH → Option (ZH)) (x0 : Nat) (x1 : Int32) (x2 : Int32) : (Int32 × ZH → Option (ZH)) → Int32 × ZH → Option (ZH) := fun self s => kX11_fillMatrix_22 self12 x0 x1 x2 self s.1 s.2
theorem KX11_fillMatrix_22 (b0 : Nat) (self12 : Int32 × ZH → Option (ZH)) (x0 : Nat) (x1 : Int32) (x2 : Int32) (hself12 : ∀ (y2 : Int32) (hh : ZH), Zr zv b0 YX11_fillMatrix 4 12 [(0, .ref (b0 + x0)), (1, .int x1), (2, .int y2)] [] hh (self12 (y2, hh))) (self22 : Int32 × ZH → Option (ZH)) (hself22 : ∀ (y3 : Int32) (hh : ZH), Zr zv b0 YX11_fillMatrix 4 22 [(0, .ref (b0 + x0)), (1, .int x1), (2, .int x2), (3, .int y3)] [] hh (self22 (y3, hh))) (x3 : Int32) (h : ZH) : Zr zv b0 YX11_fillMatrix 4 22 [(0, .ref (b0 + x0)), (1, .int x1), (2, .int x2), (3, .int x3)] [] h (kX11_fillMatrix_22 self12 x0 x1 x2 self22 x3 h) := by
  unfold kX11_fillMatrix_22
  refine z_iload_n 23 3 dX11_fillMatrix_22 rfl rfl ?_
  refine z_aload_n 24 0 dX11_fillMatrix_23 rfl rfl ?_
  refine z_getI 27 zC11 (Nat.le_of_ble_eq_true rfl) rfl w_1034 dX11_fillMatrix_24 rfl (fun v1 _ => ?_)
  refine z_icmp_ge 107 30 dX11_fillMatrix_27 (by decide) rfl (fun c2 => ?_) (fun c2 => ?_)
  · refine z_iinc (lv2 := [(2, .int (x2 + (nI 1))), (0, .ref (b0 + x0)), (1, .int x1), (3, .int x3)]) (nI 1) 110 2 dX11_fillMatrix_107 rfl rfl zki_1 (Nat.le_of_ble_eq_true rfl) rfl ?_
    refine z_goto 12 dX11_fillMatrix_110 (by decide) ?_
    exact z_sub [1, 2, 0] rfl (hself12 (x2 + (nI 1)) h)
  · refine z_iconst (nI 0) 31 zki_0 dX11_fillMatrix_30 rfl ?_
    refine z_istore (lv2 := [(4, .int (nI 0)), (0, .ref (b0 + x0)), (1, .int x1), (2, .int x2), (3, .int x3)]) 33 dX11_fillMatrix_31 rfl (Nat.le_of_ble_eq_true rfl) rfl ?_
    refine z_iconst (nI 0) 34 zki_0 dX11_fillMatrix_33 rfl ?_
    refine z_istore (lv2 := [(5, .int (nI 0)), (4, .int (nI 0)), (0, .ref (b0 + x0)), (1, .int x1), (2, .int x2), (3, .int x3)]) 36 dX11_fillMatrix_34 rfl (Nat.le_of_ble_eq_true rfl) rfl ?_
    exact z_sub [2, 3, 4, 5, 1, 0] rfl (BX11_fillMatrix_36 b0 self12 self22 x0 x1 x2 x3 hself12 hself22 zfu (nI 0) (nI 0) h)
theorem BX11_fillMatrix_22 (b0 : Nat) (self12 : Int32 × ZH → Option (ZH)) (x0 : Nat) (x1 : Int32) (x2 : Int32) (hself12 : ∀ (y2 : Int32) (hh : ZH), Zr zv b0 YX11_fillMatrix 4 12 [(0, .ref (b0 + x0)), (1, .int x1), (2, .int y2)] [] hh (self12 (y2, hh))) (n : Nat) (x3 : Int32) (h : ZH) : Zr zv b0 YX11_fillMatrix 4 22 [(0, .ref (b0 + x0)), (1, .int x1), (2, .int x2), (3, .int x3)] [] h (zloop (lX11_fillMatrix_22 self12 x0 x1 x2) n (x3, h)) :=
  zloop_Zr (fun s => [(0, .ref (b0 + x0)), (1, .int x1), (2, .int x2), (3, .int s.1)]) (fun _ => []) (fun s => s.2) (lX11_fillMatrix_22 self12 x0 x1 x2) (fun self hs s => KX11_fillMatrix_22 b0 self12 x0 x1 x2 hself12 self (fun y3 hh => hs (y3, hh)) s.1 s.2) n (x3, h)
def kX11_fillMatrix_12 (x0 : Nat) (x1 : Int32) (self12 : Int32 × ZH → Option (ZH)) (x2 : Int32) (h : ZH) : Option (ZH) :=
  (gI h 11 x0 17).bind fun v1 =>
  if v1 ≤ x2 then (some h) else
  (zloop (lX11_fillMatrix_22 self12 x0 x1 x2) zfu ((nI 0), h))
def lX11_fillMatrix_12 (x0 : Nat) (x1 : Int32) : (Int32 × ZH → Option (ZH)) → Int32 × ZH → Option (ZH) := fun self s => kX11_fillMatrix_12 x0 x1 self s.1 s.2
theorem KX11_fillMatrix_12 (b0 : Nat) (x0 : Nat) (x1 : Int32) (self12 : Int32 × ZH → Option (ZH)) (hself12 : ∀ (y2 : Int32) (hh : ZH), Zr zv b0 YX11_fillMatrix 4 12 [(0, .ref (b0 + x0)), (1, .int x1), (2, .int y2)] [] hh (self12 (y2, hh))) (x2 : Int32) (h : ZH) : Zr zv b0 YX11_fillMatrix 4 12 [(0, .ref (b0 + x0)), (1, .int x1), (2, .int x2)] [] h (kX11_fillMatrix_12 x0 x1 self12 x2 h) := by
  unfold kX11_fillMatrix_12
  refine z_iload_n 13 2 dX11_fillMatrix_12 rfl rfl ?_
  refine z_aload_n 14 0 dX11_fillMatrix_13 rfl rfl ?_
  refine z_getI 17 zC11 (Nat.le_of_ble_eq_true rfl) rfl w_1034 dX11_fillMatrix_14 rfl (fun v1 _ => ?_)
  refine z_icmp_ge 113 20 dX11_fillMatrix_17 (by decide) rfl (fun c2 => ?_) (fun c2 => ?_)
  · exact z_return dX11_fillMatrix_113 rfl
  · refine z_iconst (nI 0) 21 zki_0 dX11_fillMatrix_20 rfl ?_
    refine z_istore_n (lv2 := [(3, .int (nI 0)), (0, .ref (b0 + x0)), (1, .int x1), (2, .int x2)]) 22 dX11_fillMatrix_21 rfl (Nat.le_of_ble_eq_true rfl) rfl ?_
    exact z_sub [1, 2, 3, 0] rfl (BX11_fillMatrix_22 b0 self12 x0 x1 x2 hself12 zfu (nI 0) h)
theorem BX11_fillMatrix_12 (b0 : Nat) (x0 : Nat) (x1 : Int32) (n : Nat) (x2 : Int32) (h : ZH) : Zr zv b0 YX11_fillMatrix 4 12 [(0, .ref (b0 + x0)), (1, .int x1), (2, .int x2)] [] h (zloop (lX11_fillMatrix_12 x0 x1) n (x2, h)) :=
  zloop_Zr (fun s => [(0, .ref (b0 + x0)), (1, .int x1), (2, .int s.1)]) (fun _ => []) (fun s => s.2) (lX11_fillMatrix_12 x0 x1) (fun self hs s => KX11_fillMatrix_12 b0 x0 x1 self (fun y2 hh => hs (y2, hh)) s.1 s.2) n (x2, h)
def fX11_fillMatrix (x0 : Nat) (x1 : Int32) (h : ZH) : Option (ZH) :=
  if x0 < zn h ∧ zK h x0 = 11 then ((fX11_essentialOf x0 x1 h).bind fun q1 =>
  (fX11_place x0 (q1.1.toInt64) q1.2).bind fun h2 =>
  zloop (lX11_fillMatrix_12 x0 x1) zfu ((nI 0), h2)) else none
theorem kX11_fillMatrix {x0 : Nat} {x1 : Int32} {h : ZH} {x : ZH} (e : fX11_fillMatrix x0 x1 h = some x) : x0 < zn h ∧ zK h x0 = 11 := by
  unfold fX11_fillMatrix at e
  exact zguard e
theorem mX11_fillMatrix (b0 : Nat) (x0 : Nat) (x1 : Int32) (h : ZH) : ZM zv b0 YX11_fillMatrix 4 [.ref (b0 + x0), .int x1] h (fX11_fillMatrix x0 x1 h) := by
  unfold fX11_fillMatrix
  refine ZM.of (by decide) rfl (Nat.le_of_ble_eq_true rfl) (fun _ => trivial) ?_
  refine z_sub (lv2 := [(0, .ref (b0 + x0)), (1, .int x1)]) [0, 1] rfl ?_
  refine z_guard (fun _ => ?_)
  refine z_aload_n 1 0 dX11_fillMatrix_0 rfl rfl ?_
  refine z_aload_n 2 0 dX11_fillMatrix_1 rfl rfl ?_
  refine z_iload_n 3 1 dX11_fillMatrix_2 rfl rfl ?_
  refine z_callVi 6 (mX11_essentialOf b0 x0 x1 h) zyX11_essentialOf rfl w_1231 (ci := 11) rfl (Nat.le_of_ble_eq_true rfl) (fun _ e9 => kX11_essentialOf e9) wm_yX11_essentialOf ws_yX11_essentialOf (Nat.le_of_ble_eq_true rfl) rfl (Nat.le_of_ble_eq_true rfl) dX11_fillMatrix_3 rfl (fun q1 => ?_)
  refine z_i2l 7 dX11_fillMatrix_6 rfl ?_
  refine z_callVv 10 (mX11_place b0 x0 (q1.1.toInt64) q1.2) zyX11_place rfl w_1344 (ci := 11) rfl (Nat.le_of_ble_eq_true rfl) (fun _ e9 => kX11_place e9) wm_yX11_place ws_yX11_place (Nat.le_of_ble_eq_true rfl) rfl (Nat.le_of_ble_eq_true rfl) dX11_fillMatrix_7 rfl (fun h2 => ?_)
  refine z_iconst (nI 0) 11 zki_0 dX11_fillMatrix_10 rfl ?_
  refine z_istore_n (lv2 := [(2, .int (nI 0)), (0, .ref (b0 + x0)), (1, .int x1)]) 12 dX11_fillMatrix_11 rfl (Nat.le_of_ble_eq_true rfl) rfl ?_
  exact z_sub [1, 2, 0] rfl (BX11_fillMatrix_12 b0 x0 x1 zfu (nI 0) h2)
-- X11_multiply
def kX11_multiply_25 (self2 : Int32 × ZH → Option (ZH)) (self12 : Int32 × ZH → Option (ZH)) (x0 : Nat) (x1 : Int32) (x2 : Int32) (self25 : Int64 × Int32 × ZH → Option (ZH)) (x3 : Int64) (x5 : Int32) (h : ZH) : Option (ZH) :=
  (gI h 11 x0 17).bind fun v1 =>
  if v1 ≤ x5 then ((gR h 11 x0 20).bind fun v3 =>
  (sJ h v3 (((nI 8) * x1) + x2) x3).bind fun h4 =>
  self12 ((x2 + (nI 1)), h4)) else
  ((gR h 11 x0 18).bind fun v5 =>
  (lJ h v5 (((nI 8) * x1) + x5)).bind fun v6 =>
  (gR h 11 x0 19).bind fun v7 =>
  (lJ h v7 (((nI 8) * x5) + x2)).bind fun v8 =>
  zl (x3 + (v6 * v8)) fun v9 =>
  self25 (v9, (x5 + (nI 1)), h))
def lX11_multiply_25 (self2 : Int32 × ZH → Option (ZH)) (self12 : Int32 × ZH → Option (ZH)) (x0 : Nat) (x1 : Int32) (x2 : Int32) : (Int64 × Int32 × ZH → Option (ZH)) → Int64 × Int32 × ZH → Option (ZH) := fun self s => kX11_multiply_25 self2 self12 x0 x1 x2 self s.1 s.2.1 s.2.2
theorem KX11_multiply_25 (b0 : Nat) (self2 : Int32 × ZH → Option (ZH)) (self12 : Int32 × ZH → Option (ZH)) (x0 : Nat) (x1 : Int32) (x2 : Int32) (hself2 : ∀ (y1 : Int32) (hh : ZH), Zr zv b0 YX11_multiply 1 2 [(0, .ref (b0 + x0)), (1, .int y1)] [] hh (self2 (y1, hh))) (hself12 : ∀ (y2 : Int32) (hh : ZH), Zr zv b0 YX11_multiply 1 12 [(0, .ref (b0 + x0)), (1, .int x1), (2, .int y2)] [] hh (self12 (y2, hh))) (self25 : Int64 × Int32 × ZH → Option (ZH)) (hself25 : ∀ (y3 : Int64) (y5 : Int32) (hh : ZH), Zr zv b0 YX11_multiply 1 25 [(0, .ref (b0 + x0)), (1, .int x1), (2, .int x2), (3, .long y3), (5, .int y5)] [] hh (self25 (y3, y5, hh))) (x3 : Int64) (x5 : Int32) (h : ZH) : Zr zv b0 YX11_multiply 1 25 [(0, .ref (b0 + x0)), (1, .int x1), (2, .int x2), (3, .long x3), (5, .int x5)] [] h (kX11_multiply_25 self2 self12 x0 x1 x2 self25 x3 x5 h) := by
  unfold kX11_multiply_25
  refine z_iload 27 4 dX11_multiply_25 rfl rfl ?_
  refine z_aload_n 28 0 dX11_multiply_27 rfl rfl ?_
  refine z_getI 31 zC11 (Nat.le_of_ble_eq_true rfl) rfl w_1034 dX11_multiply_28 rfl (fun v1 _ => ?_)
  refine z_icmp_ge 68 34 dX11_multiply_31 (by decide) rfl (fun c2 => ?_) (fun c2 => ?_)
  · refine z_aload_n 69 0 dX11_multiply_68 rfl rfl ?_
    refine z_getR 72 zC11 (Nat.le_of_ble_eq_true rfl) rfl w_1037 dX11_multiply_69 rfl (fun v3 _ => ?_)
    refine z_bipush (nI 8) 74 zkb_8 dX11_multiply_72 rfl ?_
    refine z_iload_n 75 1 dX11_multiply_74 rfl rfl ?_
    refine z_imul 76 dX11_multiply_75 rfl ?_
    refine z_iload_n 77 2 dX11_multiply_76 rfl rfl ?_
    refine z_iadd 78 dX11_multiply_77 rfl ?_
    refine z_lload_n 79 3 dX11_multiply_78 rfl rfl ?_
    refine z_lastore 80 dX11_multiply_79 rfl (fun h4 _ => ?_)
    refine z_iinc (lv2 := [(2, .int (x2 + (nI 1))), (0, .ref (b0 + x0)), (1, .int x1), (3, .long x3), (5, .int x5)]) (nI 1) 83 2 dX11_multiply_80 rfl rfl zki_1 (Nat.le_of_ble_eq_true rfl) rfl ?_
    refine z_goto 12 dX11_multiply_83 (by decide) ?_
    exact z_sub [1, 2, 0] rfl (hself12 (x2 + (nI 1)) h4)
  · refine z_lload_n 35 3 dX11_multiply_34 rfl rfl ?_
    refine z_aload_n 36 0 dX11_multiply_35 rfl rfl ?_
    refine z_getR 39 zC11 (Nat.le_of_ble_eq_true rfl) rfl w_1035 dX11_multiply_36 rfl (fun v5 _ => ?_)
    refine z_bipush (nI 8) 41 zkb_8 dX11_multiply_39 rfl ?_
    refine z_iload_n 42 1 dX11_multiply_41 rfl rfl ?_
    refine z_imul 43 dX11_multiply_42 rfl ?_
    refine z_iload 45 4 dX11_multiply_43 rfl rfl ?_
    refine z_iadd 46 dX11_multiply_45 rfl ?_
    refine z_laload 47 dX11_multiply_46 rfl (fun v6 _ => ?_)
    refine z_aload_n 48 0 dX11_multiply_47 rfl rfl ?_
    refine z_getR 51 zC11 (Nat.le_of_ble_eq_true rfl) rfl w_1036 dX11_multiply_48 rfl (fun v7 _ => ?_)
    refine z_bipush (nI 8) 53 zkb_8 dX11_multiply_51 rfl ?_
    refine z_iload 55 4 dX11_multiply_53 rfl rfl ?_
    refine z_imul 56 dX11_multiply_55 rfl ?_
    refine z_iload_n 57 2 dX11_multiply_56 rfl rfl ?_
    refine z_iadd 58 dX11_multiply_57 rfl ?_
    refine z_laload 59 dX11_multiply_58 rfl (fun v8 _ => ?_)
    refine z_lmul 60 dX11_multiply_59 rfl ?_
    refine z_ladd 61 dX11_multiply_60 rfl ?_
    refine z_letJ (fun v9 _ => ?_)
    refine z_lstore_n (lv2 := [(3, .long v9), (0, .ref (b0 + x0)), (1, .int x1), (2, .int x2), (5, .int x5)]) 62 dX11_multiply_61 rfl (Nat.le_of_ble_eq_true rfl) rfl ?_
    refine z_iinc (lv2 := [(5, .int (x5 + (nI 1))), (3, .long v9), (0, .ref (b0 + x0)), (1, .int x1), (2, .int x2)]) (nI 1) 65 4 dX11_multiply_62 rfl rfl zki_1 (Nat.le_of_ble_eq_true rfl) rfl ?_
    refine z_goto 25 dX11_multiply_65 (by decide) ?_
    exact z_sub [2, 3, 4, 1, 0] rfl (hself25 v9 (x5 + (nI 1)) h)
theorem BX11_multiply_25 (b0 : Nat) (self2 : Int32 × ZH → Option (ZH)) (self12 : Int32 × ZH → Option (ZH)) (x0 : Nat) (x1 : Int32) (x2 : Int32) (hself2 : ∀ (y1 : Int32) (hh : ZH), Zr zv b0 YX11_multiply 1 2 [(0, .ref (b0 + x0)), (1, .int y1)] [] hh (self2 (y1, hh))) (hself12 : ∀ (y2 : Int32) (hh : ZH), Zr zv b0 YX11_multiply 1 12 [(0, .ref (b0 + x0)), (1, .int x1), (2, .int y2)] [] hh (self12 (y2, hh))) (n : Nat) (x3 : Int64) (x5 : Int32) (h : ZH) : Zr zv b0 YX11_multiply 1 25 [(0, .ref (b0 + x0)), (1, .int x1), (2, .int x2), (3, .long x3), (5, .int x5)] [] h (zloop (lX11_multiply_25 self2 self12 x0 x1 x2) n (x3, x5, h)) :=
  zloop_Zr (fun s => [(0, .ref (b0 + x0)), (1, .int x1), (2, .int x2), (3, .long s.1), (5, .int s.2.1)]) (fun _ => []) (fun s => s.2.2) (lX11_multiply_25 self2 self12 x0 x1 x2) (fun self hs s => KX11_multiply_25 b0 self2 self12 x0 x1 x2 hself2 hself12 self (fun y3 y5 hh => hs (y3, y5, hh)) s.1 s.2.1 s.2.2) n (x3, x5, h)
def kX11_multiply_12 (self2 : Int32 × ZH → Option (ZH)) (x0 : Nat) (x1 : Int32) (self12 : Int32 × ZH → Option (ZH)) (x2 : Int32) (h : ZH) : Option (ZH) :=
  (gI h 11 x0 17).bind fun v1 =>
  if v1 ≤ x2 then (self2 ((x1 + (nI 1)), h)) else
  (zloop (lX11_multiply_25 self2 self12 x0 x1 x2) zfu ((lN 0), (nI 0), h))
def lX11_multiply_12 (self2 : Int32 × ZH → Option (ZH)) (x0 : Nat) (x1 : Int32) : (Int32 × ZH → Option (ZH)) → Int32 × ZH → Option (ZH) := fun self s => kX11_multiply_12 self2 x0 x1 self s.1 s.2
theorem KX11_multiply_12 (b0 : Nat) (self2 : Int32 × ZH → Option (ZH)) (x0 : Nat) (x1 : Int32) (hself2 : ∀ (y1 : Int32) (hh : ZH), Zr zv b0 YX11_multiply 1 2 [(0, .ref (b0 + x0)), (1, .int y1)] [] hh (self2 (y1, hh))) (self12 : Int32 × ZH → Option (ZH)) (hself12 : ∀ (y2 : Int32) (hh : ZH), Zr zv b0 YX11_multiply 1 12 [(0, .ref (b0 + x0)), (1, .int x1), (2, .int y2)] [] hh (self12 (y2, hh))) (x2 : Int32) (h : ZH) : Zr zv b0 YX11_multiply 1 12 [(0, .ref (b0 + x0)), (1, .int x1), (2, .int x2)] [] h (kX11_multiply_12 self2 x0 x1 self12 x2 h) := by
  unfold kX11_multiply_12
  refine z_iload_n 13 2 dX11_multiply_12 rfl rfl ?_
  refine z_aload_n 14 0 dX11_multiply_13 rfl rfl ?_
  refine z_getI 17 zC11 (Nat.le_of_ble_eq_true rfl) rfl w_1034 dX11_multiply_14 rfl (fun v1 _ => ?_)
  refine z_icmp_ge 86 20 dX11_multiply_17 (by decide) rfl (fun c2 => ?_) (fun c2 => ?_)
  · refine z_iinc (lv2 := [(1, .int (x1 + (nI 1))), (0, .ref (b0 + x0)), (2, .int x2)]) (nI 1) 89 1 dX11_multiply_86 rfl rfl zki_1 (Nat.le_of_ble_eq_true rfl) rfl ?_
    refine z_goto 2 dX11_multiply_89 (by decide) ?_
    exact z_sub [1, 0] rfl (hself2 (x1 + (nI 1)) h)
  · refine z_lconst (lN 0) 21 rfl dX11_multiply_20 rfl ?_
    refine z_lstore_n (lv2 := [(3, .long (lN 0)), (0, .ref (b0 + x0)), (1, .int x1), (2, .int x2)]) 22 dX11_multiply_21 rfl (Nat.le_of_ble_eq_true rfl) rfl ?_
    refine z_iconst (nI 0) 23 zki_0 dX11_multiply_22 rfl ?_
    refine z_istore (lv2 := [(5, .int (nI 0)), (3, .long (lN 0)), (0, .ref (b0 + x0)), (1, .int x1), (2, .int x2)]) 25 dX11_multiply_23 rfl (Nat.le_of_ble_eq_true rfl) rfl ?_
    exact z_sub [2, 3, 4, 1, 0] rfl (BX11_multiply_25 b0 self2 self12 x0 x1 x2 hself2 hself12 zfu (lN 0) (nI 0) h)
theorem BX11_multiply_12 (b0 : Nat) (self2 : Int32 × ZH → Option (ZH)) (x0 : Nat) (x1 : Int32) (hself2 : ∀ (y1 : Int32) (hh : ZH), Zr zv b0 YX11_multiply 1 2 [(0, .ref (b0 + x0)), (1, .int y1)] [] hh (self2 (y1, hh))) (n : Nat) (x2 : Int32) (h : ZH) : Zr zv b0 YX11_multiply 1 12 [(0, .ref (b0 + x0)), (1, .int x1), (2, .int x2)] [] h (zloop (lX11_multiply_12 self2 x0 x1) n (x2, h)) :=
  zloop_Zr (fun s => [(0, .ref (b0 + x0)), (1, .int x1), (2, .int s.1)]) (fun _ => []) (fun s => s.2) (lX11_multiply_12 self2 x0 x1) (fun self hs s => KX11_multiply_12 b0 self2 x0 x1 hself2 self (fun y2 hh => hs (y2, hh)) s.1 s.2) n (x2, h)
def kX11_multiply_2 (x0 : Nat) (self2 : Int32 × ZH → Option (ZH)) (x1 : Int32) (h : ZH) : Option (ZH) :=
  (gI h 11 x0 17).bind fun v1 =>
  if v1 ≤ x1 then (some h) else
  (zloop (lX11_multiply_12 self2 x0 x1) zfu ((nI 0), h))
def lX11_multiply_2 (x0 : Nat) : (Int32 × ZH → Option (ZH)) → Int32 × ZH → Option (ZH) := fun self s => kX11_multiply_2 x0 self s.1 s.2
theorem KX11_multiply_2 (b0 : Nat) (x0 : Nat) (self2 : Int32 × ZH → Option (ZH)) (hself2 : ∀ (y1 : Int32) (hh : ZH), Zr zv b0 YX11_multiply 1 2 [(0, .ref (b0 + x0)), (1, .int y1)] [] hh (self2 (y1, hh))) (x1 : Int32) (h : ZH) : Zr zv b0 YX11_multiply 1 2 [(0, .ref (b0 + x0)), (1, .int x1)] [] h (kX11_multiply_2 x0 self2 x1 h) := by
  unfold kX11_multiply_2
  refine z_iload_n 3 1 dX11_multiply_2 rfl rfl ?_
  refine z_aload_n 4 0 dX11_multiply_3 rfl rfl ?_
  refine z_getI 7 zC11 (Nat.le_of_ble_eq_true rfl) rfl w_1034 dX11_multiply_4 rfl (fun v1 _ => ?_)
  refine z_icmp_ge 92 10 dX11_multiply_7 (by decide) rfl (fun c2 => ?_) (fun c2 => ?_)
  · exact z_return dX11_multiply_92 rfl
  · refine z_iconst (nI 0) 11 zki_0 dX11_multiply_10 rfl ?_
    refine z_istore_n (lv2 := [(2, .int (nI 0)), (0, .ref (b0 + x0)), (1, .int x1)]) 12 dX11_multiply_11 rfl (Nat.le_of_ble_eq_true rfl) rfl ?_
    exact z_sub [1, 2, 0] rfl (BX11_multiply_12 b0 self2 x0 x1 hself2 zfu (nI 0) h)
theorem BX11_multiply_2 (b0 : Nat) (x0 : Nat) (n : Nat) (x1 : Int32) (h : ZH) : Zr zv b0 YX11_multiply 1 2 [(0, .ref (b0 + x0)), (1, .int x1)] [] h (zloop (lX11_multiply_2 x0) n (x1, h)) :=
  zloop_Zr (fun s => [(0, .ref (b0 + x0)), (1, .int s.1)]) (fun _ => []) (fun s => s.2) (lX11_multiply_2 x0) (fun self hs s => KX11_multiply_2 b0 x0 self (fun y1 hh => hs (y1, hh)) s.1 s.2) n (x1, h)
def fX11_multiply (x0 : Nat) (h : ZH) : Option (ZH) :=
  if x0 < zn h ∧ zK h x0 = 11 then (zloop (lX11_multiply_2 x0) zfu ((nI 0), h)) else none
theorem kX11_multiply {x0 : Nat} {h : ZH} {x : ZH} (e : fX11_multiply x0 h = some x) : x0 < zn h ∧ zK h x0 = 11 := by
  unfold fX11_multiply at e
  exact zguard e
theorem mX11_multiply (b0 : Nat) (x0 : Nat) (h : ZH) : ZM zv b0 YX11_multiply 1 [.ref (b0 + x0)] h (fX11_multiply x0 h) := by
  unfold fX11_multiply
  refine ZM.of (by decide) rfl (Nat.le_of_ble_eq_true rfl) (fun _ => trivial) ?_
  refine z_sub (lv2 := [(0, .ref (b0 + x0))]) [0] rfl ?_
  refine z_guard (fun _ => ?_)
  refine z_iconst (nI 0) 1 zki_0 dX11_multiply_0 rfl ?_
  refine z_istore_n (lv2 := [(1, .int (nI 0)), (0, .ref (b0 + x0))]) 2 dX11_multiply_1 rfl (Nat.le_of_ble_eq_true rfl) rfl ?_
  exact z_sub [1, 0] rfl (BX11_multiply_2 b0 x0 zfu (nI 0) h)
-- X11_characteristic
def kX11_characteristic_153 (self44 : Int32 × ZH → Option (Int64 × ZH)) (x0 : Nat) (x2 : Int32) (x3 : Int32) (self153 : Int64 × Int32 × ZH → Option (Int64 × ZH)) (x4 : Int64) (x6 : Int32) (h : ZH) : Option (Int64 × ZH) :=
  (gI h 11 x0 17).bind fun v1 =>
  if v1 ≤ x6 then ((gR h 11 x0 21).bind fun v3 =>
  (gI h 11 x0 17).bind fun v4 =>
  if (x3.toInt64) = 0 then none else
  (sJ h v3 (v4 - x3) ((-x4) / (x3.toInt64))).bind fun h5 =>
  self44 ((x3 + (nI 1)), h5)) else
  ((gR h 11 x0 20).bind fun v6 =>
  (lJ h v6 ((nI 9) * x6)).bind fun v7 =>
  zl (x4 + v7) fun v8 =>
  self153 (v8, (x6 + (nI 1)), h))
def lX11_characteristic_153 (self44 : Int32 × ZH → Option (Int64 × ZH)) (x0 : Nat) (x2 : Int32) (x3 : Int32) : (Int64 × Int32 × ZH → Option (Int64 × ZH)) → Int64 × Int32 × ZH → Option (Int64 × ZH) := fun self s => kX11_characteristic_153 self44 x0 x2 x3 self s.1 s.2.1 s.2.2
theorem KX11_characteristic_153 (b0 : Nat) (self44 : Int32 × ZH → Option (Int64 × ZH)) (x0 : Nat) (x2 : Int32) (x3 : Int32) (hself44 : ∀ (y3 : Int32) (hh : ZH), Zr zj b0 YX11_characteristic 5 44 [(0, .ref (b0 + x0)), (2, .int x2), (3, .int y3)] [] hh (self44 (y3, hh))) (self153 : Int64 × Int32 × ZH → Option (Int64 × ZH)) (hself153 : ∀ (y4 : Int64) (y6 : Int32) (hh : ZH), Zr zj b0 YX11_characteristic 5 153 [(0, .ref (b0 + x0)), (2, .int x2), (3, .int x3), (4, .long y4), (6, .int y6)] [] hh (self153 (y4, y6, hh))) (x4 : Int64) (x6 : Int32) (h : ZH) : Zr zj b0 YX11_characteristic 5 153 [(0, .ref (b0 + x0)), (2, .int x2), (3, .int x3), (4, .long x4), (6, .int x6)] [] h (kX11_characteristic_153 self44 x0 x2 x3 self153 x4 x6 h) := by
  unfold kX11_characteristic_153
  refine z_iload 155 4 dX11_characteristic_153 rfl rfl ?_
  refine z_aload_n 156 0 dX11_characteristic_155 rfl rfl ?_
  refine z_getI 159 zC11 (Nat.le_of_ble_eq_true rfl) rfl w_1034 dX11_characteristic_156 rfl (fun v1 _ => ?_)
  refine z_icmp_ge 183 162 dX11_characteristic_159 (by decide) rfl (fun c2 => ?_) (fun c2 => ?_)
  · refine z_aload_n 184 0 dX11_characteristic_183 rfl rfl ?_
    refine z_getR 187 zC11 (Nat.le_of_ble_eq_true rfl) rfl w_1038 dX11_characteristic_184 rfl (fun v3 _ => ?_)
    refine z_aload_n 188 0 dX11_characteristic_187 rfl rfl ?_
    refine z_getI 191 zC11 (Nat.le_of_ble_eq_true rfl) rfl w_1034 dX11_characteristic_188 rfl (fun v4 _ => ?_)
    refine z_iload_n 192 2 dX11_characteristic_191 rfl rfl ?_
    refine z_isub 193 dX11_characteristic_192 rfl ?_
    refine z_lload 195 3 dX11_characteristic_193 rfl rfl ?_
    refine z_lneg 196 dX11_characteristic_195 rfl ?_
    refine z_iload_n 197 2 dX11_characteristic_196 rfl rfl ?_
    refine z_i2l 198 dX11_characteristic_197 rfl ?_
    refine z_ldiv 199 dX11_characteristic_198 rfl (fun _ => ?_)
    refine z_lastore 200 dX11_characteristic_199 rfl (fun h5 _ => ?_)
    refine z_iinc (lv2 := [(3, .int (x3 + (nI 1))), (0, .ref (b0 + x0)), (2, .int x2), (4, .long x4), (6, .int x6)]) (nI 1) 203 2 dX11_characteristic_200 rfl rfl zki_1 (Nat.le_of_ble_eq_true rfl) rfl ?_
    refine z_goto 44 dX11_characteristic_203 (by decide) ?_
    exact z_sub [1, 2, 0] rfl (hself44 (x3 + (nI 1)) h5)
  · refine z_lload 164 3 dX11_characteristic_162 rfl rfl ?_
    refine z_aload_n 165 0 dX11_characteristic_164 rfl rfl ?_
    refine z_getR 168 zC11 (Nat.le_of_ble_eq_true rfl) rfl w_1037 dX11_characteristic_165 rfl (fun v6 _ => ?_)
    refine z_bipush (nI 9) 170 zkb_9 dX11_characteristic_168 rfl ?_
    refine z_iload 172 4 dX11_characteristic_170 rfl rfl ?_
    refine z_imul 173 dX11_characteristic_172 rfl ?_
    refine z_laload 174 dX11_characteristic_173 rfl (fun v7 _ => ?_)
    refine z_ladd 175 dX11_characteristic_174 rfl ?_
    refine z_letJ (fun v8 _ => ?_)
    refine z_lstore (lv2 := [(4, .long v8), (0, .ref (b0 + x0)), (2, .int x2), (3, .int x3), (6, .int x6)]) 177 dX11_characteristic_175 rfl (Nat.le_of_ble_eq_true rfl) rfl ?_
    refine z_iinc (lv2 := [(6, .int (x6 + (nI 1))), (4, .long v8), (0, .ref (b0 + x0)), (2, .int x2), (3, .int x3)]) (nI 1) 180 4 dX11_characteristic_177 rfl rfl zki_1 (Nat.le_of_ble_eq_true rfl) rfl ?_
    refine z_goto 153 dX11_characteristic_180 (by decide) ?_
    exact z_sub [2, 3, 4, 1, 0] rfl (hself153 v8 (x6 + (nI 1)) h)
theorem BX11_characteristic_153 (b0 : Nat) (self44 : Int32 × ZH → Option (Int64 × ZH)) (x0 : Nat) (x2 : Int32) (x3 : Int32) (hself44 : ∀ (y3 : Int32) (hh : ZH), Zr zj b0 YX11_characteristic 5 44 [(0, .ref (b0 + x0)), (2, .int x2), (3, .int y3)] [] hh (self44 (y3, hh))) (n : Nat) (x4 : Int64) (x6 : Int32) (h : ZH) : Zr zj b0 YX11_characteristic 5 153 [(0, .ref (b0 + x0)), (2, .int x2), (3, .int x3), (4, .long x4), (6, .int x6)] [] h (zloop (lX11_characteristic_153 self44 x0 x2 x3) n (x4, x6, h)) :=
  zloop_Zr (fun s => [(0, .ref (b0 + x0)), (2, .int x2), (3, .int x3), (4, .long s.1), (6, .int s.2.1)]) (fun _ => []) (fun s => s.2.2) (lX11_characteristic_153 self44 x0 x2 x3) (fun self hs s => KX11_characteristic_153 b0 self44 x0 x2 x3 hself44 self (fun y4 y6 hh => hs (y4, y6, hh)) s.1 s.2.1 s.2.2) n (x4, x6, h)
def bX11_characteristic_129 (self44 : Int32 × ZH → Option (Int64 × ZH)) (self59 : Int32 × ZH → Option (Int64 × ZH)) (self71 : Int32 × ZH → Option (Int64 × ZH)) (x0 : Nat) (x2 : Int32) (x3 : Int32) (x4 : Int32) (x5 : Int32) (t0 : Int64) (t1 : Int64) (t2 : Int32) (t3 : Nat) (h : ZH) : Option (Int64 × ZH) :=
  (sJ h t3 t2 (t1 + t0)).bind fun h1 =>
  self71 ((x5 + (nI 1)), h1)
theorem BX11_characteristic_129 (b0 : Nat) (self44 : Int32 × ZH → Option (Int64 × ZH)) (self59 : Int32 × ZH → Option (Int64 × ZH)) (self71 : Int32 × ZH → Option (Int64 × ZH)) (x0 : Nat) (x2 : Int32) (x3 : Int32) (x4 : Int32) (x5 : Int32) (t0 : Int64) (t1 : Int64) (t2 : Int32) (t3 : Nat) (h : ZH) (hself44 : ∀ (y3 : Int32) (hh : ZH), Zr zj b0 YX11_characteristic 5 44 [(0, .ref (b0 + x0)), (2, .int x2), (3, .int y3)] [] hh (self44 (y3, hh))) (hself59 : ∀ (y4 : Int32) (hh : ZH), Zr zj b0 YX11_characteristic 5 59 [(0, .ref (b0 + x0)), (2, .int x2), (3, .int x3), (4, .int y4)] [] hh (self59 (y4, hh))) (hself71 : ∀ (y5 : Int32) (hh : ZH), Zr zj b0 YX11_characteristic 5 71 [(0, .ref (b0 + x0)), (2, .int x2), (3, .int x3), (4, .int x4), (5, .int y5)] [] hh (self71 (y5, hh))) : Zr zj b0 YX11_characteristic 5 129 [(0, .ref (b0 + x0)), (2, .int x2), (3, .int x3), (4, .int x4), (5, .int x5)] [.long t0, .long t1, .int t2, .ref (b0 + t3)] h (bX11_characteristic_129 self44 self59 self71 x0 x2 x3 x4 x5 t0 t1 t2 t3 h) := by
  unfold bX11_characteristic_129
  refine z_ladd 130 dX11_characteristic_129 rfl ?_
  refine z_lastore 131 dX11_characteristic_130 rfl (fun h1 _ => ?_)
  refine z_iinc (lv2 := [(5, .int (x5 + (nI 1))), (0, .ref (b0 + x0)), (2, .int x2), (3, .int x3), (4, .int x4)]) (nI 1) 134 4 dX11_characteristic_131 rfl rfl zki_1 (Nat.le_of_ble_eq_true rfl) rfl ?_
  refine z_goto 71 dX11_characteristic_134 (by decide) ?_
  exact z_sub [1, 2, 3, 4, 0] rfl (hself71 (x5 + (nI 1)) h1)
def kX11_characteristic_71 (self44 : Int32 × ZH → Option (Int64 × ZH)) (self59 : Int32 × ZH → Option (Int64 × ZH)) (x0 : Nat) (x2 : Int32) (x3 : Int32) (x4 : Int32) (self71 : Int32 × ZH → Option (Int64 × ZH)) (x5 : Int32) (h : ZH) : Option (Int64 × ZH) :=
  (gI h 11 x0 17).bind fun v1 =>
  if v1 ≤ x5 then (self59 ((x4 + (nI 1)), h)) else
  ((gR h 11 x0 19).bind fun v3 =>
  (gR h 11 x0 20).bind fun v4 =>
  (lJ h v4 (((nI 8) * x4) + x5)).bind fun v5 =>
  if x4 = x5 then ((gR h 11 x0 21).bind fun v7 =>
  (gI h 11 x0 17).bind fun v8 =>
  (lJ h v7 ((v8 - x3) + (nI 1))).bind fun v9 =>
  bX11_characteristic_129 self44 self59 self71 x0 x2 x3 x4 x5 v9 v5 (((nI 8) * x4) + x5) v3 h) else
  (bX11_characteristic_129 self44 self59 self71 x0 x2 x3 x4 x5 (lN 0) v5 (((nI 8) * x4) + x5) v3 h))
def lX11_characteristic_71 (self44 : Int32 × ZH → Option (Int64 × ZH)) (self59 : Int32 × ZH → Option (Int64 × ZH)) (x0 : Nat) (x2 : Int32) (x3 : Int32) (x4 : Int32) : (Int32 × ZH → Option (Int64 × ZH)) → Int32 × ZH → Option (Int64 × ZH) := fun self s => kX11_characteristic_71 self44 self59 x0 x2 x3 x4 self s.1 s.2
theorem KX11_characteristic_71 (b0 : Nat) (self44 : Int32 × ZH → Option (Int64 × ZH)) (self59 : Int32 × ZH → Option (Int64 × ZH)) (x0 : Nat) (x2 : Int32) (x3 : Int32) (x4 : Int32) (hself44 : ∀ (y3 : Int32) (hh : ZH), Zr zj b0 YX11_characteristic 5 44 [(0, .ref (b0 + x0)), (2, .int x2), (3, .int y3)] [] hh (self44 (y3, hh))) (hself59 : ∀ (y4 : Int32) (hh : ZH), Zr zj b0 YX11_characteristic 5 59 [(0, .ref (b0 + x0)), (2, .int x2), (3, .int x3), (4, .int y4)] [] hh (self59 (y4, hh))) (self71 : Int32 × ZH → Option (Int64 × ZH)) (hself71 : ∀ (y5 : Int32) (hh : ZH), Zr zj b0 YX11_characteristic 5 71 [(0, .ref (b0 + x0)), (2, .int x2), (3, .int x3), (4, .int x4), (5, .int y5)] [] hh (self71 (y5, hh))) (x5 : Int32) (h : ZH) : Zr zj b0 YX11_characteristic 5 71 [(0, .ref (b0 + x0)), (2, .int x2), (3, .int x3), (4, .int x4), (5, .int x5)] [] h (kX11_characteristic_71 self44 self59 x0 x2 x3 x4 self71 x5 h) := by
  unfold kX11_characteristic_71
  refine z_iload 73 4 dX11_characteristic_71 rfl rfl ?_
  refine z_aload_n 74 0 dX11_characteristic_73 rfl rfl ?_
  refine z_getI 77 zC11 (Nat.le_of_ble_eq_true rfl) rfl w_1034 dX11_characteristic_74 rfl (fun v1 _ => ?_)
  refine z_icmp_ge 137 80 dX11_characteristic_77 (by decide) rfl (fun c2 => ?_) (fun c2 => ?_)
  · refine z_iinc (lv2 := [(4, .int (x4 + (nI 1))), (0, .ref (b0 + x0)), (2, .int x2), (3, .int x3), (5, .int x5)]) (nI 1) 140 3 dX11_characteristic_137 rfl rfl zki_1 (Nat.le_of_ble_eq_true rfl) rfl ?_
    refine z_goto 59 dX11_characteristic_140 (by decide) ?_
    exact z_sub [1, 2, 3, 0] rfl (hself59 (x4 + (nI 1)) h)
  · refine z_aload_n 81 0 dX11_characteristic_80 rfl rfl ?_
    refine z_getR 84 zC11 (Nat.le_of_ble_eq_true rfl) rfl w_1036 dX11_characteristic_81 rfl (fun v3 _ => ?_)
    refine z_bipush (nI 8) 86 zkb_8 dX11_characteristic_84 rfl ?_
    refine z_iload 88 3 dX11_characteristic_86 rfl rfl ?_
    refine z_imul 89 dX11_characteristic_88 rfl ?_
    refine z_iload 91 4 dX11_characteristic_89 rfl rfl ?_
    refine z_iadd 92 dX11_characteristic_91 rfl ?_
    refine z_aload_n 93 0 dX11_characteristic_92 rfl rfl ?_
    refine z_getR 96 zC11 (Nat.le_of_ble_eq_true rfl) rfl w_1037 dX11_characteristic_93 rfl (fun v4 _ => ?_)
    refine z_bipush (nI 8) 98 zkb_8 dX11_characteristic_96 rfl ?_
    refine z_iload 100 3 dX11_characteristic_98 rfl rfl ?_
    refine z_imul 101 dX11_characteristic_100 rfl ?_
    refine z_iload 103 4 dX11_characteristic_101 rfl rfl ?_
    refine z_iadd 104 dX11_characteristic_103 rfl ?_
    refine z_laload 105 dX11_characteristic_104 rfl (fun v5 _ => ?_)
    refine z_iload 107 3 dX11_characteristic_105 rfl rfl ?_
    refine z_iload 109 4 dX11_characteristic_107 rfl rfl ?_
    refine z_icmp_ne 128 112 dX11_characteristic_109 (by decide) rfl (fun c6 => ?_) (fun c6 => ?_)
    · refine z_lconst (lN 0) 129 rfl dX11_characteristic_128 rfl ?_
      exact z_sub [0, 1, 2, 3, 4] rfl (BX11_characteristic_129 b0 self44 self59 self71 x0 x2 x3 x4 x5 (lN 0) v5 (((nI 8) * x4) + x5) v3 h hself44 hself59 hself71)
    · refine z_aload_n 113 0 dX11_characteristic_112 rfl rfl ?_
      refine z_getR 116 zC11 (Nat.le_of_ble_eq_true rfl) rfl w_1038 dX11_characteristic_113 rfl (fun v7 _ => ?_)
      refine z_aload_n 117 0 dX11_characteristic_116 rfl rfl ?_
      refine z_getI 120 zC11 (Nat.le_of_ble_eq_true rfl) rfl w_1034 dX11_characteristic_117 rfl (fun v8 _ => ?_)
      refine z_iload_n 121 2 dX11_characteristic_120 rfl rfl ?_
      refine z_isub 122 dX11_characteristic_121 rfl ?_
      refine z_iconst (nI 1) 123 zki_1 dX11_characteristic_122 rfl ?_
      refine z_iadd 124 dX11_characteristic_123 rfl ?_
      refine z_laload 125 dX11_characteristic_124 rfl (fun v9 _ => ?_)
      refine z_goto 129 dX11_characteristic_125 (by decide) ?_
      exact z_sub [0, 1, 2, 3, 4] rfl (BX11_characteristic_129 b0 self44 self59 self71 x0 x2 x3 x4 x5 v9 v5 (((nI 8) * x4) + x5) v3 h hself44 hself59 hself71)
theorem BX11_characteristic_71 (b0 : Nat) (self44 : Int32 × ZH → Option (Int64 × ZH)) (self59 : Int32 × ZH → Option (Int64 × ZH)) (x0 : Nat) (x2 : Int32) (x3 : Int32) (x4 : Int32) (hself44 : ∀ (y3 : Int32) (hh : ZH), Zr zj b0 YX11_characteristic 5 44 [(0, .ref (b0 + x0)), (2, .int x2), (3, .int y3)] [] hh (self44 (y3, hh))) (hself59 : ∀ (y4 : Int32) (hh : ZH), Zr zj b0 YX11_characteristic 5 59 [(0, .ref (b0 + x0)), (2, .int x2), (3, .int x3), (4, .int y4)] [] hh (self59 (y4, hh))) (n : Nat) (x5 : Int32) (h : ZH) : Zr zj b0 YX11_characteristic 5 71 [(0, .ref (b0 + x0)), (2, .int x2), (3, .int x3), (4, .int x4), (5, .int x5)] [] h (zloop (lX11_characteristic_71 self44 self59 x0 x2 x3 x4) n (x5, h)) :=
  zloop_Zr (fun s => [(0, .ref (b0 + x0)), (2, .int x2), (3, .int x3), (4, .int x4), (5, .int s.1)]) (fun _ => []) (fun s => s.2) (lX11_characteristic_71 self44 self59 x0 x2 x3 x4) (fun self hs s => KX11_characteristic_71 b0 self44 self59 x0 x2 x3 x4 hself44 hself59 self (fun y5 hh => hs (y5, hh)) s.1 s.2) n (x5, h)
def kX11_characteristic_59 (self44 : Int32 × ZH → Option (Int64 × ZH)) (x0 : Nat) (x2 : Int32) (x3 : Int32) (self59 : Int32 × ZH → Option (Int64 × ZH)) (x4 : Int32) (h : ZH) : Option (Int64 × ZH) :=
  (gI h 11 x0 17).bind fun v1 =>
  if v1 ≤ x4 then ((fX11_multiply x0 h).bind fun h3 =>
  zloop (lX11_characteristic_153 self44 x0 x2 x3) zfu ((lN 0), (nI 0), h3)) else
  (zloop (lX11_characteristic_71 self44 self59 x0 x2 x3 x4) zfu ((nI 0), h))
def lX11_characteristic_59 (self44 : Int32 × ZH → Option (Int64 × ZH)) (x0 : Nat) (x2 : Int32) (x3 : Int32) : (Int32 × ZH → Option (Int64 × ZH)) → Int32 × ZH → Option (Int64 × ZH) := fun self s => kX11_characteristic_59 self44 x0 x2 x3 self s.1 s.2
theorem KX11_characteristic_59 (b0 : Nat) (self44 : Int32 × ZH → Option (Int64 × ZH)) (x0 : Nat) (x2 : Int32) (x3 : Int32) (hself44 : ∀ (y3 : Int32) (hh : ZH), Zr zj b0 YX11_characteristic 5 44 [(0, .ref (b0 + x0)), (2, .int x2), (3, .int y3)] [] hh (self44 (y3, hh))) (self59 : Int32 × ZH → Option (Int64 × ZH)) (hself59 : ∀ (y4 : Int32) (hh : ZH), Zr zj b0 YX11_characteristic 5 59 [(0, .ref (b0 + x0)), (2, .int x2), (3, .int x3), (4, .int y4)] [] hh (self59 (y4, hh))) (x4 : Int32) (h : ZH) : Zr zj b0 YX11_characteristic 5 59 [(0, .ref (b0 + x0)), (2, .int x2), (3, .int x3), (4, .int x4)] [] h (kX11_characteristic_59 self44 x0 x2 x3 self59 x4 h) := by
  unfold kX11_characteristic_59
  refine z_iload 61 3 dX11_characteristic_59 rfl rfl ?_
  refine z_aload_n 62 0 dX11_characteristic_61 rfl rfl ?_
  refine z_getI 65 zC11 (Nat.le_of_ble_eq_true rfl) rfl w_1034 dX11_characteristic_62 rfl (fun v1 _ => ?_)
  refine z_icmp_ge 143 68 dX11_characteristic_65 (by decide) rfl (fun c2 => ?_) (fun c2 => ?_)
  · refine z_aload_n 144 0 dX11_characteristic_143 rfl rfl ?_
    refine z_callVv 147 (mX11_multiply b0 x0 h) zyX11_multiply rfl w_1348 (ci := 11) rfl (Nat.le_of_ble_eq_true rfl) (fun _ e9 => kX11_multiply e9) wm_yX11_multiply ws_yX11_multiply (Nat.le_of_ble_eq_true rfl) rfl (Nat.le_of_ble_eq_true rfl) dX11_characteristic_144 rfl (fun h3 => ?_)
    refine z_lconst (lN 0) 148 rfl dX11_characteristic_147 rfl ?_
    refine z_lstore (lv2 := [(4, .long (lN 0)), (0, .ref (b0 + x0)), (2, .int x2), (3, .int x3)]) 150 dX11_characteristic_148 rfl (Nat.le_of_ble_eq_true rfl) rfl ?_
    refine z_iconst (nI 0) 151 zki_0 dX11_characteristic_150 rfl ?_
    refine z_istore (lv2 := [(6, .int (nI 0)), (4, .long (lN 0)), (0, .ref (b0 + x0)), (2, .int x2), (3, .int x3)]) 153 dX11_characteristic_151 rfl (Nat.le_of_ble_eq_true rfl) rfl ?_
    exact z_sub [2, 3, 4, 1, 0] rfl (BX11_characteristic_153 b0 self44 x0 x2 x3 hself44 zfu (lN 0) (nI 0) h3)
  · refine z_iconst (nI 0) 69 zki_0 dX11_characteristic_68 rfl ?_
    refine z_istore (lv2 := [(5, .int (nI 0)), (0, .ref (b0 + x0)), (2, .int x2), (3, .int x3), (4, .int x4)]) 71 dX11_characteristic_69 rfl (Nat.le_of_ble_eq_true rfl) rfl ?_
    exact z_sub [1, 2, 3, 4, 0] rfl (BX11_characteristic_71 b0 self44 self59 x0 x2 x3 x4 hself44 hself59 zfu (nI 0) h)
theorem BX11_characteristic_59 (b0 : Nat) (self44 : Int32 × ZH → Option (Int64 × ZH)) (x0 : Nat) (x2 : Int32) (x3 : Int32) (hself44 : ∀ (y3 : Int32) (hh : ZH), Zr zj b0 YX11_characteristic 5 44 [(0, .ref (b0 + x0)), (2, .int x2), (3, .int y3)] [] hh (self44 (y3, hh))) (n : Nat) (x4 : Int32) (h : ZH) : Zr zj b0 YX11_characteristic 5 59 [(0, .ref (b0 + x0)), (2, .int x2), (3, .int x3), (4, .int x4)] [] h (zloop (lX11_characteristic_59 self44 x0 x2 x3) n (x4, h)) :=
  zloop_Zr (fun s => [(0, .ref (b0 + x0)), (2, .int x2), (3, .int x3), (4, .int s.1)]) (fun _ => []) (fun s => s.2) (lX11_characteristic_59 self44 x0 x2 x3) (fun self hs s => KX11_characteristic_59 b0 self44 x0 x2 x3 hself44 self (fun y4 hh => hs (y4, hh)) s.1 s.2) n (x4, h)
def kX11_characteristic_44 (x0 : Nat) (x2 : Int32) (self44 : Int32 × ZH → Option (Int64 × ZH)) (x3 : Int32) (h : ZH) : Option (Int64 × ZH) :=
  (gI h 11 x0 17).bind fun v1 =>
  if v1 < x3 then ((gR h 11 x0 21).bind fun v3 =>
  (lJ h v3 x2).bind fun v4 =>
  some (v4, h)) else
  ((fX11_multiply x0 h).bind fun h5 =>
  zloop (lX11_characteristic_59 self44 x0 x2 x3) zfu ((nI 0), h5))
def lX11_characteristic_44 (x0 : Nat) (x2 : Int32) : (Int32 × ZH → Option (Int64 × ZH)) → Int32 × ZH → Option (Int64 × ZH) := fun self s => kX11_characteristic_44 x0 x2 self s.1 s.2
theorem KX11_characteristic_44 (b0 : Nat) (x0 : Nat) (x2 : Int32) (self44 : Int32 × ZH → Option (Int64 × ZH)) (hself44 : ∀ (y3 : Int32) (hh : ZH), Zr zj b0 YX11_characteristic 5 44 [(0, .ref (b0 + x0)), (2, .int x2), (3, .int y3)] [] hh (self44 (y3, hh))) (x3 : Int32) (h : ZH) : Zr zj b0 YX11_characteristic 5 44 [(0, .ref (b0 + x0)), (2, .int x2), (3, .int x3)] [] h (kX11_characteristic_44 x0 x2 self44 x3 h) := by
  unfold kX11_characteristic_44
  refine z_iload_n 45 2 dX11_characteristic_44 rfl rfl ?_
  refine z_aload_n 46 0 dX11_characteristic_45 rfl rfl ?_
  refine z_getI 49 zC11 (Nat.le_of_ble_eq_true rfl) rfl w_1034 dX11_characteristic_46 rfl (fun v1 _ => ?_)
  refine z_icmp_gt 206 52 dX11_characteristic_49 (by decide) rfl (fun c2 => ?_) (fun c2 => ?_)
  · refine z_aload_n 207 0 dX11_characteristic_206 rfl rfl ?_
    refine z_getR 210 zC11 (Nat.le_of_ble_eq_true rfl) rfl w_1038 dX11_characteristic_207 rfl (fun v3 _ => ?_)
    refine z_iload_n 211 1 dX11_characteristic_210 rfl rfl ?_
    refine z_laload 212 dX11_characteristic_211 rfl (fun v4 _ => ?_)
    exact z_lreturn dX11_characteristic_212 rfl
  · refine z_aload_n 53 0 dX11_characteristic_52 rfl rfl ?_
    refine z_callVv 56 (mX11_multiply b0 x0 h) zyX11_multiply rfl w_1348 (ci := 11) rfl (Nat.le_of_ble_eq_true rfl) (fun _ e9 => kX11_multiply e9) wm_yX11_multiply ws_yX11_multiply (Nat.le_of_ble_eq_true rfl) rfl (Nat.le_of_ble_eq_true rfl) dX11_characteristic_53 rfl (fun h5 => ?_)
    refine z_iconst (nI 0) 57 zki_0 dX11_characteristic_56 rfl ?_
    refine z_istore (lv2 := [(4, .int (nI 0)), (0, .ref (b0 + x0)), (2, .int x2), (3, .int x3)]) 59 dX11_characteristic_57 rfl (Nat.le_of_ble_eq_true rfl) rfl ?_
    exact z_sub [1, 2, 3, 0] rfl (BX11_characteristic_59 b0 self44 x0 x2 x3 hself44 zfu (nI 0) h5)
theorem BX11_characteristic_44 (b0 : Nat) (x0 : Nat) (x2 : Int32) (n : Nat) (x3 : Int32) (h : ZH) : Zr zj b0 YX11_characteristic 5 44 [(0, .ref (b0 + x0)), (2, .int x2), (3, .int x3)] [] h (zloop (lX11_characteristic_44 x0 x2) n (x3, h)) :=
  zloop_Zr (fun s => [(0, .ref (b0 + x0)), (2, .int x2), (3, .int s.1)]) (fun _ => []) (fun s => s.2) (lX11_characteristic_44 x0 x2) (fun self hs s => KX11_characteristic_44 b0 x0 x2 self (fun y3 hh => hs (y3, hh)) s.1 s.2) n (x3, h)
def bX11_characteristic_23 (h : ZH) : Option (Int64 × ZH) :=
  some ((-9223372036854775808 : Int64), h)
theorem BX11_characteristic_23 (b0 : Nat) (h : ZH) : Zr zj b0 YX11_characteristic 5 23 [] [] h (bX11_characteristic_23 h) := by
  unfold bX11_characteristic_23
  refine z_ldc2 26 w_1339 dX11_characteristic_23 rfl ?_
  exact z_lreturn dX11_characteristic_26 rfl
def fX11_characteristic (x0 : Nat) (x1 : Int32) (x2 : Int32) (h : ZH) : Option (Int64 × ZH) :=
  if x0 < zn h ∧ zK h x0 = 11 then ((fX11_isSlot x1 h).bind fun q1 =>
  if q1.1 = 0 then (bX11_characteristic_23 q1.2) else
  ((fX11_essentialOf x0 x1 q1.2).bind fun q3 =>
  (fJ6_bitCount_0f7a4 q3.1 q3.2).bind fun q4 =>
  (fX11_isIn x2 (nI 0) q4.1 q4.2).bind fun q5 =>
  if q5.1 = 0 then (bX11_characteristic_23 q5.2) else
  ((fX11_fillMatrix x0 x1 q5.2).bind fun h7 =>
  (gR h7 11 x0 21).bind fun v8 =>
  (gI h7 11 x0 17).bind fun v9 =>
  (sJ h7 v8 v9 (lN 1)).bind fun h10 =>
  zloop (lX11_characteristic_44 x0 x2) zfu ((nI 1), h10)))) else none
theorem kX11_characteristic {x0 : Nat} {x1 : Int32} {x2 : Int32} {h : ZH} {x : Int64 × ZH} (e : fX11_characteristic x0 x1 x2 h = some x) : x0 < zn h ∧ zK h x0 = 11 := by
  unfold fX11_characteristic at e
  exact zguard e
theorem mX11_characteristic (b0 : Nat) (x0 : Nat) (x1 : Int32) (x2 : Int32) (h : ZH) : ZM zj b0 YX11_characteristic 5 [.ref (b0 + x0), .int x1, .int x2] h (fX11_characteristic x0 x1 x2 h) := by
  unfold fX11_characteristic
  refine ZM.of (by decide) rfl (Nat.le_of_ble_eq_true rfl) (fun _ => trivial) ?_
  refine z_sub (lv2 := [(0, .ref (b0 + x0)), (1, .int x1), (2, .int x2)]) [0, 1, 2] rfl ?_
  refine z_guard (fun _ => ?_)
  refine z_iload_n 1 1 dX11_characteristic_0 rfl rfl ?_
  refine z_callSi 4 (mX11_isSlot b0 x1 h) zyX11_isSlot rfl w_1154 wt_yX11_isSlot (Nat.le_of_ble_eq_true rfl) rfl (Nat.le_of_ble_eq_true rfl) dX11_characteristic_1 rfl (fun q1 => ?_)
  refine z_if_eq 23 7 dX11_characteristic_4 (by decide) rfl (fun c2 => ?_) (fun c2 => ?_)
  · exact z_sub [] rfl (BX11_characteristic_23 b0 q1.2 )
  · refine z_iload_n 8 2 dX11_characteristic_7 rfl rfl ?_
    refine z_iconst (nI 0) 9 zki_0 dX11_characteristic_8 rfl ?_
    refine z_aload_n 10 0 dX11_characteristic_9 rfl rfl ?_
    refine z_iload_n 11 1 dX11_characteristic_10 rfl rfl ?_
    refine z_callVi 14 (mX11_essentialOf b0 x0 x1 q1.2) zyX11_essentialOf rfl w_1231 (ci := 11) rfl (Nat.le_of_ble_eq_true rfl) (fun _ e9 => kX11_essentialOf e9) wm_yX11_essentialOf ws_yX11_essentialOf (Nat.le_of_ble_eq_true rfl) rfl (Nat.le_of_ble_eq_true rfl) dX11_characteristic_11 rfl (fun q3 => ?_)
    refine z_callSi 17 (mJ6_bitCount_0f7a4 b0 q3.1 q3.2) zyJ6_bitCount_0f7a4 rfl w_1178 wt_yJ6_bitCount_0f7a4 (Nat.le_of_ble_eq_true rfl) rfl (Nat.le_of_ble_eq_true rfl) dX11_characteristic_14 rfl (fun q4 => ?_)
    refine z_callSi 20 (mX11_isIn b0 x2 (nI 0) q4.1 q4.2) zyX11_isIn rfl w_1157 wt_yX11_isIn (Nat.le_of_ble_eq_true rfl) rfl (Nat.le_of_ble_eq_true rfl) dX11_characteristic_17 rfl (fun q5 => ?_)
    refine z_if_ne 27 23 dX11_characteristic_20 (by decide) rfl (fun c6 => ?_) (fun c6 => ?_)
    · refine z_aload_n 28 0 dX11_characteristic_27 rfl rfl ?_
      refine z_iload_n 29 1 dX11_characteristic_28 rfl rfl ?_
      refine z_callVv 32 (mX11_fillMatrix b0 x0 x1 q5.2) zyX11_fillMatrix rfl w_1340 (ci := 11) rfl (Nat.le_of_ble_eq_true rfl) (fun _ e9 => kX11_fillMatrix e9) wm_yX11_fillMatrix ws_yX11_fillMatrix (Nat.le_of_ble_eq_true rfl) rfl (Nat.le_of_ble_eq_true rfl) dX11_characteristic_29 rfl (fun h7 => ?_)
      refine z_aload_n 33 0 dX11_characteristic_32 rfl rfl ?_
      refine z_getR 36 zC11 (Nat.le_of_ble_eq_true rfl) rfl w_1038 dX11_characteristic_33 rfl (fun v8 _ => ?_)
      refine z_aload_n 37 0 dX11_characteristic_36 rfl rfl ?_
      refine z_getI 40 zC11 (Nat.le_of_ble_eq_true rfl) rfl w_1034 dX11_characteristic_37 rfl (fun v9 _ => ?_)
      refine z_lconst (lN 1) 41 rfl dX11_characteristic_40 rfl ?_
      refine z_lastore 42 dX11_characteristic_41 rfl (fun h10 _ => ?_)
      refine z_iconst (nI 1) 43 zki_1 dX11_characteristic_42 rfl ?_
      refine z_istore_n (lv2 := [(3, .int (nI 1)), (0, .ref (b0 + x0)), (1, .int x1), (2, .int x2)]) 44 dX11_characteristic_43 rfl (Nat.le_of_ble_eq_true rfl) rfl ?_
      exact z_sub [1, 3, 0] rfl (BX11_characteristic_44 b0 x0 x2 zfu (nI 1) h10)
    · exact z_sub [] rfl (BX11_characteristic_23 b0 q5.2 )
-- X11_clearSeen
def kX11_clearSeen_2 (x0 : Nat) (self2 : Int32 × ZH → Option (ZH)) (x1 : Int32) (h : ZH) : Option (ZH) :=
  if (nI 256) ≤ x1 then ((pI h 11 x0 28 (nI 0)).bind fun h2 =>
  some h2) else
  ((gR h 11 x0 26).bind fun v3 =>
  (sI h 16 v3 x1 (nI 0)).bind fun h4 =>
  self2 ((x1 + (nI 1)), h4))
def lX11_clearSeen_2 (x0 : Nat) : (Int32 × ZH → Option (ZH)) → Int32 × ZH → Option (ZH) := fun self s => kX11_clearSeen_2 x0 self s.1 s.2
theorem KX11_clearSeen_2 (b0 : Nat) (x0 : Nat) (self2 : Int32 × ZH → Option (ZH)) (hself2 : ∀ (y1 : Int32) (hh : ZH), Zr zv b0 YX11_clearSeen 1 2 [(0, .ref (b0 + x0)), (1, .int y1)] [] hh (self2 (y1, hh))) (x1 : Int32) (h : ZH) : Zr zv b0 YX11_clearSeen 1 2 [(0, .ref (b0 + x0)), (1, .int x1)] [] h (kX11_clearSeen_2 x0 self2 x1 h) := by
  unfold kX11_clearSeen_2
  refine z_iload_n 3 1 dX11_clearSeen_2 rfl rfl ?_
  refine z_sipush (nI 256) 6 zks_256 dX11_clearSeen_3 rfl ?_
  refine z_icmp_ge 22 9 dX11_clearSeen_6 (by decide) rfl (fun c1 => ?_) (fun c1 => ?_)
  · refine z_aload_n 23 0 dX11_clearSeen_22 rfl rfl ?_
    refine z_iconst (nI 0) 24 zki_0 dX11_clearSeen_23 rfl ?_
    refine z_putI 27 zC11 (Nat.le_of_ble_eq_true rfl) rfl rfl rfl w_1045 dX11_clearSeen_24 rfl (fun h2 _ => ?_)
    exact z_return dX11_clearSeen_27 rfl
  · refine z_aload_n 10 0 dX11_clearSeen_9 rfl rfl ?_
    refine z_getR 13 zC11 (Nat.le_of_ble_eq_true rfl) rfl w_1043 dX11_clearSeen_10 rfl (fun v3 _ => ?_)
    refine z_iload_n 14 1 dX11_clearSeen_13 rfl rfl ?_
    refine z_iconst (nI 0) 15 zki_0 dX11_clearSeen_14 rfl ?_
    refine z_zastore 16 dX11_clearSeen_15 rfl (fun h4 _ => ?_)
    refine z_iinc (lv2 := [(1, .int (x1 + (nI 1))), (0, .ref (b0 + x0))]) (nI 1) 19 1 dX11_clearSeen_16 rfl rfl zki_1 (Nat.le_of_ble_eq_true rfl) rfl ?_
    refine z_goto 2 dX11_clearSeen_19 (by decide) ?_
    exact z_sub [1, 0] rfl (hself2 (x1 + (nI 1)) h4)
theorem BX11_clearSeen_2 (b0 : Nat) (x0 : Nat) (n : Nat) (x1 : Int32) (h : ZH) : Zr zv b0 YX11_clearSeen 1 2 [(0, .ref (b0 + x0)), (1, .int x1)] [] h (zloop (lX11_clearSeen_2 x0) n (x1, h)) :=
  zloop_Zr (fun s => [(0, .ref (b0 + x0)), (1, .int s.1)]) (fun _ => []) (fun s => s.2) (lX11_clearSeen_2 x0) (fun self hs s => KX11_clearSeen_2 b0 x0 self (fun y1 hh => hs (y1, hh)) s.1 s.2) n (x1, h)
def fX11_clearSeen (x0 : Nat) (h : ZH) : Option (ZH) :=
  if x0 < zn h ∧ zK h x0 = 11 then (zloop (lX11_clearSeen_2 x0) zfu ((nI 0), h)) else none
theorem kX11_clearSeen {x0 : Nat} {h : ZH} {x : ZH} (e : fX11_clearSeen x0 h = some x) : x0 < zn h ∧ zK h x0 = 11 := by
  unfold fX11_clearSeen at e
  exact zguard e
theorem mX11_clearSeen (b0 : Nat) (x0 : Nat) (h : ZH) : ZM zv b0 YX11_clearSeen 1 [.ref (b0 + x0)] h (fX11_clearSeen x0 h) := by
  unfold fX11_clearSeen
  refine ZM.of (by decide) rfl (Nat.le_of_ble_eq_true rfl) (fun _ => trivial) ?_
  refine z_sub (lv2 := [(0, .ref (b0 + x0))]) [0] rfl ?_
  refine z_guard (fun _ => ?_)
  refine z_iconst (nI 0) 1 zki_0 dX11_clearSeen_0 rfl ?_
  refine z_istore_n (lv2 := [(1, .int (nI 0)), (0, .ref (b0 + x0))]) 2 dX11_clearSeen_1 rfl (Nat.le_of_ble_eq_true rfl) rfl ?_
  exact z_sub [1, 0] rfl (BX11_clearSeen_2 b0 x0 zfu (nI 0) h)
-- X11_see
def bX11_see_36 (h : ZH) : Option (ZH) :=
  some h
theorem BX11_see_36 (b0 : Nat) (h : ZH) : Zr zv b0 YX11_see 1 36 [] [] h (bX11_see_36 h) := by
  unfold bX11_see_36
  exact z_return dX11_see_36 rfl
def fX11_see (x0 : Nat) (x1 : Int32) (h : ZH) : Option (ZH) :=
  if x0 < zn h ∧ zK h x0 = 11 then ((gR h 11 x0 26).bind fun v1 =>
  (lI h 16 v1 x1).bind fun v2 =>
  if v2 = 0 then ((gR h 11 x0 26).bind fun v4 =>
  (sI h 16 v4 x1 (nI 1)).bind fun h5 =>
  (gR h5 11 x0 27).bind fun v6 =>
  (gI h5 11 x0 28).bind fun v7 =>
  (sI h5 14 v6 v7 x1).bind fun h8 =>
  (gI h8 11 x0 28).bind fun v9 =>
  (pI h8 11 x0 28 (v9 + (nI 1))).bind fun h10 =>
  bX11_see_36 h10) else
  (bX11_see_36 h)) else none
theorem kX11_see {x0 : Nat} {x1 : Int32} {h : ZH} {x : ZH} (e : fX11_see x0 x1 h = some x) : x0 < zn h ∧ zK h x0 = 11 := by
  unfold fX11_see at e
  exact zguard e
theorem mX11_see (b0 : Nat) (x0 : Nat) (x1 : Int32) (h : ZH) : ZM zv b0 YX11_see 1 [.ref (b0 + x0), .int x1] h (fX11_see x0 x1 h) := by
  unfold fX11_see
  refine ZM.of (by decide) rfl (Nat.le_of_ble_eq_true rfl) (fun _ => trivial) ?_
  refine z_sub (lv2 := [(0, .ref (b0 + x0)), (1, .int x1)]) [0, 1] rfl ?_
  refine z_guard (fun _ => ?_)
  refine z_aload_n 1 0 dX11_see_0 rfl rfl ?_
  refine z_getR 4 zC11 (Nat.le_of_ble_eq_true rfl) rfl w_1043 dX11_see_1 rfl (fun v1 _ => ?_)
  refine z_iload_n 5 1 dX11_see_4 rfl rfl ?_
  refine z_zaload 6 dX11_see_5 rfl (fun v2 _ => ?_)
  refine z_if_ne 36 9 dX11_see_6 (by decide) rfl (fun c3 => ?_) (fun c3 => ?_)
  · exact z_sub [] rfl (BX11_see_36 b0 h )
  · refine z_aload_n 10 0 dX11_see_9 rfl rfl ?_
    refine z_getR 13 zC11 (Nat.le_of_ble_eq_true rfl) rfl w_1043 dX11_see_10 rfl (fun v4 _ => ?_)
    refine z_iload_n 14 1 dX11_see_13 rfl rfl ?_
    refine z_iconst (nI 1) 15 zki_1 dX11_see_14 rfl ?_
    refine z_zastore 16 dX11_see_15 rfl (fun h5 _ => ?_)
    refine z_aload_n 17 0 dX11_see_16 rfl rfl ?_
    refine z_getR 20 zC11 (Nat.le_of_ble_eq_true rfl) rfl w_1044 dX11_see_17 rfl (fun v6 _ => ?_)
    refine z_aload_n 21 0 dX11_see_20 rfl rfl ?_
    refine z_getI 24 zC11 (Nat.le_of_ble_eq_true rfl) rfl w_1045 dX11_see_21 rfl (fun v7 _ => ?_)
    refine z_iload_n 25 1 dX11_see_24 rfl rfl ?_
    refine z_iastore 26 dX11_see_25 rfl (fun h8 _ => ?_)
    refine z_aload_n 27 0 dX11_see_26 rfl rfl ?_
    refine z_dup 28 rfl dX11_see_27 rfl ?_
    refine z_getI 31 zC11 (Nat.le_of_ble_eq_true rfl) rfl w_1045 dX11_see_28 rfl (fun v9 _ => ?_)
    refine z_iconst (nI 1) 32 zki_1 dX11_see_31 rfl ?_
    refine z_iadd 33 dX11_see_32 rfl ?_
    refine z_putI 36 zC11 (Nat.le_of_ble_eq_true rfl) rfl rfl rfl w_1045 dX11_see_33 rfl (fun h10 _ => ?_)
    exact z_sub [] rfl (BX11_see_36 b0 h10 )
-- X11_findSets
def kX11_findSets_76 (x0 : Nat) (self76 : Int32 × ZH → Option (ZH)) (x1 : Int32) (h : ZH) : Option (ZH) :=
  (gI h 11 x0 23).bind fun v1 =>
  if v1 ≤ x1 then (some h) else
  ((gR h 11 x0 22).bind fun v3 =>
  (gR h 11 x0 27).bind fun v4 =>
  (lI h 14 v4 x1).bind fun v5 =>
  (sI h 14 v3 x1 v5).bind fun h6 =>
  self76 ((x1 + (nI 1)), h6))
def lX11_findSets_76 (x0 : Nat) : (Int32 × ZH → Option (ZH)) → Int32 × ZH → Option (ZH) := fun self s => kX11_findSets_76 x0 self s.1 s.2
theorem KX11_findSets_76 (b0 : Nat) (x0 : Nat) (self76 : Int32 × ZH → Option (ZH)) (hself76 : ∀ (y1 : Int32) (hh : ZH), Zr zv b0 YX11_findSets 2 76 [(0, .ref (b0 + x0)), (1, .int y1)] [] hh (self76 (y1, hh))) (x1 : Int32) (h : ZH) : Zr zv b0 YX11_findSets 2 76 [(0, .ref (b0 + x0)), (1, .int x1)] [] h (kX11_findSets_76 x0 self76 x1 h) := by
  unfold kX11_findSets_76
  refine z_iload_n 77 1 dX11_findSets_76 rfl rfl ?_
  refine z_aload_n 78 0 dX11_findSets_77 rfl rfl ?_
  refine z_getI 81 zC11 (Nat.le_of_ble_eq_true rfl) rfl w_1040 dX11_findSets_78 rfl (fun v1 _ => ?_)
  refine z_icmp_ge 102 84 dX11_findSets_81 (by decide) rfl (fun c2 => ?_) (fun c2 => ?_)
  · exact z_return dX11_findSets_102 rfl
  · refine z_aload_n 85 0 dX11_findSets_84 rfl rfl ?_
    refine z_getR 88 zC11 (Nat.le_of_ble_eq_true rfl) rfl w_1039 dX11_findSets_85 rfl (fun v3 _ => ?_)
    refine z_iload_n 89 1 dX11_findSets_88 rfl rfl ?_
    refine z_aload_n 90 0 dX11_findSets_89 rfl rfl ?_
    refine z_getR 93 zC11 (Nat.le_of_ble_eq_true rfl) rfl w_1044 dX11_findSets_90 rfl (fun v4 _ => ?_)
    refine z_iload_n 94 1 dX11_findSets_93 rfl rfl ?_
    refine z_iaload 95 dX11_findSets_94 rfl (fun v5 _ => ?_)
    refine z_iastore 96 dX11_findSets_95 rfl (fun h6 _ => ?_)
    refine z_iinc (lv2 := [(1, .int (x1 + (nI 1))), (0, .ref (b0 + x0))]) (nI 1) 99 1 dX11_findSets_96 rfl rfl zki_1 (Nat.le_of_ble_eq_true rfl) rfl ?_
    refine z_goto 76 dX11_findSets_99 (by decide) ?_
    exact z_sub [1, 0] rfl (hself76 (x1 + (nI 1)) h6)
theorem BX11_findSets_76 (b0 : Nat) (x0 : Nat) (n : Nat) (x1 : Int32) (h : ZH) : Zr zv b0 YX11_findSets 2 76 [(0, .ref (b0 + x0)), (1, .int x1)] [] h (zloop (lX11_findSets_76 x0) n (x1, h)) :=
  zloop_Zr (fun s => [(0, .ref (b0 + x0)), (1, .int s.1)]) (fun _ => []) (fun s => s.2) (lX11_findSets_76 x0) (fun self hs s => KX11_findSets_76 b0 x0 self (fun y1 hh => hs (y1, hh)) s.1 s.2) n (x1, h)
def bX11_findSets_54 (self14 : Int32 × ZH → Option (ZH)) (self24 : Int32 × ZH → Option (ZH)) (x0 : Nat) (x1 : Int32) (x2 : Int32) (h : ZH) : Option (ZH) :=
  self24 ((x2 + (nI 1)), h)
theorem BX11_findSets_54 (b0 : Nat) (self14 : Int32 × ZH → Option (ZH)) (self24 : Int32 × ZH → Option (ZH)) (x0 : Nat) (x1 : Int32) (x2 : Int32) (h : ZH) (hself14 : ∀ (y1 : Int32) (hh : ZH), Zr zv b0 YX11_findSets 2 14 [(0, .ref (b0 + x0)), (1, .int y1)] [] hh (self14 (y1, hh))) (hself24 : ∀ (y2 : Int32) (hh : ZH), Zr zv b0 YX11_findSets 2 24 [(0, .ref (b0 + x0)), (1, .int x1), (2, .int y2)] [] hh (self24 (y2, hh))) : Zr zv b0 YX11_findSets 2 54 [(0, .ref (b0 + x0)), (1, .int x1), (2, .int x2)] [] h (bX11_findSets_54 self14 self24 x0 x1 x2 h) := by
  unfold bX11_findSets_54
  refine z_iinc (lv2 := [(2, .int (x2 + (nI 1))), (0, .ref (b0 + x0)), (1, .int x1)]) (nI 1) 57 2 dX11_findSets_54 rfl rfl zki_1 (Nat.le_of_ble_eq_true rfl) rfl ?_
  refine z_goto 24 dX11_findSets_57 (by decide) ?_
  exact z_sub [1, 2, 0] rfl (hself24 (x2 + (nI 1)) h)
def kX11_findSets_24 (self14 : Int32 × ZH → Option (ZH)) (x0 : Nat) (x1 : Int32) (self24 : Int32 × ZH → Option (ZH)) (x2 : Int32) (h : ZH) : Option (ZH) :=
  if (nI 4) ≤ x2 then (self14 ((x1 + (nI 1)), h)) else
  ((gR h 11 x0 13).bind fun v2 =>
  (gR h 11 x0 27).bind fun v3 =>
  (lI h 14 v3 x1).bind fun v4 =>
  (lI h 14 v2 (((nI 4) * v4) + x2)).bind fun v5 =>
  if v5 = 0 then (bX11_findSets_54 self14 self24 x0 x1 x2 h) else
  ((fX11_see x0 v5 h).bind fun h7 =>
  bX11_findSets_54 self14 self24 x0 x1 x2 h7))
def lX11_findSets_24 (self14 : Int32 × ZH → Option (ZH)) (x0 : Nat) (x1 : Int32) : (Int32 × ZH → Option (ZH)) → Int32 × ZH → Option (ZH) := fun self s => kX11_findSets_24 self14 x0 x1 self s.1 s.2
theorem KX11_findSets_24 (b0 : Nat) (self14 : Int32 × ZH → Option (ZH)) (x0 : Nat) (x1 : Int32) (hself14 : ∀ (y1 : Int32) (hh : ZH), Zr zv b0 YX11_findSets 2 14 [(0, .ref (b0 + x0)), (1, .int y1)] [] hh (self14 (y1, hh))) (self24 : Int32 × ZH → Option (ZH)) (hself24 : ∀ (y2 : Int32) (hh : ZH), Zr zv b0 YX11_findSets 2 24 [(0, .ref (b0 + x0)), (1, .int x1), (2, .int y2)] [] hh (self24 (y2, hh))) (x2 : Int32) (h : ZH) : Zr zv b0 YX11_findSets 2 24 [(0, .ref (b0 + x0)), (1, .int x1), (2, .int x2)] [] h (kX11_findSets_24 self14 x0 x1 self24 x2 h) := by
  unfold kX11_findSets_24
  refine z_iload_n 25 2 dX11_findSets_24 rfl rfl ?_
  refine z_iconst (nI 4) 26 zki_4 dX11_findSets_25 rfl ?_
  refine z_icmp_ge 60 29 dX11_findSets_26 (by decide) rfl (fun c1 => ?_) (fun c1 => ?_)
  · refine z_iinc (lv2 := [(1, .int (x1 + (nI 1))), (0, .ref (b0 + x0)), (2, .int x2)]) (nI 1) 63 1 dX11_findSets_60 rfl rfl zki_1 (Nat.le_of_ble_eq_true rfl) rfl ?_
    refine z_goto 14 dX11_findSets_63 (by decide) ?_
    exact z_sub [1, 0] rfl (hself14 (x1 + (nI 1)) h)
  · refine z_aload_n 30 0 dX11_findSets_29 rfl rfl ?_
    refine z_getR 33 zC11 (Nat.le_of_ble_eq_true rfl) rfl w_1030 dX11_findSets_30 rfl (fun v2 _ => ?_)
    refine z_iconst (nI 4) 34 zki_4 dX11_findSets_33 rfl ?_
    refine z_aload_n 35 0 dX11_findSets_34 rfl rfl ?_
    refine z_getR 38 zC11 (Nat.le_of_ble_eq_true rfl) rfl w_1044 dX11_findSets_35 rfl (fun v3 _ => ?_)
    refine z_iload_n 39 1 dX11_findSets_38 rfl rfl ?_
    refine z_iaload 40 dX11_findSets_39 rfl (fun v4 _ => ?_)
    refine z_imul 41 dX11_findSets_40 rfl ?_
    refine z_iload_n 42 2 dX11_findSets_41 rfl rfl ?_
    refine z_iadd 43 dX11_findSets_42 rfl ?_
    refine z_iaload 44 dX11_findSets_43 rfl (fun v5 _ => ?_)
    refine z_istore_n (lv2 := [(3, .int v5), (0, .ref (b0 + x0)), (1, .int x1), (2, .int x2)]) 45 dX11_findSets_44 rfl (Nat.le_of_ble_eq_true rfl) rfl ?_
    refine z_iload_n 46 0 dX11_findSets_45 rfl rfl ?_
    refine z_if_eq 54 49 dX11_findSets_46 (by decide) rfl (fun c6 => ?_) (fun c6 => ?_)
    · exact z_sub [1, 2, 3] rfl (BX11_findSets_54 b0 self14 self24 x0 x1 x2 h hself14 hself24)
    · refine z_aload_n 50 1 dX11_findSets_49 rfl rfl ?_
      refine z_iload_n 51 0 dX11_findSets_50 rfl rfl ?_
      refine z_callVv 54 (mX11_see b0 x0 v5 h) zyX11_see rfl w_1372 (ci := 11) rfl (Nat.le_of_ble_eq_true rfl) (fun _ e9 => kX11_see e9) wm_yX11_see ws_yX11_see (Nat.le_of_ble_eq_true rfl) rfl (Nat.le_of_ble_eq_true rfl) dX11_findSets_51 rfl (fun h7 => ?_)
      exact z_sub [1, 2, 3] rfl (BX11_findSets_54 b0 self14 self24 x0 x1 x2 h7 hself14 hself24)
theorem BX11_findSets_24 (b0 : Nat) (self14 : Int32 × ZH → Option (ZH)) (x0 : Nat) (x1 : Int32) (hself14 : ∀ (y1 : Int32) (hh : ZH), Zr zv b0 YX11_findSets 2 14 [(0, .ref (b0 + x0)), (1, .int y1)] [] hh (self14 (y1, hh))) (n : Nat) (x2 : Int32) (h : ZH) : Zr zv b0 YX11_findSets 2 24 [(0, .ref (b0 + x0)), (1, .int x1), (2, .int x2)] [] h (zloop (lX11_findSets_24 self14 x0 x1) n (x2, h)) :=
  zloop_Zr (fun s => [(0, .ref (b0 + x0)), (1, .int x1), (2, .int s.1)]) (fun _ => []) (fun s => s.2) (lX11_findSets_24 self14 x0 x1) (fun self hs s => KX11_findSets_24 b0 self14 x0 x1 hself14 self (fun y2 hh => hs (y2, hh)) s.1 s.2) n (x2, h)
def kX11_findSets_14 (x0 : Nat) (self14 : Int32 × ZH → Option (ZH)) (x1 : Int32) (h : ZH) : Option (ZH) :=
  (gI h 11 x0 28).bind fun v1 =>
  if v1 ≤ x1 then ((gI h 11 x0 28).bind fun v3 =>
  (pI h 11 x0 23 v3).bind fun h4 =>
  zloop (lX11_findSets_76 x0) zfu ((nI 0), h4)) else
  (zloop (lX11_findSets_24 self14 x0 x1) zfu ((nI 0), h))
def lX11_findSets_14 (x0 : Nat) : (Int32 × ZH → Option (ZH)) → Int32 × ZH → Option (ZH) := fun self s => kX11_findSets_14 x0 self s.1 s.2
theorem KX11_findSets_14 (b0 : Nat) (x0 : Nat) (self14 : Int32 × ZH → Option (ZH)) (hself14 : ∀ (y1 : Int32) (hh : ZH), Zr zv b0 YX11_findSets 2 14 [(0, .ref (b0 + x0)), (1, .int y1)] [] hh (self14 (y1, hh))) (x1 : Int32) (h : ZH) : Zr zv b0 YX11_findSets 2 14 [(0, .ref (b0 + x0)), (1, .int x1)] [] h (kX11_findSets_14 x0 self14 x1 h) := by
  unfold kX11_findSets_14
  refine z_iload_n 15 1 dX11_findSets_14 rfl rfl ?_
  refine z_aload_n 16 0 dX11_findSets_15 rfl rfl ?_
  refine z_getI 19 zC11 (Nat.le_of_ble_eq_true rfl) rfl w_1045 dX11_findSets_16 rfl (fun v1 _ => ?_)
  refine z_icmp_ge 66 22 dX11_findSets_19 (by decide) rfl (fun c2 => ?_) (fun c2 => ?_)
  · refine z_aload_n 67 0 dX11_findSets_66 rfl rfl ?_
    refine z_aload_n 68 0 dX11_findSets_67 rfl rfl ?_
    refine z_getI 71 zC11 (Nat.le_of_ble_eq_true rfl) rfl w_1045 dX11_findSets_68 rfl (fun v3 _ => ?_)
    refine z_putI 74 zC11 (Nat.le_of_ble_eq_true rfl) rfl rfl rfl w_1040 dX11_findSets_71 rfl (fun h4 _ => ?_)
    refine z_iconst (nI 0) 75 zki_0 dX11_findSets_74 rfl ?_
    refine z_istore_n (lv2 := [(1, .int (nI 0)), (0, .ref (b0 + x0))]) 76 dX11_findSets_75 rfl (Nat.le_of_ble_eq_true rfl) rfl ?_
    exact z_sub [1, 0] rfl (BX11_findSets_76 b0 x0 zfu (nI 0) h4)
  · refine z_iconst (nI 0) 23 zki_0 dX11_findSets_22 rfl ?_
    refine z_istore_n (lv2 := [(2, .int (nI 0)), (0, .ref (b0 + x0)), (1, .int x1)]) 24 dX11_findSets_23 rfl (Nat.le_of_ble_eq_true rfl) rfl ?_
    exact z_sub [1, 2, 0] rfl (BX11_findSets_24 b0 self14 x0 x1 hself14 zfu (nI 0) h)
theorem BX11_findSets_14 (b0 : Nat) (x0 : Nat) (n : Nat) (x1 : Int32) (h : ZH) : Zr zv b0 YX11_findSets 2 14 [(0, .ref (b0 + x0)), (1, .int x1)] [] h (zloop (lX11_findSets_14 x0) n (x1, h)) :=
  zloop_Zr (fun s => [(0, .ref (b0 + x0)), (1, .int s.1)]) (fun _ => []) (fun s => s.2) (lX11_findSets_14 x0) (fun self hs s => KX11_findSets_14 b0 x0 self (fun y1 hh => hs (y1, hh)) s.1 s.2) n (x1, h)
def fX11_findSets (x0 : Nat) (h : ZH) : Option (ZH) :=
  if x0 < zn h ∧ zK h x0 = 11 then ((fX11_clearSeen x0 h).bind fun h1 =>
  (gI h1 11 x0 14).bind fun v2 =>
  (fX11_see x0 v2 h1).bind fun h3 =>
  zloop (lX11_findSets_14 x0) zfu ((nI 0), h3)) else none
theorem kX11_findSets {x0 : Nat} {h : ZH} {x : ZH} (e : fX11_findSets x0 h = some x) : x0 < zn h ∧ zK h x0 = 11 := by
  unfold fX11_findSets at e
  exact zguard e
theorem mX11_findSets (b0 : Nat) (x0 : Nat) (h : ZH) : ZM zv b0 YX11_findSets 2 [.ref (b0 + x0)] h (fX11_findSets x0 h) := by
  unfold fX11_findSets
  refine ZM.of (by decide) rfl (Nat.le_of_ble_eq_true rfl) (fun _ => trivial) ?_
  refine z_sub (lv2 := [(0, .ref (b0 + x0))]) [0] rfl ?_
  refine z_guard (fun _ => ?_)
  refine z_aload_n 1 0 dX11_findSets_0 rfl rfl ?_
  refine z_callVv 4 (mX11_clearSeen b0 x0 h) zyX11_clearSeen rfl w_1368 (ci := 11) rfl (Nat.le_of_ble_eq_true rfl) (fun _ e9 => kX11_clearSeen e9) wm_yX11_clearSeen ws_yX11_clearSeen (Nat.le_of_ble_eq_true rfl) rfl (Nat.le_of_ble_eq_true rfl) dX11_findSets_1 rfl (fun h1 => ?_)
  refine z_aload_n 5 0 dX11_findSets_4 rfl rfl ?_
  refine z_aload_n 6 0 dX11_findSets_5 rfl rfl ?_
  refine z_getI 9 zC11 (Nat.le_of_ble_eq_true rfl) rfl w_1031 dX11_findSets_6 rfl (fun v2 _ => ?_)
  refine z_callVv 12 (mX11_see b0 x0 v2 h1) zyX11_see rfl w_1372 (ci := 11) rfl (Nat.le_of_ble_eq_true rfl) (fun _ e9 => kX11_see e9) wm_yX11_see ws_yX11_see (Nat.le_of_ble_eq_true rfl) rfl (Nat.le_of_ble_eq_true rfl) dX11_findSets_9 rfl (fun h3 => ?_)
  refine z_iconst (nI 0) 13 zki_0 dX11_findSets_12 rfl ?_
  refine z_istore_n (lv2 := [(1, .int (nI 0)), (0, .ref (b0 + x0))]) 14 dX11_findSets_13 rfl (Nat.le_of_ble_eq_true rfl) rfl ?_
  exact z_sub [1, 0] rfl (BX11_findSets_14 b0 x0 zfu (nI 0) h3)
-- X11_isAlike
def bX11_isAlike_81 (x3 : Int32) (h : ZH) : Option (Int32 × ZH) :=
  if x3 = 0 ∨ x3 = 1 then some (x3, h) else none
theorem BX11_isAlike_81 (b0 : Nat) (x3 : Int32) (h : ZH) : Zr zi b0 YX11_isAlike 1 81 [(3, .int x3)] [] h (bX11_isAlike_81 x3 h) := by
  unfold bX11_isAlike_81
  refine z_iload_n 82 0 dX11_isAlike_81 rfl rfl ?_
  exact z_zreturn dX11_isAlike_82 rfl
def bX11_isAlike_74 (self24 : Int32 × Int32 × ZH → Option (Int32 × ZH)) (x0 : Nat) (x1 : Int32) (x2 : Int32) (x4 : Int32) (t0 : Int32) (h : ZH) : Option (Int32 × ZH) :=
  self24 (t0, (x4 + (nI 1)), h)
theorem BX11_isAlike_74 (b0 : Nat) (self24 : Int32 × Int32 × ZH → Option (Int32 × ZH)) (x0 : Nat) (x1 : Int32) (x2 : Int32) (x4 : Int32) (t0 : Int32) (h : ZH) (hself24 : ∀ (y3 : Int32) (y4 : Int32) (hh : ZH), Zr zi b0 YX11_isAlike 1 24 [(0, .ref (b0 + x0)), (1, .int x1), (2, .int x2), (3, .int y3), (4, .int y4)] [] hh (self24 (y3, y4, hh))) : Zr zi b0 YX11_isAlike 1 74 [(0, .ref (b0 + x0)), (1, .int x1), (2, .int x2), (4, .int x4)] [.int t0] h (bX11_isAlike_74 self24 x0 x1 x2 x4 t0 h) := by
  unfold bX11_isAlike_74
  refine z_istore_n (lv2 := [(3, .int t0), (0, .ref (b0 + x0)), (1, .int x1), (2, .int x2), (4, .int x4)]) 75 dX11_isAlike_74 rfl (Nat.le_of_ble_eq_true rfl) rfl ?_
  refine z_iinc (lv2 := [(4, .int (x4 + (nI 1))), (3, .int t0), (0, .ref (b0 + x0)), (1, .int x1), (2, .int x2)]) (nI 1) 78 4 dX11_isAlike_75 rfl rfl zki_1 (Nat.le_of_ble_eq_true rfl) rfl ?_
  refine z_goto 24 dX11_isAlike_78 (by decide) ?_
  exact z_sub [2, 3, 4, 1, 0] rfl (hself24 t0 (x4 + (nI 1)) h)
def kX11_isAlike_24 (x0 : Nat) (x1 : Int32) (x2 : Int32) (self24 : Int32 × Int32 × ZH → Option (Int32 × ZH)) (x3 : Int32) (x4 : Int32) (h : ZH) : Option (Int32 × ZH) :=
  if (nI 4) ≤ x4 then (bX11_isAlike_81 x3 h) else
  (if x3 = 0 then (bX11_isAlike_81 x3 h) else
  ((gR h 11 x0 24).bind fun v3 =>
  (gR h 11 x0 13).bind fun v4 =>
  (lI h 14 v4 (((nI 4) * x1) + x4)).bind fun v5 =>
  (lI h 14 v3 v5).bind fun v6 =>
  (gR h 11 x0 24).bind fun v7 =>
  (gR h 11 x0 13).bind fun v8 =>
  (lI h 14 v8 (((nI 4) * x2) + x4)).bind fun v9 =>
  (lI h 14 v7 v9).bind fun v10 =>
  if v6 = v10 then (bX11_isAlike_74 self24 x0 x1 x2 x4 (nI 1) h) else
  (bX11_isAlike_74 self24 x0 x1 x2 x4 (nI 0) h)))
def lX11_isAlike_24 (x0 : Nat) (x1 : Int32) (x2 : Int32) : (Int32 × Int32 × ZH → Option (Int32 × ZH)) → Int32 × Int32 × ZH → Option (Int32 × ZH) := fun self s => kX11_isAlike_24 x0 x1 x2 self s.1 s.2.1 s.2.2
theorem KX11_isAlike_24 (b0 : Nat) (x0 : Nat) (x1 : Int32) (x2 : Int32) (self24 : Int32 × Int32 × ZH → Option (Int32 × ZH)) (hself24 : ∀ (y3 : Int32) (y4 : Int32) (hh : ZH), Zr zi b0 YX11_isAlike 1 24 [(0, .ref (b0 + x0)), (1, .int x1), (2, .int x2), (3, .int y3), (4, .int y4)] [] hh (self24 (y3, y4, hh))) (x3 : Int32) (x4 : Int32) (h : ZH) : Zr zi b0 YX11_isAlike 1 24 [(0, .ref (b0 + x0)), (1, .int x1), (2, .int x2), (3, .int x3), (4, .int x4)] [] h (kX11_isAlike_24 x0 x1 x2 self24 x3 x4 h) := by
  unfold kX11_isAlike_24
  refine z_iload 26 4 dX11_isAlike_24 rfl rfl ?_
  refine z_iconst (nI 4) 27 zki_4 dX11_isAlike_26 rfl ?_
  refine z_icmp_ge 81 30 dX11_isAlike_27 (by decide) rfl (fun c1 => ?_) (fun c1 => ?_)
  · exact z_sub [3] rfl (BX11_isAlike_81 b0 x3 h )
  · refine z_iload_n 31 3 dX11_isAlike_30 rfl rfl ?_
    refine z_if_eq 81 34 dX11_isAlike_31 (by decide) rfl (fun c2 => ?_) (fun c2 => ?_)
    · exact z_sub [3] rfl (BX11_isAlike_81 b0 x3 h )
    · refine z_aload_n 35 0 dX11_isAlike_34 rfl rfl ?_
      refine z_getR 38 zC11 (Nat.le_of_ble_eq_true rfl) rfl w_1041 dX11_isAlike_35 rfl (fun v3 _ => ?_)
      refine z_aload_n 39 0 dX11_isAlike_38 rfl rfl ?_
      refine z_getR 42 zC11 (Nat.le_of_ble_eq_true rfl) rfl w_1030 dX11_isAlike_39 rfl (fun v4 _ => ?_)
      refine z_iconst (nI 4) 43 zki_4 dX11_isAlike_42 rfl ?_
      refine z_iload_n 44 1 dX11_isAlike_43 rfl rfl ?_
      refine z_imul 45 dX11_isAlike_44 rfl ?_
      refine z_iload 47 4 dX11_isAlike_45 rfl rfl ?_
      refine z_iadd 48 dX11_isAlike_47 rfl ?_
      refine z_iaload 49 dX11_isAlike_48 rfl (fun v5 _ => ?_)
      refine z_iaload 50 dX11_isAlike_49 rfl (fun v6 _ => ?_)
      refine z_aload_n 51 0 dX11_isAlike_50 rfl rfl ?_
      refine z_getR 54 zC11 (Nat.le_of_ble_eq_true rfl) rfl w_1041 dX11_isAlike_51 rfl (fun v7 _ => ?_)
      refine z_aload_n 55 0 dX11_isAlike_54 rfl rfl ?_
      refine z_getR 58 zC11 (Nat.le_of_ble_eq_true rfl) rfl w_1030 dX11_isAlike_55 rfl (fun v8 _ => ?_)
      refine z_iconst (nI 4) 59 zki_4 dX11_isAlike_58 rfl ?_
      refine z_iload_n 60 2 dX11_isAlike_59 rfl rfl ?_
      refine z_imul 61 dX11_isAlike_60 rfl ?_
      refine z_iload 63 4 dX11_isAlike_61 rfl rfl ?_
      refine z_iadd 64 dX11_isAlike_63 rfl ?_
      refine z_iaload 65 dX11_isAlike_64 rfl (fun v9 _ => ?_)
      refine z_iaload 66 dX11_isAlike_65 rfl (fun v10 _ => ?_)
      refine z_icmp_ne 73 69 dX11_isAlike_66 (by decide) rfl (fun c11 => ?_) (fun c11 => ?_)
      · refine z_iconst (nI 0) 74 zki_0 dX11_isAlike_73 rfl ?_
        exact z_sub [0, 1, 2, 4] rfl (BX11_isAlike_74 b0 self24 x0 x1 x2 x4 (nI 0) h hself24)
      · refine z_iconst (nI 1) 70 zki_1 dX11_isAlike_69 rfl ?_
        refine z_goto 74 dX11_isAlike_70 (by decide) ?_
        exact z_sub [0, 1, 2, 4] rfl (BX11_isAlike_74 b0 self24 x0 x1 x2 x4 (nI 1) h hself24)
theorem BX11_isAlike_24 (b0 : Nat) (x0 : Nat) (x1 : Int32) (x2 : Int32) (n : Nat) (x3 : Int32) (x4 : Int32) (h : ZH) : Zr zi b0 YX11_isAlike 1 24 [(0, .ref (b0 + x0)), (1, .int x1), (2, .int x2), (3, .int x3), (4, .int x4)] [] h (zloop (lX11_isAlike_24 x0 x1 x2) n (x3, x4, h)) :=
  zloop_Zr (fun s => [(0, .ref (b0 + x0)), (1, .int x1), (2, .int x2), (3, .int s.1), (4, .int s.2.1)]) (fun _ => []) (fun s => s.2.2) (lX11_isAlike_24 x0 x1 x2) (fun self hs s => KX11_isAlike_24 b0 x0 x1 x2 self (fun y3 y4 hh => hs (y3, y4, hh)) s.1 s.2.1 s.2.2) n (x3, x4, h)
def bX11_isAlike_20 (x0 : Nat) (x1 : Int32) (x2 : Int32) (t0 : Int32) (h : ZH) : Option (Int32 × ZH) :=
  zloop (lX11_isAlike_24 x0 x1 x2) zfu (t0, (nI 0), h)
theorem BX11_isAlike_20 (b0 : Nat) (x0 : Nat) (x1 : Int32) (x2 : Int32) (t0 : Int32) (h : ZH) : Zr zi b0 YX11_isAlike 1 20 [(0, .ref (b0 + x0)), (1, .int x1), (2, .int x2)] [.int t0] h (bX11_isAlike_20 x0 x1 x2 t0 h) := by
  unfold bX11_isAlike_20
  refine z_istore_n (lv2 := [(3, .int t0), (0, .ref (b0 + x0)), (1, .int x1), (2, .int x2)]) 21 dX11_isAlike_20 rfl (Nat.le_of_ble_eq_true rfl) rfl ?_
  refine z_iconst (nI 0) 22 zki_0 dX11_isAlike_21 rfl ?_
  refine z_istore (lv2 := [(4, .int (nI 0)), (3, .int t0), (0, .ref (b0 + x0)), (1, .int x1), (2, .int x2)]) 24 dX11_isAlike_22 rfl (Nat.le_of_ble_eq_true rfl) rfl ?_
  exact z_sub [2, 3, 4, 1, 0] rfl (BX11_isAlike_24 b0 x0 x1 x2 zfu t0 (nI 0) h)
def fX11_isAlike (x0 : Nat) (x1 : Int32) (x2 : Int32) (h : ZH) : Option (Int32 × ZH) :=
  if x0 < zn h ∧ zK h x0 = 11 then ((gR h 11 x0 24).bind fun v1 =>
  (lI h 14 v1 x1).bind fun v2 =>
  (gR h 11 x0 24).bind fun v3 =>
  (lI h 14 v3 x2).bind fun v4 =>
  if v2 = v4 then (bX11_isAlike_20 x0 x1 x2 (nI 1) h) else
  (bX11_isAlike_20 x0 x1 x2 (nI 0) h)) else none
theorem kX11_isAlike {x0 : Nat} {x1 : Int32} {x2 : Int32} {h : ZH} {x : Int32 × ZH} (e : fX11_isAlike x0 x1 x2 h = some x) : x0 < zn h ∧ zK h x0 = 11 := by
  unfold fX11_isAlike at e
  exact zguard e
theorem mX11_isAlike (b0 : Nat) (x0 : Nat) (x1 : Int32) (x2 : Int32) (h : ZH) : ZM zi b0 YX11_isAlike 1 [.ref (b0 + x0), .int x1, .int x2] h (fX11_isAlike x0 x1 x2 h) := by
  unfold fX11_isAlike
  refine ZM.of (by decide) rfl (Nat.le_of_ble_eq_true rfl) (fun _ => trivial) ?_
  refine z_sub (lv2 := [(0, .ref (b0 + x0)), (1, .int x1), (2, .int x2)]) [0, 1, 2] rfl ?_
  refine z_guard (fun _ => ?_)
  refine z_aload_n 1 0 dX11_isAlike_0 rfl rfl ?_
  refine z_getR 4 zC11 (Nat.le_of_ble_eq_true rfl) rfl w_1041 dX11_isAlike_1 rfl (fun v1 _ => ?_)
  refine z_iload_n 5 1 dX11_isAlike_4 rfl rfl ?_
  refine z_iaload 6 dX11_isAlike_5 rfl (fun v2 _ => ?_)
  refine z_aload_n 7 0 dX11_isAlike_6 rfl rfl ?_
  refine z_getR 10 zC11 (Nat.le_of_ble_eq_true rfl) rfl w_1041 dX11_isAlike_7 rfl (fun v3 _ => ?_)
  refine z_iload_n 11 2 dX11_isAlike_10 rfl rfl ?_
  refine z_iaload 12 dX11_isAlike_11 rfl (fun v4 _ => ?_)
  refine z_icmp_ne 19 15 dX11_isAlike_12 (by decide) rfl (fun c5 => ?_) (fun c5 => ?_)
  · refine z_iconst (nI 0) 20 zki_0 dX11_isAlike_19 rfl ?_
    exact z_sub [0, 1, 2] rfl (BX11_isAlike_20 b0 x0 x1 x2 (nI 0) h )
  · refine z_iconst (nI 1) 16 zki_1 dX11_isAlike_15 rfl ?_
    refine z_goto 20 dX11_isAlike_16 (by decide) ?_
    exact z_sub [0, 1, 2] rfl (BX11_isAlike_20 b0 x0 x1 x2 (nI 1) h )
-- X11_classify
def bX11_classify_127 (self32 : Int32 × ZH → Option (ZH)) (self90 : Int32 × Int32 × ZH → Option (ZH)) (x0 : Nat) (x2 : Int32) (t0 : Int32) (h : ZH) : Option (ZH) :=
  (gR h 11 x0 24).bind fun v1 =>
  (gR h 11 x0 22).bind fun v2 =>
  (lI h 14 v2 x2).bind fun v3 =>
  (gR h 11 x0 25).bind fun v4 =>
  (lI h 14 v4 x2).bind fun v5 =>
  (sI h 14 v1 v3 v5).bind fun h6 =>
  self90 (t0, (x2 + (nI 1)), h6)
theorem BX11_classify_127 (b0 : Nat) (self32 : Int32 × ZH → Option (ZH)) (self90 : Int32 × Int32 × ZH → Option (ZH)) (x0 : Nat) (x2 : Int32) (t0 : Int32) (h : ZH) (hself32 : ∀ (y1 : Int32) (hh : ZH), Zr zv b0 YX11_classify 2 32 [(0, .ref (b0 + x0)), (1, .int y1)] [] hh (self32 (y1, hh))) (hself90 : ∀ (y1 : Int32) (y2 : Int32) (hh : ZH), Zr zv b0 YX11_classify 2 90 [(0, .ref (b0 + x0)), (1, .int y1), (2, .int y2)] [] hh (self90 (y1, y2, hh))) : Zr zv b0 YX11_classify 2 127 [(0, .ref (b0 + x0)), (2, .int x2)] [.int t0] h (bX11_classify_127 self32 self90 x0 x2 t0 h) := by
  unfold bX11_classify_127
  refine z_istore_n (lv2 := [(1, .int t0), (0, .ref (b0 + x0)), (2, .int x2)]) 128 dX11_classify_127 rfl (Nat.le_of_ble_eq_true rfl) rfl ?_
  refine z_aload_n 129 1 dX11_classify_128 rfl rfl ?_
  refine z_getR 132 zC11 (Nat.le_of_ble_eq_true rfl) rfl w_1041 dX11_classify_129 rfl (fun v1 _ => ?_)
  refine z_aload_n 133 1 dX11_classify_132 rfl rfl ?_
  refine z_getR 136 zC11 (Nat.le_of_ble_eq_true rfl) rfl w_1039 dX11_classify_133 rfl (fun v2 _ => ?_)
  refine z_iload_n 137 2 dX11_classify_136 rfl rfl ?_
  refine z_iaload 138 dX11_classify_137 rfl (fun v3 _ => ?_)
  refine z_aload_n 139 1 dX11_classify_138 rfl rfl ?_
  refine z_getR 142 zC11 (Nat.le_of_ble_eq_true rfl) rfl w_1042 dX11_classify_139 rfl (fun v4 _ => ?_)
  refine z_iload_n 143 2 dX11_classify_142 rfl rfl ?_
  refine z_iaload 144 dX11_classify_143 rfl (fun v5 _ => ?_)
  refine z_iastore 145 dX11_classify_144 rfl (fun h6 _ => ?_)
  refine z_iinc (lv2 := [(2, .int (x2 + (nI 1))), (1, .int t0), (0, .ref (b0 + x0))]) (nI 1) 148 2 dX11_classify_145 rfl rfl zki_1 (Nat.le_of_ble_eq_true rfl) rfl ?_
  refine z_goto 90 dX11_classify_148 (by decide) ?_
  exact z_sub [2, 1, 0] rfl (hself90 t0 (x2 + (nI 1)) h6)
def bX11_classify_122 (self32 : Int32 × ZH → Option (ZH)) (self90 : Int32 × Int32 × ZH → Option (ZH)) (x0 : Nat) (x2 : Int32) (h : ZH) : Option (ZH) :=
  bX11_classify_127 self32 self90 x0 x2 (nI 1) h
theorem BX11_classify_122 (b0 : Nat) (self32 : Int32 × ZH → Option (ZH)) (self90 : Int32 × Int32 × ZH → Option (ZH)) (x0 : Nat) (x2 : Int32) (h : ZH) (hself32 : ∀ (y1 : Int32) (hh : ZH), Zr zv b0 YX11_classify 2 32 [(0, .ref (b0 + x0)), (1, .int y1)] [] hh (self32 (y1, hh))) (hself90 : ∀ (y1 : Int32) (y2 : Int32) (hh : ZH), Zr zv b0 YX11_classify 2 90 [(0, .ref (b0 + x0)), (1, .int y1), (2, .int y2)] [] hh (self90 (y1, y2, hh))) : Zr zv b0 YX11_classify 2 122 [(0, .ref (b0 + x0)), (2, .int x2)] [] h (bX11_classify_122 self32 self90 x0 x2 h) := by
  unfold bX11_classify_122
  refine z_iconst (nI 1) 123 zki_1 dX11_classify_122 rfl ?_
  refine z_goto 127 dX11_classify_123 (by decide) ?_
  exact z_sub [0, 1] rfl (BX11_classify_127 b0 self32 self90 x0 x2 (nI 1) h hself32 hself90)
def kX11_classify_90 (self32 : Int32 × ZH → Option (ZH)) (x0 : Nat) (self90 : Int32 × Int32 × ZH → Option (ZH)) (x1 : Int32) (x2 : Int32) (h : ZH) : Option (ZH) :=
  (gI h 11 x0 23).bind fun v1 =>
  if v1 ≤ x2 then (self32 (x1, h)) else
  (if x1 = 0 then ((gR h 11 x0 24).bind fun v4 =>
  (gR h 11 x0 22).bind fun v5 =>
  (lI h 14 v5 x2).bind fun v6 =>
  (lI h 14 v4 v6).bind fun v7 =>
  (gR h 11 x0 25).bind fun v8 =>
  (lI h 14 v8 x2).bind fun v9 =>
  if v7 = v9 then (bX11_classify_127 self32 self90 x0 x2 (nI 0) h) else
  (bX11_classify_122 self32 self90 x0 x2 h)) else
  (bX11_classify_122 self32 self90 x0 x2 h))
def lX11_classify_90 (self32 : Int32 × ZH → Option (ZH)) (x0 : Nat) : (Int32 × Int32 × ZH → Option (ZH)) → Int32 × Int32 × ZH → Option (ZH) := fun self s => kX11_classify_90 self32 x0 self s.1 s.2.1 s.2.2
theorem KX11_classify_90 (b0 : Nat) (self32 : Int32 × ZH → Option (ZH)) (x0 : Nat) (hself32 : ∀ (y1 : Int32) (hh : ZH), Zr zv b0 YX11_classify 2 32 [(0, .ref (b0 + x0)), (1, .int y1)] [] hh (self32 (y1, hh))) (self90 : Int32 × Int32 × ZH → Option (ZH)) (hself90 : ∀ (y1 : Int32) (y2 : Int32) (hh : ZH), Zr zv b0 YX11_classify 2 90 [(0, .ref (b0 + x0)), (1, .int y1), (2, .int y2)] [] hh (self90 (y1, y2, hh))) (x1 : Int32) (x2 : Int32) (h : ZH) : Zr zv b0 YX11_classify 2 90 [(0, .ref (b0 + x0)), (1, .int x1), (2, .int x2)] [] h (kX11_classify_90 self32 x0 self90 x1 x2 h) := by
  unfold kX11_classify_90
  refine z_iload_n 91 2 dX11_classify_90 rfl rfl ?_
  refine z_aload_n 92 0 dX11_classify_91 rfl rfl ?_
  refine z_getI 95 zC11 (Nat.le_of_ble_eq_true rfl) rfl w_1040 dX11_classify_92 rfl (fun v1 _ => ?_)
  refine z_icmp_ge 151 98 dX11_classify_95 (by decide) rfl (fun c2 => ?_) (fun c2 => ?_)
  · refine z_goto 32 dX11_classify_151 (by decide) ?_
    exact z_sub [0, 1] rfl (hself32 x1 h)
  · refine z_iload_n 99 1 dX11_classify_98 rfl rfl ?_
    refine z_if_ne 122 102 dX11_classify_99 (by decide) rfl (fun c3 => ?_) (fun c3 => ?_)
    · exact z_sub [0, 2] rfl (BX11_classify_122 b0 self32 self90 x0 x2 h hself32 hself90)
    · refine z_aload_n 103 0 dX11_classify_102 rfl rfl ?_
      refine z_getR 106 zC11 (Nat.le_of_ble_eq_true rfl) rfl w_1041 dX11_classify_103 rfl (fun v4 _ => ?_)
      refine z_aload_n 107 0 dX11_classify_106 rfl rfl ?_
      refine z_getR 110 zC11 (Nat.le_of_ble_eq_true rfl) rfl w_1039 dX11_classify_107 rfl (fun v5 _ => ?_)
      refine z_iload_n 111 2 dX11_classify_110 rfl rfl ?_
      refine z_iaload 112 dX11_classify_111 rfl (fun v6 _ => ?_)
      refine z_iaload 113 dX11_classify_112 rfl (fun v7 _ => ?_)
      refine z_aload_n 114 0 dX11_classify_113 rfl rfl ?_
      refine z_getR 117 zC11 (Nat.le_of_ble_eq_true rfl) rfl w_1042 dX11_classify_114 rfl (fun v8 _ => ?_)
      refine z_iload_n 118 2 dX11_classify_117 rfl rfl ?_
      refine z_iaload 119 dX11_classify_118 rfl (fun v9 _ => ?_)
      refine z_icmp_eq 126 122 dX11_classify_119 (by decide) rfl (fun c10 => ?_) (fun c10 => ?_)
      · refine z_iconst (nI 0) 127 zki_0 dX11_classify_126 rfl ?_
        exact z_sub [0, 2] rfl (BX11_classify_127 b0 self32 self90 x0 x2 (nI 0) h hself32 hself90)
      · exact z_sub [0, 2] rfl (BX11_classify_122 b0 self32 self90 x0 x2 h hself32 hself90)
theorem BX11_classify_90 (b0 : Nat) (self32 : Int32 × ZH → Option (ZH)) (x0 : Nat) (hself32 : ∀ (y1 : Int32) (hh : ZH), Zr zv b0 YX11_classify 2 32 [(0, .ref (b0 + x0)), (1, .int y1)] [] hh (self32 (y1, hh))) (n : Nat) (x1 : Int32) (x2 : Int32) (h : ZH) : Zr zv b0 YX11_classify 2 90 [(0, .ref (b0 + x0)), (1, .int x1), (2, .int x2)] [] h (zloop (lX11_classify_90 self32 x0) n (x1, x2, h)) :=
  zloop_Zr (fun s => [(0, .ref (b0 + x0)), (1, .int s.1), (2, .int s.2.1)]) (fun _ => []) (fun s => s.2.2) (lX11_classify_90 self32 x0) (fun self hs s => KX11_classify_90 b0 self32 x0 hself32 self (fun y1 y2 hh => hs (y1, y2, hh)) s.1 s.2.1 s.2.2) n (x1, x2, h)
def kX11_classify_50 (self32 : Int32 × ZH → Option (ZH)) (self40 : Int32 × ZH → Option (ZH)) (x0 : Nat) (x1 : Int32) (x2 : Int32) (self50 : Int32 × ZH → Option (ZH)) (x3 : Int32) (h : ZH) : Option (ZH) :=
  (gR h 11 x0 22).bind fun v1 =>
  (lI h 14 v1 x2).bind fun v2 =>
  (gR h 11 x0 22).bind fun v3 =>
  (lI h 14 v3 x3).bind fun v4 =>
  (fX11_isAlike x0 v2 v4 h).bind fun q5 =>
  if q5.1 = 0 then (self50 ((x3 + (nI 1)), q5.2)) else
  ((gR q5.2 11 x0 25).bind fun v7 =>
  (sI q5.2 14 v7 x2 x3).bind fun h8 =>
  self40 ((x2 + (nI 1)), h8))
def lX11_classify_50 (self32 : Int32 × ZH → Option (ZH)) (self40 : Int32 × ZH → Option (ZH)) (x0 : Nat) (x1 : Int32) (x2 : Int32) : (Int32 × ZH → Option (ZH)) → Int32 × ZH → Option (ZH) := fun self s => kX11_classify_50 self32 self40 x0 x1 x2 self s.1 s.2
theorem KX11_classify_50 (b0 : Nat) (self32 : Int32 × ZH → Option (ZH)) (self40 : Int32 × ZH → Option (ZH)) (x0 : Nat) (x1 : Int32) (x2 : Int32) (hself32 : ∀ (y1 : Int32) (hh : ZH), Zr zv b0 YX11_classify 2 32 [(0, .ref (b0 + x0)), (1, .int y1)] [] hh (self32 (y1, hh))) (hself40 : ∀ (y2 : Int32) (hh : ZH), Zr zv b0 YX11_classify 2 40 [(0, .ref (b0 + x0)), (1, .int x1), (2, .int y2)] [] hh (self40 (y2, hh))) (self50 : Int32 × ZH → Option (ZH)) (hself50 : ∀ (y3 : Int32) (hh : ZH), Zr zv b0 YX11_classify 2 50 [(0, .ref (b0 + x0)), (1, .int x1), (2, .int x2), (3, .int y3)] [] hh (self50 (y3, hh))) (x3 : Int32) (h : ZH) : Zr zv b0 YX11_classify 2 50 [(0, .ref (b0 + x0)), (1, .int x1), (2, .int x2), (3, .int x3)] [] h (kX11_classify_50 self32 self40 x0 x1 x2 self50 x3 h) := by
  unfold kX11_classify_50
  refine z_aload_n 51 0 dX11_classify_50 rfl rfl ?_
  refine z_aload_n 52 0 dX11_classify_51 rfl rfl ?_
  refine z_getR 55 zC11 (Nat.le_of_ble_eq_true rfl) rfl w_1039 dX11_classify_52 rfl (fun v1 _ => ?_)
  refine z_iload_n 56 2 dX11_classify_55 rfl rfl ?_
  refine z_iaload 57 dX11_classify_56 rfl (fun v2 _ => ?_)
  refine z_aload_n 58 0 dX11_classify_57 rfl rfl ?_
  refine z_getR 61 zC11 (Nat.le_of_ble_eq_true rfl) rfl w_1039 dX11_classify_58 rfl (fun v3 _ => ?_)
  refine z_iload_n 62 3 dX11_classify_61 rfl rfl ?_
  refine z_iaload 63 dX11_classify_62 rfl (fun v4 _ => ?_)
  refine z_callVi 66 (mX11_isAlike b0 x0 v2 v4 h) zyX11_isAlike rfl w_1380 (ci := 11) rfl (Nat.le_of_ble_eq_true rfl) (fun _ e9 => kX11_isAlike e9) wm_yX11_isAlike ws_yX11_isAlike (Nat.le_of_ble_eq_true rfl) rfl (Nat.le_of_ble_eq_true rfl) dX11_classify_63 rfl (fun q5 => ?_)
  refine z_if_ne 75 69 dX11_classify_66 (by decide) rfl (fun c6 => ?_) (fun c6 => ?_)
  · refine z_aload_n 76 0 dX11_classify_75 rfl rfl ?_
    refine z_getR 79 zC11 (Nat.le_of_ble_eq_true rfl) rfl w_1042 dX11_classify_76 rfl (fun v7 _ => ?_)
    refine z_iload_n 80 2 dX11_classify_79 rfl rfl ?_
    refine z_iload_n 81 3 dX11_classify_80 rfl rfl ?_
    refine z_iastore 82 dX11_classify_81 rfl (fun h8 _ => ?_)
    refine z_iinc (lv2 := [(2, .int (x2 + (nI 1))), (0, .ref (b0 + x0)), (1, .int x1), (3, .int x3)]) (nI 1) 85 2 dX11_classify_82 rfl rfl zki_1 (Nat.le_of_ble_eq_true rfl) rfl ?_
    refine z_goto 40 dX11_classify_85 (by decide) ?_
    exact z_sub [1, 2, 0] rfl (hself40 (x2 + (nI 1)) h8)
  · refine z_iinc (lv2 := [(3, .int (x3 + (nI 1))), (0, .ref (b0 + x0)), (1, .int x1), (2, .int x2)]) (nI 1) 72 3 dX11_classify_69 rfl rfl zki_1 (Nat.le_of_ble_eq_true rfl) rfl ?_
    refine z_goto 50 dX11_classify_72 (by decide) ?_
    exact z_sub [1, 2, 3, 0] rfl (hself50 (x3 + (nI 1)) q5.2)
theorem BX11_classify_50 (b0 : Nat) (self32 : Int32 × ZH → Option (ZH)) (self40 : Int32 × ZH → Option (ZH)) (x0 : Nat) (x1 : Int32) (x2 : Int32) (hself32 : ∀ (y1 : Int32) (hh : ZH), Zr zv b0 YX11_classify 2 32 [(0, .ref (b0 + x0)), (1, .int y1)] [] hh (self32 (y1, hh))) (hself40 : ∀ (y2 : Int32) (hh : ZH), Zr zv b0 YX11_classify 2 40 [(0, .ref (b0 + x0)), (1, .int x1), (2, .int y2)] [] hh (self40 (y2, hh))) (n : Nat) (x3 : Int32) (h : ZH) : Zr zv b0 YX11_classify 2 50 [(0, .ref (b0 + x0)), (1, .int x1), (2, .int x2), (3, .int x3)] [] h (zloop (lX11_classify_50 self32 self40 x0 x1 x2) n (x3, h)) :=
  zloop_Zr (fun s => [(0, .ref (b0 + x0)), (1, .int x1), (2, .int x2), (3, .int s.1)]) (fun _ => []) (fun s => s.2) (lX11_classify_50 self32 self40 x0 x1 x2) (fun self hs s => KX11_classify_50 b0 self32 self40 x0 x1 x2 hself32 hself40 self (fun y3 hh => hs (y3, hh)) s.1 s.2) n (x3, h)
def kX11_classify_40 (self32 : Int32 × ZH → Option (ZH)) (x0 : Nat) (x1 : Int32) (self40 : Int32 × ZH → Option (ZH)) (x2 : Int32) (h : ZH) : Option (ZH) :=
  (gI h 11 x0 23).bind fun v1 =>
  if v1 ≤ x2 then (zloop (lX11_classify_90 self32 x0) zfu (x1, (nI 0), h)) else
  (zloop (lX11_classify_50 self32 self40 x0 x1 x2) zfu ((nI 0), h))
def lX11_classify_40 (self32 : Int32 × ZH → Option (ZH)) (x0 : Nat) (x1 : Int32) : (Int32 × ZH → Option (ZH)) → Int32 × ZH → Option (ZH) := fun self s => kX11_classify_40 self32 x0 x1 self s.1 s.2
theorem KX11_classify_40 (b0 : Nat) (self32 : Int32 × ZH → Option (ZH)) (x0 : Nat) (x1 : Int32) (hself32 : ∀ (y1 : Int32) (hh : ZH), Zr zv b0 YX11_classify 2 32 [(0, .ref (b0 + x0)), (1, .int y1)] [] hh (self32 (y1, hh))) (self40 : Int32 × ZH → Option (ZH)) (hself40 : ∀ (y2 : Int32) (hh : ZH), Zr zv b0 YX11_classify 2 40 [(0, .ref (b0 + x0)), (1, .int x1), (2, .int y2)] [] hh (self40 (y2, hh))) (x2 : Int32) (h : ZH) : Zr zv b0 YX11_classify 2 40 [(0, .ref (b0 + x0)), (1, .int x1), (2, .int x2)] [] h (kX11_classify_40 self32 x0 x1 self40 x2 h) := by
  unfold kX11_classify_40
  refine z_iload_n 41 2 dX11_classify_40 rfl rfl ?_
  refine z_aload_n 42 0 dX11_classify_41 rfl rfl ?_
  refine z_getI 45 zC11 (Nat.le_of_ble_eq_true rfl) rfl w_1040 dX11_classify_42 rfl (fun v1 _ => ?_)
  refine z_icmp_ge 88 48 dX11_classify_45 (by decide) rfl (fun c2 => ?_) (fun c2 => ?_)
  · refine z_iconst (nI 0) 89 zki_0 dX11_classify_88 rfl ?_
    refine z_istore_n (lv2 := [(2, .int (nI 0)), (0, .ref (b0 + x0)), (1, .int x1)]) 90 dX11_classify_89 rfl (Nat.le_of_ble_eq_true rfl) rfl ?_
    exact z_sub [1, 2, 0] rfl (BX11_classify_90 b0 self32 x0 hself32 zfu x1 (nI 0) h)
  · refine z_iconst (nI 0) 49 zki_0 dX11_classify_48 rfl ?_
    refine z_istore_n (lv2 := [(3, .int (nI 0)), (0, .ref (b0 + x0)), (1, .int x1), (2, .int x2)]) 50 dX11_classify_49 rfl (Nat.le_of_ble_eq_true rfl) rfl ?_
    exact z_sub [1, 2, 3, 0] rfl (BX11_classify_50 b0 self32 self40 x0 x1 x2 hself32 hself40 zfu (nI 0) h)
theorem BX11_classify_40 (b0 : Nat) (self32 : Int32 × ZH → Option (ZH)) (x0 : Nat) (x1 : Int32) (hself32 : ∀ (y1 : Int32) (hh : ZH), Zr zv b0 YX11_classify 2 32 [(0, .ref (b0 + x0)), (1, .int y1)] [] hh (self32 (y1, hh))) (n : Nat) (x2 : Int32) (h : ZH) : Zr zv b0 YX11_classify 2 40 [(0, .ref (b0 + x0)), (1, .int x1), (2, .int x2)] [] h (zloop (lX11_classify_40 self32 x0 x1) n (x2, h)) :=
  zloop_Zr (fun s => [(0, .ref (b0 + x0)), (1, .int x1), (2, .int s.1)]) (fun _ => []) (fun s => s.2) (lX11_classify_40 self32 x0 x1) (fun self hs s => KX11_classify_40 b0 self32 x0 x1 hself32 self (fun y2 hh => hs (y2, hh)) s.1 s.2) n (x2, h)
def kX11_classify_32 (x0 : Nat) (self32 : Int32 × ZH → Option (ZH)) (x1 : Int32) (h : ZH) : Option (ZH) :=
  if x1 = 0 then (some h) else
  (zloop (lX11_classify_40 self32 x0 (nI 0)) zfu ((nI 0), h))
def lX11_classify_32 (x0 : Nat) : (Int32 × ZH → Option (ZH)) → Int32 × ZH → Option (ZH) := fun self s => kX11_classify_32 x0 self s.1 s.2
theorem KX11_classify_32 (b0 : Nat) (x0 : Nat) (self32 : Int32 × ZH → Option (ZH)) (hself32 : ∀ (y1 : Int32) (hh : ZH), Zr zv b0 YX11_classify 2 32 [(0, .ref (b0 + x0)), (1, .int y1)] [] hh (self32 (y1, hh))) (x1 : Int32) (h : ZH) : Zr zv b0 YX11_classify 2 32 [(0, .ref (b0 + x0)), (1, .int x1)] [] h (kX11_classify_32 x0 self32 x1 h) := by
  unfold kX11_classify_32
  refine z_iload_n 33 1 dX11_classify_32 rfl rfl ?_
  refine z_if_eq 154 36 dX11_classify_33 (by decide) rfl (fun c1 => ?_) (fun c1 => ?_)
  · exact z_return dX11_classify_154 rfl
  · refine z_iconst (nI 0) 37 zki_0 dX11_classify_36 rfl ?_
    refine z_istore_n (lv2 := [(1, .int (nI 0)), (0, .ref (b0 + x0))]) 38 dX11_classify_37 rfl (Nat.le_of_ble_eq_true rfl) rfl ?_
    refine z_iconst (nI 0) 39 zki_0 dX11_classify_38 rfl ?_
    refine z_istore_n (lv2 := [(2, .int (nI 0)), (1, .int (nI 0)), (0, .ref (b0 + x0))]) 40 dX11_classify_39 rfl (Nat.le_of_ble_eq_true rfl) rfl ?_
    exact z_sub [2, 1, 0] rfl (BX11_classify_40 b0 self32 x0 (nI 0) hself32 zfu (nI 0) h)
theorem BX11_classify_32 (b0 : Nat) (x0 : Nat) (n : Nat) (x1 : Int32) (h : ZH) : Zr zv b0 YX11_classify 2 32 [(0, .ref (b0 + x0)), (1, .int x1)] [] h (zloop (lX11_classify_32 x0) n (x1, h)) :=
  zloop_Zr (fun s => [(0, .ref (b0 + x0)), (1, .int s.1)]) (fun _ => []) (fun s => s.2) (lX11_classify_32 x0) (fun self hs s => KX11_classify_32 b0 x0 self (fun y1 hh => hs (y1, hh)) s.1 s.2) n (x1, h)
def bX11_classify_23 (self2 : Int32 × ZH → Option (ZH)) (x0 : Nat) (x1 : Int32) (t0 : Int32) (t1 : Int32) (t2 : Nat) (h : ZH) : Option (ZH) :=
  (sI h 14 t2 t1 t0).bind fun h1 =>
  self2 ((x1 + (nI 1)), h1)
theorem BX11_classify_23 (b0 : Nat) (self2 : Int32 × ZH → Option (ZH)) (x0 : Nat) (x1 : Int32) (t0 : Int32) (t1 : Int32) (t2 : Nat) (h : ZH) (hself2 : ∀ (y1 : Int32) (hh : ZH), Zr zv b0 YX11_classify 2 2 [(0, .ref (b0 + x0)), (1, .int y1)] [] hh (self2 (y1, hh))) : Zr zv b0 YX11_classify 2 23 [(0, .ref (b0 + x0)), (1, .int x1)] [.int t0, .int t1, .ref (b0 + t2)] h (bX11_classify_23 self2 x0 x1 t0 t1 t2 h) := by
  unfold bX11_classify_23
  refine z_iastore 24 dX11_classify_23 rfl (fun h1 _ => ?_)
  refine z_iinc (lv2 := [(1, .int (x1 + (nI 1))), (0, .ref (b0 + x0))]) (nI 1) 27 1 dX11_classify_24 rfl rfl zki_1 (Nat.le_of_ble_eq_true rfl) rfl ?_
  refine z_goto 2 dX11_classify_27 (by decide) ?_
  exact z_sub [1, 0] rfl (hself2 (x1 + (nI 1)) h1)
def kX11_classify_2 (x0 : Nat) (self2 : Int32 × ZH → Option (ZH)) (x1 : Int32) (h : ZH) : Option (ZH) :=
  if (nI 256) ≤ x1 then (zloop (lX11_classify_32 x0) zfu ((nI 1), h)) else
  ((gR h 11 x0 24).bind fun v2 =>
  if x1 = 0 then (bX11_classify_23 self2 x0 x1 (-1 : Int32) x1 v2 h) else
  (bX11_classify_23 self2 x0 x1 (nI 0) x1 v2 h))
def lX11_classify_2 (x0 : Nat) : (Int32 × ZH → Option (ZH)) → Int32 × ZH → Option (ZH) := fun self s => kX11_classify_2 x0 self s.1 s.2
theorem KX11_classify_2 (b0 : Nat) (x0 : Nat) (self2 : Int32 × ZH → Option (ZH)) (hself2 : ∀ (y1 : Int32) (hh : ZH), Zr zv b0 YX11_classify 2 2 [(0, .ref (b0 + x0)), (1, .int y1)] [] hh (self2 (y1, hh))) (x1 : Int32) (h : ZH) : Zr zv b0 YX11_classify 2 2 [(0, .ref (b0 + x0)), (1, .int x1)] [] h (kX11_classify_2 x0 self2 x1 h) := by
  unfold kX11_classify_2
  refine z_iload_n 3 1 dX11_classify_2 rfl rfl ?_
  refine z_sipush (nI 256) 6 zks_256 dX11_classify_3 rfl ?_
  refine z_icmp_ge 30 9 dX11_classify_6 (by decide) rfl (fun c1 => ?_) (fun c1 => ?_)
  · refine z_iconst (nI 1) 31 zki_1 dX11_classify_30 rfl ?_
    refine z_istore_n (lv2 := [(1, .int (nI 1)), (0, .ref (b0 + x0))]) 32 dX11_classify_31 rfl (Nat.le_of_ble_eq_true rfl) rfl ?_
    exact z_sub [1, 0] rfl (BX11_classify_32 b0 x0 zfu (nI 1) h)
  · refine z_aload_n 10 0 dX11_classify_9 rfl rfl ?_
    refine z_getR 13 zC11 (Nat.le_of_ble_eq_true rfl) rfl w_1041 dX11_classify_10 rfl (fun v2 _ => ?_)
    refine z_iload_n 14 1 dX11_classify_13 rfl rfl ?_
    refine z_iload_n 15 1 dX11_classify_14 rfl rfl ?_
    refine z_if_ne 22 18 dX11_classify_15 (by decide) rfl (fun c3 => ?_) (fun c3 => ?_)
    · refine z_iconst (nI 0) 23 zki_0 dX11_classify_22 rfl ?_
      exact z_sub [0, 1] rfl (BX11_classify_23 b0 self2 x0 x1 (nI 0) x1 v2 h hself2)
    · refine z_iconst (-1 : Int32) 19 zki_m1 dX11_classify_18 rfl ?_
      refine z_goto 23 dX11_classify_19 (by decide) ?_
      exact z_sub [0, 1] rfl (BX11_classify_23 b0 self2 x0 x1 (-1 : Int32) x1 v2 h hself2)
theorem BX11_classify_2 (b0 : Nat) (x0 : Nat) (n : Nat) (x1 : Int32) (h : ZH) : Zr zv b0 YX11_classify 2 2 [(0, .ref (b0 + x0)), (1, .int x1)] [] h (zloop (lX11_classify_2 x0) n (x1, h)) :=
  zloop_Zr (fun s => [(0, .ref (b0 + x0)), (1, .int s.1)]) (fun _ => []) (fun s => s.2) (lX11_classify_2 x0) (fun self hs s => KX11_classify_2 b0 x0 self (fun y1 hh => hs (y1, hh)) s.1 s.2) n (x1, h)
def fX11_classify (x0 : Nat) (h : ZH) : Option (ZH) :=
  if x0 < zn h ∧ zK h x0 = 11 then (zloop (lX11_classify_2 x0) zfu ((nI 0), h)) else none
theorem kX11_classify {x0 : Nat} {h : ZH} {x : ZH} (e : fX11_classify x0 h = some x) : x0 < zn h ∧ zK h x0 = 11 := by
  unfold fX11_classify at e
  exact zguard e
theorem mX11_classify (b0 : Nat) (x0 : Nat) (h : ZH) : ZM zv b0 YX11_classify 2 [.ref (b0 + x0)] h (fX11_classify x0 h) := by
  unfold fX11_classify
  refine ZM.of (by decide) rfl (Nat.le_of_ble_eq_true rfl) (fun _ => trivial) ?_
  refine z_sub (lv2 := [(0, .ref (b0 + x0))]) [0] rfl ?_
  refine z_guard (fun _ => ?_)
  refine z_iconst (nI 0) 1 zki_0 dX11_classify_0 rfl ?_
  refine z_istore_n (lv2 := [(1, .int (nI 0)), (0, .ref (b0 + x0))]) 2 dX11_classify_1 rfl (Nat.le_of_ble_eq_true rfl) rfl ?_
  exact z_sub [1, 0] rfl (BX11_classify_2 b0 x0 zfu (nI 0) h)
-- X11_seeFrom
def bX11_seeFrom_65 (self11 : Int32 × ZH → Option (ZH)) (self21 : Int32 × ZH → Option (ZH)) (x0 : Nat) (x2 : Int32) (x3 : Int32) (h : ZH) : Option (ZH) :=
  self21 ((x3 + (nI 1)), h)
theorem BX11_seeFrom_65 (b0 : Nat) (self11 : Int32 × ZH → Option (ZH)) (self21 : Int32 × ZH → Option (ZH)) (x0 : Nat) (x2 : Int32) (x3 : Int32) (h : ZH) (hself11 : ∀ (y2 : Int32) (hh : ZH), Zr zv b0 YX11_seeFrom 2 11 [(0, .ref (b0 + x0)), (2, .int y2)] [] hh (self11 (y2, hh))) (hself21 : ∀ (y3 : Int32) (hh : ZH), Zr zv b0 YX11_seeFrom 2 21 [(0, .ref (b0 + x0)), (2, .int x2), (3, .int y3)] [] hh (self21 (y3, hh))) : Zr zv b0 YX11_seeFrom 2 65 [(0, .ref (b0 + x0)), (2, .int x2), (3, .int x3)] [] h (bX11_seeFrom_65 self11 self21 x0 x2 x3 h) := by
  unfold bX11_seeFrom_65
  refine z_iinc (lv2 := [(3, .int (x3 + (nI 1))), (0, .ref (b0 + x0)), (2, .int x2)]) (nI 1) 68 2 dX11_seeFrom_65 rfl rfl zki_1 (Nat.le_of_ble_eq_true rfl) rfl ?_
  refine z_goto 21 dX11_seeFrom_68 (by decide) ?_
  exact z_sub [1, 2, 0] rfl (hself21 (x3 + (nI 1)) h)
def kX11_seeFrom_21 (self11 : Int32 × ZH → Option (ZH)) (x0 : Nat) (x2 : Int32) (self21 : Int32 × ZH → Option (ZH)) (x3 : Int32) (h : ZH) : Option (ZH) :=
  if (nI 4) ≤ x3 then (self11 ((x2 + (nI 1)), h)) else
  ((gR h 11 x0 24).bind fun v2 =>
  (gR h 11 x0 13).bind fun v3 =>
  (gR h 11 x0 22).bind fun v4 =>
  (gR h 11 x0 27).bind fun v5 =>
  (lI h 14 v5 x2).bind fun v6 =>
  (lI h 14 v4 v6).bind fun v7 =>
  (lI h 14 v3 (((nI 4) * v7) + x3)).bind fun v8 =>
  (lI h 14 v2 v8).bind fun v9 =>
  if v9 = (-1 : Int32) then (bX11_seeFrom_65 self11 self21 x0 x2 x3 h) else
  ((fX11_see x0 v9 h).bind fun h11 =>
  bX11_seeFrom_65 self11 self21 x0 x2 x3 h11))
def lX11_seeFrom_21 (self11 : Int32 × ZH → Option (ZH)) (x0 : Nat) (x2 : Int32) : (Int32 × ZH → Option (ZH)) → Int32 × ZH → Option (ZH) := fun self s => kX11_seeFrom_21 self11 x0 x2 self s.1 s.2
theorem KX11_seeFrom_21 (b0 : Nat) (self11 : Int32 × ZH → Option (ZH)) (x0 : Nat) (x2 : Int32) (hself11 : ∀ (y2 : Int32) (hh : ZH), Zr zv b0 YX11_seeFrom 2 11 [(0, .ref (b0 + x0)), (2, .int y2)] [] hh (self11 (y2, hh))) (self21 : Int32 × ZH → Option (ZH)) (hself21 : ∀ (y3 : Int32) (hh : ZH), Zr zv b0 YX11_seeFrom 2 21 [(0, .ref (b0 + x0)), (2, .int x2), (3, .int y3)] [] hh (self21 (y3, hh))) (x3 : Int32) (h : ZH) : Zr zv b0 YX11_seeFrom 2 21 [(0, .ref (b0 + x0)), (2, .int x2), (3, .int x3)] [] h (kX11_seeFrom_21 self11 x0 x2 self21 x3 h) := by
  unfold kX11_seeFrom_21
  refine z_iload_n 22 2 dX11_seeFrom_21 rfl rfl ?_
  refine z_iconst (nI 4) 23 zki_4 dX11_seeFrom_22 rfl ?_
  refine z_icmp_ge 71 26 dX11_seeFrom_23 (by decide) rfl (fun c1 => ?_) (fun c1 => ?_)
  · refine z_iinc (lv2 := [(2, .int (x2 + (nI 1))), (0, .ref (b0 + x0)), (3, .int x3)]) (nI 1) 74 1 dX11_seeFrom_71 rfl rfl zki_1 (Nat.le_of_ble_eq_true rfl) rfl ?_
    refine z_goto 11 dX11_seeFrom_74 (by decide) ?_
    exact z_sub [1, 0] rfl (hself11 (x2 + (nI 1)) h)
  · refine z_aload_n 27 0 dX11_seeFrom_26 rfl rfl ?_
    refine z_getR 30 zC11 (Nat.le_of_ble_eq_true rfl) rfl w_1041 dX11_seeFrom_27 rfl (fun v2 _ => ?_)
    refine z_aload_n 31 0 dX11_seeFrom_30 rfl rfl ?_
    refine z_getR 34 zC11 (Nat.le_of_ble_eq_true rfl) rfl w_1030 dX11_seeFrom_31 rfl (fun v3 _ => ?_)
    refine z_iconst (nI 4) 35 zki_4 dX11_seeFrom_34 rfl ?_
    refine z_aload_n 36 0 dX11_seeFrom_35 rfl rfl ?_
    refine z_getR 39 zC11 (Nat.le_of_ble_eq_true rfl) rfl w_1039 dX11_seeFrom_36 rfl (fun v4 _ => ?_)
    refine z_aload_n 40 0 dX11_seeFrom_39 rfl rfl ?_
    refine z_getR 43 zC11 (Nat.le_of_ble_eq_true rfl) rfl w_1044 dX11_seeFrom_40 rfl (fun v5 _ => ?_)
    refine z_iload_n 44 1 dX11_seeFrom_43 rfl rfl ?_
    refine z_iaload 45 dX11_seeFrom_44 rfl (fun v6 _ => ?_)
    refine z_iaload 46 dX11_seeFrom_45 rfl (fun v7 _ => ?_)
    refine z_imul 47 dX11_seeFrom_46 rfl ?_
    refine z_iload_n 48 2 dX11_seeFrom_47 rfl rfl ?_
    refine z_iadd 49 dX11_seeFrom_48 rfl ?_
    refine z_iaload 50 dX11_seeFrom_49 rfl (fun v8 _ => ?_)
    refine z_iaload 51 dX11_seeFrom_50 rfl (fun v9 _ => ?_)
    refine z_istore (lv2 := [(4, .int v9), (0, .ref (b0 + x0)), (2, .int x2), (3, .int x3)]) 53 dX11_seeFrom_51 rfl (Nat.le_of_ble_eq_true rfl) rfl ?_
    refine z_iload 55 0 dX11_seeFrom_53 rfl rfl ?_
    refine z_iconst (-1 : Int32) 56 zki_m1 dX11_seeFrom_55 rfl ?_
    refine z_icmp_eq 65 59 dX11_seeFrom_56 (by decide) rfl (fun c10 => ?_) (fun c10 => ?_)
    · exact z_sub [1, 2, 3] rfl (BX11_seeFrom_65 b0 self11 self21 x0 x2 x3 h hself11 hself21)
    · refine z_aload_n 60 1 dX11_seeFrom_59 rfl rfl ?_
      refine z_iload 62 0 dX11_seeFrom_60 rfl rfl ?_
      refine z_callVv 65 (mX11_see b0 x0 v9 h) zyX11_see rfl w_1372 (ci := 11) rfl (Nat.le_of_ble_eq_true rfl) (fun _ e9 => kX11_see e9) wm_yX11_see ws_yX11_see (Nat.le_of_ble_eq_true rfl) rfl (Nat.le_of_ble_eq_true rfl) dX11_seeFrom_62 rfl (fun h11 => ?_)
      exact z_sub [1, 2, 3] rfl (BX11_seeFrom_65 b0 self11 self21 x0 x2 x3 h11 hself11 hself21)
theorem BX11_seeFrom_21 (b0 : Nat) (self11 : Int32 × ZH → Option (ZH)) (x0 : Nat) (x2 : Int32) (hself11 : ∀ (y2 : Int32) (hh : ZH), Zr zv b0 YX11_seeFrom 2 11 [(0, .ref (b0 + x0)), (2, .int y2)] [] hh (self11 (y2, hh))) (n : Nat) (x3 : Int32) (h : ZH) : Zr zv b0 YX11_seeFrom 2 21 [(0, .ref (b0 + x0)), (2, .int x2), (3, .int x3)] [] h (zloop (lX11_seeFrom_21 self11 x0 x2) n (x3, h)) :=
  zloop_Zr (fun s => [(0, .ref (b0 + x0)), (2, .int x2), (3, .int s.1)]) (fun _ => []) (fun s => s.2) (lX11_seeFrom_21 self11 x0 x2) (fun self hs s => KX11_seeFrom_21 b0 self11 x0 x2 hself11 self (fun y3 hh => hs (y3, hh)) s.1 s.2) n (x3, h)
def kX11_seeFrom_11 (x0 : Nat) (self11 : Int32 × ZH → Option (ZH)) (x2 : Int32) (h : ZH) : Option (ZH) :=
  (gI h 11 x0 28).bind fun v1 =>
  if v1 ≤ x2 then (some h) else
  (zloop (lX11_seeFrom_21 self11 x0 x2) zfu ((nI 0), h))
def lX11_seeFrom_11 (x0 : Nat) : (Int32 × ZH → Option (ZH)) → Int32 × ZH → Option (ZH) := fun self s => kX11_seeFrom_11 x0 self s.1 s.2
theorem KX11_seeFrom_11 (b0 : Nat) (x0 : Nat) (self11 : Int32 × ZH → Option (ZH)) (hself11 : ∀ (y2 : Int32) (hh : ZH), Zr zv b0 YX11_seeFrom 2 11 [(0, .ref (b0 + x0)), (2, .int y2)] [] hh (self11 (y2, hh))) (x2 : Int32) (h : ZH) : Zr zv b0 YX11_seeFrom 2 11 [(0, .ref (b0 + x0)), (2, .int x2)] [] h (kX11_seeFrom_11 x0 self11 x2 h) := by
  unfold kX11_seeFrom_11
  refine z_iload_n 12 1 dX11_seeFrom_11 rfl rfl ?_
  refine z_aload_n 13 0 dX11_seeFrom_12 rfl rfl ?_
  refine z_getI 16 zC11 (Nat.le_of_ble_eq_true rfl) rfl w_1045 dX11_seeFrom_13 rfl (fun v1 _ => ?_)
  refine z_icmp_ge 77 19 dX11_seeFrom_16 (by decide) rfl (fun c2 => ?_) (fun c2 => ?_)
  · exact z_return dX11_seeFrom_77 rfl
  · refine z_iconst (nI 0) 20 zki_0 dX11_seeFrom_19 rfl ?_
    refine z_istore_n (lv2 := [(3, .int (nI 0)), (0, .ref (b0 + x0)), (2, .int x2)]) 21 dX11_seeFrom_20 rfl (Nat.le_of_ble_eq_true rfl) rfl ?_
    exact z_sub [1, 2, 0] rfl (BX11_seeFrom_21 b0 self11 x0 x2 hself11 zfu (nI 0) h)
theorem BX11_seeFrom_11 (b0 : Nat) (x0 : Nat) (n : Nat) (x2 : Int32) (h : ZH) : Zr zv b0 YX11_seeFrom 2 11 [(0, .ref (b0 + x0)), (2, .int x2)] [] h (zloop (lX11_seeFrom_11 x0) n (x2, h)) :=
  zloop_Zr (fun s => [(0, .ref (b0 + x0)), (2, .int s.1)]) (fun _ => []) (fun s => s.2) (lX11_seeFrom_11 x0) (fun self hs s => KX11_seeFrom_11 b0 x0 self (fun y2 hh => hs (y2, hh)) s.1 s.2) n (x2, h)
def fX11_seeFrom (x0 : Nat) (x1 : Int32) (h : ZH) : Option (ZH) :=
  if x0 < zn h ∧ zK h x0 = 11 then ((fX11_clearSeen x0 h).bind fun h1 =>
  (fX11_see x0 x1 h1).bind fun h2 =>
  zloop (lX11_seeFrom_11 x0) zfu ((nI 0), h2)) else none
theorem kX11_seeFrom {x0 : Nat} {x1 : Int32} {h : ZH} {x : ZH} (e : fX11_seeFrom x0 x1 h = some x) : x0 < zn h ∧ zK h x0 = 11 := by
  unfold fX11_seeFrom at e
  exact zguard e
theorem mX11_seeFrom (b0 : Nat) (x0 : Nat) (x1 : Int32) (h : ZH) : ZM zv b0 YX11_seeFrom 2 [.ref (b0 + x0), .int x1] h (fX11_seeFrom x0 x1 h) := by
  unfold fX11_seeFrom
  refine ZM.of (by decide) rfl (Nat.le_of_ble_eq_true rfl) (fun _ => trivial) ?_
  refine z_sub (lv2 := [(0, .ref (b0 + x0)), (1, .int x1)]) [0, 1] rfl ?_
  refine z_guard (fun _ => ?_)
  refine z_aload_n 1 0 dX11_seeFrom_0 rfl rfl ?_
  refine z_callVv 4 (mX11_clearSeen b0 x0 h) zyX11_clearSeen rfl w_1368 (ci := 11) rfl (Nat.le_of_ble_eq_true rfl) (fun _ e9 => kX11_clearSeen e9) wm_yX11_clearSeen ws_yX11_clearSeen (Nat.le_of_ble_eq_true rfl) rfl (Nat.le_of_ble_eq_true rfl) dX11_seeFrom_1 rfl (fun h1 => ?_)
  refine z_aload_n 5 0 dX11_seeFrom_4 rfl rfl ?_
  refine z_iload_n 6 1 dX11_seeFrom_5 rfl rfl ?_
  refine z_callVv 9 (mX11_see b0 x0 x1 h1) zyX11_see rfl w_1372 (ci := 11) rfl (Nat.le_of_ble_eq_true rfl) (fun _ e9 => kX11_see e9) wm_yX11_see ws_yX11_see (Nat.le_of_ble_eq_true rfl) rfl (Nat.le_of_ble_eq_true rfl) dX11_seeFrom_6 rfl (fun h2 => ?_)
  refine z_iconst (nI 0) 10 zki_0 dX11_seeFrom_9 rfl ?_
  refine z_istore_n (lv2 := [(2, .int (nI 0)), (0, .ref (b0 + x0)), (1, .int x1)]) 11 dX11_seeFrom_10 rfl (Nat.le_of_ble_eq_true rfl) rfl ?_
  exact z_sub [1, 0] rfl (BX11_seeFrom_11 b0 x0 zfu (nI 0) h2)
-- X11_memberOf
def kX11_memberOf_2 (x0 : Nat) (x1 : Int32) (self2 : Int32 × ZH → Option (Int32 × ZH)) (x2 : Int32) (h : ZH) : Option (Int32 × ZH) :=
  (gI h 11 x0 30).bind fun v1 =>
  if v1 ≤ x2 then (some ((-1 : Int32), h)) else
  ((gR h 11 x0 29).bind fun v3 =>
  (lI h 14 v3 x2).bind fun v4 =>
  if v4 = x1 then (some (x2, h)) else
  (self2 ((x2 + (nI 1)), h)))
def lX11_memberOf_2 (x0 : Nat) (x1 : Int32) : (Int32 × ZH → Option (Int32 × ZH)) → Int32 × ZH → Option (Int32 × ZH) := fun self s => kX11_memberOf_2 x0 x1 self s.1 s.2
theorem KX11_memberOf_2 (b0 : Nat) (x0 : Nat) (x1 : Int32) (self2 : Int32 × ZH → Option (Int32 × ZH)) (hself2 : ∀ (y2 : Int32) (hh : ZH), Zr zi b0 YX11_memberOf 1 2 [(0, .ref (b0 + x0)), (1, .int x1), (2, .int y2)] [] hh (self2 (y2, hh))) (x2 : Int32) (h : ZH) : Zr zi b0 YX11_memberOf 1 2 [(0, .ref (b0 + x0)), (1, .int x1), (2, .int x2)] [] h (kX11_memberOf_2 x0 x1 self2 x2 h) := by
  unfold kX11_memberOf_2
  refine z_iload_n 3 2 dX11_memberOf_2 rfl rfl ?_
  refine z_aload_n 4 0 dX11_memberOf_3 rfl rfl ?_
  refine z_getI 7 zC11 (Nat.le_of_ble_eq_true rfl) rfl w_1047 dX11_memberOf_4 rfl (fun v1 _ => ?_)
  refine z_icmp_ge 28 10 dX11_memberOf_7 (by decide) rfl (fun c2 => ?_) (fun c2 => ?_)
  · refine z_iconst (-1 : Int32) 29 zki_m1 dX11_memberOf_28 rfl ?_
    exact z_ireturn dX11_memberOf_29 rfl
  · refine z_aload_n 11 0 dX11_memberOf_10 rfl rfl ?_
    refine z_getR 14 zC11 (Nat.le_of_ble_eq_true rfl) rfl w_1046 dX11_memberOf_11 rfl (fun v3 _ => ?_)
    refine z_iload_n 15 2 dX11_memberOf_14 rfl rfl ?_
    refine z_iaload 16 dX11_memberOf_15 rfl (fun v4 _ => ?_)
    refine z_iload_n 17 1 dX11_memberOf_16 rfl rfl ?_
    refine z_icmp_ne 22 20 dX11_memberOf_17 (by decide) rfl (fun c5 => ?_) (fun c5 => ?_)
    · refine z_iinc (lv2 := [(2, .int (x2 + (nI 1))), (0, .ref (b0 + x0)), (1, .int x1)]) (nI 1) 25 2 dX11_memberOf_22 rfl rfl zki_1 (Nat.le_of_ble_eq_true rfl) rfl ?_
      refine z_goto 2 dX11_memberOf_25 (by decide) ?_
      exact z_sub [1, 2, 0] rfl (hself2 (x2 + (nI 1)) h)
    · refine z_iload_n 21 2 dX11_memberOf_20 rfl rfl ?_
      exact z_ireturn dX11_memberOf_21 rfl
theorem BX11_memberOf_2 (b0 : Nat) (x0 : Nat) (x1 : Int32) (n : Nat) (x2 : Int32) (h : ZH) : Zr zi b0 YX11_memberOf 1 2 [(0, .ref (b0 + x0)), (1, .int x1), (2, .int x2)] [] h (zloop (lX11_memberOf_2 x0 x1) n (x2, h)) :=
  zloop_Zr (fun s => [(0, .ref (b0 + x0)), (1, .int x1), (2, .int s.1)]) (fun _ => []) (fun s => s.2) (lX11_memberOf_2 x0 x1) (fun self hs s => KX11_memberOf_2 b0 x0 x1 self (fun y2 hh => hs (y2, hh)) s.1 s.2) n (x2, h)
def fX11_memberOf (x0 : Nat) (x1 : Int32) (h : ZH) : Option (Int32 × ZH) :=
  if x0 < zn h ∧ zK h x0 = 11 then (zloop (lX11_memberOf_2 x0 x1) zfu ((nI 0), h)) else none
theorem kX11_memberOf {x0 : Nat} {x1 : Int32} {h : ZH} {x : Int32 × ZH} (e : fX11_memberOf x0 x1 h = some x) : x0 < zn h ∧ zK h x0 = 11 := by
  unfold fX11_memberOf at e
  exact zguard e
theorem mX11_memberOf (b0 : Nat) (x0 : Nat) (x1 : Int32) (h : ZH) : ZM zi b0 YX11_memberOf 1 [.ref (b0 + x0), .int x1] h (fX11_memberOf x0 x1 h) := by
  unfold fX11_memberOf
  refine ZM.of (by decide) rfl (Nat.le_of_ble_eq_true rfl) (fun _ => trivial) ?_
  refine z_sub (lv2 := [(0, .ref (b0 + x0)), (1, .int x1)]) [0, 1] rfl ?_
  refine z_guard (fun _ => ?_)
  refine z_iconst (nI 0) 1 zki_0 dX11_memberOf_0 rfl ?_
  refine z_istore_n (lv2 := [(2, .int (nI 0)), (0, .ref (b0 + x0)), (1, .int x1)]) 2 dX11_memberOf_1 rfl (Nat.le_of_ble_eq_true rfl) rfl ?_
  exact z_sub [1, 2, 0] rfl (BX11_memberOf_2 b0 x0 x1 zfu (nI 0) h)
-- X11_findMembers
def kX11_findMembers_159 (self147 : Int32 × ZH → Option (Int32 × ZH)) (x0 : Nat) (x4 : Int32) (self159 : Int32 × ZH → Option (Int32 × ZH)) (x5 : Int32) (h : ZH) : Option (Int32 × ZH) :=
  if (nI 4) ≤ x5 then (self147 ((x4 + (nI 1)), h)) else
  ((gR h 11 x0 31).bind fun v2 =>
  (gR h 11 x0 24).bind fun v3 =>
  (gR h 11 x0 13).bind fun v4 =>
  (gR h 11 x0 22).bind fun v5 =>
  (gR h 11 x0 29).bind fun v6 =>
  (lI h 14 v6 x4).bind fun v7 =>
  (lI h 14 v5 v7).bind fun v8 =>
  (lI h 14 v4 (((nI 4) * v8) + x5)).bind fun v9 =>
  (lI h 14 v3 v9).bind fun v10 =>
  (fX11_memberOf x0 v10 h).bind fun q11 =>
  (sI q11.2 14 v2 (((nI 4) * x4) + x5) q11.1).bind fun h12 =>
  self159 ((x5 + (nI 1)), h12))
def lX11_findMembers_159 (self147 : Int32 × ZH → Option (Int32 × ZH)) (x0 : Nat) (x4 : Int32) : (Int32 × ZH → Option (Int32 × ZH)) → Int32 × ZH → Option (Int32 × ZH) := fun self s => kX11_findMembers_159 self147 x0 x4 self s.1 s.2
theorem KX11_findMembers_159 (b0 : Nat) (self147 : Int32 × ZH → Option (Int32 × ZH)) (x0 : Nat) (x4 : Int32) (hself147 : ∀ (y4 : Int32) (hh : ZH), Zr zi b0 YX11_findMembers 5 147 [(0, .ref (b0 + x0)), (4, .int y4)] [] hh (self147 (y4, hh))) (self159 : Int32 × ZH → Option (Int32 × ZH)) (hself159 : ∀ (y5 : Int32) (hh : ZH), Zr zi b0 YX11_findMembers 5 159 [(0, .ref (b0 + x0)), (4, .int x4), (5, .int y5)] [] hh (self159 (y5, hh))) (x5 : Int32) (h : ZH) : Zr zi b0 YX11_findMembers 5 159 [(0, .ref (b0 + x0)), (4, .int x4), (5, .int x5)] [] h (kX11_findMembers_159 self147 x0 x4 self159 x5 h) := by
  unfold kX11_findMembers_159
  refine z_iload 161 2 dX11_findMembers_159 rfl rfl ?_
  refine z_iconst (nI 4) 162 zki_4 dX11_findMembers_161 rfl ?_
  refine z_icmp_ge 214 165 dX11_findMembers_162 (by decide) rfl (fun c1 => ?_) (fun c1 => ?_)
  · refine z_iinc (lv2 := [(4, .int (x4 + (nI 1))), (0, .ref (b0 + x0)), (5, .int x5)]) (nI 1) 217 1 dX11_findMembers_214 rfl rfl zki_1 (Nat.le_of_ble_eq_true rfl) rfl ?_
    refine z_goto 147 dX11_findMembers_217 (by decide) ?_
    exact z_sub [1, 0] rfl (hself147 (x4 + (nI 1)) h)
  · refine z_aload_n 166 0 dX11_findMembers_165 rfl rfl ?_
    refine z_getR 169 zC11 (Nat.le_of_ble_eq_true rfl) rfl w_1048 dX11_findMembers_166 rfl (fun v2 _ => ?_)
    refine z_iconst (nI 4) 170 zki_4 dX11_findMembers_169 rfl ?_
    refine z_iload 172 1 dX11_findMembers_170 rfl rfl ?_
    refine z_imul 173 dX11_findMembers_172 rfl ?_
    refine z_iload 175 2 dX11_findMembers_173 rfl rfl ?_
    refine z_iadd 176 dX11_findMembers_175 rfl ?_
    refine z_aload_n 177 0 dX11_findMembers_176 rfl rfl ?_
    refine z_aload_n 178 0 dX11_findMembers_177 rfl rfl ?_
    refine z_getR 181 zC11 (Nat.le_of_ble_eq_true rfl) rfl w_1041 dX11_findMembers_178 rfl (fun v3 _ => ?_)
    refine z_aload_n 182 0 dX11_findMembers_181 rfl rfl ?_
    refine z_getR 185 zC11 (Nat.le_of_ble_eq_true rfl) rfl w_1030 dX11_findMembers_182 rfl (fun v4 _ => ?_)
    refine z_iconst (nI 4) 186 zki_4 dX11_findMembers_185 rfl ?_
    refine z_aload_n 187 0 dX11_findMembers_186 rfl rfl ?_
    refine z_getR 190 zC11 (Nat.le_of_ble_eq_true rfl) rfl w_1039 dX11_findMembers_187 rfl (fun v5 _ => ?_)
    refine z_aload_n 191 0 dX11_findMembers_190 rfl rfl ?_
    refine z_getR 194 zC11 (Nat.le_of_ble_eq_true rfl) rfl w_1046 dX11_findMembers_191 rfl (fun v6 _ => ?_)
    refine z_iload 196 1 dX11_findMembers_194 rfl rfl ?_
    refine z_iaload 197 dX11_findMembers_196 rfl (fun v7 _ => ?_)
    refine z_iaload 198 dX11_findMembers_197 rfl (fun v8 _ => ?_)
    refine z_imul 199 dX11_findMembers_198 rfl ?_
    refine z_iload 201 2 dX11_findMembers_199 rfl rfl ?_
    refine z_iadd 202 dX11_findMembers_201 rfl ?_
    refine z_iaload 203 dX11_findMembers_202 rfl (fun v9 _ => ?_)
    refine z_iaload 204 dX11_findMembers_203 rfl (fun v10 _ => ?_)
    refine z_callVi 207 (mX11_memberOf b0 x0 v10 h) zyX11_memberOf rfl w_1388 (ci := 11) rfl (Nat.le_of_ble_eq_true rfl) (fun _ e9 => kX11_memberOf e9) wm_yX11_memberOf ws_yX11_memberOf (Nat.le_of_ble_eq_true rfl) rfl (Nat.le_of_ble_eq_true rfl) dX11_findMembers_204 rfl (fun q11 => ?_)
    refine z_iastore 208 dX11_findMembers_207 rfl (fun h12 _ => ?_)
    refine z_iinc (lv2 := [(5, .int (x5 + (nI 1))), (0, .ref (b0 + x0)), (4, .int x4)]) (nI 1) 211 2 dX11_findMembers_208 rfl rfl zki_1 (Nat.le_of_ble_eq_true rfl) rfl ?_
    refine z_goto 159 dX11_findMembers_211 (by decide) ?_
    exact z_sub [1, 2, 0] rfl (hself159 (x5 + (nI 1)) h12)
theorem BX11_findMembers_159 (b0 : Nat) (self147 : Int32 × ZH → Option (Int32 × ZH)) (x0 : Nat) (x4 : Int32) (hself147 : ∀ (y4 : Int32) (hh : ZH), Zr zi b0 YX11_findMembers 5 147 [(0, .ref (b0 + x0)), (4, .int y4)] [] hh (self147 (y4, hh))) (n : Nat) (x5 : Int32) (h : ZH) : Zr zi b0 YX11_findMembers 5 159 [(0, .ref (b0 + x0)), (4, .int x4), (5, .int x5)] [] h (zloop (lX11_findMembers_159 self147 x0 x4) n (x5, h)) :=
  zloop_Zr (fun s => [(0, .ref (b0 + x0)), (4, .int x4), (5, .int s.1)]) (fun _ => []) (fun s => s.2) (lX11_findMembers_159 self147 x0 x4) (fun self hs s => KX11_findMembers_159 b0 self147 x0 x4 hself147 self (fun y5 hh => hs (y5, hh)) s.1 s.2) n (x5, h)
def kX11_findMembers_147 (x0 : Nat) (self147 : Int32 × ZH → Option (Int32 × ZH)) (x4 : Int32) (h : ZH) : Option (Int32 × ZH) :=
  (gI h 11 x0 30).bind fun v1 =>
  if v1 ≤ x4 then (some ((nI 0), h)) else
  (zloop (lX11_findMembers_159 self147 x0 x4) zfu ((nI 0), h))
def lX11_findMembers_147 (x0 : Nat) : (Int32 × ZH → Option (Int32 × ZH)) → Int32 × ZH → Option (Int32 × ZH) := fun self s => kX11_findMembers_147 x0 self s.1 s.2
theorem KX11_findMembers_147 (b0 : Nat) (x0 : Nat) (self147 : Int32 × ZH → Option (Int32 × ZH)) (hself147 : ∀ (y4 : Int32) (hh : ZH), Zr zi b0 YX11_findMembers 5 147 [(0, .ref (b0 + x0)), (4, .int y4)] [] hh (self147 (y4, hh))) (x4 : Int32) (h : ZH) : Zr zi b0 YX11_findMembers 5 147 [(0, .ref (b0 + x0)), (4, .int x4)] [] h (kX11_findMembers_147 x0 self147 x4 h) := by
  unfold kX11_findMembers_147
  refine z_iload 149 1 dX11_findMembers_147 rfl rfl ?_
  refine z_aload_n 150 0 dX11_findMembers_149 rfl rfl ?_
  refine z_getI 153 zC11 (Nat.le_of_ble_eq_true rfl) rfl w_1047 dX11_findMembers_150 rfl (fun v1 _ => ?_)
  refine z_icmp_ge 220 156 dX11_findMembers_153 (by decide) rfl (fun c2 => ?_) (fun c2 => ?_)
  · refine z_iconst (nI 0) 221 zki_0 dX11_findMembers_220 rfl ?_
    exact z_ireturn dX11_findMembers_221 rfl
  · refine z_iconst (nI 0) 157 zki_0 dX11_findMembers_156 rfl ?_
    refine z_istore (lv2 := [(5, .int (nI 0)), (0, .ref (b0 + x0)), (4, .int x4)]) 159 dX11_findMembers_157 rfl (Nat.le_of_ble_eq_true rfl) rfl ?_
    exact z_sub [1, 2, 0] rfl (BX11_findMembers_159 b0 self147 x0 x4 hself147 zfu (nI 0) h)
theorem BX11_findMembers_147 (b0 : Nat) (x0 : Nat) (n : Nat) (x4 : Int32) (h : ZH) : Zr zi b0 YX11_findMembers 5 147 [(0, .ref (b0 + x0)), (4, .int x4)] [] h (zloop (lX11_findMembers_147 x0) n (x4, h)) :=
  zloop_Zr (fun s => [(0, .ref (b0 + x0)), (4, .int s.1)]) (fun _ => []) (fun s => s.2) (lX11_findMembers_147 x0) (fun self hs s => KX11_findMembers_147 b0 x0 self (fun y4 hh => hs (y4, hh)) s.1 s.2) n (x4, h)
def kX11_findMembers_115 (x0 : Nat) (self115 : Int32 × ZH → Option (Int32 × ZH)) (x4 : Int32) (h : ZH) : Option (Int32 × ZH) :=
  (gI h 11 x0 30).bind fun v1 =>
  if v1 ≤ x4 then (zloop (lX11_findMembers_147 x0) zfu ((nI 0), h)) else
  ((gR h 11 x0 29).bind fun v3 =>
  (gR h 11 x0 27).bind fun v4 =>
  (lI h 14 v4 x4).bind fun v5 =>
  (sI h 14 v3 x4 v5).bind fun h6 =>
  self115 ((x4 + (nI 1)), h6))
def lX11_findMembers_115 (x0 : Nat) : (Int32 × ZH → Option (Int32 × ZH)) → Int32 × ZH → Option (Int32 × ZH) := fun self s => kX11_findMembers_115 x0 self s.1 s.2
theorem KX11_findMembers_115 (b0 : Nat) (x0 : Nat) (self115 : Int32 × ZH → Option (Int32 × ZH)) (hself115 : ∀ (y4 : Int32) (hh : ZH), Zr zi b0 YX11_findMembers 5 115 [(0, .ref (b0 + x0)), (4, .int y4)] [] hh (self115 (y4, hh))) (x4 : Int32) (h : ZH) : Zr zi b0 YX11_findMembers 5 115 [(0, .ref (b0 + x0)), (4, .int x4)] [] h (kX11_findMembers_115 x0 self115 x4 h) := by
  unfold kX11_findMembers_115
  refine z_iload 117 1 dX11_findMembers_115 rfl rfl ?_
  refine z_aload_n 118 0 dX11_findMembers_117 rfl rfl ?_
  refine z_getI 121 zC11 (Nat.le_of_ble_eq_true rfl) rfl w_1047 dX11_findMembers_118 rfl (fun v1 _ => ?_)
  refine z_icmp_ge 144 124 dX11_findMembers_121 (by decide) rfl (fun c2 => ?_) (fun c2 => ?_)
  · refine z_iconst (nI 0) 145 zki_0 dX11_findMembers_144 rfl ?_
    refine z_istore (lv2 := [(4, .int (nI 0)), (0, .ref (b0 + x0))]) 147 dX11_findMembers_145 rfl (Nat.le_of_ble_eq_true rfl) rfl ?_
    exact z_sub [1, 0] rfl (BX11_findMembers_147 b0 x0 zfu (nI 0) h)
  · refine z_aload_n 125 0 dX11_findMembers_124 rfl rfl ?_
    refine z_getR 128 zC11 (Nat.le_of_ble_eq_true rfl) rfl w_1046 dX11_findMembers_125 rfl (fun v3 _ => ?_)
    refine z_iload 130 1 dX11_findMembers_128 rfl rfl ?_
    refine z_aload_n 131 0 dX11_findMembers_130 rfl rfl ?_
    refine z_getR 134 zC11 (Nat.le_of_ble_eq_true rfl) rfl w_1044 dX11_findMembers_131 rfl (fun v4 _ => ?_)
    refine z_iload 136 1 dX11_findMembers_134 rfl rfl ?_
    refine z_iaload 137 dX11_findMembers_136 rfl (fun v5 _ => ?_)
    refine z_iastore 138 dX11_findMembers_137 rfl (fun h6 _ => ?_)
    refine z_iinc (lv2 := [(4, .int (x4 + (nI 1))), (0, .ref (b0 + x0))]) (nI 1) 141 1 dX11_findMembers_138 rfl rfl zki_1 (Nat.le_of_ble_eq_true rfl) rfl ?_
    refine z_goto 115 dX11_findMembers_141 (by decide) ?_
    exact z_sub [1, 0] rfl (hself115 (x4 + (nI 1)) h6)
theorem BX11_findMembers_115 (b0 : Nat) (x0 : Nat) (n : Nat) (x4 : Int32) (h : ZH) : Zr zi b0 YX11_findMembers 5 115 [(0, .ref (b0 + x0)), (4, .int x4)] [] h (zloop (lX11_findMembers_115 x0) n (x4, h)) :=
  zloop_Zr (fun s => [(0, .ref (b0 + x0)), (4, .int s.1)]) (fun _ => []) (fun s => s.2) (lX11_findMembers_115 x0) (fun self hs s => KX11_findMembers_115 b0 x0 self (fun y4 hh => hs (y4, hh)) s.1 s.2) n (x4, h)
def bX11_findMembers_84 (self31 : Int32 × Int32 × Int32 × ZH → Option (Int32 × ZH)) (x0 : Nat) (x2 : Int32) (x3 : Int32) (x4 : Int32) (h : ZH) : Option (Int32 × ZH) :=
  self31 (x2, x3, (x4 + (nI 1)), h)
theorem BX11_findMembers_84 (b0 : Nat) (self31 : Int32 × Int32 × Int32 × ZH → Option (Int32 × ZH)) (x0 : Nat) (x2 : Int32) (x3 : Int32) (x4 : Int32) (h : ZH) (hself31 : ∀ (y2 : Int32) (y3 : Int32) (y4 : Int32) (hh : ZH), Zr zi b0 YX11_findMembers 5 31 [(0, .ref (b0 + x0)), (2, .int y2), (3, .int y3), (4, .int y4)] [] hh (self31 (y2, y3, y4, hh))) : Zr zi b0 YX11_findMembers 5 84 [(0, .ref (b0 + x0)), (2, .int x2), (3, .int x3), (4, .int x4)] [] h (bX11_findMembers_84 self31 x0 x2 x3 x4 h) := by
  unfold bX11_findMembers_84
  refine z_iinc (lv2 := [(4, .int (x4 + (nI 1))), (0, .ref (b0 + x0)), (2, .int x2), (3, .int x3)]) (nI 1) 87 3 dX11_findMembers_84 rfl rfl zki_1 (Nat.le_of_ble_eq_true rfl) rfl ?_
  refine z_goto 31 dX11_findMembers_87 (by decide) ?_
  exact z_sub [1, 2, 3, 0] rfl (hself31 x2 x3 (x4 + (nI 1)) h)
def bX11_findMembers_76 (self31 : Int32 × Int32 × Int32 × ZH → Option (Int32 × ZH)) (x0 : Nat) (x4 : Int32) (h : ZH) : Option (Int32 × ZH) :=
  (gI h 11 x0 28).bind fun v1 =>
  bX11_findMembers_84 self31 x0 x4 v1 x4 h
theorem BX11_findMembers_76 (b0 : Nat) (self31 : Int32 × Int32 × Int32 × ZH → Option (Int32 × ZH)) (x0 : Nat) (x4 : Int32) (h : ZH) (hself31 : ∀ (y2 : Int32) (y3 : Int32) (y4 : Int32) (hh : ZH), Zr zi b0 YX11_findMembers 5 31 [(0, .ref (b0 + x0)), (2, .int y2), (3, .int y3), (4, .int y4)] [] hh (self31 (y2, y3, y4, hh))) : Zr zi b0 YX11_findMembers 5 76 [(0, .ref (b0 + x0)), (4, .int x4)] [] h (bX11_findMembers_76 self31 x0 x4 h) := by
  unfold bX11_findMembers_76
  refine z_iload 78 1 dX11_findMembers_76 rfl rfl ?_
  refine z_istore_n (lv2 := [(2, .int x4), (0, .ref (b0 + x0)), (4, .int x4)]) 79 dX11_findMembers_78 rfl (Nat.le_of_ble_eq_true rfl) rfl ?_
  refine z_aload_n 80 1 dX11_findMembers_79 rfl rfl ?_
  refine z_getI 83 zC11 (Nat.le_of_ble_eq_true rfl) rfl w_1045 dX11_findMembers_80 rfl (fun v1 _ => ?_)
  refine z_istore_n (lv2 := [(3, .int v1), (2, .int x4), (0, .ref (b0 + x0)), (4, .int x4)]) 84 dX11_findMembers_83 rfl (Nat.le_of_ble_eq_true rfl) rfl ?_
  exact z_sub [2, 1, 0, 3] rfl (BX11_findMembers_84 b0 self31 x0 x4 v1 x4 h hself31)
def kX11_findMembers_31 (x0 : Nat) (self31 : Int32 × Int32 × Int32 × ZH → Option (Int32 × ZH)) (x2 : Int32) (x3 : Int32) (x4 : Int32) (h : ZH) : Option (Int32 × ZH) :=
  (gI h 11 x0 23).bind fun v1 =>
  if v1 ≤ x4 then (if x3 ≤ (nI 8) then ((fX11_seeFrom x0 x2 h).bind fun h4 =>
  (gI h4 11 x0 28).bind fun v5 =>
  (pI h4 11 x0 30 v5).bind fun h6 =>
  zloop (lX11_findMembers_115 x0) zfu ((nI 0), h6)) else
  (some ((-5 : Int32), h))) else
  ((gR h 11 x0 24).bind fun v7 =>
  (gR h 11 x0 22).bind fun v8 =>
  (lI h 14 v8 x4).bind fun v9 =>
  (lI h 14 v7 v9).bind fun v10 =>
  if v10 = x4 then ((fX11_seeFrom x0 x4 h).bind fun h12 =>
  if x2 = (-1 : Int32) then (bX11_findMembers_76 self31 x0 x4 h12) else
  ((gI h12 11 x0 28).bind fun v14 =>
  if x3 ≤ v14 then (bX11_findMembers_84 self31 x0 x2 x3 x4 h12) else
  (bX11_findMembers_76 self31 x0 x4 h12))) else
  (bX11_findMembers_84 self31 x0 x2 x3 x4 h))
def lX11_findMembers_31 (x0 : Nat) : (Int32 × Int32 × Int32 × ZH → Option (Int32 × ZH)) → Int32 × Int32 × Int32 × ZH → Option (Int32 × ZH) := fun self s => kX11_findMembers_31 x0 self s.1 s.2.1 s.2.2.1 s.2.2.2
theorem KX11_findMembers_31 (b0 : Nat) (x0 : Nat) (self31 : Int32 × Int32 × Int32 × ZH → Option (Int32 × ZH)) (hself31 : ∀ (y2 : Int32) (y3 : Int32) (y4 : Int32) (hh : ZH), Zr zi b0 YX11_findMembers 5 31 [(0, .ref (b0 + x0)), (2, .int y2), (3, .int y3), (4, .int y4)] [] hh (self31 (y2, y3, y4, hh))) (x2 : Int32) (x3 : Int32) (x4 : Int32) (h : ZH) : Zr zi b0 YX11_findMembers 5 31 [(0, .ref (b0 + x0)), (2, .int x2), (3, .int x3), (4, .int x4)] [] h (kX11_findMembers_31 x0 self31 x2 x3 x4 h) := by
  unfold kX11_findMembers_31
  refine z_iload 33 3 dX11_findMembers_31 rfl rfl ?_
  refine z_aload_n 34 0 dX11_findMembers_33 rfl rfl ?_
  refine z_getI 37 zC11 (Nat.le_of_ble_eq_true rfl) rfl w_1040 dX11_findMembers_34 rfl (fun v1 _ => ?_)
  refine z_icmp_ge 90 40 dX11_findMembers_37 (by decide) rfl (fun c2 => ?_) (fun c2 => ?_)
  · refine z_iload_n 91 2 dX11_findMembers_90 rfl rfl ?_
    refine z_bipush (nI 8) 93 zkb_8 dX11_findMembers_91 rfl ?_
    refine z_icmp_le 99 96 dX11_findMembers_93 (by decide) rfl (fun c3 => ?_) (fun c3 => ?_)
    · refine z_aload_n 100 0 dX11_findMembers_99 rfl rfl ?_
      refine z_iload_n 101 1 dX11_findMembers_100 rfl rfl ?_
      refine z_callVv 104 (mX11_seeFrom b0 x0 x2 h) zyX11_seeFrom rfl w_1384 (ci := 11) rfl (Nat.le_of_ble_eq_true rfl) (fun _ e9 => kX11_seeFrom e9) wm_yX11_seeFrom ws_yX11_seeFrom (Nat.le_of_ble_eq_true rfl) rfl (Nat.le_of_ble_eq_true rfl) dX11_findMembers_101 rfl (fun h4 => ?_)
      refine z_aload_n 105 0 dX11_findMembers_104 rfl rfl ?_
      refine z_aload_n 106 0 dX11_findMembers_105 rfl rfl ?_
      refine z_getI 109 zC11 (Nat.le_of_ble_eq_true rfl) rfl w_1045 dX11_findMembers_106 rfl (fun v5 _ => ?_)
      refine z_putI 112 zC11 (Nat.le_of_ble_eq_true rfl) rfl rfl rfl w_1047 dX11_findMembers_109 rfl (fun h6 _ => ?_)
      refine z_iconst (nI 0) 113 zki_0 dX11_findMembers_112 rfl ?_
      refine z_istore (lv2 := [(4, .int (nI 0)), (0, .ref (b0 + x0)), (2, .int x2), (3, .int x3)]) 115 dX11_findMembers_113 rfl (Nat.le_of_ble_eq_true rfl) rfl ?_
      exact z_sub [1, 0] rfl (BX11_findMembers_115 b0 x0 zfu (nI 0) h6)
    · refine z_bipush (-5 : Int32) 98 zkb_m5 dX11_findMembers_96 rfl ?_
      exact z_ireturn dX11_findMembers_98 rfl
  · refine z_aload_n 41 0 dX11_findMembers_40 rfl rfl ?_
    refine z_getR 44 zC11 (Nat.le_of_ble_eq_true rfl) rfl w_1041 dX11_findMembers_41 rfl (fun v7 _ => ?_)
    refine z_aload_n 45 0 dX11_findMembers_44 rfl rfl ?_
    refine z_getR 48 zC11 (Nat.le_of_ble_eq_true rfl) rfl w_1039 dX11_findMembers_45 rfl (fun v8 _ => ?_)
    refine z_iload 50 3 dX11_findMembers_48 rfl rfl ?_
    refine z_iaload 51 dX11_findMembers_50 rfl (fun v9 _ => ?_)
    refine z_iaload 52 dX11_findMembers_51 rfl (fun v10 _ => ?_)
    refine z_iload 54 3 dX11_findMembers_52 rfl rfl ?_
    refine z_icmp_ne 84 57 dX11_findMembers_54 (by decide) rfl (fun c11 => ?_) (fun c11 => ?_)
    · exact z_sub [0, 1, 2, 3] rfl (BX11_findMembers_84 b0 self31 x0 x2 x3 x4 h hself31)
    · refine z_aload_n 58 0 dX11_findMembers_57 rfl rfl ?_
      refine z_iload 60 3 dX11_findMembers_58 rfl rfl ?_
      refine z_callVv 63 (mX11_seeFrom b0 x0 x4 h) zyX11_seeFrom rfl w_1384 (ci := 11) rfl (Nat.le_of_ble_eq_true rfl) (fun _ e9 => kX11_seeFrom e9) wm_yX11_seeFrom ws_yX11_seeFrom (Nat.le_of_ble_eq_true rfl) rfl (Nat.le_of_ble_eq_true rfl) dX11_findMembers_60 rfl (fun h12 => ?_)
      refine z_iload_n 64 1 dX11_findMembers_63 rfl rfl ?_
      refine z_iconst (-1 : Int32) 65 zki_m1 dX11_findMembers_64 rfl ?_
      refine z_icmp_eq 76 68 dX11_findMembers_65 (by decide) rfl (fun c13 => ?_) (fun c13 => ?_)
      · exact z_sub [0, 3] rfl (BX11_findMembers_76 b0 self31 x0 x4 h12 hself31)
      · refine z_aload_n 69 0 dX11_findMembers_68 rfl rfl ?_
        refine z_getI 72 zC11 (Nat.le_of_ble_eq_true rfl) rfl w_1045 dX11_findMembers_69 rfl (fun v14 _ => ?_)
        refine z_iload_n 73 2 dX11_findMembers_72 rfl rfl ?_
        refine z_icmp_ge 84 76 dX11_findMembers_73 (by decide) rfl (fun c15 => ?_) (fun c15 => ?_)
        · exact z_sub [0, 1, 2, 3] rfl (BX11_findMembers_84 b0 self31 x0 x2 x3 x4 h12 hself31)
        · exact z_sub [0, 3] rfl (BX11_findMembers_76 b0 self31 x0 x4 h12 hself31)
theorem BX11_findMembers_31 (b0 : Nat) (x0 : Nat) (n : Nat) (x2 : Int32) (x3 : Int32) (x4 : Int32) (h : ZH) : Zr zi b0 YX11_findMembers 5 31 [(0, .ref (b0 + x0)), (2, .int x2), (3, .int x3), (4, .int x4)] [] h (zloop (lX11_findMembers_31 x0) n (x2, x3, x4, h)) :=
  zloop_Zr (fun s => [(0, .ref (b0 + x0)), (2, .int s.1), (3, .int s.2.1), (4, .int s.2.2.1)]) (fun _ => []) (fun s => s.2.2.2) (lX11_findMembers_31 x0) (fun self hs s => KX11_findMembers_31 b0 x0 self (fun y2 y3 y4 hh => hs (y2, y3, y4, hh)) s.1 s.2.1 s.2.2.1 s.2.2.2) n (x2, x3, x4, h)
def fX11_findMembers (x0 : Nat) (x1 : Int32) (h : ZH) : Option (Int32 × ZH) :=
  if x0 < zn h ∧ zK h x0 = 11 then ((fX11_isWhole x0 x1 h).bind fun q1 =>
  if q1.1 = 0 then (some ((-4 : Int32), q1.2)) else
  ((fX11_prepare x0 x1 q1.2).bind fun h3 =>
  (fX11_findSets x0 h3).bind fun h4 =>
  (fX11_classify x0 h4).bind fun h5 =>
  zloop (lX11_findMembers_31 x0) zfu ((-1 : Int32), (nI 0), (nI 0), h5))) else none
theorem kX11_findMembers {x0 : Nat} {x1 : Int32} {h : ZH} {x : Int32 × ZH} (e : fX11_findMembers x0 x1 h = some x) : x0 < zn h ∧ zK h x0 = 11 := by
  unfold fX11_findMembers at e
  exact zguard e
theorem mX11_findMembers (b0 : Nat) (x0 : Nat) (x1 : Int32) (h : ZH) : ZM zi b0 YX11_findMembers 5 [.ref (b0 + x0), .int x1] h (fX11_findMembers x0 x1 h) := by
  unfold fX11_findMembers
  refine ZM.of (by decide) rfl (Nat.le_of_ble_eq_true rfl) (fun _ => trivial) ?_
  refine z_sub (lv2 := [(0, .ref (b0 + x0)), (1, .int x1)]) [0, 1] rfl ?_
  refine z_guard (fun _ => ?_)
  refine z_aload_n 1 0 dX11_findMembers_0 rfl rfl ?_
  refine z_iload_n 2 1 dX11_findMembers_1 rfl rfl ?_
  refine z_callVi 5 (mX11_isWhole b0 x0 x1 h) zyX11_isWhole rfl w_1243 (ci := 11) rfl (Nat.le_of_ble_eq_true rfl) (fun _ e9 => kX11_isWhole e9) wm_yX11_isWhole ws_yX11_isWhole (Nat.le_of_ble_eq_true rfl) rfl (Nat.le_of_ble_eq_true rfl) dX11_findMembers_2 rfl (fun q1 => ?_)
  refine z_if_ne 11 8 dX11_findMembers_5 (by decide) rfl (fun c2 => ?_) (fun c2 => ?_)
  · refine z_aload_n 12 0 dX11_findMembers_11 rfl rfl ?_
    refine z_iload_n 13 1 dX11_findMembers_12 rfl rfl ?_
    refine z_callVv 16 (mX11_prepare b0 x0 x1 q1.2) zyX11_prepare rfl w_1263 (ci := 11) rfl (Nat.le_of_ble_eq_true rfl) (fun _ e9 => kX11_prepare e9) wm_yX11_prepare ws_yX11_prepare (Nat.le_of_ble_eq_true rfl) rfl (Nat.le_of_ble_eq_true rfl) dX11_findMembers_13 rfl (fun h3 => ?_)
    refine z_aload_n 17 0 dX11_findMembers_16 rfl rfl ?_
    refine z_callVv 20 (mX11_findSets b0 x0 h3) zyX11_findSets rfl w_1364 (ci := 11) rfl (Nat.le_of_ble_eq_true rfl) (fun _ e9 => kX11_findSets e9) wm_yX11_findSets ws_yX11_findSets (Nat.le_of_ble_eq_true rfl) rfl (Nat.le_of_ble_eq_true rfl) dX11_findMembers_17 rfl (fun h4 => ?_)
    refine z_aload_n 21 0 dX11_findMembers_20 rfl rfl ?_
    refine z_callVv 24 (mX11_classify b0 x0 h4) zyX11_classify rfl w_1376 (ci := 11) rfl (Nat.le_of_ble_eq_true rfl) (fun _ e9 => kX11_classify e9) wm_yX11_classify ws_yX11_classify (Nat.le_of_ble_eq_true rfl) rfl (Nat.le_of_ble_eq_true rfl) dX11_findMembers_21 rfl (fun h5 => ?_)
    refine z_iconst (-1 : Int32) 25 zki_m1 dX11_findMembers_24 rfl ?_
    refine z_istore_n (lv2 := [(2, .int (-1 : Int32)), (0, .ref (b0 + x0)), (1, .int x1)]) 26 dX11_findMembers_25 rfl (Nat.le_of_ble_eq_true rfl) rfl ?_
    refine z_iconst (nI 0) 27 zki_0 dX11_findMembers_26 rfl ?_
    refine z_istore_n (lv2 := [(3, .int (nI 0)), (2, .int (-1 : Int32)), (0, .ref (b0 + x0)), (1, .int x1)]) 28 dX11_findMembers_27 rfl (Nat.le_of_ble_eq_true rfl) rfl ?_
    refine z_iconst (nI 0) 29 zki_0 dX11_findMembers_28 rfl ?_
    refine z_istore (lv2 := [(4, .int (nI 0)), (3, .int (nI 0)), (2, .int (-1 : Int32)), (0, .ref (b0 + x0)), (1, .int x1)]) 31 dX11_findMembers_29 rfl (Nat.le_of_ble_eq_true rfl) rfl ?_
    exact z_sub [3, 2, 1, 0] rfl (BX11_findMembers_31 b0 x0 zfu (-1 : Int32) (nI 0) (nI 0) h5)
  · refine z_bipush (-4 : Int32) 10 zkb_m4 dX11_findMembers_8 rfl ?_
    exact z_ireturn dX11_findMembers_10 rfl
-- X11_led
def bX11_led_57 (self5 : Int32 × Int32 × ZH → Option (Int32 × ZH)) (x0 : Nat) (x1 : Int32) (x2 : Int32) (x4 : Int32) (t0 : Int32) (t1 : Int32) (h : ZH) : Option (Int32 × ZH) :=
  zl (t1 ||| t0) fun v1 =>
  self5 (v1, (x4 + (nI 1)), h)
theorem BX11_led_57 (b0 : Nat) (self5 : Int32 × Int32 × ZH → Option (Int32 × ZH)) (x0 : Nat) (x1 : Int32) (x2 : Int32) (x4 : Int32) (t0 : Int32) (t1 : Int32) (h : ZH) (hself5 : ∀ (y3 : Int32) (y4 : Int32) (hh : ZH), Zr zi b0 YX11_led 1 5 [(0, .ref (b0 + x0)), (1, .int x1), (2, .int x2), (3, .int y3), (4, .int y4)] [] hh (self5 (y3, y4, hh))) : Zr zi b0 YX11_led 1 57 [(0, .ref (b0 + x0)), (1, .int x1), (2, .int x2), (4, .int x4)] [.int t0, .int t1] h (bX11_led_57 self5 x0 x1 x2 x4 t0 t1 h) := by
  unfold bX11_led_57
  refine z_ior 58 dX11_led_57 rfl ?_
  refine z_letI (fun v1 _ => ?_)
  refine z_istore_n (lv2 := [(3, .int v1), (0, .ref (b0 + x0)), (1, .int x1), (2, .int x2), (4, .int x4)]) 59 dX11_led_58 rfl (Nat.le_of_ble_eq_true rfl) rfl ?_
  refine z_iinc (lv2 := [(4, .int (x4 + (nI 1))), (3, .int v1), (0, .ref (b0 + x0)), (1, .int x1), (2, .int x2)]) (nI 1) 62 4 dX11_led_59 rfl rfl zki_1 (Nat.le_of_ble_eq_true rfl) rfl ?_
  refine z_goto 5 dX11_led_62 (by decide) ?_
  exact z_sub [2, 3, 4, 1, 0] rfl (hself5 v1 (x4 + (nI 1)) h)
def bX11_led_56 (self5 : Int32 × Int32 × ZH → Option (Int32 × ZH)) (x0 : Nat) (x1 : Int32) (x2 : Int32) (x4 : Int32) (t0 : Int32) (h : ZH) : Option (Int32 × ZH) :=
  bX11_led_57 self5 x0 x1 x2 x4 (nI 0) t0 h
theorem BX11_led_56 (b0 : Nat) (self5 : Int32 × Int32 × ZH → Option (Int32 × ZH)) (x0 : Nat) (x1 : Int32) (x2 : Int32) (x4 : Int32) (t0 : Int32) (h : ZH) (hself5 : ∀ (y3 : Int32) (y4 : Int32) (hh : ZH), Zr zi b0 YX11_led 1 5 [(0, .ref (b0 + x0)), (1, .int x1), (2, .int x2), (3, .int y3), (4, .int y4)] [] hh (self5 (y3, y4, hh))) : Zr zi b0 YX11_led 1 56 [(0, .ref (b0 + x0)), (1, .int x1), (2, .int x2), (4, .int x4)] [.int t0] h (bX11_led_56 self5 x0 x1 x2 x4 t0 h) := by
  unfold bX11_led_56
  refine z_iconst (nI 0) 57 zki_0 dX11_led_56 rfl ?_
  exact z_sub [0, 1, 2, 3] rfl (BX11_led_57 b0 self5 x0 x1 x2 x4 (nI 0) t0 h hself5)
def kX11_led_5 (x0 : Nat) (x1 : Int32) (x2 : Int32) (self5 : Int32 × Int32 × ZH → Option (Int32 × ZH)) (x3 : Int32) (x4 : Int32) (h : ZH) : Option (Int32 × ZH) :=
  (gI h 11 x0 30).bind fun v1 =>
  if v1 ≤ x4 then (some (x3, h)) else
  (if ((jshr x1 x4) &&& (nI 1)) = (nI 1) then ((gR h 11 x0 31).bind fun v4 =>
  (lI h 14 v4 (((nI 4) * x4) + x2)).bind fun v5 =>
  if v5 = (-1 : Int32) then (bX11_led_56 self5 x0 x1 x2 x4 x3 h) else
  ((gR h 11 x0 31).bind fun v7 =>
  (lI h 14 v7 (((nI 4) * x4) + x2)).bind fun v8 =>
  bX11_led_57 self5 x0 x1 x2 x4 (jshl (nI 1) v8) x3 h)) else
  (bX11_led_56 self5 x0 x1 x2 x4 x3 h))
def lX11_led_5 (x0 : Nat) (x1 : Int32) (x2 : Int32) : (Int32 × Int32 × ZH → Option (Int32 × ZH)) → Int32 × Int32 × ZH → Option (Int32 × ZH) := fun self s => kX11_led_5 x0 x1 x2 self s.1 s.2.1 s.2.2
theorem KX11_led_5 (b0 : Nat) (x0 : Nat) (x1 : Int32) (x2 : Int32) (self5 : Int32 × Int32 × ZH → Option (Int32 × ZH)) (hself5 : ∀ (y3 : Int32) (y4 : Int32) (hh : ZH), Zr zi b0 YX11_led 1 5 [(0, .ref (b0 + x0)), (1, .int x1), (2, .int x2), (3, .int y3), (4, .int y4)] [] hh (self5 (y3, y4, hh))) (x3 : Int32) (x4 : Int32) (h : ZH) : Zr zi b0 YX11_led 1 5 [(0, .ref (b0 + x0)), (1, .int x1), (2, .int x2), (3, .int x3), (4, .int x4)] [] h (kX11_led_5 x0 x1 x2 self5 x3 x4 h) := by
  unfold kX11_led_5
  refine z_iload 7 4 dX11_led_5 rfl rfl ?_
  refine z_aload_n 8 0 dX11_led_7 rfl rfl ?_
  refine z_getI 11 zC11 (Nat.le_of_ble_eq_true rfl) rfl w_1047 dX11_led_8 rfl (fun v1 _ => ?_)
  refine z_icmp_ge 65 14 dX11_led_11 (by decide) rfl (fun c2 => ?_) (fun c2 => ?_)
  · refine z_iload_n 66 3 dX11_led_65 rfl rfl ?_
    exact z_ireturn dX11_led_66 rfl
  · refine z_iload_n 15 3 dX11_led_14 rfl rfl ?_
    refine z_iload_n 16 1 dX11_led_15 rfl rfl ?_
    refine z_iload 18 4 dX11_led_16 rfl rfl ?_
    refine z_ishr 19 dX11_led_18 rfl ?_
    refine z_iconst (nI 1) 20 zki_1 dX11_led_19 rfl ?_
    refine z_iand 21 dX11_led_20 rfl ?_
    refine z_iconst (nI 1) 22 zki_1 dX11_led_21 rfl ?_
    refine z_icmp_ne 56 25 dX11_led_22 (by decide) rfl (fun c3 => ?_) (fun c3 => ?_)
    · exact z_sub [0, 1, 2, 4] rfl (BX11_led_56 b0 self5 x0 x1 x2 x4 x3 h hself5)
    · refine z_aload_n 26 0 dX11_led_25 rfl rfl ?_
      refine z_getR 29 zC11 (Nat.le_of_ble_eq_true rfl) rfl w_1048 dX11_led_26 rfl (fun v4 _ => ?_)
      refine z_iconst (nI 4) 30 zki_4 dX11_led_29 rfl ?_
      refine z_iload 32 4 dX11_led_30 rfl rfl ?_
      refine z_imul 33 dX11_led_32 rfl ?_
      refine z_iload_n 34 2 dX11_led_33 rfl rfl ?_
      refine z_iadd 35 dX11_led_34 rfl ?_
      refine z_iaload 36 dX11_led_35 rfl (fun v5 _ => ?_)
      refine z_iconst (-1 : Int32) 37 zki_m1 dX11_led_36 rfl ?_
      refine z_icmp_eq 56 40 dX11_led_37 (by decide) rfl (fun c6 => ?_) (fun c6 => ?_)
      · exact z_sub [0, 1, 2, 4] rfl (BX11_led_56 b0 self5 x0 x1 x2 x4 x3 h hself5)
      · refine z_iconst (nI 1) 41 zki_1 dX11_led_40 rfl ?_
        refine z_aload_n 42 0 dX11_led_41 rfl rfl ?_
        refine z_getR 45 zC11 (Nat.le_of_ble_eq_true rfl) rfl w_1048 dX11_led_42 rfl (fun v7 _ => ?_)
        refine z_iconst (nI 4) 46 zki_4 dX11_led_45 rfl ?_
        refine z_iload 48 4 dX11_led_46 rfl rfl ?_
        refine z_imul 49 dX11_led_48 rfl ?_
        refine z_iload_n 50 2 dX11_led_49 rfl rfl ?_
        refine z_iadd 51 dX11_led_50 rfl ?_
        refine z_iaload 52 dX11_led_51 rfl (fun v8 _ => ?_)
        refine z_ishl 53 dX11_led_52 rfl ?_
        refine z_goto 57 dX11_led_53 (by decide) ?_
        exact z_sub [0, 1, 2, 4] rfl (BX11_led_57 b0 self5 x0 x1 x2 x4 (jshl (nI 1) v8) x3 h hself5)
theorem BX11_led_5 (b0 : Nat) (x0 : Nat) (x1 : Int32) (x2 : Int32) (n : Nat) (x3 : Int32) (x4 : Int32) (h : ZH) : Zr zi b0 YX11_led 1 5 [(0, .ref (b0 + x0)), (1, .int x1), (2, .int x2), (3, .int x3), (4, .int x4)] [] h (zloop (lX11_led_5 x0 x1 x2) n (x3, x4, h)) :=
  zloop_Zr (fun s => [(0, .ref (b0 + x0)), (1, .int x1), (2, .int x2), (3, .int s.1), (4, .int s.2.1)]) (fun _ => []) (fun s => s.2.2) (lX11_led_5 x0 x1 x2) (fun self hs s => KX11_led_5 b0 x0 x1 x2 self (fun y3 y4 hh => hs (y3, y4, hh)) s.1 s.2.1 s.2.2) n (x3, x4, h)
def fX11_led (x0 : Nat) (x1 : Int32) (x2 : Int32) (h : ZH) : Option (Int32 × ZH) :=
  if x0 < zn h ∧ zK h x0 = 11 then (zloop (lX11_led_5 x0 x1 x2) zfu ((nI 0), (nI 0), h)) else none
theorem kX11_led {x0 : Nat} {x1 : Int32} {x2 : Int32} {h : ZH} {x : Int32 × ZH} (e : fX11_led x0 x1 x2 h = some x) : x0 < zn h ∧ zK h x0 = 11 := by
  unfold fX11_led at e
  exact zguard e
theorem mX11_led (b0 : Nat) (x0 : Nat) (x1 : Int32) (x2 : Int32) (h : ZH) : ZM zi b0 YX11_led 1 [.ref (b0 + x0), .int x1, .int x2] h (fX11_led x0 x1 x2 h) := by
  unfold fX11_led
  refine ZM.of (by decide) rfl (Nat.le_of_ble_eq_true rfl) (fun _ => trivial) ?_
  refine z_sub (lv2 := [(0, .ref (b0 + x0)), (1, .int x1), (2, .int x2)]) [0, 1, 2] rfl ?_
  refine z_guard (fun _ => ?_)
  refine z_iconst (nI 0) 1 zki_0 dX11_led_0 rfl ?_
  refine z_istore_n (lv2 := [(3, .int (nI 0)), (0, .ref (b0 + x0)), (1, .int x1), (2, .int x2)]) 2 dX11_led_1 rfl (Nat.le_of_ble_eq_true rfl) rfl ?_
  refine z_iconst (nI 0) 3 zki_0 dX11_led_2 rfl ?_
  refine z_istore (lv2 := [(4, .int (nI 0)), (3, .int (nI 0)), (0, .ref (b0 + x0)), (1, .int x1), (2, .int x2)]) 5 dX11_led_3 rfl (Nat.le_of_ble_eq_true rfl) rfl ?_
  exact z_sub [2, 3, 4, 1, 0] rfl (BX11_led_5 b0 x0 x1 x2 zfu (nI 0) (nI 0) h)
-- J6_numberOfTrailingZeros_0f7a4
def bJ6_numberOfTrailingZeros_0f7a4_74 (x0 : Int32) (x1 : Int32) (h : ZH) : Option (Int32 × ZH) :=
  some ((x1 + (jushr x0 (nI 1))), h)
theorem BJ6_numberOfTrailingZeros_0f7a4_74 (b0 : Nat) (x0 : Int32) (x1 : Int32) (h : ZH) : Zr zi b0 YJ6_numberOfTrailingZeros_0f7a4 1 74 [(0, .int x0), (1, .int x1)] [] h (bJ6_numberOfTrailingZeros_0f7a4_74 x0 x1 h) := by
  unfold bJ6_numberOfTrailingZeros_0f7a4_74
  refine z_iload_n 75 1 dJ6_numberOfTrailingZeros_0f7a4_74 rfl rfl ?_
  refine z_iload_n 76 0 dJ6_numberOfTrailingZeros_0f7a4_75 rfl rfl ?_
  refine z_iconst (nI 1) 77 zki_1 dJ6_numberOfTrailingZeros_0f7a4_76 rfl ?_
  refine z_iushr 78 dJ6_numberOfTrailingZeros_0f7a4_77 rfl ?_
  refine z_iadd 79 dJ6_numberOfTrailingZeros_0f7a4_78 rfl ?_
  exact z_ireturn dJ6_numberOfTrailingZeros_0f7a4_79 rfl
def bJ6_numberOfTrailingZeros_0f7a4_62 (x0 : Int32) (x1 : Int32) (h : ZH) : Option (Int32 × ZH) :=
  if x0 ≤ (nI 4) then (bJ6_numberOfTrailingZeros_0f7a4_74 x0 x1 h) else
  (zl (jushr x0 (nI 2)) fun v2 =>
  bJ6_numberOfTrailingZeros_0f7a4_74 v2 (x1 + (nI 2)) h)
theorem BJ6_numberOfTrailingZeros_0f7a4_62 (b0 : Nat) (x0 : Int32) (x1 : Int32) (h : ZH) : Zr zi b0 YJ6_numberOfTrailingZeros_0f7a4 1 62 [(0, .int x0), (1, .int x1)] [] h (bJ6_numberOfTrailingZeros_0f7a4_62 x0 x1 h) := by
  unfold bJ6_numberOfTrailingZeros_0f7a4_62
  refine z_iload_n 63 0 dJ6_numberOfTrailingZeros_0f7a4_62 rfl rfl ?_
  refine z_iconst (nI 4) 64 zki_4 dJ6_numberOfTrailingZeros_0f7a4_63 rfl ?_
  refine z_icmp_le 74 67 dJ6_numberOfTrailingZeros_0f7a4_64 (by decide) rfl (fun c1 => ?_) (fun c1 => ?_)
  · exact z_sub [0, 1] rfl (BJ6_numberOfTrailingZeros_0f7a4_74 b0 x0 x1 h )
  · refine z_iinc (lv2 := [(1, .int (x1 + (nI 2))), (0, .int x0)]) (nI 2) 70 1 dJ6_numberOfTrailingZeros_0f7a4_67 rfl rfl zki_2 (Nat.le_of_ble_eq_true rfl) rfl ?_
    refine z_iload_n 71 1 dJ6_numberOfTrailingZeros_0f7a4_70 rfl rfl ?_
    refine z_iconst (nI 2) 72 zki_2 dJ6_numberOfTrailingZeros_0f7a4_71 rfl ?_
    refine z_iushr 73 dJ6_numberOfTrailingZeros_0f7a4_72 rfl ?_
    refine z_letI (fun v2 _ => ?_)
    refine z_istore_n (lv2 := [(0, .int v2), (1, .int (x1 + (nI 2)))]) 74 dJ6_numberOfTrailingZeros_0f7a4_73 rfl (Nat.le_of_ble_eq_true rfl) rfl ?_
    exact z_sub [0, 1] rfl (BJ6_numberOfTrailingZeros_0f7a4_74 b0 v2 (x1 + (nI 2)) h )
def bJ6_numberOfTrailingZeros_0f7a4_49 (x0 : Int32) (x1 : Int32) (h : ZH) : Option (Int32 × ZH) :=
  if x0 ≤ (nI 16) then (bJ6_numberOfTrailingZeros_0f7a4_62 x0 x1 h) else
  (zl (jushr x0 (nI 4)) fun v2 =>
  bJ6_numberOfTrailingZeros_0f7a4_62 v2 (x1 + (nI 4)) h)
theorem BJ6_numberOfTrailingZeros_0f7a4_49 (b0 : Nat) (x0 : Int32) (x1 : Int32) (h : ZH) : Zr zi b0 YJ6_numberOfTrailingZeros_0f7a4 1 49 [(0, .int x0), (1, .int x1)] [] h (bJ6_numberOfTrailingZeros_0f7a4_49 x0 x1 h) := by
  unfold bJ6_numberOfTrailingZeros_0f7a4_49
  refine z_iload_n 50 0 dJ6_numberOfTrailingZeros_0f7a4_49 rfl rfl ?_
  refine z_bipush (nI 16) 52 zkb_16 dJ6_numberOfTrailingZeros_0f7a4_50 rfl ?_
  refine z_icmp_le 62 55 dJ6_numberOfTrailingZeros_0f7a4_52 (by decide) rfl (fun c1 => ?_) (fun c1 => ?_)
  · exact z_sub [0, 1] rfl (BJ6_numberOfTrailingZeros_0f7a4_62 b0 x0 x1 h )
  · refine z_iinc (lv2 := [(1, .int (x1 + (nI 4))), (0, .int x0)]) (nI 4) 58 1 dJ6_numberOfTrailingZeros_0f7a4_55 rfl rfl zki_4 (Nat.le_of_ble_eq_true rfl) rfl ?_
    refine z_iload_n 59 1 dJ6_numberOfTrailingZeros_0f7a4_58 rfl rfl ?_
    refine z_iconst (nI 4) 60 zki_4 dJ6_numberOfTrailingZeros_0f7a4_59 rfl ?_
    refine z_iushr 61 dJ6_numberOfTrailingZeros_0f7a4_60 rfl ?_
    refine z_letI (fun v2 _ => ?_)
    refine z_istore_n (lv2 := [(0, .int v2), (1, .int (x1 + (nI 4)))]) 62 dJ6_numberOfTrailingZeros_0f7a4_61 rfl (Nat.le_of_ble_eq_true rfl) rfl ?_
    exact z_sub [0, 1] rfl (BJ6_numberOfTrailingZeros_0f7a4_62 b0 v2 (x1 + (nI 4)) h )
def bJ6_numberOfTrailingZeros_0f7a4_34 (x0 : Int32) (x1 : Int32) (h : ZH) : Option (Int32 × ZH) :=
  if x0 ≤ (nI 256) then (bJ6_numberOfTrailingZeros_0f7a4_49 x0 x1 h) else
  (zl (jushr x0 (nI 8)) fun v2 =>
  bJ6_numberOfTrailingZeros_0f7a4_49 v2 (x1 + (nI 8)) h)
theorem BJ6_numberOfTrailingZeros_0f7a4_34 (b0 : Nat) (x0 : Int32) (x1 : Int32) (h : ZH) : Zr zi b0 YJ6_numberOfTrailingZeros_0f7a4 1 34 [(0, .int x0), (1, .int x1)] [] h (bJ6_numberOfTrailingZeros_0f7a4_34 x0 x1 h) := by
  unfold bJ6_numberOfTrailingZeros_0f7a4_34
  refine z_iload_n 35 0 dJ6_numberOfTrailingZeros_0f7a4_34 rfl rfl ?_
  refine z_sipush (nI 256) 38 zks_256 dJ6_numberOfTrailingZeros_0f7a4_35 rfl ?_
  refine z_icmp_le 49 41 dJ6_numberOfTrailingZeros_0f7a4_38 (by decide) rfl (fun c1 => ?_) (fun c1 => ?_)
  · exact z_sub [0, 1] rfl (BJ6_numberOfTrailingZeros_0f7a4_49 b0 x0 x1 h )
  · refine z_iinc (lv2 := [(1, .int (x1 + (nI 8))), (0, .int x0)]) (nI 8) 44 1 dJ6_numberOfTrailingZeros_0f7a4_41 rfl rfl zki_8 (Nat.le_of_ble_eq_true rfl) rfl ?_
    refine z_iload_n 45 1 dJ6_numberOfTrailingZeros_0f7a4_44 rfl rfl ?_
    refine z_bipush (nI 8) 47 zkb_8 dJ6_numberOfTrailingZeros_0f7a4_45 rfl ?_
    refine z_iushr 48 dJ6_numberOfTrailingZeros_0f7a4_47 rfl ?_
    refine z_letI (fun v2 _ => ?_)
    refine z_istore_n (lv2 := [(0, .int v2), (1, .int (x1 + (nI 8)))]) 49 dJ6_numberOfTrailingZeros_0f7a4_48 rfl (Nat.le_of_ble_eq_true rfl) rfl ?_
    exact z_sub [0, 1] rfl (BJ6_numberOfTrailingZeros_0f7a4_49 b0 v2 (x1 + (nI 8)) h )
def fJ6_numberOfTrailingZeros_0f7a4 (x0 : Int32) (h : ZH) : Option (Int32 × ZH) :=
  zl ((x0 ^^^ (-1 : Int32)) &&& (x0 - (nI 1))) fun v1 =>
  if 0 < v1 then (if v1 ≤ (65536 : Int32) then (bJ6_numberOfTrailingZeros_0f7a4_34 v1 (nI 1) h) else
  (zl (jushr v1 (nI 16)) fun v4 =>
  bJ6_numberOfTrailingZeros_0f7a4_34 v4 ((nI 1) + (nI 16)) h)) else
  (some ((v1 &&& (nI 32)), h))
theorem mJ6_numberOfTrailingZeros_0f7a4 (b0 : Nat) (x0 : Int32) (h : ZH) : ZM zi b0 YJ6_numberOfTrailingZeros_0f7a4 1 [.int x0] h (fJ6_numberOfTrailingZeros_0f7a4 x0 h) := by
  unfold fJ6_numberOfTrailingZeros_0f7a4
  refine ZM.of (by decide) rfl (Nat.le_of_ble_eq_true rfl) (fun _ => trivial) ?_
  refine z_sub (lv2 := [(0, .int x0)]) [0] rfl ?_
  refine z_iload_n 1 0 dJ6_numberOfTrailingZeros_0f7a4_0 rfl rfl ?_
  refine z_iconst (-1 : Int32) 2 zki_m1 dJ6_numberOfTrailingZeros_0f7a4_1 rfl ?_
  refine z_ixor 3 dJ6_numberOfTrailingZeros_0f7a4_2 rfl ?_
  refine z_iload_n 4 0 dJ6_numberOfTrailingZeros_0f7a4_3 rfl rfl ?_
  refine z_iconst (nI 1) 5 zki_1 dJ6_numberOfTrailingZeros_0f7a4_4 rfl ?_
  refine z_isub 6 dJ6_numberOfTrailingZeros_0f7a4_5 rfl ?_
  refine z_iand 7 dJ6_numberOfTrailingZeros_0f7a4_6 rfl ?_
  refine z_letI (fun v1 _ => ?_)
  refine z_istore_n (lv2 := [(0, .int v1)]) 8 dJ6_numberOfTrailingZeros_0f7a4_7 rfl (Nat.le_of_ble_eq_true rfl) rfl ?_
  refine z_iload_n 9 0 dJ6_numberOfTrailingZeros_0f7a4_8 rfl rfl ?_
  refine z_if_gt 17 12 dJ6_numberOfTrailingZeros_0f7a4_9 (by decide) rfl (fun c2 => ?_) (fun c2 => ?_)
  · refine z_iconst (nI 1) 18 zki_1 dJ6_numberOfTrailingZeros_0f7a4_17 rfl ?_
    refine z_istore_n (lv2 := [(1, .int (nI 1)), (0, .int v1)]) 19 dJ6_numberOfTrailingZeros_0f7a4_18 rfl (Nat.le_of_ble_eq_true rfl) rfl ?_
    refine z_iload_n 20 1 dJ6_numberOfTrailingZeros_0f7a4_19 rfl rfl ?_
    refine z_ldcw 23 w_1407 dJ6_numberOfTrailingZeros_0f7a4_20 rfl ?_
    refine z_icmp_le 34 26 dJ6_numberOfTrailingZeros_0f7a4_23 (by decide) rfl (fun c3 => ?_) (fun c3 => ?_)
    · exact z_sub [1, 0] rfl (BJ6_numberOfTrailingZeros_0f7a4_34 b0 v1 (nI 1) h )
    · refine z_iinc (lv2 := [(1, .int ((nI 1) + (nI 16))), (0, .int v1)]) (nI 16) 29 0 dJ6_numberOfTrailingZeros_0f7a4_26 rfl rfl zki_16 (Nat.le_of_ble_eq_true rfl) rfl ?_
      refine z_iload_n 30 1 dJ6_numberOfTrailingZeros_0f7a4_29 rfl rfl ?_
      refine z_bipush (nI 16) 32 zkb_16 dJ6_numberOfTrailingZeros_0f7a4_30 rfl ?_
      refine z_iushr 33 dJ6_numberOfTrailingZeros_0f7a4_32 rfl ?_
      refine z_letI (fun v4 _ => ?_)
      refine z_istore_n (lv2 := [(0, .int v4), (1, .int ((nI 1) + (nI 16)))]) 34 dJ6_numberOfTrailingZeros_0f7a4_33 rfl (Nat.le_of_ble_eq_true rfl) rfl ?_
      exact z_sub [0, 1] rfl (BJ6_numberOfTrailingZeros_0f7a4_34 b0 v4 ((nI 1) + (nI 16)) h )
  · refine z_iload_n 13 0 dJ6_numberOfTrailingZeros_0f7a4_12 rfl rfl ?_
    refine z_bipush (nI 32) 15 zkb_32 dJ6_numberOfTrailingZeros_0f7a4_13 rfl ?_
    refine z_iand 16 dJ6_numberOfTrailingZeros_0f7a4_15 rfl ?_
    exact z_ireturn dJ6_numberOfTrailingZeros_0f7a4_16 rfl
-- X11_findReset
def kX11_findReset_178 (x0 : Nat) (x1 : Int32) (x2 : Int32) (self178 : Int32 × Int32 × ZH → Option (Int32 × ZH)) (x3 : Int32) (x4 : Int32) (h : ZH) : Option (Int32 × ZH) :=
  if x4 = x1 then ((fJ6_numberOfTrailingZeros_0f7a4 x2 h).bind fun q2 =>
  some (q2.1, q2.2)) else
  ((gR h 11 x0 11).bind fun v3 =>
  (gR h 11 x0 33).bind fun v4 =>
  (lI h 14 v4 x4).bind fun v5 =>
  (sI h 14 v3 x3 v5).bind fun h6 =>
  (gR h6 11 x0 32).bind fun v7 =>
  (lI h6 14 v7 x4).bind fun v8 =>
  self178 ((x3 + (-1 : Int32)), v8, h6))
def lX11_findReset_178 (x0 : Nat) (x1 : Int32) (x2 : Int32) : (Int32 × Int32 × ZH → Option (Int32 × ZH)) → Int32 × Int32 × ZH → Option (Int32 × ZH) := fun self s => kX11_findReset_178 x0 x1 x2 self s.1 s.2.1 s.2.2
theorem KX11_findReset_178 (b0 : Nat) (x0 : Nat) (x1 : Int32) (x2 : Int32) (self178 : Int32 × Int32 × ZH → Option (Int32 × ZH)) (hself178 : ∀ (y3 : Int32) (y4 : Int32) (hh : ZH), Zr zi b0 YX11_findReset 2 178 [(0, .ref (b0 + x0)), (1, .int x1), (2, .int x2), (3, .int y3), (4, .int y4)] [] hh (self178 (y3, y4, hh))) (x3 : Int32) (x4 : Int32) (h : ZH) : Zr zi b0 YX11_findReset 2 178 [(0, .ref (b0 + x0)), (1, .int x1), (2, .int x2), (3, .int x3), (4, .int x4)] [] h (kX11_findReset_178 x0 x1 x2 self178 x3 x4 h) := by
  unfold kX11_findReset_178
  refine z_iload 180 4 dX11_findReset_178 rfl rfl ?_
  refine z_iload_n 181 1 dX11_findReset_180 rfl rfl ?_
  refine z_icmp_eq 212 184 dX11_findReset_181 (by decide) rfl (fun c1 => ?_) (fun c1 => ?_)
  · refine z_iload_n 213 2 dX11_findReset_212 rfl rfl ?_
    refine z_callSi 216 (mJ6_numberOfTrailingZeros_0f7a4 b0 x2 h) zyJ6_numberOfTrailingZeros_0f7a4 rfl w_1404 wt_yJ6_numberOfTrailingZeros_0f7a4 (Nat.le_of_ble_eq_true rfl) rfl (Nat.le_of_ble_eq_true rfl) dX11_findReset_213 rfl (fun q2 => ?_)
    exact z_ireturn dX11_findReset_216 rfl
  · refine z_aload_n 185 0 dX11_findReset_184 rfl rfl ?_
    refine z_getR 188 zC11 (Nat.le_of_ble_eq_true rfl) rfl w_1028 dX11_findReset_185 rfl (fun v3 _ => ?_)
    refine z_iload_n 189 3 dX11_findReset_188 rfl rfl ?_
    refine z_aload_n 190 0 dX11_findReset_189 rfl rfl ?_
    refine z_getR 193 zC11 (Nat.le_of_ble_eq_true rfl) rfl w_1050 dX11_findReset_190 rfl (fun v4 _ => ?_)
    refine z_iload 195 4 dX11_findReset_193 rfl rfl ?_
    refine z_iaload 196 dX11_findReset_195 rfl (fun v5 _ => ?_)
    refine z_iastore 197 dX11_findReset_196 rfl (fun h6 _ => ?_)
    refine z_iinc (lv2 := [(3, .int (x3 + (-1 : Int32))), (0, .ref (b0 + x0)), (1, .int x1), (2, .int x2), (4, .int x4)]) (-1 : Int32) 200 3 dX11_findReset_197 rfl rfl zki_m1 (Nat.le_of_ble_eq_true rfl) rfl ?_
    refine z_aload_n 201 1 dX11_findReset_200 rfl rfl ?_
    refine z_getR 204 zC11 (Nat.le_of_ble_eq_true rfl) rfl w_1049 dX11_findReset_201 rfl (fun v7 _ => ?_)
    refine z_iload 206 4 dX11_findReset_204 rfl rfl ?_
    refine z_iaload 207 dX11_findReset_206 rfl (fun v8 _ => ?_)
    refine z_istore (lv2 := [(4, .int v8), (3, .int (x3 + (-1 : Int32))), (0, .ref (b0 + x0)), (1, .int x1), (2, .int x2)]) 209 dX11_findReset_207 rfl (Nat.le_of_ble_eq_true rfl) rfl ?_
    refine z_goto 178 dX11_findReset_209 (by decide) ?_
    exact z_sub [2, 3, 4, 1, 0] rfl (hself178 (x3 + (-1 : Int32)) v8 h6)
theorem BX11_findReset_178 (b0 : Nat) (x0 : Nat) (x1 : Int32) (x2 : Int32) (n : Nat) (x3 : Int32) (x4 : Int32) (h : ZH) : Zr zi b0 YX11_findReset 2 178 [(0, .ref (b0 + x0)), (1, .int x1), (2, .int x2), (3, .int x3), (4, .int x4)] [] h (zloop (lX11_findReset_178 x0 x1 x2) n (x3, x4, h)) :=
  zloop_Zr (fun s => [(0, .ref (b0 + x0)), (1, .int x1), (2, .int x2), (3, .int s.1), (4, .int s.2.1)]) (fun _ => []) (fun s => s.2.2) (lX11_findReset_178 x0 x1 x2) (fun self hs s => KX11_findReset_178 b0 x0 x1 x2 self (fun y3 y4 hh => hs (y3, y4, hh)) s.1 s.2.1 s.2.2) n (x3, x4, h)
def kX11_findReset_143 (x0 : Nat) (x1 : Int32) (x2 : Int32) (self143 : Int32 × ZH → Option (Int32 × ZH)) (x3 : Int32) (h : ZH) : Option (Int32 × ZH) :=
  if x3 = x1 then ((gI h 11 x0 12).bind fun v2 =>
  zl (v2 - (nI 1)) fun v3 =>
  zloop (lX11_findReset_178 x0 x1 x2) zfu (v3, x2, h)) else
  ((gI h 11 x0 12).bind fun v4 =>
  (pI h 11 x0 12 (v4 + (nI 1))).bind fun h5 =>
  (gR h5 11 x0 32).bind fun v6 =>
  (lI h5 14 v6 x3).bind fun v7 =>
  self143 (v7, h5))
def lX11_findReset_143 (x0 : Nat) (x1 : Int32) (x2 : Int32) : (Int32 × ZH → Option (Int32 × ZH)) → Int32 × ZH → Option (Int32 × ZH) := fun self s => kX11_findReset_143 x0 x1 x2 self s.1 s.2
theorem KX11_findReset_143 (b0 : Nat) (x0 : Nat) (x1 : Int32) (x2 : Int32) (self143 : Int32 × ZH → Option (Int32 × ZH)) (hself143 : ∀ (y3 : Int32) (hh : ZH), Zr zi b0 YX11_findReset 2 143 [(0, .ref (b0 + x0)), (1, .int x1), (2, .int x2), (3, .int y3)] [] hh (self143 (y3, hh))) (x3 : Int32) (h : ZH) : Zr zi b0 YX11_findReset 2 143 [(0, .ref (b0 + x0)), (1, .int x1), (2, .int x2), (3, .int x3)] [] h (kX11_findReset_143 x0 x1 x2 self143 x3 h) := by
  unfold kX11_findReset_143
  refine z_iload_n 144 3 dX11_findReset_143 rfl rfl ?_
  refine z_iload_n 145 1 dX11_findReset_144 rfl rfl ?_
  refine z_icmp_eq 168 148 dX11_findReset_145 (by decide) rfl (fun c1 => ?_) (fun c1 => ?_)
  · refine z_aload_n 169 0 dX11_findReset_168 rfl rfl ?_
    refine z_getI 172 zC11 (Nat.le_of_ble_eq_true rfl) rfl w_1029 dX11_findReset_169 rfl (fun v2 _ => ?_)
    refine z_iconst (nI 1) 173 zki_1 dX11_findReset_172 rfl ?_
    refine z_isub 174 dX11_findReset_173 rfl ?_
    refine z_letI (fun v3 _ => ?_)
    refine z_istore_n (lv2 := [(3, .int v3), (0, .ref (b0 + x0)), (1, .int x1), (2, .int x2)]) 175 dX11_findReset_174 rfl (Nat.le_of_ble_eq_true rfl) rfl ?_
    refine z_iload_n 176 3 dX11_findReset_175 rfl rfl ?_
    refine z_istore (lv2 := [(4, .int x2), (3, .int v3), (0, .ref (b0 + x0)), (1, .int x1), (2, .int x2)]) 178 dX11_findReset_176 rfl (Nat.le_of_ble_eq_true rfl) rfl ?_
    exact z_sub [2, 3, 4, 1, 0] rfl (BX11_findReset_178 b0 x0 x1 x2 zfu v3 x2 h)
  · refine z_aload_n 149 0 dX11_findReset_148 rfl rfl ?_
    refine z_dup 150 rfl dX11_findReset_149 rfl ?_
    refine z_getI 153 zC11 (Nat.le_of_ble_eq_true rfl) rfl w_1029 dX11_findReset_150 rfl (fun v4 _ => ?_)
    refine z_iconst (nI 1) 154 zki_1 dX11_findReset_153 rfl ?_
    refine z_iadd 155 dX11_findReset_154 rfl ?_
    refine z_putI 158 zC11 (Nat.le_of_ble_eq_true rfl) rfl rfl rfl w_1029 dX11_findReset_155 rfl (fun h5 _ => ?_)
    refine z_aload_n 159 0 dX11_findReset_158 rfl rfl ?_
    refine z_getR 162 zC11 (Nat.le_of_ble_eq_true rfl) rfl w_1049 dX11_findReset_159 rfl (fun v6 _ => ?_)
    refine z_iload_n 163 3 dX11_findReset_162 rfl rfl ?_
    refine z_iaload 164 dX11_findReset_163 rfl (fun v7 _ => ?_)
    refine z_istore_n (lv2 := [(3, .int v7), (0, .ref (b0 + x0)), (1, .int x1), (2, .int x2)]) 165 dX11_findReset_164 rfl (Nat.le_of_ble_eq_true rfl) rfl ?_
    refine z_goto 143 dX11_findReset_165 (by decide) ?_
    exact z_sub [1, 2, 3, 0] rfl (hself143 v7 h5)
theorem BX11_findReset_143 (b0 : Nat) (x0 : Nat) (x1 : Int32) (x2 : Int32) (n : Nat) (x3 : Int32) (h : ZH) : Zr zi b0 YX11_findReset 2 143 [(0, .ref (b0 + x0)), (1, .int x1), (2, .int x2), (3, .int x3)] [] h (zloop (lX11_findReset_143 x0 x1 x2) n (x3, h)) :=
  zloop_Zr (fun s => [(0, .ref (b0 + x0)), (1, .int x1), (2, .int x2), (3, .int s.1)]) (fun _ => []) (fun s => s.2) (lX11_findReset_143 x0 x1 x2) (fun self hs s => KX11_findReset_143 b0 x0 x1 x2 self (fun y3 hh => hs (y3, hh)) s.1 s.2) n (x3, h)
def bX11_findReset_130 (self34 : Int32 × Int32 × ZH → Option (Int32 × ZH)) (x0 : Nat) (x1 : Int32) (x2 : Int32) (x3 : Int32) (h : ZH) : Option (Int32 × ZH) :=
  self34 (x2, (x3 + (nI 1)), h)
theorem BX11_findReset_130 (b0 : Nat) (self34 : Int32 × Int32 × ZH → Option (Int32 × ZH)) (x0 : Nat) (x1 : Int32) (x2 : Int32) (x3 : Int32) (h : ZH) (hself34 : ∀ (y2 : Int32) (y3 : Int32) (hh : ZH), Zr zi b0 YX11_findReset 2 34 [(0, .ref (b0 + x0)), (1, .int x1), (2, .int y2), (3, .int y3)] [] hh (self34 (y2, y3, hh))) : Zr zi b0 YX11_findReset 2 130 [(0, .ref (b0 + x0)), (1, .int x1), (2, .int x2), (3, .int x3)] [] h (bX11_findReset_130 self34 x0 x1 x2 x3 h) := by
  unfold bX11_findReset_130
  refine z_iinc (lv2 := [(3, .int (x3 + (nI 1))), (0, .ref (b0 + x0)), (1, .int x1), (2, .int x2)]) (nI 1) 133 3 dX11_findReset_130 rfl rfl zki_1 (Nat.le_of_ble_eq_true rfl) rfl ?_
  refine z_goto 34 dX11_findReset_133 (by decide) ?_
  exact z_sub [1, 2, 3, 0] rfl (hself34 x2 (x3 + (nI 1)) h)
def bX11_findReset_124 (self34 : Int32 × Int32 × ZH → Option (Int32 × ZH)) (self41 : Int32 × Int32 × ZH → Option (Int32 × ZH)) (x0 : Nat) (x1 : Int32) (x2 : Int32) (x3 : Int32) (x4 : Int32) (h : ZH) : Option (Int32 × ZH) :=
  self41 (x2, (x4 + (nI 1)), h)
theorem BX11_findReset_124 (b0 : Nat) (self34 : Int32 × Int32 × ZH → Option (Int32 × ZH)) (self41 : Int32 × Int32 × ZH → Option (Int32 × ZH)) (x0 : Nat) (x1 : Int32) (x2 : Int32) (x3 : Int32) (x4 : Int32) (h : ZH) (hself34 : ∀ (y2 : Int32) (y3 : Int32) (hh : ZH), Zr zi b0 YX11_findReset 2 34 [(0, .ref (b0 + x0)), (1, .int x1), (2, .int y2), (3, .int y3)] [] hh (self34 (y2, y3, hh))) (hself41 : ∀ (y2 : Int32) (y4 : Int32) (hh : ZH), Zr zi b0 YX11_findReset 2 41 [(0, .ref (b0 + x0)), (1, .int x1), (3, .int x3), (2, .int y2), (4, .int y4)] [] hh (self41 (y2, y4, hh))) : Zr zi b0 YX11_findReset 2 124 [(0, .ref (b0 + x0)), (1, .int x1), (2, .int x2), (3, .int x3), (4, .int x4)] [] h (bX11_findReset_124 self34 self41 x0 x1 x2 x3 x4 h) := by
  unfold bX11_findReset_124
  refine z_iinc (lv2 := [(4, .int (x4 + (nI 1))), (0, .ref (b0 + x0)), (1, .int x1), (2, .int x2), (3, .int x3)]) (nI 1) 127 4 dX11_findReset_124 rfl rfl zki_1 (Nat.le_of_ble_eq_true rfl) rfl ?_
  refine z_goto 41 dX11_findReset_127 (by decide) ?_
  exact z_sub [1, 2, 4, 3, 0] rfl (hself41 x2 (x4 + (nI 1)) h)
def bX11_findReset_123 (self34 : Int32 × Int32 × ZH → Option (Int32 × ZH)) (self41 : Int32 × Int32 × ZH → Option (Int32 × ZH)) (x0 : Nat) (x1 : Int32) (x3 : Int32) (x4 : Int32) (t0 : Int32) (h : ZH) : Option (Int32 × ZH) :=
  bX11_findReset_124 self34 self41 x0 x1 t0 x3 x4 h
theorem BX11_findReset_123 (b0 : Nat) (self34 : Int32 × Int32 × ZH → Option (Int32 × ZH)) (self41 : Int32 × Int32 × ZH → Option (Int32 × ZH)) (x0 : Nat) (x1 : Int32) (x3 : Int32) (x4 : Int32) (t0 : Int32) (h : ZH) (hself34 : ∀ (y2 : Int32) (y3 : Int32) (hh : ZH), Zr zi b0 YX11_findReset 2 34 [(0, .ref (b0 + x0)), (1, .int x1), (2, .int y2), (3, .int y3)] [] hh (self34 (y2, y3, hh))) (hself41 : ∀ (y2 : Int32) (y4 : Int32) (hh : ZH), Zr zi b0 YX11_findReset 2 41 [(0, .ref (b0 + x0)), (1, .int x1), (3, .int x3), (2, .int y2), (4, .int y4)] [] hh (self41 (y2, y4, hh))) : Zr zi b0 YX11_findReset 2 123 [(0, .ref (b0 + x0)), (1, .int x1), (3, .int x3), (4, .int x4)] [.int t0] h (bX11_findReset_123 self34 self41 x0 x1 x3 x4 t0 h) := by
  unfold bX11_findReset_123
  refine z_istore_n (lv2 := [(2, .int t0), (0, .ref (b0 + x0)), (1, .int x1), (3, .int x3), (4, .int x4)]) 124 dX11_findReset_123 rfl (Nat.le_of_ble_eq_true rfl) rfl ?_
  exact z_sub [1, 2, 0, 3, 4] rfl (BX11_findReset_124 b0 self34 self41 x0 x1 t0 x3 x4 h hself34 hself41)
def kX11_findReset_41 (self34 : Int32 × Int32 × ZH → Option (Int32 × ZH)) (x0 : Nat) (x1 : Int32) (x3 : Int32) (self41 : Int32 × Int32 × ZH → Option (Int32 × ZH)) (x2 : Int32) (x4 : Int32) (h : ZH) : Option (Int32 × ZH) :=
  if (nI 4) ≤ x4 then (bX11_findReset_130 self34 x0 x1 x2 x3 h) else
  (if x2 = 0 then ((gR h 11 x0 27).bind fun v3 =>
  (lI h 14 v3 x3).bind fun v4 =>
  (fX11_led x0 v4 x4 h).bind fun q5 =>
  if q5.1 = 0 then (bX11_findReset_124 self34 self41 x0 x1 x2 x3 x4 q5.2) else
  ((gR q5.2 11 x0 26).bind fun v7 =>
  (lI q5.2 16 v7 q5.1).bind fun v8 =>
  if v8 = 0 then ((gR q5.2 11 x0 32).bind fun v10 =>
  (gR q5.2 11 x0 27).bind fun v11 =>
  (lI q5.2 14 v11 x3).bind fun v12 =>
  (sI q5.2 14 v10 q5.1 v12).bind fun h13 =>
  (gR h13 11 x0 33).bind fun v14 =>
  (sI h13 14 v14 q5.1 x4).bind fun h15 =>
  (fX11_see x0 q5.1 h15).bind fun h16 =>
  (fJ6_bitCount_0f7a4 q5.1 h16).bind fun q17 =>
  if q17.1 = (nI 1) then (bX11_findReset_123 self34 self41 x0 x1 x3 x4 q5.1 q17.2) else
  (bX11_findReset_123 self34 self41 x0 x1 x3 x4 (nI 0) q17.2)) else
  (bX11_findReset_124 self34 self41 x0 x1 x2 x3 x4 q5.2))) else
  (bX11_findReset_130 self34 x0 x1 x2 x3 h))
def lX11_findReset_41 (self34 : Int32 × Int32 × ZH → Option (Int32 × ZH)) (x0 : Nat) (x1 : Int32) (x3 : Int32) : (Int32 × Int32 × ZH → Option (Int32 × ZH)) → Int32 × Int32 × ZH → Option (Int32 × ZH) := fun self s => kX11_findReset_41 self34 x0 x1 x3 self s.1 s.2.1 s.2.2
theorem KX11_findReset_41 (b0 : Nat) (self34 : Int32 × Int32 × ZH → Option (Int32 × ZH)) (x0 : Nat) (x1 : Int32) (x3 : Int32) (hself34 : ∀ (y2 : Int32) (y3 : Int32) (hh : ZH), Zr zi b0 YX11_findReset 2 34 [(0, .ref (b0 + x0)), (1, .int x1), (2, .int y2), (3, .int y3)] [] hh (self34 (y2, y3, hh))) (self41 : Int32 × Int32 × ZH → Option (Int32 × ZH)) (hself41 : ∀ (y2 : Int32) (y4 : Int32) (hh : ZH), Zr zi b0 YX11_findReset 2 41 [(0, .ref (b0 + x0)), (1, .int x1), (3, .int x3), (2, .int y2), (4, .int y4)] [] hh (self41 (y2, y4, hh))) (x2 : Int32) (x4 : Int32) (h : ZH) : Zr zi b0 YX11_findReset 2 41 [(0, .ref (b0 + x0)), (1, .int x1), (3, .int x3), (2, .int x2), (4, .int x4)] [] h (kX11_findReset_41 self34 x0 x1 x3 self41 x2 x4 h) := by
  unfold kX11_findReset_41
  refine z_iload 43 4 dX11_findReset_41 rfl rfl ?_
  refine z_iconst (nI 4) 44 zki_4 dX11_findReset_43 rfl ?_
  refine z_icmp_ge 130 47 dX11_findReset_44 (by decide) rfl (fun c1 => ?_) (fun c1 => ?_)
  · exact z_sub [0, 1, 3, 2] rfl (BX11_findReset_130 b0 self34 x0 x1 x2 x3 h hself34)
  · refine z_iload_n 48 3 dX11_findReset_47 rfl rfl ?_
    refine z_if_ne 130 51 dX11_findReset_48 (by decide) rfl (fun c2 => ?_) (fun c2 => ?_)
    · exact z_sub [0, 1, 3, 2] rfl (BX11_findReset_130 b0 self34 x0 x1 x2 x3 h hself34)
    · refine z_aload_n 52 0 dX11_findReset_51 rfl rfl ?_
      refine z_aload_n 53 0 dX11_findReset_52 rfl rfl ?_
      refine z_getR 56 zC11 (Nat.le_of_ble_eq_true rfl) rfl w_1044 dX11_findReset_53 rfl (fun v3 _ => ?_)
      refine z_iload_n 57 2 dX11_findReset_56 rfl rfl ?_
      refine z_iaload 58 dX11_findReset_57 rfl (fun v4 _ => ?_)
      refine z_iload 60 4 dX11_findReset_58 rfl rfl ?_
      refine z_callVi 63 (mX11_led b0 x0 v4 x4 h) zyX11_led rfl w_1400 (ci := 11) rfl (Nat.le_of_ble_eq_true rfl) (fun _ e9 => kX11_led e9) wm_yX11_led ws_yX11_led (Nat.le_of_ble_eq_true rfl) rfl (Nat.le_of_ble_eq_true rfl) dX11_findReset_60 rfl (fun q5 => ?_)
      refine z_istore (lv2 := [(5, .int q5.1), (0, .ref (b0 + x0)), (1, .int x1), (3, .int x3), (2, .int x2), (4, .int x4)]) 65 dX11_findReset_63 rfl (Nat.le_of_ble_eq_true rfl) rfl ?_
      refine z_iload 67 0 dX11_findReset_65 rfl rfl ?_
      refine z_if_eq 124 70 dX11_findReset_67 (by decide) rfl (fun c6 => ?_) (fun c6 => ?_)
      · exact z_sub [1, 2, 4, 3, 5] rfl (BX11_findReset_124 b0 self34 self41 x0 x1 x2 x3 x4 q5.2 hself34 hself41)
      · refine z_aload_n 71 1 dX11_findReset_70 rfl rfl ?_
        refine z_getR 74 zC11 (Nat.le_of_ble_eq_true rfl) rfl w_1043 dX11_findReset_71 rfl (fun v7 _ => ?_)
        refine z_iload 76 0 dX11_findReset_74 rfl rfl ?_
        refine z_zaload 77 dX11_findReset_76 rfl (fun v8 _ => ?_)
        refine z_if_ne 124 80 dX11_findReset_77 (by decide) rfl (fun c9 => ?_) (fun c9 => ?_)
        · exact z_sub [1, 2, 4, 3, 5] rfl (BX11_findReset_124 b0 self34 self41 x0 x1 x2 x3 x4 q5.2 hself34 hself41)
        · refine z_aload_n 81 1 dX11_findReset_80 rfl rfl ?_
          refine z_getR 84 zC11 (Nat.le_of_ble_eq_true rfl) rfl w_1049 dX11_findReset_81 rfl (fun v10 _ => ?_)
          refine z_iload 86 0 dX11_findReset_84 rfl rfl ?_
          refine z_aload_n 87 1 dX11_findReset_86 rfl rfl ?_
          refine z_getR 90 zC11 (Nat.le_of_ble_eq_true rfl) rfl w_1044 dX11_findReset_87 rfl (fun v11 _ => ?_)
          refine z_iload_n 91 3 dX11_findReset_90 rfl rfl ?_
          refine z_iaload 92 dX11_findReset_91 rfl (fun v12 _ => ?_)
          refine z_iastore 93 dX11_findReset_92 rfl (fun h13 _ => ?_)
          refine z_aload_n 94 1 dX11_findReset_93 rfl rfl ?_
          refine z_getR 97 zC11 (Nat.le_of_ble_eq_true rfl) rfl w_1050 dX11_findReset_94 rfl (fun v14 _ => ?_)
          refine z_iload 99 0 dX11_findReset_97 rfl rfl ?_
          refine z_iload 101 5 dX11_findReset_99 rfl rfl ?_
          refine z_iastore 102 dX11_findReset_101 rfl (fun h15 _ => ?_)
          refine z_aload_n 103 1 dX11_findReset_102 rfl rfl ?_
          refine z_iload 105 0 dX11_findReset_103 rfl rfl ?_
          refine z_callVv 108 (mX11_see b0 x0 q5.1 h15) zyX11_see rfl w_1372 (ci := 11) rfl (Nat.le_of_ble_eq_true rfl) (fun _ e9 => kX11_see e9) wm_yX11_see ws_yX11_see (Nat.le_of_ble_eq_true rfl) rfl (Nat.le_of_ble_eq_true rfl) dX11_findReset_105 rfl (fun h16 => ?_)
          refine z_iload 110 0 dX11_findReset_108 rfl rfl ?_
          refine z_callSi 113 (mJ6_bitCount_0f7a4 b0 q5.1 h16) zyJ6_bitCount_0f7a4 rfl w_1178 wt_yJ6_bitCount_0f7a4 (Nat.le_of_ble_eq_true rfl) rfl (Nat.le_of_ble_eq_true rfl) dX11_findReset_110 rfl (fun q17 => ?_)
          refine z_iconst (nI 1) 114 zki_1 dX11_findReset_113 rfl ?_
          refine z_icmp_ne 122 117 dX11_findReset_114 (by decide) rfl (fun c18 => ?_) (fun c18 => ?_)
          · refine z_iconst (nI 0) 123 zki_0 dX11_findReset_122 rfl ?_
            exact z_sub [1, 2, 3, 5] rfl (BX11_findReset_123 b0 self34 self41 x0 x1 x3 x4 (nI 0) q17.2 hself34 hself41)
          · refine z_iload 119 0 dX11_findReset_117 rfl rfl ?_
            refine z_goto 123 dX11_findReset_119 (by decide) ?_
            exact z_sub [1, 2, 3, 5] rfl (BX11_findReset_123 b0 self34 self41 x0 x1 x3 x4 q5.1 q17.2 hself34 hself41)
theorem BX11_findReset_41 (b0 : Nat) (self34 : Int32 × Int32 × ZH → Option (Int32 × ZH)) (x0 : Nat) (x1 : Int32) (x3 : Int32) (hself34 : ∀ (y2 : Int32) (y3 : Int32) (hh : ZH), Zr zi b0 YX11_findReset 2 34 [(0, .ref (b0 + x0)), (1, .int x1), (2, .int y2), (3, .int y3)] [] hh (self34 (y2, y3, hh))) (n : Nat) (x2 : Int32) (x4 : Int32) (h : ZH) : Zr zi b0 YX11_findReset 2 41 [(0, .ref (b0 + x0)), (1, .int x1), (3, .int x3), (2, .int x2), (4, .int x4)] [] h (zloop (lX11_findReset_41 self34 x0 x1 x3) n (x2, x4, h)) :=
  zloop_Zr (fun s => [(0, .ref (b0 + x0)), (1, .int x1), (3, .int x3), (2, .int s.1), (4, .int s.2.1)]) (fun _ => []) (fun s => s.2.2) (lX11_findReset_41 self34 x0 x1 x3) (fun self hs s => KX11_findReset_41 b0 self34 x0 x1 x3 hself34 self (fun y2 y4 hh => hs (y2, y4, hh)) s.1 s.2.1 s.2.2) n (x2, x4, h)
def kX11_findReset_34 (x0 : Nat) (x1 : Int32) (self34 : Int32 × Int32 × ZH → Option (Int32 × ZH)) (x2 : Int32) (x3 : Int32) (h : ZH) : Option (Int32 × ZH) :=
  if x2 = 0 then (zloop (lX11_findReset_41 self34 x0 x1 x3) zfu (x2, (nI 0), h)) else
  ((pI h 11 x0 12 (nI 0)).bind fun h2 =>
  zloop (lX11_findReset_143 x0 x1 x2) zfu (x2, h2))
def lX11_findReset_34 (x0 : Nat) (x1 : Int32) : (Int32 × Int32 × ZH → Option (Int32 × ZH)) → Int32 × Int32 × ZH → Option (Int32 × ZH) := fun self s => kX11_findReset_34 x0 x1 self s.1 s.2.1 s.2.2
theorem KX11_findReset_34 (b0 : Nat) (x0 : Nat) (x1 : Int32) (self34 : Int32 × Int32 × ZH → Option (Int32 × ZH)) (hself34 : ∀ (y2 : Int32) (y3 : Int32) (hh : ZH), Zr zi b0 YX11_findReset 2 34 [(0, .ref (b0 + x0)), (1, .int x1), (2, .int y2), (3, .int y3)] [] hh (self34 (y2, y3, hh))) (x2 : Int32) (x3 : Int32) (h : ZH) : Zr zi b0 YX11_findReset 2 34 [(0, .ref (b0 + x0)), (1, .int x1), (2, .int x2), (3, .int x3)] [] h (kX11_findReset_34 x0 x1 self34 x2 x3 h) := by
  unfold kX11_findReset_34
  refine z_iload_n 35 2 dX11_findReset_34 rfl rfl ?_
  refine z_if_ne 136 38 dX11_findReset_35 (by decide) rfl (fun c1 => ?_) (fun c1 => ?_)
  · refine z_aload_n 137 0 dX11_findReset_136 rfl rfl ?_
    refine z_iconst (nI 0) 138 zki_0 dX11_findReset_137 rfl ?_
    refine z_putI 141 zC11 (Nat.le_of_ble_eq_true rfl) rfl rfl rfl w_1029 dX11_findReset_138 rfl (fun h2 _ => ?_)
    refine z_iload_n 142 2 dX11_findReset_141 rfl rfl ?_
    refine z_istore_n (lv2 := [(3, .int x2), (0, .ref (b0 + x0)), (1, .int x1), (2, .int x2)]) 143 dX11_findReset_142 rfl (Nat.le_of_ble_eq_true rfl) rfl ?_
    exact z_sub [1, 2, 3, 0] rfl (BX11_findReset_143 b0 x0 x1 x2 zfu x2 h2)
  · refine z_iconst (nI 0) 39 zki_0 dX11_findReset_38 rfl ?_
    refine z_istore (lv2 := [(4, .int (nI 0)), (0, .ref (b0 + x0)), (1, .int x1), (2, .int x2), (3, .int x3)]) 41 dX11_findReset_39 rfl (Nat.le_of_ble_eq_true rfl) rfl ?_
    exact z_sub [1, 2, 4, 3, 0] rfl (BX11_findReset_41 b0 self34 x0 x1 x3 hself34 zfu x2 (nI 0) h)
theorem BX11_findReset_34 (b0 : Nat) (x0 : Nat) (x1 : Int32) (n : Nat) (x2 : Int32) (x3 : Int32) (h : ZH) : Zr zi b0 YX11_findReset 2 34 [(0, .ref (b0 + x0)), (1, .int x1), (2, .int x2), (3, .int x3)] [] h (zloop (lX11_findReset_34 x0 x1) n (x2, x3, h)) :=
  zloop_Zr (fun s => [(0, .ref (b0 + x0)), (1, .int x1), (2, .int s.1), (3, .int s.2.1)]) (fun _ => []) (fun s => s.2.2) (lX11_findReset_34 x0 x1) (fun self hs s => KX11_findReset_34 b0 x0 x1 self (fun y2 y3 hh => hs (y2, y3, hh)) s.1 s.2.1 s.2.2) n (x2, x3, h)
def bX11_findReset_31 (x0 : Nat) (x1 : Int32) (t0 : Int32) (h : ZH) : Option (Int32 × ZH) :=
  zloop (lX11_findReset_34 x0 x1) zfu (t0, (nI 0), h)
theorem BX11_findReset_31 (b0 : Nat) (x0 : Nat) (x1 : Int32) (t0 : Int32) (h : ZH) : Zr zi b0 YX11_findReset 2 31 [(0, .ref (b0 + x0)), (1, .int x1)] [.int t0] h (bX11_findReset_31 x0 x1 t0 h) := by
  unfold bX11_findReset_31
  refine z_istore_n (lv2 := [(2, .int t0), (0, .ref (b0 + x0)), (1, .int x1)]) 32 dX11_findReset_31 rfl (Nat.le_of_ble_eq_true rfl) rfl ?_
  refine z_iconst (nI 0) 33 zki_0 dX11_findReset_32 rfl ?_
  refine z_istore_n (lv2 := [(3, .int (nI 0)), (2, .int t0), (0, .ref (b0 + x0)), (1, .int x1)]) 34 dX11_findReset_33 rfl (Nat.le_of_ble_eq_true rfl) rfl ?_
  exact z_sub [2, 3, 1, 0] rfl (BX11_findReset_34 b0 x0 x1 zfu t0 (nI 0) h)
def fX11_findReset (x0 : Nat) (h : ZH) : Option (Int32 × ZH) :=
  if x0 < zn h ∧ zK h x0 = 11 then ((gI h 11 x0 30).bind fun v1 =>
  zl ((jshl (nI 1) v1) - (nI 1)) fun v2 =>
  (fX11_clearSeen x0 h).bind fun h3 =>
  (fX11_see x0 v2 h3).bind fun h4 =>
  (fJ6_bitCount_0f7a4 v2 h4).bind fun q5 =>
  if q5.1 = (nI 1) then (bX11_findReset_31 x0 v2 v2 q5.2) else
  (bX11_findReset_31 x0 v2 (nI 0) q5.2)) else none
theorem kX11_findReset {x0 : Nat} {h : ZH} {x : Int32 × ZH} (e : fX11_findReset x0 h = some x) : x0 < zn h ∧ zK h x0 = 11 := by
  unfold fX11_findReset at e
  exact zguard e
theorem mX11_findReset (b0 : Nat) (x0 : Nat) (h : ZH) : ZM zi b0 YX11_findReset 2 [.ref (b0 + x0)] h (fX11_findReset x0 h) := by
  unfold fX11_findReset
  refine ZM.of (by decide) rfl (Nat.le_of_ble_eq_true rfl) (fun _ => trivial) ?_
  refine z_sub (lv2 := [(0, .ref (b0 + x0))]) [0] rfl ?_
  refine z_guard (fun _ => ?_)
  refine z_iconst (nI 1) 1 zki_1 dX11_findReset_0 rfl ?_
  refine z_aload_n 2 0 dX11_findReset_1 rfl rfl ?_
  refine z_getI 5 zC11 (Nat.le_of_ble_eq_true rfl) rfl w_1047 dX11_findReset_2 rfl (fun v1 _ => ?_)
  refine z_ishl 6 dX11_findReset_5 rfl ?_
  refine z_iconst (nI 1) 7 zki_1 dX11_findReset_6 rfl ?_
  refine z_isub 8 dX11_findReset_7 rfl ?_
  refine z_letI (fun v2 _ => ?_)
  refine z_istore_n (lv2 := [(1, .int v2), (0, .ref (b0 + x0))]) 9 dX11_findReset_8 rfl (Nat.le_of_ble_eq_true rfl) rfl ?_
  refine z_aload_n 10 1 dX11_findReset_9 rfl rfl ?_
  refine z_callVv 13 (mX11_clearSeen b0 x0 h) zyX11_clearSeen rfl w_1368 (ci := 11) rfl (Nat.le_of_ble_eq_true rfl) (fun _ e9 => kX11_clearSeen e9) wm_yX11_clearSeen ws_yX11_clearSeen (Nat.le_of_ble_eq_true rfl) rfl (Nat.le_of_ble_eq_true rfl) dX11_findReset_10 rfl (fun h3 => ?_)
  refine z_aload_n 14 1 dX11_findReset_13 rfl rfl ?_
  refine z_iload_n 15 0 dX11_findReset_14 rfl rfl ?_
  refine z_callVv 18 (mX11_see b0 x0 v2 h3) zyX11_see rfl w_1372 (ci := 11) rfl (Nat.le_of_ble_eq_true rfl) (fun _ e9 => kX11_see e9) wm_yX11_see ws_yX11_see (Nat.le_of_ble_eq_true rfl) rfl (Nat.le_of_ble_eq_true rfl) dX11_findReset_15 rfl (fun h4 => ?_)
  refine z_iload_n 19 0 dX11_findReset_18 rfl rfl ?_
  refine z_callSi 22 (mJ6_bitCount_0f7a4 b0 v2 h4) zyJ6_bitCount_0f7a4 rfl w_1178 wt_yJ6_bitCount_0f7a4 (Nat.le_of_ble_eq_true rfl) rfl (Nat.le_of_ble_eq_true rfl) dX11_findReset_19 rfl (fun q5 => ?_)
  refine z_iconst (nI 1) 23 zki_1 dX11_findReset_22 rfl ?_
  refine z_icmp_ne 30 26 dX11_findReset_23 (by decide) rfl (fun c6 => ?_) (fun c6 => ?_)
  · refine z_iconst (nI 0) 31 zki_0 dX11_findReset_30 rfl ?_
    exact z_sub [1, 0] rfl (BX11_findReset_31 b0 x0 v2 (nI 0) q5.2 )
  · refine z_iload_n 27 0 dX11_findReset_26 rfl rfl ?_
    refine z_goto 31 dX11_findReset_27 (by decide) ?_
    exact z_sub [1, 0] rfl (BX11_findReset_31 b0 x0 v2 v2 q5.2 )
-- X11_resetEnd
def fX11_resetEnd (x0 : Nat) (h : ZH) : Option (Int32 × ZH) :=
  if x0 < zn h ∧ zK h x0 = 11 then ((fX11_findReset x0 h).bind fun q1 =>
  (fX11_clearSeen x0 q1.2).bind fun h2 =>
  some (q1.1, h2)) else none
theorem kX11_resetEnd {x0 : Nat} {h : ZH} {x : Int32 × ZH} (e : fX11_resetEnd x0 h = some x) : x0 < zn h ∧ zK h x0 = 11 := by
  unfold fX11_resetEnd at e
  exact zguard e
theorem mX11_resetEnd (b0 : Nat) (x0 : Nat) (h : ZH) : ZM zi b0 YX11_resetEnd 3 [.ref (b0 + x0)] h (fX11_resetEnd x0 h) := by
  unfold fX11_resetEnd
  refine ZM.of (by decide) rfl (Nat.le_of_ble_eq_true rfl) (fun _ => trivial) ?_
  refine z_sub (lv2 := [(0, .ref (b0 + x0))]) [0] rfl ?_
  refine z_guard (fun _ => ?_)
  refine z_aload_n 1 0 dX11_resetEnd_0 rfl rfl ?_
  refine z_callVi 4 (mX11_findReset b0 x0 h) zyX11_findReset rfl w_1396 (ci := 11) rfl (Nat.le_of_ble_eq_true rfl) (fun _ e9 => kX11_findReset e9) wm_yX11_findReset ws_yX11_findReset (Nat.le_of_ble_eq_true rfl) rfl (Nat.le_of_ble_eq_true rfl) dX11_resetEnd_1 rfl (fun q1 => ?_)
  refine z_istore_n (lv2 := [(1, .int q1.1), (0, .ref (b0 + x0))]) 5 dX11_resetEnd_4 rfl (Nat.le_of_ble_eq_true rfl) rfl ?_
  refine z_aload_n 6 1 dX11_resetEnd_5 rfl rfl ?_
  refine z_callVv 9 (mX11_clearSeen b0 x0 q1.2) zyX11_clearSeen rfl w_1368 (ci := 11) rfl (Nat.le_of_ble_eq_true rfl) (fun _ e9 => kX11_clearSeen e9) wm_yX11_clearSeen ws_yX11_clearSeen (Nat.le_of_ble_eq_true rfl) rfl (Nat.le_of_ble_eq_true rfl) dX11_resetEnd_6 rfl (fun h2 => ?_)
  refine z_iload_n 10 0 dX11_resetEnd_9 rfl rfl ?_
  exact z_ireturn dX11_resetEnd_10 rfl
