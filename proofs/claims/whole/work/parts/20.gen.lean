-- X1_init
def fX1_init (x0 : Nat) (h : ZH) : Option (ZH) :=
  if x0 < zn h ∧ zK h x0 = 1 then ((zala h 14 (nI 32)).bind fun q1 =>
  (pR q1.2 1 x0 0 q1.1).bind fun h2 =>
  some h2) else none
theorem kX1_init {x0 : Nat} {h : ZH} {x : ZH} (e : fX1_init x0 h = some x) : x0 < zn h ∧ zK h x0 = 1 := by
  unfold fX1_init at e
  exact zguard e
theorem mX1_init (b0 : Nat) (x0 : Nat) (h : ZH) : ZM zv b0 YX1_init 2 [.ref (b0 + x0)] h (fX1_init x0 h) := by
  unfold fX1_init
  refine ZM.of (by decide) rfl (Nat.le_of_ble_eq_true rfl) (fun _ => trivial) ?_
  refine z_sub (lv2 := [(0, .ref (b0 + x0))]) [0] rfl ?_
  refine z_guard (fun _ => ?_)
  refine z_aload_n 1 0 dX1_init_0 rfl rfl ?_
  refine z_objInit 4 w_39 wm_Lib_objectInit wc_Lib_objectInit (Nat.le_of_ble_eq_true rfl) (Nat.le_of_ble_eq_true rfl) dX1_init_1 rfl ?_
  refine z_aload_n 5 0 dX1_init_4 rfl rfl ?_
  refine z_bipush (nI 32) 7 zkb_32 dX1_init_5 rfl ?_
  refine z_newA_int 9 wa_int dX1_init_7 rfl (fun q1 => ?_)
  refine z_putF 12 zC1 (Nat.le_of_ble_eq_true rfl) rfl rfl rfl rfl rfl (Or.inl ⟨_, rfl⟩) w_40 dX1_init_9 rfl (fun h2 _ => ?_)
  exact z_return dX1_init_12 rfl
-- X6_init
def fX6_init (x0 : Nat) (h : ZH) : Option (ZH) :=
  if x0 < zn h ∧ zK h x0 = 6 then ((zala h 14 (nI 256)).bind fun q1 =>
  (pR q1.2 6 x0 0 q1.1).bind fun h2 =>
  (zala h2 14 (nI 256)).bind fun q3 =>
  (pR q3.2 6 x0 1 q3.1).bind fun h4 =>
  (zala h4 14 (nI 1024)).bind fun q5 =>
  (pR q5.2 6 x0 2 q5.1).bind fun h6 =>
  (zala h6 14 (nI 256)).bind fun q7 =>
  (pR q7.2 6 x0 3 q7.1).bind fun h8 =>
  (zala h8 14 (nI 8)).bind fun q9 =>
  (pR q9.2 6 x0 4 q9.1).bind fun h10 =>
  some h10) else none
theorem kX6_init {x0 : Nat} {h : ZH} {x : ZH} (e : fX6_init x0 h = some x) : x0 < zn h ∧ zK h x0 = 6 := by
  unfold fX6_init at e
  exact zguard e
theorem mX6_init (b0 : Nat) (x0 : Nat) (h : ZH) : ZM zv b0 YX6_init 2 [.ref (b0 + x0)] h (fX6_init x0 h) := by
  unfold fX6_init
  refine ZM.of (by decide) rfl (Nat.le_of_ble_eq_true rfl) (fun _ => trivial) ?_
  refine z_sub (lv2 := [(0, .ref (b0 + x0))]) [0] rfl ?_
  refine z_guard (fun _ => ?_)
  refine z_aload_n 1 0 dX6_init_0 rfl rfl ?_
  refine z_objInit 4 w_80 wm_Lib_objectInit wc_Lib_objectInit (Nat.le_of_ble_eq_true rfl) (Nat.le_of_ble_eq_true rfl) dX6_init_1 rfl ?_
  refine z_aload_n 5 0 dX6_init_4 rfl rfl ?_
  refine z_sipush (nI 256) 8 zks_256 dX6_init_5 rfl ?_
  refine z_newA_int 10 wa_int dX6_init_8 rfl (fun q1 => ?_)
  refine z_putF 13 zC6 (Nat.le_of_ble_eq_true rfl) rfl rfl rfl rfl rfl (Or.inl ⟨_, rfl⟩) w_81 dX6_init_10 rfl (fun h2 _ => ?_)
  refine z_aload_n 14 0 dX6_init_13 rfl rfl ?_
  refine z_sipush (nI 256) 17 zks_256 dX6_init_14 rfl ?_
  refine z_newA_int 19 wa_int dX6_init_17 rfl (fun q3 => ?_)
  refine z_putF 22 zC6 (Nat.le_of_ble_eq_true rfl) rfl rfl rfl rfl rfl (Or.inl ⟨_, rfl⟩) w_82 dX6_init_19 rfl (fun h4 _ => ?_)
  refine z_aload_n 23 0 dX6_init_22 rfl rfl ?_
  refine z_sipush (nI 1024) 26 zks_1024 dX6_init_23 rfl ?_
  refine z_newA_int 28 wa_int dX6_init_26 rfl (fun q5 => ?_)
  refine z_putF 31 zC6 (Nat.le_of_ble_eq_true rfl) rfl rfl rfl rfl rfl (Or.inl ⟨_, rfl⟩) w_83 dX6_init_28 rfl (fun h6 _ => ?_)
  refine z_aload_n 32 0 dX6_init_31 rfl rfl ?_
  refine z_sipush (nI 256) 35 zks_256 dX6_init_32 rfl ?_
  refine z_newA_int 37 wa_int dX6_init_35 rfl (fun q7 => ?_)
  refine z_putF 40 zC6 (Nat.le_of_ble_eq_true rfl) rfl rfl rfl rfl rfl (Or.inl ⟨_, rfl⟩) w_84 dX6_init_37 rfl (fun h8 _ => ?_)
  refine z_aload_n 41 0 dX6_init_40 rfl rfl ?_
  refine z_bipush (nI 8) 43 zkb_8 dX6_init_41 rfl ?_
  refine z_newA_int 45 wa_int dX6_init_43 rfl (fun q9 => ?_)
  refine z_putF 48 zC6 (Nat.le_of_ble_eq_true rfl) rfl rfl rfl rfl rfl (Or.inl ⟨_, rfl⟩) w_85 dX6_init_45 rfl (fun h10 _ => ?_)
  exact z_return dX6_init_48 rfl
-- X0_init
def fX0_init (x0 : Nat) (h : ZH) : Option (ZH) :=
  if x0 < zn h ∧ zK h x0 = 0 then ((zala h 14 (nI 256)).bind fun q1 =>
  (pR q1.2 0 x0 0 q1.1).bind fun h2 =>
  (zala h2 16 (nI 256)).bind fun q3 =>
  (pR q3.2 0 x0 2 q3.1).bind fun h4 =>
  (zala h4 14 (nI 256)).bind fun q5 =>
  (pR q5.2 0 x0 3 q5.1).bind fun h6 =>
  (zala h6 14 (nI 256)).bind fun q7 =>
  (pR q7.2 0 x0 4 q7.1).bind fun h8 =>
  (zala h8 14 (nI 8)).bind fun q9 =>
  (pR q9.2 0 x0 5 q9.1).bind fun h10 =>
  (zal h10 1 1).bind fun q11 =>
  (fX1_init q11.1 q11.2).bind fun h12 =>
  (pR h12 0 x0 7 q11.1).bind fun h13 =>
  (zal h13 6 6).bind fun q14 =>
  (fX6_init q14.1 q14.2).bind fun h15 =>
  (pR h15 0 x0 8 q14.1).bind fun h16 =>
  (zala h16 14 (nI 8)).bind fun q17 =>
  (pR q17.2 0 x0 10 q17.1).bind fun h18 =>
  (zala h18 14 (nI 8)).bind fun q19 =>
  (pR q19.2 0 x0 11 q19.1).bind fun h20 =>
  (zal h20 1 1).bind fun q21 =>
  (fX1_init q21.1 q21.2).bind fun h22 =>
  (pR h22 0 x0 12 q21.1).bind fun h23 =>
  some h23) else none
theorem kX0_init {x0 : Nat} {h : ZH} {x : ZH} (e : fX0_init x0 h = some x) : x0 < zn h ∧ zK h x0 = 0 := by
  unfold fX0_init at e
  exact zguard e
theorem mX0_init (b0 : Nat) (x0 : Nat) (h : ZH) : ZM zv b0 YX0_init 3 [.ref (b0 + x0)] h (fX0_init x0 h) := by
  unfold fX0_init
  refine ZM.of (by decide) rfl (Nat.le_of_ble_eq_true rfl) (fun _ => trivial) ?_
  refine z_sub (lv2 := [(0, .ref (b0 + x0))]) [0] rfl ?_
  refine z_guard (fun _ => ?_)
  refine z_aload_n 1 0 dX0_init_0 rfl rfl ?_
  refine z_objInit 4 w_138 wm_Lib_objectInit wc_Lib_objectInit (Nat.le_of_ble_eq_true rfl) (Nat.le_of_ble_eq_true rfl) dX0_init_1 rfl ?_
  refine z_aload_n 5 0 dX0_init_4 rfl rfl ?_
  refine z_sipush (nI 256) 8 zks_256 dX0_init_5 rfl ?_
  refine z_newA_int 10 wa_int dX0_init_8 rfl (fun q1 => ?_)
  refine z_putF 13 zC0 (Nat.le_of_ble_eq_true rfl) rfl rfl rfl rfl rfl (Or.inl ⟨_, rfl⟩) w_143 dX0_init_10 rfl (fun h2 _ => ?_)
  refine z_aload_n 14 0 dX0_init_13 rfl rfl ?_
  refine z_sipush (nI 256) 17 zks_256 dX0_init_14 rfl ?_
  refine z_newA_boolean 19 wa_boolean dX0_init_17 rfl (fun q3 => ?_)
  refine z_putF 22 zC0 (Nat.le_of_ble_eq_true rfl) rfl rfl rfl rfl rfl (Or.inl ⟨_, rfl⟩) w_145 dX0_init_19 rfl (fun h4 _ => ?_)
  refine z_aload_n 23 0 dX0_init_22 rfl rfl ?_
  refine z_sipush (nI 256) 26 zks_256 dX0_init_23 rfl ?_
  refine z_newA_int 28 wa_int dX0_init_26 rfl (fun q5 => ?_)
  refine z_putF 31 zC0 (Nat.le_of_ble_eq_true rfl) rfl rfl rfl rfl rfl (Or.inl ⟨_, rfl⟩) w_146 dX0_init_28 rfl (fun h6 _ => ?_)
  refine z_aload_n 32 0 dX0_init_31 rfl rfl ?_
  refine z_sipush (nI 256) 35 zks_256 dX0_init_32 rfl ?_
  refine z_newA_int 37 wa_int dX0_init_35 rfl (fun q7 => ?_)
  refine z_putF 40 zC0 (Nat.le_of_ble_eq_true rfl) rfl rfl rfl rfl rfl (Or.inl ⟨_, rfl⟩) w_147 dX0_init_37 rfl (fun h8 _ => ?_)
  refine z_aload_n 41 0 dX0_init_40 rfl rfl ?_
  refine z_bipush (nI 8) 43 zkb_8 dX0_init_41 rfl ?_
  refine z_newA_int 45 wa_int dX0_init_43 rfl (fun q9 => ?_)
  refine z_putF 48 zC0 (Nat.le_of_ble_eq_true rfl) rfl rfl rfl rfl rfl (Or.inl ⟨_, rfl⟩) w_148 dX0_init_45 rfl (fun h10 _ => ?_)
  refine z_aload_n 49 0 dX0_init_48 rfl rfl ?_
  refine z_newO 52 zC1 zdf1 w_139 wn_1 wi_RX1 dX0_init_49 rfl (fun q11 => ?_)
  refine z_dup 53 rfl dX0_init_52 rfl ?_
  refine z_callINv 56 (mX1_init b0 q11.1 q11.2) zyX1_init rfl (List.mem_of_getElem? (i := 6) rfl) rfl rfl wm_yX1_init (Nat.le_of_ble_eq_true rfl) rfl (Nat.le_of_ble_eq_true rfl) dX0_init_53 rfl (fun h12 => ?_)
  refine z_putF 59 zC0 (Nat.le_of_ble_eq_true rfl) rfl rfl rfl rfl rfl (Or.inr ⟨_, rfl⟩) w_150 dX0_init_56 rfl (fun h13 _ => ?_)
  refine z_aload_n 60 0 dX0_init_59 rfl rfl ?_
  refine z_newO 63 zC6 zdf6 w_141 wn_6 wi_RX6 dX0_init_60 rfl (fun q14 => ?_)
  refine z_dup 64 rfl dX0_init_63 rfl ?_
  refine z_callINv 67 (mX6_init b0 q14.1 q14.2) zyX6_init rfl (List.mem_of_getElem? (i := 7) rfl) rfl rfl wm_yX6_init (Nat.le_of_ble_eq_true rfl) rfl (Nat.le_of_ble_eq_true rfl) dX0_init_64 rfl (fun h15 => ?_)
  refine z_putF 70 zC0 (Nat.le_of_ble_eq_true rfl) rfl rfl rfl rfl rfl (Or.inr ⟨_, rfl⟩) w_151 dX0_init_67 rfl (fun h16 _ => ?_)
  refine z_aload_n 71 0 dX0_init_70 rfl rfl ?_
  refine z_bipush (nI 8) 73 zkb_8 dX0_init_71 rfl ?_
  refine z_newA_int 75 wa_int dX0_init_73 rfl (fun q17 => ?_)
  refine z_putF 78 zC0 (Nat.le_of_ble_eq_true rfl) rfl rfl rfl rfl rfl (Or.inl ⟨_, rfl⟩) w_153 dX0_init_75 rfl (fun h18 _ => ?_)
  refine z_aload_n 79 0 dX0_init_78 rfl rfl ?_
  refine z_bipush (nI 8) 81 zkb_8 dX0_init_79 rfl ?_
  refine z_newA_int 83 wa_int dX0_init_81 rfl (fun q19 => ?_)
  refine z_putF 86 zC0 (Nat.le_of_ble_eq_true rfl) rfl rfl rfl rfl rfl (Or.inl ⟨_, rfl⟩) w_154 dX0_init_83 rfl (fun h20 _ => ?_)
  refine z_aload_n 87 0 dX0_init_86 rfl rfl ?_
  refine z_newO 90 zC1 zdf1 w_139 wn_1 wi_RX1 dX0_init_87 rfl (fun q21 => ?_)
  refine z_dup 91 rfl dX0_init_90 rfl ?_
  refine z_callINv 94 (mX1_init b0 q21.1 q21.2) zyX1_init rfl (List.mem_of_getElem? (i := 6) rfl) rfl rfl wm_yX1_init (Nat.le_of_ble_eq_true rfl) rfl (Nat.le_of_ble_eq_true rfl) dX0_init_91 rfl (fun h22 => ?_)
  refine z_putF 97 zC0 (Nat.le_of_ble_eq_true rfl) rfl rfl rfl rfl rfl (Or.inr ⟨_, rfl⟩) w_155 dX0_init_94 rfl (fun h23 _ => ?_)
  exact z_return dX0_init_97 rfl
-- X0_clearMarks
def kX0_clearMarks_2 (x0 : Nat) (self2 : Int32 × ZH → Option (ZH)) (x1 : Int32) (h : ZH) : Option (ZH) :=
  if (nI 256) ≤ x1 then (some h) else
  ((gR h 0 x0 2).bind fun v2 =>
  (sI h 16 v2 x1 (nI 0)).bind fun h3 =>
  self2 ((x1 + (nI 1)), h3))
def lX0_clearMarks_2 (x0 : Nat) : (Int32 × ZH → Option (ZH)) → Int32 × ZH → Option (ZH) := fun self s => kX0_clearMarks_2 x0 self s.1 s.2
theorem KX0_clearMarks_2 (b0 : Nat) (x0 : Nat) (self2 : Int32 × ZH → Option (ZH)) (hself2 : ∀ (y1 : Int32) (hh : ZH), Zr zv b0 YX0_clearMarks 1 2 [(0, .ref (b0 + x0)), (1, .int y1)] [] hh (self2 (y1, hh))) (x1 : Int32) (h : ZH) : Zr zv b0 YX0_clearMarks 1 2 [(0, .ref (b0 + x0)), (1, .int x1)] [] h (kX0_clearMarks_2 x0 self2 x1 h) := by
  unfold kX0_clearMarks_2
  refine z_iload_n 3 1 dX0_clearMarks_2 rfl rfl ?_
  refine z_sipush (nI 256) 6 zks_256 dX0_clearMarks_3 rfl ?_
  refine z_icmp_ge 22 9 dX0_clearMarks_6 (by decide) rfl (fun c1 => ?_) (fun c1 => ?_)
  · exact z_return dX0_clearMarks_22 rfl
  · refine z_aload_n 10 0 dX0_clearMarks_9 rfl rfl ?_
    refine z_getR 13 zC0 (Nat.le_of_ble_eq_true rfl) rfl w_145 dX0_clearMarks_10 rfl (fun v2 _ => ?_)
    refine z_iload_n 14 1 dX0_clearMarks_13 rfl rfl ?_
    refine z_iconst (nI 0) 15 zki_0 dX0_clearMarks_14 rfl ?_
    refine z_zastore 16 dX0_clearMarks_15 rfl (fun h3 _ => ?_)
    refine z_iinc (lv2 := [(1, .int (x1 + (nI 1))), (0, .ref (b0 + x0))]) (nI 1) 19 1 dX0_clearMarks_16 rfl rfl zki_1 (Nat.le_of_ble_eq_true rfl) rfl ?_
    refine z_goto 2 dX0_clearMarks_19 (by decide) ?_
    exact z_sub [1, 0] rfl (hself2 (x1 + (nI 1)) h3)
theorem BX0_clearMarks_2 (b0 : Nat) (x0 : Nat) (n : Nat) (x1 : Int32) (h : ZH) : Zr zv b0 YX0_clearMarks 1 2 [(0, .ref (b0 + x0)), (1, .int x1)] [] h (zloop (lX0_clearMarks_2 x0) n (x1, h)) :=
  zloop_Zr (fun s => [(0, .ref (b0 + x0)), (1, .int s.1)]) (fun _ => []) (fun s => s.2) (lX0_clearMarks_2 x0) (fun self hs s => KX0_clearMarks_2 b0 x0 self (fun y1 hh => hs (y1, hh)) s.1 s.2) n (x1, h)
def fX0_clearMarks (x0 : Nat) (h : ZH) : Option (ZH) :=
  if x0 < zn h ∧ zK h x0 = 0 then (zloop (lX0_clearMarks_2 x0) zfu ((nI 0), h)) else none
theorem kX0_clearMarks {x0 : Nat} {h : ZH} {x : ZH} (e : fX0_clearMarks x0 h = some x) : x0 < zn h ∧ zK h x0 = 0 := by
  unfold fX0_clearMarks at e
  exact zguard e
theorem mX0_clearMarks (b0 : Nat) (x0 : Nat) (h : ZH) : ZM zv b0 YX0_clearMarks 1 [.ref (b0 + x0)] h (fX0_clearMarks x0 h) := by
  unfold fX0_clearMarks
  refine ZM.of (by decide) rfl (Nat.le_of_ble_eq_true rfl) (fun _ => trivial) ?_
  refine z_sub (lv2 := [(0, .ref (b0 + x0))]) [0] rfl ?_
  refine z_guard (fun _ => ?_)
  refine z_iconst (nI 0) 1 zki_0 dX0_clearMarks_0 rfl ?_
  refine z_istore_n (lv2 := [(1, .int (nI 0)), (0, .ref (b0 + x0))]) 2 dX0_clearMarks_1 rfl (Nat.le_of_ble_eq_true rfl) rfl ?_
  exact z_sub [1, 0] rfl (BX0_clearMarks_2 b0 x0 zfu (nI 0) h)
-- X0_collect
def bX0_collect_57 (h : ZH) : Option (ZH) :=
  some h
theorem BX0_collect_57 (b0 : Nat) (h : ZH) : Zr zv b0 YX0_collect 1 57 [] [] h (bX0_collect_57 h) := by
  unfold bX0_collect_57
  exact z_return dX0_collect_57 rfl
def fX0_collect (x0 : Nat) (x1 : Int32) (h : ZH) : Option (ZH) :=
  if x0 < zn h ∧ zK h x0 = 0 then (if x1 < 0 then (bX0_collect_57 h) else
  (if (nI 255) ≤ x1 then (bX0_collect_57 h) else
  ((gR h 0 x0 2).bind fun v3 =>
  (lI h 16 v3 x1).bind fun v4 =>
  if v4 = 0 then ((gI h 0 x0 1).bind fun v6 =>
  if (nI 255) ≤ v6 then (bX0_collect_57 h) else
  ((gR h 0 x0 2).bind fun v8 =>
  (sI h 16 v8 x1 (nI 1)).bind fun h9 =>
  (gR h9 0 x0 0).bind fun v10 =>
  (gI h9 0 x0 1).bind fun v11 =>
  (sI h9 14 v10 v11 x1).bind fun h12 =>
  (gI h12 0 x0 1).bind fun v13 =>
  (pI h12 0 x0 1 (v13 + (nI 1))).bind fun h14 =>
  bX0_collect_57 h14)) else
  (bX0_collect_57 h)))) else none
theorem kX0_collect {x0 : Nat} {x1 : Int32} {h : ZH} {x : ZH} (e : fX0_collect x0 x1 h = some x) : x0 < zn h ∧ zK h x0 = 0 := by
  unfold fX0_collect at e
  exact zguard e
theorem mX0_collect (b0 : Nat) (x0 : Nat) (x1 : Int32) (h : ZH) : ZM zv b0 YX0_collect 1 [.ref (b0 + x0), .int x1] h (fX0_collect x0 x1 h) := by
  unfold fX0_collect
  refine ZM.of (by decide) rfl (Nat.le_of_ble_eq_true rfl) (fun _ => trivial) ?_
  refine z_sub (lv2 := [(0, .ref (b0 + x0)), (1, .int x1)]) [0, 1] rfl ?_
  refine z_guard (fun _ => ?_)
  refine z_iload_n 1 1 dX0_collect_0 rfl rfl ?_
  refine z_if_lt 57 4 dX0_collect_1 (by decide) rfl (fun c1 => ?_) (fun c1 => ?_)
  · exact z_sub [] rfl (BX0_collect_57 b0 h )
  · refine z_iload_n 5 1 dX0_collect_4 rfl rfl ?_
    refine z_sipush (nI 255) 8 zks_255 dX0_collect_5 rfl ?_
    refine z_icmp_ge 57 11 dX0_collect_8 (by decide) rfl (fun c2 => ?_) (fun c2 => ?_)
    · exact z_sub [] rfl (BX0_collect_57 b0 h )
    · refine z_aload_n 12 0 dX0_collect_11 rfl rfl ?_
      refine z_getR 15 zC0 (Nat.le_of_ble_eq_true rfl) rfl w_145 dX0_collect_12 rfl (fun v3 _ => ?_)
      refine z_iload_n 16 1 dX0_collect_15 rfl rfl ?_
      refine z_zaload 17 dX0_collect_16 rfl (fun v4 _ => ?_)
      refine z_if_ne 57 20 dX0_collect_17 (by decide) rfl (fun c5 => ?_) (fun c5 => ?_)
      · exact z_sub [] rfl (BX0_collect_57 b0 h )
      · refine z_aload_n 21 0 dX0_collect_20 rfl rfl ?_
        refine z_getI 24 zC0 (Nat.le_of_ble_eq_true rfl) rfl w_144 dX0_collect_21 rfl (fun v6 _ => ?_)
        refine z_sipush (nI 255) 27 zks_255 dX0_collect_24 rfl ?_
        refine z_icmp_ge 57 30 dX0_collect_27 (by decide) rfl (fun c7 => ?_) (fun c7 => ?_)
        · exact z_sub [] rfl (BX0_collect_57 b0 h )
        · refine z_aload_n 31 0 dX0_collect_30 rfl rfl ?_
          refine z_getR 34 zC0 (Nat.le_of_ble_eq_true rfl) rfl w_145 dX0_collect_31 rfl (fun v8 _ => ?_)
          refine z_iload_n 35 1 dX0_collect_34 rfl rfl ?_
          refine z_iconst (nI 1) 36 zki_1 dX0_collect_35 rfl ?_
          refine z_zastore 37 dX0_collect_36 rfl (fun h9 _ => ?_)
          refine z_aload_n 38 0 dX0_collect_37 rfl rfl ?_
          refine z_getR 41 zC0 (Nat.le_of_ble_eq_true rfl) rfl w_143 dX0_collect_38 rfl (fun v10 _ => ?_)
          refine z_aload_n 42 0 dX0_collect_41 rfl rfl ?_
          refine z_getI 45 zC0 (Nat.le_of_ble_eq_true rfl) rfl w_144 dX0_collect_42 rfl (fun v11 _ => ?_)
          refine z_iload_n 46 1 dX0_collect_45 rfl rfl ?_
          refine z_iastore 47 dX0_collect_46 rfl (fun h12 _ => ?_)
          refine z_aload_n 48 0 dX0_collect_47 rfl rfl ?_
          refine z_dup 49 rfl dX0_collect_48 rfl ?_
          refine z_getI 52 zC0 (Nat.le_of_ble_eq_true rfl) rfl w_144 dX0_collect_49 rfl (fun v13 _ => ?_)
          refine z_iconst (nI 1) 53 zki_1 dX0_collect_52 rfl ?_
          refine z_iadd 54 dX0_collect_53 rfl ?_
          refine z_putI 57 zC0 (Nat.le_of_ble_eq_true rfl) rfl rfl rfl w_144 dX0_collect_54 rfl (fun h14 _ => ?_)
          exact z_sub [] rfl (BX0_collect_57 b0 h14 )
-- X6_after
def bX6_after_47 (t0 : Int32) (h : ZH) : Option (Int32 × ZH) :=
  some (t0, h)
theorem BX6_after_47 (b0 : Nat) (t0 : Int32) (h : ZH) : Zr zi b0 YX6_after 1 47 [] [.int t0] h (bX6_after_47 t0 h) := by
  unfold bX6_after_47
  exact z_ireturn dX6_after_47 rfl
def bX6_after_26 (x0 : Nat) (x1 : Int32) (x2 : Int32) (t0 : Int32) (h : ZH) : Option (Int32 × ZH) :=
  if t0 = 0 then (bX6_after_47 (nI 255) h) else
  ((gR h 6 x0 2).bind fun v2 =>
  (lI h 14 v2 (((nI 4) * x1) + x2)).bind fun v3 =>
  bX6_after_47 v3 h)
theorem BX6_after_26 (b0 : Nat) (x0 : Nat) (x1 : Int32) (x2 : Int32) (t0 : Int32) (h : ZH) : Zr zi b0 YX6_after 1 26 [(0, .ref (b0 + x0)), (1, .int x1), (2, .int x2)] [.int t0] h (bX6_after_26 x0 x1 x2 t0 h) := by
  unfold bX6_after_26
  refine z_istore_n (lv2 := [(3, .int t0), (0, .ref (b0 + x0)), (1, .int x1), (2, .int x2)]) 27 dX6_after_26 rfl (Nat.le_of_ble_eq_true rfl) rfl ?_
  refine z_iload_n 28 0 dX6_after_27 rfl rfl ?_
  refine z_if_eq 44 31 dX6_after_28 (by decide) rfl (fun c1 => ?_) (fun c1 => ?_)
  · refine z_sipush (nI 255) 47 zks_255 dX6_after_44 rfl ?_
    exact z_sub [] rfl (BX6_after_47 b0 (nI 255) h )
  · refine z_aload_n 32 1 dX6_after_31 rfl rfl ?_
    refine z_getR 35 zC6 (Nat.le_of_ble_eq_true rfl) rfl w_83 dX6_after_32 rfl (fun v2 _ => ?_)
    refine z_iconst (nI 4) 36 zki_4 dX6_after_35 rfl ?_
    refine z_iload_n 37 2 dX6_after_36 rfl rfl ?_
    refine z_imul 38 dX6_after_37 rfl ?_
    refine z_iload_n 39 3 dX6_after_38 rfl rfl ?_
    refine z_iadd 40 dX6_after_39 rfl ?_
    refine z_iaload 41 dX6_after_40 rfl (fun v3 _ => ?_)
    refine z_goto 47 dX6_after_41 (by decide) ?_
    exact z_sub [] rfl (BX6_after_47 b0 v3 h )
def bX6_after_25 (x0 : Nat) (x1 : Int32) (x2 : Int32) (h : ZH) : Option (Int32 × ZH) :=
  bX6_after_26 x0 x1 x2 (nI 0) h
theorem BX6_after_25 (b0 : Nat) (x0 : Nat) (x1 : Int32) (x2 : Int32) (h : ZH) : Zr zi b0 YX6_after 1 25 [(0, .ref (b0 + x0)), (1, .int x1), (2, .int x2)] [] h (bX6_after_25 x0 x1 x2 h) := by
  unfold bX6_after_25
  refine z_iconst (nI 0) 26 zki_0 dX6_after_25 rfl ?_
  exact z_sub [0, 1, 2] rfl (BX6_after_26 b0 x0 x1 x2 (nI 0) h )
def fX6_after (x0 : Nat) (x1 : Int32) (x2 : Int32) (h : ZH) : Option (Int32 × ZH) :=
  if x0 < zn h ∧ zK h x0 = 6 then (if x1 < 0 then (bX6_after_25 x0 x1 x2 h) else
  ((gI h 6 x0 5).bind fun v2 =>
  if v2 ≤ x1 then (bX6_after_25 x0 x1 x2 h) else
  (if x2 < 0 then (bX6_after_25 x0 x1 x2 h) else
  (if (nI 4) ≤ x2 then (bX6_after_25 x0 x1 x2 h) else
  (bX6_after_26 x0 x1 x2 (nI 1) h))))) else none
theorem kX6_after {x0 : Nat} {x1 : Int32} {x2 : Int32} {h : ZH} {x : Int32 × ZH} (e : fX6_after x0 x1 x2 h = some x) : x0 < zn h ∧ zK h x0 = 6 := by
  unfold fX6_after at e
  exact zguard e
theorem mX6_after (b0 : Nat) (x0 : Nat) (x1 : Int32) (x2 : Int32) (h : ZH) : ZM zi b0 YX6_after 1 [.ref (b0 + x0), .int x1, .int x2] h (fX6_after x0 x1 x2 h) := by
  unfold fX6_after
  refine ZM.of (by decide) rfl (Nat.le_of_ble_eq_true rfl) (fun _ => trivial) ?_
  refine z_sub (lv2 := [(0, .ref (b0 + x0)), (1, .int x1), (2, .int x2)]) [0, 1, 2] rfl ?_
  refine z_guard (fun _ => ?_)
  refine z_iload_n 1 1 dX6_after_0 rfl rfl ?_
  refine z_if_lt 25 4 dX6_after_1 (by decide) rfl (fun c1 => ?_) (fun c1 => ?_)
  · exact z_sub [0, 1, 2] rfl (BX6_after_25 b0 x0 x1 x2 h )
  · refine z_iload_n 5 1 dX6_after_4 rfl rfl ?_
    refine z_aload_n 6 0 dX6_after_5 rfl rfl ?_
    refine z_getI 9 zC6 (Nat.le_of_ble_eq_true rfl) rfl w_86 dX6_after_6 rfl (fun v2 _ => ?_)
    refine z_icmp_ge 25 12 dX6_after_9 (by decide) rfl (fun c3 => ?_) (fun c3 => ?_)
    · exact z_sub [0, 1, 2] rfl (BX6_after_25 b0 x0 x1 x2 h )
    · refine z_iload_n 13 2 dX6_after_12 rfl rfl ?_
      refine z_if_lt 25 16 dX6_after_13 (by decide) rfl (fun c4 => ?_) (fun c4 => ?_)
      · exact z_sub [0, 1, 2] rfl (BX6_after_25 b0 x0 x1 x2 h )
      · refine z_iload_n 17 2 dX6_after_16 rfl rfl ?_
        refine z_iconst (nI 4) 18 zki_4 dX6_after_17 rfl ?_
        refine z_icmp_ge 25 21 dX6_after_18 (by decide) rfl (fun c5 => ?_) (fun c5 => ?_)
        · exact z_sub [0, 1, 2] rfl (BX6_after_25 b0 x0 x1 x2 h )
        · refine z_iconst (nI 1) 22 zki_1 dX6_after_21 rfl ?_
          refine z_goto 26 dX6_after_22 (by decide) ?_
          exact z_sub [0, 1, 2] rfl (BX6_after_26 b0 x0 x1 x2 (nI 1) h )
-- X0_collectFrom
def bX0_collectFrom_68 (h : ZH) : Option (ZH) :=
  some h
theorem BX0_collectFrom_68 (b0 : Nat) (h : ZH) : Zr zv b0 YX0_collectFrom 2 68 [] [] h (bX0_collectFrom_68 h) := by
  unfold bX0_collectFrom_68
  exact z_return dX0_collectFrom_68 rfl
def kX0_collectFrom_34 (self16 : Int32 × ZH → Option (ZH)) (x0 : Nat) (x1 : Nat) (x3 : Int32) (self34 : Int32 × ZH → Option (ZH)) (x4 : Int32) (h : ZH) : Option (ZH) :=
  if (nI 4) ≤ x4 then (self16 ((x3 + (nI 1)), h)) else
  ((gR h 0 x0 0).bind fun v2 =>
  (lI h 14 v2 x3).bind fun v3 =>
  (fX6_after x1 v3 x4 h).bind fun q4 =>
  (fX0_collect x0 q4.1 q4.2).bind fun h5 =>
  self34 ((x4 + (nI 1)), h5))
def lX0_collectFrom_34 (self16 : Int32 × ZH → Option (ZH)) (x0 : Nat) (x1 : Nat) (x3 : Int32) : (Int32 × ZH → Option (ZH)) → Int32 × ZH → Option (ZH) := fun self s => kX0_collectFrom_34 self16 x0 x1 x3 self s.1 s.2
theorem KX0_collectFrom_34 (b0 : Nat) (self16 : Int32 × ZH → Option (ZH)) (x0 : Nat) (x1 : Nat) (x3 : Int32) (hself16 : ∀ (y3 : Int32) (hh : ZH), Zr zv b0 YX0_collectFrom 2 16 [(0, .ref (b0 + x0)), (1, .ref (b0 + x1)), (3, .int y3)] [] hh (self16 (y3, hh))) (self34 : Int32 × ZH → Option (ZH)) (hself34 : ∀ (y4 : Int32) (hh : ZH), Zr zv b0 YX0_collectFrom 2 34 [(0, .ref (b0 + x0)), (1, .ref (b0 + x1)), (3, .int x3), (4, .int y4)] [] hh (self34 (y4, hh))) (x4 : Int32) (h : ZH) : Zr zv b0 YX0_collectFrom 2 34 [(0, .ref (b0 + x0)), (1, .ref (b0 + x1)), (3, .int x3), (4, .int x4)] [] h (kX0_collectFrom_34 self16 x0 x1 x3 self34 x4 h) := by
  unfold kX0_collectFrom_34
  refine z_iload 36 3 dX0_collectFrom_34 rfl rfl ?_
  refine z_iconst (nI 4) 37 zki_4 dX0_collectFrom_36 rfl ?_
  refine z_icmp_ge 62 40 dX0_collectFrom_37 (by decide) rfl (fun c1 => ?_) (fun c1 => ?_)
  · refine z_iinc (lv2 := [(3, .int (x3 + (nI 1))), (0, .ref (b0 + x0)), (1, .ref (b0 + x1)), (4, .int x4)]) (nI 1) 65 2 dX0_collectFrom_62 rfl rfl zki_1 (Nat.le_of_ble_eq_true rfl) rfl ?_
    refine z_goto 16 dX0_collectFrom_65 (by decide) ?_
    exact z_sub [1, 2, 0] rfl (hself16 (x3 + (nI 1)) h)
  · refine z_aload_n 41 0 dX0_collectFrom_40 rfl rfl ?_
    refine z_aload_n 42 1 dX0_collectFrom_41 rfl rfl ?_
    refine z_aload_n 43 0 dX0_collectFrom_42 rfl rfl ?_
    refine z_getR 46 zC0 (Nat.le_of_ble_eq_true rfl) rfl w_143 dX0_collectFrom_43 rfl (fun v2 _ => ?_)
    refine z_iload_n 47 2 dX0_collectFrom_46 rfl rfl ?_
    refine z_iaload 48 dX0_collectFrom_47 rfl (fun v3 _ => ?_)
    refine z_iload 50 3 dX0_collectFrom_48 rfl rfl ?_
    refine z_callVi 53 (mX6_after b0 x1 v3 x4 h) zyX6_after rfl w_656 (ci := 6) rfl (Nat.le_of_ble_eq_true rfl) (fun _ e9 => kX6_after e9) wm_yX6_after ws_yX6_after (Nat.le_of_ble_eq_true rfl) rfl (Nat.le_of_ble_eq_true rfl) dX0_collectFrom_50 rfl (fun q4 => ?_)
    refine z_callVv 56 (mX0_collect b0 x0 q4.1 q4.2) zyX0_collect rfl w_652 (ci := 0) rfl (Nat.le_of_ble_eq_true rfl) (fun _ e9 => kX0_collect e9) wm_yX0_collect ws_yX0_collect (Nat.le_of_ble_eq_true rfl) rfl (Nat.le_of_ble_eq_true rfl) dX0_collectFrom_53 rfl (fun h5 => ?_)
    refine z_iinc (lv2 := [(4, .int (x4 + (nI 1))), (0, .ref (b0 + x0)), (1, .ref (b0 + x1)), (3, .int x3)]) (nI 1) 59 3 dX0_collectFrom_56 rfl rfl zki_1 (Nat.le_of_ble_eq_true rfl) rfl ?_
    refine z_goto 34 dX0_collectFrom_59 (by decide) ?_
    exact z_sub [1, 2, 3, 0] rfl (hself34 (x4 + (nI 1)) h5)
theorem BX0_collectFrom_34 (b0 : Nat) (self16 : Int32 × ZH → Option (ZH)) (x0 : Nat) (x1 : Nat) (x3 : Int32) (hself16 : ∀ (y3 : Int32) (hh : ZH), Zr zv b0 YX0_collectFrom 2 16 [(0, .ref (b0 + x0)), (1, .ref (b0 + x1)), (3, .int y3)] [] hh (self16 (y3, hh))) (n : Nat) (x4 : Int32) (h : ZH) : Zr zv b0 YX0_collectFrom 2 34 [(0, .ref (b0 + x0)), (1, .ref (b0 + x1)), (3, .int x3), (4, .int x4)] [] h (zloop (lX0_collectFrom_34 self16 x0 x1 x3) n (x4, h)) :=
  zloop_Zr (fun s => [(0, .ref (b0 + x0)), (1, .ref (b0 + x1)), (3, .int x3), (4, .int s.1)]) (fun _ => []) (fun s => s.2) (lX0_collectFrom_34 self16 x0 x1 x3) (fun self hs s => KX0_collectFrom_34 b0 self16 x0 x1 x3 hself16 self (fun y4 hh => hs (y4, hh)) s.1 s.2) n (x4, h)
def kX0_collectFrom_16 (x0 : Nat) (x1 : Nat) (self16 : Int32 × ZH → Option (ZH)) (x3 : Int32) (h : ZH) : Option (ZH) :=
  (gI h 0 x0 1).bind fun v1 =>
  if v1 ≤ x3 then (bX0_collectFrom_68 h) else
  (if (nI 255) ≤ x3 then (bX0_collectFrom_68 h) else
  (zloop (lX0_collectFrom_34 self16 x0 x1 x3) zfu ((nI 0), h)))
def lX0_collectFrom_16 (x0 : Nat) (x1 : Nat) : (Int32 × ZH → Option (ZH)) → Int32 × ZH → Option (ZH) := fun self s => kX0_collectFrom_16 x0 x1 self s.1 s.2
theorem KX0_collectFrom_16 (b0 : Nat) (x0 : Nat) (x1 : Nat) (self16 : Int32 × ZH → Option (ZH)) (hself16 : ∀ (y3 : Int32) (hh : ZH), Zr zv b0 YX0_collectFrom 2 16 [(0, .ref (b0 + x0)), (1, .ref (b0 + x1)), (3, .int y3)] [] hh (self16 (y3, hh))) (x3 : Int32) (h : ZH) : Zr zv b0 YX0_collectFrom 2 16 [(0, .ref (b0 + x0)), (1, .ref (b0 + x1)), (3, .int x3)] [] h (kX0_collectFrom_16 x0 x1 self16 x3 h) := by
  unfold kX0_collectFrom_16
  refine z_iload_n 17 2 dX0_collectFrom_16 rfl rfl ?_
  refine z_aload_n 18 0 dX0_collectFrom_17 rfl rfl ?_
  refine z_getI 21 zC0 (Nat.le_of_ble_eq_true rfl) rfl w_144 dX0_collectFrom_18 rfl (fun v1 _ => ?_)
  refine z_icmp_ge 68 24 dX0_collectFrom_21 (by decide) rfl (fun c2 => ?_) (fun c2 => ?_)
  · exact z_sub [] rfl (BX0_collectFrom_68 b0 h )
  · refine z_iload_n 25 2 dX0_collectFrom_24 rfl rfl ?_
    refine z_sipush (nI 255) 28 zks_255 dX0_collectFrom_25 rfl ?_
    refine z_icmp_ge 68 31 dX0_collectFrom_28 (by decide) rfl (fun c3 => ?_) (fun c3 => ?_)
    · exact z_sub [] rfl (BX0_collectFrom_68 b0 h )
    · refine z_iconst (nI 0) 32 zki_0 dX0_collectFrom_31 rfl ?_
      refine z_istore (lv2 := [(4, .int (nI 0)), (0, .ref (b0 + x0)), (1, .ref (b0 + x1)), (3, .int x3)]) 34 dX0_collectFrom_32 rfl (Nat.le_of_ble_eq_true rfl) rfl ?_
      exact z_sub [1, 2, 3, 0] rfl (BX0_collectFrom_34 b0 self16 x0 x1 x3 hself16 zfu (nI 0) h)
theorem BX0_collectFrom_16 (b0 : Nat) (x0 : Nat) (x1 : Nat) (n : Nat) (x3 : Int32) (h : ZH) : Zr zv b0 YX0_collectFrom 2 16 [(0, .ref (b0 + x0)), (1, .ref (b0 + x1)), (3, .int x3)] [] h (zloop (lX0_collectFrom_16 x0 x1) n (x3, h)) :=
  zloop_Zr (fun s => [(0, .ref (b0 + x0)), (1, .ref (b0 + x1)), (3, .int s.1)]) (fun _ => []) (fun s => s.2) (lX0_collectFrom_16 x0 x1) (fun self hs s => KX0_collectFrom_16 b0 x0 x1 self (fun y3 hh => hs (y3, hh)) s.1 s.2) n (x3, h)
def fX0_collectFrom (x0 : Nat) (x1 : Nat) (x2 : Int32) (h : ZH) : Option (ZH) :=
  if x0 < zn h ∧ zK h x0 = 0 then ((fX0_clearMarks x0 h).bind fun h1 =>
  (pI h1 0 x0 1 (nI 0)).bind fun h2 =>
  (fX0_collect x0 x2 h2).bind fun h3 =>
  zloop (lX0_collectFrom_16 x0 x1) zfu ((nI 0), h3)) else none
theorem kX0_collectFrom {x0 : Nat} {x1 : Nat} {x2 : Int32} {h : ZH} {x : ZH} (e : fX0_collectFrom x0 x1 x2 h = some x) : x0 < zn h ∧ zK h x0 = 0 := by
  unfold fX0_collectFrom at e
  exact zguard e
theorem mX0_collectFrom (b0 : Nat) (x0 : Nat) (x1 : Nat) (x2 : Int32) (h : ZH) : ZM zv b0 YX0_collectFrom 2 [.ref (b0 + x0), .ref (b0 + x1), .int x2] h (fX0_collectFrom x0 x1 x2 h) := by
  unfold fX0_collectFrom
  refine ZM.of (by decide) rfl (Nat.le_of_ble_eq_true rfl) (fun _ => trivial) ?_
  refine z_sub (lv2 := [(0, .ref (b0 + x0)), (1, .ref (b0 + x1)), (2, .int x2)]) [0, 1, 2] rfl ?_
  refine z_guard (fun _ => ?_)
  refine z_aload_n 1 0 dX0_collectFrom_0 rfl rfl ?_
  refine z_callVv 4 (mX0_clearMarks b0 x0 h) zyX0_clearMarks rfl w_648 (ci := 0) rfl (Nat.le_of_ble_eq_true rfl) (fun _ e9 => kX0_clearMarks e9) wm_yX0_clearMarks ws_yX0_clearMarks (Nat.le_of_ble_eq_true rfl) rfl (Nat.le_of_ble_eq_true rfl) dX0_collectFrom_1 rfl (fun h1 => ?_)
  refine z_aload_n 5 0 dX0_collectFrom_4 rfl rfl ?_
  refine z_iconst (nI 0) 6 zki_0 dX0_collectFrom_5 rfl ?_
  refine z_putI 9 zC0 (Nat.le_of_ble_eq_true rfl) rfl rfl rfl w_144 dX0_collectFrom_6 rfl (fun h2 _ => ?_)
  refine z_aload_n 10 0 dX0_collectFrom_9 rfl rfl ?_
  refine z_iload_n 11 2 dX0_collectFrom_10 rfl rfl ?_
  refine z_callVv 14 (mX0_collect b0 x0 x2 h2) zyX0_collect rfl w_652 (ci := 0) rfl (Nat.le_of_ble_eq_true rfl) (fun _ e9 => kX0_collect e9) wm_yX0_collect ws_yX0_collect (Nat.le_of_ble_eq_true rfl) rfl (Nat.le_of_ble_eq_true rfl) dX0_collectFrom_11 rfl (fun h3 => ?_)
  refine z_iconst (nI 0) 15 zki_0 dX0_collectFrom_14 rfl ?_
  refine z_istore_n (lv2 := [(3, .int (nI 0)), (0, .ref (b0 + x0)), (1, .ref (b0 + x1)), (2, .int x2)]) 16 dX0_collectFrom_15 rfl (Nat.le_of_ble_eq_true rfl) rfl ?_
  exact z_sub [1, 2, 0] rfl (BX0_collectFrom_16 b0 x0 x1 zfu (nI 0) h3)
-- X0_markMembersBeforeMarked
def bX0_markMembersBeforeMarked_84 (self9 : Int32 × Int32 × ZH → Option (Int32 × ZH)) (x0 : Nat) (x1 : Nat) (x2 : Int32) (x3 : Int32) (h : ZH) : Option (Int32 × ZH) :=
  self9 (x2, (x3 + (-1 : Int32)), h)
theorem BX0_markMembersBeforeMarked_84 (b0 : Nat) (self9 : Int32 × Int32 × ZH → Option (Int32 × ZH)) (x0 : Nat) (x1 : Nat) (x2 : Int32) (x3 : Int32) (h : ZH) (hself9 : ∀ (y2 : Int32) (y3 : Int32) (hh : ZH), Zr zi b0 YX0_markMembersBeforeMarked 2 9 [(0, .ref (b0 + x0)), (1, .ref (b0 + x1)), (2, .int y2), (3, .int y3)] [] hh (self9 (y2, y3, hh))) : Zr zi b0 YX0_markMembersBeforeMarked 2 84 [(0, .ref (b0 + x0)), (1, .ref (b0 + x1)), (2, .int x2), (3, .int x3)] [] h (bX0_markMembersBeforeMarked_84 self9 x0 x1 x2 x3 h) := by
  unfold bX0_markMembersBeforeMarked_84
  refine z_iinc (lv2 := [(3, .int (x3 + (-1 : Int32))), (0, .ref (b0 + x0)), (1, .ref (b0 + x1)), (2, .int x2)]) (-1 : Int32) 87 3 dX0_markMembersBeforeMarked_84 rfl rfl zki_m1 (Nat.le_of_ble_eq_true rfl) rfl ?_
  refine z_goto 9 dX0_markMembersBeforeMarked_87 (by decide) ?_
  exact z_sub [1, 2, 3, 0] rfl (hself9 x2 (x3 + (-1 : Int32)) h)
def bX0_markMembersBeforeMarked_78 (self9 : Int32 × Int32 × ZH → Option (Int32 × ZH)) (self24 : Int32 × Int32 × ZH → Option (Int32 × ZH)) (x0 : Nat) (x1 : Nat) (x2 : Int32) (x3 : Int32) (x4 : Int32) (x5 : Int32) (h : ZH) : Option (Int32 × ZH) :=
  self24 (x2, (x5 + (nI 1)), h)
theorem BX0_markMembersBeforeMarked_78 (b0 : Nat) (self9 : Int32 × Int32 × ZH → Option (Int32 × ZH)) (self24 : Int32 × Int32 × ZH → Option (Int32 × ZH)) (x0 : Nat) (x1 : Nat) (x2 : Int32) (x3 : Int32) (x4 : Int32) (x5 : Int32) (h : ZH) (hself9 : ∀ (y2 : Int32) (y3 : Int32) (hh : ZH), Zr zi b0 YX0_markMembersBeforeMarked 2 9 [(0, .ref (b0 + x0)), (1, .ref (b0 + x1)), (2, .int y2), (3, .int y3)] [] hh (self9 (y2, y3, hh))) (hself24 : ∀ (y2 : Int32) (y5 : Int32) (hh : ZH), Zr zi b0 YX0_markMembersBeforeMarked 2 24 [(0, .ref (b0 + x0)), (1, .ref (b0 + x1)), (3, .int x3), (4, .int x4), (2, .int y2), (5, .int y5)] [] hh (self24 (y2, y5, hh))) : Zr zi b0 YX0_markMembersBeforeMarked 2 78 [(0, .ref (b0 + x0)), (1, .ref (b0 + x1)), (2, .int x2), (3, .int x3), (4, .int x4), (5, .int x5)] [] h (bX0_markMembersBeforeMarked_78 self9 self24 x0 x1 x2 x3 x4 x5 h) := by
  unfold bX0_markMembersBeforeMarked_78
  refine z_iinc (lv2 := [(5, .int (x5 + (nI 1))), (0, .ref (b0 + x0)), (1, .ref (b0 + x1)), (2, .int x2), (3, .int x3), (4, .int x4)]) (nI 1) 81 5 dX0_markMembersBeforeMarked_78 rfl rfl zki_1 (Nat.le_of_ble_eq_true rfl) rfl ?_
  refine z_goto 24 dX0_markMembersBeforeMarked_81 (by decide) ?_
  exact z_sub [1, 2, 4, 5, 3, 0] rfl (hself24 x2 (x5 + (nI 1)) h)
def kX0_markMembersBeforeMarked_24 (self9 : Int32 × Int32 × ZH → Option (Int32 × ZH)) (x0 : Nat) (x1 : Nat) (x3 : Int32) (x4 : Int32) (self24 : Int32 × Int32 × ZH → Option (Int32 × ZH)) (x2 : Int32) (x5 : Int32) (h : ZH) : Option (Int32 × ZH) :=
  if (nI 4) ≤ x5 then (bX0_markMembersBeforeMarked_84 self9 x0 x1 x2 x3 h) else
  ((gR h 0 x0 2).bind fun v2 =>
  (lI h 16 v2 x4).bind fun v3 =>
  if v3 = 0 then ((fX6_after x1 x4 x5 h).bind fun q5 =>
  if q5.1 = (nI 255) then (bX0_markMembersBeforeMarked_78 self9 self24 x0 x1 x2 x3 x4 x5 q5.2) else
  ((gR q5.2 0 x0 2).bind fun v7 =>
  (lI q5.2 16 v7 q5.1).bind fun v8 =>
  if v8 = 0 then (bX0_markMembersBeforeMarked_78 self9 self24 x0 x1 x2 x3 x4 x5 q5.2) else
  ((gR q5.2 0 x0 2).bind fun v10 =>
  (sI q5.2 16 v10 x4 (nI 1)).bind fun h11 =>
  bX0_markMembersBeforeMarked_78 self9 self24 x0 x1 (nI 1) x3 x4 x5 h11))) else
  (bX0_markMembersBeforeMarked_84 self9 x0 x1 x2 x3 h))
def lX0_markMembersBeforeMarked_24 (self9 : Int32 × Int32 × ZH → Option (Int32 × ZH)) (x0 : Nat) (x1 : Nat) (x3 : Int32) (x4 : Int32) : (Int32 × Int32 × ZH → Option (Int32 × ZH)) → Int32 × Int32 × ZH → Option (Int32 × ZH) := fun self s => kX0_markMembersBeforeMarked_24 self9 x0 x1 x3 x4 self s.1 s.2.1 s.2.2
theorem KX0_markMembersBeforeMarked_24 (b0 : Nat) (self9 : Int32 × Int32 × ZH → Option (Int32 × ZH)) (x0 : Nat) (x1 : Nat) (x3 : Int32) (x4 : Int32) (hself9 : ∀ (y2 : Int32) (y3 : Int32) (hh : ZH), Zr zi b0 YX0_markMembersBeforeMarked 2 9 [(0, .ref (b0 + x0)), (1, .ref (b0 + x1)), (2, .int y2), (3, .int y3)] [] hh (self9 (y2, y3, hh))) (self24 : Int32 × Int32 × ZH → Option (Int32 × ZH)) (hself24 : ∀ (y2 : Int32) (y5 : Int32) (hh : ZH), Zr zi b0 YX0_markMembersBeforeMarked 2 24 [(0, .ref (b0 + x0)), (1, .ref (b0 + x1)), (3, .int x3), (4, .int x4), (2, .int y2), (5, .int y5)] [] hh (self24 (y2, y5, hh))) (x2 : Int32) (x5 : Int32) (h : ZH) : Zr zi b0 YX0_markMembersBeforeMarked 2 24 [(0, .ref (b0 + x0)), (1, .ref (b0 + x1)), (3, .int x3), (4, .int x4), (2, .int x2), (5, .int x5)] [] h (kX0_markMembersBeforeMarked_24 self9 x0 x1 x3 x4 self24 x2 x5 h) := by
  unfold kX0_markMembersBeforeMarked_24
  refine z_iload 26 5 dX0_markMembersBeforeMarked_24 rfl rfl ?_
  refine z_iconst (nI 4) 27 zki_4 dX0_markMembersBeforeMarked_26 rfl ?_
  refine z_icmp_ge 84 30 dX0_markMembersBeforeMarked_27 (by decide) rfl (fun c1 => ?_) (fun c1 => ?_)
  · exact z_sub [0, 1, 4, 2] rfl (BX0_markMembersBeforeMarked_84 b0 self9 x0 x1 x2 x3 h hself9)
  · refine z_aload_n 31 0 dX0_markMembersBeforeMarked_30 rfl rfl ?_
    refine z_getR 34 zC0 (Nat.le_of_ble_eq_true rfl) rfl w_145 dX0_markMembersBeforeMarked_31 rfl (fun v2 _ => ?_)
    refine z_iload 36 3 dX0_markMembersBeforeMarked_34 rfl rfl ?_
    refine z_zaload 37 dX0_markMembersBeforeMarked_36 rfl (fun v3 _ => ?_)
    refine z_if_ne 84 40 dX0_markMembersBeforeMarked_37 (by decide) rfl (fun c4 => ?_) (fun c4 => ?_)
    · exact z_sub [0, 1, 4, 2] rfl (BX0_markMembersBeforeMarked_84 b0 self9 x0 x1 x2 x3 h hself9)
    · refine z_aload_n 41 1 dX0_markMembersBeforeMarked_40 rfl rfl ?_
      refine z_iload 43 3 dX0_markMembersBeforeMarked_41 rfl rfl ?_
      refine z_iload 45 5 dX0_markMembersBeforeMarked_43 rfl rfl ?_
      refine z_callVi 48 (mX6_after b0 x1 x4 x5 h) zyX6_after rfl w_656 (ci := 6) rfl (Nat.le_of_ble_eq_true rfl) (fun _ e9 => kX6_after e9) wm_yX6_after ws_yX6_after (Nat.le_of_ble_eq_true rfl) rfl (Nat.le_of_ble_eq_true rfl) dX0_markMembersBeforeMarked_45 rfl (fun q5 => ?_)
      refine z_istore (lv2 := [(6, .int q5.1), (0, .ref (b0 + x0)), (1, .ref (b0 + x1)), (3, .int x3), (4, .int x4), (2, .int x2), (5, .int x5)]) 50 dX0_markMembersBeforeMarked_48 rfl (Nat.le_of_ble_eq_true rfl) rfl ?_
      refine z_iload 52 0 dX0_markMembersBeforeMarked_50 rfl rfl ?_
      refine z_sipush (nI 255) 55 zks_255 dX0_markMembersBeforeMarked_52 rfl ?_
      refine z_icmp_eq 78 58 dX0_markMembersBeforeMarked_55 (by decide) rfl (fun c6 => ?_) (fun c6 => ?_)
      · exact z_sub [1, 2, 5, 3, 4, 6] rfl (BX0_markMembersBeforeMarked_78 b0 self9 self24 x0 x1 x2 x3 x4 x5 q5.2 hself9 hself24)
      · refine z_aload_n 59 1 dX0_markMembersBeforeMarked_58 rfl rfl ?_
        refine z_getR 62 zC0 (Nat.le_of_ble_eq_true rfl) rfl w_145 dX0_markMembersBeforeMarked_59 rfl (fun v7 _ => ?_)
        refine z_iload 64 0 dX0_markMembersBeforeMarked_62 rfl rfl ?_
        refine z_zaload 65 dX0_markMembersBeforeMarked_64 rfl (fun v8 _ => ?_)
        refine z_if_eq 78 68 dX0_markMembersBeforeMarked_65 (by decide) rfl (fun c9 => ?_) (fun c9 => ?_)
        · exact z_sub [1, 2, 5, 3, 4, 6] rfl (BX0_markMembersBeforeMarked_78 b0 self9 self24 x0 x1 x2 x3 x4 x5 q5.2 hself9 hself24)
        · refine z_aload_n 69 1 dX0_markMembersBeforeMarked_68 rfl rfl ?_
          refine z_getR 72 zC0 (Nat.le_of_ble_eq_true rfl) rfl w_145 dX0_markMembersBeforeMarked_69 rfl (fun v10 _ => ?_)
          refine z_iload 74 4 dX0_markMembersBeforeMarked_72 rfl rfl ?_
          refine z_iconst (nI 1) 75 zki_1 dX0_markMembersBeforeMarked_74 rfl ?_
          refine z_zastore 76 dX0_markMembersBeforeMarked_75 rfl (fun h11 _ => ?_)
          refine z_iconst (nI 1) 77 zki_1 dX0_markMembersBeforeMarked_76 rfl ?_
          refine z_istore_n (lv2 := [(2, .int (nI 1)), (6, .int q5.1), (0, .ref (b0 + x0)), (1, .ref (b0 + x1)), (3, .int x3), (4, .int x4), (5, .int x5)]) 78 dX0_markMembersBeforeMarked_77 rfl (Nat.le_of_ble_eq_true rfl) rfl ?_
          exact z_sub [2, 3, 0, 4, 5, 6] rfl (BX0_markMembersBeforeMarked_78 b0 self9 self24 x0 x1 (nI 1) x3 x4 x5 h11 hself9 hself24)
theorem BX0_markMembersBeforeMarked_24 (b0 : Nat) (self9 : Int32 × Int32 × ZH → Option (Int32 × ZH)) (x0 : Nat) (x1 : Nat) (x3 : Int32) (x4 : Int32) (hself9 : ∀ (y2 : Int32) (y3 : Int32) (hh : ZH), Zr zi b0 YX0_markMembersBeforeMarked 2 9 [(0, .ref (b0 + x0)), (1, .ref (b0 + x1)), (2, .int y2), (3, .int y3)] [] hh (self9 (y2, y3, hh))) (n : Nat) (x2 : Int32) (x5 : Int32) (h : ZH) : Zr zi b0 YX0_markMembersBeforeMarked 2 24 [(0, .ref (b0 + x0)), (1, .ref (b0 + x1)), (3, .int x3), (4, .int x4), (2, .int x2), (5, .int x5)] [] h (zloop (lX0_markMembersBeforeMarked_24 self9 x0 x1 x3 x4) n (x2, x5, h)) :=
  zloop_Zr (fun s => [(0, .ref (b0 + x0)), (1, .ref (b0 + x1)), (3, .int x3), (4, .int x4), (2, .int s.1), (5, .int s.2.1)]) (fun _ => []) (fun s => s.2.2) (lX0_markMembersBeforeMarked_24 self9 x0 x1 x3 x4) (fun self hs s => KX0_markMembersBeforeMarked_24 b0 self9 x0 x1 x3 x4 hself9 self (fun y2 y5 hh => hs (y2, y5, hh)) s.1 s.2.1 s.2.2) n (x2, x5, h)
def kX0_markMembersBeforeMarked_9 (x0 : Nat) (x1 : Nat) (self9 : Int32 × Int32 × ZH → Option (Int32 × ZH)) (x2 : Int32) (x3 : Int32) (h : ZH) : Option (Int32 × ZH) :=
  if x3 < 0 then (if x2 = 0 ∨ x2 = 1 then some (x2, h) else none) else
  ((gR h 0 x0 0).bind fun v2 =>
  (lI h 14 v2 x3).bind fun v3 =>
  zloop (lX0_markMembersBeforeMarked_24 self9 x0 x1 x3 v3) zfu (x2, (nI 0), h))
def lX0_markMembersBeforeMarked_9 (x0 : Nat) (x1 : Nat) : (Int32 × Int32 × ZH → Option (Int32 × ZH)) → Int32 × Int32 × ZH → Option (Int32 × ZH) := fun self s => kX0_markMembersBeforeMarked_9 x0 x1 self s.1 s.2.1 s.2.2
theorem KX0_markMembersBeforeMarked_9 (b0 : Nat) (x0 : Nat) (x1 : Nat) (self9 : Int32 × Int32 × ZH → Option (Int32 × ZH)) (hself9 : ∀ (y2 : Int32) (y3 : Int32) (hh : ZH), Zr zi b0 YX0_markMembersBeforeMarked 2 9 [(0, .ref (b0 + x0)), (1, .ref (b0 + x1)), (2, .int y2), (3, .int y3)] [] hh (self9 (y2, y3, hh))) (x2 : Int32) (x3 : Int32) (h : ZH) : Zr zi b0 YX0_markMembersBeforeMarked 2 9 [(0, .ref (b0 + x0)), (1, .ref (b0 + x1)), (2, .int x2), (3, .int x3)] [] h (kX0_markMembersBeforeMarked_9 x0 x1 self9 x2 x3 h) := by
  unfold kX0_markMembersBeforeMarked_9
  refine z_iload_n 10 3 dX0_markMembersBeforeMarked_9 rfl rfl ?_
  refine z_if_lt 90 13 dX0_markMembersBeforeMarked_10 (by decide) rfl (fun c1 => ?_) (fun c1 => ?_)
  · refine z_iload_n 91 2 dX0_markMembersBeforeMarked_90 rfl rfl ?_
    exact z_zreturn dX0_markMembersBeforeMarked_91 rfl
  · refine z_aload_n 14 0 dX0_markMembersBeforeMarked_13 rfl rfl ?_
    refine z_getR 17 zC0 (Nat.le_of_ble_eq_true rfl) rfl w_143 dX0_markMembersBeforeMarked_14 rfl (fun v2 _ => ?_)
    refine z_iload_n 18 3 dX0_markMembersBeforeMarked_17 rfl rfl ?_
    refine z_iaload 19 dX0_markMembersBeforeMarked_18 rfl (fun v3 _ => ?_)
    refine z_istore (lv2 := [(4, .int v3), (0, .ref (b0 + x0)), (1, .ref (b0 + x1)), (2, .int x2), (3, .int x3)]) 21 dX0_markMembersBeforeMarked_19 rfl (Nat.le_of_ble_eq_true rfl) rfl ?_
    refine z_iconst (nI 0) 22 zki_0 dX0_markMembersBeforeMarked_21 rfl ?_
    refine z_istore (lv2 := [(5, .int (nI 0)), (4, .int v3), (0, .ref (b0 + x0)), (1, .ref (b0 + x1)), (2, .int x2), (3, .int x3)]) 24 dX0_markMembersBeforeMarked_22 rfl (Nat.le_of_ble_eq_true rfl) rfl ?_
    exact z_sub [2, 3, 5, 1, 4, 0] rfl (BX0_markMembersBeforeMarked_24 b0 self9 x0 x1 x3 v3 hself9 zfu x2 (nI 0) h)
theorem BX0_markMembersBeforeMarked_9 (b0 : Nat) (x0 : Nat) (x1 : Nat) (n : Nat) (x2 : Int32) (x3 : Int32) (h : ZH) : Zr zi b0 YX0_markMembersBeforeMarked 2 9 [(0, .ref (b0 + x0)), (1, .ref (b0 + x1)), (2, .int x2), (3, .int x3)] [] h (zloop (lX0_markMembersBeforeMarked_9 x0 x1) n (x2, x3, h)) :=
  zloop_Zr (fun s => [(0, .ref (b0 + x0)), (1, .ref (b0 + x1)), (2, .int s.1), (3, .int s.2.1)]) (fun _ => []) (fun s => s.2.2) (lX0_markMembersBeforeMarked_9 x0 x1) (fun self hs s => KX0_markMembersBeforeMarked_9 b0 x0 x1 self (fun y2 y3 hh => hs (y2, y3, hh)) s.1 s.2.1 s.2.2) n (x2, x3, h)
def fX0_markMembersBeforeMarked (x0 : Nat) (x1 : Nat) (h : ZH) : Option (Int32 × ZH) :=
  if x0 < zn h ∧ zK h x0 = 0 then ((gI h 0 x0 1).bind fun v1 =>
  zl (v1 - (nI 1)) fun v2 =>
  zloop (lX0_markMembersBeforeMarked_9 x0 x1) zfu ((nI 0), v2, h)) else none
theorem kX0_markMembersBeforeMarked {x0 : Nat} {x1 : Nat} {h : ZH} {x : Int32 × ZH} (e : fX0_markMembersBeforeMarked x0 x1 h = some x) : x0 < zn h ∧ zK h x0 = 0 := by
  unfold fX0_markMembersBeforeMarked at e
  exact zguard e
theorem mX0_markMembersBeforeMarked (b0 : Nat) (x0 : Nat) (x1 : Nat) (h : ZH) : ZM zi b0 YX0_markMembersBeforeMarked 2 [.ref (b0 + x0), .ref (b0 + x1)] h (fX0_markMembersBeforeMarked x0 x1 h) := by
  unfold fX0_markMembersBeforeMarked
  refine ZM.of (by decide) rfl (Nat.le_of_ble_eq_true rfl) (fun _ => trivial) ?_
  refine z_sub (lv2 := [(0, .ref (b0 + x0)), (1, .ref (b0 + x1))]) [0, 1] rfl ?_
  refine z_guard (fun _ => ?_)
  refine z_iconst (nI 0) 1 zki_0 dX0_markMembersBeforeMarked_0 rfl ?_
  refine z_istore_n (lv2 := [(2, .int (nI 0)), (0, .ref (b0 + x0)), (1, .ref (b0 + x1))]) 2 dX0_markMembersBeforeMarked_1 rfl (Nat.le_of_ble_eq_true rfl) rfl ?_
  refine z_aload_n 3 1 dX0_markMembersBeforeMarked_2 rfl rfl ?_
  refine z_getI 6 zC0 (Nat.le_of_ble_eq_true rfl) rfl w_144 dX0_markMembersBeforeMarked_3 rfl (fun v1 _ => ?_)
  refine z_iconst (nI 1) 7 zki_1 dX0_markMembersBeforeMarked_6 rfl ?_
  refine z_isub 8 dX0_markMembersBeforeMarked_7 rfl ?_
  refine z_letI (fun v2 _ => ?_)
  refine z_istore_n (lv2 := [(3, .int v2), (2, .int (nI 0)), (0, .ref (b0 + x0)), (1, .ref (b0 + x1))]) 9 dX0_markMembersBeforeMarked_8 rfl (Nat.le_of_ble_eq_true rfl) rfl ?_
  exact z_sub [2, 3, 1, 0] rfl (BX0_markMembersBeforeMarked_9 b0 x0 x1 zfu (nI 0) v2 h)
-- X0_memberWithoutWayTo
def kX0_memberWithoutWayTo_59 (x0 : Nat) (self59 : Int32 × ZH → Option (Int32 × ZH)) (x4 : Int32) (h : ZH) : Option (Int32 × ZH) :=
  if x4 < 0 then (some ((nI 255), h)) else
  ((gR h 0 x0 2).bind fun v2 =>
  (gR h 0 x0 0).bind fun v3 =>
  (lI h 14 v3 x4).bind fun v4 =>
  (lI h 16 v2 v4).bind fun v5 =>
  if v5 = 0 then ((gR h 0 x0 0).bind fun v7 =>
  (lI h 14 v7 x4).bind fun v8 =>
  some (v8, h)) else
  (self59 ((x4 + (-1 : Int32)), h)))
def lX0_memberWithoutWayTo_59 (x0 : Nat) : (Int32 × ZH → Option (Int32 × ZH)) → Int32 × ZH → Option (Int32 × ZH) := fun self s => kX0_memberWithoutWayTo_59 x0 self s.1 s.2
theorem KX0_memberWithoutWayTo_59 (b0 : Nat) (x0 : Nat) (self59 : Int32 × ZH → Option (Int32 × ZH)) (hself59 : ∀ (y4 : Int32) (hh : ZH), Zr zi b0 YX0_memberWithoutWayTo 3 59 [(0, .ref (b0 + x0)), (4, .int y4)] [] hh (self59 (y4, hh))) (x4 : Int32) (h : ZH) : Zr zi b0 YX0_memberWithoutWayTo 3 59 [(0, .ref (b0 + x0)), (4, .int x4)] [] h (kX0_memberWithoutWayTo_59 x0 self59 x4 h) := by
  unfold kX0_memberWithoutWayTo_59
  refine z_iload 61 1 dX0_memberWithoutWayTo_59 rfl rfl ?_
  refine z_if_lt 93 64 dX0_memberWithoutWayTo_61 (by decide) rfl (fun c1 => ?_) (fun c1 => ?_)
  · refine z_sipush (nI 255) 96 zks_255 dX0_memberWithoutWayTo_93 rfl ?_
    exact z_ireturn dX0_memberWithoutWayTo_96 rfl
  · refine z_aload_n 65 0 dX0_memberWithoutWayTo_64 rfl rfl ?_
    refine z_getR 68 zC0 (Nat.le_of_ble_eq_true rfl) rfl w_145 dX0_memberWithoutWayTo_65 rfl (fun v2 _ => ?_)
    refine z_aload_n 69 0 dX0_memberWithoutWayTo_68 rfl rfl ?_
    refine z_getR 72 zC0 (Nat.le_of_ble_eq_true rfl) rfl w_143 dX0_memberWithoutWayTo_69 rfl (fun v3 _ => ?_)
    refine z_iload 74 1 dX0_memberWithoutWayTo_72 rfl rfl ?_
    refine z_iaload 75 dX0_memberWithoutWayTo_74 rfl (fun v4 _ => ?_)
    refine z_zaload 76 dX0_memberWithoutWayTo_75 rfl (fun v5 _ => ?_)
    refine z_if_ne 87 79 dX0_memberWithoutWayTo_76 (by decide) rfl (fun c6 => ?_) (fun c6 => ?_)
    · refine z_iinc (lv2 := [(4, .int (x4 + (-1 : Int32))), (0, .ref (b0 + x0))]) (-1 : Int32) 90 1 dX0_memberWithoutWayTo_87 rfl rfl zki_m1 (Nat.le_of_ble_eq_true rfl) rfl ?_
      refine z_goto 59 dX0_memberWithoutWayTo_90 (by decide) ?_
      exact z_sub [1, 0] rfl (hself59 (x4 + (-1 : Int32)) h)
    · refine z_aload_n 80 0 dX0_memberWithoutWayTo_79 rfl rfl ?_
      refine z_getR 83 zC0 (Nat.le_of_ble_eq_true rfl) rfl w_143 dX0_memberWithoutWayTo_80 rfl (fun v7 _ => ?_)
      refine z_iload 85 1 dX0_memberWithoutWayTo_83 rfl rfl ?_
      refine z_iaload 86 dX0_memberWithoutWayTo_85 rfl (fun v8 _ => ?_)
      exact z_ireturn dX0_memberWithoutWayTo_86 rfl
theorem BX0_memberWithoutWayTo_59 (b0 : Nat) (x0 : Nat) (n : Nat) (x4 : Int32) (h : ZH) : Zr zi b0 YX0_memberWithoutWayTo 3 59 [(0, .ref (b0 + x0)), (4, .int x4)] [] h (zloop (lX0_memberWithoutWayTo_59 x0) n (x4, h)) :=
  zloop_Zr (fun s => [(0, .ref (b0 + x0)), (4, .int s.1)]) (fun _ => []) (fun s => s.2) (lX0_memberWithoutWayTo_59 x0) (fun self hs s => KX0_memberWithoutWayTo_59 b0 x0 self (fun y4 hh => hs (y4, hh)) s.1 s.2) n (x4, h)
def bX0_memberWithoutWayTo_51 (x0 : Nat) (h : ZH) : Option (Int32 × ZH) :=
  (gI h 0 x0 1).bind fun v1 =>
  zl (v1 - (nI 1)) fun v2 =>
  zloop (lX0_memberWithoutWayTo_59 x0) zfu (v2, h)
theorem BX0_memberWithoutWayTo_51 (b0 : Nat) (x0 : Nat) (h : ZH) : Zr zi b0 YX0_memberWithoutWayTo 3 51 [(0, .ref (b0 + x0))] [] h (bX0_memberWithoutWayTo_51 x0 h) := by
  unfold bX0_memberWithoutWayTo_51
  refine z_aload_n 52 0 dX0_memberWithoutWayTo_51 rfl rfl ?_
  refine z_getI 55 zC0 (Nat.le_of_ble_eq_true rfl) rfl w_144 dX0_memberWithoutWayTo_52 rfl (fun v1 _ => ?_)
  refine z_iconst (nI 1) 56 zki_1 dX0_memberWithoutWayTo_55 rfl ?_
  refine z_isub 57 dX0_memberWithoutWayTo_56 rfl ?_
  refine z_letI (fun v2 _ => ?_)
  refine z_istore (lv2 := [(4, .int v2), (0, .ref (b0 + x0))]) 59 dX0_memberWithoutWayTo_57 rfl (Nat.le_of_ble_eq_true rfl) rfl ?_
  exact z_sub [1, 0] rfl (BX0_memberWithoutWayTo_59 b0 x0 zfu v2 h)
def kX0_memberWithoutWayTo_27 (x0 : Nat) (x1 : Nat) (self27 : Int32 × Int32 × ZH → Option (Int32 × ZH)) (x3 : Int32) (x4 : Int32) (h : ZH) : Option (Int32 × ZH) :=
  if (nI 256) ≤ x4 then (bX0_memberWithoutWayTo_51 x0 h) else
  (if x3 = 0 then (bX0_memberWithoutWayTo_51 x0 h) else
  ((fX0_markMembersBeforeMarked x0 x1 h).bind fun q3 =>
  self27 (q3.1, (x4 + (nI 1)), q3.2)))
def lX0_memberWithoutWayTo_27 (x0 : Nat) (x1 : Nat) : (Int32 × Int32 × ZH → Option (Int32 × ZH)) → Int32 × Int32 × ZH → Option (Int32 × ZH) := fun self s => kX0_memberWithoutWayTo_27 x0 x1 self s.1 s.2.1 s.2.2
theorem KX0_memberWithoutWayTo_27 (b0 : Nat) (x0 : Nat) (x1 : Nat) (self27 : Int32 × Int32 × ZH → Option (Int32 × ZH)) (hself27 : ∀ (y3 : Int32) (y4 : Int32) (hh : ZH), Zr zi b0 YX0_memberWithoutWayTo 3 27 [(0, .ref (b0 + x0)), (1, .ref (b0 + x1)), (3, .int y3), (4, .int y4)] [] hh (self27 (y3, y4, hh))) (x3 : Int32) (x4 : Int32) (h : ZH) : Zr zi b0 YX0_memberWithoutWayTo 3 27 [(0, .ref (b0 + x0)), (1, .ref (b0 + x1)), (3, .int x3), (4, .int x4)] [] h (kX0_memberWithoutWayTo_27 x0 x1 self27 x3 x4 h) := by
  unfold kX0_memberWithoutWayTo_27
  refine z_iload 29 3 dX0_memberWithoutWayTo_27 rfl rfl ?_
  refine z_sipush (nI 256) 32 zks_256 dX0_memberWithoutWayTo_29 rfl ?_
  refine z_icmp_ge 51 35 dX0_memberWithoutWayTo_32 (by decide) rfl (fun c1 => ?_) (fun c1 => ?_)
  · exact z_sub [0] rfl (BX0_memberWithoutWayTo_51 b0 x0 h )
  · refine z_iload_n 36 2 dX0_memberWithoutWayTo_35 rfl rfl ?_
    refine z_if_eq 51 39 dX0_memberWithoutWayTo_36 (by decide) rfl (fun c2 => ?_) (fun c2 => ?_)
    · exact z_sub [0] rfl (BX0_memberWithoutWayTo_51 b0 x0 h )
    · refine z_aload_n 40 0 dX0_memberWithoutWayTo_39 rfl rfl ?_
      refine z_aload_n 41 1 dX0_memberWithoutWayTo_40 rfl rfl ?_
      refine z_callVi 44 (mX0_markMembersBeforeMarked b0 x0 x1 h) zyX0_markMembersBeforeMarked rfl w_661 (ci := 0) rfl (Nat.le_of_ble_eq_true rfl) (fun _ e9 => kX0_markMembersBeforeMarked e9) wm_yX0_markMembersBeforeMarked ws_yX0_markMembersBeforeMarked (Nat.le_of_ble_eq_true rfl) rfl (Nat.le_of_ble_eq_true rfl) dX0_memberWithoutWayTo_41 rfl (fun q3 => ?_)
      refine z_istore_n (lv2 := [(3, .int q3.1), (0, .ref (b0 + x0)), (1, .ref (b0 + x1)), (4, .int x4)]) 45 dX0_memberWithoutWayTo_44 rfl (Nat.le_of_ble_eq_true rfl) rfl ?_
      refine z_iinc (lv2 := [(4, .int (x4 + (nI 1))), (3, .int q3.1), (0, .ref (b0 + x0)), (1, .ref (b0 + x1))]) (nI 1) 48 3 dX0_memberWithoutWayTo_45 rfl rfl zki_1 (Nat.le_of_ble_eq_true rfl) rfl ?_
      refine z_goto 27 dX0_memberWithoutWayTo_48 (by decide) ?_
      exact z_sub [2, 3, 1, 0] rfl (hself27 q3.1 (x4 + (nI 1)) q3.2)
theorem BX0_memberWithoutWayTo_27 (b0 : Nat) (x0 : Nat) (x1 : Nat) (n : Nat) (x3 : Int32) (x4 : Int32) (h : ZH) : Zr zi b0 YX0_memberWithoutWayTo 3 27 [(0, .ref (b0 + x0)), (1, .ref (b0 + x1)), (3, .int x3), (4, .int x4)] [] h (zloop (lX0_memberWithoutWayTo_27 x0 x1) n (x3, x4, h)) :=
  zloop_Zr (fun s => [(0, .ref (b0 + x0)), (1, .ref (b0 + x1)), (3, .int s.1), (4, .int s.2.1)]) (fun _ => []) (fun s => s.2.2) (lX0_memberWithoutWayTo_27 x0 x1) (fun self hs s => KX0_memberWithoutWayTo_27 b0 x0 x1 self (fun y3 y4 hh => hs (y3, y4, hh)) s.1 s.2.1 s.2.2) n (x3, x4, h)
def bX0_memberWithoutWayTo_22 (x0 : Nat) (x1 : Nat) (h : ZH) : Option (Int32 × ZH) :=
  zloop (lX0_memberWithoutWayTo_27 x0 x1) zfu ((nI 1), (nI 0), h)
theorem BX0_memberWithoutWayTo_22 (b0 : Nat) (x0 : Nat) (x1 : Nat) (h : ZH) : Zr zi b0 YX0_memberWithoutWayTo 3 22 [(0, .ref (b0 + x0)), (1, .ref (b0 + x1))] [] h (bX0_memberWithoutWayTo_22 x0 x1 h) := by
  unfold bX0_memberWithoutWayTo_22
  refine z_iconst (nI 1) 23 zki_1 dX0_memberWithoutWayTo_22 rfl ?_
  refine z_istore_n (lv2 := [(3, .int (nI 1)), (0, .ref (b0 + x0)), (1, .ref (b0 + x1))]) 24 dX0_memberWithoutWayTo_23 rfl (Nat.le_of_ble_eq_true rfl) rfl ?_
  refine z_iconst (nI 0) 25 zki_0 dX0_memberWithoutWayTo_24 rfl ?_
  refine z_istore (lv2 := [(4, .int (nI 0)), (3, .int (nI 1)), (0, .ref (b0 + x0)), (1, .ref (b0 + x1))]) 27 dX0_memberWithoutWayTo_25 rfl (Nat.le_of_ble_eq_true rfl) rfl ?_
  exact z_sub [2, 3, 1, 0] rfl (BX0_memberWithoutWayTo_27 b0 x0 x1 zfu (nI 1) (nI 0) h)
def fX0_memberWithoutWayTo (x0 : Nat) (x1 : Nat) (x2 : Int32) (h : ZH) : Option (Int32 × ZH) :=
  if x0 < zn h ∧ zK h x0 = 0 then ((fX0_clearMarks x0 h).bind fun h1 =>
  if x2 < 0 then (bX0_memberWithoutWayTo_22 x0 x1 h1) else
  (if (nI 256) ≤ x2 then (bX0_memberWithoutWayTo_22 x0 x1 h1) else
  ((gR h1 0 x0 2).bind fun v4 =>
  (sI h1 16 v4 x2 (nI 1)).bind fun h5 =>
  bX0_memberWithoutWayTo_22 x0 x1 h5))) else none
theorem kX0_memberWithoutWayTo {x0 : Nat} {x1 : Nat} {x2 : Int32} {h : ZH} {x : Int32 × ZH} (e : fX0_memberWithoutWayTo x0 x1 x2 h = some x) : x0 < zn h ∧ zK h x0 = 0 := by
  unfold fX0_memberWithoutWayTo at e
  exact zguard e
theorem mX0_memberWithoutWayTo (b0 : Nat) (x0 : Nat) (x1 : Nat) (x2 : Int32) (h : ZH) : ZM zi b0 YX0_memberWithoutWayTo 3 [.ref (b0 + x0), .ref (b0 + x1), .int x2] h (fX0_memberWithoutWayTo x0 x1 x2 h) := by
  unfold fX0_memberWithoutWayTo
  refine ZM.of (by decide) rfl (Nat.le_of_ble_eq_true rfl) (fun _ => trivial) ?_
  refine z_sub (lv2 := [(0, .ref (b0 + x0)), (1, .ref (b0 + x1)), (2, .int x2)]) [0, 1, 2] rfl ?_
  refine z_guard (fun _ => ?_)
  refine z_aload_n 1 0 dX0_memberWithoutWayTo_0 rfl rfl ?_
  refine z_callVv 4 (mX0_clearMarks b0 x0 h) zyX0_clearMarks rfl w_648 (ci := 0) rfl (Nat.le_of_ble_eq_true rfl) (fun _ e9 => kX0_clearMarks e9) wm_yX0_clearMarks ws_yX0_clearMarks (Nat.le_of_ble_eq_true rfl) rfl (Nat.le_of_ble_eq_true rfl) dX0_memberWithoutWayTo_1 rfl (fun h1 => ?_)
  refine z_iload_n 5 2 dX0_memberWithoutWayTo_4 rfl rfl ?_
  refine z_if_lt 22 8 dX0_memberWithoutWayTo_5 (by decide) rfl (fun c2 => ?_) (fun c2 => ?_)
  · exact z_sub [0, 1] rfl (BX0_memberWithoutWayTo_22 b0 x0 x1 h1 )
  · refine z_iload_n 9 2 dX0_memberWithoutWayTo_8 rfl rfl ?_
    refine z_sipush (nI 256) 12 zks_256 dX0_memberWithoutWayTo_9 rfl ?_
    refine z_icmp_ge 22 15 dX0_memberWithoutWayTo_12 (by decide) rfl (fun c3 => ?_) (fun c3 => ?_)
    · exact z_sub [0, 1] rfl (BX0_memberWithoutWayTo_22 b0 x0 x1 h1 )
    · refine z_aload_n 16 0 dX0_memberWithoutWayTo_15 rfl rfl ?_
      refine z_getR 19 zC0 (Nat.le_of_ble_eq_true rfl) rfl w_145 dX0_memberWithoutWayTo_16 rfl (fun v4 _ => ?_)
      refine z_iload_n 20 2 dX0_memberWithoutWayTo_19 rfl rfl ?_
      refine z_iconst (nI 1) 21 zki_1 dX0_memberWithoutWayTo_20 rfl ?_
      refine z_zastore 22 dX0_memberWithoutWayTo_21 rfl (fun h5 _ => ?_)
      exact z_sub [0, 1] rfl (BX0_memberWithoutWayTo_22 b0 x0 x1 h5 )
-- X6_start
def bX6_start_14 (t0 : Int32) (h : ZH) : Option (Int32 × ZH) :=
  some (t0, h)
theorem BX6_start_14 (b0 : Nat) (t0 : Int32) (h : ZH) : Zr zi b0 YX6_start 1 14 [] [.int t0] h (bX6_start_14 t0 h) := by
  unfold bX6_start_14
  exact z_ireturn dX6_start_14 rfl
def fX6_start (x0 : Nat) (h : ZH) : Option (Int32 × ZH) :=
  if x0 < zn h ∧ zK h x0 = 6 then ((gI h 6 x0 5).bind fun v1 =>
  if v1 ≤ 0 then (bX6_start_14 (nI 255) h) else
  (bX6_start_14 (nI 0) h)) else none
theorem kX6_start {x0 : Nat} {h : ZH} {x : Int32 × ZH} (e : fX6_start x0 h = some x) : x0 < zn h ∧ zK h x0 = 6 := by
  unfold fX6_start at e
  exact zguard e
theorem mX6_start (b0 : Nat) (x0 : Nat) (h : ZH) : ZM zi b0 YX6_start 1 [.ref (b0 + x0)] h (fX6_start x0 h) := by
  unfold fX6_start
  refine ZM.of (by decide) rfl (Nat.le_of_ble_eq_true rfl) (fun _ => trivial) ?_
  refine z_sub (lv2 := [(0, .ref (b0 + x0))]) [0] rfl ?_
  refine z_guard (fun _ => ?_)
  refine z_aload_n 1 0 dX6_start_0 rfl rfl ?_
  refine z_getI 4 zC6 (Nat.le_of_ble_eq_true rfl) rfl w_86 dX6_start_1 rfl (fun v1 _ => ?_)
  refine z_if_le 11 7 dX6_start_4 (by decide) rfl (fun c2 => ?_) (fun c2 => ?_)
  · refine z_sipush (nI 255) 14 zks_255 dX6_start_11 rfl ?_
    exact z_sub [] rfl (BX6_start_14 b0 (nI 255) h )
  · refine z_iconst (nI 0) 8 zki_0 dX6_start_7 rfl ?_
    refine z_goto 14 dX6_start_8 (by decide) ?_
    exact z_sub [] rfl (BX6_start_14 b0 (nI 0) h )
-- X0_findLastComponent
def bX0_findLastComponent_40 (h : ZH) : Option (ZH) :=
  some h
theorem BX0_findLastComponent_40 (b0 : Nat) (h : ZH) : Zr zv b0 YX0_findLastComponent 4 40 [] [] h (bX0_findLastComponent_40 h) := by
  unfold bX0_findLastComponent_40
  exact z_return dX0_findLastComponent_40 rfl
def kX0_findLastComponent_7 (x0 : Nat) (x1 : Nat) (self7 : Int32 × Int32 × ZH → Option (ZH)) (x2 : Int32) (x3 : Int32) (h : ZH) : Option (ZH) :=
  if (nI 256) ≤ x3 then (bX0_findLastComponent_40 h) else
  (if x2 = (nI 255) then (bX0_findLastComponent_40 h) else
  ((fX0_collectFrom x0 x1 x2 h).bind fun h3 =>
  (fX0_memberWithoutWayTo x0 x1 x2 h3).bind fun q4 =>
  self7 (q4.1, (x3 + (nI 1)), q4.2)))
def lX0_findLastComponent_7 (x0 : Nat) (x1 : Nat) : (Int32 × Int32 × ZH → Option (ZH)) → Int32 × Int32 × ZH → Option (ZH) := fun self s => kX0_findLastComponent_7 x0 x1 self s.1 s.2.1 s.2.2
theorem KX0_findLastComponent_7 (b0 : Nat) (x0 : Nat) (x1 : Nat) (self7 : Int32 × Int32 × ZH → Option (ZH)) (hself7 : ∀ (y2 : Int32) (y3 : Int32) (hh : ZH), Zr zv b0 YX0_findLastComponent 4 7 [(0, .ref (b0 + x0)), (1, .ref (b0 + x1)), (2, .int y2), (3, .int y3)] [] hh (self7 (y2, y3, hh))) (x2 : Int32) (x3 : Int32) (h : ZH) : Zr zv b0 YX0_findLastComponent 4 7 [(0, .ref (b0 + x0)), (1, .ref (b0 + x1)), (2, .int x2), (3, .int x3)] [] h (kX0_findLastComponent_7 x0 x1 self7 x2 x3 h) := by
  unfold kX0_findLastComponent_7
  refine z_iload_n 8 3 dX0_findLastComponent_7 rfl rfl ?_
  refine z_sipush (nI 256) 11 zks_256 dX0_findLastComponent_8 rfl ?_
  refine z_icmp_ge 40 14 dX0_findLastComponent_11 (by decide) rfl (fun c1 => ?_) (fun c1 => ?_)
  · exact z_sub [] rfl (BX0_findLastComponent_40 b0 h )
  · refine z_iload_n 15 2 dX0_findLastComponent_14 rfl rfl ?_
    refine z_sipush (nI 255) 18 zks_255 dX0_findLastComponent_15 rfl ?_
    refine z_icmp_eq 40 21 dX0_findLastComponent_18 (by decide) rfl (fun c2 => ?_) (fun c2 => ?_)
    · exact z_sub [] rfl (BX0_findLastComponent_40 b0 h )
    · refine z_aload_n 22 0 dX0_findLastComponent_21 rfl rfl ?_
      refine z_aload_n 23 1 dX0_findLastComponent_22 rfl rfl ?_
      refine z_iload_n 24 2 dX0_findLastComponent_23 rfl rfl ?_
      refine z_callVv 27 (mX0_collectFrom b0 x0 x1 x2 h) zyX0_collectFrom rfl w_644 (ci := 0) rfl (Nat.le_of_ble_eq_true rfl) (fun _ e9 => kX0_collectFrom e9) wm_yX0_collectFrom ws_yX0_collectFrom (Nat.le_of_ble_eq_true rfl) rfl (Nat.le_of_ble_eq_true rfl) dX0_findLastComponent_24 rfl (fun h3 => ?_)
      refine z_aload_n 28 0 dX0_findLastComponent_27 rfl rfl ?_
      refine z_aload_n 29 1 dX0_findLastComponent_28 rfl rfl ?_
      refine z_iload_n 30 2 dX0_findLastComponent_29 rfl rfl ?_
      refine z_callVi 33 (mX0_memberWithoutWayTo b0 x0 x1 x2 h3) zyX0_memberWithoutWayTo rfl w_657 (ci := 0) rfl (Nat.le_of_ble_eq_true rfl) (fun _ e9 => kX0_memberWithoutWayTo e9) wm_yX0_memberWithoutWayTo ws_yX0_memberWithoutWayTo (Nat.le_of_ble_eq_true rfl) rfl (Nat.le_of_ble_eq_true rfl) dX0_findLastComponent_30 rfl (fun q4 => ?_)
      refine z_istore_n (lv2 := [(2, .int q4.1), (0, .ref (b0 + x0)), (1, .ref (b0 + x1)), (3, .int x3)]) 34 dX0_findLastComponent_33 rfl (Nat.le_of_ble_eq_true rfl) rfl ?_
      refine z_iinc (lv2 := [(3, .int (x3 + (nI 1))), (2, .int q4.1), (0, .ref (b0 + x0)), (1, .ref (b0 + x1))]) (nI 1) 37 3 dX0_findLastComponent_34 rfl rfl zki_1 (Nat.le_of_ble_eq_true rfl) rfl ?_
      refine z_goto 7 dX0_findLastComponent_37 (by decide) ?_
      exact z_sub [2, 3, 1, 0] rfl (hself7 q4.1 (x3 + (nI 1)) q4.2)
theorem BX0_findLastComponent_7 (b0 : Nat) (x0 : Nat) (x1 : Nat) (n : Nat) (x2 : Int32) (x3 : Int32) (h : ZH) : Zr zv b0 YX0_findLastComponent 4 7 [(0, .ref (b0 + x0)), (1, .ref (b0 + x1)), (2, .int x2), (3, .int x3)] [] h (zloop (lX0_findLastComponent_7 x0 x1) n (x2, x3, h)) :=
  zloop_Zr (fun s => [(0, .ref (b0 + x0)), (1, .ref (b0 + x1)), (2, .int s.1), (3, .int s.2.1)]) (fun _ => []) (fun s => s.2.2) (lX0_findLastComponent_7 x0 x1) (fun self hs s => KX0_findLastComponent_7 b0 x0 x1 self (fun y2 y3 hh => hs (y2, y3, hh)) s.1 s.2.1 s.2.2) n (x2, x3, h)
def fX0_findLastComponent (x0 : Nat) (x1 : Nat) (h : ZH) : Option (ZH) :=
  if x0 < zn h ∧ zK h x0 = 0 then ((fX6_start x1 h).bind fun q1 =>
  zloop (lX0_findLastComponent_7 x0 x1) zfu (q1.1, (nI 0), q1.2)) else none
theorem kX0_findLastComponent {x0 : Nat} {x1 : Nat} {h : ZH} {x : ZH} (e : fX0_findLastComponent x0 x1 h = some x) : x0 < zn h ∧ zK h x0 = 0 := by
  unfold fX0_findLastComponent at e
  exact zguard e
theorem mX0_findLastComponent (b0 : Nat) (x0 : Nat) (x1 : Nat) (h : ZH) : ZM zv b0 YX0_findLastComponent 4 [.ref (b0 + x0), .ref (b0 + x1)] h (fX0_findLastComponent x0 x1 h) := by
  unfold fX0_findLastComponent
  refine ZM.of (by decide) rfl (Nat.le_of_ble_eq_true rfl) (fun _ => trivial) ?_
  refine z_sub (lv2 := [(0, .ref (b0 + x0)), (1, .ref (b0 + x1))]) [0, 1] rfl ?_
  refine z_guard (fun _ => ?_)
  refine z_aload_n 1 1 dX0_findLastComponent_0 rfl rfl ?_
  refine z_callVi 4 (mX6_start b0 x1 h) zyX6_start rfl w_643 (ci := 6) rfl (Nat.le_of_ble_eq_true rfl) (fun _ e9 => kX6_start e9) wm_yX6_start ws_yX6_start (Nat.le_of_ble_eq_true rfl) rfl (Nat.le_of_ble_eq_true rfl) dX0_findLastComponent_1 rfl (fun q1 => ?_)
  refine z_istore_n (lv2 := [(2, .int q1.1), (0, .ref (b0 + x0)), (1, .ref (b0 + x1))]) 5 dX0_findLastComponent_4 rfl (Nat.le_of_ble_eq_true rfl) rfl ?_
  refine z_iconst (nI 0) 6 zki_0 dX0_findLastComponent_5 rfl ?_
  refine z_istore_n (lv2 := [(3, .int (nI 0)), (2, .int q1.1), (0, .ref (b0 + x0)), (1, .ref (b0 + x1))]) 7 dX0_findLastComponent_6 rfl (Nat.le_of_ble_eq_true rfl) rfl ?_
  exact z_sub [2, 3, 1, 0] rfl (BX0_findLastComponent_7 b0 x0 x1 zfu q1.1 (nI 0) q1.2)
-- J6_bitCount_0f7a4
def fJ6_bitCount_0f7a4 (x0 : Int32) (h : ZH) : Option (Int32 × ZH) :=
  zl (x0 - ((jushr x0 (nI 1)) &&& (1431655765 : Int32))) fun v1 =>
  zl ((v1 &&& (858993459 : Int32)) + ((jushr v1 (nI 2)) &&& (858993459 : Int32))) fun v2 =>
  zl ((v2 + (jushr v2 (nI 4))) &&& (252645135 : Int32)) fun v3 =>
  zl (v3 + (jushr v3 (nI 8))) fun v4 =>
  zl (v4 + (jushr v4 (nI 16))) fun v5 =>
  some ((v5 &&& (nI 63)), h)
theorem mJ6_bitCount_0f7a4 (b0 : Nat) (x0 : Int32) (h : ZH) : ZM zi b0 YJ6_bitCount_0f7a4 1 [.int x0] h (fJ6_bitCount_0f7a4 x0 h) := by
  unfold fJ6_bitCount_0f7a4
  refine ZM.of (by decide) rfl (Nat.le_of_ble_eq_true rfl) (fun _ => trivial) ?_
  refine z_sub (lv2 := [(0, .int x0)]) [0] rfl ?_
  refine z_iload_n 1 0 dJ6_bitCount_0f7a4_0 rfl rfl ?_
  refine z_iload_n 2 0 dJ6_bitCount_0f7a4_1 rfl rfl ?_
  refine z_iconst (nI 1) 3 zki_1 dJ6_bitCount_0f7a4_2 rfl ?_
  refine z_iushr 4 dJ6_bitCount_0f7a4_3 rfl ?_
  refine z_ldcw 7 w_334 dJ6_bitCount_0f7a4_4 rfl ?_
  refine z_iand 8 dJ6_bitCount_0f7a4_7 rfl ?_
  refine z_isub 9 dJ6_bitCount_0f7a4_8 rfl ?_
  refine z_letI (fun v1 _ => ?_)
  refine z_istore_n (lv2 := [(0, .int v1)]) 10 dJ6_bitCount_0f7a4_9 rfl (Nat.le_of_ble_eq_true rfl) rfl ?_
  refine z_iload_n 11 0 dJ6_bitCount_0f7a4_10 rfl rfl ?_
  refine z_ldcw 14 w_335 dJ6_bitCount_0f7a4_11 rfl ?_
  refine z_iand 15 dJ6_bitCount_0f7a4_14 rfl ?_
  refine z_iload_n 16 0 dJ6_bitCount_0f7a4_15 rfl rfl ?_
  refine z_iconst (nI 2) 17 zki_2 dJ6_bitCount_0f7a4_16 rfl ?_
  refine z_iushr 18 dJ6_bitCount_0f7a4_17 rfl ?_
  refine z_ldcw 21 w_335 dJ6_bitCount_0f7a4_18 rfl ?_
  refine z_iand 22 dJ6_bitCount_0f7a4_21 rfl ?_
  refine z_iadd 23 dJ6_bitCount_0f7a4_22 rfl ?_
  refine z_letI (fun v2 _ => ?_)
  refine z_istore_n (lv2 := [(0, .int v2)]) 24 dJ6_bitCount_0f7a4_23 rfl (Nat.le_of_ble_eq_true rfl) rfl ?_
  refine z_iload_n 25 0 dJ6_bitCount_0f7a4_24 rfl rfl ?_
  refine z_iload_n 26 0 dJ6_bitCount_0f7a4_25 rfl rfl ?_
  refine z_iconst (nI 4) 27 zki_4 dJ6_bitCount_0f7a4_26 rfl ?_
  refine z_iushr 28 dJ6_bitCount_0f7a4_27 rfl ?_
  refine z_iadd 29 dJ6_bitCount_0f7a4_28 rfl ?_
  refine z_ldcw 32 w_336 dJ6_bitCount_0f7a4_29 rfl ?_
  refine z_iand 33 dJ6_bitCount_0f7a4_32 rfl ?_
  refine z_letI (fun v3 _ => ?_)
  refine z_istore_n (lv2 := [(0, .int v3)]) 34 dJ6_bitCount_0f7a4_33 rfl (Nat.le_of_ble_eq_true rfl) rfl ?_
  refine z_iload_n 35 0 dJ6_bitCount_0f7a4_34 rfl rfl ?_
  refine z_iload_n 36 0 dJ6_bitCount_0f7a4_35 rfl rfl ?_
  refine z_bipush (nI 8) 38 zkb_8 dJ6_bitCount_0f7a4_36 rfl ?_
  refine z_iushr 39 dJ6_bitCount_0f7a4_38 rfl ?_
  refine z_iadd 40 dJ6_bitCount_0f7a4_39 rfl ?_
  refine z_letI (fun v4 _ => ?_)
  refine z_istore_n (lv2 := [(0, .int v4)]) 41 dJ6_bitCount_0f7a4_40 rfl (Nat.le_of_ble_eq_true rfl) rfl ?_
  refine z_iload_n 42 0 dJ6_bitCount_0f7a4_41 rfl rfl ?_
  refine z_iload_n 43 0 dJ6_bitCount_0f7a4_42 rfl rfl ?_
  refine z_bipush (nI 16) 45 zkb_16 dJ6_bitCount_0f7a4_43 rfl ?_
  refine z_iushr 46 dJ6_bitCount_0f7a4_45 rfl ?_
  refine z_iadd 47 dJ6_bitCount_0f7a4_46 rfl ?_
  refine z_letI (fun v5 _ => ?_)
  refine z_istore_n (lv2 := [(0, .int v5)]) 48 dJ6_bitCount_0f7a4_47 rfl (Nat.le_of_ble_eq_true rfl) rfl ?_
  refine z_iload_n 49 0 dJ6_bitCount_0f7a4_48 rfl rfl ?_
  refine z_bipush (nI 63) 51 zkb_63 dJ6_bitCount_0f7a4_49 rfl ?_
  refine z_iand 52 dJ6_bitCount_0f7a4_51 rfl ?_
  exact z_ireturn dJ6_bitCount_0f7a4_52 rfl
-- X6_set
def bX6_set_22 (t0 : Int32) (h : ZH) : Option (Int32 × ZH) :=
  some (t0, h)
theorem BX6_set_22 (b0 : Nat) (t0 : Int32) (h : ZH) : Zr zi b0 YX6_set 1 22 [] [.int t0] h (bX6_set_22 t0 h) := by
  unfold bX6_set_22
  exact z_ireturn dX6_set_22 rfl
def bX6_set_21 (h : ZH) : Option (Int32 × ZH) :=
  bX6_set_22 (nI 0) h
theorem BX6_set_21 (b0 : Nat) (h : ZH) : Zr zi b0 YX6_set 1 21 [] [] h (bX6_set_21 h) := by
  unfold bX6_set_21
  refine z_iconst (nI 0) 22 zki_0 dX6_set_21 rfl ?_
  exact z_sub [] rfl (BX6_set_22 b0 (nI 0) h )
def fX6_set (x0 : Nat) (x1 : Int32) (h : ZH) : Option (Int32 × ZH) :=
  if x0 < zn h ∧ zK h x0 = 6 then (if x1 < 0 then (bX6_set_21 h) else
  ((gI h 6 x0 5).bind fun v2 =>
  if v2 ≤ x1 then (bX6_set_21 h) else
  ((gR h 6 x0 0).bind fun v4 =>
  (lI h 14 v4 x1).bind fun v5 =>
  bX6_set_22 v5 h))) else none
theorem kX6_set {x0 : Nat} {x1 : Int32} {h : ZH} {x : Int32 × ZH} (e : fX6_set x0 x1 h = some x) : x0 < zn h ∧ zK h x0 = 6 := by
  unfold fX6_set at e
  exact zguard e
theorem mX6_set (b0 : Nat) (x0 : Nat) (x1 : Int32) (h : ZH) : ZM zi b0 YX6_set 1 [.ref (b0 + x0), .int x1] h (fX6_set x0 x1 h) := by
  unfold fX6_set
  refine ZM.of (by decide) rfl (Nat.le_of_ble_eq_true rfl) (fun _ => trivial) ?_
  refine z_sub (lv2 := [(0, .ref (b0 + x0)), (1, .int x1)]) [0, 1] rfl ?_
  refine z_guard (fun _ => ?_)
  refine z_iload_n 1 1 dX6_set_0 rfl rfl ?_
  refine z_if_lt 21 4 dX6_set_1 (by decide) rfl (fun c1 => ?_) (fun c1 => ?_)
  · exact z_sub [] rfl (BX6_set_21 b0 h )
  · refine z_iload_n 5 1 dX6_set_4 rfl rfl ?_
    refine z_aload_n 6 0 dX6_set_5 rfl rfl ?_
    refine z_getI 9 zC6 (Nat.le_of_ble_eq_true rfl) rfl w_86 dX6_set_6 rfl (fun v2 _ => ?_)
    refine z_icmp_ge 21 12 dX6_set_9 (by decide) rfl (fun c3 => ?_) (fun c3 => ?_)
    · exact z_sub [] rfl (BX6_set_21 b0 h )
    · refine z_aload_n 13 0 dX6_set_12 rfl rfl ?_
      refine z_getR 16 zC6 (Nat.le_of_ble_eq_true rfl) rfl w_81 dX6_set_13 rfl (fun v4 _ => ?_)
      refine z_iload_n 17 1 dX6_set_16 rfl rfl ?_
      refine z_iaload 18 dX6_set_17 rfl (fun v5 _ => ?_)
      refine z_goto 22 dX6_set_18 (by decide) ?_
      exact z_sub [] rfl (BX6_set_22 b0 v5 h )
-- X6_size
def fX6_size (x0 : Nat) (h : ZH) : Option (Int32 × ZH) :=
  if x0 < zn h ∧ zK h x0 = 6 then ((gI h 6 x0 5).bind fun v1 =>
  some (v1, h)) else none
theorem kX6_size {x0 : Nat} {h : ZH} {x : Int32 × ZH} (e : fX6_size x0 h = some x) : x0 < zn h ∧ zK h x0 = 6 := by
  unfold fX6_size at e
  exact zguard e
theorem mX6_size (b0 : Nat) (x0 : Nat) (h : ZH) : ZM zi b0 YX6_size 1 [.ref (b0 + x0)] h (fX6_size x0 h) := by
  unfold fX6_size
  refine ZM.of (by decide) rfl (Nat.le_of_ble_eq_true rfl) (fun _ => trivial) ?_
  refine z_sub (lv2 := [(0, .ref (b0 + x0))]) [0] rfl ?_
  refine z_guard (fun _ => ?_)
  refine z_aload_n 1 0 dX6_size_0 rfl rfl ?_
  refine z_getI 4 zC6 (Nat.le_of_ble_eq_true rfl) rfl w_86 dX6_size_1 rfl (fun v1 _ => ?_)
  exact z_ireturn dX6_size_4 rfl
-- X0_findReset
def bX0_findReset_39 (self15 : Int32 × ZH → Option (ZH)) (x0 : Nat) (x1 : Int32) (h : ZH) : Option (ZH) :=
  self15 ((x1 + (-1 : Int32)), h)
theorem BX0_findReset_39 (b0 : Nat) (self15 : Int32 × ZH → Option (ZH)) (x0 : Nat) (x1 : Int32) (h : ZH) (hself15 : ∀ (y1 : Int32) (hh : ZH), Zr zv b0 YX0_findReset 2 15 [(0, .ref (b0 + x0)), (1, .int y1)] [] hh (self15 (y1, hh))) : Zr zv b0 YX0_findReset 2 39 [(0, .ref (b0 + x0)), (1, .int x1)] [] h (bX0_findReset_39 self15 x0 x1 h) := by
  unfold bX0_findReset_39
  refine z_iinc (lv2 := [(1, .int (x1 + (-1 : Int32))), (0, .ref (b0 + x0))]) (-1 : Int32) 42 1 dX0_findReset_39 rfl rfl zki_m1 (Nat.le_of_ble_eq_true rfl) rfl ?_
  refine z_goto 15 dX0_findReset_42 (by decide) ?_
  exact z_sub [1, 0] rfl (hself15 (x1 + (-1 : Int32)) h)
def kX0_findReset_15 (x0 : Nat) (self15 : Int32 × ZH → Option (ZH)) (x1 : Int32) (h : ZH) : Option (ZH) :=
  if x1 < 0 then (some h) else
  ((gR h 0 x0 8).bind fun v2 =>
  (fX6_set v2 x1 h).bind fun q3 =>
  (fJ6_bitCount_0f7a4 q3.1 q3.2).bind fun q4 =>
  if q4.1 = (nI 1) then ((pI q4.2 0 x0 9 x1).bind fun h6 =>
  bX0_findReset_39 self15 x0 x1 h6) else
  (bX0_findReset_39 self15 x0 x1 q4.2))
def lX0_findReset_15 (x0 : Nat) : (Int32 × ZH → Option (ZH)) → Int32 × ZH → Option (ZH) := fun self s => kX0_findReset_15 x0 self s.1 s.2
theorem KX0_findReset_15 (b0 : Nat) (x0 : Nat) (self15 : Int32 × ZH → Option (ZH)) (hself15 : ∀ (y1 : Int32) (hh : ZH), Zr zv b0 YX0_findReset 2 15 [(0, .ref (b0 + x0)), (1, .int y1)] [] hh (self15 (y1, hh))) (x1 : Int32) (h : ZH) : Zr zv b0 YX0_findReset 2 15 [(0, .ref (b0 + x0)), (1, .int x1)] [] h (kX0_findReset_15 x0 self15 x1 h) := by
  unfold kX0_findReset_15
  refine z_iload_n 16 1 dX0_findReset_15 rfl rfl ?_
  refine z_if_lt 45 19 dX0_findReset_16 (by decide) rfl (fun c1 => ?_) (fun c1 => ?_)
  · exact z_return dX0_findReset_45 rfl
  · refine z_aload_n 20 0 dX0_findReset_19 rfl rfl ?_
    refine z_getR 23 zC0 (Nat.le_of_ble_eq_true rfl) rfl w_151 dX0_findReset_20 rfl (fun v2 _ => ?_)
    refine z_iload_n 24 1 dX0_findReset_23 rfl rfl ?_
    refine z_callVi 27 (mX6_set b0 v2 x1 h) zyX6_set rfl w_690 (ci := 6) rfl (Nat.le_of_ble_eq_true rfl) (fun _ e9 => kX6_set e9) wm_yX6_set ws_yX6_set (Nat.le_of_ble_eq_true rfl) rfl (Nat.le_of_ble_eq_true rfl) dX0_findReset_24 rfl (fun q3 => ?_)
    refine z_callSi 30 (mJ6_bitCount_0f7a4 b0 q3.1 q3.2) zyJ6_bitCount_0f7a4 rfl w_694 wt_yJ6_bitCount_0f7a4 (Nat.le_of_ble_eq_true rfl) rfl (Nat.le_of_ble_eq_true rfl) dX0_findReset_27 rfl (fun q4 => ?_)
    refine z_iconst (nI 1) 31 zki_1 dX0_findReset_30 rfl ?_
    refine z_icmp_ne 39 34 dX0_findReset_31 (by decide) rfl (fun c5 => ?_) (fun c5 => ?_)
    · exact z_sub [0, 1] rfl (BX0_findReset_39 b0 self15 x0 x1 q4.2 hself15)
    · refine z_aload_n 35 0 dX0_findReset_34 rfl rfl ?_
      refine z_iload_n 36 1 dX0_findReset_35 rfl rfl ?_
      refine z_putI 39 zC0 (Nat.le_of_ble_eq_true rfl) rfl rfl rfl w_152 dX0_findReset_36 rfl (fun h6 _ => ?_)
      exact z_sub [0, 1] rfl (BX0_findReset_39 b0 self15 x0 x1 h6 hself15)
theorem BX0_findReset_15 (b0 : Nat) (x0 : Nat) (n : Nat) (x1 : Int32) (h : ZH) : Zr zv b0 YX0_findReset 2 15 [(0, .ref (b0 + x0)), (1, .int x1)] [] h (zloop (lX0_findReset_15 x0) n (x1, h)) :=
  zloop_Zr (fun s => [(0, .ref (b0 + x0)), (1, .int s.1)]) (fun _ => []) (fun s => s.2) (lX0_findReset_15 x0) (fun self hs s => KX0_findReset_15 b0 x0 self (fun y1 hh => hs (y1, hh)) s.1 s.2) n (x1, h)
def fX0_findReset (x0 : Nat) (h : ZH) : Option (ZH) :=
  if x0 < zn h ∧ zK h x0 = 0 then ((pI h 0 x0 9 (nI 0)).bind fun h1 =>
  (gR h1 0 x0 8).bind fun v2 =>
  (fX6_size v2 h1).bind fun q3 =>
  zl (q3.1 - (nI 1)) fun v4 =>
  zloop (lX0_findReset_15 x0) zfu (v4, q3.2)) else none
theorem kX0_findReset {x0 : Nat} {h : ZH} {x : ZH} (e : fX0_findReset x0 h = some x) : x0 < zn h ∧ zK h x0 = 0 := by
  unfold fX0_findReset at e
  exact zguard e
theorem mX0_findReset (b0 : Nat) (x0 : Nat) (h : ZH) : ZM zv b0 YX0_findReset 2 [.ref (b0 + x0)] h (fX0_findReset x0 h) := by
  unfold fX0_findReset
  refine ZM.of (by decide) rfl (Nat.le_of_ble_eq_true rfl) (fun _ => trivial) ?_
  refine z_sub (lv2 := [(0, .ref (b0 + x0))]) [0] rfl ?_
  refine z_guard (fun _ => ?_)
  refine z_aload_n 1 0 dX0_findReset_0 rfl rfl ?_
  refine z_iconst (nI 0) 2 zki_0 dX0_findReset_1 rfl ?_
  refine z_putI 5 zC0 (Nat.le_of_ble_eq_true rfl) rfl rfl rfl w_152 dX0_findReset_2 rfl (fun h1 _ => ?_)
  refine z_aload_n 6 0 dX0_findReset_5 rfl rfl ?_
  refine z_getR 9 zC0 (Nat.le_of_ble_eq_true rfl) rfl w_151 dX0_findReset_6 rfl (fun v2 _ => ?_)
  refine z_callVi 12 (mX6_size b0 v2 h1) zyX6_size rfl w_689 (ci := 6) rfl (Nat.le_of_ble_eq_true rfl) (fun _ e9 => kX6_size e9) wm_yX6_size ws_yX6_size (Nat.le_of_ble_eq_true rfl) rfl (Nat.le_of_ble_eq_true rfl) dX0_findReset_9 rfl (fun q3 => ?_)
  refine z_iconst (nI 1) 13 zki_1 dX0_findReset_12 rfl ?_
  refine z_isub 14 dX0_findReset_13 rfl ?_
  refine z_letI (fun v4 _ => ?_)
  refine z_istore_n (lv2 := [(1, .int v4), (0, .ref (b0 + x0))]) 15 dX0_findReset_14 rfl (Nat.le_of_ble_eq_true rfl) rfl ?_
  exact z_sub [1, 0] rfl (BX0_findReset_15 b0 x0 zfu v4 q3.2)
-- J7_fill_53178
def kJ7_fill_53178_5 (x0 : Nat) (x1 : Int32) (x3 : Int32) (self5 : Int32 × ZH → Option (ZH)) (x2 : Int32) (h : ZH) : Option (ZH) :=
  if x3 ≤ x2 then (some h) else
  ((sI h 14 x0 x2 x1).bind fun h2 =>
  self5 ((x2 + (nI 1)), h2))
def lJ7_fill_53178_5 (x0 : Nat) (x1 : Int32) (x3 : Int32) : (Int32 × ZH → Option (ZH)) → Int32 × ZH → Option (ZH) := fun self s => kJ7_fill_53178_5 x0 x1 x3 self s.1 s.2
theorem KJ7_fill_53178_5 (b0 : Nat) (x0 : Nat) (x1 : Int32) (x3 : Int32) (self5 : Int32 × ZH → Option (ZH)) (hself5 : ∀ (y2 : Int32) (hh : ZH), Zr zv b0 YJ7_fill_53178 1 5 [(0, .ref (b0 + x0)), (1, .int x1), (3, .int x3), (2, .int y2)] [] hh (self5 (y2, hh))) (x2 : Int32) (h : ZH) : Zr zv b0 YJ7_fill_53178 1 5 [(0, .ref (b0 + x0)), (1, .int x1), (3, .int x3), (2, .int x2)] [] h (kJ7_fill_53178_5 x0 x1 x3 self5 x2 h) := by
  unfold kJ7_fill_53178_5
  refine z_iload_n 6 3 dJ7_fill_53178_5 rfl rfl ?_
  refine z_iload_n 7 2 dJ7_fill_53178_6 rfl rfl ?_
  refine z_icmp_ge 20 10 dJ7_fill_53178_7 (by decide) rfl (fun c1 => ?_) (fun c1 => ?_)
  · exact z_return dJ7_fill_53178_20 rfl
  · refine z_aload_n 11 0 dJ7_fill_53178_10 rfl rfl ?_
    refine z_iload_n 12 3 dJ7_fill_53178_11 rfl rfl ?_
    refine z_iload_n 13 1 dJ7_fill_53178_12 rfl rfl ?_
    refine z_iastore 14 dJ7_fill_53178_13 rfl (fun h2 _ => ?_)
    refine z_iinc (lv2 := [(2, .int (x2 + (nI 1))), (0, .ref (b0 + x0)), (1, .int x1), (3, .int x3)]) (nI 1) 17 3 dJ7_fill_53178_14 rfl rfl zki_1 (Nat.le_of_ble_eq_true rfl) rfl ?_
    refine z_goto 5 dJ7_fill_53178_17 (by decide) ?_
    exact z_sub [1, 2, 3, 0] rfl (hself5 (x2 + (nI 1)) h2)
theorem BJ7_fill_53178_5 (b0 : Nat) (x0 : Nat) (x1 : Int32) (x3 : Int32) (n : Nat) (x2 : Int32) (h : ZH) : Zr zv b0 YJ7_fill_53178 1 5 [(0, .ref (b0 + x0)), (1, .int x1), (3, .int x3), (2, .int x2)] [] h (zloop (lJ7_fill_53178_5 x0 x1 x3) n (x2, h)) :=
  zloop_Zr (fun s => [(0, .ref (b0 + x0)), (1, .int x1), (3, .int x3), (2, .int s.1)]) (fun _ => []) (fun s => s.2) (lJ7_fill_53178_5 x0 x1 x3) (fun self hs s => KJ7_fill_53178_5 b0 x0 x1 x3 self (fun y2 hh => hs (y2, hh)) s.1 s.2) n (x2, h)
def fJ7_fill_53178 (x0 : Nat) (x1 : Int32) (h : ZH) : Option (ZH) :=
  (zlen h x0).bind fun v1 =>
  zloop (lJ7_fill_53178_5 x0 x1 v1) zfu ((nI 0), h)
theorem mJ7_fill_53178 (b0 : Nat) (x0 : Nat) (x1 : Int32) (h : ZH) : ZM zv b0 YJ7_fill_53178 1 [.ref (b0 + x0), .int x1] h (fJ7_fill_53178 x0 x1 h) := by
  unfold fJ7_fill_53178
  refine ZM.of (by decide) rfl (Nat.le_of_ble_eq_true rfl) (fun _ => trivial) ?_
  refine z_sub (lv2 := [(0, .ref (b0 + x0)), (1, .int x1)]) [0, 1] rfl ?_
  refine z_iconst (nI 0) 1 zki_0 dJ7_fill_53178_0 rfl ?_
  refine z_istore_n (lv2 := [(2, .int (nI 0)), (0, .ref (b0 + x0)), (1, .int x1)]) 2 dJ7_fill_53178_1 rfl (Nat.le_of_ble_eq_true rfl) rfl ?_
  refine z_aload_n 3 1 dJ7_fill_53178_2 rfl rfl ?_
  refine z_alen 4 dJ7_fill_53178_3 rfl (fun v1 _ => ?_)
  refine z_istore_n (lv2 := [(3, .int v1), (2, .int (nI 0)), (0, .ref (b0 + x0)), (1, .int x1)]) 5 dJ7_fill_53178_4 rfl (Nat.le_of_ble_eq_true rfl) rfl ?_
  exact z_sub [2, 3, 0, 1] rfl (BJ7_fill_53178_5 b0 x0 x1 v1 zfu (nI 0) h)
-- X1_clear
def fX1_clear (x0 : Nat) (h : ZH) : Option (ZH) :=
  if x0 < zn h ∧ zK h x0 = 1 then ((gR h 1 x0 0).bind fun v1 =>
  (fJ7_fill_53178 v1 (nI 0) h).bind fun h2 =>
  some h2) else none
theorem kX1_clear {x0 : Nat} {h : ZH} {x : ZH} (e : fX1_clear x0 h = some x) : x0 < zn h ∧ zK h x0 = 1 := by
  unfold fX1_clear at e
  exact zguard e
theorem mX1_clear (b0 : Nat) (x0 : Nat) (h : ZH) : ZM zv b0 YX1_clear 2 [.ref (b0 + x0)] h (fX1_clear x0 h) := by
  unfold fX1_clear
  refine ZM.of (by decide) rfl (Nat.le_of_ble_eq_true rfl) (fun _ => trivial) ?_
  refine z_sub (lv2 := [(0, .ref (b0 + x0))]) [0] rfl ?_
  refine z_guard (fun _ => ?_)
  refine z_aload_n 1 0 dX1_clear_0 rfl rfl ?_
  refine z_getR 4 zC1 (Nat.le_of_ble_eq_true rfl) rfl w_40 dX1_clear_1 rfl (fun v1 _ => ?_)
  refine z_iconst (nI 0) 5 zki_0 dX1_clear_4 rfl ?_
  refine z_callSv 8 (mJ7_fill_53178 b0 v1 (nI 0) h) zyJ7_fill_53178 rfl w_389 wt_yJ7_fill_53178 (Nat.le_of_ble_eq_true rfl) rfl (Nat.le_of_ble_eq_true rfl) dX1_clear_5 rfl (fun h2 => ?_)
  exact z_return dX1_clear_8 rfl
-- X10_isVertex
def bX10_isVertex_15 (t0 : Int32) (h : ZH) : Option (Int32 × ZH) :=
  if t0 = 0 ∨ t0 = 1 then some (t0, h) else none
theorem BX10_isVertex_15 (b0 : Nat) (t0 : Int32) (h : ZH) : Zr zi b0 YX10_isVertex 1 15 [] [.int t0] h (bX10_isVertex_15 t0 h) := by
  unfold bX10_isVertex_15
  exact z_zreturn dX10_isVertex_15 rfl
def bX10_isVertex_14 (h : ZH) : Option (Int32 × ZH) :=
  bX10_isVertex_15 (nI 0) h
theorem BX10_isVertex_14 (b0 : Nat) (h : ZH) : Zr zi b0 YX10_isVertex 1 14 [] [] h (bX10_isVertex_14 h) := by
  unfold bX10_isVertex_14
  refine z_iconst (nI 0) 15 zki_0 dX10_isVertex_14 rfl ?_
  exact z_sub [] rfl (BX10_isVertex_15 b0 (nI 0) h )
def fX10_isVertex (x0 : Int32) (h : ZH) : Option (Int32 × ZH) :=
  if x0 < 0 then (bX10_isVertex_14 h) else
  (if (nI 8) ≤ x0 then (bX10_isVertex_14 h) else
  (bX10_isVertex_15 (nI 1) h))
theorem mX10_isVertex (b0 : Nat) (x0 : Int32) (h : ZH) : ZM zi b0 YX10_isVertex 1 [.int x0] h (fX10_isVertex x0 h) := by
  unfold fX10_isVertex
  refine ZM.of (by decide) rfl (Nat.le_of_ble_eq_true rfl) (fun _ => trivial) ?_
  refine z_sub (lv2 := [(0, .int x0)]) [0] rfl ?_
  refine z_iload_n 1 0 dX10_isVertex_0 rfl rfl ?_
  refine z_if_lt 14 4 dX10_isVertex_1 (by decide) rfl (fun c1 => ?_) (fun c1 => ?_)
  · exact z_sub [] rfl (BX10_isVertex_14 b0 h )
  · refine z_iload_n 5 0 dX10_isVertex_4 rfl rfl ?_
    refine z_bipush (nI 8) 7 zkb_8 dX10_isVertex_5 rfl ?_
    refine z_icmp_ge 14 10 dX10_isVertex_7 (by decide) rfl (fun c2 => ?_) (fun c2 => ?_)
    · exact z_sub [] rfl (BX10_isVertex_14 b0 h )
    · refine z_iconst (nI 1) 11 zki_1 dX10_isVertex_10 rfl ?_
      refine z_goto 15 dX10_isVertex_11 (by decide) ?_
      exact z_sub [] rfl (BX10_isVertex_15 b0 (nI 1) h )
-- X10_isLetter
def bX10_isLetter_14 (t0 : Int32) (h : ZH) : Option (Int32 × ZH) :=
  if t0 = 0 ∨ t0 = 1 then some (t0, h) else none
theorem BX10_isLetter_14 (b0 : Nat) (t0 : Int32) (h : ZH) : Zr zi b0 YX10_isLetter 1 14 [] [.int t0] h (bX10_isLetter_14 t0 h) := by
  unfold bX10_isLetter_14
  exact z_zreturn dX10_isLetter_14 rfl
def bX10_isLetter_13 (h : ZH) : Option (Int32 × ZH) :=
  bX10_isLetter_14 (nI 0) h
theorem BX10_isLetter_13 (b0 : Nat) (h : ZH) : Zr zi b0 YX10_isLetter 1 13 [] [] h (bX10_isLetter_13 h) := by
  unfold bX10_isLetter_13
  refine z_iconst (nI 0) 14 zki_0 dX10_isLetter_13 rfl ?_
  exact z_sub [] rfl (BX10_isLetter_14 b0 (nI 0) h )
def fX10_isLetter (x0 : Int32) (h : ZH) : Option (Int32 × ZH) :=
  if x0 < 0 then (bX10_isLetter_13 h) else
  (if (nI 4) ≤ x0 then (bX10_isLetter_13 h) else
  (bX10_isLetter_14 (nI 1) h))
theorem mX10_isLetter (b0 : Nat) (x0 : Int32) (h : ZH) : ZM zi b0 YX10_isLetter 1 [.int x0] h (fX10_isLetter x0 h) := by
  unfold fX10_isLetter
  refine ZM.of (by decide) rfl (Nat.le_of_ble_eq_true rfl) (fun _ => trivial) ?_
  refine z_sub (lv2 := [(0, .int x0)]) [0] rfl ?_
  refine z_iload_n 1 0 dX10_isLetter_0 rfl rfl ?_
  refine z_if_lt 13 4 dX10_isLetter_1 (by decide) rfl (fun c1 => ?_) (fun c1 => ?_)
  · exact z_sub [] rfl (BX10_isLetter_13 b0 h )
  · refine z_iload_n 5 0 dX10_isLetter_4 rfl rfl ?_
    refine z_iconst (nI 4) 6 zki_4 dX10_isLetter_5 rfl ?_
    refine z_icmp_ge 13 9 dX10_isLetter_6 (by decide) rfl (fun c2 => ?_) (fun c2 => ?_)
    · exact z_sub [] rfl (BX10_isLetter_13 b0 h )
    · refine z_iconst (nI 1) 10 zki_1 dX10_isLetter_9 rfl ?_
      refine z_goto 14 dX10_isLetter_10 (by decide) ?_
      exact z_sub [] rfl (BX10_isLetter_14 b0 (nI 1) h )
-- X1_link
def bX1_link_32 (h : ZH) : Option (ZH) :=
  some h
theorem BX1_link_32 (b0 : Nat) (h : ZH) : Zr zv b0 YX1_link 2 32 [] [] h (bX1_link_32 h) := by
  unfold bX1_link_32
  exact z_return dX1_link_32 rfl
def fX1_link (x0 : Nat) (x1 : Int32) (x2 : Int32) (x3 : Int32) (h : ZH) : Option (ZH) :=
  if x0 < zn h ∧ zK h x0 = 1 then ((fX10_isVertex x1 h).bind fun q1 =>
  if q1.1 = 0 then (bX1_link_32 q1.2) else
  ((fX10_isLetter x2 q1.2).bind fun q3 =>
  if q3.1 = 0 then (bX1_link_32 q3.2) else
  ((gR q3.2 1 x0 0).bind fun v5 =>
  zl (((nI 4) * x1) + x2) fun v6 =>
  (lI q3.2 14 v5 v6).bind fun v7 =>
  (sI q3.2 14 v5 v6 (v7 ||| (x3 &&& (nI 255)))).bind fun h8 =>
  bX1_link_32 h8))) else none
theorem kX1_link {x0 : Nat} {x1 : Int32} {x2 : Int32} {x3 : Int32} {h : ZH} {x : ZH} (e : fX1_link x0 x1 x2 x3 h = some x) : x0 < zn h ∧ zK h x0 = 1 := by
  unfold fX1_link at e
  exact zguard e
theorem mX1_link (b0 : Nat) (x0 : Nat) (x1 : Int32) (x2 : Int32) (x3 : Int32) (h : ZH) : ZM zv b0 YX1_link 2 [.ref (b0 + x0), .int x1, .int x2, .int x3] h (fX1_link x0 x1 x2 x3 h) := by
  unfold fX1_link
  refine ZM.of (by decide) rfl (Nat.le_of_ble_eq_true rfl) (fun _ => trivial) ?_
  refine z_sub (lv2 := [(0, .ref (b0 + x0)), (1, .int x1), (2, .int x2), (3, .int x3)]) [0, 1, 2, 3] rfl ?_
  refine z_guard (fun _ => ?_)
  refine z_iload_n 1 1 dX1_link_0 rfl rfl ?_
  refine z_callSNi 4 (mX10_isVertex b0 x1 h) zyX10_isVertex rfl (List.mem_of_getElem? (i := 11) rfl) wt_yX10_isVertex (Nat.le_of_ble_eq_true rfl) rfl (Nat.le_of_ble_eq_true rfl) dX1_link_1 rfl (fun q1 => ?_)
  refine z_if_eq 32 7 dX1_link_4 (by decide) rfl (fun c2 => ?_) (fun c2 => ?_)
  · exact z_sub [] rfl (BX1_link_32 b0 q1.2 )
  · refine z_iload_n 8 2 dX1_link_7 rfl rfl ?_
    refine z_callSNi 11 (mX10_isLetter b0 x2 q1.2) zyX10_isLetter rfl (List.mem_of_getElem? (i := 12) rfl) wt_yX10_isLetter (Nat.le_of_ble_eq_true rfl) rfl (Nat.le_of_ble_eq_true rfl) dX1_link_8 rfl (fun q3 => ?_)
    refine z_if_eq 32 14 dX1_link_11 (by decide) rfl (fun c4 => ?_) (fun c4 => ?_)
    · exact z_sub [] rfl (BX1_link_32 b0 q3.2 )
    · refine z_aload_n 15 0 dX1_link_14 rfl rfl ?_
      refine z_getR 18 zC1 (Nat.le_of_ble_eq_true rfl) rfl w_40 dX1_link_15 rfl (fun v5 _ => ?_)
      refine z_iconst (nI 4) 19 zki_4 dX1_link_18 rfl ?_
      refine z_iload_n 20 1 dX1_link_19 rfl rfl ?_
      refine z_imul 21 dX1_link_20 rfl ?_
      refine z_iload_n 22 2 dX1_link_21 rfl rfl ?_
      refine z_iadd 23 dX1_link_22 rfl ?_
      refine z_letI (fun v6 _ => ?_)
      refine z_dup2 24 rfl rfl dX1_link_23 rfl ?_
      refine z_iaload 25 dX1_link_24 rfl (fun v7 _ => ?_)
      refine z_iload_n 26 3 dX1_link_25 rfl rfl ?_
      refine z_sipush (nI 255) 29 zks_255 dX1_link_26 rfl ?_
      refine z_iand 30 dX1_link_29 rfl ?_
      refine z_ior 31 dX1_link_30 rfl ?_
      refine z_iastore 32 dX1_link_31 rfl (fun h8 _ => ?_)
      exact z_sub [] rfl (BX1_link_32 b0 h8 )
-- X1_put
def bX1_put_16 (h : ZH) : Option (ZH) :=
  some h
theorem BX1_put_16 (b0 : Nat) (h : ZH) : Zr zv b0 YX1_put 3 16 [] [] h (bX1_put_16 h) := by
  unfold bX1_put_16
  exact z_return dX1_put_16 rfl
def fX1_put (x0 : Nat) (x1 : Int32) (x2 : Int32) (x3 : Int32) (h : ZH) : Option (ZH) :=
  if x0 < zn h ∧ zK h x0 = 1 then ((fX10_isVertex x3 h).bind fun q1 =>
  if q1.1 = 0 then (bX1_put_16 q1.2) else
  ((fX1_link x0 x1 x2 (jshl (nI 1) x3) q1.2).bind fun h3 =>
  bX1_put_16 h3)) else none
theorem kX1_put {x0 : Nat} {x1 : Int32} {x2 : Int32} {x3 : Int32} {h : ZH} {x : ZH} (e : fX1_put x0 x1 x2 x3 h = some x) : x0 < zn h ∧ zK h x0 = 1 := by
  unfold fX1_put at e
  exact zguard e
theorem mX1_put (b0 : Nat) (x0 : Nat) (x1 : Int32) (x2 : Int32) (x3 : Int32) (h : ZH) : ZM zv b0 YX1_put 3 [.ref (b0 + x0), .int x1, .int x2, .int x3] h (fX1_put x0 x1 x2 x3 h) := by
  unfold fX1_put
  refine ZM.of (by decide) rfl (Nat.le_of_ble_eq_true rfl) (fun _ => trivial) ?_
  refine z_sub (lv2 := [(0, .ref (b0 + x0)), (1, .int x1), (2, .int x2), (3, .int x3)]) [0, 1, 2, 3] rfl ?_
  refine z_guard (fun _ => ?_)
  refine z_iload_n 1 3 dX1_put_0 rfl rfl ?_
  refine z_callSNi 4 (mX10_isVertex b0 x3 h) zyX10_isVertex rfl (List.mem_of_getElem? (i := 11) rfl) wt_yX10_isVertex (Nat.le_of_ble_eq_true rfl) rfl (Nat.le_of_ble_eq_true rfl) dX1_put_1 rfl (fun q1 => ?_)
  refine z_if_eq 16 7 dX1_put_4 (by decide) rfl (fun c2 => ?_) (fun c2 => ?_)
  · exact z_sub [] rfl (BX1_put_16 b0 q1.2 )
  · refine z_aload_n 8 0 dX1_put_7 rfl rfl ?_
    refine z_iload_n 9 1 dX1_put_8 rfl rfl ?_
    refine z_iload_n 10 2 dX1_put_9 rfl rfl ?_
    refine z_iconst (nI 1) 11 zki_1 dX1_put_10 rfl ?_
    refine z_iload_n 12 3 dX1_put_11 rfl rfl ?_
    refine z_ishl 13 dX1_put_12 rfl ?_
    refine z_callVv 16 (mX1_link b0 x0 x1 x2 (jshl (nI 1) x3) q1.2) zyX1_link rfl w_322 (ci := 1) rfl (Nat.le_of_ble_eq_true rfl) (fun _ e9 => kX1_link e9) wm_yX1_link ws_yX1_link (Nat.le_of_ble_eq_true rfl) rfl (Nat.le_of_ble_eq_true rfl) dX1_put_13 rfl (fun h3 => ?_)
    exact z_sub [] rfl (BX1_put_16 b0 h3 )
-- X0_linkClasses
def bX0_linkClasses_67 (h : ZH) : Option (ZH) :=
  some h
theorem BX0_linkClasses_67 (b0 : Nat) (h : ZH) : Zr zv b0 YX0_linkClasses 4 67 [] [] h (bX0_linkClasses_67 h) := by
  unfold bX0_linkClasses_67
  exact z_return dX0_linkClasses_67 rfl
def kX0_linkClasses_25 (self9 : Int32 × ZH → Option (ZH)) (x0 : Nat) (x1 : Nat) (x2 : Int32) (self25 : Int32 × ZH → Option (ZH)) (x3 : Int32) (h : ZH) : Option (ZH) :=
  if (nI 4) ≤ x3 then (self9 ((x2 + (nI 1)), h)) else
  ((gR h 0 x0 7).bind fun v2 =>
  (gR h 0 x0 3).bind fun v3 =>
  (gR h 0 x0 5).bind fun v4 =>
  (lI h 14 v4 x2).bind fun v5 =>
  (fX6_after x1 v5 x3 h).bind fun q6 =>
  (lI q6.2 14 v3 q6.1).bind fun v7 =>
  (fX1_put v2 x2 x3 v7 q6.2).bind fun h8 =>
  self25 ((x3 + (nI 1)), h8))
def lX0_linkClasses_25 (self9 : Int32 × ZH → Option (ZH)) (x0 : Nat) (x1 : Nat) (x2 : Int32) : (Int32 × ZH → Option (ZH)) → Int32 × ZH → Option (ZH) := fun self s => kX0_linkClasses_25 self9 x0 x1 x2 self s.1 s.2
theorem KX0_linkClasses_25 (b0 : Nat) (self9 : Int32 × ZH → Option (ZH)) (x0 : Nat) (x1 : Nat) (x2 : Int32) (hself9 : ∀ (y2 : Int32) (hh : ZH), Zr zv b0 YX0_linkClasses 4 9 [(0, .ref (b0 + x0)), (1, .ref (b0 + x1)), (2, .int y2)] [] hh (self9 (y2, hh))) (self25 : Int32 × ZH → Option (ZH)) (hself25 : ∀ (y3 : Int32) (hh : ZH), Zr zv b0 YX0_linkClasses 4 25 [(0, .ref (b0 + x0)), (1, .ref (b0 + x1)), (2, .int x2), (3, .int y3)] [] hh (self25 (y3, hh))) (x3 : Int32) (h : ZH) : Zr zv b0 YX0_linkClasses 4 25 [(0, .ref (b0 + x0)), (1, .ref (b0 + x1)), (2, .int x2), (3, .int x3)] [] h (kX0_linkClasses_25 self9 x0 x1 x2 self25 x3 h) := by
  unfold kX0_linkClasses_25
  refine z_iload_n 26 3 dX0_linkClasses_25 rfl rfl ?_
  refine z_iconst (nI 4) 27 zki_4 dX0_linkClasses_26 rfl ?_
  refine z_icmp_ge 61 30 dX0_linkClasses_27 (by decide) rfl (fun c1 => ?_) (fun c1 => ?_)
  · refine z_iinc (lv2 := [(2, .int (x2 + (nI 1))), (0, .ref (b0 + x0)), (1, .ref (b0 + x1)), (3, .int x3)]) (nI 1) 64 2 dX0_linkClasses_61 rfl rfl zki_1 (Nat.le_of_ble_eq_true rfl) rfl ?_
    refine z_goto 9 dX0_linkClasses_64 (by decide) ?_
    exact z_sub [1, 2, 0] rfl (hself9 (x2 + (nI 1)) h)
  · refine z_aload_n 31 0 dX0_linkClasses_30 rfl rfl ?_
    refine z_getR 34 zC0 (Nat.le_of_ble_eq_true rfl) rfl w_150 dX0_linkClasses_31 rfl (fun v2 _ => ?_)
    refine z_iload_n 35 2 dX0_linkClasses_34 rfl rfl ?_
    refine z_iload_n 36 3 dX0_linkClasses_35 rfl rfl ?_
    refine z_aload_n 37 0 dX0_linkClasses_36 rfl rfl ?_
    refine z_getR 40 zC0 (Nat.le_of_ble_eq_true rfl) rfl w_146 dX0_linkClasses_37 rfl (fun v3 _ => ?_)
    refine z_aload_n 41 1 dX0_linkClasses_40 rfl rfl ?_
    refine z_aload_n 42 0 dX0_linkClasses_41 rfl rfl ?_
    refine z_getR 45 zC0 (Nat.le_of_ble_eq_true rfl) rfl w_148 dX0_linkClasses_42 rfl (fun v4 _ => ?_)
    refine z_iload_n 46 2 dX0_linkClasses_45 rfl rfl ?_
    refine z_iaload 47 dX0_linkClasses_46 rfl (fun v5 _ => ?_)
    refine z_iload_n 48 3 dX0_linkClasses_47 rfl rfl ?_
    refine z_callVi 51 (mX6_after b0 x1 v5 x3 h) zyX6_after rfl w_656 (ci := 6) rfl (Nat.le_of_ble_eq_true rfl) (fun _ e9 => kX6_after e9) wm_yX6_after ws_yX6_after (Nat.le_of_ble_eq_true rfl) rfl (Nat.le_of_ble_eq_true rfl) dX0_linkClasses_48 rfl (fun q6 => ?_)
    refine z_iaload 52 dX0_linkClasses_51 rfl (fun v7 _ => ?_)
    refine z_callVv 55 (mX1_put b0 v2 x2 x3 v7 q6.2) zyX1_put rfl w_683 (ci := 1) rfl (Nat.le_of_ble_eq_true rfl) (fun _ e9 => kX1_put e9) wm_yX1_put ws_yX1_put (Nat.le_of_ble_eq_true rfl) rfl (Nat.le_of_ble_eq_true rfl) dX0_linkClasses_52 rfl (fun h8 => ?_)
    refine z_iinc (lv2 := [(3, .int (x3 + (nI 1))), (0, .ref (b0 + x0)), (1, .ref (b0 + x1)), (2, .int x2)]) (nI 1) 58 3 dX0_linkClasses_55 rfl rfl zki_1 (Nat.le_of_ble_eq_true rfl) rfl ?_
    refine z_goto 25 dX0_linkClasses_58 (by decide) ?_
    exact z_sub [1, 2, 3, 0] rfl (hself25 (x3 + (nI 1)) h8)
theorem BX0_linkClasses_25 (b0 : Nat) (self9 : Int32 × ZH → Option (ZH)) (x0 : Nat) (x1 : Nat) (x2 : Int32) (hself9 : ∀ (y2 : Int32) (hh : ZH), Zr zv b0 YX0_linkClasses 4 9 [(0, .ref (b0 + x0)), (1, .ref (b0 + x1)), (2, .int y2)] [] hh (self9 (y2, hh))) (n : Nat) (x3 : Int32) (h : ZH) : Zr zv b0 YX0_linkClasses 4 25 [(0, .ref (b0 + x0)), (1, .ref (b0 + x1)), (2, .int x2), (3, .int x3)] [] h (zloop (lX0_linkClasses_25 self9 x0 x1 x2) n (x3, h)) :=
  zloop_Zr (fun s => [(0, .ref (b0 + x0)), (1, .ref (b0 + x1)), (2, .int x2), (3, .int s.1)]) (fun _ => []) (fun s => s.2) (lX0_linkClasses_25 self9 x0 x1 x2) (fun self hs s => KX0_linkClasses_25 b0 self9 x0 x1 x2 hself9 self (fun y3 hh => hs (y3, hh)) s.1 s.2) n (x3, h)
def kX0_linkClasses_9 (x0 : Nat) (x1 : Nat) (self9 : Int32 × ZH → Option (ZH)) (x2 : Int32) (h : ZH) : Option (ZH) :=
  (gI h 0 x0 6).bind fun v1 =>
  if v1 ≤ x2 then (bX0_linkClasses_67 h) else
  (if (nI 8) ≤ x2 then (bX0_linkClasses_67 h) else
  (zloop (lX0_linkClasses_25 self9 x0 x1 x2) zfu ((nI 0), h)))
def lX0_linkClasses_9 (x0 : Nat) (x1 : Nat) : (Int32 × ZH → Option (ZH)) → Int32 × ZH → Option (ZH) := fun self s => kX0_linkClasses_9 x0 x1 self s.1 s.2
theorem KX0_linkClasses_9 (b0 : Nat) (x0 : Nat) (x1 : Nat) (self9 : Int32 × ZH → Option (ZH)) (hself9 : ∀ (y2 : Int32) (hh : ZH), Zr zv b0 YX0_linkClasses 4 9 [(0, .ref (b0 + x0)), (1, .ref (b0 + x1)), (2, .int y2)] [] hh (self9 (y2, hh))) (x2 : Int32) (h : ZH) : Zr zv b0 YX0_linkClasses 4 9 [(0, .ref (b0 + x0)), (1, .ref (b0 + x1)), (2, .int x2)] [] h (kX0_linkClasses_9 x0 x1 self9 x2 h) := by
  unfold kX0_linkClasses_9
  refine z_iload_n 10 2 dX0_linkClasses_9 rfl rfl ?_
  refine z_aload_n 11 0 dX0_linkClasses_10 rfl rfl ?_
  refine z_getI 14 zC0 (Nat.le_of_ble_eq_true rfl) rfl w_149 dX0_linkClasses_11 rfl (fun v1 _ => ?_)
  refine z_icmp_ge 67 17 dX0_linkClasses_14 (by decide) rfl (fun c2 => ?_) (fun c2 => ?_)
  · exact z_sub [] rfl (BX0_linkClasses_67 b0 h )
  · refine z_iload_n 18 2 dX0_linkClasses_17 rfl rfl ?_
    refine z_bipush (nI 8) 20 zkb_8 dX0_linkClasses_18 rfl ?_
    refine z_icmp_ge 67 23 dX0_linkClasses_20 (by decide) rfl (fun c3 => ?_) (fun c3 => ?_)
    · exact z_sub [] rfl (BX0_linkClasses_67 b0 h )
    · refine z_iconst (nI 0) 24 zki_0 dX0_linkClasses_23 rfl ?_
      refine z_istore_n (lv2 := [(3, .int (nI 0)), (0, .ref (b0 + x0)), (1, .ref (b0 + x1)), (2, .int x2)]) 25 dX0_linkClasses_24 rfl (Nat.le_of_ble_eq_true rfl) rfl ?_
      exact z_sub [1, 2, 3, 0] rfl (BX0_linkClasses_25 b0 self9 x0 x1 x2 hself9 zfu (nI 0) h)
theorem BX0_linkClasses_9 (b0 : Nat) (x0 : Nat) (x1 : Nat) (n : Nat) (x2 : Int32) (h : ZH) : Zr zv b0 YX0_linkClasses 4 9 [(0, .ref (b0 + x0)), (1, .ref (b0 + x1)), (2, .int x2)] [] h (zloop (lX0_linkClasses_9 x0 x1) n (x2, h)) :=
  zloop_Zr (fun s => [(0, .ref (b0 + x0)), (1, .ref (b0 + x1)), (2, .int s.1)]) (fun _ => []) (fun s => s.2) (lX0_linkClasses_9 x0 x1) (fun self hs s => KX0_linkClasses_9 b0 x0 x1 self (fun y2 hh => hs (y2, hh)) s.1 s.2) n (x2, h)
def fX0_linkClasses (x0 : Nat) (x1 : Nat) (h : ZH) : Option (ZH) :=
  if x0 < zn h ∧ zK h x0 = 0 then ((gR h 0 x0 7).bind fun v1 =>
  (fX1_clear v1 h).bind fun h2 =>
  zloop (lX0_linkClasses_9 x0 x1) zfu ((nI 0), h2)) else none
theorem kX0_linkClasses {x0 : Nat} {x1 : Nat} {h : ZH} {x : ZH} (e : fX0_linkClasses x0 x1 h = some x) : x0 < zn h ∧ zK h x0 = 0 := by
  unfold fX0_linkClasses at e
  exact zguard e
theorem mX0_linkClasses (b0 : Nat) (x0 : Nat) (x1 : Nat) (h : ZH) : ZM zv b0 YX0_linkClasses 4 [.ref (b0 + x0), .ref (b0 + x1)] h (fX0_linkClasses x0 x1 h) := by
  unfold fX0_linkClasses
  refine ZM.of (by decide) rfl (Nat.le_of_ble_eq_true rfl) (fun _ => trivial) ?_
  refine z_sub (lv2 := [(0, .ref (b0 + x0)), (1, .ref (b0 + x1))]) [0, 1] rfl ?_
  refine z_guard (fun _ => ?_)
  refine z_aload_n 1 0 dX0_linkClasses_0 rfl rfl ?_
  refine z_getR 4 zC0 (Nat.le_of_ble_eq_true rfl) rfl w_150 dX0_linkClasses_1 rfl (fun v1 _ => ?_)
  refine z_callVv 7 (mX1_clear b0 v1 h) zyX1_clear rfl w_682 (ci := 1) rfl (Nat.le_of_ble_eq_true rfl) (fun _ e9 => kX1_clear e9) wm_yX1_clear ws_yX1_clear (Nat.le_of_ble_eq_true rfl) rfl (Nat.le_of_ble_eq_true rfl) dX0_linkClasses_4 rfl (fun h2 => ?_)
  refine z_iconst (nI 0) 8 zki_0 dX0_linkClasses_7 rfl ?_
  refine z_istore_n (lv2 := [(2, .int (nI 0)), (0, .ref (b0 + x0)), (1, .ref (b0 + x1))]) 9 dX0_linkClasses_8 rfl (Nat.le_of_ble_eq_true rfl) rfl ?_
  exact z_sub [1, 2, 0] rfl (BX0_linkClasses_9 b0 x0 x1 zfu (nI 0) h2)
-- X0_leadAlike
def bX0_leadAlike_76 (x4 : Int32) (h : ZH) : Option (Int32 × ZH) :=
  if x4 = 0 ∨ x4 = 1 then some (x4, h) else none
theorem BX0_leadAlike_76 (b0 : Nat) (x4 : Int32) (h : ZH) : Zr zi b0 YX0_leadAlike 2 76 [(4, .int x4)] [] h (bX0_leadAlike_76 x4 h) := by
  unfold bX0_leadAlike_76
  refine z_iload 78 0 dX0_leadAlike_76 rfl rfl ?_
  exact z_zreturn dX0_leadAlike_78 rfl
def bX0_leadAlike_68 (self25 : Int32 × Int32 × ZH → Option (Int32 × ZH)) (x0 : Nat) (x1 : Nat) (x2 : Int32) (x3 : Int32) (x5 : Int32) (t0 : Int32) (h : ZH) : Option (Int32 × ZH) :=
  self25 (t0, (x5 + (nI 1)), h)
theorem BX0_leadAlike_68 (b0 : Nat) (self25 : Int32 × Int32 × ZH → Option (Int32 × ZH)) (x0 : Nat) (x1 : Nat) (x2 : Int32) (x3 : Int32) (x5 : Int32) (t0 : Int32) (h : ZH) (hself25 : ∀ (y4 : Int32) (y5 : Int32) (hh : ZH), Zr zi b0 YX0_leadAlike 2 25 [(0, .ref (b0 + x0)), (1, .ref (b0 + x1)), (2, .int x2), (3, .int x3), (4, .int y4), (5, .int y5)] [] hh (self25 (y4, y5, hh))) : Zr zi b0 YX0_leadAlike 2 68 [(0, .ref (b0 + x0)), (1, .ref (b0 + x1)), (2, .int x2), (3, .int x3), (5, .int x5)] [.int t0] h (bX0_leadAlike_68 self25 x0 x1 x2 x3 x5 t0 h) := by
  unfold bX0_leadAlike_68
  refine z_istore (lv2 := [(4, .int t0), (0, .ref (b0 + x0)), (1, .ref (b0 + x1)), (2, .int x2), (3, .int x3), (5, .int x5)]) 70 dX0_leadAlike_68 rfl (Nat.le_of_ble_eq_true rfl) rfl ?_
  refine z_iinc (lv2 := [(5, .int (x5 + (nI 1))), (4, .int t0), (0, .ref (b0 + x0)), (1, .ref (b0 + x1)), (2, .int x2), (3, .int x3)]) (nI 1) 73 5 dX0_leadAlike_70 rfl rfl zki_1 (Nat.le_of_ble_eq_true rfl) rfl ?_
  refine z_goto 25 dX0_leadAlike_73 (by decide) ?_
  exact z_sub [2, 3, 4, 5, 1, 0] rfl (hself25 t0 (x5 + (nI 1)) h)
def kX0_leadAlike_25 (x0 : Nat) (x1 : Nat) (x2 : Int32) (x3 : Int32) (self25 : Int32 × Int32 × ZH → Option (Int32 × ZH)) (x4 : Int32) (x5 : Int32) (h : ZH) : Option (Int32 × ZH) :=
  if (nI 4) ≤ x5 then (bX0_leadAlike_76 x4 h) else
  (if x4 = 0 then (bX0_leadAlike_76 x4 h) else
  ((gR h 0 x0 3).bind fun v3 =>
  (fX6_after x1 x2 x5 h).bind fun q4 =>
  (lI q4.2 14 v3 q4.1).bind fun v5 =>
  (gR q4.2 0 x0 3).bind fun v6 =>
  (fX6_after x1 x3 x5 q4.2).bind fun q7 =>
  (lI q7.2 14 v6 q7.1).bind fun v8 =>
  if v5 = v8 then (bX0_leadAlike_68 self25 x0 x1 x2 x3 x5 (nI 1) q7.2) else
  (bX0_leadAlike_68 self25 x0 x1 x2 x3 x5 (nI 0) q7.2)))
def lX0_leadAlike_25 (x0 : Nat) (x1 : Nat) (x2 : Int32) (x3 : Int32) : (Int32 × Int32 × ZH → Option (Int32 × ZH)) → Int32 × Int32 × ZH → Option (Int32 × ZH) := fun self s => kX0_leadAlike_25 x0 x1 x2 x3 self s.1 s.2.1 s.2.2
theorem KX0_leadAlike_25 (b0 : Nat) (x0 : Nat) (x1 : Nat) (x2 : Int32) (x3 : Int32) (self25 : Int32 × Int32 × ZH → Option (Int32 × ZH)) (hself25 : ∀ (y4 : Int32) (y5 : Int32) (hh : ZH), Zr zi b0 YX0_leadAlike 2 25 [(0, .ref (b0 + x0)), (1, .ref (b0 + x1)), (2, .int x2), (3, .int x3), (4, .int y4), (5, .int y5)] [] hh (self25 (y4, y5, hh))) (x4 : Int32) (x5 : Int32) (h : ZH) : Zr zi b0 YX0_leadAlike 2 25 [(0, .ref (b0 + x0)), (1, .ref (b0 + x1)), (2, .int x2), (3, .int x3), (4, .int x4), (5, .int x5)] [] h (kX0_leadAlike_25 x0 x1 x2 x3 self25 x4 x5 h) := by
  unfold kX0_leadAlike_25
  refine z_iload 27 5 dX0_leadAlike_25 rfl rfl ?_
  refine z_iconst (nI 4) 28 zki_4 dX0_leadAlike_27 rfl ?_
  refine z_icmp_ge 76 31 dX0_leadAlike_28 (by decide) rfl (fun c1 => ?_) (fun c1 => ?_)
  · exact z_sub [4] rfl (BX0_leadAlike_76 b0 x4 h )
  · refine z_iload 33 4 dX0_leadAlike_31 rfl rfl ?_
    refine z_if_eq 76 36 dX0_leadAlike_33 (by decide) rfl (fun c2 => ?_) (fun c2 => ?_)
    · exact z_sub [4] rfl (BX0_leadAlike_76 b0 x4 h )
    · refine z_aload_n 37 0 dX0_leadAlike_36 rfl rfl ?_
      refine z_getR 40 zC0 (Nat.le_of_ble_eq_true rfl) rfl w_146 dX0_leadAlike_37 rfl (fun v3 _ => ?_)
      refine z_aload_n 41 1 dX0_leadAlike_40 rfl rfl ?_
      refine z_iload_n 42 2 dX0_leadAlike_41 rfl rfl ?_
      refine z_iload 44 5 dX0_leadAlike_42 rfl rfl ?_
      refine z_callVi 47 (mX6_after b0 x1 x2 x5 h) zyX6_after rfl w_656 (ci := 6) rfl (Nat.le_of_ble_eq_true rfl) (fun _ e9 => kX6_after e9) wm_yX6_after ws_yX6_after (Nat.le_of_ble_eq_true rfl) rfl (Nat.le_of_ble_eq_true rfl) dX0_leadAlike_44 rfl (fun q4 => ?_)
      refine z_iaload 48 dX0_leadAlike_47 rfl (fun v5 _ => ?_)
      refine z_aload_n 49 0 dX0_leadAlike_48 rfl rfl ?_
      refine z_getR 52 zC0 (Nat.le_of_ble_eq_true rfl) rfl w_146 dX0_leadAlike_49 rfl (fun v6 _ => ?_)
      refine z_aload_n 53 1 dX0_leadAlike_52 rfl rfl ?_
      refine z_iload_n 54 3 dX0_leadAlike_53 rfl rfl ?_
      refine z_iload 56 5 dX0_leadAlike_54 rfl rfl ?_
      refine z_callVi 59 (mX6_after b0 x1 x3 x5 q4.2) zyX6_after rfl w_656 (ci := 6) rfl (Nat.le_of_ble_eq_true rfl) (fun _ e9 => kX6_after e9) wm_yX6_after ws_yX6_after (Nat.le_of_ble_eq_true rfl) rfl (Nat.le_of_ble_eq_true rfl) dX0_leadAlike_56 rfl (fun q7 => ?_)
      refine z_iaload 60 dX0_leadAlike_59 rfl (fun v8 _ => ?_)
      refine z_icmp_ne 67 63 dX0_leadAlike_60 (by decide) rfl (fun c9 => ?_) (fun c9 => ?_)
      · refine z_iconst (nI 0) 68 zki_0 dX0_leadAlike_67 rfl ?_
        exact z_sub [0, 1, 2, 3, 5] rfl (BX0_leadAlike_68 b0 self25 x0 x1 x2 x3 x5 (nI 0) q7.2 hself25)
      · refine z_iconst (nI 1) 64 zki_1 dX0_leadAlike_63 rfl ?_
        refine z_goto 68 dX0_leadAlike_64 (by decide) ?_
        exact z_sub [0, 1, 2, 3, 5] rfl (BX0_leadAlike_68 b0 self25 x0 x1 x2 x3 x5 (nI 1) q7.2 hself25)
theorem BX0_leadAlike_25 (b0 : Nat) (x0 : Nat) (x1 : Nat) (x2 : Int32) (x3 : Int32) (n : Nat) (x4 : Int32) (x5 : Int32) (h : ZH) : Zr zi b0 YX0_leadAlike 2 25 [(0, .ref (b0 + x0)), (1, .ref (b0 + x1)), (2, .int x2), (3, .int x3), (4, .int x4), (5, .int x5)] [] h (zloop (lX0_leadAlike_25 x0 x1 x2 x3) n (x4, x5, h)) :=
  zloop_Zr (fun s => [(0, .ref (b0 + x0)), (1, .ref (b0 + x1)), (2, .int x2), (3, .int x3), (4, .int s.1), (5, .int s.2.1)]) (fun _ => []) (fun s => s.2.2) (lX0_leadAlike_25 x0 x1 x2 x3) (fun self hs s => KX0_leadAlike_25 b0 x0 x1 x2 x3 self (fun y4 y5 hh => hs (y4, y5, hh)) s.1 s.2.1 s.2.2) n (x4, x5, h)
def bX0_leadAlike_20 (x0 : Nat) (x1 : Nat) (x2 : Int32) (x3 : Int32) (t0 : Int32) (h : ZH) : Option (Int32 × ZH) :=
  zloop (lX0_leadAlike_25 x0 x1 x2 x3) zfu (t0, (nI 0), h)
theorem BX0_leadAlike_20 (b0 : Nat) (x0 : Nat) (x1 : Nat) (x2 : Int32) (x3 : Int32) (t0 : Int32) (h : ZH) : Zr zi b0 YX0_leadAlike 2 20 [(0, .ref (b0 + x0)), (1, .ref (b0 + x1)), (2, .int x2), (3, .int x3)] [.int t0] h (bX0_leadAlike_20 x0 x1 x2 x3 t0 h) := by
  unfold bX0_leadAlike_20
  refine z_istore (lv2 := [(4, .int t0), (0, .ref (b0 + x0)), (1, .ref (b0 + x1)), (2, .int x2), (3, .int x3)]) 22 dX0_leadAlike_20 rfl (Nat.le_of_ble_eq_true rfl) rfl ?_
  refine z_iconst (nI 0) 23 zki_0 dX0_leadAlike_22 rfl ?_
  refine z_istore (lv2 := [(5, .int (nI 0)), (4, .int t0), (0, .ref (b0 + x0)), (1, .ref (b0 + x1)), (2, .int x2), (3, .int x3)]) 25 dX0_leadAlike_23 rfl (Nat.le_of_ble_eq_true rfl) rfl ?_
  exact z_sub [2, 3, 4, 5, 1, 0] rfl (BX0_leadAlike_25 b0 x0 x1 x2 x3 zfu t0 (nI 0) h)
def fX0_leadAlike (x0 : Nat) (x1 : Nat) (x2 : Int32) (x3 : Int32) (h : ZH) : Option (Int32 × ZH) :=
  if x0 < zn h ∧ zK h x0 = 0 then ((gR h 0 x0 3).bind fun v1 =>
  (lI h 14 v1 x2).bind fun v2 =>
  (gR h 0 x0 3).bind fun v3 =>
  (lI h 14 v3 x3).bind fun v4 =>
  if v2 = v4 then (bX0_leadAlike_20 x0 x1 x2 x3 (nI 1) h) else
  (bX0_leadAlike_20 x0 x1 x2 x3 (nI 0) h)) else none
theorem kX0_leadAlike {x0 : Nat} {x1 : Nat} {x2 : Int32} {x3 : Int32} {h : ZH} {x : Int32 × ZH} (e : fX0_leadAlike x0 x1 x2 x3 h = some x) : x0 < zn h ∧ zK h x0 = 0 := by
  unfold fX0_leadAlike at e
  exact zguard e
theorem mX0_leadAlike (b0 : Nat) (x0 : Nat) (x1 : Nat) (x2 : Int32) (x3 : Int32) (h : ZH) : ZM zi b0 YX0_leadAlike 2 [.ref (b0 + x0), .ref (b0 + x1), .int x2, .int x3] h (fX0_leadAlike x0 x1 x2 x3 h) := by
  unfold fX0_leadAlike
  refine ZM.of (by decide) rfl (Nat.le_of_ble_eq_true rfl) (fun _ => trivial) ?_
  refine z_sub (lv2 := [(0, .ref (b0 + x0)), (1, .ref (b0 + x1)), (2, .int x2), (3, .int x3)]) [0, 1, 2, 3] rfl ?_
  refine z_guard (fun _ => ?_)
  refine z_aload_n 1 0 dX0_leadAlike_0 rfl rfl ?_
  refine z_getR 4 zC0 (Nat.le_of_ble_eq_true rfl) rfl w_146 dX0_leadAlike_1 rfl (fun v1 _ => ?_)
  refine z_iload_n 5 2 dX0_leadAlike_4 rfl rfl ?_
  refine z_iaload 6 dX0_leadAlike_5 rfl (fun v2 _ => ?_)
  refine z_aload_n 7 0 dX0_leadAlike_6 rfl rfl ?_
  refine z_getR 10 zC0 (Nat.le_of_ble_eq_true rfl) rfl w_146 dX0_leadAlike_7 rfl (fun v3 _ => ?_)
  refine z_iload_n 11 3 dX0_leadAlike_10 rfl rfl ?_
  refine z_iaload 12 dX0_leadAlike_11 rfl (fun v4 _ => ?_)
  refine z_icmp_ne 19 15 dX0_leadAlike_12 (by decide) rfl (fun c5 => ?_) (fun c5 => ?_)
  · refine z_iconst (nI 0) 20 zki_0 dX0_leadAlike_19 rfl ?_
    exact z_sub [0, 1, 2, 3] rfl (BX0_leadAlike_20 b0 x0 x1 x2 x3 (nI 0) h )
  · refine z_iconst (nI 1) 16 zki_1 dX0_leadAlike_15 rfl ?_
    refine z_goto 20 dX0_leadAlike_16 (by decide) ?_
    exact z_sub [0, 1, 2, 3] rfl (BX0_leadAlike_20 b0 x0 x1 x2 x3 (nI 1) h )
-- X0_splitClasses
def kX0_splitClasses_100 (x0 : Nat) (x2 : Int32) (self100 : Int32 × ZH → Option (Int32 × ZH)) (x3 : Int32) (h : ZH) : Option (Int32 × ZH) :=
  (gI h 0 x0 1).bind fun v1 =>
  if v1 ≤ x3 then (some (x2, h)) else
  ((gR h 0 x0 3).bind fun v3 =>
  (gR h 0 x0 0).bind fun v4 =>
  (lI h 14 v4 x3).bind fun v5 =>
  (gR h 0 x0 4).bind fun v6 =>
  (gR h 0 x0 0).bind fun v7 =>
  (lI h 14 v7 x3).bind fun v8 =>
  (lI h 14 v6 v8).bind fun v9 =>
  (sI h 14 v3 v5 v9).bind fun h10 =>
  self100 ((x3 + (nI 1)), h10))
def lX0_splitClasses_100 (x0 : Nat) (x2 : Int32) : (Int32 × ZH → Option (Int32 × ZH)) → Int32 × ZH → Option (Int32 × ZH) := fun self s => kX0_splitClasses_100 x0 x2 self s.1 s.2
theorem KX0_splitClasses_100 (b0 : Nat) (x0 : Nat) (x2 : Int32) (self100 : Int32 × ZH → Option (Int32 × ZH)) (hself100 : ∀ (y3 : Int32) (hh : ZH), Zr zi b0 YX0_splitClasses 3 100 [(0, .ref (b0 + x0)), (2, .int x2), (3, .int y3)] [] hh (self100 (y3, hh))) (x3 : Int32) (h : ZH) : Zr zi b0 YX0_splitClasses 3 100 [(0, .ref (b0 + x0)), (2, .int x2), (3, .int x3)] [] h (kX0_splitClasses_100 x0 x2 self100 x3 h) := by
  unfold kX0_splitClasses_100
  refine z_iload_n 101 2 dX0_splitClasses_100 rfl rfl ?_
  refine z_aload_n 102 0 dX0_splitClasses_101 rfl rfl ?_
  refine z_getI 105 zC0 (Nat.le_of_ble_eq_true rfl) rfl w_144 dX0_splitClasses_102 rfl (fun v1 _ => ?_)
  refine z_icmp_ge 136 108 dX0_splitClasses_105 (by decide) rfl (fun c2 => ?_) (fun c2 => ?_)
  · refine z_iload_n 137 1 dX0_splitClasses_136 rfl rfl ?_
    exact z_ireturn dX0_splitClasses_137 rfl
  · refine z_aload_n 109 0 dX0_splitClasses_108 rfl rfl ?_
    refine z_getR 112 zC0 (Nat.le_of_ble_eq_true rfl) rfl w_146 dX0_splitClasses_109 rfl (fun v3 _ => ?_)
    refine z_aload_n 113 0 dX0_splitClasses_112 rfl rfl ?_
    refine z_getR 116 zC0 (Nat.le_of_ble_eq_true rfl) rfl w_143 dX0_splitClasses_113 rfl (fun v4 _ => ?_)
    refine z_iload_n 117 2 dX0_splitClasses_116 rfl rfl ?_
    refine z_iaload 118 dX0_splitClasses_117 rfl (fun v5 _ => ?_)
    refine z_aload_n 119 0 dX0_splitClasses_118 rfl rfl ?_
    refine z_getR 122 zC0 (Nat.le_of_ble_eq_true rfl) rfl w_147 dX0_splitClasses_119 rfl (fun v6 _ => ?_)
    refine z_aload_n 123 0 dX0_splitClasses_122 rfl rfl ?_
    refine z_getR 126 zC0 (Nat.le_of_ble_eq_true rfl) rfl w_143 dX0_splitClasses_123 rfl (fun v7 _ => ?_)
    refine z_iload_n 127 2 dX0_splitClasses_126 rfl rfl ?_
    refine z_iaload 128 dX0_splitClasses_127 rfl (fun v8 _ => ?_)
    refine z_iaload 129 dX0_splitClasses_128 rfl (fun v9 _ => ?_)
    refine z_iastore 130 dX0_splitClasses_129 rfl (fun h10 _ => ?_)
    refine z_iinc (lv2 := [(3, .int (x3 + (nI 1))), (0, .ref (b0 + x0)), (2, .int x2)]) (nI 1) 133 2 dX0_splitClasses_130 rfl rfl zki_1 (Nat.le_of_ble_eq_true rfl) rfl ?_
    refine z_goto 100 dX0_splitClasses_133 (by decide) ?_
    exact z_sub [1, 2, 0] rfl (hself100 (x3 + (nI 1)) h10)
theorem BX0_splitClasses_100 (b0 : Nat) (x0 : Nat) (x2 : Int32) (n : Nat) (x3 : Int32) (h : ZH) : Zr zi b0 YX0_splitClasses 3 100 [(0, .ref (b0 + x0)), (2, .int x2), (3, .int x3)] [] h (zloop (lX0_splitClasses_100 x0 x2) n (x3, h)) :=
  zloop_Zr (fun s => [(0, .ref (b0 + x0)), (2, .int x2), (3, .int s.1)]) (fun _ => []) (fun s => s.2) (lX0_splitClasses_100 x0 x2) (fun self hs s => KX0_splitClasses_100 b0 x0 x2 self (fun y3 hh => hs (y3, hh)) s.1 s.2) n (x3, h)
def bX0_splitClasses_79 (self4 : Int32 × Int32 × ZH → Option (Int32 × ZH)) (x0 : Nat) (x1 : Nat) (x2 : Int32) (x3 : Int32) (x4 : Int32) (h : ZH) : Option (Int32 × ZH) :=
  (gR h 0 x0 4).bind fun v1 =>
  (gR h 0 x0 0).bind fun v2 =>
  (lI h 14 v2 x3).bind fun v3 =>
  (sI h 14 v1 v3 x4).bind fun h4 =>
  self4 (x2, (x3 + (nI 1)), h4)
theorem BX0_splitClasses_79 (b0 : Nat) (self4 : Int32 × Int32 × ZH → Option (Int32 × ZH)) (x0 : Nat) (x1 : Nat) (x2 : Int32) (x3 : Int32) (x4 : Int32) (h : ZH) (hself4 : ∀ (y2 : Int32) (y3 : Int32) (hh : ZH), Zr zi b0 YX0_splitClasses 3 4 [(0, .ref (b0 + x0)), (1, .ref (b0 + x1)), (2, .int y2), (3, .int y3)] [] hh (self4 (y2, y3, hh))) : Zr zi b0 YX0_splitClasses 3 79 [(0, .ref (b0 + x0)), (1, .ref (b0 + x1)), (2, .int x2), (3, .int x3), (4, .int x4)] [] h (bX0_splitClasses_79 self4 x0 x1 x2 x3 x4 h) := by
  unfold bX0_splitClasses_79
  refine z_aload_n 80 0 dX0_splitClasses_79 rfl rfl ?_
  refine z_getR 83 zC0 (Nat.le_of_ble_eq_true rfl) rfl w_147 dX0_splitClasses_80 rfl (fun v1 _ => ?_)
  refine z_aload_n 84 0 dX0_splitClasses_83 rfl rfl ?_
  refine z_getR 87 zC0 (Nat.le_of_ble_eq_true rfl) rfl w_143 dX0_splitClasses_84 rfl (fun v2 _ => ?_)
  refine z_iload_n 88 3 dX0_splitClasses_87 rfl rfl ?_
  refine z_iaload 89 dX0_splitClasses_88 rfl (fun v3 _ => ?_)
  refine z_iload 91 4 dX0_splitClasses_89 rfl rfl ?_
  refine z_iastore 92 dX0_splitClasses_91 rfl (fun h4 _ => ?_)
  refine z_iinc (lv2 := [(3, .int (x3 + (nI 1))), (0, .ref (b0 + x0)), (1, .ref (b0 + x1)), (2, .int x2), (4, .int x4)]) (nI 1) 95 3 dX0_splitClasses_92 rfl rfl zki_1 (Nat.le_of_ble_eq_true rfl) rfl ?_
  refine z_goto 4 dX0_splitClasses_95 (by decide) ?_
  exact z_sub [1, 2, 3, 0] rfl (hself4 x2 (x3 + (nI 1)) h4)
def bX0_splitClasses_48 (self4 : Int32 × Int32 × ZH → Option (Int32 × ZH)) (x0 : Nat) (x1 : Nat) (x2 : Int32) (x3 : Int32) (x4 : Int32) (h : ZH) : Option (Int32 × ZH) :=
  if x4 = (nI 8) then (some ((nI 9), h)) else
  (if x4 = x2 then ((gR h 0 x0 5).bind fun v3 =>
  (gR h 0 x0 0).bind fun v4 =>
  (lI h 14 v4 x3).bind fun v5 =>
  (sI h 14 v3 x2 v5).bind fun h6 =>
  bX0_splitClasses_79 self4 x0 x1 (x2 + (nI 1)) x3 x4 h6) else
  (bX0_splitClasses_79 self4 x0 x1 x2 x3 x4 h))
theorem BX0_splitClasses_48 (b0 : Nat) (self4 : Int32 × Int32 × ZH → Option (Int32 × ZH)) (x0 : Nat) (x1 : Nat) (x2 : Int32) (x3 : Int32) (x4 : Int32) (h : ZH) (hself4 : ∀ (y2 : Int32) (y3 : Int32) (hh : ZH), Zr zi b0 YX0_splitClasses 3 4 [(0, .ref (b0 + x0)), (1, .ref (b0 + x1)), (2, .int y2), (3, .int y3)] [] hh (self4 (y2, y3, hh))) : Zr zi b0 YX0_splitClasses 3 48 [(0, .ref (b0 + x0)), (1, .ref (b0 + x1)), (2, .int x2), (3, .int x3), (4, .int x4)] [] h (bX0_splitClasses_48 self4 x0 x1 x2 x3 x4 h) := by
  unfold bX0_splitClasses_48
  refine z_iload 50 4 dX0_splitClasses_48 rfl rfl ?_
  refine z_bipush (nI 8) 52 zkb_8 dX0_splitClasses_50 rfl ?_
  refine z_icmp_ne 58 55 dX0_splitClasses_52 (by decide) rfl (fun c1 => ?_) (fun c1 => ?_)
  · refine z_iload 60 4 dX0_splitClasses_58 rfl rfl ?_
    refine z_iload_n 61 2 dX0_splitClasses_60 rfl rfl ?_
    refine z_icmp_ne 79 64 dX0_splitClasses_61 (by decide) rfl (fun c2 => ?_) (fun c2 => ?_)
    · exact z_sub [0, 1, 2, 3, 4] rfl (BX0_splitClasses_79 b0 self4 x0 x1 x2 x3 x4 h hself4)
    · refine z_aload_n 65 0 dX0_splitClasses_64 rfl rfl ?_
      refine z_getR 68 zC0 (Nat.le_of_ble_eq_true rfl) rfl w_148 dX0_splitClasses_65 rfl (fun v3 _ => ?_)
      refine z_iload_n 69 2 dX0_splitClasses_68 rfl rfl ?_
      refine z_aload_n 70 0 dX0_splitClasses_69 rfl rfl ?_
      refine z_getR 73 zC0 (Nat.le_of_ble_eq_true rfl) rfl w_143 dX0_splitClasses_70 rfl (fun v4 _ => ?_)
      refine z_iload_n 74 3 dX0_splitClasses_73 rfl rfl ?_
      refine z_iaload 75 dX0_splitClasses_74 rfl (fun v5 _ => ?_)
      refine z_iastore 76 dX0_splitClasses_75 rfl (fun h6 _ => ?_)
      refine z_iinc (lv2 := [(2, .int (x2 + (nI 1))), (0, .ref (b0 + x0)), (1, .ref (b0 + x1)), (3, .int x3), (4, .int x4)]) (nI 1) 79 2 dX0_splitClasses_76 rfl rfl zki_1 (Nat.le_of_ble_eq_true rfl) rfl ?_
      exact z_sub [1, 2, 0, 3, 4] rfl (BX0_splitClasses_79 b0 self4 x0 x1 (x2 + (nI 1)) x3 x4 h6 hself4)
  · refine z_bipush (nI 9) 57 zkb_9 dX0_splitClasses_55 rfl ?_
    exact z_ireturn dX0_splitClasses_57 rfl
def kX0_splitClasses_15 (self4 : Int32 × Int32 × ZH → Option (Int32 × ZH)) (x0 : Nat) (x1 : Nat) (x2 : Int32) (x3 : Int32) (self15 : Int32 × ZH → Option (Int32 × ZH)) (x4 : Int32) (h : ZH) : Option (Int32 × ZH) :=
  if x2 ≤ x4 then (bX0_splitClasses_48 self4 x0 x1 x2 x3 x4 h) else
  ((gR h 0 x0 0).bind fun v2 =>
  (lI h 14 v2 x3).bind fun v3 =>
  (gR h 0 x0 5).bind fun v4 =>
  (lI h 14 v4 x4).bind fun v5 =>
  (fX0_leadAlike x0 x1 v3 v5 h).bind fun q6 =>
  if q6.1 = 0 then (self15 ((x4 + (nI 1)), q6.2)) else
  (bX0_splitClasses_48 self4 x0 x1 x2 x3 x4 q6.2))
def lX0_splitClasses_15 (self4 : Int32 × Int32 × ZH → Option (Int32 × ZH)) (x0 : Nat) (x1 : Nat) (x2 : Int32) (x3 : Int32) : (Int32 × ZH → Option (Int32 × ZH)) → Int32 × ZH → Option (Int32 × ZH) := fun self s => kX0_splitClasses_15 self4 x0 x1 x2 x3 self s.1 s.2
theorem KX0_splitClasses_15 (b0 : Nat) (self4 : Int32 × Int32 × ZH → Option (Int32 × ZH)) (x0 : Nat) (x1 : Nat) (x2 : Int32) (x3 : Int32) (hself4 : ∀ (y2 : Int32) (y3 : Int32) (hh : ZH), Zr zi b0 YX0_splitClasses 3 4 [(0, .ref (b0 + x0)), (1, .ref (b0 + x1)), (2, .int y2), (3, .int y3)] [] hh (self4 (y2, y3, hh))) (self15 : Int32 × ZH → Option (Int32 × ZH)) (hself15 : ∀ (y4 : Int32) (hh : ZH), Zr zi b0 YX0_splitClasses 3 15 [(0, .ref (b0 + x0)), (1, .ref (b0 + x1)), (2, .int x2), (3, .int x3), (4, .int y4)] [] hh (self15 (y4, hh))) (x4 : Int32) (h : ZH) : Zr zi b0 YX0_splitClasses 3 15 [(0, .ref (b0 + x0)), (1, .ref (b0 + x1)), (2, .int x2), (3, .int x3), (4, .int x4)] [] h (kX0_splitClasses_15 self4 x0 x1 x2 x3 self15 x4 h) := by
  unfold kX0_splitClasses_15
  refine z_iload 17 4 dX0_splitClasses_15 rfl rfl ?_
  refine z_iload_n 18 2 dX0_splitClasses_17 rfl rfl ?_
  refine z_icmp_ge 48 21 dX0_splitClasses_18 (by decide) rfl (fun c1 => ?_) (fun c1 => ?_)
  · exact z_sub [0, 1, 2, 3, 4] rfl (BX0_splitClasses_48 b0 self4 x0 x1 x2 x3 x4 h hself4)
  · refine z_aload_n 22 0 dX0_splitClasses_21 rfl rfl ?_
    refine z_aload_n 23 1 dX0_splitClasses_22 rfl rfl ?_
    refine z_aload_n 24 0 dX0_splitClasses_23 rfl rfl ?_
    refine z_getR 27 zC0 (Nat.le_of_ble_eq_true rfl) rfl w_143 dX0_splitClasses_24 rfl (fun v2 _ => ?_)
    refine z_iload_n 28 3 dX0_splitClasses_27 rfl rfl ?_
    refine z_iaload 29 dX0_splitClasses_28 rfl (fun v3 _ => ?_)
    refine z_aload_n 30 0 dX0_splitClasses_29 rfl rfl ?_
    refine z_getR 33 zC0 (Nat.le_of_ble_eq_true rfl) rfl w_148 dX0_splitClasses_30 rfl (fun v4 _ => ?_)
    refine z_iload 35 4 dX0_splitClasses_33 rfl rfl ?_
    refine z_iaload 36 dX0_splitClasses_35 rfl (fun v5 _ => ?_)
    refine z_callVi 39 (mX0_leadAlike b0 x0 x1 v3 v5 h) zyX0_leadAlike rfl w_674 (ci := 0) rfl (Nat.le_of_ble_eq_true rfl) (fun _ e9 => kX0_leadAlike e9) wm_yX0_leadAlike ws_yX0_leadAlike (Nat.le_of_ble_eq_true rfl) rfl (Nat.le_of_ble_eq_true rfl) dX0_splitClasses_36 rfl (fun q6 => ?_)
    refine z_if_ne 48 42 dX0_splitClasses_39 (by decide) rfl (fun c7 => ?_) (fun c7 => ?_)
    · exact z_sub [0, 1, 2, 3, 4] rfl (BX0_splitClasses_48 b0 self4 x0 x1 x2 x3 x4 q6.2 hself4)
    · refine z_iinc (lv2 := [(4, .int (x4 + (nI 1))), (0, .ref (b0 + x0)), (1, .ref (b0 + x1)), (2, .int x2), (3, .int x3)]) (nI 1) 45 4 dX0_splitClasses_42 rfl rfl zki_1 (Nat.le_of_ble_eq_true rfl) rfl ?_
      refine z_goto 15 dX0_splitClasses_45 (by decide) ?_
      exact z_sub [1, 2, 3, 4, 0] rfl (hself15 (x4 + (nI 1)) q6.2)
theorem BX0_splitClasses_15 (b0 : Nat) (self4 : Int32 × Int32 × ZH → Option (Int32 × ZH)) (x0 : Nat) (x1 : Nat) (x2 : Int32) (x3 : Int32) (hself4 : ∀ (y2 : Int32) (y3 : Int32) (hh : ZH), Zr zi b0 YX0_splitClasses 3 4 [(0, .ref (b0 + x0)), (1, .ref (b0 + x1)), (2, .int y2), (3, .int y3)] [] hh (self4 (y2, y3, hh))) (n : Nat) (x4 : Int32) (h : ZH) : Zr zi b0 YX0_splitClasses 3 15 [(0, .ref (b0 + x0)), (1, .ref (b0 + x1)), (2, .int x2), (3, .int x3), (4, .int x4)] [] h (zloop (lX0_splitClasses_15 self4 x0 x1 x2 x3) n (x4, h)) :=
  zloop_Zr (fun s => [(0, .ref (b0 + x0)), (1, .ref (b0 + x1)), (2, .int x2), (3, .int x3), (4, .int s.1)]) (fun _ => []) (fun s => s.2) (lX0_splitClasses_15 self4 x0 x1 x2 x3) (fun self hs s => KX0_splitClasses_15 b0 self4 x0 x1 x2 x3 hself4 self (fun y4 hh => hs (y4, hh)) s.1 s.2) n (x4, h)
def kX0_splitClasses_4 (x0 : Nat) (x1 : Nat) (self4 : Int32 × Int32 × ZH → Option (Int32 × ZH)) (x2 : Int32) (x3 : Int32) (h : ZH) : Option (Int32 × ZH) :=
  (gI h 0 x0 1).bind fun v1 =>
  if v1 ≤ x3 then (zloop (lX0_splitClasses_100 x0 x2) zfu ((nI 0), h)) else
  (zloop (lX0_splitClasses_15 self4 x0 x1 x2 x3) zfu ((nI 0), h))
def lX0_splitClasses_4 (x0 : Nat) (x1 : Nat) : (Int32 × Int32 × ZH → Option (Int32 × ZH)) → Int32 × Int32 × ZH → Option (Int32 × ZH) := fun self s => kX0_splitClasses_4 x0 x1 self s.1 s.2.1 s.2.2
theorem KX0_splitClasses_4 (b0 : Nat) (x0 : Nat) (x1 : Nat) (self4 : Int32 × Int32 × ZH → Option (Int32 × ZH)) (hself4 : ∀ (y2 : Int32) (y3 : Int32) (hh : ZH), Zr zi b0 YX0_splitClasses 3 4 [(0, .ref (b0 + x0)), (1, .ref (b0 + x1)), (2, .int y2), (3, .int y3)] [] hh (self4 (y2, y3, hh))) (x2 : Int32) (x3 : Int32) (h : ZH) : Zr zi b0 YX0_splitClasses 3 4 [(0, .ref (b0 + x0)), (1, .ref (b0 + x1)), (2, .int x2), (3, .int x3)] [] h (kX0_splitClasses_4 x0 x1 self4 x2 x3 h) := by
  unfold kX0_splitClasses_4
  refine z_iload_n 5 3 dX0_splitClasses_4 rfl rfl ?_
  refine z_aload_n 6 0 dX0_splitClasses_5 rfl rfl ?_
  refine z_getI 9 zC0 (Nat.le_of_ble_eq_true rfl) rfl w_144 dX0_splitClasses_6 rfl (fun v1 _ => ?_)
  refine z_icmp_ge 98 12 dX0_splitClasses_9 (by decide) rfl (fun c2 => ?_) (fun c2 => ?_)
  · refine z_iconst (nI 0) 99 zki_0 dX0_splitClasses_98 rfl ?_
    refine z_istore_n (lv2 := [(3, .int (nI 0)), (0, .ref (b0 + x0)), (1, .ref (b0 + x1)), (2, .int x2)]) 100 dX0_splitClasses_99 rfl (Nat.le_of_ble_eq_true rfl) rfl ?_
    exact z_sub [1, 3, 0] rfl (BX0_splitClasses_100 b0 x0 x2 zfu (nI 0) h)
  · refine z_iconst (nI 0) 13 zki_0 dX0_splitClasses_12 rfl ?_
    refine z_istore (lv2 := [(4, .int (nI 0)), (0, .ref (b0 + x0)), (1, .ref (b0 + x1)), (2, .int x2), (3, .int x3)]) 15 dX0_splitClasses_13 rfl (Nat.le_of_ble_eq_true rfl) rfl ?_
    exact z_sub [1, 2, 3, 4, 0] rfl (BX0_splitClasses_15 b0 self4 x0 x1 x2 x3 hself4 zfu (nI 0) h)
theorem BX0_splitClasses_4 (b0 : Nat) (x0 : Nat) (x1 : Nat) (n : Nat) (x2 : Int32) (x3 : Int32) (h : ZH) : Zr zi b0 YX0_splitClasses 3 4 [(0, .ref (b0 + x0)), (1, .ref (b0 + x1)), (2, .int x2), (3, .int x3)] [] h (zloop (lX0_splitClasses_4 x0 x1) n (x2, x3, h)) :=
  zloop_Zr (fun s => [(0, .ref (b0 + x0)), (1, .ref (b0 + x1)), (2, .int s.1), (3, .int s.2.1)]) (fun _ => []) (fun s => s.2.2) (lX0_splitClasses_4 x0 x1) (fun self hs s => KX0_splitClasses_4 b0 x0 x1 self (fun y2 y3 hh => hs (y2, y3, hh)) s.1 s.2.1 s.2.2) n (x2, x3, h)
def fX0_splitClasses (x0 : Nat) (x1 : Nat) (h : ZH) : Option (Int32 × ZH) :=
  if x0 < zn h ∧ zK h x0 = 0 then (zloop (lX0_splitClasses_4 x0 x1) zfu ((nI 0), (nI 0), h)) else none
theorem kX0_splitClasses {x0 : Nat} {x1 : Nat} {h : ZH} {x : Int32 × ZH} (e : fX0_splitClasses x0 x1 h = some x) : x0 < zn h ∧ zK h x0 = 0 := by
  unfold fX0_splitClasses at e
  exact zguard e
theorem mX0_splitClasses (b0 : Nat) (x0 : Nat) (x1 : Nat) (h : ZH) : ZM zi b0 YX0_splitClasses 3 [.ref (b0 + x0), .ref (b0 + x1)] h (fX0_splitClasses x0 x1 h) := by
  unfold fX0_splitClasses
  refine ZM.of (by decide) rfl (Nat.le_of_ble_eq_true rfl) (fun _ => trivial) ?_
  refine z_sub (lv2 := [(0, .ref (b0 + x0)), (1, .ref (b0 + x1))]) [0, 1] rfl ?_
  refine z_guard (fun _ => ?_)
  refine z_iconst (nI 0) 1 zki_0 dX0_splitClasses_0 rfl ?_
  refine z_istore_n (lv2 := [(2, .int (nI 0)), (0, .ref (b0 + x0)), (1, .ref (b0 + x1))]) 2 dX0_splitClasses_1 rfl (Nat.le_of_ble_eq_true rfl) rfl ?_
  refine z_iconst (nI 0) 3 zki_0 dX0_splitClasses_2 rfl ?_
  refine z_istore_n (lv2 := [(3, .int (nI 0)), (2, .int (nI 0)), (0, .ref (b0 + x0)), (1, .ref (b0 + x1))]) 4 dX0_splitClasses_3 rfl (Nat.le_of_ble_eq_true rfl) rfl ?_
  exact z_sub [2, 3, 1, 0] rfl (BX0_splitClasses_4 b0 x0 x1 zfu (nI 0) (nI 0) h)
-- X0_mergeMembers
def kX0_mergeMembers_43 (x0 : Nat) (x1 : Nat) (self43 : Int32 × ZH → Option (Int32 × ZH)) (x2 : Int32) (h : ZH) : Option (Int32 × ZH) :=
  if (nI 8) < x2 then (if (nI 0) = 0 ∨ (nI 0) = 1 then some ((nI 0), h) else none) else
  ((fX0_splitClasses x0 x1 h).bind fun q2 =>
  if q2.1 ≤ (nI 8) then ((gI q2.2 0 x0 6).bind fun v4 =>
  if q2.1 = v4 then (if (nI 1) = 0 ∨ (nI 1) = 1 then some ((nI 1), q2.2) else none) else
  ((pI q2.2 0 x0 6 q2.1).bind fun h6 =>
  self43 ((x2 + (nI 1)), h6))) else
  (if (nI 0) = 0 ∨ (nI 0) = 1 then some ((nI 0), q2.2) else none))
def lX0_mergeMembers_43 (x0 : Nat) (x1 : Nat) : (Int32 × ZH → Option (Int32 × ZH)) → Int32 × ZH → Option (Int32 × ZH) := fun self s => kX0_mergeMembers_43 x0 x1 self s.1 s.2
theorem KX0_mergeMembers_43 (b0 : Nat) (x0 : Nat) (x1 : Nat) (self43 : Int32 × ZH → Option (Int32 × ZH)) (hself43 : ∀ (y2 : Int32) (hh : ZH), Zr zi b0 YX0_mergeMembers 4 43 [(0, .ref (b0 + x0)), (1, .ref (b0 + x1)), (2, .int y2)] [] hh (self43 (y2, hh))) (x2 : Int32) (h : ZH) : Zr zi b0 YX0_mergeMembers 4 43 [(0, .ref (b0 + x0)), (1, .ref (b0 + x1)), (2, .int x2)] [] h (kX0_mergeMembers_43 x0 x1 self43 x2 h) := by
  unfold kX0_mergeMembers_43
  refine z_iload_n 44 2 dX0_mergeMembers_43 rfl rfl ?_
  refine z_bipush (nI 8) 46 zkb_8 dX0_mergeMembers_44 rfl ?_
  refine z_icmp_gt 84 49 dX0_mergeMembers_46 (by decide) rfl (fun c1 => ?_) (fun c1 => ?_)
  · refine z_iconst (nI 0) 85 zki_0 dX0_mergeMembers_84 rfl ?_
    exact z_zreturn dX0_mergeMembers_85 rfl
  · refine z_aload_n 50 0 dX0_mergeMembers_49 rfl rfl ?_
    refine z_aload_n 51 1 dX0_mergeMembers_50 rfl rfl ?_
    refine z_callVi 54 (mX0_splitClasses b0 x0 x1 h) zyX0_splitClasses rfl w_670 (ci := 0) rfl (Nat.le_of_ble_eq_true rfl) (fun _ e9 => kX0_splitClasses e9) wm_yX0_splitClasses ws_yX0_splitClasses (Nat.le_of_ble_eq_true rfl) rfl (Nat.le_of_ble_eq_true rfl) dX0_mergeMembers_51 rfl (fun q2 => ?_)
    refine z_istore_n (lv2 := [(3, .int q2.1), (0, .ref (b0 + x0)), (1, .ref (b0 + x1)), (2, .int x2)]) 55 dX0_mergeMembers_54 rfl (Nat.le_of_ble_eq_true rfl) rfl ?_
    refine z_iload_n 56 0 dX0_mergeMembers_55 rfl rfl ?_
    refine z_bipush (nI 8) 58 zkb_8 dX0_mergeMembers_56 rfl ?_
    refine z_icmp_le 63 61 dX0_mergeMembers_58 (by decide) rfl (fun c3 => ?_) (fun c3 => ?_)
    · refine z_iload_n 64 0 dX0_mergeMembers_63 rfl rfl ?_
      refine z_aload_n 65 1 dX0_mergeMembers_64 rfl rfl ?_
      refine z_getI 68 zC0 (Nat.le_of_ble_eq_true rfl) rfl w_149 dX0_mergeMembers_65 rfl (fun v4 _ => ?_)
      refine z_icmp_ne 73 71 dX0_mergeMembers_68 (by decide) rfl (fun c5 => ?_) (fun c5 => ?_)
      · refine z_aload_n 74 1 dX0_mergeMembers_73 rfl rfl ?_
        refine z_iload_n 75 0 dX0_mergeMembers_74 rfl rfl ?_
        refine z_putI 78 zC0 (Nat.le_of_ble_eq_true rfl) rfl rfl rfl w_149 dX0_mergeMembers_75 rfl (fun h6 _ => ?_)
        refine z_iinc (lv2 := [(2, .int (x2 + (nI 1))), (3, .int q2.1), (0, .ref (b0 + x0)), (1, .ref (b0 + x1))]) (nI 1) 81 3 dX0_mergeMembers_78 rfl rfl zki_1 (Nat.le_of_ble_eq_true rfl) rfl ?_
        refine z_goto 43 dX0_mergeMembers_81 (by decide) ?_
        exact z_sub [2, 3, 0] rfl (hself43 (x2 + (nI 1)) h6)
      · refine z_iconst (nI 1) 72 zki_1 dX0_mergeMembers_71 rfl ?_
        exact z_zreturn dX0_mergeMembers_72 rfl
    · refine z_iconst (nI 0) 62 zki_0 dX0_mergeMembers_61 rfl ?_
      exact z_zreturn dX0_mergeMembers_62 rfl
theorem BX0_mergeMembers_43 (b0 : Nat) (x0 : Nat) (x1 : Nat) (n : Nat) (x2 : Int32) (h : ZH) : Zr zi b0 YX0_mergeMembers 4 43 [(0, .ref (b0 + x0)), (1, .ref (b0 + x1)), (2, .int x2)] [] h (zloop (lX0_mergeMembers_43 x0 x1) n (x2, h)) :=
  zloop_Zr (fun s => [(0, .ref (b0 + x0)), (1, .ref (b0 + x1)), (2, .int s.1)]) (fun _ => []) (fun s => s.2) (lX0_mergeMembers_43 x0 x1) (fun self hs s => KX0_mergeMembers_43 b0 x0 x1 self (fun y2 hh => hs (y2, hh)) s.1 s.2) n (x2, h)
def kX0_mergeMembers_10 (x0 : Nat) (x1 : Nat) (self10 : Int32 × ZH → Option (Int32 × ZH)) (x2 : Int32) (h : ZH) : Option (Int32 × ZH) :=
  (gI h 0 x0 1).bind fun v1 =>
  if v1 ≤ x2 then ((pI h 0 x0 6 (nI 1)).bind fun h3 =>
  zloop (lX0_mergeMembers_43 x0 x1) zfu ((nI 0), h3)) else
  ((gR h 0 x0 3).bind fun v4 =>
  (gR h 0 x0 0).bind fun v5 =>
  (lI h 14 v5 x2).bind fun v6 =>
  (sI h 14 v4 v6 (nI 0)).bind fun h7 =>
  self10 ((x2 + (nI 1)), h7))
def lX0_mergeMembers_10 (x0 : Nat) (x1 : Nat) : (Int32 × ZH → Option (Int32 × ZH)) → Int32 × ZH → Option (Int32 × ZH) := fun self s => kX0_mergeMembers_10 x0 x1 self s.1 s.2
theorem KX0_mergeMembers_10 (b0 : Nat) (x0 : Nat) (x1 : Nat) (self10 : Int32 × ZH → Option (Int32 × ZH)) (hself10 : ∀ (y2 : Int32) (hh : ZH), Zr zi b0 YX0_mergeMembers 4 10 [(0, .ref (b0 + x0)), (1, .ref (b0 + x1)), (2, .int y2)] [] hh (self10 (y2, hh))) (x2 : Int32) (h : ZH) : Zr zi b0 YX0_mergeMembers 4 10 [(0, .ref (b0 + x0)), (1, .ref (b0 + x1)), (2, .int x2)] [] h (kX0_mergeMembers_10 x0 x1 self10 x2 h) := by
  unfold kX0_mergeMembers_10
  refine z_iload_n 11 2 dX0_mergeMembers_10 rfl rfl ?_
  refine z_aload_n 12 0 dX0_mergeMembers_11 rfl rfl ?_
  refine z_getI 15 zC0 (Nat.le_of_ble_eq_true rfl) rfl w_144 dX0_mergeMembers_12 rfl (fun v1 _ => ?_)
  refine z_icmp_ge 36 18 dX0_mergeMembers_15 (by decide) rfl (fun c2 => ?_) (fun c2 => ?_)
  · refine z_aload_n 37 0 dX0_mergeMembers_36 rfl rfl ?_
    refine z_iconst (nI 1) 38 zki_1 dX0_mergeMembers_37 rfl ?_
    refine z_putI 41 zC0 (Nat.le_of_ble_eq_true rfl) rfl rfl rfl w_149 dX0_mergeMembers_38 rfl (fun h3 _ => ?_)
    refine z_iconst (nI 0) 42 zki_0 dX0_mergeMembers_41 rfl ?_
    refine z_istore_n (lv2 := [(2, .int (nI 0)), (0, .ref (b0 + x0)), (1, .ref (b0 + x1))]) 43 dX0_mergeMembers_42 rfl (Nat.le_of_ble_eq_true rfl) rfl ?_
    exact z_sub [1, 2, 0] rfl (BX0_mergeMembers_43 b0 x0 x1 zfu (nI 0) h3)
  · refine z_aload_n 19 0 dX0_mergeMembers_18 rfl rfl ?_
    refine z_getR 22 zC0 (Nat.le_of_ble_eq_true rfl) rfl w_146 dX0_mergeMembers_19 rfl (fun v4 _ => ?_)
    refine z_aload_n 23 0 dX0_mergeMembers_22 rfl rfl ?_
    refine z_getR 26 zC0 (Nat.le_of_ble_eq_true rfl) rfl w_143 dX0_mergeMembers_23 rfl (fun v5 _ => ?_)
    refine z_iload_n 27 2 dX0_mergeMembers_26 rfl rfl ?_
    refine z_iaload 28 dX0_mergeMembers_27 rfl (fun v6 _ => ?_)
    refine z_iconst (nI 0) 29 zki_0 dX0_mergeMembers_28 rfl ?_
    refine z_iastore 30 dX0_mergeMembers_29 rfl (fun h7 _ => ?_)
    refine z_iinc (lv2 := [(2, .int (x2 + (nI 1))), (0, .ref (b0 + x0)), (1, .ref (b0 + x1))]) (nI 1) 33 2 dX0_mergeMembers_30 rfl rfl zki_1 (Nat.le_of_ble_eq_true rfl) rfl ?_
    refine z_goto 10 dX0_mergeMembers_33 (by decide) ?_
    exact z_sub [1, 2, 0] rfl (hself10 (x2 + (nI 1)) h7)
theorem BX0_mergeMembers_10 (b0 : Nat) (x0 : Nat) (x1 : Nat) (n : Nat) (x2 : Int32) (h : ZH) : Zr zi b0 YX0_mergeMembers 4 10 [(0, .ref (b0 + x0)), (1, .ref (b0 + x1)), (2, .int x2)] [] h (zloop (lX0_mergeMembers_10 x0 x1) n (x2, h)) :=
  zloop_Zr (fun s => [(0, .ref (b0 + x0)), (1, .ref (b0 + x1)), (2, .int s.1)]) (fun _ => []) (fun s => s.2) (lX0_mergeMembers_10 x0 x1) (fun self hs s => KX0_mergeMembers_10 b0 x0 x1 self (fun y2 hh => hs (y2, hh)) s.1 s.2) n (x2, h)
def fX0_mergeMembers (x0 : Nat) (x1 : Nat) (h : ZH) : Option (Int32 × ZH) :=
  if x0 < zn h ∧ zK h x0 = 0 then ((gR h 0 x0 3).bind fun v1 =>
  (fJ7_fill_53178 v1 (-1 : Int32) h).bind fun h2 =>
  zloop (lX0_mergeMembers_10 x0 x1) zfu ((nI 0), h2)) else none
theorem kX0_mergeMembers {x0 : Nat} {x1 : Nat} {h : ZH} {x : Int32 × ZH} (e : fX0_mergeMembers x0 x1 h = some x) : x0 < zn h ∧ zK h x0 = 0 := by
  unfold fX0_mergeMembers at e
  exact zguard e
theorem mX0_mergeMembers (b0 : Nat) (x0 : Nat) (x1 : Nat) (h : ZH) : ZM zi b0 YX0_mergeMembers 4 [.ref (b0 + x0), .ref (b0 + x1)] h (fX0_mergeMembers x0 x1 h) := by
  unfold fX0_mergeMembers
  refine ZM.of (by decide) rfl (Nat.le_of_ble_eq_true rfl) (fun _ => trivial) ?_
  refine z_sub (lv2 := [(0, .ref (b0 + x0)), (1, .ref (b0 + x1))]) [0, 1] rfl ?_
  refine z_guard (fun _ => ?_)
  refine z_aload_n 1 0 dX0_mergeMembers_0 rfl rfl ?_
  refine z_getR 4 zC0 (Nat.le_of_ble_eq_true rfl) rfl w_146 dX0_mergeMembers_1 rfl (fun v1 _ => ?_)
  refine z_iconst (-1 : Int32) 5 zki_m1 dX0_mergeMembers_4 rfl ?_
  refine z_callSv 8 (mJ7_fill_53178 b0 v1 (-1 : Int32) h) zyJ7_fill_53178 rfl w_669 wt_yJ7_fill_53178 (Nat.le_of_ble_eq_true rfl) rfl (Nat.le_of_ble_eq_true rfl) dX0_mergeMembers_5 rfl (fun h2 => ?_)
  refine z_iconst (nI 0) 9 zki_0 dX0_mergeMembers_8 rfl ?_
  refine z_istore_n (lv2 := [(2, .int (nI 0)), (0, .ref (b0 + x0)), (1, .ref (b0 + x1))]) 10 dX0_mergeMembers_9 rfl (Nat.le_of_ble_eq_true rfl) rfl ?_
  exact z_sub [1, 2, 0] rfl (BX0_mergeMembers_10 b0 x0 x1 zfu (nI 0) h2)
-- X0_numberVertex
def bX0_numberVertex_16 (x2 : Int32) (h : ZH) : Option (Int32 × ZH) :=
  some (x2, h)
theorem BX0_numberVertex_16 (b0 : Nat) (x2 : Int32) (h : ZH) : Zr zi b0 YX0_numberVertex 1 16 [(2, .int x2)] [] h (bX0_numberVertex_16 x2 h) := by
  unfold bX0_numberVertex_16
  refine z_iload_n 17 0 dX0_numberVertex_16 rfl rfl ?_
  exact z_ireturn dX0_numberVertex_17 rfl
def fX0_numberVertex (x0 : Nat) (x1 : Int32) (x2 : Int32) (h : ZH) : Option (Int32 × ZH) :=
  if x0 < zn h ∧ zK h x0 = 0 then ((gR h 0 x0 11).bind fun v1 =>
  (lI h 14 v1 x1).bind fun v2 =>
  if v2 = (-1 : Int32) then (if x2 < (nI 8) then ((gR h 0 x0 11).bind fun v5 =>
  (sI h 14 v5 x1 x2).bind fun h6 =>
  (gR h6 0 x0 10).bind fun v7 =>
  (sI h6 14 v7 x2 x1).bind fun h8 =>
  some ((x2 + (nI 1)), h8)) else
  (bX0_numberVertex_16 x2 h)) else
  (bX0_numberVertex_16 x2 h)) else none
theorem kX0_numberVertex {x0 : Nat} {x1 : Int32} {x2 : Int32} {h : ZH} {x : Int32 × ZH} (e : fX0_numberVertex x0 x1 x2 h = some x) : x0 < zn h ∧ zK h x0 = 0 := by
  unfold fX0_numberVertex at e
  exact zguard e
theorem mX0_numberVertex (b0 : Nat) (x0 : Nat) (x1 : Int32) (x2 : Int32) (h : ZH) : ZM zi b0 YX0_numberVertex 1 [.ref (b0 + x0), .int x1, .int x2] h (fX0_numberVertex x0 x1 x2 h) := by
  unfold fX0_numberVertex
  refine ZM.of (by decide) rfl (Nat.le_of_ble_eq_true rfl) (fun _ => trivial) ?_
  refine z_sub (lv2 := [(0, .ref (b0 + x0)), (1, .int x1), (2, .int x2)]) [0, 1, 2] rfl ?_
  refine z_guard (fun _ => ?_)
  refine z_aload_n 1 0 dX0_numberVertex_0 rfl rfl ?_
  refine z_getR 4 zC0 (Nat.le_of_ble_eq_true rfl) rfl w_154 dX0_numberVertex_1 rfl (fun v1 _ => ?_)
  refine z_iload_n 5 1 dX0_numberVertex_4 rfl rfl ?_
  refine z_iaload 6 dX0_numberVertex_5 rfl (fun v2 _ => ?_)
  refine z_iconst (-1 : Int32) 7 zki_m1 dX0_numberVertex_6 rfl ?_
  refine z_icmp_ne 16 10 dX0_numberVertex_7 (by decide) rfl (fun c3 => ?_) (fun c3 => ?_)
  · exact z_sub [2] rfl (BX0_numberVertex_16 b0 x2 h )
  · refine z_iload_n 11 2 dX0_numberVertex_10 rfl rfl ?_
    refine z_bipush (nI 8) 13 zkb_8 dX0_numberVertex_11 rfl ?_
    refine z_icmp_lt 18 16 dX0_numberVertex_13 (by decide) rfl (fun c4 => ?_) (fun c4 => ?_)
    · refine z_aload_n 19 0 dX0_numberVertex_18 rfl rfl ?_
      refine z_getR 22 zC0 (Nat.le_of_ble_eq_true rfl) rfl w_154 dX0_numberVertex_19 rfl (fun v5 _ => ?_)
      refine z_iload_n 23 1 dX0_numberVertex_22 rfl rfl ?_
      refine z_iload_n 24 2 dX0_numberVertex_23 rfl rfl ?_
      refine z_iastore 25 dX0_numberVertex_24 rfl (fun h6 _ => ?_)
      refine z_aload_n 26 0 dX0_numberVertex_25 rfl rfl ?_
      refine z_getR 29 zC0 (Nat.le_of_ble_eq_true rfl) rfl w_153 dX0_numberVertex_26 rfl (fun v7 _ => ?_)
      refine z_iload_n 30 2 dX0_numberVertex_29 rfl rfl ?_
      refine z_iload_n 31 1 dX0_numberVertex_30 rfl rfl ?_
      refine z_iastore 32 dX0_numberVertex_31 rfl (fun h8 _ => ?_)
      refine z_iload_n 33 2 dX0_numberVertex_32 rfl rfl ?_
      refine z_iconst (nI 1) 34 zki_1 dX0_numberVertex_33 rfl ?_
      refine z_iadd 35 dX0_numberVertex_34 rfl ?_
      exact z_ireturn dX0_numberVertex_35 rfl
    · exact z_sub [2] rfl (BX0_numberVertex_16 b0 x2 h )
-- X1_row
def bX1_row_43 (t0 : Int32) (h : ZH) : Option (Int32 × ZH) :=
  some (t0, h)
theorem BX1_row_43 (b0 : Nat) (t0 : Int32) (h : ZH) : Zr zi b0 YX1_row 1 43 [] [.int t0] h (bX1_row_43 t0 h) := by
  unfold bX1_row_43
  exact z_ireturn dX1_row_43 rfl
def bX1_row_24 (x0 : Nat) (x1 : Int32) (x2 : Int32) (t0 : Int32) (h : ZH) : Option (Int32 × ZH) :=
  if t0 = 0 then (bX1_row_43 (nI 0) h) else
  ((gR h 1 x0 0).bind fun v2 =>
  (lI h 14 v2 (((nI 4) * x1) + x2)).bind fun v3 =>
  bX1_row_43 v3 h)
theorem BX1_row_24 (b0 : Nat) (x0 : Nat) (x1 : Int32) (x2 : Int32) (t0 : Int32) (h : ZH) : Zr zi b0 YX1_row 1 24 [(0, .ref (b0 + x0)), (1, .int x1), (2, .int x2)] [.int t0] h (bX1_row_24 x0 x1 x2 t0 h) := by
  unfold bX1_row_24
  refine z_istore_n (lv2 := [(3, .int t0), (0, .ref (b0 + x0)), (1, .int x1), (2, .int x2)]) 25 dX1_row_24 rfl (Nat.le_of_ble_eq_true rfl) rfl ?_
  refine z_iload_n 26 0 dX1_row_25 rfl rfl ?_
  refine z_if_eq 42 29 dX1_row_26 (by decide) rfl (fun c1 => ?_) (fun c1 => ?_)
  · refine z_iconst (nI 0) 43 zki_0 dX1_row_42 rfl ?_
    exact z_sub [] rfl (BX1_row_43 b0 (nI 0) h )
  · refine z_aload_n 30 1 dX1_row_29 rfl rfl ?_
    refine z_getR 33 zC1 (Nat.le_of_ble_eq_true rfl) rfl w_40 dX1_row_30 rfl (fun v2 _ => ?_)
    refine z_iconst (nI 4) 34 zki_4 dX1_row_33 rfl ?_
    refine z_iload_n 35 2 dX1_row_34 rfl rfl ?_
    refine z_imul 36 dX1_row_35 rfl ?_
    refine z_iload_n 37 3 dX1_row_36 rfl rfl ?_
    refine z_iadd 38 dX1_row_37 rfl ?_
    refine z_iaload 39 dX1_row_38 rfl (fun v3 _ => ?_)
    refine z_goto 43 dX1_row_39 (by decide) ?_
    exact z_sub [] rfl (BX1_row_43 b0 v3 h )
def bX1_row_23 (x0 : Nat) (x1 : Int32) (x2 : Int32) (h : ZH) : Option (Int32 × ZH) :=
  bX1_row_24 x0 x1 x2 (nI 0) h
theorem BX1_row_23 (b0 : Nat) (x0 : Nat) (x1 : Int32) (x2 : Int32) (h : ZH) : Zr zi b0 YX1_row 1 23 [(0, .ref (b0 + x0)), (1, .int x1), (2, .int x2)] [] h (bX1_row_23 x0 x1 x2 h) := by
  unfold bX1_row_23
  refine z_iconst (nI 0) 24 zki_0 dX1_row_23 rfl ?_
  exact z_sub [0, 1, 2] rfl (BX1_row_24 b0 x0 x1 x2 (nI 0) h )
def fX1_row (x0 : Nat) (x1 : Int32) (x2 : Int32) (h : ZH) : Option (Int32 × ZH) :=
  if x0 < zn h ∧ zK h x0 = 1 then (if x1 < 0 then (bX1_row_23 x0 x1 x2 h) else
  (if (nI 8) ≤ x1 then (bX1_row_23 x0 x1 x2 h) else
  (if x2 < 0 then (bX1_row_23 x0 x1 x2 h) else
  (if (nI 4) ≤ x2 then (bX1_row_23 x0 x1 x2 h) else
  (bX1_row_24 x0 x1 x2 (nI 1) h))))) else none
theorem kX1_row {x0 : Nat} {x1 : Int32} {x2 : Int32} {h : ZH} {x : Int32 × ZH} (e : fX1_row x0 x1 x2 h = some x) : x0 < zn h ∧ zK h x0 = 1 := by
  unfold fX1_row at e
  exact zguard e
theorem mX1_row (b0 : Nat) (x0 : Nat) (x1 : Int32) (x2 : Int32) (h : ZH) : ZM zi b0 YX1_row 1 [.ref (b0 + x0), .int x1, .int x2] h (fX1_row x0 x1 x2 h) := by
  unfold fX1_row
  refine ZM.of (by decide) rfl (Nat.le_of_ble_eq_true rfl) (fun _ => trivial) ?_
  refine z_sub (lv2 := [(0, .ref (b0 + x0)), (1, .int x1), (2, .int x2)]) [0, 1, 2] rfl ?_
  refine z_guard (fun _ => ?_)
  refine z_iload_n 1 1 dX1_row_0 rfl rfl ?_
  refine z_if_lt 23 4 dX1_row_1 (by decide) rfl (fun c1 => ?_) (fun c1 => ?_)
  · exact z_sub [0, 1, 2] rfl (BX1_row_23 b0 x0 x1 x2 h )
  · refine z_iload_n 5 1 dX1_row_4 rfl rfl ?_
    refine z_bipush (nI 8) 7 zkb_8 dX1_row_5 rfl ?_
    refine z_icmp_ge 23 10 dX1_row_7 (by decide) rfl (fun c2 => ?_) (fun c2 => ?_)
    · exact z_sub [0, 1, 2] rfl (BX1_row_23 b0 x0 x1 x2 h )
    · refine z_iload_n 11 2 dX1_row_10 rfl rfl ?_
      refine z_if_lt 23 14 dX1_row_11 (by decide) rfl (fun c3 => ?_) (fun c3 => ?_)
      · exact z_sub [0, 1, 2] rfl (BX1_row_23 b0 x0 x1 x2 h )
      · refine z_iload_n 15 2 dX1_row_14 rfl rfl ?_
        refine z_iconst (nI 4) 16 zki_4 dX1_row_15 rfl ?_
        refine z_icmp_ge 23 19 dX1_row_16 (by decide) rfl (fun c4 => ?_) (fun c4 => ?_)
        · exact z_sub [0, 1, 2] rfl (BX1_row_23 b0 x0 x1 x2 h )
        · refine z_iconst (nI 1) 20 zki_1 dX1_row_19 rfl ?_
          refine z_goto 24 dX1_row_20 (by decide) ?_
          exact z_sub [0, 1, 2] rfl (BX1_row_24 b0 x0 x1 x2 (nI 1) h )
-- X1_has
def bX1_has_25 (t0 : Int32) (h : ZH) : Option (Int32 × ZH) :=
  if t0 = 0 ∨ t0 = 1 then some (t0, h) else none
theorem BX1_has_25 (b0 : Nat) (t0 : Int32) (h : ZH) : Zr zi b0 YX1_has 2 25 [] [.int t0] h (bX1_has_25 t0 h) := by
  unfold bX1_has_25
  exact z_zreturn dX1_has_25 rfl
def bX1_has_24 (h : ZH) : Option (Int32 × ZH) :=
  bX1_has_25 (nI 0) h
theorem BX1_has_24 (b0 : Nat) (h : ZH) : Zr zi b0 YX1_has 2 24 [] [] h (bX1_has_24 h) := by
  unfold bX1_has_24
  refine z_iconst (nI 0) 25 zki_0 dX1_has_24 rfl ?_
  exact z_sub [] rfl (BX1_has_25 b0 (nI 0) h )
def fX1_has (x0 : Nat) (x1 : Int32) (x2 : Int32) (x3 : Int32) (h : ZH) : Option (Int32 × ZH) :=
  if x0 < zn h ∧ zK h x0 = 1 then ((fX10_isVertex x3 h).bind fun q1 =>
  if q1.1 = 0 then (bX1_has_24 q1.2) else
  ((fX1_row x0 x1 x2 q1.2).bind fun q3 =>
  if ((jshr q3.1 x3) &&& (nI 1)) = 0 then (bX1_has_24 q3.2) else
  (bX1_has_25 (nI 1) q3.2))) else none
theorem kX1_has {x0 : Nat} {x1 : Int32} {x2 : Int32} {x3 : Int32} {h : ZH} {x : Int32 × ZH} (e : fX1_has x0 x1 x2 x3 h = some x) : x0 < zn h ∧ zK h x0 = 1 := by
  unfold fX1_has at e
  exact zguard e
theorem mX1_has (b0 : Nat) (x0 : Nat) (x1 : Int32) (x2 : Int32) (x3 : Int32) (h : ZH) : ZM zi b0 YX1_has 2 [.ref (b0 + x0), .int x1, .int x2, .int x3] h (fX1_has x0 x1 x2 x3 h) := by
  unfold fX1_has
  refine ZM.of (by decide) rfl (Nat.le_of_ble_eq_true rfl) (fun _ => trivial) ?_
  refine z_sub (lv2 := [(0, .ref (b0 + x0)), (1, .int x1), (2, .int x2), (3, .int x3)]) [0, 1, 2, 3] rfl ?_
  refine z_guard (fun _ => ?_)
  refine z_iload_n 1 3 dX1_has_0 rfl rfl ?_
  refine z_callSNi 4 (mX10_isVertex b0 x3 h) zyX10_isVertex rfl (List.mem_of_getElem? (i := 11) rfl) wt_yX10_isVertex (Nat.le_of_ble_eq_true rfl) rfl (Nat.le_of_ble_eq_true rfl) dX1_has_1 rfl (fun q1 => ?_)
  refine z_if_eq 24 7 dX1_has_4 (by decide) rfl (fun c2 => ?_) (fun c2 => ?_)
  · exact z_sub [] rfl (BX1_has_24 b0 q1.2 )
  · refine z_aload_n 8 0 dX1_has_7 rfl rfl ?_
    refine z_iload_n 9 1 dX1_has_8 rfl rfl ?_
    refine z_iload_n 10 2 dX1_has_9 rfl rfl ?_
    refine z_callVi 13 (mX1_row b0 x0 x1 x2 q1.2) zyX1_row rfl w_345 (ci := 1) rfl (Nat.le_of_ble_eq_true rfl) (fun _ e9 => kX1_row e9) wm_yX1_row ws_yX1_row (Nat.le_of_ble_eq_true rfl) rfl (Nat.le_of_ble_eq_true rfl) dX1_has_10 rfl (fun q3 => ?_)
    refine z_iload_n 14 3 dX1_has_13 rfl rfl ?_
    refine z_ishr 15 dX1_has_14 rfl ?_
    refine z_iconst (nI 1) 16 zki_1 dX1_has_15 rfl ?_
    refine z_iand 17 dX1_has_16 rfl ?_
    refine z_if_eq 24 20 dX1_has_17 (by decide) rfl (fun c4 => ?_) (fun c4 => ?_)
    · exact z_sub [] rfl (BX1_has_24 b0 q3.2 )
    · refine z_iconst (nI 1) 21 zki_1 dX1_has_20 rfl ?_
      refine z_goto 25 dX1_has_21 (by decide) ?_
      exact z_sub [] rfl (BX1_has_25 b0 (nI 1) q3.2 )
-- X0_targetInMerged
def kX0_targetInMerged_2 (x0 : Nat) (x1 : Int32) (x2 : Int32) (self2 : Int32 × ZH → Option (Int32 × ZH)) (x3 : Int32) (h : ZH) : Option (Int32 × ZH) :=
  if (nI 8) ≤ x3 then (some ((-1 : Int32), h)) else
  ((gR h 0 x0 7).bind fun v2 =>
  (fX1_has v2 x1 x2 x3 h).bind fun q3 =>
  if q3.1 = 0 then (self2 ((x3 + (nI 1)), q3.2)) else
  (some (x3, q3.2)))
def lX0_targetInMerged_2 (x0 : Nat) (x1 : Int32) (x2 : Int32) : (Int32 × ZH → Option (Int32 × ZH)) → Int32 × ZH → Option (Int32 × ZH) := fun self s => kX0_targetInMerged_2 x0 x1 x2 self s.1 s.2
theorem KX0_targetInMerged_2 (b0 : Nat) (x0 : Nat) (x1 : Int32) (x2 : Int32) (self2 : Int32 × ZH → Option (Int32 × ZH)) (hself2 : ∀ (y3 : Int32) (hh : ZH), Zr zi b0 YX0_targetInMerged 3 2 [(0, .ref (b0 + x0)), (1, .int x1), (2, .int x2), (3, .int y3)] [] hh (self2 (y3, hh))) (x3 : Int32) (h : ZH) : Zr zi b0 YX0_targetInMerged 3 2 [(0, .ref (b0 + x0)), (1, .int x1), (2, .int x2), (3, .int x3)] [] h (kX0_targetInMerged_2 x0 x1 x2 self2 x3 h) := by
  unfold kX0_targetInMerged_2
  refine z_iload_n 3 3 dX0_targetInMerged_2 rfl rfl ?_
  refine z_bipush (nI 8) 5 zkb_8 dX0_targetInMerged_3 rfl ?_
  refine z_icmp_ge 29 8 dX0_targetInMerged_5 (by decide) rfl (fun c1 => ?_) (fun c1 => ?_)
  · refine z_iconst (-1 : Int32) 30 zki_m1 dX0_targetInMerged_29 rfl ?_
    exact z_ireturn dX0_targetInMerged_30 rfl
  · refine z_aload_n 9 0 dX0_targetInMerged_8 rfl rfl ?_
    refine z_getR 12 zC0 (Nat.le_of_ble_eq_true rfl) rfl w_150 dX0_targetInMerged_9 rfl (fun v2 _ => ?_)
    refine z_iload_n 13 1 dX0_targetInMerged_12 rfl rfl ?_
    refine z_iload_n 14 2 dX0_targetInMerged_13 rfl rfl ?_
    refine z_iload_n 15 3 dX0_targetInMerged_14 rfl rfl ?_
    refine z_callVi 18 (mX1_has b0 v2 x1 x2 x3 h) zyX1_has rfl w_707 (ci := 1) rfl (Nat.le_of_ble_eq_true rfl) (fun _ e9 => kX1_has e9) wm_yX1_has ws_yX1_has (Nat.le_of_ble_eq_true rfl) rfl (Nat.le_of_ble_eq_true rfl) dX0_targetInMerged_15 rfl (fun q3 => ?_)
    refine z_if_eq 23 21 dX0_targetInMerged_18 (by decide) rfl (fun c4 => ?_) (fun c4 => ?_)
    · refine z_iinc (lv2 := [(3, .int (x3 + (nI 1))), (0, .ref (b0 + x0)), (1, .int x1), (2, .int x2)]) (nI 1) 26 3 dX0_targetInMerged_23 rfl rfl zki_1 (Nat.le_of_ble_eq_true rfl) rfl ?_
      refine z_goto 2 dX0_targetInMerged_26 (by decide) ?_
      exact z_sub [1, 2, 3, 0] rfl (hself2 (x3 + (nI 1)) q3.2)
    · refine z_iload_n 22 3 dX0_targetInMerged_21 rfl rfl ?_
      exact z_ireturn dX0_targetInMerged_22 rfl
theorem BX0_targetInMerged_2 (b0 : Nat) (x0 : Nat) (x1 : Int32) (x2 : Int32) (n : Nat) (x3 : Int32) (h : ZH) : Zr zi b0 YX0_targetInMerged 3 2 [(0, .ref (b0 + x0)), (1, .int x1), (2, .int x2), (3, .int x3)] [] h (zloop (lX0_targetInMerged_2 x0 x1 x2) n (x3, h)) :=
  zloop_Zr (fun s => [(0, .ref (b0 + x0)), (1, .int x1), (2, .int x2), (3, .int s.1)]) (fun _ => []) (fun s => s.2) (lX0_targetInMerged_2 x0 x1 x2) (fun self hs s => KX0_targetInMerged_2 b0 x0 x1 x2 self (fun y3 hh => hs (y3, hh)) s.1 s.2) n (x3, h)
def fX0_targetInMerged (x0 : Nat) (x1 : Int32) (x2 : Int32) (h : ZH) : Option (Int32 × ZH) :=
  if x0 < zn h ∧ zK h x0 = 0 then (zloop (lX0_targetInMerged_2 x0 x1 x2) zfu ((nI 0), h)) else none
theorem kX0_targetInMerged {x0 : Nat} {x1 : Int32} {x2 : Int32} {h : ZH} {x : Int32 × ZH} (e : fX0_targetInMerged x0 x1 x2 h = some x) : x0 < zn h ∧ zK h x0 = 0 := by
  unfold fX0_targetInMerged at e
  exact zguard e
theorem mX0_targetInMerged (b0 : Nat) (x0 : Nat) (x1 : Int32) (x2 : Int32) (h : ZH) : ZM zi b0 YX0_targetInMerged 3 [.ref (b0 + x0), .int x1, .int x2] h (fX0_targetInMerged x0 x1 x2 h) := by
  unfold fX0_targetInMerged
  refine ZM.of (by decide) rfl (Nat.le_of_ble_eq_true rfl) (fun _ => trivial) ?_
  refine z_sub (lv2 := [(0, .ref (b0 + x0)), (1, .int x1), (2, .int x2)]) [0, 1, 2] rfl ?_
  refine z_guard (fun _ => ?_)
  refine z_iconst (nI 0) 1 zki_0 dX0_targetInMerged_0 rfl ?_
  refine z_istore_n (lv2 := [(3, .int (nI 0)), (0, .ref (b0 + x0)), (1, .int x1), (2, .int x2)]) 2 dX0_targetInMerged_1 rfl (Nat.le_of_ble_eq_true rfl) rfl ?_
  exact z_sub [1, 2, 3, 0] rfl (BX0_targetInMerged_2 b0 x0 x1 x2 zfu (nI 0) h)
-- X0_numberVertices
def bX0_numberVertices_141 (h : ZH) : Option (ZH) :=
  some h
theorem BX0_numberVertices_141 (b0 : Nat) (h : ZH) : Zr zv b0 YX0_numberVertices 4 141 [] [] h (bX0_numberVertices_141 h) := by
  unfold bX0_numberVertices_141
  exact z_return dX0_numberVertices_141 rfl
def bX0_numberVertices_129 (self62 : Int32 × Int32 × ZH → Option (ZH)) (self75 : Int32 × Int32 × ZH → Option (ZH)) (x0 : Nat) (x1 : Int32) (x2 : Int32) (x3 : Int32) (h : ZH) : Option (ZH) :=
  self75 (x1, (x3 + (nI 1)), h)
theorem BX0_numberVertices_129 (b0 : Nat) (self62 : Int32 × Int32 × ZH → Option (ZH)) (self75 : Int32 × Int32 × ZH → Option (ZH)) (x0 : Nat) (x1 : Int32) (x2 : Int32) (x3 : Int32) (h : ZH) (hself62 : ∀ (y1 : Int32) (y2 : Int32) (hh : ZH), Zr zv b0 YX0_numberVertices 4 62 [(0, .ref (b0 + x0)), (1, .int y1), (2, .int y2)] [] hh (self62 (y1, y2, hh))) (hself75 : ∀ (y1 : Int32) (y3 : Int32) (hh : ZH), Zr zv b0 YX0_numberVertices 4 75 [(0, .ref (b0 + x0)), (2, .int x2), (1, .int y1), (3, .int y3)] [] hh (self75 (y1, y3, hh))) : Zr zv b0 YX0_numberVertices 4 129 [(0, .ref (b0 + x0)), (1, .int x1), (2, .int x2), (3, .int x3)] [] h (bX0_numberVertices_129 self62 self75 x0 x1 x2 x3 h) := by
  unfold bX0_numberVertices_129
  refine z_iinc (lv2 := [(3, .int (x3 + (nI 1))), (0, .ref (b0 + x0)), (1, .int x1), (2, .int x2)]) (nI 1) 132 3 dX0_numberVertices_129 rfl rfl zki_1 (Nat.le_of_ble_eq_true rfl) rfl ?_
  refine z_goto 75 dX0_numberVertices_132 (by decide) ?_
  exact z_sub [1, 3, 2, 0] rfl (hself75 x1 (x3 + (nI 1)) h)
def kX0_numberVertices_75 (self62 : Int32 × Int32 × ZH → Option (ZH)) (x0 : Nat) (x2 : Int32) (self75 : Int32 × Int32 × ZH → Option (ZH)) (x1 : Int32) (x3 : Int32) (h : ZH) : Option (ZH) :=
  if (nI 4) ≤ x3 then (self62 (x1, (x2 + (nI 1)), h)) else
  ((gR h 0 x0 10).bind fun v2 =>
  (lI h 14 v2 x2).bind fun v3 =>
  (fX0_targetInMerged x0 v3 x3 h).bind fun q4 =>
  if q4.1 < 0 then (bX0_numberVertices_129 self62 self75 x0 x1 x2 x3 q4.2) else
  (if (nI 8) ≤ q4.1 then (bX0_numberVertices_129 self62 self75 x0 x1 x2 x3 q4.2) else
  ((fX0_numberVertex x0 q4.1 x1 q4.2).bind fun q7 =>
  (gR q7.2 0 x0 12).bind fun v8 =>
  (gR q7.2 0 x0 11).bind fun v9 =>
  (lI q7.2 14 v9 q4.1).bind fun v10 =>
  (fX1_put v8 x2 x3 v10 q7.2).bind fun h11 =>
  bX0_numberVertices_129 self62 self75 x0 q7.1 x2 x3 h11)))
def lX0_numberVertices_75 (self62 : Int32 × Int32 × ZH → Option (ZH)) (x0 : Nat) (x2 : Int32) : (Int32 × Int32 × ZH → Option (ZH)) → Int32 × Int32 × ZH → Option (ZH) := fun self s => kX0_numberVertices_75 self62 x0 x2 self s.1 s.2.1 s.2.2
theorem KX0_numberVertices_75 (b0 : Nat) (self62 : Int32 × Int32 × ZH → Option (ZH)) (x0 : Nat) (x2 : Int32) (hself62 : ∀ (y1 : Int32) (y2 : Int32) (hh : ZH), Zr zv b0 YX0_numberVertices 4 62 [(0, .ref (b0 + x0)), (1, .int y1), (2, .int y2)] [] hh (self62 (y1, y2, hh))) (self75 : Int32 × Int32 × ZH → Option (ZH)) (hself75 : ∀ (y1 : Int32) (y3 : Int32) (hh : ZH), Zr zv b0 YX0_numberVertices 4 75 [(0, .ref (b0 + x0)), (2, .int x2), (1, .int y1), (3, .int y3)] [] hh (self75 (y1, y3, hh))) (x1 : Int32) (x3 : Int32) (h : ZH) : Zr zv b0 YX0_numberVertices 4 75 [(0, .ref (b0 + x0)), (2, .int x2), (1, .int x1), (3, .int x3)] [] h (kX0_numberVertices_75 self62 x0 x2 self75 x1 x3 h) := by
  unfold kX0_numberVertices_75
  refine z_iload_n 76 3 dX0_numberVertices_75 rfl rfl ?_
  refine z_iconst (nI 4) 77 zki_4 dX0_numberVertices_76 rfl ?_
  refine z_icmp_ge 135 80 dX0_numberVertices_77 (by decide) rfl (fun c1 => ?_) (fun c1 => ?_)
  · refine z_iinc (lv2 := [(2, .int (x2 + (nI 1))), (0, .ref (b0 + x0)), (1, .int x1), (3, .int x3)]) (nI 1) 138 1 dX0_numberVertices_135 rfl rfl zki_1 (Nat.le_of_ble_eq_true rfl) rfl ?_
    refine z_goto 62 dX0_numberVertices_138 (by decide) ?_
    exact z_sub [1, 2, 0] rfl (hself62 x1 (x2 + (nI 1)) h)
  · refine z_aload_n 81 0 dX0_numberVertices_80 rfl rfl ?_
    refine z_aload_n 82 0 dX0_numberVertices_81 rfl rfl ?_
    refine z_getR 85 zC0 (Nat.le_of_ble_eq_true rfl) rfl w_153 dX0_numberVertices_82 rfl (fun v2 _ => ?_)
    refine z_iload_n 86 1 dX0_numberVertices_85 rfl rfl ?_
    refine z_iaload 87 dX0_numberVertices_86 rfl (fun v3 _ => ?_)
    refine z_iload_n 88 3 dX0_numberVertices_87 rfl rfl ?_
    refine z_callVi 91 (mX0_targetInMerged b0 x0 v3 x3 h) zyX0_targetInMerged rfl w_703 (ci := 0) rfl (Nat.le_of_ble_eq_true rfl) (fun _ e9 => kX0_targetInMerged e9) wm_yX0_targetInMerged ws_yX0_targetInMerged (Nat.le_of_ble_eq_true rfl) rfl (Nat.le_of_ble_eq_true rfl) dX0_numberVertices_88 rfl (fun q4 => ?_)
    refine z_istore (lv2 := [(4, .int q4.1), (0, .ref (b0 + x0)), (2, .int x2), (1, .int x1), (3, .int x3)]) 93 dX0_numberVertices_91 rfl (Nat.le_of_ble_eq_true rfl) rfl ?_
    refine z_iload 95 0 dX0_numberVertices_93 rfl rfl ?_
    refine z_if_lt 129 98 dX0_numberVertices_95 (by decide) rfl (fun c5 => ?_) (fun c5 => ?_)
    · exact z_sub [1, 3, 2, 4] rfl (BX0_numberVertices_129 b0 self62 self75 x0 x1 x2 x3 q4.2 hself62 hself75)
    · refine z_iload 100 0 dX0_numberVertices_98 rfl rfl ?_
      refine z_bipush (nI 8) 102 zkb_8 dX0_numberVertices_100 rfl ?_
      refine z_icmp_ge 129 105 dX0_numberVertices_102 (by decide) rfl (fun c6 => ?_) (fun c6 => ?_)
      · exact z_sub [1, 3, 2, 4] rfl (BX0_numberVertices_129 b0 self62 self75 x0 x1 x2 x3 q4.2 hself62 hself75)
      · refine z_aload_n 106 1 dX0_numberVertices_105 rfl rfl ?_
        refine z_iload 108 0 dX0_numberVertices_106 rfl rfl ?_
        refine z_iload_n 109 3 dX0_numberVertices_108 rfl rfl ?_
        refine z_callVi 112 (mX0_numberVertex b0 x0 q4.1 x1 q4.2) zyX0_numberVertex rfl w_699 (ci := 0) rfl (Nat.le_of_ble_eq_true rfl) (fun _ e9 => kX0_numberVertex e9) wm_yX0_numberVertex ws_yX0_numberVertex (Nat.le_of_ble_eq_true rfl) rfl (Nat.le_of_ble_eq_true rfl) dX0_numberVertices_109 rfl (fun q7 => ?_)
        refine z_istore_n (lv2 := [(1, .int q7.1), (4, .int q4.1), (0, .ref (b0 + x0)), (2, .int x2), (3, .int x3)]) 113 dX0_numberVertices_112 rfl (Nat.le_of_ble_eq_true rfl) rfl ?_
        refine z_aload_n 114 2 dX0_numberVertices_113 rfl rfl ?_
        refine z_getR 117 zC0 (Nat.le_of_ble_eq_true rfl) rfl w_155 dX0_numberVertices_114 rfl (fun v8 _ => ?_)
        refine z_iload_n 118 3 dX0_numberVertices_117 rfl rfl ?_
        refine z_iload_n 119 4 dX0_numberVertices_118 rfl rfl ?_
        refine z_aload_n 120 2 dX0_numberVertices_119 rfl rfl ?_
        refine z_getR 123 zC0 (Nat.le_of_ble_eq_true rfl) rfl w_154 dX0_numberVertices_120 rfl (fun v9 _ => ?_)
        refine z_iload 125 1 dX0_numberVertices_123 rfl rfl ?_
        refine z_iaload 126 dX0_numberVertices_125 rfl (fun v10 _ => ?_)
        refine z_callVv 129 (mX1_put b0 v8 x2 x3 v10 q7.2) zyX1_put rfl w_683 (ci := 1) rfl (Nat.le_of_ble_eq_true rfl) (fun _ e9 => kX1_put e9) wm_yX1_put ws_yX1_put (Nat.le_of_ble_eq_true rfl) rfl (Nat.le_of_ble_eq_true rfl) dX0_numberVertices_126 rfl (fun h11 => ?_)
        exact z_sub [2, 0, 3, 4] rfl (BX0_numberVertices_129 b0 self62 self75 x0 q7.1 x2 x3 h11 hself62 hself75)
theorem BX0_numberVertices_75 (b0 : Nat) (self62 : Int32 × Int32 × ZH → Option (ZH)) (x0 : Nat) (x2 : Int32) (hself62 : ∀ (y1 : Int32) (y2 : Int32) (hh : ZH), Zr zv b0 YX0_numberVertices 4 62 [(0, .ref (b0 + x0)), (1, .int y1), (2, .int y2)] [] hh (self62 (y1, y2, hh))) (n : Nat) (x1 : Int32) (x3 : Int32) (h : ZH) : Zr zv b0 YX0_numberVertices 4 75 [(0, .ref (b0 + x0)), (2, .int x2), (1, .int x1), (3, .int x3)] [] h (zloop (lX0_numberVertices_75 self62 x0 x2) n (x1, x3, h)) :=
  zloop_Zr (fun s => [(0, .ref (b0 + x0)), (2, .int x2), (1, .int s.1), (3, .int s.2.1)]) (fun _ => []) (fun s => s.2.2) (lX0_numberVertices_75 self62 x0 x2) (fun self hs s => KX0_numberVertices_75 b0 self62 x0 x2 hself62 self (fun y1 y3 hh => hs (y1, y3, hh)) s.1 s.2.1 s.2.2) n (x1, x3, h)
def kX0_numberVertices_62 (x0 : Nat) (self62 : Int32 × Int32 × ZH → Option (ZH)) (x1 : Int32) (x2 : Int32) (h : ZH) : Option (ZH) :=
  if x1 ≤ x2 then (bX0_numberVertices_141 h) else
  (if (nI 8) ≤ x2 then (bX0_numberVertices_141 h) else
  (zloop (lX0_numberVertices_75 self62 x0 x2) zfu (x1, (nI 0), h)))
def lX0_numberVertices_62 (x0 : Nat) : (Int32 × Int32 × ZH → Option (ZH)) → Int32 × Int32 × ZH → Option (ZH) := fun self s => kX0_numberVertices_62 x0 self s.1 s.2.1 s.2.2
theorem KX0_numberVertices_62 (b0 : Nat) (x0 : Nat) (self62 : Int32 × Int32 × ZH → Option (ZH)) (hself62 : ∀ (y1 : Int32) (y2 : Int32) (hh : ZH), Zr zv b0 YX0_numberVertices 4 62 [(0, .ref (b0 + x0)), (1, .int y1), (2, .int y2)] [] hh (self62 (y1, y2, hh))) (x1 : Int32) (x2 : Int32) (h : ZH) : Zr zv b0 YX0_numberVertices 4 62 [(0, .ref (b0 + x0)), (1, .int x1), (2, .int x2)] [] h (kX0_numberVertices_62 x0 self62 x1 x2 h) := by
  unfold kX0_numberVertices_62
  refine z_iload_n 63 2 dX0_numberVertices_62 rfl rfl ?_
  refine z_iload_n 64 1 dX0_numberVertices_63 rfl rfl ?_
  refine z_icmp_ge 141 67 dX0_numberVertices_64 (by decide) rfl (fun c1 => ?_) (fun c1 => ?_)
  · exact z_sub [] rfl (BX0_numberVertices_141 b0 h )
  · refine z_iload_n 68 2 dX0_numberVertices_67 rfl rfl ?_
    refine z_bipush (nI 8) 70 zkb_8 dX0_numberVertices_68 rfl ?_
    refine z_icmp_ge 141 73 dX0_numberVertices_70 (by decide) rfl (fun c2 => ?_) (fun c2 => ?_)
    · exact z_sub [] rfl (BX0_numberVertices_141 b0 h )
    · refine z_iconst (nI 0) 74 zki_0 dX0_numberVertices_73 rfl ?_
      refine z_istore_n (lv2 := [(3, .int (nI 0)), (0, .ref (b0 + x0)), (1, .int x1), (2, .int x2)]) 75 dX0_numberVertices_74 rfl (Nat.le_of_ble_eq_true rfl) rfl ?_
      exact z_sub [1, 3, 2, 0] rfl (BX0_numberVertices_75 b0 self62 x0 x2 hself62 zfu x1 (nI 0) h)
theorem BX0_numberVertices_62 (b0 : Nat) (x0 : Nat) (n : Nat) (x1 : Int32) (x2 : Int32) (h : ZH) : Zr zv b0 YX0_numberVertices 4 62 [(0, .ref (b0 + x0)), (1, .int x1), (2, .int x2)] [] h (zloop (lX0_numberVertices_62 x0) n (x1, x2, h)) :=
  zloop_Zr (fun s => [(0, .ref (b0 + x0)), (1, .int s.1), (2, .int s.2.1)]) (fun _ => []) (fun s => s.2.2) (lX0_numberVertices_62 x0) (fun self hs s => KX0_numberVertices_62 b0 x0 self (fun y1 y2 hh => hs (y1, y2, hh)) s.1 s.2.1 s.2.2) n (x1, x2, h)
def bX0_numberVertices_60 (x0 : Nat) (x1 : Int32) (h : ZH) : Option (ZH) :=
  zloop (lX0_numberVertices_62 x0) zfu (x1, (nI 0), h)
theorem BX0_numberVertices_60 (b0 : Nat) (x0 : Nat) (x1 : Int32) (h : ZH) : Zr zv b0 YX0_numberVertices 4 60 [(0, .ref (b0 + x0)), (1, .int x1)] [] h (bX0_numberVertices_60 x0 x1 h) := by
  unfold bX0_numberVertices_60
  refine z_iconst (nI 0) 61 zki_0 dX0_numberVertices_60 rfl ?_
  refine z_istore_n (lv2 := [(2, .int (nI 0)), (0, .ref (b0 + x0)), (1, .int x1)]) 62 dX0_numberVertices_61 rfl (Nat.le_of_ble_eq_true rfl) rfl ?_
  exact z_sub [1, 2, 0] rfl (BX0_numberVertices_62 b0 x0 zfu x1 (nI 0) h)
def bX0_numberVertices_54 (self19 : Int32 × Int32 × ZH → Option (ZH)) (x0 : Nat) (x1 : Int32) (x2 : Int32) (h : ZH) : Option (ZH) :=
  self19 (x1, (x2 + (nI 1)), h)
theorem BX0_numberVertices_54 (b0 : Nat) (self19 : Int32 × Int32 × ZH → Option (ZH)) (x0 : Nat) (x1 : Int32) (x2 : Int32) (h : ZH) (hself19 : ∀ (y1 : Int32) (y2 : Int32) (hh : ZH), Zr zv b0 YX0_numberVertices 4 19 [(0, .ref (b0 + x0)), (1, .int y1), (2, .int y2)] [] hh (self19 (y1, y2, hh))) : Zr zv b0 YX0_numberVertices 4 54 [(0, .ref (b0 + x0)), (1, .int x1), (2, .int x2)] [] h (bX0_numberVertices_54 self19 x0 x1 x2 h) := by
  unfold bX0_numberVertices_54
  refine z_iinc (lv2 := [(2, .int (x2 + (nI 1))), (0, .ref (b0 + x0)), (1, .int x1)]) (nI 1) 57 2 dX0_numberVertices_54 rfl rfl zki_1 (Nat.le_of_ble_eq_true rfl) rfl ?_
  refine z_goto 19 dX0_numberVertices_57 (by decide) ?_
  exact z_sub [1, 2, 0] rfl (hself19 x1 (x2 + (nI 1)) h)
def kX0_numberVertices_19 (x0 : Nat) (self19 : Int32 × Int32 × ZH → Option (ZH)) (x1 : Int32) (x2 : Int32) (h : ZH) : Option (ZH) :=
  if (nI 8) ≤ x2 then (bX0_numberVertices_60 x0 x1 h) else
  (if x1 = 0 then ((gR h 0 x0 8).bind fun v3 =>
  (gI h 0 x0 9).bind fun v4 =>
  (fX6_set v3 v4 h).bind fun q5 =>
  if ((jshr q5.1 x2) &&& (nI 1)) = 0 then (bX0_numberVertices_54 self19 x0 x1 x2 q5.2) else
  ((fX0_numberVertex x0 x2 x1 q5.2).bind fun q7 =>
  bX0_numberVertices_54 self19 x0 q7.1 x2 q7.2)) else
  (bX0_numberVertices_60 x0 x1 h))
def lX0_numberVertices_19 (x0 : Nat) : (Int32 × Int32 × ZH → Option (ZH)) → Int32 × Int32 × ZH → Option (ZH) := fun self s => kX0_numberVertices_19 x0 self s.1 s.2.1 s.2.2
theorem KX0_numberVertices_19 (b0 : Nat) (x0 : Nat) (self19 : Int32 × Int32 × ZH → Option (ZH)) (hself19 : ∀ (y1 : Int32) (y2 : Int32) (hh : ZH), Zr zv b0 YX0_numberVertices 4 19 [(0, .ref (b0 + x0)), (1, .int y1), (2, .int y2)] [] hh (self19 (y1, y2, hh))) (x1 : Int32) (x2 : Int32) (h : ZH) : Zr zv b0 YX0_numberVertices 4 19 [(0, .ref (b0 + x0)), (1, .int x1), (2, .int x2)] [] h (kX0_numberVertices_19 x0 self19 x1 x2 h) := by
  unfold kX0_numberVertices_19
  refine z_iload_n 20 2 dX0_numberVertices_19 rfl rfl ?_
  refine z_bipush (nI 8) 22 zkb_8 dX0_numberVertices_20 rfl ?_
  refine z_icmp_ge 60 25 dX0_numberVertices_22 (by decide) rfl (fun c1 => ?_) (fun c1 => ?_)
  · exact z_sub [0, 1] rfl (BX0_numberVertices_60 b0 x0 x1 h )
  · refine z_iload_n 26 1 dX0_numberVertices_25 rfl rfl ?_
    refine z_if_ne 60 29 dX0_numberVertices_26 (by decide) rfl (fun c2 => ?_) (fun c2 => ?_)
    · exact z_sub [0, 1] rfl (BX0_numberVertices_60 b0 x0 x1 h )
    · refine z_aload_n 30 0 dX0_numberVertices_29 rfl rfl ?_
      refine z_getR 33 zC0 (Nat.le_of_ble_eq_true rfl) rfl w_151 dX0_numberVertices_30 rfl (fun v3 _ => ?_)
      refine z_aload_n 34 0 dX0_numberVertices_33 rfl rfl ?_
      refine z_getI 37 zC0 (Nat.le_of_ble_eq_true rfl) rfl w_152 dX0_numberVertices_34 rfl (fun v4 _ => ?_)
      refine z_callVi 40 (mX6_set b0 v3 v4 h) zyX6_set rfl w_690 (ci := 6) rfl (Nat.le_of_ble_eq_true rfl) (fun _ e9 => kX6_set e9) wm_yX6_set ws_yX6_set (Nat.le_of_ble_eq_true rfl) rfl (Nat.le_of_ble_eq_true rfl) dX0_numberVertices_37 rfl (fun q5 => ?_)
      refine z_iload_n 41 2 dX0_numberVertices_40 rfl rfl ?_
      refine z_ishr 42 dX0_numberVertices_41 rfl ?_
      refine z_iconst (nI 1) 43 zki_1 dX0_numberVertices_42 rfl ?_
      refine z_iand 44 dX0_numberVertices_43 rfl ?_
      refine z_if_eq 54 47 dX0_numberVertices_44 (by decide) rfl (fun c6 => ?_) (fun c6 => ?_)
      · exact z_sub [0, 1, 2] rfl (BX0_numberVertices_54 b0 self19 x0 x1 x2 q5.2 hself19)
      · refine z_aload_n 48 0 dX0_numberVertices_47 rfl rfl ?_
        refine z_iload_n 49 2 dX0_numberVertices_48 rfl rfl ?_
        refine z_iload_n 50 1 dX0_numberVertices_49 rfl rfl ?_
        refine z_callVi 53 (mX0_numberVertex b0 x0 x2 x1 q5.2) zyX0_numberVertex rfl w_699 (ci := 0) rfl (Nat.le_of_ble_eq_true rfl) (fun _ e9 => kX0_numberVertex e9) wm_yX0_numberVertex ws_yX0_numberVertex (Nat.le_of_ble_eq_true rfl) rfl (Nat.le_of_ble_eq_true rfl) dX0_numberVertices_50 rfl (fun q7 => ?_)
        refine z_istore_n (lv2 := [(1, .int q7.1), (0, .ref (b0 + x0)), (2, .int x2)]) 54 dX0_numberVertices_53 rfl (Nat.le_of_ble_eq_true rfl) rfl ?_
        exact z_sub [1, 0, 2] rfl (BX0_numberVertices_54 b0 self19 x0 q7.1 x2 q7.2 hself19)
theorem BX0_numberVertices_19 (b0 : Nat) (x0 : Nat) (n : Nat) (x1 : Int32) (x2 : Int32) (h : ZH) : Zr zv b0 YX0_numberVertices 4 19 [(0, .ref (b0 + x0)), (1, .int x1), (2, .int x2)] [] h (zloop (lX0_numberVertices_19 x0) n (x1, x2, h)) :=
  zloop_Zr (fun s => [(0, .ref (b0 + x0)), (1, .int s.1), (2, .int s.2.1)]) (fun _ => []) (fun s => s.2.2) (lX0_numberVertices_19 x0) (fun self hs s => KX0_numberVertices_19 b0 x0 self (fun y1 y2 hh => hs (y1, y2, hh)) s.1 s.2.1 s.2.2) n (x1, x2, h)
def fX0_numberVertices (x0 : Nat) (h : ZH) : Option (ZH) :=
  if x0 < zn h ∧ zK h x0 = 0 then ((gR h 0 x0 12).bind fun v1 =>
  (fX1_clear v1 h).bind fun h2 =>
  (gR h2 0 x0 11).bind fun v3 =>
  (fJ7_fill_53178 v3 (-1 : Int32) h2).bind fun h4 =>
  zloop (lX0_numberVertices_19 x0) zfu ((nI 0), (nI 0), h4)) else none
theorem kX0_numberVertices {x0 : Nat} {h : ZH} {x : ZH} (e : fX0_numberVertices x0 h = some x) : x0 < zn h ∧ zK h x0 = 0 := by
  unfold fX0_numberVertices at e
  exact zguard e
theorem mX0_numberVertices (b0 : Nat) (x0 : Nat) (h : ZH) : ZM zv b0 YX0_numberVertices 4 [.ref (b0 + x0)] h (fX0_numberVertices x0 h) := by
  unfold fX0_numberVertices
  refine ZM.of (by decide) rfl (Nat.le_of_ble_eq_true rfl) (fun _ => trivial) ?_
  refine z_sub (lv2 := [(0, .ref (b0 + x0))]) [0] rfl ?_
  refine z_guard (fun _ => ?_)
  refine z_aload_n 1 0 dX0_numberVertices_0 rfl rfl ?_
  refine z_getR 4 zC0 (Nat.le_of_ble_eq_true rfl) rfl w_155 dX0_numberVertices_1 rfl (fun v1 _ => ?_)
  refine z_callVv 7 (mX1_clear b0 v1 h) zyX1_clear rfl w_682 (ci := 1) rfl (Nat.le_of_ble_eq_true rfl) (fun _ e9 => kX1_clear e9) wm_yX1_clear ws_yX1_clear (Nat.le_of_ble_eq_true rfl) rfl (Nat.le_of_ble_eq_true rfl) dX0_numberVertices_4 rfl (fun h2 => ?_)
  refine z_aload_n 8 0 dX0_numberVertices_7 rfl rfl ?_
  refine z_getR 11 zC0 (Nat.le_of_ble_eq_true rfl) rfl w_154 dX0_numberVertices_8 rfl (fun v3 _ => ?_)
  refine z_iconst (-1 : Int32) 12 zki_m1 dX0_numberVertices_11 rfl ?_
  refine z_callSv 15 (mJ7_fill_53178 b0 v3 (-1 : Int32) h2) zyJ7_fill_53178 rfl w_669 wt_yJ7_fill_53178 (Nat.le_of_ble_eq_true rfl) rfl (Nat.le_of_ble_eq_true rfl) dX0_numberVertices_12 rfl (fun h4 => ?_)
  refine z_iconst (nI 0) 16 zki_0 dX0_numberVertices_15 rfl ?_
  refine z_istore_n (lv2 := [(1, .int (nI 0)), (0, .ref (b0 + x0))]) 17 dX0_numberVertices_16 rfl (Nat.le_of_ble_eq_true rfl) rfl ?_
  refine z_iconst (nI 0) 18 zki_0 dX0_numberVertices_17 rfl ?_
  refine z_istore_n (lv2 := [(2, .int (nI 0)), (1, .int (nI 0)), (0, .ref (b0 + x0))]) 19 dX0_numberVertices_18 rfl (Nat.le_of_ble_eq_true rfl) rfl ?_
  exact z_sub [2, 1, 0] rfl (BX0_numberVertices_19 b0 x0 zfu (nI 0) (nI 0) h4)
