-- X1_init
def fX1_init (x0 : Nat) (h : ZH) : Option (ZH) :=
  if x0 < zn h ∧ zK h x0 = 1 then ((zala h 14 (nI 32)).bind fun q1 =>
  (pR q1.2 1 x0 0 q1.1).bind fun h2 =>
  some h2) else none
theorem kX1_init {x0 : Nat} {h : ZH} {x : ZH} (e : fX1_init x0 h = some x) : x0 < zn h ∧ zK h x0 = 1 := by
  unfold fX1_init at e
  exact zguard e
theorem mX1_init (b0 : Nat) (x0 : Nat) (h : ZH) : ZM zv b0 YX1_init 2 [.ref (b0 + x0)] h (fX1_init x0 h) := by
  unfold fX1_init
  refine ZM.of (by decide) rfl (Nat.le_of_ble_eq_true rfl) (fun _ => trivial) ?_
  refine z_sub (lv2 := [(0, .ref (b0 + x0))]) [0] rfl ?_
  refine z_guard (fun _ => ?_)
  refine z_aload_n 1 0 dX1_init_0 rfl rfl ?_
  refine z_objInit 4 w_39 wm_Lib_objectInit wc_Lib_objectInit (Nat.le_of_ble_eq_true rfl) (Nat.le_of_ble_eq_true rfl) dX1_init_1 rfl ?_
  refine z_aload_n 5 0 dX1_init_4 rfl rfl ?_
  refine z_bipush (nI 32) 7 zkb_32 dX1_init_5 rfl ?_
  refine z_newA_int 9 wa_int dX1_init_7 rfl (fun q1 => ?_)
  refine z_putF 12 zC1 (Nat.le_of_ble_eq_true rfl) rfl rfl rfl rfl rfl (Or.inl ⟨_, rfl⟩) w_40 dX1_init_9 rfl (fun h2 _ => ?_)
  exact z_return dX1_init_12 rfl
-- X6_init
def fX6_init (x0 : Nat) (h : ZH) : Option (ZH) :=
  if x0 < zn h ∧ zK h x0 = 6 then ((zala h 14 (nI 256)).bind fun q1 =>
  (pR q1.2 6 x0 0 q1.1).bind fun h2 =>
  (zala h2 14 (nI 256)).bind fun q3 =>
  (pR q3.2 6 x0 1 q3.1).bind fun h4 =>
  (zala h4 14 (nI 1024)).bind fun q5 =>
  (pR q5.2 6 x0 2 q5.1).bind fun h6 =>
  (zala h6 14 (nI 256)).bind fun q7 =>
  (pR q7.2 6 x0 3 q7.1).bind fun h8 =>
  (zala h8 14 (nI 8)).bind fun q9 =>
  (pR q9.2 6 x0 4 q9.1).bind fun h10 =>
  some h10) else none
theorem kX6_init {x0 : Nat} {h : ZH} {x : ZH} (e : fX6_init x0 h = some x) : x0 < zn h ∧ zK h x0 = 6 := by
  unfold fX6_init at e
  exact zguard e
theorem mX6_init (b0 : Nat) (x0 : Nat) (h : ZH) : ZM zv b0 YX6_init 2 [.ref (b0 + x0)] h (fX6_init x0 h) := by
  unfold fX6_init
  refine ZM.of (by decide) rfl (Nat.le_of_ble_eq_true rfl) (fun _ => trivial) ?_
  refine z_sub (lv2 := [(0, .ref (b0 + x0))]) [0] rfl ?_
  refine z_guard (fun _ => ?_)
  refine z_aload_n 1 0 dX6_init_0 rfl rfl ?_
  refine z_objInit 4 w_80 wm_Lib_objectInit wc_Lib_objectInit (Nat.le_of_ble_eq_true rfl) (Nat.le_of_ble_eq_true rfl) dX6_init_1 rfl ?_
  refine z_aload_n 5 0 dX6_init_4 rfl rfl ?_
  refine z_sipush (nI 256) 8 zks_256 dX6_init_5 rfl ?_
  refine z_newA_int 10 wa_int dX6_init_8 rfl (fun q1 => ?_)
  refine z_putF 13 zC6 (Nat.le_of_ble_eq_true rfl) rfl rfl rfl rfl rfl (Or.inl ⟨_, rfl⟩) w_81 dX6_init_10 rfl (fun h2 _ => ?_)
  refine z_aload_n 14 0 dX6_init_13 rfl rfl ?_
  refine z_sipush (nI 256) 17 zks_256 dX6_init_14 rfl ?_
  refine z_newA_int 19 wa_int dX6_init_17 rfl (fun q3 => ?_)
  refine z_putF 22 zC6 (Nat.le_of_ble_eq_true rfl) rfl rfl rfl rfl rfl (Or.inl ⟨_, rfl⟩) w_82 dX6_init_19 rfl (fun h4 _ => ?_)
  refine z_aload_n 23 0 dX6_init_22 rfl rfl ?_
  refine z_sipush (nI 1024) 26 zks_1024 dX6_init_23 rfl ?_
  refine z_newA_int 28 wa_int dX6_init_26 rfl (fun q5 => ?_)
  refine z_putF 31 zC6 (Nat.le_of_ble_eq_true rfl) rfl rfl rfl rfl rfl (Or.inl ⟨_, rfl⟩) w_83 dX6_init_28 rfl (fun h6 _ => ?_)
  refine z_aload_n 32 0 dX6_init_31 rfl rfl ?_
  refine z_sipush (nI 256) 35 zks_256 dX6_init_32 rfl ?_
  refine z_newA_int 37 wa_int dX6_init_35 rfl (fun q7 => ?_)
  refine z_putF 40 zC6 (Nat.le_of_ble_eq_true rfl) rfl rfl rfl rfl rfl (Or.inl ⟨_, rfl⟩) w_84 dX6_init_37 rfl (fun h8 _ => ?_)
  refine z_aload_n 41 0 dX6_init_40 rfl rfl ?_
  refine z_bipush (nI 8) 43 zkb_8 dX6_init_41 rfl ?_
  refine z_newA_int 45 wa_int dX6_init_43 rfl (fun q9 => ?_)
  refine z_putF 48 zC6 (Nat.le_of_ble_eq_true rfl) rfl rfl rfl rfl rfl (Or.inl ⟨_, rfl⟩) w_85 dX6_init_45 rfl (fun h10 _ => ?_)
  exact z_return dX6_init_48 rfl
-- X0_init
def fX0_init (x0 : Nat) (h : ZH) : Option (ZH) :=
  if x0 < zn h ∧ zK h x0 = 0 then ((zala h 16 (nI 256)).bind fun q1 =>
  (pR q1.2 0 x0 0 q1.1).bind fun h2 =>
  (zala h2 16 (nI 256)).bind fun q3 =>
  (pR q3.2 0 x0 1 q3.1).bind fun h4 =>
  (zala h4 14 (nI 256)).bind fun q5 =>
  (pR q5.2 0 x0 2 q5.1).bind fun h6 =>
  (zala h6 14 (nI 256)).bind fun q7 =>
  (pR q7.2 0 x0 4 q7.1).bind fun h8 =>
  (zala h8 14 (nI 256)).bind fun q9 =>
  (pR q9.2 0 x0 5 q9.1).bind fun h10 =>
  (zala h10 14 (nI 8)).bind fun q11 =>
  (pR q11.2 0 x0 6 q11.1).bind fun h12 =>
  (zal h12 1 1).bind fun q13 =>
  (fX1_init q13.1 q13.2).bind fun h14 =>
  (pR h14 0 x0 8 q13.1).bind fun h15 =>
  (zal h15 6 6).bind fun q16 =>
  (fX6_init q16.1 q16.2).bind fun h17 =>
  (pR h17 0 x0 9 q16.1).bind fun h18 =>
  (zala h18 14 (nI 8)).bind fun q19 =>
  (pR q19.2 0 x0 11 q19.1).bind fun h20 =>
  (zala h20 14 (nI 8)).bind fun q21 =>
  (pR q21.2 0 x0 12 q21.1).bind fun h22 =>
  (zal h22 1 1).bind fun q23 =>
  (fX1_init q23.1 q23.2).bind fun h24 =>
  (pR h24 0 x0 13 q23.1).bind fun h25 =>
  some h25) else none
theorem kX0_init {x0 : Nat} {h : ZH} {x : ZH} (e : fX0_init x0 h = some x) : x0 < zn h ∧ zK h x0 = 0 := by
  unfold fX0_init at e
  exact zguard e
theorem mX0_init (b0 : Nat) (x0 : Nat) (h : ZH) : ZM zv b0 YX0_init 3 [.ref (b0 + x0)] h (fX0_init x0 h) := by
  unfold fX0_init
  refine ZM.of (by decide) rfl (Nat.le_of_ble_eq_true rfl) (fun _ => trivial) ?_
  refine z_sub (lv2 := [(0, .ref (b0 + x0))]) [0] rfl ?_
  refine z_guard (fun _ => ?_)
  refine z_aload_n 1 0 dX0_init_0 rfl rfl ?_
  refine z_objInit 4 w_138 wm_Lib_objectInit wc_Lib_objectInit (Nat.le_of_ble_eq_true rfl) (Nat.le_of_ble_eq_true rfl) dX0_init_1 rfl ?_
  refine z_aload_n 5 0 dX0_init_4 rfl rfl ?_
  refine z_sipush (nI 256) 8 zks_256 dX0_init_5 rfl ?_
  refine z_newA_boolean 10 wa_boolean dX0_init_8 rfl (fun q1 => ?_)
  refine z_putF 13 zC0 (Nat.le_of_ble_eq_true rfl) rfl rfl rfl rfl rfl (Or.inl ⟨_, rfl⟩) w_143 dX0_init_10 rfl (fun h2 _ => ?_)
  refine z_aload_n 14 0 dX0_init_13 rfl rfl ?_
  refine z_sipush (nI 256) 17 zks_256 dX0_init_14 rfl ?_
  refine z_newA_boolean 19 wa_boolean dX0_init_17 rfl (fun q3 => ?_)
  refine z_putF 22 zC0 (Nat.le_of_ble_eq_true rfl) rfl rfl rfl rfl rfl (Or.inl ⟨_, rfl⟩) w_144 dX0_init_19 rfl (fun h4 _ => ?_)
  refine z_aload_n 23 0 dX0_init_22 rfl rfl ?_
  refine z_sipush (nI 256) 26 zks_256 dX0_init_23 rfl ?_
  refine z_newA_int 28 wa_int dX0_init_26 rfl (fun q5 => ?_)
  refine z_putF 31 zC0 (Nat.le_of_ble_eq_true rfl) rfl rfl rfl rfl rfl (Or.inl ⟨_, rfl⟩) w_145 dX0_init_28 rfl (fun h6 _ => ?_)
  refine z_aload_n 32 0 dX0_init_31 rfl rfl ?_
  refine z_sipush (nI 256) 35 zks_256 dX0_init_32 rfl ?_
  refine z_newA_int 37 wa_int dX0_init_35 rfl (fun q7 => ?_)
  refine z_putF 40 zC0 (Nat.le_of_ble_eq_true rfl) rfl rfl rfl rfl rfl (Or.inl ⟨_, rfl⟩) w_147 dX0_init_37 rfl (fun h8 _ => ?_)
  refine z_aload_n 41 0 dX0_init_40 rfl rfl ?_
  refine z_sipush (nI 256) 44 zks_256 dX0_init_41 rfl ?_
  refine z_newA_int 46 wa_int dX0_init_44 rfl (fun q9 => ?_)
  refine z_putF 49 zC0 (Nat.le_of_ble_eq_true rfl) rfl rfl rfl rfl rfl (Or.inl ⟨_, rfl⟩) w_148 dX0_init_46 rfl (fun h10 _ => ?_)
  refine z_aload_n 50 0 dX0_init_49 rfl rfl ?_
  refine z_bipush (nI 8) 52 zkb_8 dX0_init_50 rfl ?_
  refine z_newA_int 54 wa_int dX0_init_52 rfl (fun q11 => ?_)
  refine z_putF 57 zC0 (Nat.le_of_ble_eq_true rfl) rfl rfl rfl rfl rfl (Or.inl ⟨_, rfl⟩) w_149 dX0_init_54 rfl (fun h12 _ => ?_)
  refine z_aload_n 58 0 dX0_init_57 rfl rfl ?_
  refine z_newO 61 zC1 zdf1 w_139 wn_1 wi_RX1 dX0_init_58 rfl (fun q13 => ?_)
  refine z_dup 62 rfl dX0_init_61 rfl ?_
  refine z_callINv 65 (mX1_init b0 q13.1 q13.2) zyX1_init rfl (List.mem_of_getElem? (i := 6) rfl) rfl rfl wm_yX1_init (Nat.le_of_ble_eq_true rfl) rfl (Nat.le_of_ble_eq_true rfl) dX0_init_62 rfl (fun h14 => ?_)
  refine z_putF 68 zC0 (Nat.le_of_ble_eq_true rfl) rfl rfl rfl rfl rfl (Or.inr ⟨_, rfl⟩) w_151 dX0_init_65 rfl (fun h15 _ => ?_)
  refine z_aload_n 69 0 dX0_init_68 rfl rfl ?_
  refine z_newO 72 zC6 zdf6 w_141 wn_6 wi_RX6 dX0_init_69 rfl (fun q16 => ?_)
  refine z_dup 73 rfl dX0_init_72 rfl ?_
  refine z_callINv 76 (mX6_init b0 q16.1 q16.2) zyX6_init rfl (List.mem_of_getElem? (i := 7) rfl) rfl rfl wm_yX6_init (Nat.le_of_ble_eq_true rfl) rfl (Nat.le_of_ble_eq_true rfl) dX0_init_73 rfl (fun h17 => ?_)
  refine z_putF 79 zC0 (Nat.le_of_ble_eq_true rfl) rfl rfl rfl rfl rfl (Or.inr ⟨_, rfl⟩) w_152 dX0_init_76 rfl (fun h18 _ => ?_)
  refine z_aload_n 80 0 dX0_init_79 rfl rfl ?_
  refine z_bipush (nI 8) 82 zkb_8 dX0_init_80 rfl ?_
  refine z_newA_int 84 wa_int dX0_init_82 rfl (fun q19 => ?_)
  refine z_putF 87 zC0 (Nat.le_of_ble_eq_true rfl) rfl rfl rfl rfl rfl (Or.inl ⟨_, rfl⟩) w_154 dX0_init_84 rfl (fun h20 _ => ?_)
  refine z_aload_n 88 0 dX0_init_87 rfl rfl ?_
  refine z_bipush (nI 8) 90 zkb_8 dX0_init_88 rfl ?_
  refine z_newA_int 92 wa_int dX0_init_90 rfl (fun q21 => ?_)
  refine z_putF 95 zC0 (Nat.le_of_ble_eq_true rfl) rfl rfl rfl rfl rfl (Or.inl ⟨_, rfl⟩) w_155 dX0_init_92 rfl (fun h22 _ => ?_)
  refine z_aload_n 96 0 dX0_init_95 rfl rfl ?_
  refine z_newO 99 zC1 zdf1 w_139 wn_1 wi_RX1 dX0_init_96 rfl (fun q23 => ?_)
  refine z_dup 100 rfl dX0_init_99 rfl ?_
  refine z_callINv 103 (mX1_init b0 q23.1 q23.2) zyX1_init rfl (List.mem_of_getElem? (i := 6) rfl) rfl rfl wm_yX1_init (Nat.le_of_ble_eq_true rfl) rfl (Nat.le_of_ble_eq_true rfl) dX0_init_100 rfl (fun h24 => ?_)
  refine z_putF 106 zC0 (Nat.le_of_ble_eq_true rfl) rfl rfl rfl rfl rfl (Or.inr ⟨_, rfl⟩) w_156 dX0_init_103 rfl (fun h25 _ => ?_)
  exact z_return dX0_init_106 rfl
-- X0_clearAll
def kX0_clearAll_2 (x0 : Nat) (self2 : Int32 × ZH → Option (ZH)) (x1 : Int32) (h : ZH) : Option (ZH) :=
  (zlen h x0).bind fun v1 =>
  if v1 ≤ x1 then (some h) else
  ((sI h 16 x0 x1 (nI 0)).bind fun h3 =>
  self2 ((x1 + (nI 1)), h3))
def lX0_clearAll_2 (x0 : Nat) : (Int32 × ZH → Option (ZH)) → Int32 × ZH → Option (ZH) := fun self s => kX0_clearAll_2 x0 self s.1 s.2
theorem KX0_clearAll_2 (b0 : Nat) (x0 : Nat) (self2 : Int32 × ZH → Option (ZH)) (hself2 : ∀ (y1 : Int32) (hh : ZH), Zr zv b0 YX0_clearAll 1 2 [(0, .ref (b0 + x0)), (1, .int y1)] [] hh (self2 (y1, hh))) (x1 : Int32) (h : ZH) : Zr zv b0 YX0_clearAll 1 2 [(0, .ref (b0 + x0)), (1, .int x1)] [] h (kX0_clearAll_2 x0 self2 x1 h) := by
  unfold kX0_clearAll_2
  refine z_iload_n 3 1 dX0_clearAll_2 rfl rfl ?_
  refine z_aload_n 4 0 dX0_clearAll_3 rfl rfl ?_
  refine z_alen 5 dX0_clearAll_4 rfl (fun v1 _ => ?_)
  refine z_icmp_ge 18 8 dX0_clearAll_5 (by decide) rfl (fun c2 => ?_) (fun c2 => ?_)
  · exact z_return dX0_clearAll_18 rfl
  · refine z_aload_n 9 0 dX0_clearAll_8 rfl rfl ?_
    refine z_iload_n 10 1 dX0_clearAll_9 rfl rfl ?_
    refine z_iconst (nI 0) 11 zki_0 dX0_clearAll_10 rfl ?_
    refine z_zastore 12 dX0_clearAll_11 rfl (fun h3 _ => ?_)
    refine z_iinc (lv2 := [(1, .int (x1 + (nI 1))), (0, .ref (b0 + x0))]) (nI 1) 15 1 dX0_clearAll_12 rfl rfl zki_1 (Nat.le_of_ble_eq_true rfl) rfl ?_
    refine z_goto 2 dX0_clearAll_15 (by decide) ?_
    exact z_sub [1, 0] rfl (hself2 (x1 + (nI 1)) h3)
theorem BX0_clearAll_2 (b0 : Nat) (x0 : Nat) (n : Nat) (x1 : Int32) (h : ZH) : Zr zv b0 YX0_clearAll 1 2 [(0, .ref (b0 + x0)), (1, .int x1)] [] h (zloop (lX0_clearAll_2 x0) n (x1, h)) :=
  zloop_Zr (fun s => [(0, .ref (b0 + x0)), (1, .int s.1)]) (fun _ => []) (fun s => s.2) (lX0_clearAll_2 x0) (fun self hs s => KX0_clearAll_2 b0 x0 self (fun y1 hh => hs (y1, hh)) s.1 s.2) n (x1, h)
def fX0_clearAll (x0 : Nat) (h : ZH) : Option (ZH) :=
  zloop (lX0_clearAll_2 x0) zfu ((nI 0), h)
theorem mX0_clearAll (b0 : Nat) (x0 : Nat) (h : ZH) : ZM zv b0 YX0_clearAll 1 [.ref (b0 + x0)] h (fX0_clearAll x0 h) := by
  unfold fX0_clearAll
  refine ZM.of (by decide) rfl (Nat.le_of_ble_eq_true rfl) (fun _ => trivial) ?_
  refine z_sub (lv2 := [(0, .ref (b0 + x0))]) [0] rfl ?_
  refine z_iconst (nI 0) 1 zki_0 dX0_clearAll_0 rfl ?_
  refine z_istore_n (lv2 := [(1, .int (nI 0)), (0, .ref (b0 + x0))]) 2 dX0_clearAll_1 rfl (Nat.le_of_ble_eq_true rfl) rfl ?_
  exact z_sub [1, 0] rfl (BX0_clearAll_2 b0 x0 zfu (nI 0) h)
-- X10_isWithin
def bX10_isWithin_15 (t0 : Int32) (h : ZH) : Option (Int32 × ZH) :=
  if t0 = 0 ∨ t0 = 1 then some (t0, h) else none
theorem BX10_isWithin_15 (b0 : Nat) (t0 : Int32) (h : ZH) : Zr zi b0 YX10_isWithin 1 15 [] [.int t0] h (bX10_isWithin_15 t0 h) := by
  unfold bX10_isWithin_15
  exact z_zreturn dX10_isWithin_15 rfl
def bX10_isWithin_14 (h : ZH) : Option (Int32 × ZH) :=
  bX10_isWithin_15 (nI 0) h
theorem BX10_isWithin_14 (b0 : Nat) (h : ZH) : Zr zi b0 YX10_isWithin 1 14 [] [] h (bX10_isWithin_14 h) := by
  unfold bX10_isWithin_14
  refine z_iconst (nI 0) 15 zki_0 dX10_isWithin_14 rfl ?_
  exact z_sub [] rfl (BX10_isWithin_15 b0 (nI 0) h )
def fX10_isWithin (x0 : Int32) (x1 : Int32) (x2 : Int32) (h : ZH) : Option (Int32 × ZH) :=
  if x0 < x1 then (bX10_isWithin_14 h) else
  (if x2 < x0 then (bX10_isWithin_14 h) else
  (bX10_isWithin_15 (nI 1) h))
theorem mX10_isWithin (b0 : Nat) (x0 : Int32) (x1 : Int32) (x2 : Int32) (h : ZH) : ZM zi b0 YX10_isWithin 1 [.int x0, .int x1, .int x2] h (fX10_isWithin x0 x1 x2 h) := by
  unfold fX10_isWithin
  refine ZM.of (by decide) rfl (Nat.le_of_ble_eq_true rfl) (fun _ => trivial) ?_
  refine z_sub (lv2 := [(0, .int x0), (1, .int x1), (2, .int x2)]) [0, 1, 2] rfl ?_
  refine z_iload_n 1 0 dX10_isWithin_0 rfl rfl ?_
  refine z_iload_n 2 1 dX10_isWithin_1 rfl rfl ?_
  refine z_icmp_lt 14 5 dX10_isWithin_2 (by decide) rfl (fun c1 => ?_) (fun c1 => ?_)
  · exact z_sub [] rfl (BX10_isWithin_14 b0 h )
  · refine z_iload_n 6 0 dX10_isWithin_5 rfl rfl ?_
    refine z_iload_n 7 2 dX10_isWithin_6 rfl rfl ?_
    refine z_icmp_gt 14 10 dX10_isWithin_7 (by decide) rfl (fun c2 => ?_) (fun c2 => ?_)
    · exact z_sub [] rfl (BX10_isWithin_14 b0 h )
    · refine z_iconst (nI 1) 11 zki_1 dX10_isWithin_10 rfl ?_
      refine z_goto 15 dX10_isWithin_11 (by decide) ?_
      exact z_sub [] rfl (BX10_isWithin_15 b0 (nI 1) h )
-- X0_collect
def bX0_collect_61 (h : ZH) : Option (ZH) :=
  some h
theorem BX0_collect_61 (b0 : Nat) (h : ZH) : Zr zv b0 YX0_collect 2 61 [] [] h (bX0_collect_61 h) := by
  unfold bX0_collect_61
  exact z_return dX0_collect_61 rfl
def fX0_collect (x0 : Nat) (x1 : Int32) (h : ZH) : Option (ZH) :=
  if x0 < zn h ∧ zK h x0 = 0 then ((fX10_isWithin x1 (nI 0) (nI 254) h).bind fun q1 =>
  if q1.1 = 0 then (bX0_collect_61 q1.2) else
  ((gR q1.2 0 x0 0).bind fun v3 =>
  (lI q1.2 16 v3 x1).bind fun v4 =>
  if v4 = 0 then ((gI q1.2 0 x0 3).bind fun v6 =>
  (fX10_isWithin v6 (nI 0) (nI 254) q1.2).bind fun q7 =>
  if q7.1 = 0 then (bX0_collect_61 q7.2) else
  ((gR q7.2 0 x0 0).bind fun v9 =>
  (sI q7.2 16 v9 x1 (nI 1)).bind fun h10 =>
  (gR h10 0 x0 2).bind fun v11 =>
  (gI h10 0 x0 3).bind fun v12 =>
  (sI h10 14 v11 v12 x1).bind fun h13 =>
  (gI h13 0 x0 3).bind fun v14 =>
  (pI h13 0 x0 3 (v14 + (nI 1))).bind fun h15 =>
  bX0_collect_61 h15)) else
  (bX0_collect_61 q1.2))) else none
theorem kX0_collect {x0 : Nat} {x1 : Int32} {h : ZH} {x : ZH} (e : fX0_collect x0 x1 h = some x) : x0 < zn h ∧ zK h x0 = 0 := by
  unfold fX0_collect at e
  exact zguard e
theorem mX0_collect (b0 : Nat) (x0 : Nat) (x1 : Int32) (h : ZH) : ZM zv b0 YX0_collect 2 [.ref (b0 + x0), .int x1] h (fX0_collect x0 x1 h) := by
  unfold fX0_collect
  refine ZM.of (by decide) rfl (Nat.le_of_ble_eq_true rfl) (fun _ => trivial) ?_
  refine z_sub (lv2 := [(0, .ref (b0 + x0)), (1, .int x1)]) [0, 1] rfl ?_
  refine z_guard (fun _ => ?_)
  refine z_iload_n 1 1 dX0_collect_0 rfl rfl ?_
  refine z_iconst (nI 0) 2 zki_0 dX0_collect_1 rfl ?_
  refine z_sipush (nI 254) 5 zks_254 dX0_collect_2 rfl ?_
  refine z_callSNi 8 (mX10_isWithin b0 x1 (nI 0) (nI 254) h) zyX10_isWithin rfl (List.mem_of_getElem? (i := 16) rfl) wt_yX10_isWithin (Nat.le_of_ble_eq_true rfl) rfl (Nat.le_of_ble_eq_true rfl) dX0_collect_5 rfl (fun q1 => ?_)
  refine z_if_eq 61 11 dX0_collect_8 (by decide) rfl (fun c2 => ?_) (fun c2 => ?_)
  · exact z_sub [] rfl (BX0_collect_61 b0 q1.2 )
  · refine z_aload_n 12 0 dX0_collect_11 rfl rfl ?_
    refine z_getR 15 zC0 (Nat.le_of_ble_eq_true rfl) rfl w_143 dX0_collect_12 rfl (fun v3 _ => ?_)
    refine z_iload_n 16 1 dX0_collect_15 rfl rfl ?_
    refine z_zaload 17 dX0_collect_16 rfl (fun v4 _ => ?_)
    refine z_if_ne 61 20 dX0_collect_17 (by decide) rfl (fun c5 => ?_) (fun c5 => ?_)
    · exact z_sub [] rfl (BX0_collect_61 b0 q1.2 )
    · refine z_aload_n 21 0 dX0_collect_20 rfl rfl ?_
      refine z_getI 24 zC0 (Nat.le_of_ble_eq_true rfl) rfl w_146 dX0_collect_21 rfl (fun v6 _ => ?_)
      refine z_iconst (nI 0) 25 zki_0 dX0_collect_24 rfl ?_
      refine z_sipush (nI 254) 28 zks_254 dX0_collect_25 rfl ?_
      refine z_callSNi 31 (mX10_isWithin b0 v6 (nI 0) (nI 254) q1.2) zyX10_isWithin rfl (List.mem_of_getElem? (i := 16) rfl) wt_yX10_isWithin (Nat.le_of_ble_eq_true rfl) rfl (Nat.le_of_ble_eq_true rfl) dX0_collect_28 rfl (fun q7 => ?_)
      refine z_if_eq 61 34 dX0_collect_31 (by decide) rfl (fun c8 => ?_) (fun c8 => ?_)
      · exact z_sub [] rfl (BX0_collect_61 b0 q7.2 )
      · refine z_aload_n 35 0 dX0_collect_34 rfl rfl ?_
        refine z_getR 38 zC0 (Nat.le_of_ble_eq_true rfl) rfl w_143 dX0_collect_35 rfl (fun v9 _ => ?_)
        refine z_iload_n 39 1 dX0_collect_38 rfl rfl ?_
        refine z_iconst (nI 1) 40 zki_1 dX0_collect_39 rfl ?_
        refine z_zastore 41 dX0_collect_40 rfl (fun h10 _ => ?_)
        refine z_aload_n 42 0 dX0_collect_41 rfl rfl ?_
        refine z_getR 45 zC0 (Nat.le_of_ble_eq_true rfl) rfl w_145 dX0_collect_42 rfl (fun v11 _ => ?_)
        refine z_aload_n 46 0 dX0_collect_45 rfl rfl ?_
        refine z_getI 49 zC0 (Nat.le_of_ble_eq_true rfl) rfl w_146 dX0_collect_46 rfl (fun v12 _ => ?_)
        refine z_iload_n 50 1 dX0_collect_49 rfl rfl ?_
        refine z_iastore 51 dX0_collect_50 rfl (fun h13 _ => ?_)
        refine z_aload_n 52 0 dX0_collect_51 rfl rfl ?_
        refine z_dup 53 rfl dX0_collect_52 rfl ?_
        refine z_getI 56 zC0 (Nat.le_of_ble_eq_true rfl) rfl w_146 dX0_collect_53 rfl (fun v14 _ => ?_)
        refine z_iconst (nI 1) 57 zki_1 dX0_collect_56 rfl ?_
        refine z_iadd 58 dX0_collect_57 rfl ?_
        refine z_putI 61 zC0 (Nat.le_of_ble_eq_true rfl) rfl rfl rfl w_146 dX0_collect_58 rfl (fun h15 _ => ?_)
        exact z_sub [] rfl (BX0_collect_61 b0 h15 )
-- X6_after
def bX6_after_54 (t0 : Int32) (h : ZH) : Option (Int32 × ZH) :=
  some (t0, h)
theorem BX6_after_54 (b0 : Nat) (t0 : Int32) (h : ZH) : Zr zi b0 YX6_after 1 54 [] [.int t0] h (bX6_after_54 t0 h) := by
  unfold bX6_after_54
  exact z_ireturn dX6_after_54 rfl
def bX6_after_33 (x0 : Nat) (x1 : Int32) (x2 : Int32) (t0 : Int32) (h : ZH) : Option (Int32 × ZH) :=
  if t0 = 0 then (bX6_after_54 (nI 255) h) else
  ((gR h 6 x0 2).bind fun v2 =>
  (lI h 14 v2 (((nI 4) * x1) + x2)).bind fun v3 =>
  bX6_after_54 v3 h)
theorem BX6_after_33 (b0 : Nat) (x0 : Nat) (x1 : Int32) (x2 : Int32) (t0 : Int32) (h : ZH) : Zr zi b0 YX6_after 1 33 [(0, .ref (b0 + x0)), (1, .int x1), (2, .int x2)] [.int t0] h (bX6_after_33 x0 x1 x2 t0 h) := by
  unfold bX6_after_33
  refine z_istore_n (lv2 := [(3, .int t0), (0, .ref (b0 + x0)), (1, .int x1), (2, .int x2)]) 34 dX6_after_33 rfl (Nat.le_of_ble_eq_true rfl) rfl ?_
  refine z_iload_n 35 0 dX6_after_34 rfl rfl ?_
  refine z_if_eq 51 38 dX6_after_35 (by decide) rfl (fun c1 => ?_) (fun c1 => ?_)
  · refine z_sipush (nI 255) 54 zks_255 dX6_after_51 rfl ?_
    exact z_sub [] rfl (BX6_after_54 b0 (nI 255) h )
  · refine z_aload_n 39 1 dX6_after_38 rfl rfl ?_
    refine z_getR 42 zC6 (Nat.le_of_ble_eq_true rfl) rfl w_83 dX6_after_39 rfl (fun v2 _ => ?_)
    refine z_iconst (nI 4) 43 zki_4 dX6_after_42 rfl ?_
    refine z_iload_n 44 2 dX6_after_43 rfl rfl ?_
    refine z_imul 45 dX6_after_44 rfl ?_
    refine z_iload_n 46 3 dX6_after_45 rfl rfl ?_
    refine z_iadd 47 dX6_after_46 rfl ?_
    refine z_iaload 48 dX6_after_47 rfl (fun v3 _ => ?_)
    refine z_goto 54 dX6_after_48 (by decide) ?_
    exact z_sub [] rfl (BX6_after_54 b0 v3 h )
def bX6_after_32 (x0 : Nat) (x1 : Int32) (x2 : Int32) (h : ZH) : Option (Int32 × ZH) :=
  bX6_after_33 x0 x1 x2 (nI 0) h
theorem BX6_after_32 (b0 : Nat) (x0 : Nat) (x1 : Int32) (x2 : Int32) (h : ZH) : Zr zi b0 YX6_after 1 32 [(0, .ref (b0 + x0)), (1, .int x1), (2, .int x2)] [] h (bX6_after_32 x0 x1 x2 h) := by
  unfold bX6_after_32
  refine z_iconst (nI 0) 33 zki_0 dX6_after_32 rfl ?_
  exact z_sub [0, 1, 2] rfl (BX6_after_33 b0 x0 x1 x2 (nI 0) h )
def fX6_after (x0 : Nat) (x1 : Int32) (x2 : Int32) (h : ZH) : Option (Int32 × ZH) :=
  if x0 < zn h ∧ zK h x0 = 6 then (if x1 < 0 then (bX6_after_32 x0 x1 x2 h) else
  ((gI h 6 x0 5).bind fun v2 =>
  if v2 ≤ x1 then (bX6_after_32 x0 x1 x2 h) else
  (if (nI 255) ≤ x1 then (bX6_after_32 x0 x1 x2 h) else
  (if x2 < 0 then (bX6_after_32 x0 x1 x2 h) else
  (if (nI 4) ≤ x2 then (bX6_after_32 x0 x1 x2 h) else
  (bX6_after_33 x0 x1 x2 (nI 1) h)))))) else none
theorem kX6_after {x0 : Nat} {x1 : Int32} {x2 : Int32} {h : ZH} {x : Int32 × ZH} (e : fX6_after x0 x1 x2 h = some x) : x0 < zn h ∧ zK h x0 = 6 := by
  unfold fX6_after at e
  exact zguard e
theorem mX6_after (b0 : Nat) (x0 : Nat) (x1 : Int32) (x2 : Int32) (h : ZH) : ZM zi b0 YX6_after 1 [.ref (b0 + x0), .int x1, .int x2] h (fX6_after x0 x1 x2 h) := by
  unfold fX6_after
  refine ZM.of (by decide) rfl (Nat.le_of_ble_eq_true rfl) (fun _ => trivial) ?_
  refine z_sub (lv2 := [(0, .ref (b0 + x0)), (1, .int x1), (2, .int x2)]) [0, 1, 2] rfl ?_
  refine z_guard (fun _ => ?_)
  refine z_iload_n 1 1 dX6_after_0 rfl rfl ?_
  refine z_if_lt 32 4 dX6_after_1 (by decide) rfl (fun c1 => ?_) (fun c1 => ?_)
  · exact z_sub [0, 1, 2] rfl (BX6_after_32 b0 x0 x1 x2 h )
  · refine z_iload_n 5 1 dX6_after_4 rfl rfl ?_
    refine z_aload_n 6 0 dX6_after_5 rfl rfl ?_
    refine z_getI 9 zC6 (Nat.le_of_ble_eq_true rfl) rfl w_86 dX6_after_6 rfl (fun v2 _ => ?_)
    refine z_icmp_ge 32 12 dX6_after_9 (by decide) rfl (fun c3 => ?_) (fun c3 => ?_)
    · exact z_sub [0, 1, 2] rfl (BX6_after_32 b0 x0 x1 x2 h )
    · refine z_iload_n 13 1 dX6_after_12 rfl rfl ?_
      refine z_sipush (nI 255) 16 zks_255 dX6_after_13 rfl ?_
      refine z_icmp_ge 32 19 dX6_after_16 (by decide) rfl (fun c4 => ?_) (fun c4 => ?_)
      · exact z_sub [0, 1, 2] rfl (BX6_after_32 b0 x0 x1 x2 h )
      · refine z_iload_n 20 2 dX6_after_19 rfl rfl ?_
        refine z_if_lt 32 23 dX6_after_20 (by decide) rfl (fun c5 => ?_) (fun c5 => ?_)
        · exact z_sub [0, 1, 2] rfl (BX6_after_32 b0 x0 x1 x2 h )
        · refine z_iload_n 24 2 dX6_after_23 rfl rfl ?_
          refine z_iconst (nI 4) 25 zki_4 dX6_after_24 rfl ?_
          refine z_icmp_ge 32 28 dX6_after_25 (by decide) rfl (fun c6 => ?_) (fun c6 => ?_)
          · exact z_sub [0, 1, 2] rfl (BX6_after_32 b0 x0 x1 x2 h )
          · refine z_iconst (nI 1) 29 zki_1 dX6_after_28 rfl ?_
            refine z_goto 33 dX6_after_29 (by decide) ?_
            exact z_sub [0, 1, 2] rfl (BX6_after_33 b0 x0 x1 x2 (nI 1) h )
-- X0_collectFrom
def bX0_collectFrom_71 (h : ZH) : Option (ZH) :=
  some h
theorem BX0_collectFrom_71 (b0 : Nat) (h : ZH) : Zr zv b0 YX0_collectFrom 3 71 [] [] h (bX0_collectFrom_71 h) := by
  unfold bX0_collectFrom_71
  exact z_return dX0_collectFrom_71 rfl
def kX0_collectFrom_37 (self19 : Int32 × ZH → Option (ZH)) (x0 : Nat) (x1 : Nat) (x3 : Int32) (self37 : Int32 × ZH → Option (ZH)) (x4 : Int32) (h : ZH) : Option (ZH) :=
  if (nI 4) ≤ x4 then (self19 ((x3 + (nI 1)), h)) else
  ((gR h 0 x0 2).bind fun v2 =>
  (lI h 14 v2 x3).bind fun v3 =>
  (fX6_after x1 v3 x4 h).bind fun q4 =>
  (fX0_collect x0 q4.1 q4.2).bind fun h5 =>
  self37 ((x4 + (nI 1)), h5))
def lX0_collectFrom_37 (self19 : Int32 × ZH → Option (ZH)) (x0 : Nat) (x1 : Nat) (x3 : Int32) : (Int32 × ZH → Option (ZH)) → Int32 × ZH → Option (ZH) := fun self s => kX0_collectFrom_37 self19 x0 x1 x3 self s.1 s.2
theorem KX0_collectFrom_37 (b0 : Nat) (self19 : Int32 × ZH → Option (ZH)) (x0 : Nat) (x1 : Nat) (x3 : Int32) (hself19 : ∀ (y3 : Int32) (hh : ZH), Zr zv b0 YX0_collectFrom 3 19 [(0, .ref (b0 + x0)), (1, .ref (b0 + x1)), (3, .int y3)] [] hh (self19 (y3, hh))) (self37 : Int32 × ZH → Option (ZH)) (hself37 : ∀ (y4 : Int32) (hh : ZH), Zr zv b0 YX0_collectFrom 3 37 [(0, .ref (b0 + x0)), (1, .ref (b0 + x1)), (3, .int x3), (4, .int y4)] [] hh (self37 (y4, hh))) (x4 : Int32) (h : ZH) : Zr zv b0 YX0_collectFrom 3 37 [(0, .ref (b0 + x0)), (1, .ref (b0 + x1)), (3, .int x3), (4, .int x4)] [] h (kX0_collectFrom_37 self19 x0 x1 x3 self37 x4 h) := by
  unfold kX0_collectFrom_37
  refine z_iload 39 3 dX0_collectFrom_37 rfl rfl ?_
  refine z_iconst (nI 4) 40 zki_4 dX0_collectFrom_39 rfl ?_
  refine z_icmp_ge 65 43 dX0_collectFrom_40 (by decide) rfl (fun c1 => ?_) (fun c1 => ?_)
  · refine z_iinc (lv2 := [(3, .int (x3 + (nI 1))), (0, .ref (b0 + x0)), (1, .ref (b0 + x1)), (4, .int x4)]) (nI 1) 68 2 dX0_collectFrom_65 rfl rfl zki_1 (Nat.le_of_ble_eq_true rfl) rfl ?_
    refine z_goto 19 dX0_collectFrom_68 (by decide) ?_
    exact z_sub [1, 2, 0] rfl (hself19 (x3 + (nI 1)) h)
  · refine z_aload_n 44 0 dX0_collectFrom_43 rfl rfl ?_
    refine z_aload_n 45 1 dX0_collectFrom_44 rfl rfl ?_
    refine z_aload_n 46 0 dX0_collectFrom_45 rfl rfl ?_
    refine z_getR 49 zC0 (Nat.le_of_ble_eq_true rfl) rfl w_145 dX0_collectFrom_46 rfl (fun v2 _ => ?_)
    refine z_iload_n 50 2 dX0_collectFrom_49 rfl rfl ?_
    refine z_iaload 51 dX0_collectFrom_50 rfl (fun v3 _ => ?_)
    refine z_iload 53 3 dX0_collectFrom_51 rfl rfl ?_
    refine z_callVi 56 (mX6_after b0 x1 v3 x4 h) zyX6_after rfl w_660 (ci := 6) rfl (Nat.le_of_ble_eq_true rfl) (fun _ e9 => kX6_after e9) wm_yX6_after ws_yX6_after (Nat.le_of_ble_eq_true rfl) rfl (Nat.le_of_ble_eq_true rfl) dX0_collectFrom_53 rfl (fun q4 => ?_)
    refine z_callVv 59 (mX0_collect b0 x0 q4.1 q4.2) zyX0_collect rfl w_655 (ci := 0) rfl (Nat.le_of_ble_eq_true rfl) (fun _ e9 => kX0_collect e9) wm_yX0_collect ws_yX0_collect (Nat.le_of_ble_eq_true rfl) rfl (Nat.le_of_ble_eq_true rfl) dX0_collectFrom_56 rfl (fun h5 => ?_)
    refine z_iinc (lv2 := [(4, .int (x4 + (nI 1))), (0, .ref (b0 + x0)), (1, .ref (b0 + x1)), (3, .int x3)]) (nI 1) 62 3 dX0_collectFrom_59 rfl rfl zki_1 (Nat.le_of_ble_eq_true rfl) rfl ?_
    refine z_goto 37 dX0_collectFrom_62 (by decide) ?_
    exact z_sub [1, 2, 3, 0] rfl (hself37 (x4 + (nI 1)) h5)
theorem BX0_collectFrom_37 (b0 : Nat) (self19 : Int32 × ZH → Option (ZH)) (x0 : Nat) (x1 : Nat) (x3 : Int32) (hself19 : ∀ (y3 : Int32) (hh : ZH), Zr zv b0 YX0_collectFrom 3 19 [(0, .ref (b0 + x0)), (1, .ref (b0 + x1)), (3, .int y3)] [] hh (self19 (y3, hh))) (n : Nat) (x4 : Int32) (h : ZH) : Zr zv b0 YX0_collectFrom 3 37 [(0, .ref (b0 + x0)), (1, .ref (b0 + x1)), (3, .int x3), (4, .int x4)] [] h (zloop (lX0_collectFrom_37 self19 x0 x1 x3) n (x4, h)) :=
  zloop_Zr (fun s => [(0, .ref (b0 + x0)), (1, .ref (b0 + x1)), (3, .int x3), (4, .int s.1)]) (fun _ => []) (fun s => s.2) (lX0_collectFrom_37 self19 x0 x1 x3) (fun self hs s => KX0_collectFrom_37 b0 self19 x0 x1 x3 hself19 self (fun y4 hh => hs (y4, hh)) s.1 s.2) n (x4, h)
def kX0_collectFrom_19 (x0 : Nat) (x1 : Nat) (self19 : Int32 × ZH → Option (ZH)) (x3 : Int32) (h : ZH) : Option (ZH) :=
  (gI h 0 x0 3).bind fun v1 =>
  if v1 ≤ x3 then (bX0_collectFrom_71 h) else
  (if (nI 255) ≤ x3 then (bX0_collectFrom_71 h) else
  (zloop (lX0_collectFrom_37 self19 x0 x1 x3) zfu ((nI 0), h)))
def lX0_collectFrom_19 (x0 : Nat) (x1 : Nat) : (Int32 × ZH → Option (ZH)) → Int32 × ZH → Option (ZH) := fun self s => kX0_collectFrom_19 x0 x1 self s.1 s.2
theorem KX0_collectFrom_19 (b0 : Nat) (x0 : Nat) (x1 : Nat) (self19 : Int32 × ZH → Option (ZH)) (hself19 : ∀ (y3 : Int32) (hh : ZH), Zr zv b0 YX0_collectFrom 3 19 [(0, .ref (b0 + x0)), (1, .ref (b0 + x1)), (3, .int y3)] [] hh (self19 (y3, hh))) (x3 : Int32) (h : ZH) : Zr zv b0 YX0_collectFrom 3 19 [(0, .ref (b0 + x0)), (1, .ref (b0 + x1)), (3, .int x3)] [] h (kX0_collectFrom_19 x0 x1 self19 x3 h) := by
  unfold kX0_collectFrom_19
  refine z_iload_n 20 2 dX0_collectFrom_19 rfl rfl ?_
  refine z_aload_n 21 0 dX0_collectFrom_20 rfl rfl ?_
  refine z_getI 24 zC0 (Nat.le_of_ble_eq_true rfl) rfl w_146 dX0_collectFrom_21 rfl (fun v1 _ => ?_)
  refine z_icmp_ge 71 27 dX0_collectFrom_24 (by decide) rfl (fun c2 => ?_) (fun c2 => ?_)
  · exact z_sub [] rfl (BX0_collectFrom_71 b0 h )
  · refine z_iload_n 28 2 dX0_collectFrom_27 rfl rfl ?_
    refine z_sipush (nI 255) 31 zks_255 dX0_collectFrom_28 rfl ?_
    refine z_icmp_ge 71 34 dX0_collectFrom_31 (by decide) rfl (fun c3 => ?_) (fun c3 => ?_)
    · exact z_sub [] rfl (BX0_collectFrom_71 b0 h )
    · refine z_iconst (nI 0) 35 zki_0 dX0_collectFrom_34 rfl ?_
      refine z_istore (lv2 := [(4, .int (nI 0)), (0, .ref (b0 + x0)), (1, .ref (b0 + x1)), (3, .int x3)]) 37 dX0_collectFrom_35 rfl (Nat.le_of_ble_eq_true rfl) rfl ?_
      exact z_sub [1, 2, 3, 0] rfl (BX0_collectFrom_37 b0 self19 x0 x1 x3 hself19 zfu (nI 0) h)
theorem BX0_collectFrom_19 (b0 : Nat) (x0 : Nat) (x1 : Nat) (n : Nat) (x3 : Int32) (h : ZH) : Zr zv b0 YX0_collectFrom 3 19 [(0, .ref (b0 + x0)), (1, .ref (b0 + x1)), (3, .int x3)] [] h (zloop (lX0_collectFrom_19 x0 x1) n (x3, h)) :=
  zloop_Zr (fun s => [(0, .ref (b0 + x0)), (1, .ref (b0 + x1)), (3, .int s.1)]) (fun _ => []) (fun s => s.2) (lX0_collectFrom_19 x0 x1) (fun self hs s => KX0_collectFrom_19 b0 x0 x1 self (fun y3 hh => hs (y3, hh)) s.1 s.2) n (x3, h)
def fX0_collectFrom (x0 : Nat) (x1 : Nat) (x2 : Int32) (h : ZH) : Option (ZH) :=
  if x0 < zn h ∧ zK h x0 = 0 then ((gR h 0 x0 0).bind fun v1 =>
  (fX0_clearAll v1 h).bind fun h2 =>
  (pI h2 0 x0 3 (nI 0)).bind fun h3 =>
  (fX0_collect x0 x2 h3).bind fun h4 =>
  zloop (lX0_collectFrom_19 x0 x1) zfu ((nI 0), h4)) else none
theorem kX0_collectFrom {x0 : Nat} {x1 : Nat} {x2 : Int32} {h : ZH} {x : ZH} (e : fX0_collectFrom x0 x1 x2 h = some x) : x0 < zn h ∧ zK h x0 = 0 := by
  unfold fX0_collectFrom at e
  exact zguard e
theorem mX0_collectFrom (b0 : Nat) (x0 : Nat) (x1 : Nat) (x2 : Int32) (h : ZH) : ZM zv b0 YX0_collectFrom 3 [.ref (b0 + x0), .ref (b0 + x1), .int x2] h (fX0_collectFrom x0 x1 x2 h) := by
  unfold fX0_collectFrom
  refine ZM.of (by decide) rfl (Nat.le_of_ble_eq_true rfl) (fun _ => trivial) ?_
  refine z_sub (lv2 := [(0, .ref (b0 + x0)), (1, .ref (b0 + x1)), (2, .int x2)]) [0, 1, 2] rfl ?_
  refine z_guard (fun _ => ?_)
  refine z_aload_n 1 0 dX0_collectFrom_0 rfl rfl ?_
  refine z_getR 4 zC0 (Nat.le_of_ble_eq_true rfl) rfl w_143 dX0_collectFrom_1 rfl (fun v1 _ => ?_)
  refine z_callSv 7 (mX0_clearAll b0 v1 h) zyX0_clearAll rfl w_652 wt_yX0_clearAll (Nat.le_of_ble_eq_true rfl) rfl (Nat.le_of_ble_eq_true rfl) dX0_collectFrom_4 rfl (fun h2 => ?_)
  refine z_aload_n 8 0 dX0_collectFrom_7 rfl rfl ?_
  refine z_iconst (nI 0) 9 zki_0 dX0_collectFrom_8 rfl ?_
  refine z_putI 12 zC0 (Nat.le_of_ble_eq_true rfl) rfl rfl rfl w_146 dX0_collectFrom_9 rfl (fun h3 _ => ?_)
  refine z_aload_n 13 0 dX0_collectFrom_12 rfl rfl ?_
  refine z_iload_n 14 2 dX0_collectFrom_13 rfl rfl ?_
  refine z_callVv 17 (mX0_collect b0 x0 x2 h3) zyX0_collect rfl w_655 (ci := 0) rfl (Nat.le_of_ble_eq_true rfl) (fun _ e9 => kX0_collect e9) wm_yX0_collect ws_yX0_collect (Nat.le_of_ble_eq_true rfl) rfl (Nat.le_of_ble_eq_true rfl) dX0_collectFrom_14 rfl (fun h4 => ?_)
  refine z_iconst (nI 0) 18 zki_0 dX0_collectFrom_17 rfl ?_
  refine z_istore_n (lv2 := [(3, .int (nI 0)), (0, .ref (b0 + x0)), (1, .ref (b0 + x1)), (2, .int x2)]) 19 dX0_collectFrom_18 rfl (Nat.le_of_ble_eq_true rfl) rfl ?_
  exact z_sub [1, 2, 0] rfl (BX0_collectFrom_19 b0 x0 x1 zfu (nI 0) h4)
-- X6_size
def fX6_size (x0 : Nat) (h : ZH) : Option (Int32 × ZH) :=
  if x0 < zn h ∧ zK h x0 = 6 then ((gI h 6 x0 5).bind fun v1 =>
  some (v1, h)) else none
theorem kX6_size {x0 : Nat} {h : ZH} {x : Int32 × ZH} (e : fX6_size x0 h = some x) : x0 < zn h ∧ zK h x0 = 6 := by
  unfold fX6_size at e
  exact zguard e
theorem mX6_size (b0 : Nat) (x0 : Nat) (h : ZH) : ZM zi b0 YX6_size 1 [.ref (b0 + x0)] h (fX6_size x0 h) := by
  unfold fX6_size
  refine ZM.of (by decide) rfl (Nat.le_of_ble_eq_true rfl) (fun _ => trivial) ?_
  refine z_sub (lv2 := [(0, .ref (b0 + x0))]) [0] rfl ?_
  refine z_guard (fun _ => ?_)
  refine z_aload_n 1 0 dX6_size_0 rfl rfl ?_
  refine z_getI 4 zC6 (Nat.le_of_ble_eq_true rfl) rfl w_86 dX6_size_1 rfl (fun v1 _ => ?_)
  exact z_ireturn dX6_size_4 rfl
-- X0_markMembersBeforeMarked
def bX0_markMembersBeforeMarked_93 (self15 : Int32 × Int32 × ZH → Option (Int32 × ZH)) (x0 : Nat) (x1 : Nat) (x2 : Int32) (x3 : Int32) (h : ZH) : Option (Int32 × ZH) :=
  self15 (x2, (x3 + (-1 : Int32)), h)
theorem BX0_markMembersBeforeMarked_93 (b0 : Nat) (self15 : Int32 × Int32 × ZH → Option (Int32 × ZH)) (x0 : Nat) (x1 : Nat) (x2 : Int32) (x3 : Int32) (h : ZH) (hself15 : ∀ (y2 : Int32) (y3 : Int32) (hh : ZH), Zr zi b0 YX0_markMembersBeforeMarked 2 15 [(0, .ref (b0 + x0)), (1, .ref (b0 + x1)), (2, .int y2), (3, .int y3)] [] hh (self15 (y2, y3, hh))) : Zr zi b0 YX0_markMembersBeforeMarked 2 93 [(0, .ref (b0 + x0)), (1, .ref (b0 + x1)), (2, .int x2), (3, .int x3)] [] h (bX0_markMembersBeforeMarked_93 self15 x0 x1 x2 x3 h) := by
  unfold bX0_markMembersBeforeMarked_93
  refine z_iinc (lv2 := [(3, .int (x3 + (-1 : Int32))), (0, .ref (b0 + x0)), (1, .ref (b0 + x1)), (2, .int x2)]) (-1 : Int32) 96 3 dX0_markMembersBeforeMarked_93 rfl rfl zki_m1 (Nat.le_of_ble_eq_true rfl) rfl ?_
  refine z_goto 15 dX0_markMembersBeforeMarked_96 (by decide) ?_
  exact z_sub [1, 2, 3, 0] rfl (hself15 x2 (x3 + (-1 : Int32)) h)
def bX0_markMembersBeforeMarked_87 (self15 : Int32 × Int32 × ZH → Option (Int32 × ZH)) (self22 : Int32 × Int32 × ZH → Option (Int32 × ZH)) (x0 : Nat) (x1 : Nat) (x2 : Int32) (x3 : Int32) (x4 : Int32) (h : ZH) : Option (Int32 × ZH) :=
  self22 (x2, (x4 + (nI 1)), h)
theorem BX0_markMembersBeforeMarked_87 (b0 : Nat) (self15 : Int32 × Int32 × ZH → Option (Int32 × ZH)) (self22 : Int32 × Int32 × ZH → Option (Int32 × ZH)) (x0 : Nat) (x1 : Nat) (x2 : Int32) (x3 : Int32) (x4 : Int32) (h : ZH) (hself15 : ∀ (y2 : Int32) (y3 : Int32) (hh : ZH), Zr zi b0 YX0_markMembersBeforeMarked 2 15 [(0, .ref (b0 + x0)), (1, .ref (b0 + x1)), (2, .int y2), (3, .int y3)] [] hh (self15 (y2, y3, hh))) (hself22 : ∀ (y2 : Int32) (y4 : Int32) (hh : ZH), Zr zi b0 YX0_markMembersBeforeMarked 2 22 [(0, .ref (b0 + x0)), (1, .ref (b0 + x1)), (3, .int x3), (2, .int y2), (4, .int y4)] [] hh (self22 (y2, y4, hh))) : Zr zi b0 YX0_markMembersBeforeMarked 2 87 [(0, .ref (b0 + x0)), (1, .ref (b0 + x1)), (2, .int x2), (3, .int x3), (4, .int x4)] [] h (bX0_markMembersBeforeMarked_87 self15 self22 x0 x1 x2 x3 x4 h) := by
  unfold bX0_markMembersBeforeMarked_87
  refine z_iinc (lv2 := [(4, .int (x4 + (nI 1))), (0, .ref (b0 + x0)), (1, .ref (b0 + x1)), (2, .int x2), (3, .int x3)]) (nI 1) 90 4 dX0_markMembersBeforeMarked_87 rfl rfl zki_1 (Nat.le_of_ble_eq_true rfl) rfl ?_
  refine z_goto 22 dX0_markMembersBeforeMarked_90 (by decide) ?_
  exact z_sub [1, 2, 4, 3, 0] rfl (hself22 x2 (x4 + (nI 1)) h)
def kX0_markMembersBeforeMarked_22 (self15 : Int32 × Int32 × ZH → Option (Int32 × ZH)) (x0 : Nat) (x1 : Nat) (x3 : Int32) (self22 : Int32 × Int32 × ZH → Option (Int32 × ZH)) (x2 : Int32) (x4 : Int32) (h : ZH) : Option (Int32 × ZH) :=
  if (nI 4) ≤ x4 then (bX0_markMembersBeforeMarked_93 self15 x0 x1 x2 x3 h) else
  ((gR h 0 x0 0).bind fun v2 =>
  (lI h 16 v2 x3).bind fun v3 =>
  if v3 = 0 then (bX0_markMembersBeforeMarked_93 self15 x0 x1 x2 x3 h) else
  ((gR h 0 x0 1).bind fun v5 =>
  (lI h 16 v5 x3).bind fun v6 =>
  if v6 = 0 then ((fX6_after x1 x3 x4 h).bind fun q8 =>
  if q8.1 < 0 then (bX0_markMembersBeforeMarked_87 self15 self22 x0 x1 x2 x3 x4 q8.2) else
  (if (nI 255) ≤ q8.1 then (bX0_markMembersBeforeMarked_87 self15 self22 x0 x1 x2 x3 x4 q8.2) else
  ((gR q8.2 0 x0 1).bind fun v11 =>
  (lI q8.2 16 v11 q8.1).bind fun v12 =>
  if v12 = 0 then (bX0_markMembersBeforeMarked_87 self15 self22 x0 x1 x2 x3 x4 q8.2) else
  ((gR q8.2 0 x0 1).bind fun v14 =>
  (sI q8.2 16 v14 x3 (nI 1)).bind fun h15 =>
  bX0_markMembersBeforeMarked_87 self15 self22 x0 x1 (nI 1) x3 x4 h15)))) else
  (bX0_markMembersBeforeMarked_93 self15 x0 x1 x2 x3 h)))
def lX0_markMembersBeforeMarked_22 (self15 : Int32 × Int32 × ZH → Option (Int32 × ZH)) (x0 : Nat) (x1 : Nat) (x3 : Int32) : (Int32 × Int32 × ZH → Option (Int32 × ZH)) → Int32 × Int32 × ZH → Option (Int32 × ZH) := fun self s => kX0_markMembersBeforeMarked_22 self15 x0 x1 x3 self s.1 s.2.1 s.2.2
theorem KX0_markMembersBeforeMarked_22 (b0 : Nat) (self15 : Int32 × Int32 × ZH → Option (Int32 × ZH)) (x0 : Nat) (x1 : Nat) (x3 : Int32) (hself15 : ∀ (y2 : Int32) (y3 : Int32) (hh : ZH), Zr zi b0 YX0_markMembersBeforeMarked 2 15 [(0, .ref (b0 + x0)), (1, .ref (b0 + x1)), (2, .int y2), (3, .int y3)] [] hh (self15 (y2, y3, hh))) (self22 : Int32 × Int32 × ZH → Option (Int32 × ZH)) (hself22 : ∀ (y2 : Int32) (y4 : Int32) (hh : ZH), Zr zi b0 YX0_markMembersBeforeMarked 2 22 [(0, .ref (b0 + x0)), (1, .ref (b0 + x1)), (3, .int x3), (2, .int y2), (4, .int y4)] [] hh (self22 (y2, y4, hh))) (x2 : Int32) (x4 : Int32) (h : ZH) : Zr zi b0 YX0_markMembersBeforeMarked 2 22 [(0, .ref (b0 + x0)), (1, .ref (b0 + x1)), (3, .int x3), (2, .int x2), (4, .int x4)] [] h (kX0_markMembersBeforeMarked_22 self15 x0 x1 x3 self22 x2 x4 h) := by
  unfold kX0_markMembersBeforeMarked_22
  refine z_iload 24 4 dX0_markMembersBeforeMarked_22 rfl rfl ?_
  refine z_iconst (nI 4) 25 zki_4 dX0_markMembersBeforeMarked_24 rfl ?_
  refine z_icmp_ge 93 28 dX0_markMembersBeforeMarked_25 (by decide) rfl (fun c1 => ?_) (fun c1 => ?_)
  · exact z_sub [0, 1, 3, 2] rfl (BX0_markMembersBeforeMarked_93 b0 self15 x0 x1 x2 x3 h hself15)
  · refine z_aload_n 29 0 dX0_markMembersBeforeMarked_28 rfl rfl ?_
    refine z_getR 32 zC0 (Nat.le_of_ble_eq_true rfl) rfl w_143 dX0_markMembersBeforeMarked_29 rfl (fun v2 _ => ?_)
    refine z_iload_n 33 2 dX0_markMembersBeforeMarked_32 rfl rfl ?_
    refine z_zaload 34 dX0_markMembersBeforeMarked_33 rfl (fun v3 _ => ?_)
    refine z_if_eq 93 37 dX0_markMembersBeforeMarked_34 (by decide) rfl (fun c4 => ?_) (fun c4 => ?_)
    · exact z_sub [0, 1, 3, 2] rfl (BX0_markMembersBeforeMarked_93 b0 self15 x0 x1 x2 x3 h hself15)
    · refine z_aload_n 38 0 dX0_markMembersBeforeMarked_37 rfl rfl ?_
      refine z_getR 41 zC0 (Nat.le_of_ble_eq_true rfl) rfl w_144 dX0_markMembersBeforeMarked_38 rfl (fun v5 _ => ?_)
      refine z_iload_n 42 2 dX0_markMembersBeforeMarked_41 rfl rfl ?_
      refine z_zaload 43 dX0_markMembersBeforeMarked_42 rfl (fun v6 _ => ?_)
      refine z_if_ne 93 46 dX0_markMembersBeforeMarked_43 (by decide) rfl (fun c7 => ?_) (fun c7 => ?_)
      · exact z_sub [0, 1, 3, 2] rfl (BX0_markMembersBeforeMarked_93 b0 self15 x0 x1 x2 x3 h hself15)
      · refine z_aload_n 47 1 dX0_markMembersBeforeMarked_46 rfl rfl ?_
        refine z_iload_n 48 2 dX0_markMembersBeforeMarked_47 rfl rfl ?_
        refine z_iload 50 4 dX0_markMembersBeforeMarked_48 rfl rfl ?_
        refine z_callVi 53 (mX6_after b0 x1 x3 x4 h) zyX6_after rfl w_660 (ci := 6) rfl (Nat.le_of_ble_eq_true rfl) (fun _ e9 => kX6_after e9) wm_yX6_after ws_yX6_after (Nat.le_of_ble_eq_true rfl) rfl (Nat.le_of_ble_eq_true rfl) dX0_markMembersBeforeMarked_50 rfl (fun q8 => ?_)
        refine z_istore (lv2 := [(5, .int q8.1), (0, .ref (b0 + x0)), (1, .ref (b0 + x1)), (3, .int x3), (2, .int x2), (4, .int x4)]) 55 dX0_markMembersBeforeMarked_53 rfl (Nat.le_of_ble_eq_true rfl) rfl ?_
        refine z_iload 57 0 dX0_markMembersBeforeMarked_55 rfl rfl ?_
        refine z_if_lt 87 60 dX0_markMembersBeforeMarked_57 (by decide) rfl (fun c9 => ?_) (fun c9 => ?_)
        · exact z_sub [1, 2, 4, 3, 5] rfl (BX0_markMembersBeforeMarked_87 b0 self15 self22 x0 x1 x2 x3 x4 q8.2 hself15 hself22)
        · refine z_iload 62 0 dX0_markMembersBeforeMarked_60 rfl rfl ?_
          refine z_sipush (nI 255) 65 zks_255 dX0_markMembersBeforeMarked_62 rfl ?_
          refine z_icmp_ge 87 68 dX0_markMembersBeforeMarked_65 (by decide) rfl (fun c10 => ?_) (fun c10 => ?_)
          · exact z_sub [1, 2, 4, 3, 5] rfl (BX0_markMembersBeforeMarked_87 b0 self15 self22 x0 x1 x2 x3 x4 q8.2 hself15 hself22)
          · refine z_aload_n 69 1 dX0_markMembersBeforeMarked_68 rfl rfl ?_
            refine z_getR 72 zC0 (Nat.le_of_ble_eq_true rfl) rfl w_144 dX0_markMembersBeforeMarked_69 rfl (fun v11 _ => ?_)
            refine z_iload 74 0 dX0_markMembersBeforeMarked_72 rfl rfl ?_
            refine z_zaload 75 dX0_markMembersBeforeMarked_74 rfl (fun v12 _ => ?_)
            refine z_if_eq 87 78 dX0_markMembersBeforeMarked_75 (by decide) rfl (fun c13 => ?_) (fun c13 => ?_)
            · exact z_sub [1, 2, 4, 3, 5] rfl (BX0_markMembersBeforeMarked_87 b0 self15 self22 x0 x1 x2 x3 x4 q8.2 hself15 hself22)
            · refine z_aload_n 79 1 dX0_markMembersBeforeMarked_78 rfl rfl ?_
              refine z_getR 82 zC0 (Nat.le_of_ble_eq_true rfl) rfl w_144 dX0_markMembersBeforeMarked_79 rfl (fun v14 _ => ?_)
              refine z_iload_n 83 3 dX0_markMembersBeforeMarked_82 rfl rfl ?_
              refine z_iconst (nI 1) 84 zki_1 dX0_markMembersBeforeMarked_83 rfl ?_
              refine z_zastore 85 dX0_markMembersBeforeMarked_84 rfl (fun h15 _ => ?_)
              refine z_iconst (nI 1) 86 zki_1 dX0_markMembersBeforeMarked_85 rfl ?_
              refine z_istore_n (lv2 := [(2, .int (nI 1)), (5, .int q8.1), (0, .ref (b0 + x0)), (1, .ref (b0 + x1)), (3, .int x3), (4, .int x4)]) 87 dX0_markMembersBeforeMarked_86 rfl (Nat.le_of_ble_eq_true rfl) rfl ?_
              exact z_sub [2, 3, 0, 4, 5] rfl (BX0_markMembersBeforeMarked_87 b0 self15 self22 x0 x1 (nI 1) x3 x4 h15 hself15 hself22)
theorem BX0_markMembersBeforeMarked_22 (b0 : Nat) (self15 : Int32 × Int32 × ZH → Option (Int32 × ZH)) (x0 : Nat) (x1 : Nat) (x3 : Int32) (hself15 : ∀ (y2 : Int32) (y3 : Int32) (hh : ZH), Zr zi b0 YX0_markMembersBeforeMarked 2 15 [(0, .ref (b0 + x0)), (1, .ref (b0 + x1)), (2, .int y2), (3, .int y3)] [] hh (self15 (y2, y3, hh))) (n : Nat) (x2 : Int32) (x4 : Int32) (h : ZH) : Zr zi b0 YX0_markMembersBeforeMarked 2 22 [(0, .ref (b0 + x0)), (1, .ref (b0 + x1)), (3, .int x3), (2, .int x2), (4, .int x4)] [] h (zloop (lX0_markMembersBeforeMarked_22 self15 x0 x1 x3) n (x2, x4, h)) :=
  zloop_Zr (fun s => [(0, .ref (b0 + x0)), (1, .ref (b0 + x1)), (3, .int x3), (2, .int s.1), (4, .int s.2.1)]) (fun _ => []) (fun s => s.2.2) (lX0_markMembersBeforeMarked_22 self15 x0 x1 x3) (fun self hs s => KX0_markMembersBeforeMarked_22 b0 self15 x0 x1 x3 hself15 self (fun y2 y4 hh => hs (y2, y4, hh)) s.1 s.2.1 s.2.2) n (x2, x4, h)
def kX0_markMembersBeforeMarked_15 (x0 : Nat) (x1 : Nat) (self15 : Int32 × Int32 × ZH → Option (Int32 × ZH)) (x2 : Int32) (x3 : Int32) (h : ZH) : Option (Int32 × ZH) :=
  if x3 < 0 then (if x2 = 0 ∨ x2 = 1 then some (x2, h) else none) else
  (zloop (lX0_markMembersBeforeMarked_22 self15 x0 x1 x3) zfu (x2, (nI 0), h))
def lX0_markMembersBeforeMarked_15 (x0 : Nat) (x1 : Nat) : (Int32 × Int32 × ZH → Option (Int32 × ZH)) → Int32 × Int32 × ZH → Option (Int32 × ZH) := fun self s => kX0_markMembersBeforeMarked_15 x0 x1 self s.1 s.2.1 s.2.2
theorem KX0_markMembersBeforeMarked_15 (b0 : Nat) (x0 : Nat) (x1 : Nat) (self15 : Int32 × Int32 × ZH → Option (Int32 × ZH)) (hself15 : ∀ (y2 : Int32) (y3 : Int32) (hh : ZH), Zr zi b0 YX0_markMembersBeforeMarked 2 15 [(0, .ref (b0 + x0)), (1, .ref (b0 + x1)), (2, .int y2), (3, .int y3)] [] hh (self15 (y2, y3, hh))) (x2 : Int32) (x3 : Int32) (h : ZH) : Zr zi b0 YX0_markMembersBeforeMarked 2 15 [(0, .ref (b0 + x0)), (1, .ref (b0 + x1)), (2, .int x2), (3, .int x3)] [] h (kX0_markMembersBeforeMarked_15 x0 x1 self15 x2 x3 h) := by
  unfold kX0_markMembersBeforeMarked_15
  refine z_iload_n 16 3 dX0_markMembersBeforeMarked_15 rfl rfl ?_
  refine z_if_lt 99 19 dX0_markMembersBeforeMarked_16 (by decide) rfl (fun c1 => ?_) (fun c1 => ?_)
  · refine z_iload_n 100 2 dX0_markMembersBeforeMarked_99 rfl rfl ?_
    exact z_zreturn dX0_markMembersBeforeMarked_100 rfl
  · refine z_iconst (nI 0) 20 zki_0 dX0_markMembersBeforeMarked_19 rfl ?_
    refine z_istore (lv2 := [(4, .int (nI 0)), (0, .ref (b0 + x0)), (1, .ref (b0 + x1)), (2, .int x2), (3, .int x3)]) 22 dX0_markMembersBeforeMarked_20 rfl (Nat.le_of_ble_eq_true rfl) rfl ?_
    exact z_sub [1, 2, 4, 3, 0] rfl (BX0_markMembersBeforeMarked_22 b0 self15 x0 x1 x3 hself15 zfu x2 (nI 0) h)
theorem BX0_markMembersBeforeMarked_15 (b0 : Nat) (x0 : Nat) (x1 : Nat) (n : Nat) (x2 : Int32) (x3 : Int32) (h : ZH) : Zr zi b0 YX0_markMembersBeforeMarked 2 15 [(0, .ref (b0 + x0)), (1, .ref (b0 + x1)), (2, .int x2), (3, .int x3)] [] h (zloop (lX0_markMembersBeforeMarked_15 x0 x1) n (x2, x3, h)) :=
  zloop_Zr (fun s => [(0, .ref (b0 + x0)), (1, .ref (b0 + x1)), (2, .int s.1), (3, .int s.2.1)]) (fun _ => []) (fun s => s.2.2) (lX0_markMembersBeforeMarked_15 x0 x1) (fun self hs s => KX0_markMembersBeforeMarked_15 b0 x0 x1 self (fun y2 y3 hh => hs (y2, y3, hh)) s.1 s.2.1 s.2.2) n (x2, x3, h)
def fX0_markMembersBeforeMarked (x0 : Nat) (x1 : Nat) (h : ZH) : Option (Int32 × ZH) :=
  if x0 < zn h ∧ zK h x0 = 0 then ((fX6_size x1 h).bind fun q1 =>
  zl ((jmmin q1.1 (nI 255)) - (nI 1)) fun v2 =>
  zloop (lX0_markMembersBeforeMarked_15 x0 x1) zfu ((nI 0), v2, q1.2)) else none
theorem kX0_markMembersBeforeMarked {x0 : Nat} {x1 : Nat} {h : ZH} {x : Int32 × ZH} (e : fX0_markMembersBeforeMarked x0 x1 h = some x) : x0 < zn h ∧ zK h x0 = 0 := by
  unfold fX0_markMembersBeforeMarked at e
  exact zguard e
theorem mX0_markMembersBeforeMarked (b0 : Nat) (x0 : Nat) (x1 : Nat) (h : ZH) : ZM zi b0 YX0_markMembersBeforeMarked 2 [.ref (b0 + x0), .ref (b0 + x1)] h (fX0_markMembersBeforeMarked x0 x1 h) := by
  unfold fX0_markMembersBeforeMarked
  refine ZM.of (by decide) rfl (Nat.le_of_ble_eq_true rfl) (fun _ => trivial) ?_
  refine z_sub (lv2 := [(0, .ref (b0 + x0)), (1, .ref (b0 + x1))]) [0, 1] rfl ?_
  refine z_guard (fun _ => ?_)
  refine z_iconst (nI 0) 1 zki_0 dX0_markMembersBeforeMarked_0 rfl ?_
  refine z_istore_n (lv2 := [(2, .int (nI 0)), (0, .ref (b0 + x0)), (1, .ref (b0 + x1))]) 2 dX0_markMembersBeforeMarked_1 rfl (Nat.le_of_ble_eq_true rfl) rfl ?_
  refine z_aload_n 3 2 dX0_markMembersBeforeMarked_2 rfl rfl ?_
  refine z_callVi 6 (mX6_size b0 x1 h) zyX6_size rfl w_669 (ci := 6) rfl (Nat.le_of_ble_eq_true rfl) (fun _ e9 => kX6_size e9) wm_yX6_size ws_yX6_size (Nat.le_of_ble_eq_true rfl) rfl (Nat.le_of_ble_eq_true rfl) dX0_markMembersBeforeMarked_3 rfl (fun q1 => ?_)
  refine z_sipush (nI 255) 9 zks_255 dX0_markMembersBeforeMarked_6 rfl ?_
  refine z_mmin 12 w_670 wt_Lib_Math_min_name wi_RJ9 wc_Lib_Math_min_name (Nat.le_of_ble_eq_true rfl) (Nat.le_of_ble_eq_true rfl) dX0_markMembersBeforeMarked_9 rfl ?_
  refine z_iconst (nI 1) 13 zki_1 dX0_markMembersBeforeMarked_12 rfl ?_
  refine z_isub 14 dX0_markMembersBeforeMarked_13 rfl ?_
  refine z_letI (fun v2 _ => ?_)
  refine z_istore_n (lv2 := [(3, .int v2), (2, .int (nI 0)), (0, .ref (b0 + x0)), (1, .ref (b0 + x1))]) 15 dX0_markMembersBeforeMarked_14 rfl (Nat.le_of_ble_eq_true rfl) rfl ?_
  exact z_sub [2, 3, 1, 0] rfl (BX0_markMembersBeforeMarked_15 b0 x0 x1 zfu (nI 0) v2 q1.2)
-- X0_memberWithoutWayTo
def bX0_memberWithoutWayTo_87 (self59 : Int32 × ZH → Option (Int32 × ZH)) (x0 : Nat) (x4 : Int32) (h : ZH) : Option (Int32 × ZH) :=
  self59 ((x4 + (-1 : Int32)), h)
theorem BX0_memberWithoutWayTo_87 (b0 : Nat) (self59 : Int32 × ZH → Option (Int32 × ZH)) (x0 : Nat) (x4 : Int32) (h : ZH) (hself59 : ∀ (y4 : Int32) (hh : ZH), Zr zi b0 YX0_memberWithoutWayTo 3 59 [(0, .ref (b0 + x0)), (4, .int y4)] [] hh (self59 (y4, hh))) : Zr zi b0 YX0_memberWithoutWayTo 3 87 [(0, .ref (b0 + x0)), (4, .int x4)] [] h (bX0_memberWithoutWayTo_87 self59 x0 x4 h) := by
  unfold bX0_memberWithoutWayTo_87
  refine z_iinc (lv2 := [(4, .int (x4 + (-1 : Int32))), (0, .ref (b0 + x0))]) (-1 : Int32) 90 1 dX0_memberWithoutWayTo_87 rfl rfl zki_m1 (Nat.le_of_ble_eq_true rfl) rfl ?_
  refine z_goto 59 dX0_memberWithoutWayTo_90 (by decide) ?_
  exact z_sub [1, 0] rfl (hself59 (x4 + (-1 : Int32)) h)
def kX0_memberWithoutWayTo_59 (x0 : Nat) (self59 : Int32 × ZH → Option (Int32 × ZH)) (x4 : Int32) (h : ZH) : Option (Int32 × ZH) :=
  if x4 < 0 then (some ((nI 255), h)) else
  ((gR h 0 x0 0).bind fun v2 =>
  (lI h 16 v2 x4).bind fun v3 =>
  if v3 = 0 then (bX0_memberWithoutWayTo_87 self59 x0 x4 h) else
  ((gR h 0 x0 1).bind fun v5 =>
  (lI h 16 v5 x4).bind fun v6 =>
  if v6 = 0 then (some (x4, h)) else
  (bX0_memberWithoutWayTo_87 self59 x0 x4 h)))
def lX0_memberWithoutWayTo_59 (x0 : Nat) : (Int32 × ZH → Option (Int32 × ZH)) → Int32 × ZH → Option (Int32 × ZH) := fun self s => kX0_memberWithoutWayTo_59 x0 self s.1 s.2
theorem KX0_memberWithoutWayTo_59 (b0 : Nat) (x0 : Nat) (self59 : Int32 × ZH → Option (Int32 × ZH)) (hself59 : ∀ (y4 : Int32) (hh : ZH), Zr zi b0 YX0_memberWithoutWayTo 3 59 [(0, .ref (b0 + x0)), (4, .int y4)] [] hh (self59 (y4, hh))) (x4 : Int32) (h : ZH) : Zr zi b0 YX0_memberWithoutWayTo 3 59 [(0, .ref (b0 + x0)), (4, .int x4)] [] h (kX0_memberWithoutWayTo_59 x0 self59 x4 h) := by
  unfold kX0_memberWithoutWayTo_59
  refine z_iload 61 1 dX0_memberWithoutWayTo_59 rfl rfl ?_
  refine z_if_lt 93 64 dX0_memberWithoutWayTo_61 (by decide) rfl (fun c1 => ?_) (fun c1 => ?_)
  · refine z_sipush (nI 255) 96 zks_255 dX0_memberWithoutWayTo_93 rfl ?_
    exact z_ireturn dX0_memberWithoutWayTo_96 rfl
  · refine z_aload_n 65 0 dX0_memberWithoutWayTo_64 rfl rfl ?_
    refine z_getR 68 zC0 (Nat.le_of_ble_eq_true rfl) rfl w_143 dX0_memberWithoutWayTo_65 rfl (fun v2 _ => ?_)
    refine z_iload 70 1 dX0_memberWithoutWayTo_68 rfl rfl ?_
    refine z_zaload 71 dX0_memberWithoutWayTo_70 rfl (fun v3 _ => ?_)
    refine z_if_eq 87 74 dX0_memberWithoutWayTo_71 (by decide) rfl (fun c4 => ?_) (fun c4 => ?_)
    · exact z_sub [0, 1] rfl (BX0_memberWithoutWayTo_87 b0 self59 x0 x4 h hself59)
    · refine z_aload_n 75 0 dX0_memberWithoutWayTo_74 rfl rfl ?_
      refine z_getR 78 zC0 (Nat.le_of_ble_eq_true rfl) rfl w_144 dX0_memberWithoutWayTo_75 rfl (fun v5 _ => ?_)
      refine z_iload 80 1 dX0_memberWithoutWayTo_78 rfl rfl ?_
      refine z_zaload 81 dX0_memberWithoutWayTo_80 rfl (fun v6 _ => ?_)
      refine z_if_ne 87 84 dX0_memberWithoutWayTo_81 (by decide) rfl (fun c7 => ?_) (fun c7 => ?_)
      · exact z_sub [0, 1] rfl (BX0_memberWithoutWayTo_87 b0 self59 x0 x4 h hself59)
      · refine z_iload 86 1 dX0_memberWithoutWayTo_84 rfl rfl ?_
        exact z_ireturn dX0_memberWithoutWayTo_86 rfl
theorem BX0_memberWithoutWayTo_59 (b0 : Nat) (x0 : Nat) (n : Nat) (x4 : Int32) (h : ZH) : Zr zi b0 YX0_memberWithoutWayTo 3 59 [(0, .ref (b0 + x0)), (4, .int x4)] [] h (zloop (lX0_memberWithoutWayTo_59 x0) n (x4, h)) :=
  zloop_Zr (fun s => [(0, .ref (b0 + x0)), (4, .int s.1)]) (fun _ => []) (fun s => s.2) (lX0_memberWithoutWayTo_59 x0) (fun self hs s => KX0_memberWithoutWayTo_59 b0 x0 self (fun y4 hh => hs (y4, hh)) s.1 s.2) n (x4, h)
def bX0_memberWithoutWayTo_54 (x0 : Nat) (h : ZH) : Option (Int32 × ZH) :=
  zloop (lX0_memberWithoutWayTo_59 x0) zfu ((nI 254), h)
theorem BX0_memberWithoutWayTo_54 (b0 : Nat) (x0 : Nat) (h : ZH) : Zr zi b0 YX0_memberWithoutWayTo 3 54 [(0, .ref (b0 + x0))] [] h (bX0_memberWithoutWayTo_54 x0 h) := by
  unfold bX0_memberWithoutWayTo_54
  refine z_sipush (nI 254) 57 zks_254 dX0_memberWithoutWayTo_54 rfl ?_
  refine z_istore (lv2 := [(4, .int (nI 254)), (0, .ref (b0 + x0))]) 59 dX0_memberWithoutWayTo_57 rfl (Nat.le_of_ble_eq_true rfl) rfl ?_
  exact z_sub [1, 0] rfl (BX0_memberWithoutWayTo_59 b0 x0 zfu (nI 254) h)
def kX0_memberWithoutWayTo_30 (x0 : Nat) (x1 : Nat) (self30 : Int32 × Int32 × ZH → Option (Int32 × ZH)) (x3 : Int32) (x4 : Int32) (h : ZH) : Option (Int32 × ZH) :=
  if (nI 256) ≤ x4 then (bX0_memberWithoutWayTo_54 x0 h) else
  (if x3 = 0 then (bX0_memberWithoutWayTo_54 x0 h) else
  ((fX0_markMembersBeforeMarked x0 x1 h).bind fun q3 =>
  self30 (q3.1, (x4 + (nI 1)), q3.2)))
def lX0_memberWithoutWayTo_30 (x0 : Nat) (x1 : Nat) : (Int32 × Int32 × ZH → Option (Int32 × ZH)) → Int32 × Int32 × ZH → Option (Int32 × ZH) := fun self s => kX0_memberWithoutWayTo_30 x0 x1 self s.1 s.2.1 s.2.2
theorem KX0_memberWithoutWayTo_30 (b0 : Nat) (x0 : Nat) (x1 : Nat) (self30 : Int32 × Int32 × ZH → Option (Int32 × ZH)) (hself30 : ∀ (y3 : Int32) (y4 : Int32) (hh : ZH), Zr zi b0 YX0_memberWithoutWayTo 3 30 [(0, .ref (b0 + x0)), (1, .ref (b0 + x1)), (3, .int y3), (4, .int y4)] [] hh (self30 (y3, y4, hh))) (x3 : Int32) (x4 : Int32) (h : ZH) : Zr zi b0 YX0_memberWithoutWayTo 3 30 [(0, .ref (b0 + x0)), (1, .ref (b0 + x1)), (3, .int x3), (4, .int x4)] [] h (kX0_memberWithoutWayTo_30 x0 x1 self30 x3 x4 h) := by
  unfold kX0_memberWithoutWayTo_30
  refine z_iload 32 3 dX0_memberWithoutWayTo_30 rfl rfl ?_
  refine z_sipush (nI 256) 35 zks_256 dX0_memberWithoutWayTo_32 rfl ?_
  refine z_icmp_ge 54 38 dX0_memberWithoutWayTo_35 (by decide) rfl (fun c1 => ?_) (fun c1 => ?_)
  · exact z_sub [0] rfl (BX0_memberWithoutWayTo_54 b0 x0 h )
  · refine z_iload_n 39 2 dX0_memberWithoutWayTo_38 rfl rfl ?_
    refine z_if_eq 54 42 dX0_memberWithoutWayTo_39 (by decide) rfl (fun c2 => ?_) (fun c2 => ?_)
    · exact z_sub [0] rfl (BX0_memberWithoutWayTo_54 b0 x0 h )
    · refine z_aload_n 43 0 dX0_memberWithoutWayTo_42 rfl rfl ?_
      refine z_aload_n 44 1 dX0_memberWithoutWayTo_43 rfl rfl ?_
      refine z_callVi 47 (mX0_markMembersBeforeMarked b0 x0 x1 h) zyX0_markMembersBeforeMarked rfl w_665 (ci := 0) rfl (Nat.le_of_ble_eq_true rfl) (fun _ e9 => kX0_markMembersBeforeMarked e9) wm_yX0_markMembersBeforeMarked ws_yX0_markMembersBeforeMarked (Nat.le_of_ble_eq_true rfl) rfl (Nat.le_of_ble_eq_true rfl) dX0_memberWithoutWayTo_44 rfl (fun q3 => ?_)
      refine z_istore_n (lv2 := [(3, .int q3.1), (0, .ref (b0 + x0)), (1, .ref (b0 + x1)), (4, .int x4)]) 48 dX0_memberWithoutWayTo_47 rfl (Nat.le_of_ble_eq_true rfl) rfl ?_
      refine z_iinc (lv2 := [(4, .int (x4 + (nI 1))), (3, .int q3.1), (0, .ref (b0 + x0)), (1, .ref (b0 + x1))]) (nI 1) 51 3 dX0_memberWithoutWayTo_48 rfl rfl zki_1 (Nat.le_of_ble_eq_true rfl) rfl ?_
      refine z_goto 30 dX0_memberWithoutWayTo_51 (by decide) ?_
      exact z_sub [2, 3, 1, 0] rfl (hself30 q3.1 (x4 + (nI 1)) q3.2)
theorem BX0_memberWithoutWayTo_30 (b0 : Nat) (x0 : Nat) (x1 : Nat) (n : Nat) (x3 : Int32) (x4 : Int32) (h : ZH) : Zr zi b0 YX0_memberWithoutWayTo 3 30 [(0, .ref (b0 + x0)), (1, .ref (b0 + x1)), (3, .int x3), (4, .int x4)] [] h (zloop (lX0_memberWithoutWayTo_30 x0 x1) n (x3, x4, h)) :=
  zloop_Zr (fun s => [(0, .ref (b0 + x0)), (1, .ref (b0 + x1)), (3, .int s.1), (4, .int s.2.1)]) (fun _ => []) (fun s => s.2.2) (lX0_memberWithoutWayTo_30 x0 x1) (fun self hs s => KX0_memberWithoutWayTo_30 b0 x0 x1 self (fun y3 y4 hh => hs (y3, y4, hh)) s.1 s.2.1 s.2.2) n (x3, x4, h)
def bX0_memberWithoutWayTo_25 (x0 : Nat) (x1 : Nat) (h : ZH) : Option (Int32 × ZH) :=
  zloop (lX0_memberWithoutWayTo_30 x0 x1) zfu ((nI 1), (nI 0), h)
theorem BX0_memberWithoutWayTo_25 (b0 : Nat) (x0 : Nat) (x1 : Nat) (h : ZH) : Zr zi b0 YX0_memberWithoutWayTo 3 25 [(0, .ref (b0 + x0)), (1, .ref (b0 + x1))] [] h (bX0_memberWithoutWayTo_25 x0 x1 h) := by
  unfold bX0_memberWithoutWayTo_25
  refine z_iconst (nI 1) 26 zki_1 dX0_memberWithoutWayTo_25 rfl ?_
  refine z_istore_n (lv2 := [(3, .int (nI 1)), (0, .ref (b0 + x0)), (1, .ref (b0 + x1))]) 27 dX0_memberWithoutWayTo_26 rfl (Nat.le_of_ble_eq_true rfl) rfl ?_
  refine z_iconst (nI 0) 28 zki_0 dX0_memberWithoutWayTo_27 rfl ?_
  refine z_istore (lv2 := [(4, .int (nI 0)), (3, .int (nI 1)), (0, .ref (b0 + x0)), (1, .ref (b0 + x1))]) 30 dX0_memberWithoutWayTo_28 rfl (Nat.le_of_ble_eq_true rfl) rfl ?_
  exact z_sub [2, 3, 1, 0] rfl (BX0_memberWithoutWayTo_30 b0 x0 x1 zfu (nI 1) (nI 0) h)
def fX0_memberWithoutWayTo (x0 : Nat) (x1 : Nat) (x2 : Int32) (h : ZH) : Option (Int32 × ZH) :=
  if x0 < zn h ∧ zK h x0 = 0 then ((gR h 0 x0 1).bind fun v1 =>
  (fX0_clearAll v1 h).bind fun h2 =>
  (fX10_isWithin x2 (nI 0) (nI 254) h2).bind fun q3 =>
  if q3.1 = 0 then (bX0_memberWithoutWayTo_25 x0 x1 q3.2) else
  ((gR q3.2 0 x0 1).bind fun v5 =>
  (sI q3.2 16 v5 x2 (nI 1)).bind fun h6 =>
  bX0_memberWithoutWayTo_25 x0 x1 h6)) else none
theorem kX0_memberWithoutWayTo {x0 : Nat} {x1 : Nat} {x2 : Int32} {h : ZH} {x : Int32 × ZH} (e : fX0_memberWithoutWayTo x0 x1 x2 h = some x) : x0 < zn h ∧ zK h x0 = 0 := by
  unfold fX0_memberWithoutWayTo at e
  exact zguard e
theorem mX0_memberWithoutWayTo (b0 : Nat) (x0 : Nat) (x1 : Nat) (x2 : Int32) (h : ZH) : ZM zi b0 YX0_memberWithoutWayTo 3 [.ref (b0 + x0), .ref (b0 + x1), .int x2] h (fX0_memberWithoutWayTo x0 x1 x2 h) := by
  unfold fX0_memberWithoutWayTo
  refine ZM.of (by decide) rfl (Nat.le_of_ble_eq_true rfl) (fun _ => trivial) ?_
  refine z_sub (lv2 := [(0, .ref (b0 + x0)), (1, .ref (b0 + x1)), (2, .int x2)]) [0, 1, 2] rfl ?_
  refine z_guard (fun _ => ?_)
  refine z_aload_n 1 0 dX0_memberWithoutWayTo_0 rfl rfl ?_
  refine z_getR 4 zC0 (Nat.le_of_ble_eq_true rfl) rfl w_144 dX0_memberWithoutWayTo_1 rfl (fun v1 _ => ?_)
  refine z_callSv 7 (mX0_clearAll b0 v1 h) zyX0_clearAll rfl w_652 wt_yX0_clearAll (Nat.le_of_ble_eq_true rfl) rfl (Nat.le_of_ble_eq_true rfl) dX0_memberWithoutWayTo_4 rfl (fun h2 => ?_)
  refine z_iload_n 8 2 dX0_memberWithoutWayTo_7 rfl rfl ?_
  refine z_iconst (nI 0) 9 zki_0 dX0_memberWithoutWayTo_8 rfl ?_
  refine z_sipush (nI 254) 12 zks_254 dX0_memberWithoutWayTo_9 rfl ?_
  refine z_callSNi 15 (mX10_isWithin b0 x2 (nI 0) (nI 254) h2) zyX10_isWithin rfl (List.mem_of_getElem? (i := 16) rfl) wt_yX10_isWithin (Nat.le_of_ble_eq_true rfl) rfl (Nat.le_of_ble_eq_true rfl) dX0_memberWithoutWayTo_12 rfl (fun q3 => ?_)
  refine z_if_eq 25 18 dX0_memberWithoutWayTo_15 (by decide) rfl (fun c4 => ?_) (fun c4 => ?_)
  · exact z_sub [0, 1] rfl (BX0_memberWithoutWayTo_25 b0 x0 x1 q3.2 )
  · refine z_aload_n 19 0 dX0_memberWithoutWayTo_18 rfl rfl ?_
    refine z_getR 22 zC0 (Nat.le_of_ble_eq_true rfl) rfl w_144 dX0_memberWithoutWayTo_19 rfl (fun v5 _ => ?_)
    refine z_iload_n 23 2 dX0_memberWithoutWayTo_22 rfl rfl ?_
    refine z_iconst (nI 1) 24 zki_1 dX0_memberWithoutWayTo_23 rfl ?_
    refine z_zastore 25 dX0_memberWithoutWayTo_24 rfl (fun h6 _ => ?_)
    exact z_sub [0, 1] rfl (BX0_memberWithoutWayTo_25 b0 x0 x1 h6 )
-- X6_start
def bX6_start_14 (t0 : Int32) (h : ZH) : Option (Int32 × ZH) :=
  some (t0, h)
theorem BX6_start_14 (b0 : Nat) (t0 : Int32) (h : ZH) : Zr zi b0 YX6_start 1 14 [] [.int t0] h (bX6_start_14 t0 h) := by
  unfold bX6_start_14
  exact z_ireturn dX6_start_14 rfl
def fX6_start (x0 : Nat) (h : ZH) : Option (Int32 × ZH) :=
  if x0 < zn h ∧ zK h x0 = 6 then ((gI h 6 x0 5).bind fun v1 =>
  if v1 ≤ 0 then (bX6_start_14 (nI 255) h) else
  (bX6_start_14 (nI 0) h)) else none
theorem kX6_start {x0 : Nat} {h : ZH} {x : Int32 × ZH} (e : fX6_start x0 h = some x) : x0 < zn h ∧ zK h x0 = 6 := by
  unfold fX6_start at e
  exact zguard e
theorem mX6_start (b0 : Nat) (x0 : Nat) (h : ZH) : ZM zi b0 YX6_start 1 [.ref (b0 + x0)] h (fX6_start x0 h) := by
  unfold fX6_start
  refine ZM.of (by decide) rfl (Nat.le_of_ble_eq_true rfl) (fun _ => trivial) ?_
  refine z_sub (lv2 := [(0, .ref (b0 + x0))]) [0] rfl ?_
  refine z_guard (fun _ => ?_)
  refine z_aload_n 1 0 dX6_start_0 rfl rfl ?_
  refine z_getI 4 zC6 (Nat.le_of_ble_eq_true rfl) rfl w_86 dX6_start_1 rfl (fun v1 _ => ?_)
  refine z_if_le 11 7 dX6_start_4 (by decide) rfl (fun c2 => ?_) (fun c2 => ?_)
  · refine z_sipush (nI 255) 14 zks_255 dX6_start_11 rfl ?_
    exact z_sub [] rfl (BX6_start_14 b0 (nI 255) h )
  · refine z_iconst (nI 0) 8 zki_0 dX6_start_7 rfl ?_
    refine z_goto 14 dX6_start_8 (by decide) ?_
    exact z_sub [] rfl (BX6_start_14 b0 (nI 0) h )
-- X0_findLastComponent
def bX0_findLastComponent_40 (h : ZH) : Option (ZH) :=
  some h
theorem BX0_findLastComponent_40 (b0 : Nat) (h : ZH) : Zr zv b0 YX0_findLastComponent 4 40 [] [] h (bX0_findLastComponent_40 h) := by
  unfold bX0_findLastComponent_40
  exact z_return dX0_findLastComponent_40 rfl
def kX0_findLastComponent_7 (x0 : Nat) (x1 : Nat) (self7 : Int32 × Int32 × ZH → Option (ZH)) (x2 : Int32) (x3 : Int32) (h : ZH) : Option (ZH) :=
  if (nI 256) ≤ x3 then (bX0_findLastComponent_40 h) else
  (if x2 = (nI 255) then (bX0_findLastComponent_40 h) else
  ((fX0_collectFrom x0 x1 x2 h).bind fun h3 =>
  (fX0_memberWithoutWayTo x0 x1 x2 h3).bind fun q4 =>
  self7 (q4.1, (x3 + (nI 1)), q4.2)))
def lX0_findLastComponent_7 (x0 : Nat) (x1 : Nat) : (Int32 × Int32 × ZH → Option (ZH)) → Int32 × Int32 × ZH → Option (ZH) := fun self s => kX0_findLastComponent_7 x0 x1 self s.1 s.2.1 s.2.2
theorem KX0_findLastComponent_7 (b0 : Nat) (x0 : Nat) (x1 : Nat) (self7 : Int32 × Int32 × ZH → Option (ZH)) (hself7 : ∀ (y2 : Int32) (y3 : Int32) (hh : ZH), Zr zv b0 YX0_findLastComponent 4 7 [(0, .ref (b0 + x0)), (1, .ref (b0 + x1)), (2, .int y2), (3, .int y3)] [] hh (self7 (y2, y3, hh))) (x2 : Int32) (x3 : Int32) (h : ZH) : Zr zv b0 YX0_findLastComponent 4 7 [(0, .ref (b0 + x0)), (1, .ref (b0 + x1)), (2, .int x2), (3, .int x3)] [] h (kX0_findLastComponent_7 x0 x1 self7 x2 x3 h) := by
  unfold kX0_findLastComponent_7
  refine z_iload_n 8 3 dX0_findLastComponent_7 rfl rfl ?_
  refine z_sipush (nI 256) 11 zks_256 dX0_findLastComponent_8 rfl ?_
  refine z_icmp_ge 40 14 dX0_findLastComponent_11 (by decide) rfl (fun c1 => ?_) (fun c1 => ?_)
  · exact z_sub [] rfl (BX0_findLastComponent_40 b0 h )
  · refine z_iload_n 15 2 dX0_findLastComponent_14 rfl rfl ?_
    refine z_sipush (nI 255) 18 zks_255 dX0_findLastComponent_15 rfl ?_
    refine z_icmp_eq 40 21 dX0_findLastComponent_18 (by decide) rfl (fun c2 => ?_) (fun c2 => ?_)
    · exact z_sub [] rfl (BX0_findLastComponent_40 b0 h )
    · refine z_aload_n 22 0 dX0_findLastComponent_21 rfl rfl ?_
      refine z_aload_n 23 1 dX0_findLastComponent_22 rfl rfl ?_
      refine z_iload_n 24 2 dX0_findLastComponent_23 rfl rfl ?_
      refine z_callVv 27 (mX0_collectFrom b0 x0 x1 x2 h) zyX0_collectFrom rfl w_648 (ci := 0) rfl (Nat.le_of_ble_eq_true rfl) (fun _ e9 => kX0_collectFrom e9) wm_yX0_collectFrom ws_yX0_collectFrom (Nat.le_of_ble_eq_true rfl) rfl (Nat.le_of_ble_eq_true rfl) dX0_findLastComponent_24 rfl (fun h3 => ?_)
      refine z_aload_n 28 0 dX0_findLastComponent_27 rfl rfl ?_
      refine z_aload_n 29 1 dX0_findLastComponent_28 rfl rfl ?_
      refine z_iload_n 30 2 dX0_findLastComponent_29 rfl rfl ?_
      refine z_callVi 33 (mX0_memberWithoutWayTo b0 x0 x1 x2 h3) zyX0_memberWithoutWayTo rfl w_661 (ci := 0) rfl (Nat.le_of_ble_eq_true rfl) (fun _ e9 => kX0_memberWithoutWayTo e9) wm_yX0_memberWithoutWayTo ws_yX0_memberWithoutWayTo (Nat.le_of_ble_eq_true rfl) rfl (Nat.le_of_ble_eq_true rfl) dX0_findLastComponent_30 rfl (fun q4 => ?_)
      refine z_istore_n (lv2 := [(2, .int q4.1), (0, .ref (b0 + x0)), (1, .ref (b0 + x1)), (3, .int x3)]) 34 dX0_findLastComponent_33 rfl (Nat.le_of_ble_eq_true rfl) rfl ?_
      refine z_iinc (lv2 := [(3, .int (x3 + (nI 1))), (2, .int q4.1), (0, .ref (b0 + x0)), (1, .ref (b0 + x1))]) (nI 1) 37 3 dX0_findLastComponent_34 rfl rfl zki_1 (Nat.le_of_ble_eq_true rfl) rfl ?_
      refine z_goto 7 dX0_findLastComponent_37 (by decide) ?_
      exact z_sub [2, 3, 1, 0] rfl (hself7 q4.1 (x3 + (nI 1)) q4.2)
theorem BX0_findLastComponent_7 (b0 : Nat) (x0 : Nat) (x1 : Nat) (n : Nat) (x2 : Int32) (x3 : Int32) (h : ZH) : Zr zv b0 YX0_findLastComponent 4 7 [(0, .ref (b0 + x0)), (1, .ref (b0 + x1)), (2, .int x2), (3, .int x3)] [] h (zloop (lX0_findLastComponent_7 x0 x1) n (x2, x3, h)) :=
  zloop_Zr (fun s => [(0, .ref (b0 + x0)), (1, .ref (b0 + x1)), (2, .int s.1), (3, .int s.2.1)]) (fun _ => []) (fun s => s.2.2) (lX0_findLastComponent_7 x0 x1) (fun self hs s => KX0_findLastComponent_7 b0 x0 x1 self (fun y2 y3 hh => hs (y2, y3, hh)) s.1 s.2.1 s.2.2) n (x2, x3, h)
def fX0_findLastComponent (x0 : Nat) (x1 : Nat) (h : ZH) : Option (ZH) :=
  if x0 < zn h ∧ zK h x0 = 0 then ((fX6_start x1 h).bind fun q1 =>
  zloop (lX0_findLastComponent_7 x0 x1) zfu (q1.1, (nI 0), q1.2)) else none
theorem kX0_findLastComponent {x0 : Nat} {x1 : Nat} {h : ZH} {x : ZH} (e : fX0_findLastComponent x0 x1 h = some x) : x0 < zn h ∧ zK h x0 = 0 := by
  unfold fX0_findLastComponent at e
  exact zguard e
theorem mX0_findLastComponent (b0 : Nat) (x0 : Nat) (x1 : Nat) (h : ZH) : ZM zv b0 YX0_findLastComponent 4 [.ref (b0 + x0), .ref (b0 + x1)] h (fX0_findLastComponent x0 x1 h) := by
  unfold fX0_findLastComponent
  refine ZM.of (by decide) rfl (Nat.le_of_ble_eq_true rfl) (fun _ => trivial) ?_
  refine z_sub (lv2 := [(0, .ref (b0 + x0)), (1, .ref (b0 + x1))]) [0, 1] rfl ?_
  refine z_guard (fun _ => ?_)
  refine z_aload_n 1 1 dX0_findLastComponent_0 rfl rfl ?_
  refine z_callVi 4 (mX6_start b0 x1 h) zyX6_start rfl w_647 (ci := 6) rfl (Nat.le_of_ble_eq_true rfl) (fun _ e9 => kX6_start e9) wm_yX6_start ws_yX6_start (Nat.le_of_ble_eq_true rfl) rfl (Nat.le_of_ble_eq_true rfl) dX0_findLastComponent_1 rfl (fun q1 => ?_)
  refine z_istore_n (lv2 := [(2, .int q1.1), (0, .ref (b0 + x0)), (1, .ref (b0 + x1))]) 5 dX0_findLastComponent_4 rfl (Nat.le_of_ble_eq_true rfl) rfl ?_
  refine z_iconst (nI 0) 6 zki_0 dX0_findLastComponent_5 rfl ?_
  refine z_istore_n (lv2 := [(3, .int (nI 0)), (2, .int q1.1), (0, .ref (b0 + x0)), (1, .ref (b0 + x1))]) 7 dX0_findLastComponent_6 rfl (Nat.le_of_ble_eq_true rfl) rfl ?_
  exact z_sub [2, 3, 1, 0] rfl (BX0_findLastComponent_7 b0 x0 x1 zfu q1.1 (nI 0) q1.2)
-- J6_bitCount_0f7a4
def fJ6_bitCount_0f7a4 (x0 : Int32) (h : ZH) : Option (Int32 × ZH) :=
  zl (x0 - ((jushr x0 (nI 1)) &&& (1431655765 : Int32))) fun v1 =>
  zl ((v1 &&& (858993459 : Int32)) + ((jushr v1 (nI 2)) &&& (858993459 : Int32))) fun v2 =>
  zl ((v2 + (jushr v2 (nI 4))) &&& (252645135 : Int32)) fun v3 =>
  zl (v3 + (jushr v3 (nI 8))) fun v4 =>
  zl (v4 + (jushr v4 (nI 16))) fun v5 =>
  some ((v5 &&& (nI 63)), h)
theorem mJ6_bitCount_0f7a4 (b0 : Nat) (x0 : Int32) (h : ZH) : ZM zi b0 YJ6_bitCount_0f7a4 1 [.int x0] h (fJ6_bitCount_0f7a4 x0 h) := by
  unfold fJ6_bitCount_0f7a4
  refine ZM.of (by decide) rfl (Nat.le_of_ble_eq_true rfl) (fun _ => trivial) ?_
  refine z_sub (lv2 := [(0, .int x0)]) [0] rfl ?_
  refine z_iload_n 1 0 dJ6_bitCount_0f7a4_0 rfl rfl ?_
  refine z_iload_n 2 0 dJ6_bitCount_0f7a4_1 rfl rfl ?_
  refine z_iconst (nI 1) 3 zki_1 dJ6_bitCount_0f7a4_2 rfl ?_
  refine z_iushr 4 dJ6_bitCount_0f7a4_3 rfl ?_
  refine z_ldcw 7 w_340 dJ6_bitCount_0f7a4_4 rfl ?_
  refine z_iand 8 dJ6_bitCount_0f7a4_7 rfl ?_
  refine z_isub 9 dJ6_bitCount_0f7a4_8 rfl ?_
  refine z_letI (fun v1 _ => ?_)
  refine z_istore_n (lv2 := [(0, .int v1)]) 10 dJ6_bitCount_0f7a4_9 rfl (Nat.le_of_ble_eq_true rfl) rfl ?_
  refine z_iload_n 11 0 dJ6_bitCount_0f7a4_10 rfl rfl ?_
  refine z_ldcw 14 w_341 dJ6_bitCount_0f7a4_11 rfl ?_
  refine z_iand 15 dJ6_bitCount_0f7a4_14 rfl ?_
  refine z_iload_n 16 0 dJ6_bitCount_0f7a4_15 rfl rfl ?_
  refine z_iconst (nI 2) 17 zki_2 dJ6_bitCount_0f7a4_16 rfl ?_
  refine z_iushr 18 dJ6_bitCount_0f7a4_17 rfl ?_
  refine z_ldcw 21 w_341 dJ6_bitCount_0f7a4_18 rfl ?_
  refine z_iand 22 dJ6_bitCount_0f7a4_21 rfl ?_
  refine z_iadd 23 dJ6_bitCount_0f7a4_22 rfl ?_
  refine z_letI (fun v2 _ => ?_)
  refine z_istore_n (lv2 := [(0, .int v2)]) 24 dJ6_bitCount_0f7a4_23 rfl (Nat.le_of_ble_eq_true rfl) rfl ?_
  refine z_iload_n 25 0 dJ6_bitCount_0f7a4_24 rfl rfl ?_
  refine z_iload_n 26 0 dJ6_bitCount_0f7a4_25 rfl rfl ?_
  refine z_iconst (nI 4) 27 zki_4 dJ6_bitCount_0f7a4_26 rfl ?_
  refine z_iushr 28 dJ6_bitCount_0f7a4_27 rfl ?_
  refine z_iadd 29 dJ6_bitCount_0f7a4_28 rfl ?_
  refine z_ldcw 32 w_342 dJ6_bitCount_0f7a4_29 rfl ?_
  refine z_iand 33 dJ6_bitCount_0f7a4_32 rfl ?_
  refine z_letI (fun v3 _ => ?_)
  refine z_istore_n (lv2 := [(0, .int v3)]) 34 dJ6_bitCount_0f7a4_33 rfl (Nat.le_of_ble_eq_true rfl) rfl ?_
  refine z_iload_n 35 0 dJ6_bitCount_0f7a4_34 rfl rfl ?_
  refine z_iload_n 36 0 dJ6_bitCount_0f7a4_35 rfl rfl ?_
  refine z_bipush (nI 8) 38 zkb_8 dJ6_bitCount_0f7a4_36 rfl ?_
  refine z_iushr 39 dJ6_bitCount_0f7a4_38 rfl ?_
  refine z_iadd 40 dJ6_bitCount_0f7a4_39 rfl ?_
  refine z_letI (fun v4 _ => ?_)
  refine z_istore_n (lv2 := [(0, .int v4)]) 41 dJ6_bitCount_0f7a4_40 rfl (Nat.le_of_ble_eq_true rfl) rfl ?_
  refine z_iload_n 42 0 dJ6_bitCount_0f7a4_41 rfl rfl ?_
  refine z_iload_n 43 0 dJ6_bitCount_0f7a4_42 rfl rfl ?_
  refine z_bipush (nI 16) 45 zkb_16 dJ6_bitCount_0f7a4_43 rfl ?_
  refine z_iushr 46 dJ6_bitCount_0f7a4_45 rfl ?_
  refine z_iadd 47 dJ6_bitCount_0f7a4_46 rfl ?_
  refine z_letI (fun v5 _ => ?_)
  refine z_istore_n (lv2 := [(0, .int v5)]) 48 dJ6_bitCount_0f7a4_47 rfl (Nat.le_of_ble_eq_true rfl) rfl ?_
  refine z_iload_n 49 0 dJ6_bitCount_0f7a4_48 rfl rfl ?_
  refine z_bipush (nI 63) 51 zkb_63 dJ6_bitCount_0f7a4_49 rfl ?_
  refine z_iand 52 dJ6_bitCount_0f7a4_51 rfl ?_
  exact z_ireturn dJ6_bitCount_0f7a4_52 rfl
-- X6_set
def bX6_set_29 (t0 : Int32) (h : ZH) : Option (Int32 × ZH) :=
  some (t0, h)
theorem BX6_set_29 (b0 : Nat) (t0 : Int32) (h : ZH) : Zr zi b0 YX6_set 1 29 [] [.int t0] h (bX6_set_29 t0 h) := by
  unfold bX6_set_29
  exact z_ireturn dX6_set_29 rfl
def bX6_set_28 (h : ZH) : Option (Int32 × ZH) :=
  bX6_set_29 (nI 0) h
theorem BX6_set_28 (b0 : Nat) (h : ZH) : Zr zi b0 YX6_set 1 28 [] [] h (bX6_set_28 h) := by
  unfold bX6_set_28
  refine z_iconst (nI 0) 29 zki_0 dX6_set_28 rfl ?_
  exact z_sub [] rfl (BX6_set_29 b0 (nI 0) h )
def fX6_set (x0 : Nat) (x1 : Int32) (h : ZH) : Option (Int32 × ZH) :=
  if x0 < zn h ∧ zK h x0 = 6 then (if x1 < 0 then (bX6_set_28 h) else
  ((gI h 6 x0 5).bind fun v2 =>
  if v2 ≤ x1 then (bX6_set_28 h) else
  (if (nI 255) ≤ x1 then (bX6_set_28 h) else
  ((gR h 6 x0 0).bind fun v5 =>
  (lI h 14 v5 x1).bind fun v6 =>
  bX6_set_29 v6 h)))) else none
theorem kX6_set {x0 : Nat} {x1 : Int32} {h : ZH} {x : Int32 × ZH} (e : fX6_set x0 x1 h = some x) : x0 < zn h ∧ zK h x0 = 6 := by
  unfold fX6_set at e
  exact zguard e
theorem mX6_set (b0 : Nat) (x0 : Nat) (x1 : Int32) (h : ZH) : ZM zi b0 YX6_set 1 [.ref (b0 + x0), .int x1] h (fX6_set x0 x1 h) := by
  unfold fX6_set
  refine ZM.of (by decide) rfl (Nat.le_of_ble_eq_true rfl) (fun _ => trivial) ?_
  refine z_sub (lv2 := [(0, .ref (b0 + x0)), (1, .int x1)]) [0, 1] rfl ?_
  refine z_guard (fun _ => ?_)
  refine z_iload_n 1 1 dX6_set_0 rfl rfl ?_
  refine z_if_lt 28 4 dX6_set_1 (by decide) rfl (fun c1 => ?_) (fun c1 => ?_)
  · exact z_sub [] rfl (BX6_set_28 b0 h )
  · refine z_iload_n 5 1 dX6_set_4 rfl rfl ?_
    refine z_aload_n 6 0 dX6_set_5 rfl rfl ?_
    refine z_getI 9 zC6 (Nat.le_of_ble_eq_true rfl) rfl w_86 dX6_set_6 rfl (fun v2 _ => ?_)
    refine z_icmp_ge 28 12 dX6_set_9 (by decide) rfl (fun c3 => ?_) (fun c3 => ?_)
    · exact z_sub [] rfl (BX6_set_28 b0 h )
    · refine z_iload_n 13 1 dX6_set_12 rfl rfl ?_
      refine z_sipush (nI 255) 16 zks_255 dX6_set_13 rfl ?_
      refine z_icmp_ge 28 19 dX6_set_16 (by decide) rfl (fun c4 => ?_) (fun c4 => ?_)
      · exact z_sub [] rfl (BX6_set_28 b0 h )
      · refine z_aload_n 20 0 dX6_set_19 rfl rfl ?_
        refine z_getR 23 zC6 (Nat.le_of_ble_eq_true rfl) rfl w_81 dX6_set_20 rfl (fun v5 _ => ?_)
        refine z_iload_n 24 1 dX6_set_23 rfl rfl ?_
        refine z_iaload 25 dX6_set_24 rfl (fun v6 _ => ?_)
        refine z_goto 29 dX6_set_25 (by decide) ?_
        exact z_sub [] rfl (BX6_set_29 b0 v6 h )
-- X0_findReset
def bX0_findReset_39 (self15 : Int32 × ZH → Option (ZH)) (x0 : Nat) (x1 : Int32) (h : ZH) : Option (ZH) :=
  self15 ((x1 + (-1 : Int32)), h)
theorem BX0_findReset_39 (b0 : Nat) (self15 : Int32 × ZH → Option (ZH)) (x0 : Nat) (x1 : Int32) (h : ZH) (hself15 : ∀ (y1 : Int32) (hh : ZH), Zr zv b0 YX0_findReset 2 15 [(0, .ref (b0 + x0)), (1, .int y1)] [] hh (self15 (y1, hh))) : Zr zv b0 YX0_findReset 2 39 [(0, .ref (b0 + x0)), (1, .int x1)] [] h (bX0_findReset_39 self15 x0 x1 h) := by
  unfold bX0_findReset_39
  refine z_iinc (lv2 := [(1, .int (x1 + (-1 : Int32))), (0, .ref (b0 + x0))]) (-1 : Int32) 42 1 dX0_findReset_39 rfl rfl zki_m1 (Nat.le_of_ble_eq_true rfl) rfl ?_
  refine z_goto 15 dX0_findReset_42 (by decide) ?_
  exact z_sub [1, 0] rfl (hself15 (x1 + (-1 : Int32)) h)
def kX0_findReset_15 (x0 : Nat) (self15 : Int32 × ZH → Option (ZH)) (x1 : Int32) (h : ZH) : Option (ZH) :=
  if x1 < 0 then (some h) else
  ((gR h 0 x0 9).bind fun v2 =>
  (fX6_set v2 x1 h).bind fun q3 =>
  (fJ6_bitCount_0f7a4 q3.1 q3.2).bind fun q4 =>
  if q4.1 = (nI 1) then ((pI q4.2 0 x0 10 x1).bind fun h6 =>
  bX0_findReset_39 self15 x0 x1 h6) else
  (bX0_findReset_39 self15 x0 x1 q4.2))
def lX0_findReset_15 (x0 : Nat) : (Int32 × ZH → Option (ZH)) → Int32 × ZH → Option (ZH) := fun self s => kX0_findReset_15 x0 self s.1 s.2
theorem KX0_findReset_15 (b0 : Nat) (x0 : Nat) (self15 : Int32 × ZH → Option (ZH)) (hself15 : ∀ (y1 : Int32) (hh : ZH), Zr zv b0 YX0_findReset 2 15 [(0, .ref (b0 + x0)), (1, .int y1)] [] hh (self15 (y1, hh))) (x1 : Int32) (h : ZH) : Zr zv b0 YX0_findReset 2 15 [(0, .ref (b0 + x0)), (1, .int x1)] [] h (kX0_findReset_15 x0 self15 x1 h) := by
  unfold kX0_findReset_15
  refine z_iload_n 16 1 dX0_findReset_15 rfl rfl ?_
  refine z_if_lt 45 19 dX0_findReset_16 (by decide) rfl (fun c1 => ?_) (fun c1 => ?_)
  · exact z_return dX0_findReset_45 rfl
  · refine z_aload_n 20 0 dX0_findReset_19 rfl rfl ?_
    refine z_getR 23 zC0 (Nat.le_of_ble_eq_true rfl) rfl w_152 dX0_findReset_20 rfl (fun v2 _ => ?_)
    refine z_iload_n 24 1 dX0_findReset_23 rfl rfl ?_
    refine z_callVi 27 (mX6_set b0 v2 x1 h) zyX6_set rfl w_699 (ci := 6) rfl (Nat.le_of_ble_eq_true rfl) (fun _ e9 => kX6_set e9) wm_yX6_set ws_yX6_set (Nat.le_of_ble_eq_true rfl) rfl (Nat.le_of_ble_eq_true rfl) dX0_findReset_24 rfl (fun q3 => ?_)
    refine z_callSi 30 (mJ6_bitCount_0f7a4 b0 q3.1 q3.2) zyJ6_bitCount_0f7a4 rfl w_703 wt_yJ6_bitCount_0f7a4 (Nat.le_of_ble_eq_true rfl) rfl (Nat.le_of_ble_eq_true rfl) dX0_findReset_27 rfl (fun q4 => ?_)
    refine z_iconst (nI 1) 31 zki_1 dX0_findReset_30 rfl ?_
    refine z_icmp_ne 39 34 dX0_findReset_31 (by decide) rfl (fun c5 => ?_) (fun c5 => ?_)
    · exact z_sub [0, 1] rfl (BX0_findReset_39 b0 self15 x0 x1 q4.2 hself15)
    · refine z_aload_n 35 0 dX0_findReset_34 rfl rfl ?_
      refine z_iload_n 36 1 dX0_findReset_35 rfl rfl ?_
      refine z_putI 39 zC0 (Nat.le_of_ble_eq_true rfl) rfl rfl rfl w_153 dX0_findReset_36 rfl (fun h6 _ => ?_)
      exact z_sub [0, 1] rfl (BX0_findReset_39 b0 self15 x0 x1 h6 hself15)
theorem BX0_findReset_15 (b0 : Nat) (x0 : Nat) (n : Nat) (x1 : Int32) (h : ZH) : Zr zv b0 YX0_findReset 2 15 [(0, .ref (b0 + x0)), (1, .int x1)] [] h (zloop (lX0_findReset_15 x0) n (x1, h)) :=
  zloop_Zr (fun s => [(0, .ref (b0 + x0)), (1, .int s.1)]) (fun _ => []) (fun s => s.2) (lX0_findReset_15 x0) (fun self hs s => KX0_findReset_15 b0 x0 self (fun y1 hh => hs (y1, hh)) s.1 s.2) n (x1, h)
def fX0_findReset (x0 : Nat) (h : ZH) : Option (ZH) :=
  if x0 < zn h ∧ zK h x0 = 0 then ((pI h 0 x0 10 (nI 0)).bind fun h1 =>
  (gR h1 0 x0 9).bind fun v2 =>
  (fX6_size v2 h1).bind fun q3 =>
  zl (q3.1 - (nI 1)) fun v4 =>
  zloop (lX0_findReset_15 x0) zfu (v4, q3.2)) else none
theorem kX0_findReset {x0 : Nat} {h : ZH} {x : ZH} (e : fX0_findReset x0 h = some x) : x0 < zn h ∧ zK h x0 = 0 := by
  unfold fX0_findReset at e
  exact zguard e
theorem mX0_findReset (b0 : Nat) (x0 : Nat) (h : ZH) : ZM zv b0 YX0_findReset 2 [.ref (b0 + x0)] h (fX0_findReset x0 h) := by
  unfold fX0_findReset
  refine ZM.of (by decide) rfl (Nat.le_of_ble_eq_true rfl) (fun _ => trivial) ?_
  refine z_sub (lv2 := [(0, .ref (b0 + x0))]) [0] rfl ?_
  refine z_guard (fun _ => ?_)
  refine z_aload_n 1 0 dX0_findReset_0 rfl rfl ?_
  refine z_iconst (nI 0) 2 zki_0 dX0_findReset_1 rfl ?_
  refine z_putI 5 zC0 (Nat.le_of_ble_eq_true rfl) rfl rfl rfl w_153 dX0_findReset_2 rfl (fun h1 _ => ?_)
  refine z_aload_n 6 0 dX0_findReset_5 rfl rfl ?_
  refine z_getR 9 zC0 (Nat.le_of_ble_eq_true rfl) rfl w_152 dX0_findReset_6 rfl (fun v2 _ => ?_)
  refine z_callVi 12 (mX6_size b0 v2 h1) zyX6_size rfl w_669 (ci := 6) rfl (Nat.le_of_ble_eq_true rfl) (fun _ e9 => kX6_size e9) wm_yX6_size ws_yX6_size (Nat.le_of_ble_eq_true rfl) rfl (Nat.le_of_ble_eq_true rfl) dX0_findReset_9 rfl (fun q3 => ?_)
  refine z_iconst (nI 1) 13 zki_1 dX0_findReset_12 rfl ?_
  refine z_isub 14 dX0_findReset_13 rfl ?_
  refine z_letI (fun v4 _ => ?_)
  refine z_istore_n (lv2 := [(1, .int v4), (0, .ref (b0 + x0))]) 15 dX0_findReset_14 rfl (Nat.le_of_ble_eq_true rfl) rfl ?_
  exact z_sub [1, 0] rfl (BX0_findReset_15 b0 x0 zfu v4 q3.2)
-- X0_classOf
def bX0_classOf_21 (t0 : Int32) (h : ZH) : Option (Int32 × ZH) :=
  some (t0, h)
theorem BX0_classOf_21 (b0 : Nat) (t0 : Int32) (h : ZH) : Zr zi b0 YX0_classOf 1 21 [] [.int t0] h (bX0_classOf_21 t0 h) := by
  unfold bX0_classOf_21
  exact z_ireturn dX0_classOf_21 rfl
def bX0_classOf_20 (h : ZH) : Option (Int32 × ZH) :=
  bX0_classOf_21 (-1 : Int32) h
theorem BX0_classOf_20 (b0 : Nat) (h : ZH) : Zr zi b0 YX0_classOf 1 20 [] [] h (bX0_classOf_20 h) := by
  unfold bX0_classOf_20
  refine z_iconst (-1 : Int32) 21 zki_m1 dX0_classOf_20 rfl ?_
  exact z_sub [] rfl (BX0_classOf_21 b0 (-1 : Int32) h )
def fX0_classOf (x0 : Nat) (x1 : Int32) (h : ZH) : Option (Int32 × ZH) :=
  if x0 < zn h ∧ zK h x0 = 0 then (if x1 < 0 then (bX0_classOf_20 h) else
  (if (nI 255) ≤ x1 then (bX0_classOf_20 h) else
  ((gR h 0 x0 4).bind fun v3 =>
  (lI h 14 v3 x1).bind fun v4 =>
  bX0_classOf_21 v4 h))) else none
theorem kX0_classOf {x0 : Nat} {x1 : Int32} {h : ZH} {x : Int32 × ZH} (e : fX0_classOf x0 x1 h = some x) : x0 < zn h ∧ zK h x0 = 0 := by
  unfold fX0_classOf at e
  exact zguard e
theorem mX0_classOf (b0 : Nat) (x0 : Nat) (x1 : Int32) (h : ZH) : ZM zi b0 YX0_classOf 1 [.ref (b0 + x0), .int x1] h (fX0_classOf x0 x1 h) := by
  unfold fX0_classOf
  refine ZM.of (by decide) rfl (Nat.le_of_ble_eq_true rfl) (fun _ => trivial) ?_
  refine z_sub (lv2 := [(0, .ref (b0 + x0)), (1, .int x1)]) [0, 1] rfl ?_
  refine z_guard (fun _ => ?_)
  refine z_iload_n 1 1 dX0_classOf_0 rfl rfl ?_
  refine z_if_lt 20 4 dX0_classOf_1 (by decide) rfl (fun c1 => ?_) (fun c1 => ?_)
  · exact z_sub [] rfl (BX0_classOf_20 b0 h )
  · refine z_iload_n 5 1 dX0_classOf_4 rfl rfl ?_
    refine z_sipush (nI 255) 8 zks_255 dX0_classOf_5 rfl ?_
    refine z_icmp_ge 20 11 dX0_classOf_8 (by decide) rfl (fun c2 => ?_) (fun c2 => ?_)
    · exact z_sub [] rfl (BX0_classOf_20 b0 h )
    · refine z_aload_n 12 0 dX0_classOf_11 rfl rfl ?_
      refine z_getR 15 zC0 (Nat.le_of_ble_eq_true rfl) rfl w_147 dX0_classOf_12 rfl (fun v3 _ => ?_)
      refine z_iload_n 16 1 dX0_classOf_15 rfl rfl ?_
      refine z_iaload 17 dX0_classOf_16 rfl (fun v4 _ => ?_)
      refine z_goto 21 dX0_classOf_17 (by decide) ?_
      exact z_sub [] rfl (BX0_classOf_21 b0 v4 h )
-- J7_fill_53178
def kJ7_fill_53178_5 (x0 : Nat) (x1 : Int32) (x3 : Int32) (self5 : Int32 × ZH → Option (ZH)) (x2 : Int32) (h : ZH) : Option (ZH) :=
  if x3 ≤ x2 then (some h) else
  ((sI h 14 x0 x2 x1).bind fun h2 =>
  self5 ((x2 + (nI 1)), h2))
def lJ7_fill_53178_5 (x0 : Nat) (x1 : Int32) (x3 : Int32) : (Int32 × ZH → Option (ZH)) → Int32 × ZH → Option (ZH) := fun self s => kJ7_fill_53178_5 x0 x1 x3 self s.1 s.2
theorem KJ7_fill_53178_5 (b0 : Nat) (x0 : Nat) (x1 : Int32) (x3 : Int32) (self5 : Int32 × ZH → Option (ZH)) (hself5 : ∀ (y2 : Int32) (hh : ZH), Zr zv b0 YJ7_fill_53178 1 5 [(0, .ref (b0 + x0)), (1, .int x1), (3, .int x3), (2, .int y2)] [] hh (self5 (y2, hh))) (x2 : Int32) (h : ZH) : Zr zv b0 YJ7_fill_53178 1 5 [(0, .ref (b0 + x0)), (1, .int x1), (3, .int x3), (2, .int x2)] [] h (kJ7_fill_53178_5 x0 x1 x3 self5 x2 h) := by
  unfold kJ7_fill_53178_5
  refine z_iload_n 6 3 dJ7_fill_53178_5 rfl rfl ?_
  refine z_iload_n 7 2 dJ7_fill_53178_6 rfl rfl ?_
  refine z_icmp_ge 20 10 dJ7_fill_53178_7 (by decide) rfl (fun c1 => ?_) (fun c1 => ?_)
  · exact z_return dJ7_fill_53178_20 rfl
  · refine z_aload_n 11 0 dJ7_fill_53178_10 rfl rfl ?_
    refine z_iload_n 12 3 dJ7_fill_53178_11 rfl rfl ?_
    refine z_iload_n 13 1 dJ7_fill_53178_12 rfl rfl ?_
    refine z_iastore 14 dJ7_fill_53178_13 rfl (fun h2 _ => ?_)
    refine z_iinc (lv2 := [(2, .int (x2 + (nI 1))), (0, .ref (b0 + x0)), (1, .int x1), (3, .int x3)]) (nI 1) 17 3 dJ7_fill_53178_14 rfl rfl zki_1 (Nat.le_of_ble_eq_true rfl) rfl ?_
    refine z_goto 5 dJ7_fill_53178_17 (by decide) ?_
    exact z_sub [1, 2, 3, 0] rfl (hself5 (x2 + (nI 1)) h2)
theorem BJ7_fill_53178_5 (b0 : Nat) (x0 : Nat) (x1 : Int32) (x3 : Int32) (n : Nat) (x2 : Int32) (h : ZH) : Zr zv b0 YJ7_fill_53178 1 5 [(0, .ref (b0 + x0)), (1, .int x1), (3, .int x3), (2, .int x2)] [] h (zloop (lJ7_fill_53178_5 x0 x1 x3) n (x2, h)) :=
  zloop_Zr (fun s => [(0, .ref (b0 + x0)), (1, .int x1), (3, .int x3), (2, .int s.1)]) (fun _ => []) (fun s => s.2) (lJ7_fill_53178_5 x0 x1 x3) (fun self hs s => KJ7_fill_53178_5 b0 x0 x1 x3 self (fun y2 hh => hs (y2, hh)) s.1 s.2) n (x2, h)
def fJ7_fill_53178 (x0 : Nat) (x1 : Int32) (h : ZH) : Option (ZH) :=
  (zlen h x0).bind fun v1 =>
  zloop (lJ7_fill_53178_5 x0 x1 v1) zfu ((nI 0), h)
theorem mJ7_fill_53178 (b0 : Nat) (x0 : Nat) (x1 : Int32) (h : ZH) : ZM zv b0 YJ7_fill_53178 1 [.ref (b0 + x0), .int x1] h (fJ7_fill_53178 x0 x1 h) := by
  unfold fJ7_fill_53178
  refine ZM.of (by decide) rfl (Nat.le_of_ble_eq_true rfl) (fun _ => trivial) ?_
  refine z_sub (lv2 := [(0, .ref (b0 + x0)), (1, .int x1)]) [0, 1] rfl ?_
  refine z_iconst (nI 0) 1 zki_0 dJ7_fill_53178_0 rfl ?_
  refine z_istore_n (lv2 := [(2, .int (nI 0)), (0, .ref (b0 + x0)), (1, .int x1)]) 2 dJ7_fill_53178_1 rfl (Nat.le_of_ble_eq_true rfl) rfl ?_
  refine z_aload_n 3 1 dJ7_fill_53178_2 rfl rfl ?_
  refine z_alen 4 dJ7_fill_53178_3 rfl (fun v1 _ => ?_)
  refine z_istore_n (lv2 := [(3, .int v1), (2, .int (nI 0)), (0, .ref (b0 + x0)), (1, .int x1)]) 5 dJ7_fill_53178_4 rfl (Nat.le_of_ble_eq_true rfl) rfl ?_
  exact z_sub [2, 3, 0, 1] rfl (BJ7_fill_53178_5 b0 x0 x1 v1 zfu (nI 0) h)
-- X1_clear
def fX1_clear (x0 : Nat) (h : ZH) : Option (ZH) :=
  if x0 < zn h ∧ zK h x0 = 1 then ((gR h 1 x0 0).bind fun v1 =>
  (fJ7_fill_53178 v1 (nI 0) h).bind fun h2 =>
  some h2) else none
theorem kX1_clear {x0 : Nat} {h : ZH} {x : ZH} (e : fX1_clear x0 h = some x) : x0 < zn h ∧ zK h x0 = 1 := by
  unfold fX1_clear at e
  exact zguard e
theorem mX1_clear (b0 : Nat) (x0 : Nat) (h : ZH) : ZM zv b0 YX1_clear 2 [.ref (b0 + x0)] h (fX1_clear x0 h) := by
  unfold fX1_clear
  refine ZM.of (by decide) rfl (Nat.le_of_ble_eq_true rfl) (fun _ => trivial) ?_
  refine z_sub (lv2 := [(0, .ref (b0 + x0))]) [0] rfl ?_
  refine z_guard (fun _ => ?_)
  refine z_aload_n 1 0 dX1_clear_0 rfl rfl ?_
  refine z_getR 4 zC1 (Nat.le_of_ble_eq_true rfl) rfl w_40 dX1_clear_1 rfl (fun v1 _ => ?_)
  refine z_iconst (nI 0) 5 zki_0 dX1_clear_4 rfl ?_
  refine z_callSv 8 (mJ7_fill_53178 b0 v1 (nI 0) h) zyJ7_fill_53178 rfl w_393 wt_yJ7_fill_53178 (Nat.le_of_ble_eq_true rfl) rfl (Nat.le_of_ble_eq_true rfl) dX1_clear_5 rfl (fun h2 => ?_)
  exact z_return dX1_clear_8 rfl
-- X10_isVertex
def bX10_isVertex_15 (t0 : Int32) (h : ZH) : Option (Int32 × ZH) :=
  if t0 = 0 ∨ t0 = 1 then some (t0, h) else none
theorem BX10_isVertex_15 (b0 : Nat) (t0 : Int32) (h : ZH) : Zr zi b0 YX10_isVertex 1 15 [] [.int t0] h (bX10_isVertex_15 t0 h) := by
  unfold bX10_isVertex_15
  exact z_zreturn dX10_isVertex_15 rfl
def bX10_isVertex_14 (h : ZH) : Option (Int32 × ZH) :=
  bX10_isVertex_15 (nI 0) h
theorem BX10_isVertex_14 (b0 : Nat) (h : ZH) : Zr zi b0 YX10_isVertex 1 14 [] [] h (bX10_isVertex_14 h) := by
  unfold bX10_isVertex_14
  refine z_iconst (nI 0) 15 zki_0 dX10_isVertex_14 rfl ?_
  exact z_sub [] rfl (BX10_isVertex_15 b0 (nI 0) h )
def fX10_isVertex (x0 : Int32) (h : ZH) : Option (Int32 × ZH) :=
  if x0 < 0 then (bX10_isVertex_14 h) else
  (if (nI 8) ≤ x0 then (bX10_isVertex_14 h) else
  (bX10_isVertex_15 (nI 1) h))
theorem mX10_isVertex (b0 : Nat) (x0 : Int32) (h : ZH) : ZM zi b0 YX10_isVertex 1 [.int x0] h (fX10_isVertex x0 h) := by
  unfold fX10_isVertex
  refine ZM.of (by decide) rfl (Nat.le_of_ble_eq_true rfl) (fun _ => trivial) ?_
  refine z_sub (lv2 := [(0, .int x0)]) [0] rfl ?_
  refine z_iload_n 1 0 dX10_isVertex_0 rfl rfl ?_
  refine z_if_lt 14 4 dX10_isVertex_1 (by decide) rfl (fun c1 => ?_) (fun c1 => ?_)
  · exact z_sub [] rfl (BX10_isVertex_14 b0 h )
  · refine z_iload_n 5 0 dX10_isVertex_4 rfl rfl ?_
    refine z_bipush (nI 8) 7 zkb_8 dX10_isVertex_5 rfl ?_
    refine z_icmp_ge 14 10 dX10_isVertex_7 (by decide) rfl (fun c2 => ?_) (fun c2 => ?_)
    · exact z_sub [] rfl (BX10_isVertex_14 b0 h )
    · refine z_iconst (nI 1) 11 zki_1 dX10_isVertex_10 rfl ?_
      refine z_goto 15 dX10_isVertex_11 (by decide) ?_
      exact z_sub [] rfl (BX10_isVertex_15 b0 (nI 1) h )
-- X10_isLetter
def bX10_isLetter_14 (t0 : Int32) (h : ZH) : Option (Int32 × ZH) :=
  if t0 = 0 ∨ t0 = 1 then some (t0, h) else none
theorem BX10_isLetter_14 (b0 : Nat) (t0 : Int32) (h : ZH) : Zr zi b0 YX10_isLetter 1 14 [] [.int t0] h (bX10_isLetter_14 t0 h) := by
  unfold bX10_isLetter_14
  exact z_zreturn dX10_isLetter_14 rfl
def bX10_isLetter_13 (h : ZH) : Option (Int32 × ZH) :=
  bX10_isLetter_14 (nI 0) h
theorem BX10_isLetter_13 (b0 : Nat) (h : ZH) : Zr zi b0 YX10_isLetter 1 13 [] [] h (bX10_isLetter_13 h) := by
  unfold bX10_isLetter_13
  refine z_iconst (nI 0) 14 zki_0 dX10_isLetter_13 rfl ?_
  exact z_sub [] rfl (BX10_isLetter_14 b0 (nI 0) h )
def fX10_isLetter (x0 : Int32) (h : ZH) : Option (Int32 × ZH) :=
  if x0 < 0 then (bX10_isLetter_13 h) else
  (if (nI 4) ≤ x0 then (bX10_isLetter_13 h) else
  (bX10_isLetter_14 (nI 1) h))
theorem mX10_isLetter (b0 : Nat) (x0 : Int32) (h : ZH) : ZM zi b0 YX10_isLetter 1 [.int x0] h (fX10_isLetter x0 h) := by
  unfold fX10_isLetter
  refine ZM.of (by decide) rfl (Nat.le_of_ble_eq_true rfl) (fun _ => trivial) ?_
  refine z_sub (lv2 := [(0, .int x0)]) [0] rfl ?_
  refine z_iload_n 1 0 dX10_isLetter_0 rfl rfl ?_
  refine z_if_lt 13 4 dX10_isLetter_1 (by decide) rfl (fun c1 => ?_) (fun c1 => ?_)
  · exact z_sub [] rfl (BX10_isLetter_13 b0 h )
  · refine z_iload_n 5 0 dX10_isLetter_4 rfl rfl ?_
    refine z_iconst (nI 4) 6 zki_4 dX10_isLetter_5 rfl ?_
    refine z_icmp_ge 13 9 dX10_isLetter_6 (by decide) rfl (fun c2 => ?_) (fun c2 => ?_)
    · exact z_sub [] rfl (BX10_isLetter_13 b0 h )
    · refine z_iconst (nI 1) 10 zki_1 dX10_isLetter_9 rfl ?_
      refine z_goto 14 dX10_isLetter_10 (by decide) ?_
      exact z_sub [] rfl (BX10_isLetter_14 b0 (nI 1) h )
-- X1_link
def bX1_link_32 (h : ZH) : Option (ZH) :=
  some h
theorem BX1_link_32 (b0 : Nat) (h : ZH) : Zr zv b0 YX1_link 2 32 [] [] h (bX1_link_32 h) := by
  unfold bX1_link_32
  exact z_return dX1_link_32 rfl
def fX1_link (x0 : Nat) (x1 : Int32) (x2 : Int32) (x3 : Int32) (h : ZH) : Option (ZH) :=
  if x0 < zn h ∧ zK h x0 = 1 then ((fX10_isVertex x1 h).bind fun q1 =>
  if q1.1 = 0 then (bX1_link_32 q1.2) else
  ((fX10_isLetter x2 q1.2).bind fun q3 =>
  if q3.1 = 0 then (bX1_link_32 q3.2) else
  ((gR q3.2 1 x0 0).bind fun v5 =>
  zl (((nI 4) * x1) + x2) fun v6 =>
  (lI q3.2 14 v5 v6).bind fun v7 =>
  (sI q3.2 14 v5 v6 (v7 ||| (x3 &&& (nI 255)))).bind fun h8 =>
  bX1_link_32 h8))) else none
theorem kX1_link {x0 : Nat} {x1 : Int32} {x2 : Int32} {x3 : Int32} {h : ZH} {x : ZH} (e : fX1_link x0 x1 x2 x3 h = some x) : x0 < zn h ∧ zK h x0 = 1 := by
  unfold fX1_link at e
  exact zguard e
theorem mX1_link (b0 : Nat) (x0 : Nat) (x1 : Int32) (x2 : Int32) (x3 : Int32) (h : ZH) : ZM zv b0 YX1_link 2 [.ref (b0 + x0), .int x1, .int x2, .int x3] h (fX1_link x0 x1 x2 x3 h) := by
  unfold fX1_link
  refine ZM.of (by decide) rfl (Nat.le_of_ble_eq_true rfl) (fun _ => trivial) ?_
  refine z_sub (lv2 := [(0, .ref (b0 + x0)), (1, .int x1), (2, .int x2), (3, .int x3)]) [0, 1, 2, 3] rfl ?_
  refine z_guard (fun _ => ?_)
  refine z_iload_n 1 1 dX1_link_0 rfl rfl ?_
  refine z_callSNi 4 (mX10_isVertex b0 x1 h) zyX10_isVertex rfl (List.mem_of_getElem? (i := 12) rfl) wt_yX10_isVertex (Nat.le_of_ble_eq_true rfl) rfl (Nat.le_of_ble_eq_true rfl) dX1_link_1 rfl (fun q1 => ?_)
  refine z_if_eq 32 7 dX1_link_4 (by decide) rfl (fun c2 => ?_) (fun c2 => ?_)
  · exact z_sub [] rfl (BX1_link_32 b0 q1.2 )
  · refine z_iload_n 8 2 dX1_link_7 rfl rfl ?_
    refine z_callSNi 11 (mX10_isLetter b0 x2 q1.2) zyX10_isLetter rfl (List.mem_of_getElem? (i := 13) rfl) wt_yX10_isLetter (Nat.le_of_ble_eq_true rfl) rfl (Nat.le_of_ble_eq_true rfl) dX1_link_8 rfl (fun q3 => ?_)
    refine z_if_eq 32 14 dX1_link_11 (by decide) rfl (fun c4 => ?_) (fun c4 => ?_)
    · exact z_sub [] rfl (BX1_link_32 b0 q3.2 )
    · refine z_aload_n 15 0 dX1_link_14 rfl rfl ?_
      refine z_getR 18 zC1 (Nat.le_of_ble_eq_true rfl) rfl w_40 dX1_link_15 rfl (fun v5 _ => ?_)
      refine z_iconst (nI 4) 19 zki_4 dX1_link_18 rfl ?_
      refine z_iload_n 20 1 dX1_link_19 rfl rfl ?_
      refine z_imul 21 dX1_link_20 rfl ?_
      refine z_iload_n 22 2 dX1_link_21 rfl rfl ?_
      refine z_iadd 23 dX1_link_22 rfl ?_
      refine z_letI (fun v6 _ => ?_)
      refine z_dup2 24 rfl rfl dX1_link_23 rfl ?_
      refine z_iaload 25 dX1_link_24 rfl (fun v7 _ => ?_)
      refine z_iload_n 26 3 dX1_link_25 rfl rfl ?_
      refine z_sipush (nI 255) 29 zks_255 dX1_link_26 rfl ?_
      refine z_iand 30 dX1_link_29 rfl ?_
      refine z_ior 31 dX1_link_30 rfl ?_
      refine z_iastore 32 dX1_link_31 rfl (fun h8 _ => ?_)
      exact z_sub [] rfl (BX1_link_32 b0 h8 )
-- X1_put
def bX1_put_16 (h : ZH) : Option (ZH) :=
  some h
theorem BX1_put_16 (b0 : Nat) (h : ZH) : Zr zv b0 YX1_put 3 16 [] [] h (bX1_put_16 h) := by
  unfold bX1_put_16
  exact z_return dX1_put_16 rfl
def fX1_put (x0 : Nat) (x1 : Int32) (x2 : Int32) (x3 : Int32) (h : ZH) : Option (ZH) :=
  if x0 < zn h ∧ zK h x0 = 1 then ((fX10_isVertex x3 h).bind fun q1 =>
  if q1.1 = 0 then (bX1_put_16 q1.2) else
  ((fX1_link x0 x1 x2 (jshl (nI 1) x3) q1.2).bind fun h3 =>
  bX1_put_16 h3)) else none
theorem kX1_put {x0 : Nat} {x1 : Int32} {x2 : Int32} {x3 : Int32} {h : ZH} {x : ZH} (e : fX1_put x0 x1 x2 x3 h = some x) : x0 < zn h ∧ zK h x0 = 1 := by
  unfold fX1_put at e
  exact zguard e
theorem mX1_put (b0 : Nat) (x0 : Nat) (x1 : Int32) (x2 : Int32) (x3 : Int32) (h : ZH) : ZM zv b0 YX1_put 3 [.ref (b0 + x0), .int x1, .int x2, .int x3] h (fX1_put x0 x1 x2 x3 h) := by
  unfold fX1_put
  refine ZM.of (by decide) rfl (Nat.le_of_ble_eq_true rfl) (fun _ => trivial) ?_
  refine z_sub (lv2 := [(0, .ref (b0 + x0)), (1, .int x1), (2, .int x2), (3, .int x3)]) [0, 1, 2, 3] rfl ?_
  refine z_guard (fun _ => ?_)
  refine z_iload_n 1 3 dX1_put_0 rfl rfl ?_
  refine z_callSNi 4 (mX10_isVertex b0 x3 h) zyX10_isVertex rfl (List.mem_of_getElem? (i := 12) rfl) wt_yX10_isVertex (Nat.le_of_ble_eq_true rfl) rfl (Nat.le_of_ble_eq_true rfl) dX1_put_1 rfl (fun q1 => ?_)
  refine z_if_eq 16 7 dX1_put_4 (by decide) rfl (fun c2 => ?_) (fun c2 => ?_)
  · exact z_sub [] rfl (BX1_put_16 b0 q1.2 )
  · refine z_aload_n 8 0 dX1_put_7 rfl rfl ?_
    refine z_iload_n 9 1 dX1_put_8 rfl rfl ?_
    refine z_iload_n 10 2 dX1_put_9 rfl rfl ?_
    refine z_iconst (nI 1) 11 zki_1 dX1_put_10 rfl ?_
    refine z_iload_n 12 3 dX1_put_11 rfl rfl ?_
    refine z_ishl 13 dX1_put_12 rfl ?_
    refine z_callVv 16 (mX1_link b0 x0 x1 x2 (jshl (nI 1) x3) q1.2) zyX1_link rfl w_328 (ci := 1) rfl (Nat.le_of_ble_eq_true rfl) (fun _ e9 => kX1_link e9) wm_yX1_link ws_yX1_link (Nat.le_of_ble_eq_true rfl) rfl (Nat.le_of_ble_eq_true rfl) dX1_put_13 rfl (fun h3 => ?_)
    exact z_sub [] rfl (BX1_put_16 b0 h3 )
-- X0_linkClasses
def bX0_linkClasses_66 (h : ZH) : Option (ZH) :=
  some h
theorem BX0_linkClasses_66 (b0 : Nat) (h : ZH) : Zr zv b0 YX0_linkClasses 4 66 [] [] h (bX0_linkClasses_66 h) := by
  unfold bX0_linkClasses_66
  exact z_return dX0_linkClasses_66 rfl
def kX0_linkClasses_25 (self9 : Int32 × ZH → Option (ZH)) (x0 : Nat) (x1 : Nat) (x2 : Int32) (self25 : Int32 × ZH → Option (ZH)) (x3 : Int32) (h : ZH) : Option (ZH) :=
  if (nI 4) ≤ x3 then (self9 ((x2 + (nI 1)), h)) else
  ((gR h 0 x0 8).bind fun v2 =>
  (gR h 0 x0 6).bind fun v3 =>
  (lI h 14 v3 x2).bind fun v4 =>
  (fX6_after x1 v4 x3 h).bind fun q5 =>
  (fX0_classOf x0 q5.1 q5.2).bind fun q6 =>
  (fX1_put v2 x2 x3 q6.1 q6.2).bind fun h7 =>
  self25 ((x3 + (nI 1)), h7))
def lX0_linkClasses_25 (self9 : Int32 × ZH → Option (ZH)) (x0 : Nat) (x1 : Nat) (x2 : Int32) : (Int32 × ZH → Option (ZH)) → Int32 × ZH → Option (ZH) := fun self s => kX0_linkClasses_25 self9 x0 x1 x2 self s.1 s.2
theorem KX0_linkClasses_25 (b0 : Nat) (self9 : Int32 × ZH → Option (ZH)) (x0 : Nat) (x1 : Nat) (x2 : Int32) (hself9 : ∀ (y2 : Int32) (hh : ZH), Zr zv b0 YX0_linkClasses 4 9 [(0, .ref (b0 + x0)), (1, .ref (b0 + x1)), (2, .int y2)] [] hh (self9 (y2, hh))) (self25 : Int32 × ZH → Option (ZH)) (hself25 : ∀ (y3 : Int32) (hh : ZH), Zr zv b0 YX0_linkClasses 4 25 [(0, .ref (b0 + x0)), (1, .ref (b0 + x1)), (2, .int x2), (3, .int y3)] [] hh (self25 (y3, hh))) (x3 : Int32) (h : ZH) : Zr zv b0 YX0_linkClasses 4 25 [(0, .ref (b0 + x0)), (1, .ref (b0 + x1)), (2, .int x2), (3, .int x3)] [] h (kX0_linkClasses_25 self9 x0 x1 x2 self25 x3 h) := by
  unfold kX0_linkClasses_25
  refine z_iload_n 26 3 dX0_linkClasses_25 rfl rfl ?_
  refine z_iconst (nI 4) 27 zki_4 dX0_linkClasses_26 rfl ?_
  refine z_icmp_ge 60 30 dX0_linkClasses_27 (by decide) rfl (fun c1 => ?_) (fun c1 => ?_)
  · refine z_iinc (lv2 := [(2, .int (x2 + (nI 1))), (0, .ref (b0 + x0)), (1, .ref (b0 + x1)), (3, .int x3)]) (nI 1) 63 2 dX0_linkClasses_60 rfl rfl zki_1 (Nat.le_of_ble_eq_true rfl) rfl ?_
    refine z_goto 9 dX0_linkClasses_63 (by decide) ?_
    exact z_sub [1, 2, 0] rfl (hself9 (x2 + (nI 1)) h)
  · refine z_aload_n 31 0 dX0_linkClasses_30 rfl rfl ?_
    refine z_getR 34 zC0 (Nat.le_of_ble_eq_true rfl) rfl w_151 dX0_linkClasses_31 rfl (fun v2 _ => ?_)
    refine z_iload_n 35 2 dX0_linkClasses_34 rfl rfl ?_
    refine z_iload_n 36 3 dX0_linkClasses_35 rfl rfl ?_
    refine z_aload_n 37 0 dX0_linkClasses_36 rfl rfl ?_
    refine z_aload_n 38 1 dX0_linkClasses_37 rfl rfl ?_
    refine z_aload_n 39 0 dX0_linkClasses_38 rfl rfl ?_
    refine z_getR 42 zC0 (Nat.le_of_ble_eq_true rfl) rfl w_149 dX0_linkClasses_39 rfl (fun v3 _ => ?_)
    refine z_iload_n 43 2 dX0_linkClasses_42 rfl rfl ?_
    refine z_iaload 44 dX0_linkClasses_43 rfl (fun v4 _ => ?_)
    refine z_iload_n 45 3 dX0_linkClasses_44 rfl rfl ?_
    refine z_callVi 48 (mX6_after b0 x1 v4 x3 h) zyX6_after rfl w_660 (ci := 6) rfl (Nat.le_of_ble_eq_true rfl) (fun _ e9 => kX6_after e9) wm_yX6_after ws_yX6_after (Nat.le_of_ble_eq_true rfl) rfl (Nat.le_of_ble_eq_true rfl) dX0_linkClasses_45 rfl (fun q5 => ?_)
    refine z_callVi 51 (mX0_classOf b0 x0 q5.1 q5.2) zyX0_classOf rfl w_683 (ci := 0) rfl (Nat.le_of_ble_eq_true rfl) (fun _ e9 => kX0_classOf e9) wm_yX0_classOf ws_yX0_classOf (Nat.le_of_ble_eq_true rfl) rfl (Nat.le_of_ble_eq_true rfl) dX0_linkClasses_48 rfl (fun q6 => ?_)
    refine z_callVv 54 (mX1_put b0 v2 x2 x3 q6.1 q6.2) zyX1_put rfl w_693 (ci := 1) rfl (Nat.le_of_ble_eq_true rfl) (fun _ e9 => kX1_put e9) wm_yX1_put ws_yX1_put (Nat.le_of_ble_eq_true rfl) rfl (Nat.le_of_ble_eq_true rfl) dX0_linkClasses_51 rfl (fun h7 => ?_)
    refine z_iinc (lv2 := [(3, .int (x3 + (nI 1))), (0, .ref (b0 + x0)), (1, .ref (b0 + x1)), (2, .int x2)]) (nI 1) 57 3 dX0_linkClasses_54 rfl rfl zki_1 (Nat.le_of_ble_eq_true rfl) rfl ?_
    refine z_goto 25 dX0_linkClasses_57 (by decide) ?_
    exact z_sub [1, 2, 3, 0] rfl (hself25 (x3 + (nI 1)) h7)
theorem BX0_linkClasses_25 (b0 : Nat) (self9 : Int32 × ZH → Option (ZH)) (x0 : Nat) (x1 : Nat) (x2 : Int32) (hself9 : ∀ (y2 : Int32) (hh : ZH), Zr zv b0 YX0_linkClasses 4 9 [(0, .ref (b0 + x0)), (1, .ref (b0 + x1)), (2, .int y2)] [] hh (self9 (y2, hh))) (n : Nat) (x3 : Int32) (h : ZH) : Zr zv b0 YX0_linkClasses 4 25 [(0, .ref (b0 + x0)), (1, .ref (b0 + x1)), (2, .int x2), (3, .int x3)] [] h (zloop (lX0_linkClasses_25 self9 x0 x1 x2) n (x3, h)) :=
  zloop_Zr (fun s => [(0, .ref (b0 + x0)), (1, .ref (b0 + x1)), (2, .int x2), (3, .int s.1)]) (fun _ => []) (fun s => s.2) (lX0_linkClasses_25 self9 x0 x1 x2) (fun self hs s => KX0_linkClasses_25 b0 self9 x0 x1 x2 hself9 self (fun y3 hh => hs (y3, hh)) s.1 s.2) n (x3, h)
def kX0_linkClasses_9 (x0 : Nat) (x1 : Nat) (self9 : Int32 × ZH → Option (ZH)) (x2 : Int32) (h : ZH) : Option (ZH) :=
  (gI h 0 x0 7).bind fun v1 =>
  if v1 ≤ x2 then (bX0_linkClasses_66 h) else
  (if (nI 8) ≤ x2 then (bX0_linkClasses_66 h) else
  (zloop (lX0_linkClasses_25 self9 x0 x1 x2) zfu ((nI 0), h)))
def lX0_linkClasses_9 (x0 : Nat) (x1 : Nat) : (Int32 × ZH → Option (ZH)) → Int32 × ZH → Option (ZH) := fun self s => kX0_linkClasses_9 x0 x1 self s.1 s.2
theorem KX0_linkClasses_9 (b0 : Nat) (x0 : Nat) (x1 : Nat) (self9 : Int32 × ZH → Option (ZH)) (hself9 : ∀ (y2 : Int32) (hh : ZH), Zr zv b0 YX0_linkClasses 4 9 [(0, .ref (b0 + x0)), (1, .ref (b0 + x1)), (2, .int y2)] [] hh (self9 (y2, hh))) (x2 : Int32) (h : ZH) : Zr zv b0 YX0_linkClasses 4 9 [(0, .ref (b0 + x0)), (1, .ref (b0 + x1)), (2, .int x2)] [] h (kX0_linkClasses_9 x0 x1 self9 x2 h) := by
  unfold kX0_linkClasses_9
  refine z_iload_n 10 2 dX0_linkClasses_9 rfl rfl ?_
  refine z_aload_n 11 0 dX0_linkClasses_10 rfl rfl ?_
  refine z_getI 14 zC0 (Nat.le_of_ble_eq_true rfl) rfl w_150 dX0_linkClasses_11 rfl (fun v1 _ => ?_)
  refine z_icmp_ge 66 17 dX0_linkClasses_14 (by decide) rfl (fun c2 => ?_) (fun c2 => ?_)
  · exact z_sub [] rfl (BX0_linkClasses_66 b0 h )
  · refine z_iload_n 18 2 dX0_linkClasses_17 rfl rfl ?_
    refine z_bipush (nI 8) 20 zkb_8 dX0_linkClasses_18 rfl ?_
    refine z_icmp_ge 66 23 dX0_linkClasses_20 (by decide) rfl (fun c3 => ?_) (fun c3 => ?_)
    · exact z_sub [] rfl (BX0_linkClasses_66 b0 h )
    · refine z_iconst (nI 0) 24 zki_0 dX0_linkClasses_23 rfl ?_
      refine z_istore_n (lv2 := [(3, .int (nI 0)), (0, .ref (b0 + x0)), (1, .ref (b0 + x1)), (2, .int x2)]) 25 dX0_linkClasses_24 rfl (Nat.le_of_ble_eq_true rfl) rfl ?_
      exact z_sub [1, 2, 3, 0] rfl (BX0_linkClasses_25 b0 self9 x0 x1 x2 hself9 zfu (nI 0) h)
theorem BX0_linkClasses_9 (b0 : Nat) (x0 : Nat) (x1 : Nat) (n : Nat) (x2 : Int32) (h : ZH) : Zr zv b0 YX0_linkClasses 4 9 [(0, .ref (b0 + x0)), (1, .ref (b0 + x1)), (2, .int x2)] [] h (zloop (lX0_linkClasses_9 x0 x1) n (x2, h)) :=
  zloop_Zr (fun s => [(0, .ref (b0 + x0)), (1, .ref (b0 + x1)), (2, .int s.1)]) (fun _ => []) (fun s => s.2) (lX0_linkClasses_9 x0 x1) (fun self hs s => KX0_linkClasses_9 b0 x0 x1 self (fun y2 hh => hs (y2, hh)) s.1 s.2) n (x2, h)
def fX0_linkClasses (x0 : Nat) (x1 : Nat) (h : ZH) : Option (ZH) :=
  if x0 < zn h ∧ zK h x0 = 0 then ((gR h 0 x0 8).bind fun v1 =>
  (fX1_clear v1 h).bind fun h2 =>
  zloop (lX0_linkClasses_9 x0 x1) zfu ((nI 0), h2)) else none
theorem kX0_linkClasses {x0 : Nat} {x1 : Nat} {h : ZH} {x : ZH} (e : fX0_linkClasses x0 x1 h = some x) : x0 < zn h ∧ zK h x0 = 0 := by
  unfold fX0_linkClasses at e
  exact zguard e
theorem mX0_linkClasses (b0 : Nat) (x0 : Nat) (x1 : Nat) (h : ZH) : ZM zv b0 YX0_linkClasses 4 [.ref (b0 + x0), .ref (b0 + x1)] h (fX0_linkClasses x0 x1 h) := by
  unfold fX0_linkClasses
  refine ZM.of (by decide) rfl (Nat.le_of_ble_eq_true rfl) (fun _ => trivial) ?_
  refine z_sub (lv2 := [(0, .ref (b0 + x0)), (1, .ref (b0 + x1))]) [0, 1] rfl ?_
  refine z_guard (fun _ => ?_)
  refine z_aload_n 1 0 dX0_linkClasses_0 rfl rfl ?_
  refine z_getR 4 zC0 (Nat.le_of_ble_eq_true rfl) rfl w_151 dX0_linkClasses_1 rfl (fun v1 _ => ?_)
  refine z_callVv 7 (mX1_clear b0 v1 h) zyX1_clear rfl w_692 (ci := 1) rfl (Nat.le_of_ble_eq_true rfl) (fun _ e9 => kX1_clear e9) wm_yX1_clear ws_yX1_clear (Nat.le_of_ble_eq_true rfl) rfl (Nat.le_of_ble_eq_true rfl) dX0_linkClasses_4 rfl (fun h2 => ?_)
  refine z_iconst (nI 0) 8 zki_0 dX0_linkClasses_7 rfl ?_
  refine z_istore_n (lv2 := [(2, .int (nI 0)), (0, .ref (b0 + x0)), (1, .ref (b0 + x1))]) 9 dX0_linkClasses_8 rfl (Nat.le_of_ble_eq_true rfl) rfl ?_
  exact z_sub [1, 2, 0] rfl (BX0_linkClasses_9 b0 x0 x1 zfu (nI 0) h2)
-- X0_leadAlike
def bX0_leadAlike_72 (x4 : Int32) (h : ZH) : Option (Int32 × ZH) :=
  if x4 = 0 ∨ x4 = 1 then some (x4, h) else none
theorem BX0_leadAlike_72 (b0 : Nat) (x4 : Int32) (h : ZH) : Zr zi b0 YX0_leadAlike 2 72 [(4, .int x4)] [] h (bX0_leadAlike_72 x4 h) := by
  unfold bX0_leadAlike_72
  refine z_iload 74 0 dX0_leadAlike_72 rfl rfl ?_
  exact z_zreturn dX0_leadAlike_74 rfl
def bX0_leadAlike_64 (self23 : Int32 × Int32 × ZH → Option (Int32 × ZH)) (x0 : Nat) (x1 : Nat) (x2 : Int32) (x3 : Int32) (x5 : Int32) (t0 : Int32) (h : ZH) : Option (Int32 × ZH) :=
  self23 (t0, (x5 + (nI 1)), h)
theorem BX0_leadAlike_64 (b0 : Nat) (self23 : Int32 × Int32 × ZH → Option (Int32 × ZH)) (x0 : Nat) (x1 : Nat) (x2 : Int32) (x3 : Int32) (x5 : Int32) (t0 : Int32) (h : ZH) (hself23 : ∀ (y4 : Int32) (y5 : Int32) (hh : ZH), Zr zi b0 YX0_leadAlike 2 23 [(0, .ref (b0 + x0)), (1, .ref (b0 + x1)), (2, .int x2), (3, .int x3), (4, .int y4), (5, .int y5)] [] hh (self23 (y4, y5, hh))) : Zr zi b0 YX0_leadAlike 2 64 [(0, .ref (b0 + x0)), (1, .ref (b0 + x1)), (2, .int x2), (3, .int x3), (5, .int x5)] [.int t0] h (bX0_leadAlike_64 self23 x0 x1 x2 x3 x5 t0 h) := by
  unfold bX0_leadAlike_64
  refine z_istore (lv2 := [(4, .int t0), (0, .ref (b0 + x0)), (1, .ref (b0 + x1)), (2, .int x2), (3, .int x3), (5, .int x5)]) 66 dX0_leadAlike_64 rfl (Nat.le_of_ble_eq_true rfl) rfl ?_
  refine z_iinc (lv2 := [(5, .int (x5 + (nI 1))), (4, .int t0), (0, .ref (b0 + x0)), (1, .ref (b0 + x1)), (2, .int x2), (3, .int x3)]) (nI 1) 69 5 dX0_leadAlike_66 rfl rfl zki_1 (Nat.le_of_ble_eq_true rfl) rfl ?_
  refine z_goto 23 dX0_leadAlike_69 (by decide) ?_
  exact z_sub [2, 3, 4, 5, 1, 0] rfl (hself23 t0 (x5 + (nI 1)) h)
def kX0_leadAlike_23 (x0 : Nat) (x1 : Nat) (x2 : Int32) (x3 : Int32) (self23 : Int32 × Int32 × ZH → Option (Int32 × ZH)) (x4 : Int32) (x5 : Int32) (h : ZH) : Option (Int32 × ZH) :=
  if (nI 4) ≤ x5 then (bX0_leadAlike_72 x4 h) else
  (if x4 = 0 then (bX0_leadAlike_72 x4 h) else
  ((fX6_after x1 x2 x5 h).bind fun q3 =>
  (fX0_classOf x0 q3.1 q3.2).bind fun q4 =>
  (fX6_after x1 x3 x5 q4.2).bind fun q5 =>
  (fX0_classOf x0 q5.1 q5.2).bind fun q6 =>
  if q4.1 = q6.1 then (bX0_leadAlike_64 self23 x0 x1 x2 x3 x5 (nI 1) q6.2) else
  (bX0_leadAlike_64 self23 x0 x1 x2 x3 x5 (nI 0) q6.2)))
def lX0_leadAlike_23 (x0 : Nat) (x1 : Nat) (x2 : Int32) (x3 : Int32) : (Int32 × Int32 × ZH → Option (Int32 × ZH)) → Int32 × Int32 × ZH → Option (Int32 × ZH) := fun self s => kX0_leadAlike_23 x0 x1 x2 x3 self s.1 s.2.1 s.2.2
theorem KX0_leadAlike_23 (b0 : Nat) (x0 : Nat) (x1 : Nat) (x2 : Int32) (x3 : Int32) (self23 : Int32 × Int32 × ZH → Option (Int32 × ZH)) (hself23 : ∀ (y4 : Int32) (y5 : Int32) (hh : ZH), Zr zi b0 YX0_leadAlike 2 23 [(0, .ref (b0 + x0)), (1, .ref (b0 + x1)), (2, .int x2), (3, .int x3), (4, .int y4), (5, .int y5)] [] hh (self23 (y4, y5, hh))) (x4 : Int32) (x5 : Int32) (h : ZH) : Zr zi b0 YX0_leadAlike 2 23 [(0, .ref (b0 + x0)), (1, .ref (b0 + x1)), (2, .int x2), (3, .int x3), (4, .int x4), (5, .int x5)] [] h (kX0_leadAlike_23 x0 x1 x2 x3 self23 x4 x5 h) := by
  unfold kX0_leadAlike_23
  refine z_iload 25 5 dX0_leadAlike_23 rfl rfl ?_
  refine z_iconst (nI 4) 26 zki_4 dX0_leadAlike_25 rfl ?_
  refine z_icmp_ge 72 29 dX0_leadAlike_26 (by decide) rfl (fun c1 => ?_) (fun c1 => ?_)
  · exact z_sub [4] rfl (BX0_leadAlike_72 b0 x4 h )
  · refine z_iload 31 4 dX0_leadAlike_29 rfl rfl ?_
    refine z_if_eq 72 34 dX0_leadAlike_31 (by decide) rfl (fun c2 => ?_) (fun c2 => ?_)
    · exact z_sub [4] rfl (BX0_leadAlike_72 b0 x4 h )
    · refine z_aload_n 35 0 dX0_leadAlike_34 rfl rfl ?_
      refine z_aload_n 36 1 dX0_leadAlike_35 rfl rfl ?_
      refine z_iload_n 37 2 dX0_leadAlike_36 rfl rfl ?_
      refine z_iload 39 5 dX0_leadAlike_37 rfl rfl ?_
      refine z_callVi 42 (mX6_after b0 x1 x2 x5 h) zyX6_after rfl w_660 (ci := 6) rfl (Nat.le_of_ble_eq_true rfl) (fun _ e9 => kX6_after e9) wm_yX6_after ws_yX6_after (Nat.le_of_ble_eq_true rfl) rfl (Nat.le_of_ble_eq_true rfl) dX0_leadAlike_39 rfl (fun q3 => ?_)
      refine z_callVi 45 (mX0_classOf b0 x0 q3.1 q3.2) zyX0_classOf rfl w_683 (ci := 0) rfl (Nat.le_of_ble_eq_true rfl) (fun _ e9 => kX0_classOf e9) wm_yX0_classOf ws_yX0_classOf (Nat.le_of_ble_eq_true rfl) rfl (Nat.le_of_ble_eq_true rfl) dX0_leadAlike_42 rfl (fun q4 => ?_)
      refine z_aload_n 46 0 dX0_leadAlike_45 rfl rfl ?_
      refine z_aload_n 47 1 dX0_leadAlike_46 rfl rfl ?_
      refine z_iload_n 48 3 dX0_leadAlike_47 rfl rfl ?_
      refine z_iload 50 5 dX0_leadAlike_48 rfl rfl ?_
      refine z_callVi 53 (mX6_after b0 x1 x3 x5 q4.2) zyX6_after rfl w_660 (ci := 6) rfl (Nat.le_of_ble_eq_true rfl) (fun _ e9 => kX6_after e9) wm_yX6_after ws_yX6_after (Nat.le_of_ble_eq_true rfl) rfl (Nat.le_of_ble_eq_true rfl) dX0_leadAlike_50 rfl (fun q5 => ?_)
      refine z_callVi 56 (mX0_classOf b0 x0 q5.1 q5.2) zyX0_classOf rfl w_683 (ci := 0) rfl (Nat.le_of_ble_eq_true rfl) (fun _ e9 => kX0_classOf e9) wm_yX0_classOf ws_yX0_classOf (Nat.le_of_ble_eq_true rfl) rfl (Nat.le_of_ble_eq_true rfl) dX0_leadAlike_53 rfl (fun q6 => ?_)
      refine z_icmp_ne 63 59 dX0_leadAlike_56 (by decide) rfl (fun c7 => ?_) (fun c7 => ?_)
      · refine z_iconst (nI 0) 64 zki_0 dX0_leadAlike_63 rfl ?_
        exact z_sub [0, 1, 2, 3, 5] rfl (BX0_leadAlike_64 b0 self23 x0 x1 x2 x3 x5 (nI 0) q6.2 hself23)
      · refine z_iconst (nI 1) 60 zki_1 dX0_leadAlike_59 rfl ?_
        refine z_goto 64 dX0_leadAlike_60 (by decide) ?_
        exact z_sub [0, 1, 2, 3, 5] rfl (BX0_leadAlike_64 b0 self23 x0 x1 x2 x3 x5 (nI 1) q6.2 hself23)
theorem BX0_leadAlike_23 (b0 : Nat) (x0 : Nat) (x1 : Nat) (x2 : Int32) (x3 : Int32) (n : Nat) (x4 : Int32) (x5 : Int32) (h : ZH) : Zr zi b0 YX0_leadAlike 2 23 [(0, .ref (b0 + x0)), (1, .ref (b0 + x1)), (2, .int x2), (3, .int x3), (4, .int x4), (5, .int x5)] [] h (zloop (lX0_leadAlike_23 x0 x1 x2 x3) n (x4, x5, h)) :=
  zloop_Zr (fun s => [(0, .ref (b0 + x0)), (1, .ref (b0 + x1)), (2, .int x2), (3, .int x3), (4, .int s.1), (5, .int s.2.1)]) (fun _ => []) (fun s => s.2.2) (lX0_leadAlike_23 x0 x1 x2 x3) (fun self hs s => KX0_leadAlike_23 b0 x0 x1 x2 x3 self (fun y4 y5 hh => hs (y4, y5, hh)) s.1 s.2.1 s.2.2) n (x4, x5, h)
def bX0_leadAlike_18 (x0 : Nat) (x1 : Nat) (x2 : Int32) (x3 : Int32) (t0 : Int32) (h : ZH) : Option (Int32 × ZH) :=
  zloop (lX0_leadAlike_23 x0 x1 x2 x3) zfu (t0, (nI 0), h)
theorem BX0_leadAlike_18 (b0 : Nat) (x0 : Nat) (x1 : Nat) (x2 : Int32) (x3 : Int32) (t0 : Int32) (h : ZH) : Zr zi b0 YX0_leadAlike 2 18 [(0, .ref (b0 + x0)), (1, .ref (b0 + x1)), (2, .int x2), (3, .int x3)] [.int t0] h (bX0_leadAlike_18 x0 x1 x2 x3 t0 h) := by
  unfold bX0_leadAlike_18
  refine z_istore (lv2 := [(4, .int t0), (0, .ref (b0 + x0)), (1, .ref (b0 + x1)), (2, .int x2), (3, .int x3)]) 20 dX0_leadAlike_18 rfl (Nat.le_of_ble_eq_true rfl) rfl ?_
  refine z_iconst (nI 0) 21 zki_0 dX0_leadAlike_20 rfl ?_
  refine z_istore (lv2 := [(5, .int (nI 0)), (4, .int t0), (0, .ref (b0 + x0)), (1, .ref (b0 + x1)), (2, .int x2), (3, .int x3)]) 23 dX0_leadAlike_21 rfl (Nat.le_of_ble_eq_true rfl) rfl ?_
  exact z_sub [2, 3, 4, 5, 1, 0] rfl (BX0_leadAlike_23 b0 x0 x1 x2 x3 zfu t0 (nI 0) h)
def fX0_leadAlike (x0 : Nat) (x1 : Nat) (x2 : Int32) (x3 : Int32) (h : ZH) : Option (Int32 × ZH) :=
  if x0 < zn h ∧ zK h x0 = 0 then ((fX0_classOf x0 x2 h).bind fun q1 =>
  (fX0_classOf x0 x3 q1.2).bind fun q2 =>
  if q1.1 = q2.1 then (bX0_leadAlike_18 x0 x1 x2 x3 (nI 1) q2.2) else
  (bX0_leadAlike_18 x0 x1 x2 x3 (nI 0) q2.2)) else none
theorem kX0_leadAlike {x0 : Nat} {x1 : Nat} {x2 : Int32} {x3 : Int32} {h : ZH} {x : Int32 × ZH} (e : fX0_leadAlike x0 x1 x2 x3 h = some x) : x0 < zn h ∧ zK h x0 = 0 := by
  unfold fX0_leadAlike at e
  exact zguard e
theorem mX0_leadAlike (b0 : Nat) (x0 : Nat) (x1 : Nat) (x2 : Int32) (x3 : Int32) (h : ZH) : ZM zi b0 YX0_leadAlike 2 [.ref (b0 + x0), .ref (b0 + x1), .int x2, .int x3] h (fX0_leadAlike x0 x1 x2 x3 h) := by
  unfold fX0_leadAlike
  refine ZM.of (by decide) rfl (Nat.le_of_ble_eq_true rfl) (fun _ => trivial) ?_
  refine z_sub (lv2 := [(0, .ref (b0 + x0)), (1, .ref (b0 + x1)), (2, .int x2), (3, .int x3)]) [0, 1, 2, 3] rfl ?_
  refine z_guard (fun _ => ?_)
  refine z_aload_n 1 0 dX0_leadAlike_0 rfl rfl ?_
  refine z_iload_n 2 2 dX0_leadAlike_1 rfl rfl ?_
  refine z_callVi 5 (mX0_classOf b0 x0 x2 h) zyX0_classOf rfl w_683 (ci := 0) rfl (Nat.le_of_ble_eq_true rfl) (fun _ e9 => kX0_classOf e9) wm_yX0_classOf ws_yX0_classOf (Nat.le_of_ble_eq_true rfl) rfl (Nat.le_of_ble_eq_true rfl) dX0_leadAlike_2 rfl (fun q1 => ?_)
  refine z_aload_n 6 0 dX0_leadAlike_5 rfl rfl ?_
  refine z_iload_n 7 3 dX0_leadAlike_6 rfl rfl ?_
  refine z_callVi 10 (mX0_classOf b0 x0 x3 q1.2) zyX0_classOf rfl w_683 (ci := 0) rfl (Nat.le_of_ble_eq_true rfl) (fun _ e9 => kX0_classOf e9) wm_yX0_classOf ws_yX0_classOf (Nat.le_of_ble_eq_true rfl) rfl (Nat.le_of_ble_eq_true rfl) dX0_leadAlike_7 rfl (fun q2 => ?_)
  refine z_icmp_ne 17 13 dX0_leadAlike_10 (by decide) rfl (fun c3 => ?_) (fun c3 => ?_)
  · refine z_iconst (nI 0) 18 zki_0 dX0_leadAlike_17 rfl ?_
    exact z_sub [0, 1, 2, 3] rfl (BX0_leadAlike_18 b0 x0 x1 x2 x3 (nI 0) q2.2 )
  · refine z_iconst (nI 1) 14 zki_1 dX0_leadAlike_13 rfl ?_
    refine z_goto 18 dX0_leadAlike_14 (by decide) ?_
    exact z_sub [0, 1, 2, 3] rfl (BX0_leadAlike_18 b0 x0 x1 x2 x3 (nI 1) q2.2 )
-- X0_splitClasses
def bX0_splitClasses_100 (self4 : Int32 × Int32 × ZH → Option (Int32 × ZH)) (x0 : Nat) (x1 : Nat) (x2 : Int32) (x3 : Int32) (h : ZH) : Option (Int32 × ZH) :=
  self4 (x2, (x3 + (nI 1)), h)
theorem BX0_splitClasses_100 (b0 : Nat) (self4 : Int32 × Int32 × ZH → Option (Int32 × ZH)) (x0 : Nat) (x1 : Nat) (x2 : Int32) (x3 : Int32) (h : ZH) (hself4 : ∀ (y2 : Int32) (y3 : Int32) (hh : ZH), Zr zi b0 YX0_splitClasses 3 4 [(0, .ref (b0 + x0)), (1, .ref (b0 + x1)), (2, .int y2), (3, .int y3)] [] hh (self4 (y2, y3, hh))) : Zr zi b0 YX0_splitClasses 3 100 [(0, .ref (b0 + x0)), (1, .ref (b0 + x1)), (2, .int x2), (3, .int x3)] [] h (bX0_splitClasses_100 self4 x0 x1 x2 x3 h) := by
  unfold bX0_splitClasses_100
  refine z_iinc (lv2 := [(3, .int (x3 + (nI 1))), (0, .ref (b0 + x0)), (1, .ref (b0 + x1)), (2, .int x2)]) (nI 1) 103 3 dX0_splitClasses_100 rfl rfl zki_1 (Nat.le_of_ble_eq_true rfl) rfl ?_
  refine z_goto 4 dX0_splitClasses_103 (by decide) ?_
  exact z_sub [1, 2, 3, 0] rfl (hself4 x2 (x3 + (nI 1)) h)
def bX0_splitClasses_92 (self4 : Int32 × Int32 × ZH → Option (Int32 × ZH)) (x0 : Nat) (x1 : Nat) (x2 : Int32) (x3 : Int32) (x4 : Int32) (h : ZH) : Option (Int32 × ZH) :=
  (gR h 0 x0 5).bind fun v1 =>
  (sI h 14 v1 x3 x4).bind fun h2 =>
  bX0_splitClasses_100 self4 x0 x1 x2 x3 h2
theorem BX0_splitClasses_92 (b0 : Nat) (self4 : Int32 × Int32 × ZH → Option (Int32 × ZH)) (x0 : Nat) (x1 : Nat) (x2 : Int32) (x3 : Int32) (x4 : Int32) (h : ZH) (hself4 : ∀ (y2 : Int32) (y3 : Int32) (hh : ZH), Zr zi b0 YX0_splitClasses 3 4 [(0, .ref (b0 + x0)), (1, .ref (b0 + x1)), (2, .int y2), (3, .int y3)] [] hh (self4 (y2, y3, hh))) : Zr zi b0 YX0_splitClasses 3 92 [(0, .ref (b0 + x0)), (1, .ref (b0 + x1)), (2, .int x2), (3, .int x3), (4, .int x4)] [] h (bX0_splitClasses_92 self4 x0 x1 x2 x3 x4 h) := by
  unfold bX0_splitClasses_92
  refine z_aload_n 93 0 dX0_splitClasses_92 rfl rfl ?_
  refine z_getR 96 zC0 (Nat.le_of_ble_eq_true rfl) rfl w_148 dX0_splitClasses_93 rfl (fun v1 _ => ?_)
  refine z_iload_n 97 3 dX0_splitClasses_96 rfl rfl ?_
  refine z_iload 99 4 dX0_splitClasses_97 rfl rfl ?_
  refine z_iastore 100 dX0_splitClasses_99 rfl (fun h2 _ => ?_)
  exact z_sub [0, 1, 2, 3] rfl (BX0_splitClasses_100 b0 self4 x0 x1 x2 x3 h2 hself4)
def bX0_splitClasses_65 (self4 : Int32 × Int32 × ZH → Option (Int32 × ZH)) (x0 : Nat) (x1 : Nat) (x2 : Int32) (x3 : Int32) (x4 : Int32) (h : ZH) : Option (Int32 × ZH) :=
  if x4 < (nI 8) then (if x4 = x2 then ((gR h 0 x0 6).bind fun v3 =>
  (sI h 14 v3 x4 x3).bind fun h4 =>
  bX0_splitClasses_92 self4 x0 x1 (x2 + (nI 1)) x3 x4 h4) else
  (bX0_splitClasses_92 self4 x0 x1 x2 x3 x4 h)) else
  (some ((nI 9), h))
theorem BX0_splitClasses_65 (b0 : Nat) (self4 : Int32 × Int32 × ZH → Option (Int32 × ZH)) (x0 : Nat) (x1 : Nat) (x2 : Int32) (x3 : Int32) (x4 : Int32) (h : ZH) (hself4 : ∀ (y2 : Int32) (y3 : Int32) (hh : ZH), Zr zi b0 YX0_splitClasses 3 4 [(0, .ref (b0 + x0)), (1, .ref (b0 + x1)), (2, .int y2), (3, .int y3)] [] hh (self4 (y2, y3, hh))) : Zr zi b0 YX0_splitClasses 3 65 [(0, .ref (b0 + x0)), (1, .ref (b0 + x1)), (2, .int x2), (3, .int x3), (4, .int x4)] [] h (bX0_splitClasses_65 self4 x0 x1 x2 x3 x4 h) := by
  unfold bX0_splitClasses_65
  refine z_iload 67 4 dX0_splitClasses_65 rfl rfl ?_
  refine z_bipush (nI 8) 69 zkb_8 dX0_splitClasses_67 rfl ?_
  refine z_icmp_lt 75 72 dX0_splitClasses_69 (by decide) rfl (fun c1 => ?_) (fun c1 => ?_)
  · refine z_iload 77 4 dX0_splitClasses_75 rfl rfl ?_
    refine z_iload_n 78 2 dX0_splitClasses_77 rfl rfl ?_
    refine z_icmp_ne 92 81 dX0_splitClasses_78 (by decide) rfl (fun c2 => ?_) (fun c2 => ?_)
    · exact z_sub [0, 1, 2, 3, 4] rfl (BX0_splitClasses_92 b0 self4 x0 x1 x2 x3 x4 h hself4)
    · refine z_aload_n 82 0 dX0_splitClasses_81 rfl rfl ?_
      refine z_getR 85 zC0 (Nat.le_of_ble_eq_true rfl) rfl w_149 dX0_splitClasses_82 rfl (fun v3 _ => ?_)
      refine z_iload 87 4 dX0_splitClasses_85 rfl rfl ?_
      refine z_iload_n 88 3 dX0_splitClasses_87 rfl rfl ?_
      refine z_iastore 89 dX0_splitClasses_88 rfl (fun h4 _ => ?_)
      refine z_iinc (lv2 := [(2, .int (x2 + (nI 1))), (0, .ref (b0 + x0)), (1, .ref (b0 + x1)), (3, .int x3), (4, .int x4)]) (nI 1) 92 2 dX0_splitClasses_89 rfl rfl zki_1 (Nat.le_of_ble_eq_true rfl) rfl ?_
      exact z_sub [1, 2, 0, 3, 4] rfl (BX0_splitClasses_92 b0 self4 x0 x1 (x2 + (nI 1)) x3 x4 h4 hself4)
  · refine z_bipush (nI 9) 74 zkb_9 dX0_splitClasses_72 rfl ?_
    exact z_ireturn dX0_splitClasses_74 rfl
def kX0_splitClasses_30 (self4 : Int32 × Int32 × ZH → Option (Int32 × ZH)) (x0 : Nat) (x1 : Nat) (x2 : Int32) (x3 : Int32) (self30 : Int32 × ZH → Option (Int32 × ZH)) (x4 : Int32) (h : ZH) : Option (Int32 × ZH) :=
  if x2 ≤ x4 then (bX0_splitClasses_65 self4 x0 x1 x2 x3 x4 h) else
  (if (nI 8) ≤ x4 then (bX0_splitClasses_65 self4 x0 x1 x2 x3 x4 h) else
  ((gR h 0 x0 6).bind fun v3 =>
  (lI h 14 v3 x4).bind fun v4 =>
  (fX0_leadAlike x0 x1 x3 v4 h).bind fun q5 =>
  if q5.1 = 0 then (self30 ((x4 + (nI 1)), q5.2)) else
  (bX0_splitClasses_65 self4 x0 x1 x2 x3 x4 q5.2)))
def lX0_splitClasses_30 (self4 : Int32 × Int32 × ZH → Option (Int32 × ZH)) (x0 : Nat) (x1 : Nat) (x2 : Int32) (x3 : Int32) : (Int32 × ZH → Option (Int32 × ZH)) → Int32 × ZH → Option (Int32 × ZH) := fun self s => kX0_splitClasses_30 self4 x0 x1 x2 x3 self s.1 s.2
theorem KX0_splitClasses_30 (b0 : Nat) (self4 : Int32 × Int32 × ZH → Option (Int32 × ZH)) (x0 : Nat) (x1 : Nat) (x2 : Int32) (x3 : Int32) (hself4 : ∀ (y2 : Int32) (y3 : Int32) (hh : ZH), Zr zi b0 YX0_splitClasses 3 4 [(0, .ref (b0 + x0)), (1, .ref (b0 + x1)), (2, .int y2), (3, .int y3)] [] hh (self4 (y2, y3, hh))) (self30 : Int32 × ZH → Option (Int32 × ZH)) (hself30 : ∀ (y4 : Int32) (hh : ZH), Zr zi b0 YX0_splitClasses 3 30 [(0, .ref (b0 + x0)), (1, .ref (b0 + x1)), (2, .int x2), (3, .int x3), (4, .int y4)] [] hh (self30 (y4, hh))) (x4 : Int32) (h : ZH) : Zr zi b0 YX0_splitClasses 3 30 [(0, .ref (b0 + x0)), (1, .ref (b0 + x1)), (2, .int x2), (3, .int x3), (4, .int x4)] [] h (kX0_splitClasses_30 self4 x0 x1 x2 x3 self30 x4 h) := by
  unfold kX0_splitClasses_30
  refine z_iload 32 4 dX0_splitClasses_30 rfl rfl ?_
  refine z_iload_n 33 2 dX0_splitClasses_32 rfl rfl ?_
  refine z_icmp_ge 65 36 dX0_splitClasses_33 (by decide) rfl (fun c1 => ?_) (fun c1 => ?_)
  · exact z_sub [0, 1, 2, 3, 4] rfl (BX0_splitClasses_65 b0 self4 x0 x1 x2 x3 x4 h hself4)
  · refine z_iload 38 4 dX0_splitClasses_36 rfl rfl ?_
    refine z_bipush (nI 8) 40 zkb_8 dX0_splitClasses_38 rfl ?_
    refine z_icmp_ge 65 43 dX0_splitClasses_40 (by decide) rfl (fun c2 => ?_) (fun c2 => ?_)
    · exact z_sub [0, 1, 2, 3, 4] rfl (BX0_splitClasses_65 b0 self4 x0 x1 x2 x3 x4 h hself4)
    · refine z_aload_n 44 0 dX0_splitClasses_43 rfl rfl ?_
      refine z_aload_n 45 1 dX0_splitClasses_44 rfl rfl ?_
      refine z_iload_n 46 3 dX0_splitClasses_45 rfl rfl ?_
      refine z_aload_n 47 0 dX0_splitClasses_46 rfl rfl ?_
      refine z_getR 50 zC0 (Nat.le_of_ble_eq_true rfl) rfl w_149 dX0_splitClasses_47 rfl (fun v3 _ => ?_)
      refine z_iload 52 4 dX0_splitClasses_50 rfl rfl ?_
      refine z_iaload 53 dX0_splitClasses_52 rfl (fun v4 _ => ?_)
      refine z_callVi 56 (mX0_leadAlike b0 x0 x1 x3 v4 h) zyX0_leadAlike rfl w_679 (ci := 0) rfl (Nat.le_of_ble_eq_true rfl) (fun _ e9 => kX0_leadAlike e9) wm_yX0_leadAlike ws_yX0_leadAlike (Nat.le_of_ble_eq_true rfl) rfl (Nat.le_of_ble_eq_true rfl) dX0_splitClasses_53 rfl (fun q5 => ?_)
      refine z_if_ne 65 59 dX0_splitClasses_56 (by decide) rfl (fun c6 => ?_) (fun c6 => ?_)
      · exact z_sub [0, 1, 2, 3, 4] rfl (BX0_splitClasses_65 b0 self4 x0 x1 x2 x3 x4 q5.2 hself4)
      · refine z_iinc (lv2 := [(4, .int (x4 + (nI 1))), (0, .ref (b0 + x0)), (1, .ref (b0 + x1)), (2, .int x2), (3, .int x3)]) (nI 1) 62 4 dX0_splitClasses_59 rfl rfl zki_1 (Nat.le_of_ble_eq_true rfl) rfl ?_
        refine z_goto 30 dX0_splitClasses_62 (by decide) ?_
        exact z_sub [1, 2, 3, 4, 0] rfl (hself30 (x4 + (nI 1)) q5.2)
theorem BX0_splitClasses_30 (b0 : Nat) (self4 : Int32 × Int32 × ZH → Option (Int32 × ZH)) (x0 : Nat) (x1 : Nat) (x2 : Int32) (x3 : Int32) (hself4 : ∀ (y2 : Int32) (y3 : Int32) (hh : ZH), Zr zi b0 YX0_splitClasses 3 4 [(0, .ref (b0 + x0)), (1, .ref (b0 + x1)), (2, .int y2), (3, .int y3)] [] hh (self4 (y2, y3, hh))) (n : Nat) (x4 : Int32) (h : ZH) : Zr zi b0 YX0_splitClasses 3 30 [(0, .ref (b0 + x0)), (1, .ref (b0 + x1)), (2, .int x2), (3, .int x3), (4, .int x4)] [] h (zloop (lX0_splitClasses_30 self4 x0 x1 x2 x3) n (x4, h)) :=
  zloop_Zr (fun s => [(0, .ref (b0 + x0)), (1, .ref (b0 + x1)), (2, .int x2), (3, .int x3), (4, .int s.1)]) (fun _ => []) (fun s => s.2) (lX0_splitClasses_30 self4 x0 x1 x2 x3) (fun self hs s => KX0_splitClasses_30 b0 self4 x0 x1 x2 x3 hself4 self (fun y4 hh => hs (y4, hh)) s.1 s.2) n (x4, h)
def kX0_splitClasses_4 (x0 : Nat) (x1 : Nat) (self4 : Int32 × Int32 × ZH → Option (Int32 × ZH)) (x2 : Int32) (x3 : Int32) (h : ZH) : Option (Int32 × ZH) :=
  if (nI 255) ≤ x3 then ((gR h 0 x0 5).bind fun v2 =>
  (gR h 0 x0 4).bind fun v3 =>
  (zcpI h v2 v3 (nI 0) (nI 0) (nI 255)).bind fun h4 =>
  some (x2, h4)) else
  ((gR h 0 x0 5).bind fun v5 =>
  (sI h 14 v5 x3 (-1 : Int32)).bind fun h6 =>
  (gR h6 0 x0 0).bind fun v7 =>
  (lI h6 16 v7 x3).bind fun v8 =>
  if v8 = 0 then (bX0_splitClasses_100 self4 x0 x1 x2 x3 h6) else
  (zloop (lX0_splitClasses_30 self4 x0 x1 x2 x3) zfu ((nI 0), h6)))
def lX0_splitClasses_4 (x0 : Nat) (x1 : Nat) : (Int32 × Int32 × ZH → Option (Int32 × ZH)) → Int32 × Int32 × ZH → Option (Int32 × ZH) := fun self s => kX0_splitClasses_4 x0 x1 self s.1 s.2.1 s.2.2
theorem KX0_splitClasses_4 (b0 : Nat) (x0 : Nat) (x1 : Nat) (self4 : Int32 × Int32 × ZH → Option (Int32 × ZH)) (hself4 : ∀ (y2 : Int32) (y3 : Int32) (hh : ZH), Zr zi b0 YX0_splitClasses 3 4 [(0, .ref (b0 + x0)), (1, .ref (b0 + x1)), (2, .int y2), (3, .int y3)] [] hh (self4 (y2, y3, hh))) (x2 : Int32) (x3 : Int32) (h : ZH) : Zr zi b0 YX0_splitClasses 3 4 [(0, .ref (b0 + x0)), (1, .ref (b0 + x1)), (2, .int x2), (3, .int x3)] [] h (kX0_splitClasses_4 x0 x1 self4 x2 x3 h) := by
  unfold kX0_splitClasses_4
  refine z_iload_n 5 3 dX0_splitClasses_4 rfl rfl ?_
  refine z_sipush (nI 255) 8 zks_255 dX0_splitClasses_5 rfl ?_
  refine z_icmp_ge 106 11 dX0_splitClasses_8 (by decide) rfl (fun c1 => ?_) (fun c1 => ?_)
  · refine z_aload_n 107 0 dX0_splitClasses_106 rfl rfl ?_
    refine z_getR 110 zC0 (Nat.le_of_ble_eq_true rfl) rfl w_148 dX0_splitClasses_107 rfl (fun v2 _ => ?_)
    refine z_iconst (nI 0) 111 zki_0 dX0_splitClasses_110 rfl ?_
    refine z_aload_n 112 0 dX0_splitClasses_111 rfl rfl ?_
    refine z_getR 115 zC0 (Nat.le_of_ble_eq_true rfl) rfl w_147 dX0_splitClasses_112 rfl (fun v3 _ => ?_)
    refine z_iconst (nI 0) 116 zki_0 dX0_splitClasses_115 rfl ?_
    refine z_sipush (nI 255) 119 zks_255 dX0_splitClasses_116 rfl ?_
    refine z_arraycopyI 122 w_687 wv_arraycopyName wt_arraycopyName wi_RJ10 (Nat.le_of_ble_eq_true rfl) (Nat.le_of_ble_eq_true rfl) dX0_splitClasses_119 rfl (fun h4 _ => ?_)
    refine z_iload_n 123 2 dX0_splitClasses_122 rfl rfl ?_
    exact z_ireturn dX0_splitClasses_123 rfl
  · refine z_aload_n 12 0 dX0_splitClasses_11 rfl rfl ?_
    refine z_getR 15 zC0 (Nat.le_of_ble_eq_true rfl) rfl w_148 dX0_splitClasses_12 rfl (fun v5 _ => ?_)
    refine z_iload_n 16 3 dX0_splitClasses_15 rfl rfl ?_
    refine z_iconst (-1 : Int32) 17 zki_m1 dX0_splitClasses_16 rfl ?_
    refine z_iastore 18 dX0_splitClasses_17 rfl (fun h6 _ => ?_)
    refine z_aload_n 19 0 dX0_splitClasses_18 rfl rfl ?_
    refine z_getR 22 zC0 (Nat.le_of_ble_eq_true rfl) rfl w_143 dX0_splitClasses_19 rfl (fun v7 _ => ?_)
    refine z_iload_n 23 3 dX0_splitClasses_22 rfl rfl ?_
    refine z_zaload 24 dX0_splitClasses_23 rfl (fun v8 _ => ?_)
    refine z_if_eq 100 27 dX0_splitClasses_24 (by decide) rfl (fun c9 => ?_) (fun c9 => ?_)
    · exact z_sub [0, 1, 2, 3] rfl (BX0_splitClasses_100 b0 self4 x0 x1 x2 x3 h6 hself4)
    · refine z_iconst (nI 0) 28 zki_0 dX0_splitClasses_27 rfl ?_
      refine z_istore (lv2 := [(4, .int (nI 0)), (0, .ref (b0 + x0)), (1, .ref (b0 + x1)), (2, .int x2), (3, .int x3)]) 30 dX0_splitClasses_28 rfl (Nat.le_of_ble_eq_true rfl) rfl ?_
      exact z_sub [1, 2, 3, 4, 0] rfl (BX0_splitClasses_30 b0 self4 x0 x1 x2 x3 hself4 zfu (nI 0) h6)
theorem BX0_splitClasses_4 (b0 : Nat) (x0 : Nat) (x1 : Nat) (n : Nat) (x2 : Int32) (x3 : Int32) (h : ZH) : Zr zi b0 YX0_splitClasses 3 4 [(0, .ref (b0 + x0)), (1, .ref (b0 + x1)), (2, .int x2), (3, .int x3)] [] h (zloop (lX0_splitClasses_4 x0 x1) n (x2, x3, h)) :=
  zloop_Zr (fun s => [(0, .ref (b0 + x0)), (1, .ref (b0 + x1)), (2, .int s.1), (3, .int s.2.1)]) (fun _ => []) (fun s => s.2.2) (lX0_splitClasses_4 x0 x1) (fun self hs s => KX0_splitClasses_4 b0 x0 x1 self (fun y2 y3 hh => hs (y2, y3, hh)) s.1 s.2.1 s.2.2) n (x2, x3, h)
def fX0_splitClasses (x0 : Nat) (x1 : Nat) (h : ZH) : Option (Int32 × ZH) :=
  if x0 < zn h ∧ zK h x0 = 0 then (zloop (lX0_splitClasses_4 x0 x1) zfu ((nI 0), (nI 0), h)) else none
theorem kX0_splitClasses {x0 : Nat} {x1 : Nat} {h : ZH} {x : Int32 × ZH} (e : fX0_splitClasses x0 x1 h = some x) : x0 < zn h ∧ zK h x0 = 0 := by
  unfold fX0_splitClasses at e
  exact zguard e
theorem mX0_splitClasses (b0 : Nat) (x0 : Nat) (x1 : Nat) (h : ZH) : ZM zi b0 YX0_splitClasses 3 [.ref (b0 + x0), .ref (b0 + x1)] h (fX0_splitClasses x0 x1 h) := by
  unfold fX0_splitClasses
  refine ZM.of (by decide) rfl (Nat.le_of_ble_eq_true rfl) (fun _ => trivial) ?_
  refine z_sub (lv2 := [(0, .ref (b0 + x0)), (1, .ref (b0 + x1))]) [0, 1] rfl ?_
  refine z_guard (fun _ => ?_)
  refine z_iconst (nI 0) 1 zki_0 dX0_splitClasses_0 rfl ?_
  refine z_istore_n (lv2 := [(2, .int (nI 0)), (0, .ref (b0 + x0)), (1, .ref (b0 + x1))]) 2 dX0_splitClasses_1 rfl (Nat.le_of_ble_eq_true rfl) rfl ?_
  refine z_iconst (nI 0) 3 zki_0 dX0_splitClasses_2 rfl ?_
  refine z_istore_n (lv2 := [(3, .int (nI 0)), (2, .int (nI 0)), (0, .ref (b0 + x0)), (1, .ref (b0 + x1))]) 4 dX0_splitClasses_3 rfl (Nat.le_of_ble_eq_true rfl) rfl ?_
  exact z_sub [2, 3, 1, 0] rfl (BX0_splitClasses_4 b0 x0 x1 zfu (nI 0) (nI 0) h)
-- X0_mergeMembers
def kX0_mergeMembers_42 (x0 : Nat) (x1 : Nat) (self42 : Int32 × ZH → Option (Int32 × ZH)) (x2 : Int32) (h : ZH) : Option (Int32 × ZH) :=
  if (nI 8) < x2 then (if (nI 0) = 0 ∨ (nI 0) = 1 then some ((nI 0), h) else none) else
  ((fX0_splitClasses x0 x1 h).bind fun q2 =>
  if q2.1 ≤ (nI 8) then ((gI q2.2 0 x0 7).bind fun v4 =>
  if q2.1 = v4 then (if (nI 1) = 0 ∨ (nI 1) = 1 then some ((nI 1), q2.2) else none) else
  ((pI q2.2 0 x0 7 q2.1).bind fun h6 =>
  self42 ((x2 + (nI 1)), h6))) else
  (if (nI 0) = 0 ∨ (nI 0) = 1 then some ((nI 0), q2.2) else none))
def lX0_mergeMembers_42 (x0 : Nat) (x1 : Nat) : (Int32 × ZH → Option (Int32 × ZH)) → Int32 × ZH → Option (Int32 × ZH) := fun self s => kX0_mergeMembers_42 x0 x1 self s.1 s.2
theorem KX0_mergeMembers_42 (b0 : Nat) (x0 : Nat) (x1 : Nat) (self42 : Int32 × ZH → Option (Int32 × ZH)) (hself42 : ∀ (y2 : Int32) (hh : ZH), Zr zi b0 YX0_mergeMembers 4 42 [(0, .ref (b0 + x0)), (1, .ref (b0 + x1)), (2, .int y2)] [] hh (self42 (y2, hh))) (x2 : Int32) (h : ZH) : Zr zi b0 YX0_mergeMembers 4 42 [(0, .ref (b0 + x0)), (1, .ref (b0 + x1)), (2, .int x2)] [] h (kX0_mergeMembers_42 x0 x1 self42 x2 h) := by
  unfold kX0_mergeMembers_42
  refine z_iload_n 43 2 dX0_mergeMembers_42 rfl rfl ?_
  refine z_bipush (nI 8) 45 zkb_8 dX0_mergeMembers_43 rfl ?_
  refine z_icmp_gt 83 48 dX0_mergeMembers_45 (by decide) rfl (fun c1 => ?_) (fun c1 => ?_)
  · refine z_iconst (nI 0) 84 zki_0 dX0_mergeMembers_83 rfl ?_
    exact z_zreturn dX0_mergeMembers_84 rfl
  · refine z_aload_n 49 0 dX0_mergeMembers_48 rfl rfl ?_
    refine z_aload_n 50 1 dX0_mergeMembers_49 rfl rfl ?_
    refine z_callVi 53 (mX0_splitClasses b0 x0 x1 h) zyX0_splitClasses rfl w_675 (ci := 0) rfl (Nat.le_of_ble_eq_true rfl) (fun _ e9 => kX0_splitClasses e9) wm_yX0_splitClasses ws_yX0_splitClasses (Nat.le_of_ble_eq_true rfl) rfl (Nat.le_of_ble_eq_true rfl) dX0_mergeMembers_50 rfl (fun q2 => ?_)
    refine z_istore_n (lv2 := [(3, .int q2.1), (0, .ref (b0 + x0)), (1, .ref (b0 + x1)), (2, .int x2)]) 54 dX0_mergeMembers_53 rfl (Nat.le_of_ble_eq_true rfl) rfl ?_
    refine z_iload_n 55 0 dX0_mergeMembers_54 rfl rfl ?_
    refine z_bipush (nI 8) 57 zkb_8 dX0_mergeMembers_55 rfl ?_
    refine z_icmp_le 62 60 dX0_mergeMembers_57 (by decide) rfl (fun c3 => ?_) (fun c3 => ?_)
    · refine z_iload_n 63 0 dX0_mergeMembers_62 rfl rfl ?_
      refine z_aload_n 64 1 dX0_mergeMembers_63 rfl rfl ?_
      refine z_getI 67 zC0 (Nat.le_of_ble_eq_true rfl) rfl w_150 dX0_mergeMembers_64 rfl (fun v4 _ => ?_)
      refine z_icmp_ne 72 70 dX0_mergeMembers_67 (by decide) rfl (fun c5 => ?_) (fun c5 => ?_)
      · refine z_aload_n 73 1 dX0_mergeMembers_72 rfl rfl ?_
        refine z_iload_n 74 0 dX0_mergeMembers_73 rfl rfl ?_
        refine z_putI 77 zC0 (Nat.le_of_ble_eq_true rfl) rfl rfl rfl w_150 dX0_mergeMembers_74 rfl (fun h6 _ => ?_)
        refine z_iinc (lv2 := [(2, .int (x2 + (nI 1))), (3, .int q2.1), (0, .ref (b0 + x0)), (1, .ref (b0 + x1))]) (nI 1) 80 3 dX0_mergeMembers_77 rfl rfl zki_1 (Nat.le_of_ble_eq_true rfl) rfl ?_
        refine z_goto 42 dX0_mergeMembers_80 (by decide) ?_
        exact z_sub [2, 3, 0] rfl (hself42 (x2 + (nI 1)) h6)
      · refine z_iconst (nI 1) 71 zki_1 dX0_mergeMembers_70 rfl ?_
        exact z_zreturn dX0_mergeMembers_71 rfl
    · refine z_iconst (nI 0) 61 zki_0 dX0_mergeMembers_60 rfl ?_
      exact z_zreturn dX0_mergeMembers_61 rfl
theorem BX0_mergeMembers_42 (b0 : Nat) (x0 : Nat) (x1 : Nat) (n : Nat) (x2 : Int32) (h : ZH) : Zr zi b0 YX0_mergeMembers 4 42 [(0, .ref (b0 + x0)), (1, .ref (b0 + x1)), (2, .int x2)] [] h (zloop (lX0_mergeMembers_42 x0 x1) n (x2, h)) :=
  zloop_Zr (fun s => [(0, .ref (b0 + x0)), (1, .ref (b0 + x1)), (2, .int s.1)]) (fun _ => []) (fun s => s.2) (lX0_mergeMembers_42 x0 x1) (fun self hs s => KX0_mergeMembers_42 b0 x0 x1 self (fun y2 hh => hs (y2, hh)) s.1 s.2) n (x2, h)
def bX0_mergeMembers_28 (self2 : Int32 × ZH → Option (Int32 × ZH)) (x0 : Nat) (x1 : Nat) (x2 : Int32) (t0 : Int32) (t1 : Int32) (t2 : Nat) (h : ZH) : Option (Int32 × ZH) :=
  (sI h 14 t2 t1 t0).bind fun h1 =>
  self2 ((x2 + (nI 1)), h1)
theorem BX0_mergeMembers_28 (b0 : Nat) (self2 : Int32 × ZH → Option (Int32 × ZH)) (x0 : Nat) (x1 : Nat) (x2 : Int32) (t0 : Int32) (t1 : Int32) (t2 : Nat) (h : ZH) (hself2 : ∀ (y2 : Int32) (hh : ZH), Zr zi b0 YX0_mergeMembers 4 2 [(0, .ref (b0 + x0)), (1, .ref (b0 + x1)), (2, .int y2)] [] hh (self2 (y2, hh))) : Zr zi b0 YX0_mergeMembers 4 28 [(0, .ref (b0 + x0)), (1, .ref (b0 + x1)), (2, .int x2)] [.int t0, .int t1, .ref (b0 + t2)] h (bX0_mergeMembers_28 self2 x0 x1 x2 t0 t1 t2 h) := by
  unfold bX0_mergeMembers_28
  refine z_iastore 29 dX0_mergeMembers_28 rfl (fun h1 _ => ?_)
  refine z_iinc (lv2 := [(2, .int (x2 + (nI 1))), (0, .ref (b0 + x0)), (1, .ref (b0 + x1))]) (nI 1) 32 2 dX0_mergeMembers_29 rfl rfl zki_1 (Nat.le_of_ble_eq_true rfl) rfl ?_
  refine z_goto 2 dX0_mergeMembers_32 (by decide) ?_
  exact z_sub [1, 2, 0] rfl (hself2 (x2 + (nI 1)) h1)
def kX0_mergeMembers_2 (x0 : Nat) (x1 : Nat) (self2 : Int32 × ZH → Option (Int32 × ZH)) (x2 : Int32) (h : ZH) : Option (Int32 × ZH) :=
  if (nI 256) ≤ x2 then ((pI h 0 x0 7 (nI 1)).bind fun h2 =>
  zloop (lX0_mergeMembers_42 x0 x1) zfu ((nI 0), h2)) else
  ((gR h 0 x0 4).bind fun v3 =>
  (gR h 0 x0 0).bind fun v4 =>
  (lI h 16 v4 x2).bind fun v5 =>
  if v5 = 0 then (bX0_mergeMembers_28 self2 x0 x1 x2 (-1 : Int32) x2 v3 h) else
  (bX0_mergeMembers_28 self2 x0 x1 x2 (nI 0) x2 v3 h))
def lX0_mergeMembers_2 (x0 : Nat) (x1 : Nat) : (Int32 × ZH → Option (Int32 × ZH)) → Int32 × ZH → Option (Int32 × ZH) := fun self s => kX0_mergeMembers_2 x0 x1 self s.1 s.2
theorem KX0_mergeMembers_2 (b0 : Nat) (x0 : Nat) (x1 : Nat) (self2 : Int32 × ZH → Option (Int32 × ZH)) (hself2 : ∀ (y2 : Int32) (hh : ZH), Zr zi b0 YX0_mergeMembers 4 2 [(0, .ref (b0 + x0)), (1, .ref (b0 + x1)), (2, .int y2)] [] hh (self2 (y2, hh))) (x2 : Int32) (h : ZH) : Zr zi b0 YX0_mergeMembers 4 2 [(0, .ref (b0 + x0)), (1, .ref (b0 + x1)), (2, .int x2)] [] h (kX0_mergeMembers_2 x0 x1 self2 x2 h) := by
  unfold kX0_mergeMembers_2
  refine z_iload_n 3 2 dX0_mergeMembers_2 rfl rfl ?_
  refine z_sipush (nI 256) 6 zks_256 dX0_mergeMembers_3 rfl ?_
  refine z_icmp_ge 35 9 dX0_mergeMembers_6 (by decide) rfl (fun c1 => ?_) (fun c1 => ?_)
  · refine z_aload_n 36 0 dX0_mergeMembers_35 rfl rfl ?_
    refine z_iconst (nI 1) 37 zki_1 dX0_mergeMembers_36 rfl ?_
    refine z_putI 40 zC0 (Nat.le_of_ble_eq_true rfl) rfl rfl rfl w_150 dX0_mergeMembers_37 rfl (fun h2 _ => ?_)
    refine z_iconst (nI 0) 41 zki_0 dX0_mergeMembers_40 rfl ?_
    refine z_istore_n (lv2 := [(2, .int (nI 0)), (0, .ref (b0 + x0)), (1, .ref (b0 + x1))]) 42 dX0_mergeMembers_41 rfl (Nat.le_of_ble_eq_true rfl) rfl ?_
    exact z_sub [1, 2, 0] rfl (BX0_mergeMembers_42 b0 x0 x1 zfu (nI 0) h2)
  · refine z_aload_n 10 0 dX0_mergeMembers_9 rfl rfl ?_
    refine z_getR 13 zC0 (Nat.le_of_ble_eq_true rfl) rfl w_147 dX0_mergeMembers_10 rfl (fun v3 _ => ?_)
    refine z_iload_n 14 2 dX0_mergeMembers_13 rfl rfl ?_
    refine z_aload_n 15 0 dX0_mergeMembers_14 rfl rfl ?_
    refine z_getR 18 zC0 (Nat.le_of_ble_eq_true rfl) rfl w_143 dX0_mergeMembers_15 rfl (fun v4 _ => ?_)
    refine z_iload_n 19 2 dX0_mergeMembers_18 rfl rfl ?_
    refine z_zaload 20 dX0_mergeMembers_19 rfl (fun v5 _ => ?_)
    refine z_if_eq 27 23 dX0_mergeMembers_20 (by decide) rfl (fun c6 => ?_) (fun c6 => ?_)
    · refine z_iconst (-1 : Int32) 28 zki_m1 dX0_mergeMembers_27 rfl ?_
      exact z_sub [0, 1, 2] rfl (BX0_mergeMembers_28 b0 self2 x0 x1 x2 (-1 : Int32) x2 v3 h hself2)
    · refine z_iconst (nI 0) 24 zki_0 dX0_mergeMembers_23 rfl ?_
      refine z_goto 28 dX0_mergeMembers_24 (by decide) ?_
      exact z_sub [0, 1, 2] rfl (BX0_mergeMembers_28 b0 self2 x0 x1 x2 (nI 0) x2 v3 h hself2)
theorem BX0_mergeMembers_2 (b0 : Nat) (x0 : Nat) (x1 : Nat) (n : Nat) (x2 : Int32) (h : ZH) : Zr zi b0 YX0_mergeMembers 4 2 [(0, .ref (b0 + x0)), (1, .ref (b0 + x1)), (2, .int x2)] [] h (zloop (lX0_mergeMembers_2 x0 x1) n (x2, h)) :=
  zloop_Zr (fun s => [(0, .ref (b0 + x0)), (1, .ref (b0 + x1)), (2, .int s.1)]) (fun _ => []) (fun s => s.2) (lX0_mergeMembers_2 x0 x1) (fun self hs s => KX0_mergeMembers_2 b0 x0 x1 self (fun y2 hh => hs (y2, hh)) s.1 s.2) n (x2, h)
def fX0_mergeMembers (x0 : Nat) (x1 : Nat) (h : ZH) : Option (Int32 × ZH) :=
  if x0 < zn h ∧ zK h x0 = 0 then (zloop (lX0_mergeMembers_2 x0 x1) zfu ((nI 0), h)) else none
theorem kX0_mergeMembers {x0 : Nat} {x1 : Nat} {h : ZH} {x : Int32 × ZH} (e : fX0_mergeMembers x0 x1 h = some x) : x0 < zn h ∧ zK h x0 = 0 := by
  unfold fX0_mergeMembers at e
  exact zguard e
theorem mX0_mergeMembers (b0 : Nat) (x0 : Nat) (x1 : Nat) (h : ZH) : ZM zi b0 YX0_mergeMembers 4 [.ref (b0 + x0), .ref (b0 + x1)] h (fX0_mergeMembers x0 x1 h) := by
  unfold fX0_mergeMembers
  refine ZM.of (by decide) rfl (Nat.le_of_ble_eq_true rfl) (fun _ => trivial) ?_
  refine z_sub (lv2 := [(0, .ref (b0 + x0)), (1, .ref (b0 + x1))]) [0, 1] rfl ?_
  refine z_guard (fun _ => ?_)
  refine z_iconst (nI 0) 1 zki_0 dX0_mergeMembers_0 rfl ?_
  refine z_istore_n (lv2 := [(2, .int (nI 0)), (0, .ref (b0 + x0)), (1, .ref (b0 + x1))]) 2 dX0_mergeMembers_1 rfl (Nat.le_of_ble_eq_true rfl) rfl ?_
  exact z_sub [1, 2, 0] rfl (BX0_mergeMembers_2 b0 x0 x1 zfu (nI 0) h)
-- X0_numberVertex
def bX0_numberVertex_24 (x2 : Int32) (h : ZH) : Option (Int32 × ZH) :=
  some (x2, h)
theorem BX0_numberVertex_24 (b0 : Nat) (x2 : Int32) (h : ZH) : Zr zi b0 YX0_numberVertex 2 24 [(2, .int x2)] [] h (bX0_numberVertex_24 x2 h) := by
  unfold bX0_numberVertex_24
  refine z_iload_n 25 0 dX0_numberVertex_24 rfl rfl ?_
  exact z_ireturn dX0_numberVertex_25 rfl
def fX0_numberVertex (x0 : Nat) (x1 : Int32) (x2 : Int32) (h : ZH) : Option (Int32 × ZH) :=
  if x0 < zn h ∧ zK h x0 = 0 then ((fX10_isVertex x1 h).bind fun q1 =>
  if q1.1 = 0 then (bX0_numberVertex_24 x2 q1.2) else
  ((fX10_isVertex x2 q1.2).bind fun q3 =>
  if q3.1 = 0 then (bX0_numberVertex_24 x2 q3.2) else
  ((gR q3.2 0 x0 12).bind fun v5 =>
  (lI q3.2 14 v5 x1).bind fun v6 =>
  if v6 = (-1 : Int32) then ((gR q3.2 0 x0 12).bind fun v8 =>
  (sI q3.2 14 v8 x1 x2).bind fun h9 =>
  (gR h9 0 x0 11).bind fun v10 =>
  (sI h9 14 v10 x2 x1).bind fun h11 =>
  some ((x2 + (nI 1)), h11)) else
  (bX0_numberVertex_24 x2 q3.2)))) else none
theorem kX0_numberVertex {x0 : Nat} {x1 : Int32} {x2 : Int32} {h : ZH} {x : Int32 × ZH} (e : fX0_numberVertex x0 x1 x2 h = some x) : x0 < zn h ∧ zK h x0 = 0 := by
  unfold fX0_numberVertex at e
  exact zguard e
theorem mX0_numberVertex (b0 : Nat) (x0 : Nat) (x1 : Int32) (x2 : Int32) (h : ZH) : ZM zi b0 YX0_numberVertex 2 [.ref (b0 + x0), .int x1, .int x2] h (fX0_numberVertex x0 x1 x2 h) := by
  unfold fX0_numberVertex
  refine ZM.of (by decide) rfl (Nat.le_of_ble_eq_true rfl) (fun _ => trivial) ?_
  refine z_sub (lv2 := [(0, .ref (b0 + x0)), (1, .int x1), (2, .int x2)]) [0, 1, 2] rfl ?_
  refine z_guard (fun _ => ?_)
  refine z_iload_n 1 1 dX0_numberVertex_0 rfl rfl ?_
  refine z_callSNi 4 (mX10_isVertex b0 x1 h) zyX10_isVertex rfl (List.mem_of_getElem? (i := 17) rfl) wt_yX10_isVertex (Nat.le_of_ble_eq_true rfl) rfl (Nat.le_of_ble_eq_true rfl) dX0_numberVertex_1 rfl (fun q1 => ?_)
  refine z_if_eq 24 7 dX0_numberVertex_4 (by decide) rfl (fun c2 => ?_) (fun c2 => ?_)
  · exact z_sub [2] rfl (BX0_numberVertex_24 b0 x2 q1.2 )
  · refine z_iload_n 8 2 dX0_numberVertex_7 rfl rfl ?_
    refine z_callSNi 11 (mX10_isVertex b0 x2 q1.2) zyX10_isVertex rfl (List.mem_of_getElem? (i := 17) rfl) wt_yX10_isVertex (Nat.le_of_ble_eq_true rfl) rfl (Nat.le_of_ble_eq_true rfl) dX0_numberVertex_8 rfl (fun q3 => ?_)
    refine z_if_eq 24 14 dX0_numberVertex_11 (by decide) rfl (fun c4 => ?_) (fun c4 => ?_)
    · exact z_sub [2] rfl (BX0_numberVertex_24 b0 x2 q3.2 )
    · refine z_aload_n 15 0 dX0_numberVertex_14 rfl rfl ?_
      refine z_getR 18 zC0 (Nat.le_of_ble_eq_true rfl) rfl w_155 dX0_numberVertex_15 rfl (fun v5 _ => ?_)
      refine z_iload_n 19 1 dX0_numberVertex_18 rfl rfl ?_
      refine z_iaload 20 dX0_numberVertex_19 rfl (fun v6 _ => ?_)
      refine z_iconst (-1 : Int32) 21 zki_m1 dX0_numberVertex_20 rfl ?_
      refine z_icmp_eq 26 24 dX0_numberVertex_21 (by decide) rfl (fun c7 => ?_) (fun c7 => ?_)
      · refine z_aload_n 27 0 dX0_numberVertex_26 rfl rfl ?_
        refine z_getR 30 zC0 (Nat.le_of_ble_eq_true rfl) rfl w_155 dX0_numberVertex_27 rfl (fun v8 _ => ?_)
        refine z_iload_n 31 1 dX0_numberVertex_30 rfl rfl ?_
        refine z_iload_n 32 2 dX0_numberVertex_31 rfl rfl ?_
        refine z_iastore 33 dX0_numberVertex_32 rfl (fun h9 _ => ?_)
        refine z_aload_n 34 0 dX0_numberVertex_33 rfl rfl ?_
        refine z_getR 37 zC0 (Nat.le_of_ble_eq_true rfl) rfl w_154 dX0_numberVertex_34 rfl (fun v10 _ => ?_)
        refine z_iload_n 38 2 dX0_numberVertex_37 rfl rfl ?_
        refine z_iload_n 39 1 dX0_numberVertex_38 rfl rfl ?_
        refine z_iastore 40 dX0_numberVertex_39 rfl (fun h11 _ => ?_)
        refine z_iload_n 41 2 dX0_numberVertex_40 rfl rfl ?_
        refine z_iconst (nI 1) 42 zki_1 dX0_numberVertex_41 rfl ?_
        refine z_iadd 43 dX0_numberVertex_42 rfl ?_
        exact z_ireturn dX0_numberVertex_43 rfl
      · exact z_sub [2] rfl (BX0_numberVertex_24 b0 x2 q3.2 )
-- X1_row
def bX1_row_43 (t0 : Int32) (h : ZH) : Option (Int32 × ZH) :=
  some (t0, h)
theorem BX1_row_43 (b0 : Nat) (t0 : Int32) (h : ZH) : Zr zi b0 YX1_row 1 43 [] [.int t0] h (bX1_row_43 t0 h) := by
  unfold bX1_row_43
  exact z_ireturn dX1_row_43 rfl
def bX1_row_24 (x0 : Nat) (x1 : Int32) (x2 : Int32) (t0 : Int32) (h : ZH) : Option (Int32 × ZH) :=
  if t0 = 0 then (bX1_row_43 (nI 0) h) else
  ((gR h 1 x0 0).bind fun v2 =>
  (lI h 14 v2 (((nI 4) * x1) + x2)).bind fun v3 =>
  bX1_row_43 v3 h)
theorem BX1_row_24 (b0 : Nat) (x0 : Nat) (x1 : Int32) (x2 : Int32) (t0 : Int32) (h : ZH) : Zr zi b0 YX1_row 1 24 [(0, .ref (b0 + x0)), (1, .int x1), (2, .int x2)] [.int t0] h (bX1_row_24 x0 x1 x2 t0 h) := by
  unfold bX1_row_24
  refine z_istore_n (lv2 := [(3, .int t0), (0, .ref (b0 + x0)), (1, .int x1), (2, .int x2)]) 25 dX1_row_24 rfl (Nat.le_of_ble_eq_true rfl) rfl ?_
  refine z_iload_n 26 0 dX1_row_25 rfl rfl ?_
  refine z_if_eq 42 29 dX1_row_26 (by decide) rfl (fun c1 => ?_) (fun c1 => ?_)
  · refine z_iconst (nI 0) 43 zki_0 dX1_row_42 rfl ?_
    exact z_sub [] rfl (BX1_row_43 b0 (nI 0) h )
  · refine z_aload_n 30 1 dX1_row_29 rfl rfl ?_
    refine z_getR 33 zC1 (Nat.le_of_ble_eq_true rfl) rfl w_40 dX1_row_30 rfl (fun v2 _ => ?_)
    refine z_iconst (nI 4) 34 zki_4 dX1_row_33 rfl ?_
    refine z_iload_n 35 2 dX1_row_34 rfl rfl ?_
    refine z_imul 36 dX1_row_35 rfl ?_
    refine z_iload_n 37 3 dX1_row_36 rfl rfl ?_
    refine z_iadd 38 dX1_row_37 rfl ?_
    refine z_iaload 39 dX1_row_38 rfl (fun v3 _ => ?_)
    refine z_goto 43 dX1_row_39 (by decide) ?_
    exact z_sub [] rfl (BX1_row_43 b0 v3 h )
def bX1_row_23 (x0 : Nat) (x1 : Int32) (x2 : Int32) (h : ZH) : Option (Int32 × ZH) :=
  bX1_row_24 x0 x1 x2 (nI 0) h
theorem BX1_row_23 (b0 : Nat) (x0 : Nat) (x1 : Int32) (x2 : Int32) (h : ZH) : Zr zi b0 YX1_row 1 23 [(0, .ref (b0 + x0)), (1, .int x1), (2, .int x2)] [] h (bX1_row_23 x0 x1 x2 h) := by
  unfold bX1_row_23
  refine z_iconst (nI 0) 24 zki_0 dX1_row_23 rfl ?_
  exact z_sub [0, 1, 2] rfl (BX1_row_24 b0 x0 x1 x2 (nI 0) h )
def fX1_row (x0 : Nat) (x1 : Int32) (x2 : Int32) (h : ZH) : Option (Int32 × ZH) :=
  if x0 < zn h ∧ zK h x0 = 1 then (if x1 < 0 then (bX1_row_23 x0 x1 x2 h) else
  (if (nI 8) ≤ x1 then (bX1_row_23 x0 x1 x2 h) else
  (if x2 < 0 then (bX1_row_23 x0 x1 x2 h) else
  (if (nI 4) ≤ x2 then (bX1_row_23 x0 x1 x2 h) else
  (bX1_row_24 x0 x1 x2 (nI 1) h))))) else none
theorem kX1_row {x0 : Nat} {x1 : Int32} {x2 : Int32} {h : ZH} {x : Int32 × ZH} (e : fX1_row x0 x1 x2 h = some x) : x0 < zn h ∧ zK h x0 = 1 := by
  unfold fX1_row at e
  exact zguard e
theorem mX1_row (b0 : Nat) (x0 : Nat) (x1 : Int32) (x2 : Int32) (h : ZH) : ZM zi b0 YX1_row 1 [.ref (b0 + x0), .int x1, .int x2] h (fX1_row x0 x1 x2 h) := by
  unfold fX1_row
  refine ZM.of (by decide) rfl (Nat.le_of_ble_eq_true rfl) (fun _ => trivial) ?_
  refine z_sub (lv2 := [(0, .ref (b0 + x0)), (1, .int x1), (2, .int x2)]) [0, 1, 2] rfl ?_
  refine z_guard (fun _ => ?_)
  refine z_iload_n 1 1 dX1_row_0 rfl rfl ?_
  refine z_if_lt 23 4 dX1_row_1 (by decide) rfl (fun c1 => ?_) (fun c1 => ?_)
  · exact z_sub [0, 1, 2] rfl (BX1_row_23 b0 x0 x1 x2 h )
  · refine z_iload_n 5 1 dX1_row_4 rfl rfl ?_
    refine z_bipush (nI 8) 7 zkb_8 dX1_row_5 rfl ?_
    refine z_icmp_ge 23 10 dX1_row_7 (by decide) rfl (fun c2 => ?_) (fun c2 => ?_)
    · exact z_sub [0, 1, 2] rfl (BX1_row_23 b0 x0 x1 x2 h )
    · refine z_iload_n 11 2 dX1_row_10 rfl rfl ?_
      refine z_if_lt 23 14 dX1_row_11 (by decide) rfl (fun c3 => ?_) (fun c3 => ?_)
      · exact z_sub [0, 1, 2] rfl (BX1_row_23 b0 x0 x1 x2 h )
      · refine z_iload_n 15 2 dX1_row_14 rfl rfl ?_
        refine z_iconst (nI 4) 16 zki_4 dX1_row_15 rfl ?_
        refine z_icmp_ge 23 19 dX1_row_16 (by decide) rfl (fun c4 => ?_) (fun c4 => ?_)
        · exact z_sub [0, 1, 2] rfl (BX1_row_23 b0 x0 x1 x2 h )
        · refine z_iconst (nI 1) 20 zki_1 dX1_row_19 rfl ?_
          refine z_goto 24 dX1_row_20 (by decide) ?_
          exact z_sub [0, 1, 2] rfl (BX1_row_24 b0 x0 x1 x2 (nI 1) h )
-- X1_has
def bX1_has_25 (t0 : Int32) (h : ZH) : Option (Int32 × ZH) :=
  if t0 = 0 ∨ t0 = 1 then some (t0, h) else none
theorem BX1_has_25 (b0 : Nat) (t0 : Int32) (h : ZH) : Zr zi b0 YX1_has 2 25 [] [.int t0] h (bX1_has_25 t0 h) := by
  unfold bX1_has_25
  exact z_zreturn dX1_has_25 rfl
def bX1_has_24 (h : ZH) : Option (Int32 × ZH) :=
  bX1_has_25 (nI 0) h
theorem BX1_has_24 (b0 : Nat) (h : ZH) : Zr zi b0 YX1_has 2 24 [] [] h (bX1_has_24 h) := by
  unfold bX1_has_24
  refine z_iconst (nI 0) 25 zki_0 dX1_has_24 rfl ?_
  exact z_sub [] rfl (BX1_has_25 b0 (nI 0) h )
def fX1_has (x0 : Nat) (x1 : Int32) (x2 : Int32) (x3 : Int32) (h : ZH) : Option (Int32 × ZH) :=
  if x0 < zn h ∧ zK h x0 = 1 then ((fX10_isVertex x3 h).bind fun q1 =>
  if q1.1 = 0 then (bX1_has_24 q1.2) else
  ((fX1_row x0 x1 x2 q1.2).bind fun q3 =>
  if ((jshr q3.1 x3) &&& (nI 1)) = 0 then (bX1_has_24 q3.2) else
  (bX1_has_25 (nI 1) q3.2))) else none
theorem kX1_has {x0 : Nat} {x1 : Int32} {x2 : Int32} {x3 : Int32} {h : ZH} {x : Int32 × ZH} (e : fX1_has x0 x1 x2 x3 h = some x) : x0 < zn h ∧ zK h x0 = 1 := by
  unfold fX1_has at e
  exact zguard e
theorem mX1_has (b0 : Nat) (x0 : Nat) (x1 : Int32) (x2 : Int32) (x3 : Int32) (h : ZH) : ZM zi b0 YX1_has 2 [.ref (b0 + x0), .int x1, .int x2, .int x3] h (fX1_has x0 x1 x2 x3 h) := by
  unfold fX1_has
  refine ZM.of (by decide) rfl (Nat.le_of_ble_eq_true rfl) (fun _ => trivial) ?_
  refine z_sub (lv2 := [(0, .ref (b0 + x0)), (1, .int x1), (2, .int x2), (3, .int x3)]) [0, 1, 2, 3] rfl ?_
  refine z_guard (fun _ => ?_)
  refine z_iload_n 1 3 dX1_has_0 rfl rfl ?_
  refine z_callSNi 4 (mX10_isVertex b0 x3 h) zyX10_isVertex rfl (List.mem_of_getElem? (i := 12) rfl) wt_yX10_isVertex (Nat.le_of_ble_eq_true rfl) rfl (Nat.le_of_ble_eq_true rfl) dX1_has_1 rfl (fun q1 => ?_)
  refine z_if_eq 24 7 dX1_has_4 (by decide) rfl (fun c2 => ?_) (fun c2 => ?_)
  · exact z_sub [] rfl (BX1_has_24 b0 q1.2 )
  · refine z_aload_n 8 0 dX1_has_7 rfl rfl ?_
    refine z_iload_n 9 1 dX1_has_8 rfl rfl ?_
    refine z_iload_n 10 2 dX1_has_9 rfl rfl ?_
    refine z_callVi 13 (mX1_row b0 x0 x1 x2 q1.2) zyX1_row rfl w_351 (ci := 1) rfl (Nat.le_of_ble_eq_true rfl) (fun _ e9 => kX1_row e9) wm_yX1_row ws_yX1_row (Nat.le_of_ble_eq_true rfl) rfl (Nat.le_of_ble_eq_true rfl) dX1_has_10 rfl (fun q3 => ?_)
    refine z_iload_n 14 3 dX1_has_13 rfl rfl ?_
    refine z_ishr 15 dX1_has_14 rfl ?_
    refine z_iconst (nI 1) 16 zki_1 dX1_has_15 rfl ?_
    refine z_iand 17 dX1_has_16 rfl ?_
    refine z_if_eq 24 20 dX1_has_17 (by decide) rfl (fun c4 => ?_) (fun c4 => ?_)
    · exact z_sub [] rfl (BX1_has_24 b0 q3.2 )
    · refine z_iconst (nI 1) 21 zki_1 dX1_has_20 rfl ?_
      refine z_goto 25 dX1_has_21 (by decide) ?_
      exact z_sub [] rfl (BX1_has_25 b0 (nI 1) q3.2 )
